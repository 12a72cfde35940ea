/-! WHAT EACH METHOD COMES TO (gw.py) -/
def B_LawReader_readCondition_360_7 (p1 : Int32) (Q : Int32 → MM → Prop) (N : Nat) (ih : Int32 → Int32 → Int32 → MM → Prop) (v2 : Int32) (v3 : Int32) (v4 : Int32) (M : MM) : Prop :=
  ((v4 < 400 →
    W_LawReader_readAtom_361 p1 N M (fun r2 M3 =>
      ((r2 = 0 →
        Q 0 M3) ∧
       (¬ r2 = 0 →
        ((v2 = 0 →
          (((V_Text_kind  M3) = 4 →
            W_Text_goOn  N M3 (fun M9 =>
              ih 1 v3 (v4 + 1) M9)) ∧
           (¬ (V_Text_kind  M3) = 4 →
            ((v3 = 0 →
              (((V_Text_kind  M3) = 3 →
                W_Text_goOn  N M3 (fun M15 =>
                  ih 0 1 (v4 + 1) M15)) ∧
               (¬ (V_Text_kind  M3) = 3 →
                Q 1 M3))) ∧
             (¬ v3 = 0 →
              W_Law_addStep 13 (-4) N M3 (fun M18 =>
                (((V_Text_kind  M18) = 3 →
                  W_Text_goOn  N M18 (fun M22 =>
                    ih 0 1 (v4 + 1) M22)) ∧
                 (¬ (V_Text_kind  M18) = 3 →
                  Q 1 M18)))))))) ∧
         (¬ v2 = 0 →
          W_Law_addStep 13 (-3) N M3 (fun M25 =>
            (((V_Text_kind  M25) = 4 →
              W_Text_goOn  N M25 (fun M29 =>
                ih 1 v3 (v4 + 1) M29)) ∧
             (¬ (V_Text_kind  M25) = 4 →
              ((v3 = 0 →
                (((V_Text_kind  M25) = 3 →
                  W_Text_goOn  N M25 (fun M35 =>
                    ih 0 1 (v4 + 1) M35)) ∧
                 (¬ (V_Text_kind  M25) = 3 →
                  Q 1 M25))) ∧
               (¬ v3 = 0 →
                W_Law_addStep 13 (-4) N M25 (fun M38 =>
                  (((V_Text_kind  M38) = 3 →
                    W_Text_goOn  N M38 (fun M42 =>
                      ih 0 1 (v4 + 1) M42)) ∧
                   (¬ (V_Text_kind  M38) = 3 →
                    Q 1 M38)))))))))))))) ∧
   (¬ v4 < 400 →
    Q 0 M))
def W_LawReader_readCondition_360_7 (p1 : Int32) (Q : Int32 → MM → Prop) : Nat → Int32 → Int32 → Int32 → MM → Prop
  | 0, _, _, _, _ => True
  | N + 1, v2, v3, v4, M => B_LawReader_readCondition_360_7 p1 Q N (W_LawReader_readCondition_360_7 p1 Q N) v2 v3 v4 M
theorem I_LawReader_readCondition_360_7 (p1 : Int32) (Q : Int32 → MM → Prop) (inv : Int32 → Int32 → Int32 → MM → Prop) (hs : ∀ (N : Nat) (ih : Int32 → Int32 → Int32 → MM → Prop) (v2 : Int32) (v3 : Int32) (v4 : Int32) (M : MM), (∀ (v2 : Int32) (v3 : Int32) (v4 : Int32) (M : MM), inv v2 v3 v4 M → ih v2 v3 v4 M) → inv v2 v3 v4 M → B_LawReader_readCondition_360_7 p1 Q N ih v2 v3 v4 M) : ∀ (N : Nat) (v2 : Int32) (v3 : Int32) (v4 : Int32) (M : MM), inv v2 v3 v4 M → W_LawReader_readCondition_360_7 p1 Q N v2 v3 v4 M := by
  intro N
  induction N with
  | zero => intros; trivial
  | succ N IH =>
    intro v2 v3 v4 M h
    exact hs N _ v2 v3 v4 M IH h
theorem q_LawReader_readCondition_360_7 {X : Option (List AI)} {N0 : Nat} {p1 : Int32} {Q : Int32 → MM → Prop}   : ∀ (N : Nat), N ≤ N0 → ∀ (v2 : Int32) (v3 : Int32) (v4 : Int32) (M : MM), W_LawReader_readCondition_360_7 p1 Q N v2 v3 v4 M → pM X N 360 7 [(0, .inr (.inl (some 42))), (1, .inl (.inl p1)), (2, .inl (.inl v2)), (3, .inl (.inl v3)), (4, .inl (.inl v4))] [] M (Ri Q) := by
  intro N
  induction N with
  | zero => intros; exact pM_zero
  | succ N IH =>
    intro hN v2 v3 v4 M h
    replace hN := Nat.le_of_succ_le hN
    replace h : B_LawReader_readCondition_360_7 p1 Q N (W_LawReader_readCondition_360_7 p1 Q N) v2 v3 v4 M := h
    refine pM_s (pMs_il rfl rfl ?_)
    refine pM_si rfl ks_400 ?_
    refine pM_cge rfl rfl (fun h1 => ?_) (fun h1 => ?_)
    · replace h := h.2 h1
      refine pM_ic rfl ki_0 ?_
      exact pM_ri rfl (⟨_, rfl, h⟩)
    · replace h := h.1 h1
      refine pM_aln rfl rfl rfl ?_
      refine pM_iln rfl rfl ?_
      refine pM_qRi (as := [.inr (.inl (some 42)), .inl (.inl p1)]) (T := []) rfl rfl (fun C hC => cl_v hC rfl rfl rfl rfl) rfl (q_LawReader_readAtom_361  h) (fun r2 M3 h => ?_)
      refine pM_zne rfl rfl (fun h4 => ?_) (fun h4 => ?_)
      · replace h := h.2 h4
        refine pM_iln rfl rfl ?_
        refine pM_zeq rfl rfl (fun h5 => ?_) (fun h5 => ?_)
        · replace h := h.1 h5
          refine pM_aln rfl rfl rfl ?_
          refine pM_gr rfl rfl rfl rfl ?_
          refine pM_qVi (as := [.inr (.inl (some 3))]) (T := []) rfl rfl (fun C hC => cl_v hC rfl rfl rfl rfl) rfl (q_Text_kind ) ?_
          refine pM_ic rfl ki_4 ?_
          refine pM_cne rfl rfl (fun h6 => ?_) (fun h6 => ?_)
          · replace h := h.2 h6
            refine pM_ic rfl ki_0 ?_
            refine pM_isn rfl rfl ?_
            refine pM_iln rfl rfl ?_
            refine pM_zne rfl rfl (fun h10 => ?_) (fun h10 => ?_)
            · exact absurd (by decide) h10
            · refine pM_iln rfl rfl ?_
              refine pM_zeq rfl rfl (fun h11 => ?_) (fun h11 => ?_)
              · replace h := h.1 h11
                refine pM_aln rfl rfl rfl ?_
                refine pM_gr rfl rfl rfl rfl ?_
                refine pM_qVi (as := [.inr (.inl (some 3))]) (T := []) rfl rfl (fun C hC => cl_v hC rfl rfl rfl rfl) rfl (q_Text_kind ) ?_
                refine pM_ic rfl ki_3 ?_
                refine pM_cne rfl rfl (fun h12 => ?_) (fun h12 => ?_)
                · replace h := h.2 h12
                  refine pM_ic rfl ki_0 ?_
                  refine pM_isn rfl rfl ?_
                  refine pM_iln rfl rfl ?_
                  refine pM_zne rfl rfl (fun h16 => ?_) (fun h16 => ?_)
                  · exact absurd (by decide) h16
                  · refine pM_ic rfl ki_1 ?_
                    exact pM_ri rfl (⟨_, rfl, h⟩)
                · replace h := h.1 h12
                  refine pM_ic rfl ki_1 ?_
                  refine pM_go rfl rfl ?_
                  refine pM_isn rfl rfl ?_
                  refine pM_iln rfl rfl ?_
                  refine pM_zne rfl rfl (fun h13 => ?_) (fun h13 => ?_)
                  · refine pM_aln rfl rfl rfl ?_
                    refine pM_gr rfl rfl rfl rfl ?_
                    refine pM_qRu (as := [.inr (.inl (some 3))]) (T := []) rfl rfl (fun C hC => cl_v hC rfl rfl rfl rfl) rfl (q_Text_goOn  h) (fun M15 h => ?_)
                    refine pM_ii rfl rfl rfl ki_1 ?_
                    refine pM_go rfl rfl ?_
                    refine pM_w (F2 := [(0, .inr (.inl (some 42))), (1, .inl (.inl p1)), (2, .inl (.inl 0)), (3, .inl (.inl 1)), (4, .inl (.inl (v4 + 1)))]) (fun L hL => lo_cons (lo_lk hL rfl) (lo_cons (lo_lk hL rfl) (lo_cons (lo_lk hL rfl) (lo_cons (lo_lk hL rfl) (lo_cons (lo_lk hL rfl) lo_nil))))) ?_
                    exact IH hN 0 1 (v4 + 1) M15 h
                  · exact absurd h13 (by decide)
              · replace h := h.2 h11
                refine pM_aln rfl rfl rfl ?_
                refine pM_gr rfl rfl rfl rfl ?_
                refine pM_bi rfl kb_m4 ?_
                refine pM_qRu (as := [.inr (.inl (some 13)), .inl (.inl (-4))]) (T := []) rfl rfl (fun C hC => cl_v hC rfl rfl rfl rfl) rfl (q_Law_addStep isK_13 h) (fun M18 h => ?_)
                refine pM_aln rfl rfl rfl ?_
                refine pM_gr rfl rfl rfl rfl ?_
                refine pM_qVi (as := [.inr (.inl (some 3))]) (T := []) rfl rfl (fun C hC => cl_v hC rfl rfl rfl rfl) rfl (q_Text_kind ) ?_
                refine pM_ic rfl ki_3 ?_
                refine pM_cne rfl rfl (fun h19 => ?_) (fun h19 => ?_)
                · replace h := h.2 h19
                  refine pM_ic rfl ki_0 ?_
                  refine pM_isn rfl rfl ?_
                  refine pM_iln rfl rfl ?_
                  refine pM_zne rfl rfl (fun h23 => ?_) (fun h23 => ?_)
                  · exact absurd (by decide) h23
                  · refine pM_ic rfl ki_1 ?_
                    exact pM_ri rfl (⟨_, rfl, h⟩)
                · replace h := h.1 h19
                  refine pM_ic rfl ki_1 ?_
                  refine pM_go rfl rfl ?_
                  refine pM_isn rfl rfl ?_
                  refine pM_iln rfl rfl ?_
                  refine pM_zne rfl rfl (fun h20 => ?_) (fun h20 => ?_)
                  · refine pM_aln rfl rfl rfl ?_
                    refine pM_gr rfl rfl rfl rfl ?_
                    refine pM_qRu (as := [.inr (.inl (some 3))]) (T := []) rfl rfl (fun C hC => cl_v hC rfl rfl rfl rfl) rfl (q_Text_goOn  h) (fun M22 h => ?_)
                    refine pM_ii rfl rfl rfl ki_1 ?_
                    refine pM_go rfl rfl ?_
                    refine pM_w (F2 := [(0, .inr (.inl (some 42))), (1, .inl (.inl p1)), (2, .inl (.inl 0)), (3, .inl (.inl 1)), (4, .inl (.inl (v4 + 1)))]) (fun L hL => lo_cons (lo_lk hL rfl) (lo_cons (lo_lk hL rfl) (lo_cons (lo_lk hL rfl) (lo_cons (lo_lk hL rfl) (lo_cons (lo_lk hL rfl) lo_nil))))) ?_
                    exact IH hN 0 1 (v4 + 1) M22 h
                  · exact absurd h20 (by decide)
          · replace h := h.1 h6
            refine pM_ic rfl ki_1 ?_
            refine pM_go rfl rfl ?_
            refine pM_isn rfl rfl ?_
            refine pM_iln rfl rfl ?_
            refine pM_zne rfl rfl (fun h7 => ?_) (fun h7 => ?_)
            · refine pM_aln rfl rfl rfl ?_
              refine pM_gr rfl rfl rfl rfl ?_
              refine pM_qRu (as := [.inr (.inl (some 3))]) (T := []) rfl rfl (fun C hC => cl_v hC rfl rfl rfl rfl) rfl (q_Text_goOn  h) (fun M9 h => ?_)
              refine pM_ii rfl rfl rfl ki_1 ?_
              refine pM_go rfl rfl ?_
              refine pM_w (F2 := [(0, .inr (.inl (some 42))), (1, .inl (.inl p1)), (2, .inl (.inl 1)), (3, .inl (.inl v3)), (4, .inl (.inl (v4 + 1)))]) (fun L hL => lo_cons (lo_lk hL rfl) (lo_cons (lo_lk hL rfl) (lo_cons (lo_lk hL rfl) (lo_cons (lo_lk hL rfl) (lo_cons (lo_lk hL rfl) lo_nil))))) ?_
              exact IH hN 1 v3 (v4 + 1) M9 h
            · exact absurd h7 (by decide)
        · replace h := h.2 h5
          refine pM_aln rfl rfl rfl ?_
          refine pM_gr rfl rfl rfl rfl ?_
          refine pM_bi rfl kb_m3 ?_
          refine pM_qRu (as := [.inr (.inl (some 13)), .inl (.inl (-3))]) (T := []) rfl rfl (fun C hC => cl_v hC rfl rfl rfl rfl) rfl (q_Law_addStep isK_13 h) (fun M25 h => ?_)
          refine pM_aln rfl rfl rfl ?_
          refine pM_gr rfl rfl rfl rfl ?_
          refine pM_qVi (as := [.inr (.inl (some 3))]) (T := []) rfl rfl (fun C hC => cl_v hC rfl rfl rfl rfl) rfl (q_Text_kind ) ?_
          refine pM_ic rfl ki_4 ?_
          refine pM_cne rfl rfl (fun h26 => ?_) (fun h26 => ?_)
          · replace h := h.2 h26
            refine pM_ic rfl ki_0 ?_
            refine pM_isn rfl rfl ?_
            refine pM_iln rfl rfl ?_
            refine pM_zne rfl rfl (fun h30 => ?_) (fun h30 => ?_)
            · exact absurd (by decide) h30
            · refine pM_iln rfl rfl ?_
              refine pM_zeq rfl rfl (fun h31 => ?_) (fun h31 => ?_)
              · replace h := h.1 h31
                refine pM_aln rfl rfl rfl ?_
                refine pM_gr rfl rfl rfl rfl ?_
                refine pM_qVi (as := [.inr (.inl (some 3))]) (T := []) rfl rfl (fun C hC => cl_v hC rfl rfl rfl rfl) rfl (q_Text_kind ) ?_
                refine pM_ic rfl ki_3 ?_
                refine pM_cne rfl rfl (fun h32 => ?_) (fun h32 => ?_)
                · replace h := h.2 h32
                  refine pM_ic rfl ki_0 ?_
                  refine pM_isn rfl rfl ?_
                  refine pM_iln rfl rfl ?_
                  refine pM_zne rfl rfl (fun h36 => ?_) (fun h36 => ?_)
                  · exact absurd (by decide) h36
                  · refine pM_ic rfl ki_1 ?_
                    exact pM_ri rfl (⟨_, rfl, h⟩)
                · replace h := h.1 h32
                  refine pM_ic rfl ki_1 ?_
                  refine pM_go rfl rfl ?_
                  refine pM_isn rfl rfl ?_
                  refine pM_iln rfl rfl ?_
                  refine pM_zne rfl rfl (fun h33 => ?_) (fun h33 => ?_)
                  · refine pM_aln rfl rfl rfl ?_
                    refine pM_gr rfl rfl rfl rfl ?_
                    refine pM_qRu (as := [.inr (.inl (some 3))]) (T := []) rfl rfl (fun C hC => cl_v hC rfl rfl rfl rfl) rfl (q_Text_goOn  h) (fun M35 h => ?_)
                    refine pM_ii rfl rfl rfl ki_1 ?_
                    refine pM_go rfl rfl ?_
                    refine pM_w (F2 := [(0, .inr (.inl (some 42))), (1, .inl (.inl p1)), (2, .inl (.inl 0)), (3, .inl (.inl 1)), (4, .inl (.inl (v4 + 1)))]) (fun L hL => lo_cons (lo_lk hL rfl) (lo_cons (lo_lk hL rfl) (lo_cons (lo_lk hL rfl) (lo_cons (lo_lk hL rfl) (lo_cons (lo_lk hL rfl) lo_nil))))) ?_
                    exact IH hN 0 1 (v4 + 1) M35 h
                  · exact absurd h33 (by decide)
              · replace h := h.2 h31
                refine pM_aln rfl rfl rfl ?_
                refine pM_gr rfl rfl rfl rfl ?_
                refine pM_bi rfl kb_m4 ?_
                refine pM_qRu (as := [.inr (.inl (some 13)), .inl (.inl (-4))]) (T := []) rfl rfl (fun C hC => cl_v hC rfl rfl rfl rfl) rfl (q_Law_addStep isK_13 h) (fun M38 h => ?_)
                refine pM_aln rfl rfl rfl ?_
                refine pM_gr rfl rfl rfl rfl ?_
                refine pM_qVi (as := [.inr (.inl (some 3))]) (T := []) rfl rfl (fun C hC => cl_v hC rfl rfl rfl rfl) rfl (q_Text_kind ) ?_
                refine pM_ic rfl ki_3 ?_
                refine pM_cne rfl rfl (fun h39 => ?_) (fun h39 => ?_)
                · replace h := h.2 h39
                  refine pM_ic rfl ki_0 ?_
                  refine pM_isn rfl rfl ?_
                  refine pM_iln rfl rfl ?_
                  refine pM_zne rfl rfl (fun h43 => ?_) (fun h43 => ?_)
                  · exact absurd (by decide) h43
                  · refine pM_ic rfl ki_1 ?_
                    exact pM_ri rfl (⟨_, rfl, h⟩)
                · replace h := h.1 h39
                  refine pM_ic rfl ki_1 ?_
                  refine pM_go rfl rfl ?_
                  refine pM_isn rfl rfl ?_
                  refine pM_iln rfl rfl ?_
                  refine pM_zne rfl rfl (fun h40 => ?_) (fun h40 => ?_)
                  · refine pM_aln rfl rfl rfl ?_
                    refine pM_gr rfl rfl rfl rfl ?_
                    refine pM_qRu (as := [.inr (.inl (some 3))]) (T := []) rfl rfl (fun C hC => cl_v hC rfl rfl rfl rfl) rfl (q_Text_goOn  h) (fun M42 h => ?_)
                    refine pM_ii rfl rfl rfl ki_1 ?_
                    refine pM_go rfl rfl ?_
                    refine pM_w (F2 := [(0, .inr (.inl (some 42))), (1, .inl (.inl p1)), (2, .inl (.inl 0)), (3, .inl (.inl 1)), (4, .inl (.inl (v4 + 1)))]) (fun L hL => lo_cons (lo_lk hL rfl) (lo_cons (lo_lk hL rfl) (lo_cons (lo_lk hL rfl) (lo_cons (lo_lk hL rfl) (lo_cons (lo_lk hL rfl) lo_nil))))) ?_
                    exact IH hN 0 1 (v4 + 1) M42 h
                  · exact absurd h40 (by decide)
          · replace h := h.1 h26
            refine pM_ic rfl ki_1 ?_
            refine pM_go rfl rfl ?_
            refine pM_isn rfl rfl ?_
            refine pM_iln rfl rfl ?_
            refine pM_zne rfl rfl (fun h27 => ?_) (fun h27 => ?_)
            · refine pM_aln rfl rfl rfl ?_
              refine pM_gr rfl rfl rfl rfl ?_
              refine pM_qRu (as := [.inr (.inl (some 3))]) (T := []) rfl rfl (fun C hC => cl_v hC rfl rfl rfl rfl) rfl (q_Text_goOn  h) (fun M29 h => ?_)
              refine pM_ii rfl rfl rfl ki_1 ?_
              refine pM_go rfl rfl ?_
              refine pM_w (F2 := [(0, .inr (.inl (some 42))), (1, .inl (.inl p1)), (2, .inl (.inl 1)), (3, .inl (.inl v3)), (4, .inl (.inl (v4 + 1)))]) (fun L hL => lo_cons (lo_lk hL rfl) (lo_cons (lo_lk hL rfl) (lo_cons (lo_lk hL rfl) (lo_cons (lo_lk hL rfl) (lo_cons (lo_lk hL rfl) lo_nil))))) ?_
              exact IH hN 1 v3 (v4 + 1) M29 h
            · exact absurd h27 (by decide)
      · replace h := h.1 h4
        refine pM_ic rfl ki_0 ?_
        exact pM_ri rfl (⟨_, rfl, h⟩)
/-- 360: EarCode$LawReader.readCondition(I)Z -/
def W_LawReader_readCondition_360 (p1 : Int32) (N : Nat) (M : MM) (Q : Int32 → MM → Prop) : Prop :=
  W_LawReader_readCondition_360_7 p1 Q N 0 0 0 M
theorem q_LawReader_readCondition_360 {X : Option (List AI)} {N : Nat} {M : MM} {p1 : Int32} {Q : Int32 → MM → Prop}  (h : W_LawReader_readCondition_360 p1 N M Q) : pM X N 360 0 (ea_ar 0 [.inr (.inl (some 42)), .inl (.inl p1)]) [] M (Ri Q) := by
  refine pM_w (F2 := [(0, .inr (.inl (some 42))), (1, .inl (.inl p1))]) (fun L hL => lo_cons (lo_lk hL rfl) (lo_cons (lo_lk hL rfl) lo_nil)) ?_
  refine pM_ic rfl ki_0 ?_
  refine pM_isn rfl rfl ?_
  refine pM_ic rfl ki_0 ?_
  refine pM_isn rfl rfl ?_
  refine pM_ic rfl ki_0 ?_
  refine pM_is rfl rfl ?_
  refine pM_w (F2 := [(0, .inr (.inl (some 42))), (1, .inl (.inl p1)), (2, .inl (.inl 0)), (3, .inl (.inl 0)), (4, .inl (.inl 0))]) (fun L hL => lo_cons (lo_lk hL rfl) (lo_cons (lo_lk hL rfl) (lo_cons (lo_lk hL rfl) (lo_cons (lo_lk hL rfl) (lo_cons (lo_lk hL rfl) lo_nil))))) ?_
  refine q_LawReader_readCondition_360_7   N (Nat.le_refl N) 0 0 0 M h
/-- 359: EarCode$LawReader.readAtom(I)Z -/
def W_LawReader_readAtom_359 (p1 : Int32) (N : Nat) (M : MM) (Q : Int32 → MM → Prop) : Prop :=
  (((V_Text_kind  M) = 6 →
    W_Text_goOn  N M (fun M3 =>
      W_Law_addStep 13 (-1) N M3 (fun M5 =>
        Q 1 M5))) ∧
   (¬ (V_Text_kind  M) = 6 →
    (((V_Text_kind  M) = 5 →
      ((p1 < 6 →
        W_Text_goOn  N M (fun M9 =>
          (((V_Text_kind  M) = 5 →
            W_LawReader_readAtom_361 (p1 + 1) N M9 (fun r11 M12 =>
              ((r11 = 0 →
                Q 0 M12) ∧
               (¬ r11 = 0 →
                W_Law_addStep 13 (-2) N M12 (fun M15 =>
                  Q 1 M15))))) ∧
           (¬ (V_Text_kind  M) = 5 →
            W_LawReader_readCondition_360 (p1 + 1) N M9 (fun r16 M17 =>
              ((r16 = 0 →
                Q 0 M17) ∧
               (¬ r16 = 0 →
                (((V_Text_kind  M17) = 41 →
                  W_Text_goOn  N M17 (fun M21 =>
                    Q 1 M21)) ∧
                 (¬ (V_Text_kind  M17) = 41 →
                  Q 0 M17))))))))) ∧
       (¬ p1 < 6 →
        Q 0 M))) ∧
     (¬ (V_Text_kind  M) = 5 →
      (((V_Text_kind  M) = 40 →
        ((p1 < 6 →
          W_Text_goOn  N M (fun M25 =>
            (((V_Text_kind  M) = 5 →
              W_LawReader_readAtom_361 (p1 + 1) N M25 (fun r27 M28 =>
                ((r27 = 0 →
                  Q 0 M28) ∧
                 (¬ r27 = 0 →
                  W_Law_addStep 13 (-2) N M28 (fun M31 =>
                    Q 1 M31))))) ∧
             (¬ (V_Text_kind  M) = 5 →
              W_LawReader_readCondition_360 (p1 + 1) N M25 (fun r32 M33 =>
                ((r32 = 0 →
                  Q 0 M33) ∧
                 (¬ r32 = 0 →
                  (((V_Text_kind  M33) = 41 →
                    W_Text_goOn  N M33 (fun M37 =>
                      Q 1 M37)) ∧
                   (¬ (V_Text_kind  M33) = 41 →
                    Q 0 M33))))))))) ∧
         (¬ p1 < 6 →
          Q 0 M))) ∧
       (¬ (V_Text_kind  M) = 40 →
        W_LawReader_readComparison  N M (fun r38 M39 =>
          Q r38 M39)))))))
theorem q_LawReader_readAtom_359 {X : Option (List AI)} {N : Nat} {M : MM} {p1 : Int32} {Q : Int32 → MM → Prop}  (h : W_LawReader_readAtom_359 p1 N M Q) : pM X N 359 0 (ea_ar 0 [.inr (.inl (some 42)), .inl (.inl p1)]) [] M (Ri Q) := by
  refine pM_w (F2 := [(0, .inr (.inl (some 42))), (1, .inl (.inl p1))]) (fun L hL => lo_cons (lo_lk hL rfl) (lo_cons (lo_lk hL rfl) lo_nil)) ?_
  refine pM_aln rfl rfl rfl ?_
  refine pM_gr rfl rfl rfl rfl ?_
  refine pM_qVi (as := [.inr (.inl (some 3))]) (T := []) rfl rfl (fun C hC => cl_v hC rfl rfl rfl rfl) rfl (q_Text_kind ) ?_
  refine pM_isn rfl rfl ?_
  refine pM_iln rfl rfl ?_
  refine pM_bi rfl kb_6 ?_
  refine pM_cne rfl rfl (fun h1 => ?_) (fun h1 => ?_)
  · replace h := h.2 h1
    refine pM_iln rfl rfl ?_
    refine pM_ic rfl ki_5 ?_
    refine pM_ceq rfl rfl (fun h6 => ?_) (fun h6 => ?_)
    · replace h := h.1 h6
      refine pM_iln rfl rfl ?_
      refine pM_bi rfl kb_6 ?_
      refine pM_clt rfl rfl (fun h7 => ?_) (fun h7 => ?_)
      · replace h := h.1 h7
        refine pM_aln rfl rfl rfl ?_
        refine pM_gr rfl rfl rfl rfl ?_
        refine pM_qRu (as := [.inr (.inl (some 3))]) (T := []) rfl rfl (fun C hC => cl_v hC rfl rfl rfl rfl) rfl (q_Text_goOn  h) (fun M9 h => ?_)
        refine pM_iln rfl rfl ?_
        refine pM_ic rfl ki_5 ?_
        refine pM_cne rfl rfl (fun h10 => ?_) (fun h10 => ?_)
        · replace h := h.2 h10
          refine pM_aln rfl rfl rfl ?_
          refine pM_iln rfl rfl ?_
          refine pM_ic rfl ki_1 ?_
          refine pM_add rfl ?_
          refine pM_qRi (as := [.inr (.inl (some 42)), .inl (.inl (p1 + 1))]) (T := []) rfl rfl (fun C hC => cl_v hC rfl rfl rfl rfl) rfl (q_LawReader_readCondition_360  h) (fun r16 M17 h => ?_)
          refine pM_zeq rfl rfl (fun h18 => ?_) (fun h18 => ?_)
          · replace h := h.1 h18
            refine pM_ic rfl ki_0 ?_
            exact pM_ri rfl (⟨_, rfl, h⟩)
          · replace h := h.2 h18
            refine pM_aln rfl rfl rfl ?_
            refine pM_gr rfl rfl rfl rfl ?_
            refine pM_qVi (as := [.inr (.inl (some 3))]) (T := []) rfl rfl (fun C hC => cl_v hC rfl rfl rfl rfl) rfl (q_Text_kind ) ?_
            refine pM_bi rfl kb_41 ?_
            refine pM_ceq rfl rfl (fun h19 => ?_) (fun h19 => ?_)
            · replace h := h.1 h19
              refine pM_aln rfl rfl rfl ?_
              refine pM_gr rfl rfl rfl rfl ?_
              refine pM_qRu (as := [.inr (.inl (some 3))]) (T := []) rfl rfl (fun C hC => cl_v hC rfl rfl rfl rfl) rfl (q_Text_goOn  h) (fun M21 h => ?_)
              refine pM_ic rfl ki_1 ?_
              exact pM_ri rfl (⟨_, rfl, h⟩)
            · replace h := h.2 h19
              refine pM_ic rfl ki_0 ?_
              exact pM_ri rfl (⟨_, rfl, h⟩)
        · replace h := h.1 h10
          refine pM_aln rfl rfl rfl ?_
          refine pM_iln rfl rfl ?_
          refine pM_ic rfl ki_1 ?_
          refine pM_add rfl ?_
          refine pM_qRi (as := [.inr (.inl (some 42)), .inl (.inl (p1 + 1))]) (T := []) rfl rfl (fun C hC => cl_v hC rfl rfl rfl rfl) rfl (q_LawReader_readAtom_361  h) (fun r11 M12 h => ?_)
          refine pM_zne rfl rfl (fun h13 => ?_) (fun h13 => ?_)
          · replace h := h.2 h13
            refine pM_aln rfl rfl rfl ?_
            refine pM_gr rfl rfl rfl rfl ?_
            refine pM_bi rfl kb_m2 ?_
            refine pM_qRu (as := [.inr (.inl (some 13)), .inl (.inl (-2))]) (T := []) rfl rfl (fun C hC => cl_v hC rfl rfl rfl rfl) rfl (q_Law_addStep isK_13 h) (fun M15 h => ?_)
            refine pM_ic rfl ki_1 ?_
            exact pM_ri rfl (⟨_, rfl, h⟩)
          · replace h := h.1 h13
            refine pM_ic rfl ki_0 ?_
            exact pM_ri rfl (⟨_, rfl, h⟩)
      · replace h := h.2 h7
        refine pM_ic rfl ki_0 ?_
        exact pM_ri rfl (⟨_, rfl, h⟩)
    · replace h := h.2 h6
      refine pM_iln rfl rfl ?_
      refine pM_bi rfl kb_40 ?_
      refine pM_ceq rfl rfl (fun h22 => ?_) (fun h22 => ?_)
      · replace h := h.1 h22
        refine pM_iln rfl rfl ?_
        refine pM_bi rfl kb_6 ?_
        refine pM_clt rfl rfl (fun h23 => ?_) (fun h23 => ?_)
        · replace h := h.1 h23
          refine pM_aln rfl rfl rfl ?_
          refine pM_gr rfl rfl rfl rfl ?_
          refine pM_qRu (as := [.inr (.inl (some 3))]) (T := []) rfl rfl (fun C hC => cl_v hC rfl rfl rfl rfl) rfl (q_Text_goOn  h) (fun M25 h => ?_)
          refine pM_iln rfl rfl ?_
          refine pM_ic rfl ki_5 ?_
          refine pM_cne rfl rfl (fun h26 => ?_) (fun h26 => ?_)
          · replace h := h.2 h26
            refine pM_aln rfl rfl rfl ?_
            refine pM_iln rfl rfl ?_
            refine pM_ic rfl ki_1 ?_
            refine pM_add rfl ?_
            refine pM_qRi (as := [.inr (.inl (some 42)), .inl (.inl (p1 + 1))]) (T := []) rfl rfl (fun C hC => cl_v hC rfl rfl rfl rfl) rfl (q_LawReader_readCondition_360  h) (fun r32 M33 h => ?_)
            refine pM_zeq rfl rfl (fun h34 => ?_) (fun h34 => ?_)
            · replace h := h.1 h34
              refine pM_ic rfl ki_0 ?_
              exact pM_ri rfl (⟨_, rfl, h⟩)
            · replace h := h.2 h34
              refine pM_aln rfl rfl rfl ?_
              refine pM_gr rfl rfl rfl rfl ?_
              refine pM_qVi (as := [.inr (.inl (some 3))]) (T := []) rfl rfl (fun C hC => cl_v hC rfl rfl rfl rfl) rfl (q_Text_kind ) ?_
              refine pM_bi rfl kb_41 ?_
              refine pM_ceq rfl rfl (fun h35 => ?_) (fun h35 => ?_)
              · replace h := h.1 h35
                refine pM_aln rfl rfl rfl ?_
                refine pM_gr rfl rfl rfl rfl ?_
                refine pM_qRu (as := [.inr (.inl (some 3))]) (T := []) rfl rfl (fun C hC => cl_v hC rfl rfl rfl rfl) rfl (q_Text_goOn  h) (fun M37 h => ?_)
                refine pM_ic rfl ki_1 ?_
                exact pM_ri rfl (⟨_, rfl, h⟩)
              · replace h := h.2 h35
                refine pM_ic rfl ki_0 ?_
                exact pM_ri rfl (⟨_, rfl, h⟩)
          · replace h := h.1 h26
            refine pM_aln rfl rfl rfl ?_
            refine pM_iln rfl rfl ?_
            refine pM_ic rfl ki_1 ?_
            refine pM_add rfl ?_
            refine pM_qRi (as := [.inr (.inl (some 42)), .inl (.inl (p1 + 1))]) (T := []) rfl rfl (fun C hC => cl_v hC rfl rfl rfl rfl) rfl (q_LawReader_readAtom_361  h) (fun r27 M28 h => ?_)
            refine pM_zne rfl rfl (fun h29 => ?_) (fun h29 => ?_)
            · replace h := h.2 h29
              refine pM_aln rfl rfl rfl ?_
              refine pM_gr rfl rfl rfl rfl ?_
              refine pM_bi rfl kb_m2 ?_
              refine pM_qRu (as := [.inr (.inl (some 13)), .inl (.inl (-2))]) (T := []) rfl rfl (fun C hC => cl_v hC rfl rfl rfl rfl) rfl (q_Law_addStep isK_13 h) (fun M31 h => ?_)
              refine pM_ic rfl ki_1 ?_
              exact pM_ri rfl (⟨_, rfl, h⟩)
            · replace h := h.1 h29
              refine pM_ic rfl ki_0 ?_
              exact pM_ri rfl (⟨_, rfl, h⟩)
        · replace h := h.2 h23
          refine pM_ic rfl ki_0 ?_
          exact pM_ri rfl (⟨_, rfl, h⟩)
      · replace h := h.2 h22
        refine pM_aln rfl rfl rfl ?_
        refine pM_qRi (as := [.inr (.inl (some 42))]) (T := []) rfl rfl (fun C hC => cl_v hC rfl rfl rfl rfl) rfl (q_LawReader_readComparison  h) (fun r38 M39 h => ?_)
        exact pM_ri rfl (⟨_, rfl, h⟩)
  · replace h := h.1 h1
    refine pM_aln rfl rfl rfl ?_
    refine pM_gr rfl rfl rfl rfl ?_
    refine pM_qRu (as := [.inr (.inl (some 3))]) (T := []) rfl rfl (fun C hC => cl_v hC rfl rfl rfl rfl) rfl (q_Text_goOn  h) (fun M3 h => ?_)
    refine pM_aln rfl rfl rfl ?_
    refine pM_gr rfl rfl rfl rfl ?_
    refine pM_ic rfl ki_m1 ?_
    refine pM_qRu (as := [.inr (.inl (some 13)), .inl (.inl (-1))]) (T := []) rfl rfl (fun C hC => cl_v hC rfl rfl rfl rfl) rfl (q_Law_addStep isK_13 h) (fun M5 h => ?_)
    refine pM_ic rfl ki_1 ?_
    exact pM_ri rfl (⟨_, rfl, h⟩)
def B_LawReader_readCondition_358_7 (p1 : Int32) (Q : Int32 → MM → Prop) (N : Nat) (ih : Int32 → Int32 → Int32 → MM → Prop) (v2 : Int32) (v3 : Int32) (v4 : Int32) (M : MM) : Prop :=
  ((v4 < 400 →
    W_LawReader_readAtom_359 p1 N M (fun r2 M3 =>
      ((r2 = 0 →
        Q 0 M3) ∧
       (¬ r2 = 0 →
        ((v2 = 0 →
          (((V_Text_kind  M3) = 4 →
            W_Text_goOn  N M3 (fun M9 =>
              ih 1 v3 (v4 + 1) M9)) ∧
           (¬ (V_Text_kind  M3) = 4 →
            ((v3 = 0 →
              (((V_Text_kind  M3) = 3 →
                W_Text_goOn  N M3 (fun M15 =>
                  ih 0 1 (v4 + 1) M15)) ∧
               (¬ (V_Text_kind  M3) = 3 →
                Q 1 M3))) ∧
             (¬ v3 = 0 →
              W_Law_addStep 13 (-4) N M3 (fun M18 =>
                (((V_Text_kind  M18) = 3 →
                  W_Text_goOn  N M18 (fun M22 =>
                    ih 0 1 (v4 + 1) M22)) ∧
                 (¬ (V_Text_kind  M18) = 3 →
                  Q 1 M18)))))))) ∧
         (¬ v2 = 0 →
          W_Law_addStep 13 (-3) N M3 (fun M25 =>
            (((V_Text_kind  M25) = 4 →
              W_Text_goOn  N M25 (fun M29 =>
                ih 1 v3 (v4 + 1) M29)) ∧
             (¬ (V_Text_kind  M25) = 4 →
              ((v3 = 0 →
                (((V_Text_kind  M25) = 3 →
                  W_Text_goOn  N M25 (fun M35 =>
                    ih 0 1 (v4 + 1) M35)) ∧
                 (¬ (V_Text_kind  M25) = 3 →
                  Q 1 M25))) ∧
               (¬ v3 = 0 →
                W_Law_addStep 13 (-4) N M25 (fun M38 =>
                  (((V_Text_kind  M38) = 3 →
                    W_Text_goOn  N M38 (fun M42 =>
                      ih 0 1 (v4 + 1) M42)) ∧
                   (¬ (V_Text_kind  M38) = 3 →
                    Q 1 M38)))))))))))))) ∧
   (¬ v4 < 400 →
    Q 0 M))
def W_LawReader_readCondition_358_7 (p1 : Int32) (Q : Int32 → MM → Prop) : Nat → Int32 → Int32 → Int32 → MM → Prop
  | 0, _, _, _, _ => True
  | N + 1, v2, v3, v4, M => B_LawReader_readCondition_358_7 p1 Q N (W_LawReader_readCondition_358_7 p1 Q N) v2 v3 v4 M
theorem I_LawReader_readCondition_358_7 (p1 : Int32) (Q : Int32 → MM → Prop) (inv : Int32 → Int32 → Int32 → MM → Prop) (hs : ∀ (N : Nat) (ih : Int32 → Int32 → Int32 → MM → Prop) (v2 : Int32) (v3 : Int32) (v4 : Int32) (M : MM), (∀ (v2 : Int32) (v3 : Int32) (v4 : Int32) (M : MM), inv v2 v3 v4 M → ih v2 v3 v4 M) → inv v2 v3 v4 M → B_LawReader_readCondition_358_7 p1 Q N ih v2 v3 v4 M) : ∀ (N : Nat) (v2 : Int32) (v3 : Int32) (v4 : Int32) (M : MM), inv v2 v3 v4 M → W_LawReader_readCondition_358_7 p1 Q N v2 v3 v4 M := by
  intro N
  induction N with
  | zero => intros; trivial
  | succ N IH =>
    intro v2 v3 v4 M h
    exact hs N _ v2 v3 v4 M IH h
theorem q_LawReader_readCondition_358_7 {X : Option (List AI)} {N0 : Nat} {p1 : Int32} {Q : Int32 → MM → Prop}   : ∀ (N : Nat), N ≤ N0 → ∀ (v2 : Int32) (v3 : Int32) (v4 : Int32) (M : MM), W_LawReader_readCondition_358_7 p1 Q N v2 v3 v4 M → pM X N 358 7 [(0, .inr (.inl (some 42))), (1, .inl (.inl p1)), (2, .inl (.inl v2)), (3, .inl (.inl v3)), (4, .inl (.inl v4))] [] M (Ri Q) := by
  intro N
  induction N with
  | zero => intros; exact pM_zero
  | succ N IH =>
    intro hN v2 v3 v4 M h
    replace hN := Nat.le_of_succ_le hN
    replace h : B_LawReader_readCondition_358_7 p1 Q N (W_LawReader_readCondition_358_7 p1 Q N) v2 v3 v4 M := h
    refine pM_s (pMs_il rfl rfl ?_)
    refine pM_si rfl ks_400 ?_
    refine pM_cge rfl rfl (fun h1 => ?_) (fun h1 => ?_)
    · replace h := h.2 h1
      refine pM_ic rfl ki_0 ?_
      exact pM_ri rfl (⟨_, rfl, h⟩)
    · replace h := h.1 h1
      refine pM_aln rfl rfl rfl ?_
      refine pM_iln rfl rfl ?_
      refine pM_qRi (as := [.inr (.inl (some 42)), .inl (.inl p1)]) (T := []) rfl rfl (fun C hC => cl_v hC rfl rfl rfl rfl) rfl (q_LawReader_readAtom_359  h) (fun r2 M3 h => ?_)
      refine pM_zne rfl rfl (fun h4 => ?_) (fun h4 => ?_)
      · replace h := h.2 h4
        refine pM_iln rfl rfl ?_
        refine pM_zeq rfl rfl (fun h5 => ?_) (fun h5 => ?_)
        · replace h := h.1 h5
          refine pM_aln rfl rfl rfl ?_
          refine pM_gr rfl rfl rfl rfl ?_
          refine pM_qVi (as := [.inr (.inl (some 3))]) (T := []) rfl rfl (fun C hC => cl_v hC rfl rfl rfl rfl) rfl (q_Text_kind ) ?_
          refine pM_ic rfl ki_4 ?_
          refine pM_cne rfl rfl (fun h6 => ?_) (fun h6 => ?_)
          · replace h := h.2 h6
            refine pM_ic rfl ki_0 ?_
            refine pM_isn rfl rfl ?_
            refine pM_iln rfl rfl ?_
            refine pM_zne rfl rfl (fun h10 => ?_) (fun h10 => ?_)
            · exact absurd (by decide) h10
            · refine pM_iln rfl rfl ?_
              refine pM_zeq rfl rfl (fun h11 => ?_) (fun h11 => ?_)
              · replace h := h.1 h11
                refine pM_aln rfl rfl rfl ?_
                refine pM_gr rfl rfl rfl rfl ?_
                refine pM_qVi (as := [.inr (.inl (some 3))]) (T := []) rfl rfl (fun C hC => cl_v hC rfl rfl rfl rfl) rfl (q_Text_kind ) ?_
                refine pM_ic rfl ki_3 ?_
                refine pM_cne rfl rfl (fun h12 => ?_) (fun h12 => ?_)
                · replace h := h.2 h12
                  refine pM_ic rfl ki_0 ?_
                  refine pM_isn rfl rfl ?_
                  refine pM_iln rfl rfl ?_
                  refine pM_zne rfl rfl (fun h16 => ?_) (fun h16 => ?_)
                  · exact absurd (by decide) h16
                  · refine pM_ic rfl ki_1 ?_
                    exact pM_ri rfl (⟨_, rfl, h⟩)
                · replace h := h.1 h12
                  refine pM_ic rfl ki_1 ?_
                  refine pM_go rfl rfl ?_
                  refine pM_isn rfl rfl ?_
                  refine pM_iln rfl rfl ?_
                  refine pM_zne rfl rfl (fun h13 => ?_) (fun h13 => ?_)
                  · refine pM_aln rfl rfl rfl ?_
                    refine pM_gr rfl rfl rfl rfl ?_
                    refine pM_qRu (as := [.inr (.inl (some 3))]) (T := []) rfl rfl (fun C hC => cl_v hC rfl rfl rfl rfl) rfl (q_Text_goOn  h) (fun M15 h => ?_)
                    refine pM_ii rfl rfl rfl ki_1 ?_
                    refine pM_go rfl rfl ?_
                    refine pM_w (F2 := [(0, .inr (.inl (some 42))), (1, .inl (.inl p1)), (2, .inl (.inl 0)), (3, .inl (.inl 1)), (4, .inl (.inl (v4 + 1)))]) (fun L hL => lo_cons (lo_lk hL rfl) (lo_cons (lo_lk hL rfl) (lo_cons (lo_lk hL rfl) (lo_cons (lo_lk hL rfl) (lo_cons (lo_lk hL rfl) lo_nil))))) ?_
                    exact IH hN 0 1 (v4 + 1) M15 h
                  · exact absurd h13 (by decide)
              · replace h := h.2 h11
                refine pM_aln rfl rfl rfl ?_
                refine pM_gr rfl rfl rfl rfl ?_
                refine pM_bi rfl kb_m4 ?_
                refine pM_qRu (as := [.inr (.inl (some 13)), .inl (.inl (-4))]) (T := []) rfl rfl (fun C hC => cl_v hC rfl rfl rfl rfl) rfl (q_Law_addStep isK_13 h) (fun M18 h => ?_)
                refine pM_aln rfl rfl rfl ?_
                refine pM_gr rfl rfl rfl rfl ?_
                refine pM_qVi (as := [.inr (.inl (some 3))]) (T := []) rfl rfl (fun C hC => cl_v hC rfl rfl rfl rfl) rfl (q_Text_kind ) ?_
                refine pM_ic rfl ki_3 ?_
                refine pM_cne rfl rfl (fun h19 => ?_) (fun h19 => ?_)
                · replace h := h.2 h19
                  refine pM_ic rfl ki_0 ?_
                  refine pM_isn rfl rfl ?_
                  refine pM_iln rfl rfl ?_
                  refine pM_zne rfl rfl (fun h23 => ?_) (fun h23 => ?_)
                  · exact absurd (by decide) h23
                  · refine pM_ic rfl ki_1 ?_
                    exact pM_ri rfl (⟨_, rfl, h⟩)
                · replace h := h.1 h19
                  refine pM_ic rfl ki_1 ?_
                  refine pM_go rfl rfl ?_
                  refine pM_isn rfl rfl ?_
                  refine pM_iln rfl rfl ?_
                  refine pM_zne rfl rfl (fun h20 => ?_) (fun h20 => ?_)
                  · refine pM_aln rfl rfl rfl ?_
                    refine pM_gr rfl rfl rfl rfl ?_
                    refine pM_qRu (as := [.inr (.inl (some 3))]) (T := []) rfl rfl (fun C hC => cl_v hC rfl rfl rfl rfl) rfl (q_Text_goOn  h) (fun M22 h => ?_)
                    refine pM_ii rfl rfl rfl ki_1 ?_
                    refine pM_go rfl rfl ?_
                    refine pM_w (F2 := [(0, .inr (.inl (some 42))), (1, .inl (.inl p1)), (2, .inl (.inl 0)), (3, .inl (.inl 1)), (4, .inl (.inl (v4 + 1)))]) (fun L hL => lo_cons (lo_lk hL rfl) (lo_cons (lo_lk hL rfl) (lo_cons (lo_lk hL rfl) (lo_cons (lo_lk hL rfl) (lo_cons (lo_lk hL rfl) lo_nil))))) ?_
                    exact IH hN 0 1 (v4 + 1) M22 h
                  · exact absurd h20 (by decide)
          · replace h := h.1 h6
            refine pM_ic rfl ki_1 ?_
            refine pM_go rfl rfl ?_
            refine pM_isn rfl rfl ?_
            refine pM_iln rfl rfl ?_
            refine pM_zne rfl rfl (fun h7 => ?_) (fun h7 => ?_)
            · refine pM_aln rfl rfl rfl ?_
              refine pM_gr rfl rfl rfl rfl ?_
              refine pM_qRu (as := [.inr (.inl (some 3))]) (T := []) rfl rfl (fun C hC => cl_v hC rfl rfl rfl rfl) rfl (q_Text_goOn  h) (fun M9 h => ?_)
              refine pM_ii rfl rfl rfl ki_1 ?_
              refine pM_go rfl rfl ?_
              refine pM_w (F2 := [(0, .inr (.inl (some 42))), (1, .inl (.inl p1)), (2, .inl (.inl 1)), (3, .inl (.inl v3)), (4, .inl (.inl (v4 + 1)))]) (fun L hL => lo_cons (lo_lk hL rfl) (lo_cons (lo_lk hL rfl) (lo_cons (lo_lk hL rfl) (lo_cons (lo_lk hL rfl) (lo_cons (lo_lk hL rfl) lo_nil))))) ?_
              exact IH hN 1 v3 (v4 + 1) M9 h
            · exact absurd h7 (by decide)
        · replace h := h.2 h5
          refine pM_aln rfl rfl rfl ?_
          refine pM_gr rfl rfl rfl rfl ?_
          refine pM_bi rfl kb_m3 ?_
          refine pM_qRu (as := [.inr (.inl (some 13)), .inl (.inl (-3))]) (T := []) rfl rfl (fun C hC => cl_v hC rfl rfl rfl rfl) rfl (q_Law_addStep isK_13 h) (fun M25 h => ?_)
          refine pM_aln rfl rfl rfl ?_
          refine pM_gr rfl rfl rfl rfl ?_
          refine pM_qVi (as := [.inr (.inl (some 3))]) (T := []) rfl rfl (fun C hC => cl_v hC rfl rfl rfl rfl) rfl (q_Text_kind ) ?_
          refine pM_ic rfl ki_4 ?_
          refine pM_cne rfl rfl (fun h26 => ?_) (fun h26 => ?_)
          · replace h := h.2 h26
            refine pM_ic rfl ki_0 ?_
            refine pM_isn rfl rfl ?_
            refine pM_iln rfl rfl ?_
            refine pM_zne rfl rfl (fun h30 => ?_) (fun h30 => ?_)
            · exact absurd (by decide) h30
            · refine pM_iln rfl rfl ?_
              refine pM_zeq rfl rfl (fun h31 => ?_) (fun h31 => ?_)
              · replace h := h.1 h31
                refine pM_aln rfl rfl rfl ?_
                refine pM_gr rfl rfl rfl rfl ?_
                refine pM_qVi (as := [.inr (.inl (some 3))]) (T := []) rfl rfl (fun C hC => cl_v hC rfl rfl rfl rfl) rfl (q_Text_kind ) ?_
                refine pM_ic rfl ki_3 ?_
                refine pM_cne rfl rfl (fun h32 => ?_) (fun h32 => ?_)
                · replace h := h.2 h32
                  refine pM_ic rfl ki_0 ?_
                  refine pM_isn rfl rfl ?_
                  refine pM_iln rfl rfl ?_
                  refine pM_zne rfl rfl (fun h36 => ?_) (fun h36 => ?_)
                  · exact absurd (by decide) h36
                  · refine pM_ic rfl ki_1 ?_
                    exact pM_ri rfl (⟨_, rfl, h⟩)
                · replace h := h.1 h32
                  refine pM_ic rfl ki_1 ?_
                  refine pM_go rfl rfl ?_
                  refine pM_isn rfl rfl ?_
                  refine pM_iln rfl rfl ?_
                  refine pM_zne rfl rfl (fun h33 => ?_) (fun h33 => ?_)
                  · refine pM_aln rfl rfl rfl ?_
                    refine pM_gr rfl rfl rfl rfl ?_
                    refine pM_qRu (as := [.inr (.inl (some 3))]) (T := []) rfl rfl (fun C hC => cl_v hC rfl rfl rfl rfl) rfl (q_Text_goOn  h) (fun M35 h => ?_)
                    refine pM_ii rfl rfl rfl ki_1 ?_
                    refine pM_go rfl rfl ?_
                    refine pM_w (F2 := [(0, .inr (.inl (some 42))), (1, .inl (.inl p1)), (2, .inl (.inl 0)), (3, .inl (.inl 1)), (4, .inl (.inl (v4 + 1)))]) (fun L hL => lo_cons (lo_lk hL rfl) (lo_cons (lo_lk hL rfl) (lo_cons (lo_lk hL rfl) (lo_cons (lo_lk hL rfl) (lo_cons (lo_lk hL rfl) lo_nil))))) ?_
                    exact IH hN 0 1 (v4 + 1) M35 h
                  · exact absurd h33 (by decide)
              · replace h := h.2 h31
                refine pM_aln rfl rfl rfl ?_
                refine pM_gr rfl rfl rfl rfl ?_
                refine pM_bi rfl kb_m4 ?_
                refine pM_qRu (as := [.inr (.inl (some 13)), .inl (.inl (-4))]) (T := []) rfl rfl (fun C hC => cl_v hC rfl rfl rfl rfl) rfl (q_Law_addStep isK_13 h) (fun M38 h => ?_)
                refine pM_aln rfl rfl rfl ?_
                refine pM_gr rfl rfl rfl rfl ?_
                refine pM_qVi (as := [.inr (.inl (some 3))]) (T := []) rfl rfl (fun C hC => cl_v hC rfl rfl rfl rfl) rfl (q_Text_kind ) ?_
                refine pM_ic rfl ki_3 ?_
                refine pM_cne rfl rfl (fun h39 => ?_) (fun h39 => ?_)
                · replace h := h.2 h39
                  refine pM_ic rfl ki_0 ?_
                  refine pM_isn rfl rfl ?_
                  refine pM_iln rfl rfl ?_
                  refine pM_zne rfl rfl (fun h43 => ?_) (fun h43 => ?_)
                  · exact absurd (by decide) h43
                  · refine pM_ic rfl ki_1 ?_
                    exact pM_ri rfl (⟨_, rfl, h⟩)
                · replace h := h.1 h39
                  refine pM_ic rfl ki_1 ?_
                  refine pM_go rfl rfl ?_
                  refine pM_isn rfl rfl ?_
                  refine pM_iln rfl rfl ?_
                  refine pM_zne rfl rfl (fun h40 => ?_) (fun h40 => ?_)
                  · refine pM_aln rfl rfl rfl ?_
                    refine pM_gr rfl rfl rfl rfl ?_
                    refine pM_qRu (as := [.inr (.inl (some 3))]) (T := []) rfl rfl (fun C hC => cl_v hC rfl rfl rfl rfl) rfl (q_Text_goOn  h) (fun M42 h => ?_)
                    refine pM_ii rfl rfl rfl ki_1 ?_
                    refine pM_go rfl rfl ?_
                    refine pM_w (F2 := [(0, .inr (.inl (some 42))), (1, .inl (.inl p1)), (2, .inl (.inl 0)), (3, .inl (.inl 1)), (4, .inl (.inl (v4 + 1)))]) (fun L hL => lo_cons (lo_lk hL rfl) (lo_cons (lo_lk hL rfl) (lo_cons (lo_lk hL rfl) (lo_cons (lo_lk hL rfl) (lo_cons (lo_lk hL rfl) lo_nil))))) ?_
                    exact IH hN 0 1 (v4 + 1) M42 h
                  · exact absurd h40 (by decide)
          · replace h := h.1 h26
            refine pM_ic rfl ki_1 ?_
            refine pM_go rfl rfl ?_
            refine pM_isn rfl rfl ?_
            refine pM_iln rfl rfl ?_
            refine pM_zne rfl rfl (fun h27 => ?_) (fun h27 => ?_)
            · refine pM_aln rfl rfl rfl ?_
              refine pM_gr rfl rfl rfl rfl ?_
              refine pM_qRu (as := [.inr (.inl (some 3))]) (T := []) rfl rfl (fun C hC => cl_v hC rfl rfl rfl rfl) rfl (q_Text_goOn  h) (fun M29 h => ?_)
              refine pM_ii rfl rfl rfl ki_1 ?_
              refine pM_go rfl rfl ?_
              refine pM_w (F2 := [(0, .inr (.inl (some 42))), (1, .inl (.inl p1)), (2, .inl (.inl 1)), (3, .inl (.inl v3)), (4, .inl (.inl (v4 + 1)))]) (fun L hL => lo_cons (lo_lk hL rfl) (lo_cons (lo_lk hL rfl) (lo_cons (lo_lk hL rfl) (lo_cons (lo_lk hL rfl) (lo_cons (lo_lk hL rfl) lo_nil))))) ?_
              exact IH hN 1 v3 (v4 + 1) M29 h
            · exact absurd h27 (by decide)
      · replace h := h.1 h4
        refine pM_ic rfl ki_0 ?_
        exact pM_ri rfl (⟨_, rfl, h⟩)
/-- 358: EarCode$LawReader.readCondition(I)Z -/
def W_LawReader_readCondition_358 (p1 : Int32) (N : Nat) (M : MM) (Q : Int32 → MM → Prop) : Prop :=
  W_LawReader_readCondition_358_7 p1 Q N 0 0 0 M
theorem q_LawReader_readCondition_358 {X : Option (List AI)} {N : Nat} {M : MM} {p1 : Int32} {Q : Int32 → MM → Prop}  (h : W_LawReader_readCondition_358 p1 N M Q) : pM X N 358 0 (ea_ar 0 [.inr (.inl (some 42)), .inl (.inl p1)]) [] M (Ri Q) := by
  refine pM_w (F2 := [(0, .inr (.inl (some 42))), (1, .inl (.inl p1))]) (fun L hL => lo_cons (lo_lk hL rfl) (lo_cons (lo_lk hL rfl) lo_nil)) ?_
  refine pM_ic rfl ki_0 ?_
  refine pM_isn rfl rfl ?_
  refine pM_ic rfl ki_0 ?_
  refine pM_isn rfl rfl ?_
  refine pM_ic rfl ki_0 ?_
  refine pM_is rfl rfl ?_
  refine pM_w (F2 := [(0, .inr (.inl (some 42))), (1, .inl (.inl p1)), (2, .inl (.inl 0)), (3, .inl (.inl 0)), (4, .inl (.inl 0))]) (fun L hL => lo_cons (lo_lk hL rfl) (lo_cons (lo_lk hL rfl) (lo_cons (lo_lk hL rfl) (lo_cons (lo_lk hL rfl) (lo_cons (lo_lk hL rfl) lo_nil))))) ?_
  refine q_LawReader_readCondition_358_7   N (Nat.le_refl N) 0 0 0 M h
/-- 42: EarCode$LawReader.readAtom(I)Z -/
def W_LawReader_readAtom (p1 : Int32) (N : Nat) (M : MM) (Q : Int32 → MM → Prop) : Prop :=
  (((V_Text_kind  M) = 6 →
    W_Text_goOn  N M (fun M3 =>
      W_Law_addStep 13 (-1) N M3 (fun M5 =>
        Q 1 M5))) ∧
   (¬ (V_Text_kind  M) = 6 →
    (((V_Text_kind  M) = 5 →
      ((p1 < 6 →
        W_Text_goOn  N M (fun M9 =>
          (((V_Text_kind  M) = 5 →
            W_LawReader_readAtom_359 (p1 + 1) N M9 (fun r11 M12 =>
              ((r11 = 0 →
                Q 0 M12) ∧
               (¬ r11 = 0 →
                W_Law_addStep 13 (-2) N M12 (fun M15 =>
                  Q 1 M15))))) ∧
           (¬ (V_Text_kind  M) = 5 →
            W_LawReader_readCondition_358 (p1 + 1) N M9 (fun r16 M17 =>
              ((r16 = 0 →
                Q 0 M17) ∧
               (¬ r16 = 0 →
                (((V_Text_kind  M17) = 41 →
                  W_Text_goOn  N M17 (fun M21 =>
                    Q 1 M21)) ∧
                 (¬ (V_Text_kind  M17) = 41 →
                  Q 0 M17))))))))) ∧
       (¬ p1 < 6 →
        Q 0 M))) ∧
     (¬ (V_Text_kind  M) = 5 →
      (((V_Text_kind  M) = 40 →
        ((p1 < 6 →
          W_Text_goOn  N M (fun M25 =>
            (((V_Text_kind  M) = 5 →
              W_LawReader_readAtom_359 (p1 + 1) N M25 (fun r27 M28 =>
                ((r27 = 0 →
                  Q 0 M28) ∧
                 (¬ r27 = 0 →
                  W_Law_addStep 13 (-2) N M28 (fun M31 =>
                    Q 1 M31))))) ∧
             (¬ (V_Text_kind  M) = 5 →
              W_LawReader_readCondition_358 (p1 + 1) N M25 (fun r32 M33 =>
                ((r32 = 0 →
                  Q 0 M33) ∧
                 (¬ r32 = 0 →
                  (((V_Text_kind  M33) = 41 →
                    W_Text_goOn  N M33 (fun M37 =>
                      Q 1 M37)) ∧
                   (¬ (V_Text_kind  M33) = 41 →
                    Q 0 M33))))))))) ∧
         (¬ p1 < 6 →
          Q 0 M))) ∧
       (¬ (V_Text_kind  M) = 40 →
        W_LawReader_readComparison  N M (fun r38 M39 =>
          Q r38 M39)))))))
theorem q_LawReader_readAtom {X : Option (List AI)} {N : Nat} {M : MM} {p1 : Int32} {Q : Int32 → MM → Prop}  (h : W_LawReader_readAtom p1 N M Q) : pM X N 42 0 (ea_ar 0 [.inr (.inl (some 42)), .inl (.inl p1)]) [] M (Ri Q) := by
  refine pM_w (F2 := [(0, .inr (.inl (some 42))), (1, .inl (.inl p1))]) (fun L hL => lo_cons (lo_lk hL rfl) (lo_cons (lo_lk hL rfl) lo_nil)) ?_
  refine pM_aln rfl rfl rfl ?_
  refine pM_gr rfl rfl rfl rfl ?_
  refine pM_qVi (as := [.inr (.inl (some 3))]) (T := []) rfl rfl (fun C hC => cl_v hC rfl rfl rfl rfl) rfl (q_Text_kind ) ?_
  refine pM_isn rfl rfl ?_
  refine pM_iln rfl rfl ?_
  refine pM_bi rfl kb_6 ?_
  refine pM_cne rfl rfl (fun h1 => ?_) (fun h1 => ?_)
  · replace h := h.2 h1
    refine pM_iln rfl rfl ?_
    refine pM_ic rfl ki_5 ?_
    refine pM_ceq rfl rfl (fun h6 => ?_) (fun h6 => ?_)
    · replace h := h.1 h6
      refine pM_iln rfl rfl ?_
      refine pM_bi rfl kb_6 ?_
      refine pM_clt rfl rfl (fun h7 => ?_) (fun h7 => ?_)
      · replace h := h.1 h7
        refine pM_aln rfl rfl rfl ?_
        refine pM_gr rfl rfl rfl rfl ?_
        refine pM_qRu (as := [.inr (.inl (some 3))]) (T := []) rfl rfl (fun C hC => cl_v hC rfl rfl rfl rfl) rfl (q_Text_goOn  h) (fun M9 h => ?_)
        refine pM_iln rfl rfl ?_
        refine pM_ic rfl ki_5 ?_
        refine pM_cne rfl rfl (fun h10 => ?_) (fun h10 => ?_)
        · replace h := h.2 h10
          refine pM_aln rfl rfl rfl ?_
          refine pM_iln rfl rfl ?_
          refine pM_ic rfl ki_1 ?_
          refine pM_add rfl ?_
          refine pM_qRi (as := [.inr (.inl (some 42)), .inl (.inl (p1 + 1))]) (T := []) rfl rfl (fun C hC => cl_v hC rfl rfl rfl rfl) rfl (q_LawReader_readCondition_358  h) (fun r16 M17 h => ?_)
          refine pM_zeq rfl rfl (fun h18 => ?_) (fun h18 => ?_)
          · replace h := h.1 h18
            refine pM_ic rfl ki_0 ?_
            exact pM_ri rfl (⟨_, rfl, h⟩)
          · replace h := h.2 h18
            refine pM_aln rfl rfl rfl ?_
            refine pM_gr rfl rfl rfl rfl ?_
            refine pM_qVi (as := [.inr (.inl (some 3))]) (T := []) rfl rfl (fun C hC => cl_v hC rfl rfl rfl rfl) rfl (q_Text_kind ) ?_
            refine pM_bi rfl kb_41 ?_
            refine pM_ceq rfl rfl (fun h19 => ?_) (fun h19 => ?_)
            · replace h := h.1 h19
              refine pM_aln rfl rfl rfl ?_
              refine pM_gr rfl rfl rfl rfl ?_
              refine pM_qRu (as := [.inr (.inl (some 3))]) (T := []) rfl rfl (fun C hC => cl_v hC rfl rfl rfl rfl) rfl (q_Text_goOn  h) (fun M21 h => ?_)
              refine pM_ic rfl ki_1 ?_
              exact pM_ri rfl (⟨_, rfl, h⟩)
            · replace h := h.2 h19
              refine pM_ic rfl ki_0 ?_
              exact pM_ri rfl (⟨_, rfl, h⟩)
        · replace h := h.1 h10
          refine pM_aln rfl rfl rfl ?_
          refine pM_iln rfl rfl ?_
          refine pM_ic rfl ki_1 ?_
          refine pM_add rfl ?_
          refine pM_qRi (as := [.inr (.inl (some 42)), .inl (.inl (p1 + 1))]) (T := []) rfl rfl (fun C hC => cl_v hC rfl rfl rfl rfl) rfl (q_LawReader_readAtom_359  h) (fun r11 M12 h => ?_)
          refine pM_zne rfl rfl (fun h13 => ?_) (fun h13 => ?_)
          · replace h := h.2 h13
            refine pM_aln rfl rfl rfl ?_
            refine pM_gr rfl rfl rfl rfl ?_
            refine pM_bi rfl kb_m2 ?_
            refine pM_qRu (as := [.inr (.inl (some 13)), .inl (.inl (-2))]) (T := []) rfl rfl (fun C hC => cl_v hC rfl rfl rfl rfl) rfl (q_Law_addStep isK_13 h) (fun M15 h => ?_)
            refine pM_ic rfl ki_1 ?_
            exact pM_ri rfl (⟨_, rfl, h⟩)
          · replace h := h.1 h13
            refine pM_ic rfl ki_0 ?_
            exact pM_ri rfl (⟨_, rfl, h⟩)
      · replace h := h.2 h7
        refine pM_ic rfl ki_0 ?_
        exact pM_ri rfl (⟨_, rfl, h⟩)
    · replace h := h.2 h6
      refine pM_iln rfl rfl ?_
      refine pM_bi rfl kb_40 ?_
      refine pM_ceq rfl rfl (fun h22 => ?_) (fun h22 => ?_)
      · replace h := h.1 h22
        refine pM_iln rfl rfl ?_
        refine pM_bi rfl kb_6 ?_
        refine pM_clt rfl rfl (fun h23 => ?_) (fun h23 => ?_)
        · replace h := h.1 h23
          refine pM_aln rfl rfl rfl ?_
          refine pM_gr rfl rfl rfl rfl ?_
          refine pM_qRu (as := [.inr (.inl (some 3))]) (T := []) rfl rfl (fun C hC => cl_v hC rfl rfl rfl rfl) rfl (q_Text_goOn  h) (fun M25 h => ?_)
          refine pM_iln rfl rfl ?_
          refine pM_ic rfl ki_5 ?_
          refine pM_cne rfl rfl (fun h26 => ?_) (fun h26 => ?_)
          · replace h := h.2 h26
            refine pM_aln rfl rfl rfl ?_
            refine pM_iln rfl rfl ?_
            refine pM_ic rfl ki_1 ?_
            refine pM_add rfl ?_
            refine pM_qRi (as := [.inr (.inl (some 42)), .inl (.inl (p1 + 1))]) (T := []) rfl rfl (fun C hC => cl_v hC rfl rfl rfl rfl) rfl (q_LawReader_readCondition_358  h) (fun r32 M33 h => ?_)
            refine pM_zeq rfl rfl (fun h34 => ?_) (fun h34 => ?_)
            · replace h := h.1 h34
              refine pM_ic rfl ki_0 ?_
              exact pM_ri rfl (⟨_, rfl, h⟩)
            · replace h := h.2 h34
              refine pM_aln rfl rfl rfl ?_
              refine pM_gr rfl rfl rfl rfl ?_
              refine pM_qVi (as := [.inr (.inl (some 3))]) (T := []) rfl rfl (fun C hC => cl_v hC rfl rfl rfl rfl) rfl (q_Text_kind ) ?_
              refine pM_bi rfl kb_41 ?_
              refine pM_ceq rfl rfl (fun h35 => ?_) (fun h35 => ?_)
              · replace h := h.1 h35
                refine pM_aln rfl rfl rfl ?_
                refine pM_gr rfl rfl rfl rfl ?_
                refine pM_qRu (as := [.inr (.inl (some 3))]) (T := []) rfl rfl (fun C hC => cl_v hC rfl rfl rfl rfl) rfl (q_Text_goOn  h) (fun M37 h => ?_)
                refine pM_ic rfl ki_1 ?_
                exact pM_ri rfl (⟨_, rfl, h⟩)
              · replace h := h.2 h35
                refine pM_ic rfl ki_0 ?_
                exact pM_ri rfl (⟨_, rfl, h⟩)
          · replace h := h.1 h26
            refine pM_aln rfl rfl rfl ?_
            refine pM_iln rfl rfl ?_
            refine pM_ic rfl ki_1 ?_
            refine pM_add rfl ?_
            refine pM_qRi (as := [.inr (.inl (some 42)), .inl (.inl (p1 + 1))]) (T := []) rfl rfl (fun C hC => cl_v hC rfl rfl rfl rfl) rfl (q_LawReader_readAtom_359  h) (fun r27 M28 h => ?_)
            refine pM_zne rfl rfl (fun h29 => ?_) (fun h29 => ?_)
            · replace h := h.2 h29
              refine pM_aln rfl rfl rfl ?_
              refine pM_gr rfl rfl rfl rfl ?_
              refine pM_bi rfl kb_m2 ?_
              refine pM_qRu (as := [.inr (.inl (some 13)), .inl (.inl (-2))]) (T := []) rfl rfl (fun C hC => cl_v hC rfl rfl rfl rfl) rfl (q_Law_addStep isK_13 h) (fun M31 h => ?_)
              refine pM_ic rfl ki_1 ?_
              exact pM_ri rfl (⟨_, rfl, h⟩)
            · replace h := h.1 h29
              refine pM_ic rfl ki_0 ?_
              exact pM_ri rfl (⟨_, rfl, h⟩)
        · replace h := h.2 h23
          refine pM_ic rfl ki_0 ?_
          exact pM_ri rfl (⟨_, rfl, h⟩)
      · replace h := h.2 h22
        refine pM_aln rfl rfl rfl ?_
        refine pM_qRi (as := [.inr (.inl (some 42))]) (T := []) rfl rfl (fun C hC => cl_v hC rfl rfl rfl rfl) rfl (q_LawReader_readComparison  h) (fun r38 M39 h => ?_)
        exact pM_ri rfl (⟨_, rfl, h⟩)
  · replace h := h.1 h1
    refine pM_aln rfl rfl rfl ?_
    refine pM_gr rfl rfl rfl rfl ?_
    refine pM_qRu (as := [.inr (.inl (some 3))]) (T := []) rfl rfl (fun C hC => cl_v hC rfl rfl rfl rfl) rfl (q_Text_goOn  h) (fun M3 h => ?_)
    refine pM_aln rfl rfl rfl ?_
    refine pM_gr rfl rfl rfl rfl ?_
    refine pM_ic rfl ki_m1 ?_
    refine pM_qRu (as := [.inr (.inl (some 13)), .inl (.inl (-1))]) (T := []) rfl rfl (fun C hC => cl_v hC rfl rfl rfl rfl) rfl (q_Law_addStep isK_13 h) (fun M5 h => ?_)
    refine pM_ic rfl ki_1 ?_
    exact pM_ri rfl (⟨_, rfl, h⟩)
def B_LawReader_readCondition_7 (p1 : Int32) (Q : Int32 → MM → Prop) (N : Nat) (ih : Int32 → Int32 → Int32 → MM → Prop) (v2 : Int32) (v3 : Int32) (v4 : Int32) (M : MM) : Prop :=
  ((v4 < 400 →
    W_LawReader_readAtom p1 N M (fun r2 M3 =>
      ((r2 = 0 →
        Q 0 M3) ∧
       (¬ r2 = 0 →
        ((v2 = 0 →
          (((V_Text_kind  M3) = 4 →
            W_Text_goOn  N M3 (fun M9 =>
              ih 1 v3 (v4 + 1) M9)) ∧
           (¬ (V_Text_kind  M3) = 4 →
            ((v3 = 0 →
              (((V_Text_kind  M3) = 3 →
                W_Text_goOn  N M3 (fun M15 =>
                  ih 0 1 (v4 + 1) M15)) ∧
               (¬ (V_Text_kind  M3) = 3 →
                Q 1 M3))) ∧
             (¬ v3 = 0 →
              W_Law_addStep 13 (-4) N M3 (fun M18 =>
                (((V_Text_kind  M18) = 3 →
                  W_Text_goOn  N M18 (fun M22 =>
                    ih 0 1 (v4 + 1) M22)) ∧
                 (¬ (V_Text_kind  M18) = 3 →
                  Q 1 M18)))))))) ∧
         (¬ v2 = 0 →
          W_Law_addStep 13 (-3) N M3 (fun M25 =>
            (((V_Text_kind  M25) = 4 →
              W_Text_goOn  N M25 (fun M29 =>
                ih 1 v3 (v4 + 1) M29)) ∧
             (¬ (V_Text_kind  M25) = 4 →
              ((v3 = 0 →
                (((V_Text_kind  M25) = 3 →
                  W_Text_goOn  N M25 (fun M35 =>
                    ih 0 1 (v4 + 1) M35)) ∧
                 (¬ (V_Text_kind  M25) = 3 →
                  Q 1 M25))) ∧
               (¬ v3 = 0 →
                W_Law_addStep 13 (-4) N M25 (fun M38 =>
                  (((V_Text_kind  M38) = 3 →
                    W_Text_goOn  N M38 (fun M42 =>
                      ih 0 1 (v4 + 1) M42)) ∧
                   (¬ (V_Text_kind  M38) = 3 →
                    Q 1 M38)))))))))))))) ∧
   (¬ v4 < 400 →
    Q 0 M))
def W_LawReader_readCondition_7 (p1 : Int32) (Q : Int32 → MM → Prop) : Nat → Int32 → Int32 → Int32 → MM → Prop
  | 0, _, _, _, _ => True
  | N + 1, v2, v3, v4, M => B_LawReader_readCondition_7 p1 Q N (W_LawReader_readCondition_7 p1 Q N) v2 v3 v4 M
theorem I_LawReader_readCondition_7 (p1 : Int32) (Q : Int32 → MM → Prop) (inv : Int32 → Int32 → Int32 → MM → Prop) (hs : ∀ (N : Nat) (ih : Int32 → Int32 → Int32 → MM → Prop) (v2 : Int32) (v3 : Int32) (v4 : Int32) (M : MM), (∀ (v2 : Int32) (v3 : Int32) (v4 : Int32) (M : MM), inv v2 v3 v4 M → ih v2 v3 v4 M) → inv v2 v3 v4 M → B_LawReader_readCondition_7 p1 Q N ih v2 v3 v4 M) : ∀ (N : Nat) (v2 : Int32) (v3 : Int32) (v4 : Int32) (M : MM), inv v2 v3 v4 M → W_LawReader_readCondition_7 p1 Q N v2 v3 v4 M := by
  intro N
  induction N with
  | zero => intros; trivial
  | succ N IH =>
    intro v2 v3 v4 M h
    exact hs N _ v2 v3 v4 M IH h
theorem q_LawReader_readCondition_7 {X : Option (List AI)} {N0 : Nat} {p1 : Int32} {Q : Int32 → MM → Prop}   : ∀ (N : Nat), N ≤ N0 → ∀ (v2 : Int32) (v3 : Int32) (v4 : Int32) (M : MM), W_LawReader_readCondition_7 p1 Q N v2 v3 v4 M → pM X N 41 7 [(0, .inr (.inl (some 42))), (1, .inl (.inl p1)), (2, .inl (.inl v2)), (3, .inl (.inl v3)), (4, .inl (.inl v4))] [] M (Ri Q) := by
  intro N
  induction N with
  | zero => intros; exact pM_zero
  | succ N IH =>
    intro hN v2 v3 v4 M h
    replace hN := Nat.le_of_succ_le hN
    replace h : B_LawReader_readCondition_7 p1 Q N (W_LawReader_readCondition_7 p1 Q N) v2 v3 v4 M := h
    refine pM_s (pMs_il rfl rfl ?_)
    refine pM_si rfl ks_400 ?_
    refine pM_cge rfl rfl (fun h1 => ?_) (fun h1 => ?_)
    · replace h := h.2 h1
      refine pM_ic rfl ki_0 ?_
      exact pM_ri rfl (⟨_, rfl, h⟩)
    · replace h := h.1 h1
      refine pM_aln rfl rfl rfl ?_
      refine pM_iln rfl rfl ?_
      refine pM_qRi (as := [.inr (.inl (some 42)), .inl (.inl p1)]) (T := []) rfl rfl (fun C hC => cl_v hC rfl rfl rfl rfl) rfl (q_LawReader_readAtom  h) (fun r2 M3 h => ?_)
      refine pM_zne rfl rfl (fun h4 => ?_) (fun h4 => ?_)
      · replace h := h.2 h4
        refine pM_iln rfl rfl ?_
        refine pM_zeq rfl rfl (fun h5 => ?_) (fun h5 => ?_)
        · replace h := h.1 h5
          refine pM_aln rfl rfl rfl ?_
          refine pM_gr rfl rfl rfl rfl ?_
          refine pM_qVi (as := [.inr (.inl (some 3))]) (T := []) rfl rfl (fun C hC => cl_v hC rfl rfl rfl rfl) rfl (q_Text_kind ) ?_
          refine pM_ic rfl ki_4 ?_
          refine pM_cne rfl rfl (fun h6 => ?_) (fun h6 => ?_)
          · replace h := h.2 h6
            refine pM_ic rfl ki_0 ?_
            refine pM_isn rfl rfl ?_
            refine pM_iln rfl rfl ?_
            refine pM_zne rfl rfl (fun h10 => ?_) (fun h10 => ?_)
            · exact absurd (by decide) h10
            · refine pM_iln rfl rfl ?_
              refine pM_zeq rfl rfl (fun h11 => ?_) (fun h11 => ?_)
              · replace h := h.1 h11
                refine pM_aln rfl rfl rfl ?_
                refine pM_gr rfl rfl rfl rfl ?_
                refine pM_qVi (as := [.inr (.inl (some 3))]) (T := []) rfl rfl (fun C hC => cl_v hC rfl rfl rfl rfl) rfl (q_Text_kind ) ?_
                refine pM_ic rfl ki_3 ?_
                refine pM_cne rfl rfl (fun h12 => ?_) (fun h12 => ?_)
                · replace h := h.2 h12
                  refine pM_ic rfl ki_0 ?_
                  refine pM_isn rfl rfl ?_
                  refine pM_iln rfl rfl ?_
                  refine pM_zne rfl rfl (fun h16 => ?_) (fun h16 => ?_)
                  · exact absurd (by decide) h16
                  · refine pM_ic rfl ki_1 ?_
                    exact pM_ri rfl (⟨_, rfl, h⟩)
                · replace h := h.1 h12
                  refine pM_ic rfl ki_1 ?_
                  refine pM_go rfl rfl ?_
                  refine pM_isn rfl rfl ?_
                  refine pM_iln rfl rfl ?_
                  refine pM_zne rfl rfl (fun h13 => ?_) (fun h13 => ?_)
                  · refine pM_aln rfl rfl rfl ?_
                    refine pM_gr rfl rfl rfl rfl ?_
                    refine pM_qRu (as := [.inr (.inl (some 3))]) (T := []) rfl rfl (fun C hC => cl_v hC rfl rfl rfl rfl) rfl (q_Text_goOn  h) (fun M15 h => ?_)
                    refine pM_ii rfl rfl rfl ki_1 ?_
                    refine pM_go rfl rfl ?_
                    refine pM_w (F2 := [(0, .inr (.inl (some 42))), (1, .inl (.inl p1)), (2, .inl (.inl 0)), (3, .inl (.inl 1)), (4, .inl (.inl (v4 + 1)))]) (fun L hL => lo_cons (lo_lk hL rfl) (lo_cons (lo_lk hL rfl) (lo_cons (lo_lk hL rfl) (lo_cons (lo_lk hL rfl) (lo_cons (lo_lk hL rfl) lo_nil))))) ?_
                    exact IH hN 0 1 (v4 + 1) M15 h
                  · exact absurd h13 (by decide)
              · replace h := h.2 h11
                refine pM_aln rfl rfl rfl ?_
                refine pM_gr rfl rfl rfl rfl ?_
                refine pM_bi rfl kb_m4 ?_
                refine pM_qRu (as := [.inr (.inl (some 13)), .inl (.inl (-4))]) (T := []) rfl rfl (fun C hC => cl_v hC rfl rfl rfl rfl) rfl (q_Law_addStep isK_13 h) (fun M18 h => ?_)
                refine pM_aln rfl rfl rfl ?_
                refine pM_gr rfl rfl rfl rfl ?_
                refine pM_qVi (as := [.inr (.inl (some 3))]) (T := []) rfl rfl (fun C hC => cl_v hC rfl rfl rfl rfl) rfl (q_Text_kind ) ?_
                refine pM_ic rfl ki_3 ?_
                refine pM_cne rfl rfl (fun h19 => ?_) (fun h19 => ?_)
                · replace h := h.2 h19
                  refine pM_ic rfl ki_0 ?_
                  refine pM_isn rfl rfl ?_
                  refine pM_iln rfl rfl ?_
                  refine pM_zne rfl rfl (fun h23 => ?_) (fun h23 => ?_)
                  · exact absurd (by decide) h23
                  · refine pM_ic rfl ki_1 ?_
                    exact pM_ri rfl (⟨_, rfl, h⟩)
                · replace h := h.1 h19
                  refine pM_ic rfl ki_1 ?_
                  refine pM_go rfl rfl ?_
                  refine pM_isn rfl rfl ?_
                  refine pM_iln rfl rfl ?_
                  refine pM_zne rfl rfl (fun h20 => ?_) (fun h20 => ?_)
                  · refine pM_aln rfl rfl rfl ?_
                    refine pM_gr rfl rfl rfl rfl ?_
                    refine pM_qRu (as := [.inr (.inl (some 3))]) (T := []) rfl rfl (fun C hC => cl_v hC rfl rfl rfl rfl) rfl (q_Text_goOn  h) (fun M22 h => ?_)
                    refine pM_ii rfl rfl rfl ki_1 ?_
                    refine pM_go rfl rfl ?_
                    refine pM_w (F2 := [(0, .inr (.inl (some 42))), (1, .inl (.inl p1)), (2, .inl (.inl 0)), (3, .inl (.inl 1)), (4, .inl (.inl (v4 + 1)))]) (fun L hL => lo_cons (lo_lk hL rfl) (lo_cons (lo_lk hL rfl) (lo_cons (lo_lk hL rfl) (lo_cons (lo_lk hL rfl) (lo_cons (lo_lk hL rfl) lo_nil))))) ?_
                    exact IH hN 0 1 (v4 + 1) M22 h
                  · exact absurd h20 (by decide)
          · replace h := h.1 h6
            refine pM_ic rfl ki_1 ?_
            refine pM_go rfl rfl ?_
            refine pM_isn rfl rfl ?_
            refine pM_iln rfl rfl ?_
            refine pM_zne rfl rfl (fun h7 => ?_) (fun h7 => ?_)
            · refine pM_aln rfl rfl rfl ?_
              refine pM_gr rfl rfl rfl rfl ?_
              refine pM_qRu (as := [.inr (.inl (some 3))]) (T := []) rfl rfl (fun C hC => cl_v hC rfl rfl rfl rfl) rfl (q_Text_goOn  h) (fun M9 h => ?_)
              refine pM_ii rfl rfl rfl ki_1 ?_
              refine pM_go rfl rfl ?_
              refine pM_w (F2 := [(0, .inr (.inl (some 42))), (1, .inl (.inl p1)), (2, .inl (.inl 1)), (3, .inl (.inl v3)), (4, .inl (.inl (v4 + 1)))]) (fun L hL => lo_cons (lo_lk hL rfl) (lo_cons (lo_lk hL rfl) (lo_cons (lo_lk hL rfl) (lo_cons (lo_lk hL rfl) (lo_cons (lo_lk hL rfl) lo_nil))))) ?_
              exact IH hN 1 v3 (v4 + 1) M9 h
            · exact absurd h7 (by decide)
        · replace h := h.2 h5
          refine pM_aln rfl rfl rfl ?_
          refine pM_gr rfl rfl rfl rfl ?_
          refine pM_bi rfl kb_m3 ?_
          refine pM_qRu (as := [.inr (.inl (some 13)), .inl (.inl (-3))]) (T := []) rfl rfl (fun C hC => cl_v hC rfl rfl rfl rfl) rfl (q_Law_addStep isK_13 h) (fun M25 h => ?_)
          refine pM_aln rfl rfl rfl ?_
          refine pM_gr rfl rfl rfl rfl ?_
          refine pM_qVi (as := [.inr (.inl (some 3))]) (T := []) rfl rfl (fun C hC => cl_v hC rfl rfl rfl rfl) rfl (q_Text_kind ) ?_
          refine pM_ic rfl ki_4 ?_
          refine pM_cne rfl rfl (fun h26 => ?_) (fun h26 => ?_)
          · replace h := h.2 h26
            refine pM_ic rfl ki_0 ?_
            refine pM_isn rfl rfl ?_
            refine pM_iln rfl rfl ?_
            refine pM_zne rfl rfl (fun h30 => ?_) (fun h30 => ?_)
            · exact absurd (by decide) h30
            · refine pM_iln rfl rfl ?_
              refine pM_zeq rfl rfl (fun h31 => ?_) (fun h31 => ?_)
              · replace h := h.1 h31
                refine pM_aln rfl rfl rfl ?_
                refine pM_gr rfl rfl rfl rfl ?_
                refine pM_qVi (as := [.inr (.inl (some 3))]) (T := []) rfl rfl (fun C hC => cl_v hC rfl rfl rfl rfl) rfl (q_Text_kind ) ?_
                refine pM_ic rfl ki_3 ?_
                refine pM_cne rfl rfl (fun h32 => ?_) (fun h32 => ?_)
                · replace h := h.2 h32
                  refine pM_ic rfl ki_0 ?_
                  refine pM_isn rfl rfl ?_
                  refine pM_iln rfl rfl ?_
                  refine pM_zne rfl rfl (fun h36 => ?_) (fun h36 => ?_)
                  · exact absurd (by decide) h36
                  · refine pM_ic rfl ki_1 ?_
                    exact pM_ri rfl (⟨_, rfl, h⟩)
                · replace h := h.1 h32
                  refine pM_ic rfl ki_1 ?_
                  refine pM_go rfl rfl ?_
                  refine pM_isn rfl rfl ?_
                  refine pM_iln rfl rfl ?_
                  refine pM_zne rfl rfl (fun h33 => ?_) (fun h33 => ?_)
                  · refine pM_aln rfl rfl rfl ?_
                    refine pM_gr rfl rfl rfl rfl ?_
                    refine pM_qRu (as := [.inr (.inl (some 3))]) (T := []) rfl rfl (fun C hC => cl_v hC rfl rfl rfl rfl) rfl (q_Text_goOn  h) (fun M35 h => ?_)
                    refine pM_ii rfl rfl rfl ki_1 ?_
                    refine pM_go rfl rfl ?_
                    refine pM_w (F2 := [(0, .inr (.inl (some 42))), (1, .inl (.inl p1)), (2, .inl (.inl 0)), (3, .inl (.inl 1)), (4, .inl (.inl (v4 + 1)))]) (fun L hL => lo_cons (lo_lk hL rfl) (lo_cons (lo_lk hL rfl) (lo_cons (lo_lk hL rfl) (lo_cons (lo_lk hL rfl) (lo_cons (lo_lk hL rfl) lo_nil))))) ?_
                    exact IH hN 0 1 (v4 + 1) M35 h
                  · exact absurd h33 (by decide)
              · replace h := h.2 h31
                refine pM_aln rfl rfl rfl ?_
                refine pM_gr rfl rfl rfl rfl ?_
                refine pM_bi rfl kb_m4 ?_
                refine pM_qRu (as := [.inr (.inl (some 13)), .inl (.inl (-4))]) (T := []) rfl rfl (fun C hC => cl_v hC rfl rfl rfl rfl) rfl (q_Law_addStep isK_13 h) (fun M38 h => ?_)
                refine pM_aln rfl rfl rfl ?_
                refine pM_gr rfl rfl rfl rfl ?_
                refine pM_qVi (as := [.inr (.inl (some 3))]) (T := []) rfl rfl (fun C hC => cl_v hC rfl rfl rfl rfl) rfl (q_Text_kind ) ?_
                refine pM_ic rfl ki_3 ?_
                refine pM_cne rfl rfl (fun h39 => ?_) (fun h39 => ?_)
                · replace h := h.2 h39
                  refine pM_ic rfl ki_0 ?_
                  refine pM_isn rfl rfl ?_
                  refine pM_iln rfl rfl ?_
                  refine pM_zne rfl rfl (fun h43 => ?_) (fun h43 => ?_)
                  · exact absurd (by decide) h43
                  · refine pM_ic rfl ki_1 ?_
                    exact pM_ri rfl (⟨_, rfl, h⟩)
                · replace h := h.1 h39
                  refine pM_ic rfl ki_1 ?_
                  refine pM_go rfl rfl ?_
                  refine pM_isn rfl rfl ?_
                  refine pM_iln rfl rfl ?_
                  refine pM_zne rfl rfl (fun h40 => ?_) (fun h40 => ?_)
                  · refine pM_aln rfl rfl rfl ?_
                    refine pM_gr rfl rfl rfl rfl ?_
                    refine pM_qRu (as := [.inr (.inl (some 3))]) (T := []) rfl rfl (fun C hC => cl_v hC rfl rfl rfl rfl) rfl (q_Text_goOn  h) (fun M42 h => ?_)
                    refine pM_ii rfl rfl rfl ki_1 ?_
                    refine pM_go rfl rfl ?_
                    refine pM_w (F2 := [(0, .inr (.inl (some 42))), (1, .inl (.inl p1)), (2, .inl (.inl 0)), (3, .inl (.inl 1)), (4, .inl (.inl (v4 + 1)))]) (fun L hL => lo_cons (lo_lk hL rfl) (lo_cons (lo_lk hL rfl) (lo_cons (lo_lk hL rfl) (lo_cons (lo_lk hL rfl) (lo_cons (lo_lk hL rfl) lo_nil))))) ?_
                    exact IH hN 0 1 (v4 + 1) M42 h
                  · exact absurd h40 (by decide)
          · replace h := h.1 h26
            refine pM_ic rfl ki_1 ?_
            refine pM_go rfl rfl ?_
            refine pM_isn rfl rfl ?_
            refine pM_iln rfl rfl ?_
            refine pM_zne rfl rfl (fun h27 => ?_) (fun h27 => ?_)
            · refine pM_aln rfl rfl rfl ?_
              refine pM_gr rfl rfl rfl rfl ?_
              refine pM_qRu (as := [.inr (.inl (some 3))]) (T := []) rfl rfl (fun C hC => cl_v hC rfl rfl rfl rfl) rfl (q_Text_goOn  h) (fun M29 h => ?_)
              refine pM_ii rfl rfl rfl ki_1 ?_
              refine pM_go rfl rfl ?_
              refine pM_w (F2 := [(0, .inr (.inl (some 42))), (1, .inl (.inl p1)), (2, .inl (.inl 1)), (3, .inl (.inl v3)), (4, .inl (.inl (v4 + 1)))]) (fun L hL => lo_cons (lo_lk hL rfl) (lo_cons (lo_lk hL rfl) (lo_cons (lo_lk hL rfl) (lo_cons (lo_lk hL rfl) (lo_cons (lo_lk hL rfl) lo_nil))))) ?_
              exact IH hN 1 v3 (v4 + 1) M29 h
            · exact absurd h27 (by decide)
      · replace h := h.1 h4
        refine pM_ic rfl ki_0 ?_
        exact pM_ri rfl (⟨_, rfl, h⟩)
/-- 41: EarCode$LawReader.readCondition(I)Z -/
def W_LawReader_readCondition (p1 : Int32) (N : Nat) (M : MM) (Q : Int32 → MM → Prop) : Prop :=
  W_LawReader_readCondition_7 p1 Q N 0 0 0 M
theorem q_LawReader_readCondition {X : Option (List AI)} {N : Nat} {M : MM} {p1 : Int32} {Q : Int32 → MM → Prop}  (h : W_LawReader_readCondition p1 N M Q) : pM X N 41 0 (ea_ar 0 [.inr (.inl (some 42)), .inl (.inl p1)]) [] M (Ri Q) := by
  refine pM_w (F2 := [(0, .inr (.inl (some 42))), (1, .inl (.inl p1))]) (fun L hL => lo_cons (lo_lk hL rfl) (lo_cons (lo_lk hL rfl) lo_nil)) ?_
  refine pM_ic rfl ki_0 ?_
  refine pM_isn rfl rfl ?_
  refine pM_ic rfl ki_0 ?_
  refine pM_isn rfl rfl ?_
  refine pM_ic rfl ki_0 ?_
  refine pM_is rfl rfl ?_
  refine pM_w (F2 := [(0, .inr (.inl (some 42))), (1, .inl (.inl p1)), (2, .inl (.inl 0)), (3, .inl (.inl 0)), (4, .inl (.inl 0))]) (fun L hL => lo_cons (lo_lk hL rfl) (lo_cons (lo_lk hL rfl) (lo_cons (lo_lk hL rfl) (lo_cons (lo_lk hL rfl) (lo_cons (lo_lk hL rfl) lo_nil))))) ?_
  refine q_LawReader_readCondition_7   N (Nat.le_refl N) 0 0 0 M h
/-- 99: EarCode$Text.numberWithin(II)I -/
def W_Text_numberWithin (p1 : Int32) (p2 : Int32) (N : Nat) (M : MM) (Q : Int32 → MM → Prop) : Prop :=
  (((V_Text_kind  M) = 20 →
    (((V_Text_value  M) < p1 →
      Q (-1) M) ∧
     (¬ (V_Text_value  M) < p1 →
      ((p2 < (V_Text_value  M) →
        Q (-1) M) ∧
       (¬ p2 < (V_Text_value  M) →
        Q (V_Text_value  M) (wi M 3 5 ((M.1 3 5) + 1))))))) ∧
   (¬ (V_Text_kind  M) = 20 →
    Q (-1) M))
theorem q_Text_numberWithin {X : Option (List AI)} {N : Nat} {M : MM} {p1 : Int32} {p2 : Int32} {Q : Int32 → MM → Prop}  (h : W_Text_numberWithin p1 p2 N M Q) : pM X N 99 0 (ea_ar 0 [.inr (.inl (some 3)), .inl (.inl p1), .inl (.inl p2)]) [] M (Ri Q) := by
  refine pM_w (F2 := [(0, .inr (.inl (some 3))), (1, .inl (.inl p1)), (2, .inl (.inl p2))]) (fun L hL => lo_cons (lo_lk hL rfl) (lo_cons (lo_lk hL rfl) (lo_cons (lo_lk hL rfl) lo_nil))) ?_
  refine pM_aln rfl rfl rfl ?_
  refine pM_qVi (as := [.inr (.inl (some 3))]) (T := []) rfl rfl (fun C hC => cl_v hC rfl rfl rfl rfl) rfl (q_Text_value ) ?_
  refine pM_isn rfl rfl ?_
  refine pM_aln rfl rfl rfl ?_
  refine pM_qVi (as := [.inr (.inl (some 3))]) (T := []) rfl rfl (fun C hC => cl_v hC rfl rfl rfl rfl) rfl (q_Text_kind ) ?_
  refine pM_bi rfl kb_20 ?_
  refine pM_cne rfl rfl (fun h1 => ?_) (fun h1 => ?_)
  · replace h := h.2 h1
    refine pM_ic rfl ki_m1 ?_
    exact pM_ri rfl (⟨_, rfl, h⟩)
  · replace h := h.1 h1
    refine pM_iln rfl rfl ?_
    refine pM_iln rfl rfl ?_
    refine pM_clt rfl rfl (fun h2 => ?_) (fun h2 => ?_)
    · replace h := h.1 h2
      refine pM_ic rfl ki_m1 ?_
      exact pM_ri rfl (⟨_, rfl, h⟩)
    · replace h := h.2 h2
      refine pM_iln rfl rfl ?_
      refine pM_iln rfl rfl ?_
      refine pM_cle rfl rfl (fun h3 => ?_) (fun h3 => ?_)
      · replace h := h.2 h3
        refine pM_aln rfl rfl rfl ?_
        refine pM_p (pc' := 28) (S' := [.inr (.inl (some 3)), .inr (.inl (some 3))]) rfl rfl (fun _ => rfl) ?_
        refine pM_gi rfl rfl rfl rfl ?_
        refine pM_ic rfl ki_1 ?_
        refine pM_add rfl ?_
        refine pM_pi rfl rfl rfl rfl ?_
        refine pM_iln rfl rfl ?_
        exact pM_ri rfl (⟨_, rfl, h⟩)
      · replace h := h.1 h3
        refine pM_ic rfl ki_m1 ?_
        exact pM_ri rfl (⟨_, rfl, h⟩)
/-- 40: EarCode$LawReader.readClause()Z -/
def W_LawReader_readClause  (N : Nat) (M : MM) (Q : Int32 → MM → Prop) : Prop :=
  (((V_Text_kind  M) = 1 →
    W_Text_goOn  N M (fun M4 =>
      W_Text_numberWithin 0 7 N M4 (fun r5 M6 =>
        ((r5 = (-1) →
          Q 0 M6) ∧
         (¬ r5 = (-1) →
          (((V_Text_kind  M6) = 2 →
            W_Text_goOn  N M6 (fun M10 =>
              W_LawReader_readCondition 0 N M10 (fun r11 M12 =>
                ((r11 = 0 →
                  Q 0 M12) ∧
                 (¬ r11 = 0 →
                  W_Law_addClause 13 1 r5 N M12 (fun M15 =>
                    Q 1 M15)))))) ∧
           (¬ (V_Text_kind  M6) = 2 →
            W_Law_addClause 13 1 r5 N M6 (fun M17 =>
              Q 1 M17)))))))) ∧
   (¬ (V_Text_kind  M) = 1 →
    (((V_Text_kind  M) = 0 →
      W_Text_goOn  N M (fun M21 =>
        W_Text_numberWithin 0 7 N M21 (fun r22 M23 =>
          ((r22 = (-1) →
            Q 0 M23) ∧
           (¬ r22 = (-1) →
            (((V_Text_kind  M23) = 2 →
              W_Text_goOn  N M23 (fun M27 =>
                W_LawReader_readCondition 0 N M27 (fun r28 M29 =>
                  ((r28 = 0 →
                    Q 0 M29) ∧
                   (¬ r28 = 0 →
                    W_Law_addClause 13 0 r22 N M29 (fun M32 =>
                      Q 1 M32)))))) ∧
             (¬ (V_Text_kind  M23) = 2 →
              W_Law_addClause 13 0 r22 N M23 (fun M34 =>
                Q 1 M34)))))))) ∧
     (¬ (V_Text_kind  M) = 0 →
      Q 0 M))))
theorem q_LawReader_readClause {X : Option (List AI)} {N : Nat} {M : MM}  {Q : Int32 → MM → Prop}  (h : W_LawReader_readClause  N M Q) : pM X N 40 0 (ea_ar 0 [.inr (.inl (some 42))]) [] M (Ri Q) := by
  refine pM_w (F2 := [(0, .inr (.inl (some 42)))]) (fun L hL => lo_cons (lo_lk hL rfl) lo_nil) ?_
  refine pM_aln rfl rfl rfl ?_
  refine pM_gr rfl rfl rfl rfl ?_
  refine pM_qVi (as := [.inr (.inl (some 3))]) (T := []) rfl rfl (fun C hC => cl_v hC rfl rfl rfl rfl) rfl (q_Text_kind ) ?_
  refine pM_ic rfl ki_1 ?_
  refine pM_cne rfl rfl (fun h1 => ?_) (fun h1 => ?_)
  · replace h := h.2 h1
    refine pM_ic rfl ki_0 ?_
    refine pM_isn rfl rfl ?_
    refine pM_iln rfl rfl ?_
    refine pM_zne rfl rfl (fun h18 => ?_) (fun h18 => ?_)
    · exact absurd (by decide) h18
    · refine pM_aln rfl rfl rfl ?_
      refine pM_gr rfl rfl rfl rfl ?_
      refine pM_qVi (as := [.inr (.inl (some 3))]) (T := []) rfl rfl (fun C hC => cl_v hC rfl rfl rfl rfl) rfl (q_Text_kind ) ?_
      refine pM_zeq rfl rfl (fun h19 => ?_) (fun h19 => ?_)
      · replace h := h.1 h19
        refine pM_aln rfl rfl rfl ?_
        refine pM_gr rfl rfl rfl rfl ?_
        refine pM_qRu (as := [.inr (.inl (some 3))]) (T := []) rfl rfl (fun C hC => cl_v hC rfl rfl rfl rfl) rfl (q_Text_goOn  h) (fun M21 h => ?_)
        refine pM_aln rfl rfl rfl ?_
        refine pM_gr rfl rfl rfl rfl ?_
        refine pM_ic rfl ki_0 ?_
        refine pM_bi rfl kb_7 ?_
        refine pM_qRi (as := [.inr (.inl (some 3)), .inl (.inl 0), .inl (.inl 7)]) (T := []) rfl rfl (fun C hC => cl_v hC rfl rfl rfl rfl) rfl (q_Text_numberWithin  h) (fun r22 M23 h => ?_)
        refine pM_isn rfl rfl ?_
        refine pM_iln rfl rfl ?_
        refine pM_ic rfl ki_m1 ?_
        refine pM_cne rfl rfl (fun h24 => ?_) (fun h24 => ?_)
        · replace h := h.2 h24
          refine pM_aln rfl rfl rfl ?_
          refine pM_gr rfl rfl rfl rfl ?_
          refine pM_qVi (as := [.inr (.inl (some 3))]) (T := []) rfl rfl (fun C hC => cl_v hC rfl rfl rfl rfl) rfl (q_Text_kind ) ?_
          refine pM_ic rfl ki_2 ?_
          refine pM_cne rfl rfl (fun h25 => ?_) (fun h25 => ?_)
          · replace h := h.2 h25
            refine pM_aln rfl rfl rfl ?_
            refine pM_gr rfl rfl rfl rfl ?_
            refine pM_iln rfl rfl ?_
            refine pM_iln rfl rfl ?_
            refine pM_qRu (as := [.inr (.inl (some 13)), .inl (.inl 0), .inl (.inl r22)]) (T := []) rfl rfl (fun C hC => cl_v hC rfl rfl rfl rfl) rfl (q_Law_addClause isK_13 h) (fun M34 h => ?_)
            refine pM_ic rfl ki_1 ?_
            exact pM_ri rfl (⟨_, rfl, h⟩)
          · replace h := h.1 h25
            refine pM_aln rfl rfl rfl ?_
            refine pM_gr rfl rfl rfl rfl ?_
            refine pM_qRu (as := [.inr (.inl (some 3))]) (T := []) rfl rfl (fun C hC => cl_v hC rfl rfl rfl rfl) rfl (q_Text_goOn  h) (fun M27 h => ?_)
            refine pM_aln rfl rfl rfl ?_
            refine pM_ic rfl ki_0 ?_
            refine pM_qRi (as := [.inr (.inl (some 42)), .inl (.inl 0)]) (T := []) rfl rfl (fun C hC => cl_v hC rfl rfl rfl rfl) rfl (q_LawReader_readCondition  h) (fun r28 M29 h => ?_)
            refine pM_zne rfl rfl (fun h30 => ?_) (fun h30 => ?_)
            · replace h := h.2 h30
              refine pM_aln rfl rfl rfl ?_
              refine pM_gr rfl rfl rfl rfl ?_
              refine pM_iln rfl rfl ?_
              refine pM_iln rfl rfl ?_
              refine pM_qRu (as := [.inr (.inl (some 13)), .inl (.inl 0), .inl (.inl r22)]) (T := []) rfl rfl (fun C hC => cl_v hC rfl rfl rfl rfl) rfl (q_Law_addClause isK_13 h) (fun M32 h => ?_)
              refine pM_ic rfl ki_1 ?_
              exact pM_ri rfl (⟨_, rfl, h⟩)
            · replace h := h.1 h30
              refine pM_ic rfl ki_0 ?_
              exact pM_ri rfl (⟨_, rfl, h⟩)
        · replace h := h.1 h24
          refine pM_ic rfl ki_0 ?_
          exact pM_ri rfl (⟨_, rfl, h⟩)
      · replace h := h.2 h19
        refine pM_ic rfl ki_0 ?_
        exact pM_ri rfl (⟨_, rfl, h⟩)
  · replace h := h.1 h1
    refine pM_ic rfl ki_1 ?_
    refine pM_go rfl rfl ?_
    refine pM_isn rfl rfl ?_
    refine pM_iln rfl rfl ?_
    refine pM_zne rfl rfl (fun h2 => ?_) (fun h2 => ?_)
    · refine pM_aln rfl rfl rfl ?_
      refine pM_gr rfl rfl rfl rfl ?_
      refine pM_qRu (as := [.inr (.inl (some 3))]) (T := []) rfl rfl (fun C hC => cl_v hC rfl rfl rfl rfl) rfl (q_Text_goOn  h) (fun M4 h => ?_)
      refine pM_aln rfl rfl rfl ?_
      refine pM_gr rfl rfl rfl rfl ?_
      refine pM_ic rfl ki_0 ?_
      refine pM_bi rfl kb_7 ?_
      refine pM_qRi (as := [.inr (.inl (some 3)), .inl (.inl 0), .inl (.inl 7)]) (T := []) rfl rfl (fun C hC => cl_v hC rfl rfl rfl rfl) rfl (q_Text_numberWithin  h) (fun r5 M6 h => ?_)
      refine pM_isn rfl rfl ?_
      refine pM_iln rfl rfl ?_
      refine pM_ic rfl ki_m1 ?_
      refine pM_cne rfl rfl (fun h7 => ?_) (fun h7 => ?_)
      · replace h := h.2 h7
        refine pM_aln rfl rfl rfl ?_
        refine pM_gr rfl rfl rfl rfl ?_
        refine pM_qVi (as := [.inr (.inl (some 3))]) (T := []) rfl rfl (fun C hC => cl_v hC rfl rfl rfl rfl) rfl (q_Text_kind ) ?_
        refine pM_ic rfl ki_2 ?_
        refine pM_cne rfl rfl (fun h8 => ?_) (fun h8 => ?_)
        · replace h := h.2 h8
          refine pM_aln rfl rfl rfl ?_
          refine pM_gr rfl rfl rfl rfl ?_
          refine pM_iln rfl rfl ?_
          refine pM_iln rfl rfl ?_
          refine pM_qRu (as := [.inr (.inl (some 13)), .inl (.inl 1), .inl (.inl r5)]) (T := []) rfl rfl (fun C hC => cl_v hC rfl rfl rfl rfl) rfl (q_Law_addClause isK_13 h) (fun M17 h => ?_)
          refine pM_ic rfl ki_1 ?_
          exact pM_ri rfl (⟨_, rfl, h⟩)
        · replace h := h.1 h8
          refine pM_aln rfl rfl rfl ?_
          refine pM_gr rfl rfl rfl rfl ?_
          refine pM_qRu (as := [.inr (.inl (some 3))]) (T := []) rfl rfl (fun C hC => cl_v hC rfl rfl rfl rfl) rfl (q_Text_goOn  h) (fun M10 h => ?_)
          refine pM_aln rfl rfl rfl ?_
          refine pM_ic rfl ki_0 ?_
          refine pM_qRi (as := [.inr (.inl (some 42)), .inl (.inl 0)]) (T := []) rfl rfl (fun C hC => cl_v hC rfl rfl rfl rfl) rfl (q_LawReader_readCondition  h) (fun r11 M12 h => ?_)
          refine pM_zne rfl rfl (fun h13 => ?_) (fun h13 => ?_)
          · replace h := h.2 h13
            refine pM_aln rfl rfl rfl ?_
            refine pM_gr rfl rfl rfl rfl ?_
            refine pM_iln rfl rfl ?_
            refine pM_iln rfl rfl ?_
            refine pM_qRu (as := [.inr (.inl (some 13)), .inl (.inl 1), .inl (.inl r5)]) (T := []) rfl rfl (fun C hC => cl_v hC rfl rfl rfl rfl) rfl (q_Law_addClause isK_13 h) (fun M15 h => ?_)
            refine pM_ic rfl ki_1 ?_
            exact pM_ri rfl (⟨_, rfl, h⟩)
          · replace h := h.1 h13
            refine pM_ic rfl ki_0 ?_
            exact pM_ri rfl (⟨_, rfl, h⟩)
      · replace h := h.1 h7
        refine pM_ic rfl ki_0 ?_
        exact pM_ri rfl (⟨_, rfl, h⟩)
    · exact absurd h2 (by decide)
/-- 97: EarCode$Text.begin()I -/
def V_Text_begin  (M : MM) : Int32 :=
  (if (M.1 3 5) < (M.1 3 4) then
    (M.1 5 (ni (M.1 3 5)))
  else
    0)
theorem q_Text_begin {X : Option (List AI)} {N : Nat} {M : MM}   : pM X N 97 0 (ea_ar 0 [.inr (.inl (some 3))]) [] M (Vi (V_Text_begin  M) M) := by
  refine pM_w (F2 := [(0, .inr (.inl (some 3)))]) (fun L hL => lo_cons (lo_lk hL rfl) lo_nil) ?_
  refine pM_aln rfl rfl rfl ?_
  refine pM_gi rfl rfl rfl rfl ?_
  refine pM_aln rfl rfl rfl ?_
  refine pM_gi rfl rfl rfl rfl ?_
  refine pM_cge rfl rfl (fun h1 => ?_) (fun h1 => ?_)
  · refine pM_ic rfl ki_0 ?_
    exact pM_rVi rfl (Eq.trans (if_neg h1) rfl)
  · refine pM_aln rfl rfl rfl ?_
    refine pM_gr rfl rfl rfl rfl ?_
    refine pM_aln rfl rfl rfl ?_
    refine pM_gi rfl rfl rfl rfl ?_
    refine pM_ai rfl rfl (one_p _) ?_
    refine pM_go rfl rfl ?_
    exact pM_rVi rfl (Eq.trans (if_pos h1) rfl)
def B_LawReader_readAll_31 (Q : Int32 → MM → Prop) (N : Nat) (ih : Int32 → MM → Prop) (v1 : Int32) (M : MM) : Prop :=
  ((v1 < 12 →
    W_LawReader_readClause  N M (fun r5 M6 =>
      ((r5 = 0 →
        Q (V_Text_begin  M6) M6) ∧
       (¬ r5 = 0 →
        (((V_Text_kind  M6) = 21 →
          Q (-1) M6) ∧
         (¬ (V_Text_kind  M6) = 21 →
          (((V_Text_kind  M6) = 59 →
            W_Text_goOn  N M6 (fun M11 =>
              ih (v1 + 1) M11)) ∧
           (¬ (V_Text_kind  M6) = 59 →
            Q (V_Text_begin  M6) M6)))))))) ∧
   (¬ v1 < 12 →
    Q (V_Text_begin  M) M))
def W_LawReader_readAll_31 (Q : Int32 → MM → Prop) : Nat → Int32 → MM → Prop
  | 0, _, _ => True
  | N + 1, v1, M => B_LawReader_readAll_31 Q N (W_LawReader_readAll_31 Q N) v1 M
theorem I_LawReader_readAll_31 (Q : Int32 → MM → Prop) (inv : Int32 → MM → Prop) (hs : ∀ (N : Nat) (ih : Int32 → MM → Prop) (v1 : Int32) (M : MM), (∀ (v1 : Int32) (M : MM), inv v1 M → ih v1 M) → inv v1 M → B_LawReader_readAll_31 Q N ih v1 M) : ∀ (N : Nat) (v1 : Int32) (M : MM), inv v1 M → W_LawReader_readAll_31 Q N v1 M := by
  intro N
  induction N with
  | zero => intros; trivial
  | succ N IH =>
    intro v1 M h
    exact hs N _ v1 M IH h
theorem q_LawReader_readAll_31 {X : Option (List AI)} {N0 : Nat} {Q : Int32 → MM → Prop}   : ∀ (N : Nat), N ≤ N0 → ∀ (v1 : Int32) (M : MM), W_LawReader_readAll_31 Q N v1 M → pM X N 39 31 [(0, .inr (.inl (some 42))), (1, .inl (.inl v1))] [] M (Ri Q) := by
  intro N
  induction N with
  | zero => intros; exact pM_zero
  | succ N IH =>
    intro hN v1 M h
    replace hN := Nat.le_of_succ_le hN
    replace h : B_LawReader_readAll_31 Q N (W_LawReader_readAll_31 Q N) v1 M := h
    refine pM_s (pMs_iln rfl rfl ?_)
    refine pM_bi rfl kb_12 ?_
    refine pM_cge rfl rfl (fun h4 => ?_) (fun h4 => ?_)
    · replace h := h.2 h4
      refine pM_aln rfl rfl rfl ?_
      refine pM_gr rfl rfl rfl rfl ?_
      refine pM_qVi (as := [.inr (.inl (some 3))]) (T := []) rfl rfl (fun C hC => cl_v hC rfl rfl rfl rfl) rfl (q_Text_begin ) ?_
      exact pM_ri rfl (⟨_, rfl, h⟩)
    · replace h := h.1 h4
      refine pM_aln rfl rfl rfl ?_
      refine pM_qRi (as := [.inr (.inl (some 42))]) (T := []) rfl rfl (fun C hC => cl_v hC rfl rfl rfl rfl) rfl (q_LawReader_readClause  h) (fun r5 M6 h => ?_)
      refine pM_zne rfl rfl (fun h7 => ?_) (fun h7 => ?_)
      · replace h := h.2 h7
        refine pM_aln rfl rfl rfl ?_
        refine pM_gr rfl rfl rfl rfl ?_
        refine pM_qVi (as := [.inr (.inl (some 3))]) (T := []) rfl rfl (fun C hC => cl_v hC rfl rfl rfl rfl) rfl (q_Text_kind ) ?_
        refine pM_bi rfl kb_21 ?_
        refine pM_cne rfl rfl (fun h8 => ?_) (fun h8 => ?_)
        · replace h := h.2 h8
          refine pM_aln rfl rfl rfl ?_
          refine pM_gr rfl rfl rfl rfl ?_
          refine pM_qVi (as := [.inr (.inl (some 3))]) (T := []) rfl rfl (fun C hC => cl_v hC rfl rfl rfl rfl) rfl (q_Text_kind ) ?_
          refine pM_bi rfl kb_59 ?_
          refine pM_ceq rfl rfl (fun h9 => ?_) (fun h9 => ?_)
          · replace h := h.1 h9
            refine pM_aln rfl rfl rfl ?_
            refine pM_gr rfl rfl rfl rfl ?_
            refine pM_qRu (as := [.inr (.inl (some 3))]) (T := []) rfl rfl (fun C hC => cl_v hC rfl rfl rfl rfl) rfl (q_Text_goOn  h) (fun M11 h => ?_)
            refine pM_ii rfl rfl rfl ki_1 ?_
            refine pM_go rfl rfl ?_
            refine pM_w (F2 := [(0, .inr (.inl (some 42))), (1, .inl (.inl (v1 + 1)))]) (fun L hL => lo_cons (lo_lk hL rfl) (lo_cons (lo_lk hL rfl) lo_nil)) ?_
            exact IH hN (v1 + 1) M11 h
          · replace h := h.2 h9
            refine pM_aln rfl rfl rfl ?_
            refine pM_gr rfl rfl rfl rfl ?_
            refine pM_qVi (as := [.inr (.inl (some 3))]) (T := []) rfl rfl (fun C hC => cl_v hC rfl rfl rfl rfl) rfl (q_Text_begin ) ?_
            exact pM_ri rfl (⟨_, rfl, h⟩)
        · replace h := h.1 h8
          refine pM_ic rfl ki_m1 ?_
          exact pM_ri rfl (⟨_, rfl, h⟩)
      · replace h := h.1 h7
        refine pM_aln rfl rfl rfl ?_
        refine pM_gr rfl rfl rfl rfl ?_
        refine pM_qVi (as := [.inr (.inl (some 3))]) (T := []) rfl rfl (fun C hC => cl_v hC rfl rfl rfl rfl) rfl (q_Text_begin ) ?_
        exact pM_ri rfl (⟨_, rfl, h⟩)
/-- 39: EarCode$LawReader.readAll()I -/
def W_LawReader_readAll  (N : Nat) (M : MM) (Q : Int32 → MM → Prop) : Prop :=
  W_Law_clear 13 N M (fun M2 =>
    (((V_Text_kind  (wi M2 13 0 1)) = 21 →
      Q (-1) (wi M2 13 0 1)) ∧
     (¬ (V_Text_kind  (wi M2 13 0 1)) = 21 →
      W_LawReader_readAll_31 Q N 0 (wi M2 13 0 1))))
theorem q_LawReader_readAll {X : Option (List AI)} {N : Nat} {M : MM}  {Q : Int32 → MM → Prop}  (h : W_LawReader_readAll  N M Q) : pM X N 39 0 (ea_ar 0 [.inr (.inl (some 42))]) [] M (Ri Q) := by
  refine pM_w (F2 := [(0, .inr (.inl (some 42)))]) (fun L hL => lo_cons (lo_lk hL rfl) lo_nil) ?_
  refine pM_aln rfl rfl rfl ?_
  refine pM_gr rfl rfl rfl rfl ?_
  refine pM_qRu (as := [.inr (.inl (some 13))]) (T := []) rfl rfl (fun C hC => cl_v hC rfl rfl rfl rfl) rfl (q_Law_clear isK_13 h) (fun M2 h => ?_)
  refine pM_aln rfl rfl rfl ?_
  refine pM_gr rfl rfl rfl rfl ?_
  refine pM_ic rfl ki_1 ?_
  refine pM_pi rfl rfl rfl rfl ?_
  refine pM_aln rfl rfl rfl ?_
  refine pM_gr rfl rfl rfl rfl ?_
  refine pM_qVi (as := [.inr (.inl (some 3))]) (T := []) rfl rfl (fun C hC => cl_v hC rfl rfl rfl rfl) rfl (q_Text_kind ) ?_
  refine pM_bi rfl kb_21 ?_
  refine pM_cne rfl rfl (fun h3 => ?_) (fun h3 => ?_)
  · replace h := h.2 h3
    refine pM_ic rfl ki_0 ?_
    refine pM_isn rfl rfl ?_
    refine pM_w (F2 := [(0, .inr (.inl (some 42))), (1, .inl (.inl 0))]) (fun L hL => lo_cons (lo_lk hL rfl) (lo_cons (lo_lk hL rfl) lo_nil)) ?_
    refine q_LawReader_readAll_31   N (Nat.le_refl N) 0 (wi M2 13 0 1) h
  · replace h := h.1 h3
    refine pM_ic rfl ki_m1 ?_
    exact pM_ri rfl (⟨_, rfl, h⟩)
/-- 46: EarCode$Log.become(LEarCode$Log;)V -/
def W_Log_become (a : Nat) (b : Nat) (N : Nat) (M : MM) (Q : MM → Prop) : Prop :=
  Q (wi (wi (cpM M 0 (b + 1) (a + 1)) a 1 ((cpM M 0 (b + 1) (a + 1)).1 b 1)) a 2 ((wi (cpM M 0 (b + 1) (a + 1)) a 1 ((cpM M 0 (b + 1) (a + 1)).1 b 1)).1 b 2))
theorem q_Log_become {X : Option (List AI)} {N : Nat} {M : MM} {a : Nat} {b : Nat} {Q : MM → Prop} (ha : isG a) (hb : isG b) (h : W_Log_become a b N M Q) : pM X N 46 0 (ea_ar 0 [.inr (.inl (some a)), .inr (.inl (some b))]) [] M (Ru Q) := by
  refine pM_w (F2 := [(0, .inr (.inl (some a))), (1, .inr (.inl (some b)))]) (fun L hL => lo_cons (lo_lk hL rfl) (lo_cons (lo_lk hL rfl) lo_nil)) ?_
  refine pM_aln rfl rfl rfl ?_
  refine pM_gr rfl rfl hb.1 rfl ?_
  refine pM_ic rfl ki_0 ?_
  refine pM_aln rfl rfl rfl ?_
  refine pM_gr rfl rfl ha.1 rfl ?_
  refine pM_ic rfl ki_0 ?_
  refine pM_aln rfl rfl rfl ?_
  refine pM_gr rfl rfl ha.1 rfl ?_
  refine pM_len rfl ha.2 kn_240 ?_
  refine pM_cy rfl rfl hb.2 ha.2 (fun _ => (one_p _)) ?_
  refine pM_aln rfl rfl rfl ?_
  refine pM_aln rfl rfl rfl ?_
  refine pM_gi rfl rfl hb.1 rfl ?_
  refine pM_pi rfl rfl ha.1 rfl ?_
  refine pM_aln rfl rfl rfl ?_
  refine pM_aln rfl rfl rfl ?_
  refine pM_gi rfl rfl hb.1 rfl ?_
  refine pM_pi rfl rfl ha.1 rfl ?_
  exact pM_ru rfl (⟨rfl, h⟩)
