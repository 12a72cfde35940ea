/-! WHAT EACH METHOD COMES TO (gw.py) -/
def B_LawReader_readCondition_366_7 (p1 : Int32) (Q : Int32 → MM → Prop) (N : Nat) (ih : Int32 → Int32 → Int32 → MM → Prop) (v2 : Int32) (v3 : Int32) (v4 : Int32) (M : MM) : Prop :=
  ((v4 < 400 →
    W_LawReader_readAtom_367 p1 N M (fun r2 M3 =>
      ((r2 = 0 →
        Q 0 M3) ∧
       (¬ r2 = 0 →
        ((v2 = 0 →
          (((V_Text_kind  M3) = 4 →
            W_Text_goOn  N M3 (fun M9 =>
              ih 1 v3 (v4 + 1) M9)) ∧
           (¬ (V_Text_kind  M3) = 4 →
            ((v3 = 0 →
              (((V_Text_kind  M3) = 3 →
                W_Text_goOn  N M3 (fun M15 =>
                  ih 0 1 (v4 + 1) M15)) ∧
               (¬ (V_Text_kind  M3) = 3 →
                Q 1 M3))) ∧
             (¬ v3 = 0 →
              W_Law_addStep 13 (-4) N M3 (fun M18 =>
                (((V_Text_kind  M18) = 3 →
                  W_Text_goOn  N M18 (fun M22 =>
                    ih 0 1 (v4 + 1) M22)) ∧
                 (¬ (V_Text_kind  M18) = 3 →
                  Q 1 M18)))))))) ∧
         (¬ v2 = 0 →
          W_Law_addStep 13 (-3) N M3 (fun M25 =>
            (((V_Text_kind  M25) = 4 →
              W_Text_goOn  N M25 (fun M29 =>
                ih 1 v3 (v4 + 1) M29)) ∧
             (¬ (V_Text_kind  M25) = 4 →
              ((v3 = 0 →
                (((V_Text_kind  M25) = 3 →
                  W_Text_goOn  N M25 (fun M35 =>
                    ih 0 1 (v4 + 1) M35)) ∧
                 (¬ (V_Text_kind  M25) = 3 →
                  Q 1 M25))) ∧
               (¬ v3 = 0 →
                W_Law_addStep 13 (-4) N M25 (fun M38 =>
                  (((V_Text_kind  M38) = 3 →
                    W_Text_goOn  N M38 (fun M42 =>
                      ih 0 1 (v4 + 1) M42)) ∧
                   (¬ (V_Text_kind  M38) = 3 →
                    Q 1 M38)))))))))))))) ∧
   (¬ v4 < 400 →
    Q 0 M))
def W_LawReader_readCondition_366_7 (p1 : Int32) (Q : Int32 → MM → Prop) : Nat → Int32 → Int32 → Int32 → MM → Prop
  | 0, _, _, _, _ => True
  | N + 1, v2, v3, v4, M => B_LawReader_readCondition_366_7 p1 Q N (W_LawReader_readCondition_366_7 p1 Q N) v2 v3 v4 M
theorem I_LawReader_readCondition_366_7 (p1 : Int32) (Q : Int32 → MM → Prop) (inv : Int32 → Int32 → Int32 → MM → Prop) (hs : ∀ (N : Nat) (ih : Int32 → Int32 → Int32 → MM → Prop) (v2 : Int32) (v3 : Int32) (v4 : Int32) (M : MM), (∀ (v2 : Int32) (v3 : Int32) (v4 : Int32) (M : MM), inv v2 v3 v4 M → ih v2 v3 v4 M) → inv v2 v3 v4 M → B_LawReader_readCondition_366_7 p1 Q N ih v2 v3 v4 M) : ∀ (N : Nat) (v2 : Int32) (v3 : Int32) (v4 : Int32) (M : MM), inv v2 v3 v4 M → W_LawReader_readCondition_366_7 p1 Q N v2 v3 v4 M := by
  intro N
  induction N with
  | zero => intros; trivial
  | succ N IH =>
    intro v2 v3 v4 M h
    exact hs N _ v2 v3 v4 M IH h
theorem q_LawReader_readCondition_366_7 {X : Option (List AI)} {N0 : Nat} {p1 : Int32} {Q : Int32 → MM → Prop}   : ∀ (N : Nat), N ≤ N0 → ∀ (v2 : Int32) (v3 : Int32) (v4 : Int32) (M : MM), W_LawReader_readCondition_366_7 p1 Q N v2 v3 v4 M → pM X N 366 7 [(0, .inr (.inl (some 42))), (1, .inl (.inl p1)), (2, .inl (.inl v2)), (3, .inl (.inl v3)), (4, .inl (.inl v4))] [] M (Ri Q) := by
  intro N
  induction N with
  | zero => intros; exact pM_zero
  | succ N IH =>
    intro hN v2 v3 v4 M h
    replace hN := Nat.le_of_succ_le hN
    replace h : B_LawReader_readCondition_366_7 p1 Q N (W_LawReader_readCondition_366_7 p1 Q N) v2 v3 v4 M := h
    refine pM_s (pMs_il rfl rfl ?_)
    refine pM_si rfl ks_400 ?_
    refine pM_cge rfl rfl (fun h1 => ?_) (fun h1 => ?_)
    · replace h := h.2 h1
      refine pM_ic rfl ki_0 ?_
      exact pM_ri rfl (⟨_, rfl, h⟩)
    · replace h := h.1 h1
      refine pM_aln rfl rfl rfl ?_
      refine pM_iln rfl rfl ?_
      refine pM_qRi (as := [.inr (.inl (some 42)), .inl (.inl p1)]) (T := []) rfl rfl (fun C hC => cl_v hC rfl rfl rfl rfl) rfl (q_LawReader_readAtom_367  h) (fun r2 M3 h => ?_)
      refine pM_zne rfl rfl (fun h4 => ?_) (fun h4 => ?_)
      · replace h := h.2 h4
        refine pM_iln rfl rfl ?_
        refine pM_zeq rfl rfl (fun h5 => ?_) (fun h5 => ?_)
        · replace h := h.1 h5
          refine pM_aln rfl rfl rfl ?_
          refine pM_gr rfl rfl rfl rfl ?_
          refine pM_qVi (as := [.inr (.inl (some 3))]) (T := []) rfl rfl (fun C hC => cl_v hC rfl rfl rfl rfl) rfl (q_Text_kind ) ?_
          refine pM_ic rfl ki_4 ?_
          refine pM_cne rfl rfl (fun h6 => ?_) (fun h6 => ?_)
          · replace h := h.2 h6
            refine pM_ic rfl ki_0 ?_
            refine pM_isn rfl rfl ?_
            refine pM_iln rfl rfl ?_
            refine pM_zne rfl rfl (fun h10 => ?_) (fun h10 => ?_)
            · exact absurd (by decide) h10
            · refine pM_iln rfl rfl ?_
              refine pM_zeq rfl rfl (fun h11 => ?_) (fun h11 => ?_)
              · replace h := h.1 h11
                refine pM_aln rfl rfl rfl ?_
                refine pM_gr rfl rfl rfl rfl ?_
                refine pM_qVi (as := [.inr (.inl (some 3))]) (T := []) rfl rfl (fun C hC => cl_v hC rfl rfl rfl rfl) rfl (q_Text_kind ) ?_
                refine pM_ic rfl ki_3 ?_
                refine pM_cne rfl rfl (fun h12 => ?_) (fun h12 => ?_)
                · replace h := h.2 h12
                  refine pM_ic rfl ki_0 ?_
                  refine pM_isn rfl rfl ?_
                  refine pM_iln rfl rfl ?_
                  refine pM_zne rfl rfl (fun h16 => ?_) (fun h16 => ?_)
                  · exact absurd (by decide) h16
                  · refine pM_ic rfl ki_1 ?_
                    exact pM_ri rfl (⟨_, rfl, h⟩)
                · replace h := h.1 h12
                  refine pM_ic rfl ki_1 ?_
                  refine pM_go rfl rfl ?_
                  refine pM_isn rfl rfl ?_
                  refine pM_iln rfl rfl ?_
                  refine pM_zne rfl rfl (fun h13 => ?_) (fun h13 => ?_)
                  · refine pM_aln rfl rfl rfl ?_
                    refine pM_gr rfl rfl rfl rfl ?_
                    refine pM_qRu (as := [.inr (.inl (some 3))]) (T := []) rfl rfl (fun C hC => cl_v hC rfl rfl rfl rfl) rfl (q_Text_goOn  h) (fun M15 h => ?_)
                    refine pM_ii rfl rfl rfl ki_1 ?_
                    refine pM_go rfl rfl ?_
                    refine pM_w (F2 := [(0, .inr (.inl (some 42))), (1, .inl (.inl p1)), (2, .inl (.inl 0)), (3, .inl (.inl 1)), (4, .inl (.inl (v4 + 1)))]) (fun L hL => lo_cons (lo_lk hL rfl) (lo_cons (lo_lk hL rfl) (lo_cons (lo_lk hL rfl) (lo_cons (lo_lk hL rfl) (lo_cons (lo_lk hL rfl) lo_nil))))) ?_
                    exact IH hN 0 1 (v4 + 1) M15 h
                  · exact absurd h13 (by decide)
              · replace h := h.2 h11
                refine pM_aln rfl rfl rfl ?_
                refine pM_gr rfl rfl rfl rfl ?_
                refine pM_bi rfl kb_m4 ?_
                refine pM_qRu (as := [.inr (.inl (some 13)), .inl (.inl (-4))]) (T := []) rfl rfl (fun C hC => cl_v hC rfl rfl rfl rfl) rfl (q_Law_addStep isK_13 h) (fun M18 h => ?_)
                refine pM_aln rfl rfl rfl ?_
                refine pM_gr rfl rfl rfl rfl ?_
                refine pM_qVi (as := [.inr (.inl (some 3))]) (T := []) rfl rfl (fun C hC => cl_v hC rfl rfl rfl rfl) rfl (q_Text_kind ) ?_
                refine pM_ic rfl ki_3 ?_
                refine pM_cne rfl rfl (fun h19 => ?_) (fun h19 => ?_)
                · replace h := h.2 h19
                  refine pM_ic rfl ki_0 ?_
                  refine pM_isn rfl rfl ?_
                  refine pM_iln rfl rfl ?_
                  refine pM_zne rfl rfl (fun h23 => ?_) (fun h23 => ?_)
                  · exact absurd (by decide) h23
                  · refine pM_ic rfl ki_1 ?_
                    exact pM_ri rfl (⟨_, rfl, h⟩)
                · replace h := h.1 h19
                  refine pM_ic rfl ki_1 ?_
                  refine pM_go rfl rfl ?_
                  refine pM_isn rfl rfl ?_
                  refine pM_iln rfl rfl ?_
                  refine pM_zne rfl rfl (fun h20 => ?_) (fun h20 => ?_)
                  · refine pM_aln rfl rfl rfl ?_
                    refine pM_gr rfl rfl rfl rfl ?_
                    refine pM_qRu (as := [.inr (.inl (some 3))]) (T := []) rfl rfl (fun C hC => cl_v hC rfl rfl rfl rfl) rfl (q_Text_goOn  h) (fun M22 h => ?_)
                    refine pM_ii rfl rfl rfl ki_1 ?_
                    refine pM_go rfl rfl ?_
                    refine pM_w (F2 := [(0, .inr (.inl (some 42))), (1, .inl (.inl p1)), (2, .inl (.inl 0)), (3, .inl (.inl 1)), (4, .inl (.inl (v4 + 1)))]) (fun L hL => lo_cons (lo_lk hL rfl) (lo_cons (lo_lk hL rfl) (lo_cons (lo_lk hL rfl) (lo_cons (lo_lk hL rfl) (lo_cons (lo_lk hL rfl) lo_nil))))) ?_
                    exact IH hN 0 1 (v4 + 1) M22 h
                  · exact absurd h20 (by decide)
          · replace h := h.1 h6
            refine pM_ic rfl ki_1 ?_
            refine pM_go rfl rfl ?_
            refine pM_isn rfl rfl ?_
            refine pM_iln rfl rfl ?_
            refine pM_zne rfl rfl (fun h7 => ?_) (fun h7 => ?_)
            · refine pM_aln rfl rfl rfl ?_
              refine pM_gr rfl rfl rfl rfl ?_
              refine pM_qRu (as := [.inr (.inl (some 3))]) (T := []) rfl rfl (fun C hC => cl_v hC rfl rfl rfl rfl) rfl (q_Text_goOn  h) (fun M9 h => ?_)
              refine pM_ii rfl rfl rfl ki_1 ?_
              refine pM_go rfl rfl ?_
              refine pM_w (F2 := [(0, .inr (.inl (some 42))), (1, .inl (.inl p1)), (2, .inl (.inl 1)), (3, .inl (.inl v3)), (4, .inl (.inl (v4 + 1)))]) (fun L hL => lo_cons (lo_lk hL rfl) (lo_cons (lo_lk hL rfl) (lo_cons (lo_lk hL rfl) (lo_cons (lo_lk hL rfl) (lo_cons (lo_lk hL rfl) lo_nil))))) ?_
              exact IH hN 1 v3 (v4 + 1) M9 h
            · exact absurd h7 (by decide)
        · replace h := h.2 h5
          refine pM_aln rfl rfl rfl ?_
          refine pM_gr rfl rfl rfl rfl ?_
          refine pM_bi rfl kb_m3 ?_
          refine pM_qRu (as := [.inr (.inl (some 13)), .inl (.inl (-3))]) (T := []) rfl rfl (fun C hC => cl_v hC rfl rfl rfl rfl) rfl (q_Law_addStep isK_13 h) (fun M25 h => ?_)
          refine pM_aln rfl rfl rfl ?_
          refine pM_gr rfl rfl rfl rfl ?_
          refine pM_qVi (as := [.inr (.inl (some 3))]) (T := []) rfl rfl (fun C hC => cl_v hC rfl rfl rfl rfl) rfl (q_Text_kind ) ?_
          refine pM_ic rfl ki_4 ?_
          refine pM_cne rfl rfl (fun h26 => ?_) (fun h26 => ?_)
          · replace h := h.2 h26
            refine pM_ic rfl ki_0 ?_
            refine pM_isn rfl rfl ?_
            refine pM_iln rfl rfl ?_
            refine pM_zne rfl rfl (fun h30 => ?_) (fun h30 => ?_)
            · exact absurd (by decide) h30
            · refine pM_iln rfl rfl ?_
              refine pM_zeq rfl rfl (fun h31 => ?_) (fun h31 => ?_)
              · replace h := h.1 h31
                refine pM_aln rfl rfl rfl ?_
                refine pM_gr rfl rfl rfl rfl ?_
                refine pM_qVi (as := [.inr (.inl (some 3))]) (T := []) rfl rfl (fun C hC => cl_v hC rfl rfl rfl rfl) rfl (q_Text_kind ) ?_
                refine pM_ic rfl ki_3 ?_
                refine pM_cne rfl rfl (fun h32 => ?_) (fun h32 => ?_)
                · replace h := h.2 h32
                  refine pM_ic rfl ki_0 ?_
                  refine pM_isn rfl rfl ?_
                  refine pM_iln rfl rfl ?_
                  refine pM_zne rfl rfl (fun h36 => ?_) (fun h36 => ?_)
                  · exact absurd (by decide) h36
                  · refine pM_ic rfl ki_1 ?_
                    exact pM_ri rfl (⟨_, rfl, h⟩)
                · replace h := h.1 h32
                  refine pM_ic rfl ki_1 ?_
                  refine pM_go rfl rfl ?_
                  refine pM_isn rfl rfl ?_
                  refine pM_iln rfl rfl ?_
                  refine pM_zne rfl rfl (fun h33 => ?_) (fun h33 => ?_)
                  · refine pM_aln rfl rfl rfl ?_
                    refine pM_gr rfl rfl rfl rfl ?_
                    refine pM_qRu (as := [.inr (.inl (some 3))]) (T := []) rfl rfl (fun C hC => cl_v hC rfl rfl rfl rfl) rfl (q_Text_goOn  h) (fun M35 h => ?_)
                    refine pM_ii rfl rfl rfl ki_1 ?_
                    refine pM_go rfl rfl ?_
                    refine pM_w (F2 := [(0, .inr (.inl (some 42))), (1, .inl (.inl p1)), (2, .inl (.inl 0)), (3, .inl (.inl 1)), (4, .inl (.inl (v4 + 1)))]) (fun L hL => lo_cons (lo_lk hL rfl) (lo_cons (lo_lk hL rfl) (lo_cons (lo_lk hL rfl) (lo_cons (lo_lk hL rfl) (lo_cons (lo_lk hL rfl) lo_nil))))) ?_
                    exact IH hN 0 1 (v4 + 1) M35 h
                  · exact absurd h33 (by decide)
              · replace h := h.2 h31
                refine pM_aln rfl rfl rfl ?_
                refine pM_gr rfl rfl rfl rfl ?_
                refine pM_bi rfl kb_m4 ?_
                refine pM_qRu (as := [.inr (.inl (some 13)), .inl (.inl (-4))]) (T := []) rfl rfl (fun C hC => cl_v hC rfl rfl rfl rfl) rfl (q_Law_addStep isK_13 h) (fun M38 h => ?_)
                refine pM_aln rfl rfl rfl ?_
                refine pM_gr rfl rfl rfl rfl ?_
                refine pM_qVi (as := [.inr (.inl (some 3))]) (T := []) rfl rfl (fun C hC => cl_v hC rfl rfl rfl rfl) rfl (q_Text_kind ) ?_
                refine pM_ic rfl ki_3 ?_
                refine pM_cne rfl rfl (fun h39 => ?_) (fun h39 => ?_)
                · replace h := h.2 h39
                  refine pM_ic rfl ki_0 ?_
                  refine pM_isn rfl rfl ?_
                  refine pM_iln rfl rfl ?_
                  refine pM_zne rfl rfl (fun h43 => ?_) (fun h43 => ?_)
                  · exact absurd (by decide) h43
                  · refine pM_ic rfl ki_1 ?_
                    exact pM_ri rfl (⟨_, rfl, h⟩)
                · replace h := h.1 h39
                  refine pM_ic rfl ki_1 ?_
                  refine pM_go rfl rfl ?_
                  refine pM_isn rfl rfl ?_
                  refine pM_iln rfl rfl ?_
                  refine pM_zne rfl rfl (fun h40 => ?_) (fun h40 => ?_)
                  · refine pM_aln rfl rfl rfl ?_
                    refine pM_gr rfl rfl rfl rfl ?_
                    refine pM_qRu (as := [.inr (.inl (some 3))]) (T := []) rfl rfl (fun C hC => cl_v hC rfl rfl rfl rfl) rfl (q_Text_goOn  h) (fun M42 h => ?_)
                    refine pM_ii rfl rfl rfl ki_1 ?_
                    refine pM_go rfl rfl ?_
                    refine pM_w (F2 := [(0, .inr (.inl (some 42))), (1, .inl (.inl p1)), (2, .inl (.inl 0)), (3, .inl (.inl 1)), (4, .inl (.inl (v4 + 1)))]) (fun L hL => lo_cons (lo_lk hL rfl) (lo_cons (lo_lk hL rfl) (lo_cons (lo_lk hL rfl) (lo_cons (lo_lk hL rfl) (lo_cons (lo_lk hL rfl) lo_nil))))) ?_
                    exact IH hN 0 1 (v4 + 1) M42 h
                  · exact absurd h40 (by decide)
          · replace h := h.1 h26
            refine pM_ic rfl ki_1 ?_
            refine pM_go rfl rfl ?_
            refine pM_isn rfl rfl ?_
            refine pM_iln rfl rfl ?_
            refine pM_zne rfl rfl (fun h27 => ?_) (fun h27 => ?_)
            · refine pM_aln rfl rfl rfl ?_
              refine pM_gr rfl rfl rfl rfl ?_
              refine pM_qRu (as := [.inr (.inl (some 3))]) (T := []) rfl rfl (fun C hC => cl_v hC rfl rfl rfl rfl) rfl (q_Text_goOn  h) (fun M29 h => ?_)
              refine pM_ii rfl rfl rfl ki_1 ?_
              refine pM_go rfl rfl ?_
              refine pM_w (F2 := [(0, .inr (.inl (some 42))), (1, .inl (.inl p1)), (2, .inl (.inl 1)), (3, .inl (.inl v3)), (4, .inl (.inl (v4 + 1)))]) (fun L hL => lo_cons (lo_lk hL rfl) (lo_cons (lo_lk hL rfl) (lo_cons (lo_lk hL rfl) (lo_cons (lo_lk hL rfl) (lo_cons (lo_lk hL rfl) lo_nil))))) ?_
              exact IH hN 1 v3 (v4 + 1) M29 h
            · exact absurd h27 (by decide)
      · replace h := h.1 h4
        refine pM_ic rfl ki_0 ?_
        exact pM_ri rfl (⟨_, rfl, h⟩)
/-- 366: EarCode$LawReader.readCondition(I)Z -/
def W_LawReader_readCondition_366 (p1 : Int32) (N : Nat) (M : MM) (Q : Int32 → MM → Prop) : Prop :=
  W_LawReader_readCondition_366_7 p1 Q N 0 0 0 M
theorem q_LawReader_readCondition_366 {X : Option (List AI)} {N : Nat} {M : MM} {p1 : Int32} {Q : Int32 → MM → Prop}  (h : W_LawReader_readCondition_366 p1 N M Q) : pM X N 366 0 (ea_ar 0 [.inr (.inl (some 42)), .inl (.inl p1)]) [] M (Ri Q) := by
  refine pM_w (F2 := [(0, .inr (.inl (some 42))), (1, .inl (.inl p1))]) (fun L hL => lo_cons (lo_lk hL rfl) (lo_cons (lo_lk hL rfl) lo_nil)) ?_
  refine pM_ic rfl ki_0 ?_
  refine pM_isn rfl rfl ?_
  refine pM_ic rfl ki_0 ?_
  refine pM_isn rfl rfl ?_
  refine pM_ic rfl ki_0 ?_
  refine pM_is rfl rfl ?_
  refine pM_w (F2 := [(0, .inr (.inl (some 42))), (1, .inl (.inl p1)), (2, .inl (.inl 0)), (3, .inl (.inl 0)), (4, .inl (.inl 0))]) (fun L hL => lo_cons (lo_lk hL rfl) (lo_cons (lo_lk hL rfl) (lo_cons (lo_lk hL rfl) (lo_cons (lo_lk hL rfl) (lo_cons (lo_lk hL rfl) lo_nil))))) ?_
  refine q_LawReader_readCondition_366_7   N (Nat.le_refl N) 0 0 0 M h
/-- 365: EarCode$LawReader.readAtom(I)Z -/
def W_LawReader_readAtom_365 (p1 : Int32) (N : Nat) (M : MM) (Q : Int32 → MM → Prop) : Prop :=
  (((V_Text_kind  M) = 6 →
    W_Text_goOn  N M (fun M3 =>
      W_Law_addStep 13 (-1) N M3 (fun M5 =>
        Q 1 M5))) ∧
   (¬ (V_Text_kind  M) = 6 →
    (((V_Text_kind  M) = 5 →
      ((p1 < 6 →
        W_Text_goOn  N M (fun M9 =>
          (((V_Text_kind  M) = 5 →
            W_LawReader_readAtom_367 (p1 + 1) N M9 (fun r11 M12 =>
              ((r11 = 0 →
                Q 0 M12) ∧
               (¬ r11 = 0 →
                W_Law_addStep 13 (-2) N M12 (fun M15 =>
                  Q 1 M15))))) ∧
           (¬ (V_Text_kind  M) = 5 →
            W_LawReader_readCondition_366 (p1 + 1) N M9 (fun r16 M17 =>
              ((r16 = 0 →
                Q 0 M17) ∧
               (¬ r16 = 0 →
                (((V_Text_kind  M17) = 41 →
                  W_Text_goOn  N M17 (fun M21 =>
                    Q 1 M21)) ∧
                 (¬ (V_Text_kind  M17) = 41 →
                  Q 0 M17))))))))) ∧
       (¬ p1 < 6 →
        Q 0 M))) ∧
     (¬ (V_Text_kind  M) = 5 →
      (((V_Text_kind  M) = 40 →
        ((p1 < 6 →
          W_Text_goOn  N M (fun M25 =>
            (((V_Text_kind  M) = 5 →
              W_LawReader_readAtom_367 (p1 + 1) N M25 (fun r27 M28 =>
                ((r27 = 0 →
                  Q 0 M28) ∧
                 (¬ r27 = 0 →
                  W_Law_addStep 13 (-2) N M28 (fun M31 =>
                    Q 1 M31))))) ∧
             (¬ (V_Text_kind  M) = 5 →
              W_LawReader_readCondition_366 (p1 + 1) N M25 (fun r32 M33 =>
                ((r32 = 0 →
                  Q 0 M33) ∧
                 (¬ r32 = 0 →
                  (((V_Text_kind  M33) = 41 →
                    W_Text_goOn  N M33 (fun M37 =>
                      Q 1 M37)) ∧
                   (¬ (V_Text_kind  M33) = 41 →
                    Q 0 M33))))))))) ∧
         (¬ p1 < 6 →
          Q 0 M))) ∧
       (¬ (V_Text_kind  M) = 40 →
        W_LawReader_readComparison  N M (fun r38 M39 =>
          Q r38 M39)))))))
theorem q_LawReader_readAtom_365 {X : Option (List AI)} {N : Nat} {M : MM} {p1 : Int32} {Q : Int32 → MM → Prop}  (h : W_LawReader_readAtom_365 p1 N M Q) : pM X N 365 0 (ea_ar 0 [.inr (.inl (some 42)), .inl (.inl p1)]) [] M (Ri Q) := by
  refine pM_w (F2 := [(0, .inr (.inl (some 42))), (1, .inl (.inl p1))]) (fun L hL => lo_cons (lo_lk hL rfl) (lo_cons (lo_lk hL rfl) lo_nil)) ?_
  refine pM_aln rfl rfl rfl ?_
  refine pM_gr rfl rfl rfl rfl ?_
  refine pM_qVi (as := [.inr (.inl (some 3))]) (T := []) rfl rfl (fun C hC => cl_v hC rfl rfl rfl rfl) rfl (q_Text_kind ) ?_
  refine pM_isn rfl rfl ?_
  refine pM_iln rfl rfl ?_
  refine pM_bi rfl kb_6 ?_
  refine pM_cne rfl rfl (fun h1 => ?_) (fun h1 => ?_)
  · replace h := h.2 h1
    refine pM_iln rfl rfl ?_
    refine pM_ic rfl ki_5 ?_
    refine pM_ceq rfl rfl (fun h6 => ?_) (fun h6 => ?_)
    · replace h := h.1 h6
      refine pM_iln rfl rfl ?_
      refine pM_bi rfl kb_6 ?_
      refine pM_clt rfl rfl (fun h7 => ?_) (fun h7 => ?_)
      · replace h := h.1 h7
        refine pM_aln rfl rfl rfl ?_
        refine pM_gr rfl rfl rfl rfl ?_
        refine pM_qRu (as := [.inr (.inl (some 3))]) (T := []) rfl rfl (fun C hC => cl_v hC rfl rfl rfl rfl) rfl (q_Text_goOn  h) (fun M9 h => ?_)
        refine pM_iln rfl rfl ?_
        refine pM_ic rfl ki_5 ?_
        refine pM_cne rfl rfl (fun h10 => ?_) (fun h10 => ?_)
        · replace h := h.2 h10
          refine pM_aln rfl rfl rfl ?_
          refine pM_iln rfl rfl ?_
          refine pM_ic rfl ki_1 ?_
          refine pM_add rfl ?_
          refine pM_qRi (as := [.inr (.inl (some 42)), .inl (.inl (p1 + 1))]) (T := []) rfl rfl (fun C hC => cl_v hC rfl rfl rfl rfl) rfl (q_LawReader_readCondition_366  h) (fun r16 M17 h => ?_)
          refine pM_zeq rfl rfl (fun h18 => ?_) (fun h18 => ?_)
          · replace h := h.1 h18
            refine pM_ic rfl ki_0 ?_
            exact pM_ri rfl (⟨_, rfl, h⟩)
          · replace h := h.2 h18
            refine pM_aln rfl rfl rfl ?_
            refine pM_gr rfl rfl rfl rfl ?_
            refine pM_qVi (as := [.inr (.inl (some 3))]) (T := []) rfl rfl (fun C hC => cl_v hC rfl rfl rfl rfl) rfl (q_Text_kind ) ?_
            refine pM_bi rfl kb_41 ?_
            refine pM_ceq rfl rfl (fun h19 => ?_) (fun h19 => ?_)
            · replace h := h.1 h19
              refine pM_aln rfl rfl rfl ?_
              refine pM_gr rfl rfl rfl rfl ?_
              refine pM_qRu (as := [.inr (.inl (some 3))]) (T := []) rfl rfl (fun C hC => cl_v hC rfl rfl rfl rfl) rfl (q_Text_goOn  h) (fun M21 h => ?_)
              refine pM_ic rfl ki_1 ?_
              exact pM_ri rfl (⟨_, rfl, h⟩)
            · replace h := h.2 h19
              refine pM_ic rfl ki_0 ?_
              exact pM_ri rfl (⟨_, rfl, h⟩)
        · replace h := h.1 h10
          refine pM_aln rfl rfl rfl ?_
          refine pM_iln rfl rfl ?_
          refine pM_ic rfl ki_1 ?_
          refine pM_add rfl ?_
          refine pM_qRi (as := [.inr (.inl (some 42)), .inl (.inl (p1 + 1))]) (T := []) rfl rfl (fun C hC => cl_v hC rfl rfl rfl rfl) rfl (q_LawReader_readAtom_367  h) (fun r11 M12 h => ?_)
          refine pM_zne rfl rfl (fun h13 => ?_) (fun h13 => ?_)
          · replace h := h.2 h13
            refine pM_aln rfl rfl rfl ?_
            refine pM_gr rfl rfl rfl rfl ?_
            refine pM_bi rfl kb_m2 ?_
            refine pM_qRu (as := [.inr (.inl (some 13)), .inl (.inl (-2))]) (T := []) rfl rfl (fun C hC => cl_v hC rfl rfl rfl rfl) rfl (q_Law_addStep isK_13 h) (fun M15 h => ?_)
            refine pM_ic rfl ki_1 ?_
            exact pM_ri rfl (⟨_, rfl, h⟩)
          · replace h := h.1 h13
            refine pM_ic rfl ki_0 ?_
            exact pM_ri rfl (⟨_, rfl, h⟩)
      · replace h := h.2 h7
        refine pM_ic rfl ki_0 ?_
        exact pM_ri rfl (⟨_, rfl, h⟩)
    · replace h := h.2 h6
      refine pM_iln rfl rfl ?_
      refine pM_bi rfl kb_40 ?_
      refine pM_ceq rfl rfl (fun h22 => ?_) (fun h22 => ?_)
      · replace h := h.1 h22
        refine pM_iln rfl rfl ?_
        refine pM_bi rfl kb_6 ?_
        refine pM_clt rfl rfl (fun h23 => ?_) (fun h23 => ?_)
        · replace h := h.1 h23
          refine pM_aln rfl rfl rfl ?_
          refine pM_gr rfl rfl rfl rfl ?_
          refine pM_qRu (as := [.inr (.inl (some 3))]) (T := []) rfl rfl (fun C hC => cl_v hC rfl rfl rfl rfl) rfl (q_Text_goOn  h) (fun M25 h => ?_)
          refine pM_iln rfl rfl ?_
          refine pM_ic rfl ki_5 ?_
          refine pM_cne rfl rfl (fun h26 => ?_) (fun h26 => ?_)
          · replace h := h.2 h26
            refine pM_aln rfl rfl rfl ?_
            refine pM_iln rfl rfl ?_
            refine pM_ic rfl ki_1 ?_
            refine pM_add rfl ?_
            refine pM_qRi (as := [.inr (.inl (some 42)), .inl (.inl (p1 + 1))]) (T := []) rfl rfl (fun C hC => cl_v hC rfl rfl rfl rfl) rfl (q_LawReader_readCondition_366  h) (fun r32 M33 h => ?_)
            refine pM_zeq rfl rfl (fun h34 => ?_) (fun h34 => ?_)
            · replace h := h.1 h34
              refine pM_ic rfl ki_0 ?_
              exact pM_ri rfl (⟨_, rfl, h⟩)
            · replace h := h.2 h34
              refine pM_aln rfl rfl rfl ?_
              refine pM_gr rfl rfl rfl rfl ?_
              refine pM_qVi (as := [.inr (.inl (some 3))]) (T := []) rfl rfl (fun C hC => cl_v hC rfl rfl rfl rfl) rfl (q_Text_kind ) ?_
              refine pM_bi rfl kb_41 ?_
              refine pM_ceq rfl rfl (fun h35 => ?_) (fun h35 => ?_)
              · replace h := h.1 h35
                refine pM_aln rfl rfl rfl ?_
                refine pM_gr rfl rfl rfl rfl ?_
                refine pM_qRu (as := [.inr (.inl (some 3))]) (T := []) rfl rfl (fun C hC => cl_v hC rfl rfl rfl rfl) rfl (q_Text_goOn  h) (fun M37 h => ?_)
                refine pM_ic rfl ki_1 ?_
                exact pM_ri rfl (⟨_, rfl, h⟩)
              · replace h := h.2 h35
                refine pM_ic rfl ki_0 ?_
                exact pM_ri rfl (⟨_, rfl, h⟩)
          · replace h := h.1 h26
            refine pM_aln rfl rfl rfl ?_
            refine pM_iln rfl rfl ?_
            refine pM_ic rfl ki_1 ?_
            refine pM_add rfl ?_
            refine pM_qRi (as := [.inr (.inl (some 42)), .inl (.inl (p1 + 1))]) (T := []) rfl rfl (fun C hC => cl_v hC rfl rfl rfl rfl) rfl (q_LawReader_readAtom_367  h) (fun r27 M28 h => ?_)
            refine pM_zne rfl rfl (fun h29 => ?_) (fun h29 => ?_)
            · replace h := h.2 h29
              refine pM_aln rfl rfl rfl ?_
              refine pM_gr rfl rfl rfl rfl ?_
              refine pM_bi rfl kb_m2 ?_
              refine pM_qRu (as := [.inr (.inl (some 13)), .inl (.inl (-2))]) (T := []) rfl rfl (fun C hC => cl_v hC rfl rfl rfl rfl) rfl (q_Law_addStep isK_13 h) (fun M31 h => ?_)
              refine pM_ic rfl ki_1 ?_
              exact pM_ri rfl (⟨_, rfl, h⟩)
            · replace h := h.1 h29
              refine pM_ic rfl ki_0 ?_
              exact pM_ri rfl (⟨_, rfl, h⟩)
        · replace h := h.2 h23
          refine pM_ic rfl ki_0 ?_
          exact pM_ri rfl (⟨_, rfl, h⟩)
      · replace h := h.2 h22
        refine pM_aln rfl rfl rfl ?_
        refine pM_qRi (as := [.inr (.inl (some 42))]) (T := []) rfl rfl (fun C hC => cl_v hC rfl rfl rfl rfl) rfl (q_LawReader_readComparison  h) (fun r38 M39 h => ?_)
        exact pM_ri rfl (⟨_, rfl, h⟩)
  · replace h := h.1 h1
    refine pM_aln rfl rfl rfl ?_
    refine pM_gr rfl rfl rfl rfl ?_
    refine pM_qRu (as := [.inr (.inl (some 3))]) (T := []) rfl rfl (fun C hC => cl_v hC rfl rfl rfl rfl) rfl (q_Text_goOn  h) (fun M3 h => ?_)
    refine pM_aln rfl rfl rfl ?_
    refine pM_gr rfl rfl rfl rfl ?_
    refine pM_ic rfl ki_m1 ?_
    refine pM_qRu (as := [.inr (.inl (some 13)), .inl (.inl (-1))]) (T := []) rfl rfl (fun C hC => cl_v hC rfl rfl rfl rfl) rfl (q_Law_addStep isK_13 h) (fun M5 h => ?_)
    refine pM_ic rfl ki_1 ?_
    exact pM_ri rfl (⟨_, rfl, h⟩)
def B_LawReader_readCondition_364_7 (p1 : Int32) (Q : Int32 → MM → Prop) (N : Nat) (ih : Int32 → Int32 → Int32 → MM → Prop) (v2 : Int32) (v3 : Int32) (v4 : Int32) (M : MM) : Prop :=
  ((v4 < 400 →
    W_LawReader_readAtom_365 p1 N M (fun r2 M3 =>
      ((r2 = 0 →
        Q 0 M3) ∧
       (¬ r2 = 0 →
        ((v2 = 0 →
          (((V_Text_kind  M3) = 4 →
            W_Text_goOn  N M3 (fun M9 =>
              ih 1 v3 (v4 + 1) M9)) ∧
           (¬ (V_Text_kind  M3) = 4 →
            ((v3 = 0 →
              (((V_Text_kind  M3) = 3 →
                W_Text_goOn  N M3 (fun M15 =>
                  ih 0 1 (v4 + 1) M15)) ∧
               (¬ (V_Text_kind  M3) = 3 →
                Q 1 M3))) ∧
             (¬ v3 = 0 →
              W_Law_addStep 13 (-4) N M3 (fun M18 =>
                (((V_Text_kind  M18) = 3 →
                  W_Text_goOn  N M18 (fun M22 =>
                    ih 0 1 (v4 + 1) M22)) ∧
                 (¬ (V_Text_kind  M18) = 3 →
                  Q 1 M18)))))))) ∧
         (¬ v2 = 0 →
          W_Law_addStep 13 (-3) N M3 (fun M25 =>
            (((V_Text_kind  M25) = 4 →
              W_Text_goOn  N M25 (fun M29 =>
                ih 1 v3 (v4 + 1) M29)) ∧
             (¬ (V_Text_kind  M25) = 4 →
              ((v3 = 0 →
                (((V_Text_kind  M25) = 3 →
                  W_Text_goOn  N M25 (fun M35 =>
                    ih 0 1 (v4 + 1) M35)) ∧
                 (¬ (V_Text_kind  M25) = 3 →
                  Q 1 M25))) ∧
               (¬ v3 = 0 →
                W_Law_addStep 13 (-4) N M25 (fun M38 =>
                  (((V_Text_kind  M38) = 3 →
                    W_Text_goOn  N M38 (fun M42 =>
                      ih 0 1 (v4 + 1) M42)) ∧
                   (¬ (V_Text_kind  M38) = 3 →
                    Q 1 M38)))))))))))))) ∧
   (¬ v4 < 400 →
    Q 0 M))
def W_LawReader_readCondition_364_7 (p1 : Int32) (Q : Int32 → MM → Prop) : Nat → Int32 → Int32 → Int32 → MM → Prop
  | 0, _, _, _, _ => True
  | N + 1, v2, v3, v4, M => B_LawReader_readCondition_364_7 p1 Q N (W_LawReader_readCondition_364_7 p1 Q N) v2 v3 v4 M
theorem I_LawReader_readCondition_364_7 (p1 : Int32) (Q : Int32 → MM → Prop) (inv : Int32 → Int32 → Int32 → MM → Prop) (hs : ∀ (N : Nat) (ih : Int32 → Int32 → Int32 → MM → Prop) (v2 : Int32) (v3 : Int32) (v4 : Int32) (M : MM), (∀ (v2 : Int32) (v3 : Int32) (v4 : Int32) (M : MM), inv v2 v3 v4 M → ih v2 v3 v4 M) → inv v2 v3 v4 M → B_LawReader_readCondition_364_7 p1 Q N ih v2 v3 v4 M) : ∀ (N : Nat) (v2 : Int32) (v3 : Int32) (v4 : Int32) (M : MM), inv v2 v3 v4 M → W_LawReader_readCondition_364_7 p1 Q N v2 v3 v4 M := by
  intro N
  induction N with
  | zero => intros; trivial
  | succ N IH =>
    intro v2 v3 v4 M h
    exact hs N _ v2 v3 v4 M IH h
theorem q_LawReader_readCondition_364_7 {X : Option (List AI)} {N0 : Nat} {p1 : Int32} {Q : Int32 → MM → Prop}   : ∀ (N : Nat), N ≤ N0 → ∀ (v2 : Int32) (v3 : Int32) (v4 : Int32) (M : MM), W_LawReader_readCondition_364_7 p1 Q N v2 v3 v4 M → pM X N 364 7 [(0, .inr (.inl (some 42))), (1, .inl (.inl p1)), (2, .inl (.inl v2)), (3, .inl (.inl v3)), (4, .inl (.inl v4))] [] M (Ri Q) := by
  intro N
  induction N with
  | zero => intros; exact pM_zero
  | succ N IH =>
    intro hN v2 v3 v4 M h
    replace hN := Nat.le_of_succ_le hN
    replace h : B_LawReader_readCondition_364_7 p1 Q N (W_LawReader_readCondition_364_7 p1 Q N) v2 v3 v4 M := h
    refine pM_s (pMs_il rfl rfl ?_)
    refine pM_si rfl ks_400 ?_
    refine pM_cge rfl rfl (fun h1 => ?_) (fun h1 => ?_)
    · replace h := h.2 h1
      refine pM_ic rfl ki_0 ?_
      exact pM_ri rfl (⟨_, rfl, h⟩)
    · replace h := h.1 h1
      refine pM_aln rfl rfl rfl ?_
      refine pM_iln rfl rfl ?_
      refine pM_qRi (as := [.inr (.inl (some 42)), .inl (.inl p1)]) (T := []) rfl rfl (fun C hC => cl_v hC rfl rfl rfl rfl) rfl (q_LawReader_readAtom_365  h) (fun r2 M3 h => ?_)
      refine pM_zne rfl rfl (fun h4 => ?_) (fun h4 => ?_)
      · replace h := h.2 h4
        refine pM_iln rfl rfl ?_
        refine pM_zeq rfl rfl (fun h5 => ?_) (fun h5 => ?_)
        · replace h := h.1 h5
          refine pM_aln rfl rfl rfl ?_
          refine pM_gr rfl rfl rfl rfl ?_
          refine pM_qVi (as := [.inr (.inl (some 3))]) (T := []) rfl rfl (fun C hC => cl_v hC rfl rfl rfl rfl) rfl (q_Text_kind ) ?_
          refine pM_ic rfl ki_4 ?_
          refine pM_cne rfl rfl (fun h6 => ?_) (fun h6 => ?_)
          · replace h := h.2 h6
            refine pM_ic rfl ki_0 ?_
            refine pM_isn rfl rfl ?_
            refine pM_iln rfl rfl ?_
            refine pM_zne rfl rfl (fun h10 => ?_) (fun h10 => ?_)
            · exact absurd (by decide) h10
            · refine pM_iln rfl rfl ?_
              refine pM_zeq rfl rfl (fun h11 => ?_) (fun h11 => ?_)
              · replace h := h.1 h11
                refine pM_aln rfl rfl rfl ?_
                refine pM_gr rfl rfl rfl rfl ?_
                refine pM_qVi (as := [.inr (.inl (some 3))]) (T := []) rfl rfl (fun C hC => cl_v hC rfl rfl rfl rfl) rfl (q_Text_kind ) ?_
                refine pM_ic rfl ki_3 ?_
                refine pM_cne rfl rfl (fun h12 => ?_) (fun h12 => ?_)
                · replace h := h.2 h12
                  refine pM_ic rfl ki_0 ?_
                  refine pM_isn rfl rfl ?_
                  refine pM_iln rfl rfl ?_
                  refine pM_zne rfl rfl (fun h16 => ?_) (fun h16 => ?_)
                  · exact absurd (by decide) h16
                  · refine pM_ic rfl ki_1 ?_
                    exact pM_ri rfl (⟨_, rfl, h⟩)
                · replace h := h.1 h12
                  refine pM_ic rfl ki_1 ?_
                  refine pM_go rfl rfl ?_
                  refine pM_isn rfl rfl ?_
                  refine pM_iln rfl rfl ?_
                  refine pM_zne rfl rfl (fun h13 => ?_) (fun h13 => ?_)
                  · refine pM_aln rfl rfl rfl ?_
                    refine pM_gr rfl rfl rfl rfl ?_
                    refine pM_qRu (as := [.inr (.inl (some 3))]) (T := []) rfl rfl (fun C hC => cl_v hC rfl rfl rfl rfl) rfl (q_Text_goOn  h) (fun M15 h => ?_)
                    refine pM_ii rfl rfl rfl ki_1 ?_
                    refine pM_go rfl rfl ?_
                    refine pM_w (F2 := [(0, .inr (.inl (some 42))), (1, .inl (.inl p1)), (2, .inl (.inl 0)), (3, .inl (.inl 1)), (4, .inl (.inl (v4 + 1)))]) (fun L hL => lo_cons (lo_lk hL rfl) (lo_cons (lo_lk hL rfl) (lo_cons (lo_lk hL rfl) (lo_cons (lo_lk hL rfl) (lo_cons (lo_lk hL rfl) lo_nil))))) ?_
                    exact IH hN 0 1 (v4 + 1) M15 h
                  · exact absurd h13 (by decide)
              · replace h := h.2 h11
                refine pM_aln rfl rfl rfl ?_
                refine pM_gr rfl rfl rfl rfl ?_
                refine pM_bi rfl kb_m4 ?_
                refine pM_qRu (as := [.inr (.inl (some 13)), .inl (.inl (-4))]) (T := []) rfl rfl (fun C hC => cl_v hC rfl rfl rfl rfl) rfl (q_Law_addStep isK_13 h) (fun M18 h => ?_)
                refine pM_aln rfl rfl rfl ?_
                refine pM_gr rfl rfl rfl rfl ?_
                refine pM_qVi (as := [.inr (.inl (some 3))]) (T := []) rfl rfl (fun C hC => cl_v hC rfl rfl rfl rfl) rfl (q_Text_kind ) ?_
                refine pM_ic rfl ki_3 ?_
                refine pM_cne rfl rfl (fun h19 => ?_) (fun h19 => ?_)
                · replace h := h.2 h19
                  refine pM_ic rfl ki_0 ?_
                  refine pM_isn rfl rfl ?_
                  refine pM_iln rfl rfl ?_
                  refine pM_zne rfl rfl (fun h23 => ?_) (fun h23 => ?_)
                  · exact absurd (by decide) h23
                  · refine pM_ic rfl ki_1 ?_
                    exact pM_ri rfl (⟨_, rfl, h⟩)
                · replace h := h.1 h19
                  refine pM_ic rfl ki_1 ?_
                  refine pM_go rfl rfl ?_
                  refine pM_isn rfl rfl ?_
                  refine pM_iln rfl rfl ?_
                  refine pM_zne rfl rfl (fun h20 => ?_) (fun h20 => ?_)
                  · refine pM_aln rfl rfl rfl ?_
                    refine pM_gr rfl rfl rfl rfl ?_
                    refine pM_qRu (as := [.inr (.inl (some 3))]) (T := []) rfl rfl (fun C hC => cl_v hC rfl rfl rfl rfl) rfl (q_Text_goOn  h) (fun M22 h => ?_)
                    refine pM_ii rfl rfl rfl ki_1 ?_
                    refine pM_go rfl rfl ?_
                    refine pM_w (F2 := [(0, .inr (.inl (some 42))), (1, .inl (.inl p1)), (2, .inl (.inl 0)), (3, .inl (.inl 1)), (4, .inl (.inl (v4 + 1)))]) (fun L hL => lo_cons (lo_lk hL rfl) (lo_cons (lo_lk hL rfl) (lo_cons (lo_lk hL rfl) (lo_cons (lo_lk hL rfl) (lo_cons (lo_lk hL rfl) lo_nil))))) ?_
                    exact IH hN 0 1 (v4 + 1) M22 h
                  · exact absurd h20 (by decide)
          · replace h := h.1 h6
            refine pM_ic rfl ki_1 ?_
            refine pM_go rfl rfl ?_
            refine pM_isn rfl rfl ?_
            refine pM_iln rfl rfl ?_
            refine pM_zne rfl rfl (fun h7 => ?_) (fun h7 => ?_)
            · refine pM_aln rfl rfl rfl ?_
              refine pM_gr rfl rfl rfl rfl ?_
              refine pM_qRu (as := [.inr (.inl (some 3))]) (T := []) rfl rfl (fun C hC => cl_v hC rfl rfl rfl rfl) rfl (q_Text_goOn  h) (fun M9 h => ?_)
              refine pM_ii rfl rfl rfl ki_1 ?_
              refine pM_go rfl rfl ?_
              refine pM_w (F2 := [(0, .inr (.inl (some 42))), (1, .inl (.inl p1)), (2, .inl (.inl 1)), (3, .inl (.inl v3)), (4, .inl (.inl (v4 + 1)))]) (fun L hL => lo_cons (lo_lk hL rfl) (lo_cons (lo_lk hL rfl) (lo_cons (lo_lk hL rfl) (lo_cons (lo_lk hL rfl) (lo_cons (lo_lk hL rfl) lo_nil))))) ?_
              exact IH hN 1 v3 (v4 + 1) M9 h
            · exact absurd h7 (by decide)
        · replace h := h.2 h5
          refine pM_aln rfl rfl rfl ?_
          refine pM_gr rfl rfl rfl rfl ?_
          refine pM_bi rfl kb_m3 ?_
          refine pM_qRu (as := [.inr (.inl (some 13)), .inl (.inl (-3))]) (T := []) rfl rfl (fun C hC => cl_v hC rfl rfl rfl rfl) rfl (q_Law_addStep isK_13 h) (fun M25 h => ?_)
          refine pM_aln rfl rfl rfl ?_
          refine pM_gr rfl rfl rfl rfl ?_
          refine pM_qVi (as := [.inr (.inl (some 3))]) (T := []) rfl rfl (fun C hC => cl_v hC rfl rfl rfl rfl) rfl (q_Text_kind ) ?_
          refine pM_ic rfl ki_4 ?_
          refine pM_cne rfl rfl (fun h26 => ?_) (fun h26 => ?_)
          · replace h := h.2 h26
            refine pM_ic rfl ki_0 ?_
            refine pM_isn rfl rfl ?_
            refine pM_iln rfl rfl ?_
            refine pM_zne rfl rfl (fun h30 => ?_) (fun h30 => ?_)
            · exact absurd (by decide) h30
            · refine pM_iln rfl rfl ?_
              refine pM_zeq rfl rfl (fun h31 => ?_) (fun h31 => ?_)
              · replace h := h.1 h31
                refine pM_aln rfl rfl rfl ?_
                refine pM_gr rfl rfl rfl rfl ?_
                refine pM_qVi (as := [.inr (.inl (some 3))]) (T := []) rfl rfl (fun C hC => cl_v hC rfl rfl rfl rfl) rfl (q_Text_kind ) ?_
                refine pM_ic rfl ki_3 ?_
                refine pM_cne rfl rfl (fun h32 => ?_) (fun h32 => ?_)
                · replace h := h.2 h32
                  refine pM_ic rfl ki_0 ?_
                  refine pM_isn rfl rfl ?_
                  refine pM_iln rfl rfl ?_
                  refine pM_zne rfl rfl (fun h36 => ?_) (fun h36 => ?_)
                  · exact absurd (by decide) h36
                  · refine pM_ic rfl ki_1 ?_
                    exact pM_ri rfl (⟨_, rfl, h⟩)
                · replace h := h.1 h32
                  refine pM_ic rfl ki_1 ?_
                  refine pM_go rfl rfl ?_
                  refine pM_isn rfl rfl ?_
                  refine pM_iln rfl rfl ?_
                  refine pM_zne rfl rfl (fun h33 => ?_) (fun h33 => ?_)
                  · refine pM_aln rfl rfl rfl ?_
                    refine pM_gr rfl rfl rfl rfl ?_
                    refine pM_qRu (as := [.inr (.inl (some 3))]) (T := []) rfl rfl (fun C hC => cl_v hC rfl rfl rfl rfl) rfl (q_Text_goOn  h) (fun M35 h => ?_)
                    refine pM_ii rfl rfl rfl ki_1 ?_
                    refine pM_go rfl rfl ?_
                    refine pM_w (F2 := [(0, .inr (.inl (some 42))), (1, .inl (.inl p1)), (2, .inl (.inl 0)), (3, .inl (.inl 1)), (4, .inl (.inl (v4 + 1)))]) (fun L hL => lo_cons (lo_lk hL rfl) (lo_cons (lo_lk hL rfl) (lo_cons (lo_lk hL rfl) (lo_cons (lo_lk hL rfl) (lo_cons (lo_lk hL rfl) lo_nil))))) ?_
                    exact IH hN 0 1 (v4 + 1) M35 h
                  · exact absurd h33 (by decide)
              · replace h := h.2 h31
                refine pM_aln rfl rfl rfl ?_
                refine pM_gr rfl rfl rfl rfl ?_
                refine pM_bi rfl kb_m4 ?_
                refine pM_qRu (as := [.inr (.inl (some 13)), .inl (.inl (-4))]) (T := []) rfl rfl (fun C hC => cl_v hC rfl rfl rfl rfl) rfl (q_Law_addStep isK_13 h) (fun M38 h => ?_)
                refine pM_aln rfl rfl rfl ?_
                refine pM_gr rfl rfl rfl rfl ?_
                refine pM_qVi (as := [.inr (.inl (some 3))]) (T := []) rfl rfl (fun C hC => cl_v hC rfl rfl rfl rfl) rfl (q_Text_kind ) ?_
                refine pM_ic rfl ki_3 ?_
                refine pM_cne rfl rfl (fun h39 => ?_) (fun h39 => ?_)
                · replace h := h.2 h39
                  refine pM_ic rfl ki_0 ?_
                  refine pM_isn rfl rfl ?_
                  refine pM_iln rfl rfl ?_
                  refine pM_zne rfl rfl (fun h43 => ?_) (fun h43 => ?_)
                  · exact absurd (by decide) h43
                  · refine pM_ic rfl ki_1 ?_
                    exact pM_ri rfl (⟨_, rfl, h⟩)
                · replace h := h.1 h39
                  refine pM_ic rfl ki_1 ?_
                  refine pM_go rfl rfl ?_
                  refine pM_isn rfl rfl ?_
                  refine pM_iln rfl rfl ?_
                  refine pM_zne rfl rfl (fun h40 => ?_) (fun h40 => ?_)
                  · refine pM_aln rfl rfl rfl ?_
                    refine pM_gr rfl rfl rfl rfl ?_
                    refine pM_qRu (as := [.inr (.inl (some 3))]) (T := []) rfl rfl (fun C hC => cl_v hC rfl rfl rfl rfl) rfl (q_Text_goOn  h) (fun M42 h => ?_)
                    refine pM_ii rfl rfl rfl ki_1 ?_
                    refine pM_go rfl rfl ?_
                    refine pM_w (F2 := [(0, .inr (.inl (some 42))), (1, .inl (.inl p1)), (2, .inl (.inl 0)), (3, .inl (.inl 1)), (4, .inl (.inl (v4 + 1)))]) (fun L hL => lo_cons (lo_lk hL rfl) (lo_cons (lo_lk hL rfl) (lo_cons (lo_lk hL rfl) (lo_cons (lo_lk hL rfl) (lo_cons (lo_lk hL rfl) lo_nil))))) ?_
                    exact IH hN 0 1 (v4 + 1) M42 h
                  · exact absurd h40 (by decide)
          · replace h := h.1 h26
            refine pM_ic rfl ki_1 ?_
            refine pM_go rfl rfl ?_
            refine pM_isn rfl rfl ?_
            refine pM_iln rfl rfl ?_
            refine pM_zne rfl rfl (fun h27 => ?_) (fun h27 => ?_)
            · refine pM_aln rfl rfl rfl ?_
              refine pM_gr rfl rfl rfl rfl ?_
              refine pM_qRu (as := [.inr (.inl (some 3))]) (T := []) rfl rfl (fun C hC => cl_v hC rfl rfl rfl rfl) rfl (q_Text_goOn  h) (fun M29 h => ?_)
              refine pM_ii rfl rfl rfl ki_1 ?_
              refine pM_go rfl rfl ?_
              refine pM_w (F2 := [(0, .inr (.inl (some 42))), (1, .inl (.inl p1)), (2, .inl (.inl 1)), (3, .inl (.inl v3)), (4, .inl (.inl (v4 + 1)))]) (fun L hL => lo_cons (lo_lk hL rfl) (lo_cons (lo_lk hL rfl) (lo_cons (lo_lk hL rfl) (lo_cons (lo_lk hL rfl) (lo_cons (lo_lk hL rfl) lo_nil))))) ?_
              exact IH hN 1 v3 (v4 + 1) M29 h
            · exact absurd h27 (by decide)
      · replace h := h.1 h4
        refine pM_ic rfl ki_0 ?_
        exact pM_ri rfl (⟨_, rfl, h⟩)
/-- 364: EarCode$LawReader.readCondition(I)Z -/
def W_LawReader_readCondition_364 (p1 : Int32) (N : Nat) (M : MM) (Q : Int32 → MM → Prop) : Prop :=
  W_LawReader_readCondition_364_7 p1 Q N 0 0 0 M
theorem q_LawReader_readCondition_364 {X : Option (List AI)} {N : Nat} {M : MM} {p1 : Int32} {Q : Int32 → MM → Prop}  (h : W_LawReader_readCondition_364 p1 N M Q) : pM X N 364 0 (ea_ar 0 [.inr (.inl (some 42)), .inl (.inl p1)]) [] M (Ri Q) := by
  refine pM_w (F2 := [(0, .inr (.inl (some 42))), (1, .inl (.inl p1))]) (fun L hL => lo_cons (lo_lk hL rfl) (lo_cons (lo_lk hL rfl) lo_nil)) ?_
  refine pM_ic rfl ki_0 ?_
  refine pM_isn rfl rfl ?_
  refine pM_ic rfl ki_0 ?_
  refine pM_isn rfl rfl ?_
  refine pM_ic rfl ki_0 ?_
  refine pM_is rfl rfl ?_
  refine pM_w (F2 := [(0, .inr (.inl (some 42))), (1, .inl (.inl p1)), (2, .inl (.inl 0)), (3, .inl (.inl 0)), (4, .inl (.inl 0))]) (fun L hL => lo_cons (lo_lk hL rfl) (lo_cons (lo_lk hL rfl) (lo_cons (lo_lk hL rfl) (lo_cons (lo_lk hL rfl) (lo_cons (lo_lk hL rfl) lo_nil))))) ?_
  refine q_LawReader_readCondition_364_7   N (Nat.le_refl N) 0 0 0 M h
/-- 363: EarCode$LawReader.readAtom(I)Z -/
def W_LawReader_readAtom_363 (p1 : Int32) (N : Nat) (M : MM) (Q : Int32 → MM → Prop) : Prop :=
  (((V_Text_kind  M) = 6 →
    W_Text_goOn  N M (fun M3 =>
      W_Law_addStep 13 (-1) N M3 (fun M5 =>
        Q 1 M5))) ∧
   (¬ (V_Text_kind  M) = 6 →
    (((V_Text_kind  M) = 5 →
      ((p1 < 6 →
        W_Text_goOn  N M (fun M9 =>
          (((V_Text_kind  M) = 5 →
            W_LawReader_readAtom_365 (p1 + 1) N M9 (fun r11 M12 =>
              ((r11 = 0 →
                Q 0 M12) ∧
               (¬ r11 = 0 →
                W_Law_addStep 13 (-2) N M12 (fun M15 =>
                  Q 1 M15))))) ∧
           (¬ (V_Text_kind  M) = 5 →
            W_LawReader_readCondition_364 (p1 + 1) N M9 (fun r16 M17 =>
              ((r16 = 0 →
                Q 0 M17) ∧
               (¬ r16 = 0 →
                (((V_Text_kind  M17) = 41 →
                  W_Text_goOn  N M17 (fun M21 =>
                    Q 1 M21)) ∧
                 (¬ (V_Text_kind  M17) = 41 →
                  Q 0 M17))))))))) ∧
       (¬ p1 < 6 →
        Q 0 M))) ∧
     (¬ (V_Text_kind  M) = 5 →
      (((V_Text_kind  M) = 40 →
        ((p1 < 6 →
          W_Text_goOn  N M (fun M25 =>
            (((V_Text_kind  M) = 5 →
              W_LawReader_readAtom_365 (p1 + 1) N M25 (fun r27 M28 =>
                ((r27 = 0 →
                  Q 0 M28) ∧
                 (¬ r27 = 0 →
                  W_Law_addStep 13 (-2) N M28 (fun M31 =>
                    Q 1 M31))))) ∧
             (¬ (V_Text_kind  M) = 5 →
              W_LawReader_readCondition_364 (p1 + 1) N M25 (fun r32 M33 =>
                ((r32 = 0 →
                  Q 0 M33) ∧
                 (¬ r32 = 0 →
                  (((V_Text_kind  M33) = 41 →
                    W_Text_goOn  N M33 (fun M37 =>
                      Q 1 M37)) ∧
                   (¬ (V_Text_kind  M33) = 41 →
                    Q 0 M33))))))))) ∧
         (¬ p1 < 6 →
          Q 0 M))) ∧
       (¬ (V_Text_kind  M) = 40 →
        W_LawReader_readComparison  N M (fun r38 M39 =>
          Q r38 M39)))))))
theorem q_LawReader_readAtom_363 {X : Option (List AI)} {N : Nat} {M : MM} {p1 : Int32} {Q : Int32 → MM → Prop}  (h : W_LawReader_readAtom_363 p1 N M Q) : pM X N 363 0 (ea_ar 0 [.inr (.inl (some 42)), .inl (.inl p1)]) [] M (Ri Q) := by
  refine pM_w (F2 := [(0, .inr (.inl (some 42))), (1, .inl (.inl p1))]) (fun L hL => lo_cons (lo_lk hL rfl) (lo_cons (lo_lk hL rfl) lo_nil)) ?_
  refine pM_aln rfl rfl rfl ?_
  refine pM_gr rfl rfl rfl rfl ?_
  refine pM_qVi (as := [.inr (.inl (some 3))]) (T := []) rfl rfl (fun C hC => cl_v hC rfl rfl rfl rfl) rfl (q_Text_kind ) ?_
  refine pM_isn rfl rfl ?_
  refine pM_iln rfl rfl ?_
  refine pM_bi rfl kb_6 ?_
  refine pM_cne rfl rfl (fun h1 => ?_) (fun h1 => ?_)
  · replace h := h.2 h1
    refine pM_iln rfl rfl ?_
    refine pM_ic rfl ki_5 ?_
    refine pM_ceq rfl rfl (fun h6 => ?_) (fun h6 => ?_)
    · replace h := h.1 h6
      refine pM_iln rfl rfl ?_
      refine pM_bi rfl kb_6 ?_
      refine pM_clt rfl rfl (fun h7 => ?_) (fun h7 => ?_)
      · replace h := h.1 h7
        refine pM_aln rfl rfl rfl ?_
        refine pM_gr rfl rfl rfl rfl ?_
        refine pM_qRu (as := [.inr (.inl (some 3))]) (T := []) rfl rfl (fun C hC => cl_v hC rfl rfl rfl rfl) rfl (q_Text_goOn  h) (fun M9 h => ?_)
        refine pM_iln rfl rfl ?_
        refine pM_ic rfl ki_5 ?_
        refine pM_cne rfl rfl (fun h10 => ?_) (fun h10 => ?_)
        · replace h := h.2 h10
          refine pM_aln rfl rfl rfl ?_
          refine pM_iln rfl rfl ?_
          refine pM_ic rfl ki_1 ?_
          refine pM_add rfl ?_
          refine pM_qRi (as := [.inr (.inl (some 42)), .inl (.inl (p1 + 1))]) (T := []) rfl rfl (fun C hC => cl_v hC rfl rfl rfl rfl) rfl (q_LawReader_readCondition_364  h) (fun r16 M17 h => ?_)
          refine pM_zeq rfl rfl (fun h18 => ?_) (fun h18 => ?_)
          · replace h := h.1 h18
            refine pM_ic rfl ki_0 ?_
            exact pM_ri rfl (⟨_, rfl, h⟩)
          · replace h := h.2 h18
            refine pM_aln rfl rfl rfl ?_
            refine pM_gr rfl rfl rfl rfl ?_
            refine pM_qVi (as := [.inr (.inl (some 3))]) (T := []) rfl rfl (fun C hC => cl_v hC rfl rfl rfl rfl) rfl (q_Text_kind ) ?_
            refine pM_bi rfl kb_41 ?_
            refine pM_ceq rfl rfl (fun h19 => ?_) (fun h19 => ?_)
            · replace h := h.1 h19
              refine pM_aln rfl rfl rfl ?_
              refine pM_gr rfl rfl rfl rfl ?_
              refine pM_qRu (as := [.inr (.inl (some 3))]) (T := []) rfl rfl (fun C hC => cl_v hC rfl rfl rfl rfl) rfl (q_Text_goOn  h) (fun M21 h => ?_)
              refine pM_ic rfl ki_1 ?_
              exact pM_ri rfl (⟨_, rfl, h⟩)
            · replace h := h.2 h19
              refine pM_ic rfl ki_0 ?_
              exact pM_ri rfl (⟨_, rfl, h⟩)
        · replace h := h.1 h10
          refine pM_aln rfl rfl rfl ?_
          refine pM_iln rfl rfl ?_
          refine pM_ic rfl ki_1 ?_
          refine pM_add rfl ?_
          refine pM_qRi (as := [.inr (.inl (some 42)), .inl (.inl (p1 + 1))]) (T := []) rfl rfl (fun C hC => cl_v hC rfl rfl rfl rfl) rfl (q_LawReader_readAtom_365  h) (fun r11 M12 h => ?_)
          refine pM_zne rfl rfl (fun h13 => ?_) (fun h13 => ?_)
          · replace h := h.2 h13
            refine pM_aln rfl rfl rfl ?_
            refine pM_gr rfl rfl rfl rfl ?_
            refine pM_bi rfl kb_m2 ?_
            refine pM_qRu (as := [.inr (.inl (some 13)), .inl (.inl (-2))]) (T := []) rfl rfl (fun C hC => cl_v hC rfl rfl rfl rfl) rfl (q_Law_addStep isK_13 h) (fun M15 h => ?_)
            refine pM_ic rfl ki_1 ?_
            exact pM_ri rfl (⟨_, rfl, h⟩)
          · replace h := h.1 h13
            refine pM_ic rfl ki_0 ?_
            exact pM_ri rfl (⟨_, rfl, h⟩)
      · replace h := h.2 h7
        refine pM_ic rfl ki_0 ?_
        exact pM_ri rfl (⟨_, rfl, h⟩)
    · replace h := h.2 h6
      refine pM_iln rfl rfl ?_
      refine pM_bi rfl kb_40 ?_
      refine pM_ceq rfl rfl (fun h22 => ?_) (fun h22 => ?_)
      · replace h := h.1 h22
        refine pM_iln rfl rfl ?_
        refine pM_bi rfl kb_6 ?_
        refine pM_clt rfl rfl (fun h23 => ?_) (fun h23 => ?_)
        · replace h := h.1 h23
          refine pM_aln rfl rfl rfl ?_
          refine pM_gr rfl rfl rfl rfl ?_
          refine pM_qRu (as := [.inr (.inl (some 3))]) (T := []) rfl rfl (fun C hC => cl_v hC rfl rfl rfl rfl) rfl (q_Text_goOn  h) (fun M25 h => ?_)
          refine pM_iln rfl rfl ?_
          refine pM_ic rfl ki_5 ?_
          refine pM_cne rfl rfl (fun h26 => ?_) (fun h26 => ?_)
          · replace h := h.2 h26
            refine pM_aln rfl rfl rfl ?_
            refine pM_iln rfl rfl ?_
            refine pM_ic rfl ki_1 ?_
            refine pM_add rfl ?_
            refine pM_qRi (as := [.inr (.inl (some 42)), .inl (.inl (p1 + 1))]) (T := []) rfl rfl (fun C hC => cl_v hC rfl rfl rfl rfl) rfl (q_LawReader_readCondition_364  h) (fun r32 M33 h => ?_)
            refine pM_zeq rfl rfl (fun h34 => ?_) (fun h34 => ?_)
            · replace h := h.1 h34
              refine pM_ic rfl ki_0 ?_
              exact pM_ri rfl (⟨_, rfl, h⟩)
            · replace h := h.2 h34
              refine pM_aln rfl rfl rfl ?_
              refine pM_gr rfl rfl rfl rfl ?_
              refine pM_qVi (as := [.inr (.inl (some 3))]) (T := []) rfl rfl (fun C hC => cl_v hC rfl rfl rfl rfl) rfl (q_Text_kind ) ?_
              refine pM_bi rfl kb_41 ?_
              refine pM_ceq rfl rfl (fun h35 => ?_) (fun h35 => ?_)
              · replace h := h.1 h35
                refine pM_aln rfl rfl rfl ?_
                refine pM_gr rfl rfl rfl rfl ?_
                refine pM_qRu (as := [.inr (.inl (some 3))]) (T := []) rfl rfl (fun C hC => cl_v hC rfl rfl rfl rfl) rfl (q_Text_goOn  h) (fun M37 h => ?_)
                refine pM_ic rfl ki_1 ?_
                exact pM_ri rfl (⟨_, rfl, h⟩)
              · replace h := h.2 h35
                refine pM_ic rfl ki_0 ?_
                exact pM_ri rfl (⟨_, rfl, h⟩)
          · replace h := h.1 h26
            refine pM_aln rfl rfl rfl ?_
            refine pM_iln rfl rfl ?_
            refine pM_ic rfl ki_1 ?_
            refine pM_add rfl ?_
            refine pM_qRi (as := [.inr (.inl (some 42)), .inl (.inl (p1 + 1))]) (T := []) rfl rfl (fun C hC => cl_v hC rfl rfl rfl rfl) rfl (q_LawReader_readAtom_365  h) (fun r27 M28 h => ?_)
            refine pM_zne rfl rfl (fun h29 => ?_) (fun h29 => ?_)
            · replace h := h.2 h29
              refine pM_aln rfl rfl rfl ?_
              refine pM_gr rfl rfl rfl rfl ?_
              refine pM_bi rfl kb_m2 ?_
              refine pM_qRu (as := [.inr (.inl (some 13)), .inl (.inl (-2))]) (T := []) rfl rfl (fun C hC => cl_v hC rfl rfl rfl rfl) rfl (q_Law_addStep isK_13 h) (fun M31 h => ?_)
              refine pM_ic rfl ki_1 ?_
              exact pM_ri rfl (⟨_, rfl, h⟩)
            · replace h := h.1 h29
              refine pM_ic rfl ki_0 ?_
              exact pM_ri rfl (⟨_, rfl, h⟩)
        · replace h := h.2 h23
          refine pM_ic rfl ki_0 ?_
          exact pM_ri rfl (⟨_, rfl, h⟩)
      · replace h := h.2 h22
        refine pM_aln rfl rfl rfl ?_
        refine pM_qRi (as := [.inr (.inl (some 42))]) (T := []) rfl rfl (fun C hC => cl_v hC rfl rfl rfl rfl) rfl (q_LawReader_readComparison  h) (fun r38 M39 h => ?_)
        exact pM_ri rfl (⟨_, rfl, h⟩)
  · replace h := h.1 h1
    refine pM_aln rfl rfl rfl ?_
    refine pM_gr rfl rfl rfl rfl ?_
    refine pM_qRu (as := [.inr (.inl (some 3))]) (T := []) rfl rfl (fun C hC => cl_v hC rfl rfl rfl rfl) rfl (q_Text_goOn  h) (fun M3 h => ?_)
    refine pM_aln rfl rfl rfl ?_
    refine pM_gr rfl rfl rfl rfl ?_
    refine pM_ic rfl ki_m1 ?_
    refine pM_qRu (as := [.inr (.inl (some 13)), .inl (.inl (-1))]) (T := []) rfl rfl (fun C hC => cl_v hC rfl rfl rfl rfl) rfl (q_Law_addStep isK_13 h) (fun M5 h => ?_)
    refine pM_ic rfl ki_1 ?_
    exact pM_ri rfl (⟨_, rfl, h⟩)
def B_LawReader_readCondition_362_7 (p1 : Int32) (Q : Int32 → MM → Prop) (N : Nat) (ih : Int32 → Int32 → Int32 → MM → Prop) (v2 : Int32) (v3 : Int32) (v4 : Int32) (M : MM) : Prop :=
  ((v4 < 400 →
    W_LawReader_readAtom_363 p1 N M (fun r2 M3 =>
      ((r2 = 0 →
        Q 0 M3) ∧
       (¬ r2 = 0 →
        ((v2 = 0 →
          (((V_Text_kind  M3) = 4 →
            W_Text_goOn  N M3 (fun M9 =>
              ih 1 v3 (v4 + 1) M9)) ∧
           (¬ (V_Text_kind  M3) = 4 →
            ((v3 = 0 →
              (((V_Text_kind  M3) = 3 →
                W_Text_goOn  N M3 (fun M15 =>
                  ih 0 1 (v4 + 1) M15)) ∧
               (¬ (V_Text_kind  M3) = 3 →
                Q 1 M3))) ∧
             (¬ v3 = 0 →
              W_Law_addStep 13 (-4) N M3 (fun M18 =>
                (((V_Text_kind  M18) = 3 →
                  W_Text_goOn  N M18 (fun M22 =>
                    ih 0 1 (v4 + 1) M22)) ∧
                 (¬ (V_Text_kind  M18) = 3 →
                  Q 1 M18)))))))) ∧
         (¬ v2 = 0 →
          W_Law_addStep 13 (-3) N M3 (fun M25 =>
            (((V_Text_kind  M25) = 4 →
              W_Text_goOn  N M25 (fun M29 =>
                ih 1 v3 (v4 + 1) M29)) ∧
             (¬ (V_Text_kind  M25) = 4 →
              ((v3 = 0 →
                (((V_Text_kind  M25) = 3 →
                  W_Text_goOn  N M25 (fun M35 =>
                    ih 0 1 (v4 + 1) M35)) ∧
                 (¬ (V_Text_kind  M25) = 3 →
                  Q 1 M25))) ∧
               (¬ v3 = 0 →
                W_Law_addStep 13 (-4) N M25 (fun M38 =>
                  (((V_Text_kind  M38) = 3 →
                    W_Text_goOn  N M38 (fun M42 =>
                      ih 0 1 (v4 + 1) M42)) ∧
                   (¬ (V_Text_kind  M38) = 3 →
                    Q 1 M38)))))))))))))) ∧
   (¬ v4 < 400 →
    Q 0 M))
def W_LawReader_readCondition_362_7 (p1 : Int32) (Q : Int32 → MM → Prop) : Nat → Int32 → Int32 → Int32 → MM → Prop
  | 0, _, _, _, _ => True
  | N + 1, v2, v3, v4, M => B_LawReader_readCondition_362_7 p1 Q N (W_LawReader_readCondition_362_7 p1 Q N) v2 v3 v4 M
theorem I_LawReader_readCondition_362_7 (p1 : Int32) (Q : Int32 → MM → Prop) (inv : Int32 → Int32 → Int32 → MM → Prop) (hs : ∀ (N : Nat) (ih : Int32 → Int32 → Int32 → MM → Prop) (v2 : Int32) (v3 : Int32) (v4 : Int32) (M : MM), (∀ (v2 : Int32) (v3 : Int32) (v4 : Int32) (M : MM), inv v2 v3 v4 M → ih v2 v3 v4 M) → inv v2 v3 v4 M → B_LawReader_readCondition_362_7 p1 Q N ih v2 v3 v4 M) : ∀ (N : Nat) (v2 : Int32) (v3 : Int32) (v4 : Int32) (M : MM), inv v2 v3 v4 M → W_LawReader_readCondition_362_7 p1 Q N v2 v3 v4 M := by
  intro N
  induction N with
  | zero => intros; trivial
  | succ N IH =>
    intro v2 v3 v4 M h
    exact hs N _ v2 v3 v4 M IH h
theorem q_LawReader_readCondition_362_7 {X : Option (List AI)} {N0 : Nat} {p1 : Int32} {Q : Int32 → MM → Prop}   : ∀ (N : Nat), N ≤ N0 → ∀ (v2 : Int32) (v3 : Int32) (v4 : Int32) (M : MM), W_LawReader_readCondition_362_7 p1 Q N v2 v3 v4 M → pM X N 362 7 [(0, .inr (.inl (some 42))), (1, .inl (.inl p1)), (2, .inl (.inl v2)), (3, .inl (.inl v3)), (4, .inl (.inl v4))] [] M (Ri Q) := by
  intro N
  induction N with
  | zero => intros; exact pM_zero
  | succ N IH =>
    intro hN v2 v3 v4 M h
    replace hN := Nat.le_of_succ_le hN
    replace h : B_LawReader_readCondition_362_7 p1 Q N (W_LawReader_readCondition_362_7 p1 Q N) v2 v3 v4 M := h
    refine pM_s (pMs_il rfl rfl ?_)
    refine pM_si rfl ks_400 ?_
    refine pM_cge rfl rfl (fun h1 => ?_) (fun h1 => ?_)
    · replace h := h.2 h1
      refine pM_ic rfl ki_0 ?_
      exact pM_ri rfl (⟨_, rfl, h⟩)
    · replace h := h.1 h1
      refine pM_aln rfl rfl rfl ?_
      refine pM_iln rfl rfl ?_
      refine pM_qRi (as := [.inr (.inl (some 42)), .inl (.inl p1)]) (T := []) rfl rfl (fun C hC => cl_v hC rfl rfl rfl rfl) rfl (q_LawReader_readAtom_363  h) (fun r2 M3 h => ?_)
      refine pM_zne rfl rfl (fun h4 => ?_) (fun h4 => ?_)
      · replace h := h.2 h4
        refine pM_iln rfl rfl ?_
        refine pM_zeq rfl rfl (fun h5 => ?_) (fun h5 => ?_)
        · replace h := h.1 h5
          refine pM_aln rfl rfl rfl ?_
          refine pM_gr rfl rfl rfl rfl ?_
          refine pM_qVi (as := [.inr (.inl (some 3))]) (T := []) rfl rfl (fun C hC => cl_v hC rfl rfl rfl rfl) rfl (q_Text_kind ) ?_
          refine pM_ic rfl ki_4 ?_
          refine pM_cne rfl rfl (fun h6 => ?_) (fun h6 => ?_)
          · replace h := h.2 h6
            refine pM_ic rfl ki_0 ?_
            refine pM_isn rfl rfl ?_
            refine pM_iln rfl rfl ?_
            refine pM_zne rfl rfl (fun h10 => ?_) (fun h10 => ?_)
            · exact absurd (by decide) h10
            · refine pM_iln rfl rfl ?_
              refine pM_zeq rfl rfl (fun h11 => ?_) (fun h11 => ?_)
              · replace h := h.1 h11
                refine pM_aln rfl rfl rfl ?_
                refine pM_gr rfl rfl rfl rfl ?_
                refine pM_qVi (as := [.inr (.inl (some 3))]) (T := []) rfl rfl (fun C hC => cl_v hC rfl rfl rfl rfl) rfl (q_Text_kind ) ?_
                refine pM_ic rfl ki_3 ?_
                refine pM_cne rfl rfl (fun h12 => ?_) (fun h12 => ?_)
                · replace h := h.2 h12
                  refine pM_ic rfl ki_0 ?_
                  refine pM_isn rfl rfl ?_
                  refine pM_iln rfl rfl ?_
                  refine pM_zne rfl rfl (fun h16 => ?_) (fun h16 => ?_)
                  · exact absurd (by decide) h16
                  · refine pM_ic rfl ki_1 ?_
                    exact pM_ri rfl (⟨_, rfl, h⟩)
                · replace h := h.1 h12
                  refine pM_ic rfl ki_1 ?_
                  refine pM_go rfl rfl ?_
                  refine pM_isn rfl rfl ?_
                  refine pM_iln rfl rfl ?_
                  refine pM_zne rfl rfl (fun h13 => ?_) (fun h13 => ?_)
                  · refine pM_aln rfl rfl rfl ?_
                    refine pM_gr rfl rfl rfl rfl ?_
                    refine pM_qRu (as := [.inr (.inl (some 3))]) (T := []) rfl rfl (fun C hC => cl_v hC rfl rfl rfl rfl) rfl (q_Text_goOn  h) (fun M15 h => ?_)
                    refine pM_ii rfl rfl rfl ki_1 ?_
                    refine pM_go rfl rfl ?_
                    refine pM_w (F2 := [(0, .inr (.inl (some 42))), (1, .inl (.inl p1)), (2, .inl (.inl 0)), (3, .inl (.inl 1)), (4, .inl (.inl (v4 + 1)))]) (fun L hL => lo_cons (lo_lk hL rfl) (lo_cons (lo_lk hL rfl) (lo_cons (lo_lk hL rfl) (lo_cons (lo_lk hL rfl) (lo_cons (lo_lk hL rfl) lo_nil))))) ?_
                    exact IH hN 0 1 (v4 + 1) M15 h
                  · exact absurd h13 (by decide)
              · replace h := h.2 h11
                refine pM_aln rfl rfl rfl ?_
                refine pM_gr rfl rfl rfl rfl ?_
                refine pM_bi rfl kb_m4 ?_
                refine pM_qRu (as := [.inr (.inl (some 13)), .inl (.inl (-4))]) (T := []) rfl rfl (fun C hC => cl_v hC rfl rfl rfl rfl) rfl (q_Law_addStep isK_13 h) (fun M18 h => ?_)
                refine pM_aln rfl rfl rfl ?_
                refine pM_gr rfl rfl rfl rfl ?_
                refine pM_qVi (as := [.inr (.inl (some 3))]) (T := []) rfl rfl (fun C hC => cl_v hC rfl rfl rfl rfl) rfl (q_Text_kind ) ?_
                refine pM_ic rfl ki_3 ?_
                refine pM_cne rfl rfl (fun h19 => ?_) (fun h19 => ?_)
                · replace h := h.2 h19
                  refine pM_ic rfl ki_0 ?_
                  refine pM_isn rfl rfl ?_
                  refine pM_iln rfl rfl ?_
                  refine pM_zne rfl rfl (fun h23 => ?_) (fun h23 => ?_)
                  · exact absurd (by decide) h23
                  · refine pM_ic rfl ki_1 ?_
                    exact pM_ri rfl (⟨_, rfl, h⟩)
                · replace h := h.1 h19
                  refine pM_ic rfl ki_1 ?_
                  refine pM_go rfl rfl ?_
                  refine pM_isn rfl rfl ?_
                  refine pM_iln rfl rfl ?_
                  refine pM_zne rfl rfl (fun h20 => ?_) (fun h20 => ?_)
                  · refine pM_aln rfl rfl rfl ?_
                    refine pM_gr rfl rfl rfl rfl ?_
                    refine pM_qRu (as := [.inr (.inl (some 3))]) (T := []) rfl rfl (fun C hC => cl_v hC rfl rfl rfl rfl) rfl (q_Text_goOn  h) (fun M22 h => ?_)
                    refine pM_ii rfl rfl rfl ki_1 ?_
                    refine pM_go rfl rfl ?_
                    refine pM_w (F2 := [(0, .inr (.inl (some 42))), (1, .inl (.inl p1)), (2, .inl (.inl 0)), (3, .inl (.inl 1)), (4, .inl (.inl (v4 + 1)))]) (fun L hL => lo_cons (lo_lk hL rfl) (lo_cons (lo_lk hL rfl) (lo_cons (lo_lk hL rfl) (lo_cons (lo_lk hL rfl) (lo_cons (lo_lk hL rfl) lo_nil))))) ?_
                    exact IH hN 0 1 (v4 + 1) M22 h
                  · exact absurd h20 (by decide)
          · replace h := h.1 h6
            refine pM_ic rfl ki_1 ?_
            refine pM_go rfl rfl ?_
            refine pM_isn rfl rfl ?_
            refine pM_iln rfl rfl ?_
            refine pM_zne rfl rfl (fun h7 => ?_) (fun h7 => ?_)
            · refine pM_aln rfl rfl rfl ?_
              refine pM_gr rfl rfl rfl rfl ?_
              refine pM_qRu (as := [.inr (.inl (some 3))]) (T := []) rfl rfl (fun C hC => cl_v hC rfl rfl rfl rfl) rfl (q_Text_goOn  h) (fun M9 h => ?_)
              refine pM_ii rfl rfl rfl ki_1 ?_
              refine pM_go rfl rfl ?_
              refine pM_w (F2 := [(0, .inr (.inl (some 42))), (1, .inl (.inl p1)), (2, .inl (.inl 1)), (3, .inl (.inl v3)), (4, .inl (.inl (v4 + 1)))]) (fun L hL => lo_cons (lo_lk hL rfl) (lo_cons (lo_lk hL rfl) (lo_cons (lo_lk hL rfl) (lo_cons (lo_lk hL rfl) (lo_cons (lo_lk hL rfl) lo_nil))))) ?_
              exact IH hN 1 v3 (v4 + 1) M9 h
            · exact absurd h7 (by decide)
        · replace h := h.2 h5
          refine pM_aln rfl rfl rfl ?_
          refine pM_gr rfl rfl rfl rfl ?_
          refine pM_bi rfl kb_m3 ?_
          refine pM_qRu (as := [.inr (.inl (some 13)), .inl (.inl (-3))]) (T := []) rfl rfl (fun C hC => cl_v hC rfl rfl rfl rfl) rfl (q_Law_addStep isK_13 h) (fun M25 h => ?_)
          refine pM_aln rfl rfl rfl ?_
          refine pM_gr rfl rfl rfl rfl ?_
          refine pM_qVi (as := [.inr (.inl (some 3))]) (T := []) rfl rfl (fun C hC => cl_v hC rfl rfl rfl rfl) rfl (q_Text_kind ) ?_
          refine pM_ic rfl ki_4 ?_
          refine pM_cne rfl rfl (fun h26 => ?_) (fun h26 => ?_)
          · replace h := h.2 h26
            refine pM_ic rfl ki_0 ?_
            refine pM_isn rfl rfl ?_
            refine pM_iln rfl rfl ?_
            refine pM_zne rfl rfl (fun h30 => ?_) (fun h30 => ?_)
            · exact absurd (by decide) h30
            · refine pM_iln rfl rfl ?_
              refine pM_zeq rfl rfl (fun h31 => ?_) (fun h31 => ?_)
              · replace h := h.1 h31
                refine pM_aln rfl rfl rfl ?_
                refine pM_gr rfl rfl rfl rfl ?_
                refine pM_qVi (as := [.inr (.inl (some 3))]) (T := []) rfl rfl (fun C hC => cl_v hC rfl rfl rfl rfl) rfl (q_Text_kind ) ?_
                refine pM_ic rfl ki_3 ?_
                refine pM_cne rfl rfl (fun h32 => ?_) (fun h32 => ?_)
                · replace h := h.2 h32
                  refine pM_ic rfl ki_0 ?_
                  refine pM_isn rfl rfl ?_
                  refine pM_iln rfl rfl ?_
                  refine pM_zne rfl rfl (fun h36 => ?_) (fun h36 => ?_)
                  · exact absurd (by decide) h36
                  · refine pM_ic rfl ki_1 ?_
                    exact pM_ri rfl (⟨_, rfl, h⟩)
                · replace h := h.1 h32
                  refine pM_ic rfl ki_1 ?_
                  refine pM_go rfl rfl ?_
                  refine pM_isn rfl rfl ?_
                  refine pM_iln rfl rfl ?_
                  refine pM_zne rfl rfl (fun h33 => ?_) (fun h33 => ?_)
                  · refine pM_aln rfl rfl rfl ?_
                    refine pM_gr rfl rfl rfl rfl ?_
                    refine pM_qRu (as := [.inr (.inl (some 3))]) (T := []) rfl rfl (fun C hC => cl_v hC rfl rfl rfl rfl) rfl (q_Text_goOn  h) (fun M35 h => ?_)
                    refine pM_ii rfl rfl rfl ki_1 ?_
                    refine pM_go rfl rfl ?_
                    refine pM_w (F2 := [(0, .inr (.inl (some 42))), (1, .inl (.inl p1)), (2, .inl (.inl 0)), (3, .inl (.inl 1)), (4, .inl (.inl (v4 + 1)))]) (fun L hL => lo_cons (lo_lk hL rfl) (lo_cons (lo_lk hL rfl) (lo_cons (lo_lk hL rfl) (lo_cons (lo_lk hL rfl) (lo_cons (lo_lk hL rfl) lo_nil))))) ?_
                    exact IH hN 0 1 (v4 + 1) M35 h
                  · exact absurd h33 (by decide)
              · replace h := h.2 h31
                refine pM_aln rfl rfl rfl ?_
                refine pM_gr rfl rfl rfl rfl ?_
                refine pM_bi rfl kb_m4 ?_
                refine pM_qRu (as := [.inr (.inl (some 13)), .inl (.inl (-4))]) (T := []) rfl rfl (fun C hC => cl_v hC rfl rfl rfl rfl) rfl (q_Law_addStep isK_13 h) (fun M38 h => ?_)
                refine pM_aln rfl rfl rfl ?_
                refine pM_gr rfl rfl rfl rfl ?_
                refine pM_qVi (as := [.inr (.inl (some 3))]) (T := []) rfl rfl (fun C hC => cl_v hC rfl rfl rfl rfl) rfl (q_Text_kind ) ?_
                refine pM_ic rfl ki_3 ?_
                refine pM_cne rfl rfl (fun h39 => ?_) (fun h39 => ?_)
                · replace h := h.2 h39
                  refine pM_ic rfl ki_0 ?_
                  refine pM_isn rfl rfl ?_
                  refine pM_iln rfl rfl ?_
                  refine pM_zne rfl rfl (fun h43 => ?_) (fun h43 => ?_)
                  · exact absurd (by decide) h43
                  · refine pM_ic rfl ki_1 ?_
                    exact pM_ri rfl (⟨_, rfl, h⟩)
                · replace h := h.1 h39
                  refine pM_ic rfl ki_1 ?_
                  refine pM_go rfl rfl ?_
                  refine pM_isn rfl rfl ?_
                  refine pM_iln rfl rfl ?_
                  refine pM_zne rfl rfl (fun h40 => ?_) (fun h40 => ?_)
                  · refine pM_aln rfl rfl rfl ?_
                    refine pM_gr rfl rfl rfl rfl ?_
                    refine pM_qRu (as := [.inr (.inl (some 3))]) (T := []) rfl rfl (fun C hC => cl_v hC rfl rfl rfl rfl) rfl (q_Text_goOn  h) (fun M42 h => ?_)
                    refine pM_ii rfl rfl rfl ki_1 ?_
                    refine pM_go rfl rfl ?_
                    refine pM_w (F2 := [(0, .inr (.inl (some 42))), (1, .inl (.inl p1)), (2, .inl (.inl 0)), (3, .inl (.inl 1)), (4, .inl (.inl (v4 + 1)))]) (fun L hL => lo_cons (lo_lk hL rfl) (lo_cons (lo_lk hL rfl) (lo_cons (lo_lk hL rfl) (lo_cons (lo_lk hL rfl) (lo_cons (lo_lk hL rfl) lo_nil))))) ?_
                    exact IH hN 0 1 (v4 + 1) M42 h
                  · exact absurd h40 (by decide)
          · replace h := h.1 h26
            refine pM_ic rfl ki_1 ?_
            refine pM_go rfl rfl ?_
            refine pM_isn rfl rfl ?_
            refine pM_iln rfl rfl ?_
            refine pM_zne rfl rfl (fun h27 => ?_) (fun h27 => ?_)
            · refine pM_aln rfl rfl rfl ?_
              refine pM_gr rfl rfl rfl rfl ?_
              refine pM_qRu (as := [.inr (.inl (some 3))]) (T := []) rfl rfl (fun C hC => cl_v hC rfl rfl rfl rfl) rfl (q_Text_goOn  h) (fun M29 h => ?_)
              refine pM_ii rfl rfl rfl ki_1 ?_
              refine pM_go rfl rfl ?_
              refine pM_w (F2 := [(0, .inr (.inl (some 42))), (1, .inl (.inl p1)), (2, .inl (.inl 1)), (3, .inl (.inl v3)), (4, .inl (.inl (v4 + 1)))]) (fun L hL => lo_cons (lo_lk hL rfl) (lo_cons (lo_lk hL rfl) (lo_cons (lo_lk hL rfl) (lo_cons (lo_lk hL rfl) (lo_cons (lo_lk hL rfl) lo_nil))))) ?_
              exact IH hN 1 v3 (v4 + 1) M29 h
            · exact absurd h27 (by decide)
      · replace h := h.1 h4
        refine pM_ic rfl ki_0 ?_
        exact pM_ri rfl (⟨_, rfl, h⟩)
/-- 362: EarCode$LawReader.readCondition(I)Z -/
def W_LawReader_readCondition_362 (p1 : Int32) (N : Nat) (M : MM) (Q : Int32 → MM → Prop) : Prop :=
  W_LawReader_readCondition_362_7 p1 Q N 0 0 0 M
theorem q_LawReader_readCondition_362 {X : Option (List AI)} {N : Nat} {M : MM} {p1 : Int32} {Q : Int32 → MM → Prop}  (h : W_LawReader_readCondition_362 p1 N M Q) : pM X N 362 0 (ea_ar 0 [.inr (.inl (some 42)), .inl (.inl p1)]) [] M (Ri Q) := by
  refine pM_w (F2 := [(0, .inr (.inl (some 42))), (1, .inl (.inl p1))]) (fun L hL => lo_cons (lo_lk hL rfl) (lo_cons (lo_lk hL rfl) lo_nil)) ?_
  refine pM_ic rfl ki_0 ?_
  refine pM_isn rfl rfl ?_
  refine pM_ic rfl ki_0 ?_
  refine pM_isn rfl rfl ?_
  refine pM_ic rfl ki_0 ?_
  refine pM_is rfl rfl ?_
  refine pM_w (F2 := [(0, .inr (.inl (some 42))), (1, .inl (.inl p1)), (2, .inl (.inl 0)), (3, .inl (.inl 0)), (4, .inl (.inl 0))]) (fun L hL => lo_cons (lo_lk hL rfl) (lo_cons (lo_lk hL rfl) (lo_cons (lo_lk hL rfl) (lo_cons (lo_lk hL rfl) (lo_cons (lo_lk hL rfl) lo_nil))))) ?_
  refine q_LawReader_readCondition_362_7   N (Nat.le_refl N) 0 0 0 M h
/-- 361: EarCode$LawReader.readAtom(I)Z -/
def W_LawReader_readAtom_361 (p1 : Int32) (N : Nat) (M : MM) (Q : Int32 → MM → Prop) : Prop :=
  (((V_Text_kind  M) = 6 →
    W_Text_goOn  N M (fun M3 =>
      W_Law_addStep 13 (-1) N M3 (fun M5 =>
        Q 1 M5))) ∧
   (¬ (V_Text_kind  M) = 6 →
    (((V_Text_kind  M) = 5 →
      ((p1 < 6 →
        W_Text_goOn  N M (fun M9 =>
          (((V_Text_kind  M) = 5 →
            W_LawReader_readAtom_363 (p1 + 1) N M9 (fun r11 M12 =>
              ((r11 = 0 →
                Q 0 M12) ∧
               (¬ r11 = 0 →
                W_Law_addStep 13 (-2) N M12 (fun M15 =>
                  Q 1 M15))))) ∧
           (¬ (V_Text_kind  M) = 5 →
            W_LawReader_readCondition_362 (p1 + 1) N M9 (fun r16 M17 =>
              ((r16 = 0 →
                Q 0 M17) ∧
               (¬ r16 = 0 →
                (((V_Text_kind  M17) = 41 →
                  W_Text_goOn  N M17 (fun M21 =>
                    Q 1 M21)) ∧
                 (¬ (V_Text_kind  M17) = 41 →
                  Q 0 M17))))))))) ∧
       (¬ p1 < 6 →
        Q 0 M))) ∧
     (¬ (V_Text_kind  M) = 5 →
      (((V_Text_kind  M) = 40 →
        ((p1 < 6 →
          W_Text_goOn  N M (fun M25 =>
            (((V_Text_kind  M) = 5 →
              W_LawReader_readAtom_363 (p1 + 1) N M25 (fun r27 M28 =>
                ((r27 = 0 →
                  Q 0 M28) ∧
                 (¬ r27 = 0 →
                  W_Law_addStep 13 (-2) N M28 (fun M31 =>
                    Q 1 M31))))) ∧
             (¬ (V_Text_kind  M) = 5 →
              W_LawReader_readCondition_362 (p1 + 1) N M25 (fun r32 M33 =>
                ((r32 = 0 →
                  Q 0 M33) ∧
                 (¬ r32 = 0 →
                  (((V_Text_kind  M33) = 41 →
                    W_Text_goOn  N M33 (fun M37 =>
                      Q 1 M37)) ∧
                   (¬ (V_Text_kind  M33) = 41 →
                    Q 0 M33))))))))) ∧
         (¬ p1 < 6 →
          Q 0 M))) ∧
       (¬ (V_Text_kind  M) = 40 →
        W_LawReader_readComparison  N M (fun r38 M39 =>
          Q r38 M39)))))))
theorem q_LawReader_readAtom_361 {X : Option (List AI)} {N : Nat} {M : MM} {p1 : Int32} {Q : Int32 → MM → Prop}  (h : W_LawReader_readAtom_361 p1 N M Q) : pM X N 361 0 (ea_ar 0 [.inr (.inl (some 42)), .inl (.inl p1)]) [] M (Ri Q) := by
  refine pM_w (F2 := [(0, .inr (.inl (some 42))), (1, .inl (.inl p1))]) (fun L hL => lo_cons (lo_lk hL rfl) (lo_cons (lo_lk hL rfl) lo_nil)) ?_
  refine pM_aln rfl rfl rfl ?_
  refine pM_gr rfl rfl rfl rfl ?_
  refine pM_qVi (as := [.inr (.inl (some 3))]) (T := []) rfl rfl (fun C hC => cl_v hC rfl rfl rfl rfl) rfl (q_Text_kind ) ?_
  refine pM_isn rfl rfl ?_
  refine pM_iln rfl rfl ?_
  refine pM_bi rfl kb_6 ?_
  refine pM_cne rfl rfl (fun h1 => ?_) (fun h1 => ?_)
  · replace h := h.2 h1
    refine pM_iln rfl rfl ?_
    refine pM_ic rfl ki_5 ?_
    refine pM_ceq rfl rfl (fun h6 => ?_) (fun h6 => ?_)
    · replace h := h.1 h6
      refine pM_iln rfl rfl ?_
      refine pM_bi rfl kb_6 ?_
      refine pM_clt rfl rfl (fun h7 => ?_) (fun h7 => ?_)
      · replace h := h.1 h7
        refine pM_aln rfl rfl rfl ?_
        refine pM_gr rfl rfl rfl rfl ?_
        refine pM_qRu (as := [.inr (.inl (some 3))]) (T := []) rfl rfl (fun C hC => cl_v hC rfl rfl rfl rfl) rfl (q_Text_goOn  h) (fun M9 h => ?_)
        refine pM_iln rfl rfl ?_
        refine pM_ic rfl ki_5 ?_
        refine pM_cne rfl rfl (fun h10 => ?_) (fun h10 => ?_)
        · replace h := h.2 h10
          refine pM_aln rfl rfl rfl ?_
          refine pM_iln rfl rfl ?_
          refine pM_ic rfl ki_1 ?_
          refine pM_add rfl ?_
          refine pM_qRi (as := [.inr (.inl (some 42)), .inl (.inl (p1 + 1))]) (T := []) rfl rfl (fun C hC => cl_v hC rfl rfl rfl rfl) rfl (q_LawReader_readCondition_362  h) (fun r16 M17 h => ?_)
          refine pM_zeq rfl rfl (fun h18 => ?_) (fun h18 => ?_)
          · replace h := h.1 h18
            refine pM_ic rfl ki_0 ?_
            exact pM_ri rfl (⟨_, rfl, h⟩)
          · replace h := h.2 h18
            refine pM_aln rfl rfl rfl ?_
            refine pM_gr rfl rfl rfl rfl ?_
            refine pM_qVi (as := [.inr (.inl (some 3))]) (T := []) rfl rfl (fun C hC => cl_v hC rfl rfl rfl rfl) rfl (q_Text_kind ) ?_
            refine pM_bi rfl kb_41 ?_
            refine pM_ceq rfl rfl (fun h19 => ?_) (fun h19 => ?_)
            · replace h := h.1 h19
              refine pM_aln rfl rfl rfl ?_
              refine pM_gr rfl rfl rfl rfl ?_
              refine pM_qRu (as := [.inr (.inl (some 3))]) (T := []) rfl rfl (fun C hC => cl_v hC rfl rfl rfl rfl) rfl (q_Text_goOn  h) (fun M21 h => ?_)
              refine pM_ic rfl ki_1 ?_
              exact pM_ri rfl (⟨_, rfl, h⟩)
            · replace h := h.2 h19
              refine pM_ic rfl ki_0 ?_
              exact pM_ri rfl (⟨_, rfl, h⟩)
        · replace h := h.1 h10
          refine pM_aln rfl rfl rfl ?_
          refine pM_iln rfl rfl ?_
          refine pM_ic rfl ki_1 ?_
          refine pM_add rfl ?_
          refine pM_qRi (as := [.inr (.inl (some 42)), .inl (.inl (p1 + 1))]) (T := []) rfl rfl (fun C hC => cl_v hC rfl rfl rfl rfl) rfl (q_LawReader_readAtom_363  h) (fun r11 M12 h => ?_)
          refine pM_zne rfl rfl (fun h13 => ?_) (fun h13 => ?_)
          · replace h := h.2 h13
            refine pM_aln rfl rfl rfl ?_
            refine pM_gr rfl rfl rfl rfl ?_
            refine pM_bi rfl kb_m2 ?_
            refine pM_qRu (as := [.inr (.inl (some 13)), .inl (.inl (-2))]) (T := []) rfl rfl (fun C hC => cl_v hC rfl rfl rfl rfl) rfl (q_Law_addStep isK_13 h) (fun M15 h => ?_)
            refine pM_ic rfl ki_1 ?_
            exact pM_ri rfl (⟨_, rfl, h⟩)
          · replace h := h.1 h13
            refine pM_ic rfl ki_0 ?_
            exact pM_ri rfl (⟨_, rfl, h⟩)
      · replace h := h.2 h7
        refine pM_ic rfl ki_0 ?_
        exact pM_ri rfl (⟨_, rfl, h⟩)
    · replace h := h.2 h6
      refine pM_iln rfl rfl ?_
      refine pM_bi rfl kb_40 ?_
      refine pM_ceq rfl rfl (fun h22 => ?_) (fun h22 => ?_)
      · replace h := h.1 h22
        refine pM_iln rfl rfl ?_
        refine pM_bi rfl kb_6 ?_
        refine pM_clt rfl rfl (fun h23 => ?_) (fun h23 => ?_)
        · replace h := h.1 h23
          refine pM_aln rfl rfl rfl ?_
          refine pM_gr rfl rfl rfl rfl ?_
          refine pM_qRu (as := [.inr (.inl (some 3))]) (T := []) rfl rfl (fun C hC => cl_v hC rfl rfl rfl rfl) rfl (q_Text_goOn  h) (fun M25 h => ?_)
          refine pM_iln rfl rfl ?_
          refine pM_ic rfl ki_5 ?_
          refine pM_cne rfl rfl (fun h26 => ?_) (fun h26 => ?_)
          · replace h := h.2 h26
            refine pM_aln rfl rfl rfl ?_
            refine pM_iln rfl rfl ?_
            refine pM_ic rfl ki_1 ?_
            refine pM_add rfl ?_
            refine pM_qRi (as := [.inr (.inl (some 42)), .inl (.inl (p1 + 1))]) (T := []) rfl rfl (fun C hC => cl_v hC rfl rfl rfl rfl) rfl (q_LawReader_readCondition_362  h) (fun r32 M33 h => ?_)
            refine pM_zeq rfl rfl (fun h34 => ?_) (fun h34 => ?_)
            · replace h := h.1 h34
              refine pM_ic rfl ki_0 ?_
              exact pM_ri rfl (⟨_, rfl, h⟩)
            · replace h := h.2 h34
              refine pM_aln rfl rfl rfl ?_
              refine pM_gr rfl rfl rfl rfl ?_
              refine pM_qVi (as := [.inr (.inl (some 3))]) (T := []) rfl rfl (fun C hC => cl_v hC rfl rfl rfl rfl) rfl (q_Text_kind ) ?_
              refine pM_bi rfl kb_41 ?_
              refine pM_ceq rfl rfl (fun h35 => ?_) (fun h35 => ?_)
              · replace h := h.1 h35
                refine pM_aln rfl rfl rfl ?_
                refine pM_gr rfl rfl rfl rfl ?_
                refine pM_qRu (as := [.inr (.inl (some 3))]) (T := []) rfl rfl (fun C hC => cl_v hC rfl rfl rfl rfl) rfl (q_Text_goOn  h) (fun M37 h => ?_)
                refine pM_ic rfl ki_1 ?_
                exact pM_ri rfl (⟨_, rfl, h⟩)
              · replace h := h.2 h35
                refine pM_ic rfl ki_0 ?_
                exact pM_ri rfl (⟨_, rfl, h⟩)
          · replace h := h.1 h26
            refine pM_aln rfl rfl rfl ?_
            refine pM_iln rfl rfl ?_
            refine pM_ic rfl ki_1 ?_
            refine pM_add rfl ?_
            refine pM_qRi (as := [.inr (.inl (some 42)), .inl (.inl (p1 + 1))]) (T := []) rfl rfl (fun C hC => cl_v hC rfl rfl rfl rfl) rfl (q_LawReader_readAtom_363  h) (fun r27 M28 h => ?_)
            refine pM_zne rfl rfl (fun h29 => ?_) (fun h29 => ?_)
            · replace h := h.2 h29
              refine pM_aln rfl rfl rfl ?_
              refine pM_gr rfl rfl rfl rfl ?_
              refine pM_bi rfl kb_m2 ?_
              refine pM_qRu (as := [.inr (.inl (some 13)), .inl (.inl (-2))]) (T := []) rfl rfl (fun C hC => cl_v hC rfl rfl rfl rfl) rfl (q_Law_addStep isK_13 h) (fun M31 h => ?_)
              refine pM_ic rfl ki_1 ?_
              exact pM_ri rfl (⟨_, rfl, h⟩)
            · replace h := h.1 h29
              refine pM_ic rfl ki_0 ?_
              exact pM_ri rfl (⟨_, rfl, h⟩)
        · replace h := h.2 h23
          refine pM_ic rfl ki_0 ?_
          exact pM_ri rfl (⟨_, rfl, h⟩)
      · replace h := h.2 h22
        refine pM_aln rfl rfl rfl ?_
        refine pM_qRi (as := [.inr (.inl (some 42))]) (T := []) rfl rfl (fun C hC => cl_v hC rfl rfl rfl rfl) rfl (q_LawReader_readComparison  h) (fun r38 M39 h => ?_)
        exact pM_ri rfl (⟨_, rfl, h⟩)
  · replace h := h.1 h1
    refine pM_aln rfl rfl rfl ?_
    refine pM_gr rfl rfl rfl rfl ?_
    refine pM_qRu (as := [.inr (.inl (some 3))]) (T := []) rfl rfl (fun C hC => cl_v hC rfl rfl rfl rfl) rfl (q_Text_goOn  h) (fun M3 h => ?_)
    refine pM_aln rfl rfl rfl ?_
    refine pM_gr rfl rfl rfl rfl ?_
    refine pM_ic rfl ki_m1 ?_
    refine pM_qRu (as := [.inr (.inl (some 13)), .inl (.inl (-1))]) (T := []) rfl rfl (fun C hC => cl_v hC rfl rfl rfl rfl) rfl (q_Law_addStep isK_13 h) (fun M5 h => ?_)
    refine pM_ic rfl ki_1 ?_
    exact pM_ri rfl (⟨_, rfl, h⟩)
