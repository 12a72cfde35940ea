/-! WHAT EACH METHOD COMES TO (gw.py) -/
/-- 94: EarCode$Text.kind()I -/
def V_Text_kind  (M : MM) : Int32 :=
  (if (M.1 3 5) < (M.1 3 4) then
    (M.1 4 (ni (M.1 3 5)))
  else
    21)
theorem q_Text_kind {X : Option (List AI)} {N : Nat} {M : MM}   : pM X N 94 0 (ea_ar 0 [.inr (.inl (some 3))]) [] M (Vi (V_Text_kind  M) M) := by
  refine pM_w (F2 := [(0, .inr (.inl (some 3)))]) (fun L hL => lo_cons (lo_lk hL rfl) lo_nil) ?_
  refine pM_aln rfl rfl rfl ?_
  refine pM_gi rfl rfl rfl rfl ?_
  refine pM_aln rfl rfl rfl ?_
  refine pM_gi rfl rfl rfl rfl ?_
  refine pM_cge rfl rfl (fun h1 => ?_) (fun h1 => ?_)
  · refine pM_bi rfl kb_21 ?_
    exact pM_rVi rfl (Eq.trans (if_neg h1) rfl)
  · refine pM_aln rfl rfl rfl ?_
    refine pM_gr rfl rfl rfl rfl ?_
    refine pM_aln rfl rfl rfl ?_
    refine pM_gi rfl rfl rfl rfl ?_
    refine pM_ai rfl rfl (one_p _) ?_
    refine pM_go rfl rfl ?_
    exact pM_rVi rfl (Eq.trans (if_pos h1) rfl)
/-- 95: EarCode$Text.value()I -/
def V_Text_value  (M : MM) : Int32 :=
  (if (M.1 3 5) < (M.1 3 4) then
    (M.1 7 (ni (M.1 3 5)))
  else
    0)
theorem q_Text_value {X : Option (List AI)} {N : Nat} {M : MM}   : pM X N 95 0 (ea_ar 0 [.inr (.inl (some 3))]) [] M (Vi (V_Text_value  M) M) := by
  refine pM_w (F2 := [(0, .inr (.inl (some 3)))]) (fun L hL => lo_cons (lo_lk hL rfl) lo_nil) ?_
  refine pM_aln rfl rfl rfl ?_
  refine pM_gi rfl rfl rfl rfl ?_
  refine pM_aln rfl rfl rfl ?_
  refine pM_gi rfl rfl rfl rfl ?_
  refine pM_cge rfl rfl (fun h1 => ?_) (fun h1 => ?_)
  · refine pM_ic rfl ki_0 ?_
    exact pM_rVi rfl (Eq.trans (if_neg h1) rfl)
  · refine pM_aln rfl rfl rfl ?_
    refine pM_gr rfl rfl rfl rfl ?_
    refine pM_aln rfl rfl rfl ?_
    refine pM_gi rfl rfl rfl rfl ?_
    refine pM_ai rfl rfl (one_p _) ?_
    refine pM_go rfl rfl ?_
    exact pM_rVi rfl (Eq.trans (if_pos h1) rfl)
/-- 98: EarCode$Text.goOn()V -/
def W_Text_goOn  (N : Nat) (M : MM) (Q : MM → Prop) : Prop :=
  Q (wi M 3 5 ((M.1 3 5) + 1))
theorem q_Text_goOn {X : Option (List AI)} {N : Nat} {M : MM}  {Q : MM → Prop}  (h : W_Text_goOn  N M Q) : pM X N 98 0 (ea_ar 0 [.inr (.inl (some 3))]) [] M (Ru Q) := by
  refine pM_w (F2 := [(0, .inr (.inl (some 3)))]) (fun L hL => lo_cons (lo_lk hL rfl) lo_nil) ?_
  refine pM_aln rfl rfl rfl ?_
  refine pM_p (pc' := 2) (S' := [.inr (.inl (some 3)), .inr (.inl (some 3))]) rfl rfl (fun _ => rfl) ?_
  refine pM_gi rfl rfl rfl rfl ?_
  refine pM_ic rfl ki_1 ?_
  refine pM_add rfl ?_
  refine pM_pi rfl rfl rfl rfl ?_
  exact pM_ru rfl (⟨rfl, h⟩)
def B_LawReader_readSum_2 (p1 : Int32) (p2 : Int32) (Q : Int32 → MM → Prop) (N : Nat) (ih : Int32 → MM → Prop) (v3 : Int32) (M : MM) : Prop :=
  ((v3 < 400 →
    (((V_Text_kind  M) = 20 →
      ((999 < (V_Text_value  M) →
        (((V_Text_kind  M) = 7 →
          W_Text_goOn  N (wi M 17 (ni (p1 + 1)) ((M.1 17 (ni (p1 + 1))) + p2)) (fun M6 =>
            (((V_Text_kind  M6) = 43 →
              W_Text_goOn  N M6 (fun M9 =>
                ih (v3 + 1) M9)) ∧
             (¬ (V_Text_kind  M6) = 43 →
              Q 1 M6)))) ∧
         (¬ (V_Text_kind  M) = 7 →
          (((V_Text_kind  M) = 8 →
            W_Text_goOn  N (wi M 17 (ni (p1 + 2)) ((M.1 17 (ni (p1 + 2))) + p2)) (fun M12 =>
              (((V_Text_kind  M12) = 43 →
                W_Text_goOn  N M12 (fun M15 =>
                  ih (v3 + 1) M15)) ∧
               (¬ (V_Text_kind  M12) = 43 →
                Q 1 M12)))) ∧
           (¬ (V_Text_kind  M) = 8 →
            (((V_Text_kind  M) = 9 →
              W_Text_goOn  N (wi M 17 (ni (p1 + 3)) ((M.1 17 (ni (p1 + 3))) + p2)) (fun M18 =>
                (((V_Text_kind  M18) = 43 →
                  W_Text_goOn  N M18 (fun M21 =>
                    ih (v3 + 1) M21)) ∧
                 (¬ (V_Text_kind  M18) = 43 →
                  Q 1 M18)))) ∧
             (¬ (V_Text_kind  M) = 9 →
              (((V_Text_kind  M) = 10 →
                W_Text_goOn  N (wi M 17 (ni (p1 + 4)) ((M.1 17 (ni (p1 + 4))) + p2)) (fun M24 =>
                  (((V_Text_kind  M24) = 43 →
                    W_Text_goOn  N M24 (fun M27 =>
                      ih (v3 + 1) M27)) ∧
                   (¬ (V_Text_kind  M24) = 43 →
                    Q 1 M24)))) ∧
               (¬ (V_Text_kind  M) = 10 →
                Q 0 M))))))))) ∧
       (¬ 999 < (V_Text_value  M) →
        W_Text_goOn  N (wi M 17 (ni p1) ((M.1 17 (ni p1)) + (p2 * (V_Text_value  M)))) (fun M29 =>
          (((V_Text_kind  M29) = 43 →
            W_Text_goOn  N M29 (fun M32 =>
              ih (v3 + 1) M32)) ∧
           (¬ (V_Text_kind  M29) = 43 →
            Q 1 M29)))))) ∧
     (¬ (V_Text_kind  M) = 20 →
      (((V_Text_kind  M) = 7 →
        W_Text_goOn  N (wi M 17 (ni (p1 + 1)) ((M.1 17 (ni (p1 + 1))) + p2)) (fun M35 =>
          (((V_Text_kind  M35) = 43 →
            W_Text_goOn  N M35 (fun M38 =>
              ih (v3 + 1) M38)) ∧
           (¬ (V_Text_kind  M35) = 43 →
            Q 1 M35)))) ∧
       (¬ (V_Text_kind  M) = 7 →
        (((V_Text_kind  M) = 8 →
          W_Text_goOn  N (wi M 17 (ni (p1 + 2)) ((M.1 17 (ni (p1 + 2))) + p2)) (fun M41 =>
            (((V_Text_kind  M41) = 43 →
              W_Text_goOn  N M41 (fun M44 =>
                ih (v3 + 1) M44)) ∧
             (¬ (V_Text_kind  M41) = 43 →
              Q 1 M41)))) ∧
         (¬ (V_Text_kind  M) = 8 →
          (((V_Text_kind  M) = 9 →
            W_Text_goOn  N (wi M 17 (ni (p1 + 3)) ((M.1 17 (ni (p1 + 3))) + p2)) (fun M47 =>
              (((V_Text_kind  M47) = 43 →
                W_Text_goOn  N M47 (fun M50 =>
                  ih (v3 + 1) M50)) ∧
               (¬ (V_Text_kind  M47) = 43 →
                Q 1 M47)))) ∧
           (¬ (V_Text_kind  M) = 9 →
            (((V_Text_kind  M) = 10 →
              W_Text_goOn  N (wi M 17 (ni (p1 + 4)) ((M.1 17 (ni (p1 + 4))) + p2)) (fun M53 =>
                (((V_Text_kind  M53) = 43 →
                  W_Text_goOn  N M53 (fun M56 =>
                    ih (v3 + 1) M56)) ∧
                 (¬ (V_Text_kind  M53) = 43 →
                  Q 1 M53)))) ∧
             (¬ (V_Text_kind  M) = 10 →
              Q 0 M))))))))))) ∧
   (¬ v3 < 400 →
    Q 0 M))
def W_LawReader_readSum_2 (p1 : Int32) (p2 : Int32) (Q : Int32 → MM → Prop) : Nat → Int32 → MM → Prop
  | 0, _, _ => True
  | N + 1, v3, M => B_LawReader_readSum_2 p1 p2 Q N (W_LawReader_readSum_2 p1 p2 Q N) v3 M
theorem I_LawReader_readSum_2 (p1 : Int32) (p2 : Int32) (Q : Int32 → MM → Prop) (inv : Int32 → MM → Prop) (hs : ∀ (N : Nat) (ih : Int32 → MM → Prop) (v3 : Int32) (M : MM), (∀ (v3 : Int32) (M : MM), inv v3 M → ih v3 M) → inv v3 M → B_LawReader_readSum_2 p1 p2 Q N ih v3 M) : ∀ (N : Nat) (v3 : Int32) (M : MM), inv v3 M → W_LawReader_readSum_2 p1 p2 Q N v3 M := by
  intro N
  induction N with
  | zero => intros; trivial
  | succ N IH =>
    intro v3 M h
    exact hs N _ v3 M IH h
theorem q_LawReader_readSum_2 {X : Option (List AI)} {N0 : Nat} {p1 : Int32} {p2 : Int32} {Q : Int32 → MM → Prop}   : ∀ (N : Nat), N ≤ N0 → ∀ (v3 : Int32) (M : MM), W_LawReader_readSum_2 p1 p2 Q N v3 M → pM X N 44 2 [(0, .inr (.inl (some 42))), (1, .inl (.inl p1)), (2, .inl (.inl p2)), (3, .inl (.inl v3))] [] M (Ri Q) := by
  intro N
  induction N with
  | zero => intros; exact pM_zero
  | succ N IH =>
    intro hN v3 M h
    replace hN := Nat.le_of_succ_le hN
    replace h : B_LawReader_readSum_2 p1 p2 Q N (W_LawReader_readSum_2 p1 p2 Q N) v3 M := h
    refine pM_s (pMs_iln rfl rfl ?_)
    refine pM_si rfl ks_400 ?_
    refine pM_cge rfl rfl (fun h1 => ?_) (fun h1 => ?_)
    · replace h := h.2 h1
      refine pM_ic rfl ki_0 ?_
      exact pM_ri rfl (⟨_, rfl, h⟩)
    · replace h := h.1 h1
      refine pM_aln rfl rfl rfl ?_
      refine pM_gr rfl rfl rfl rfl ?_
      refine pM_qVi (as := [.inr (.inl (some 3))]) (T := []) rfl rfl (fun C hC => cl_v hC rfl rfl rfl rfl) rfl (q_Text_kind ) ?_
      refine pM_is rfl rfl ?_
      refine pM_il rfl rfl ?_
      refine pM_bi rfl kb_20 ?_
      refine pM_cne rfl rfl (fun h2 => ?_) (fun h2 => ?_)
      · replace h := h.2 h2
        refine pM_il rfl rfl ?_
        refine pM_bi rfl kb_7 ?_
        refine pM_cne rfl rfl (fun h33 => ?_) (fun h33 => ?_)
        · replace h := h.2 h33
          refine pM_il rfl rfl ?_
          refine pM_bi rfl kb_8 ?_
          refine pM_cne rfl rfl (fun h39 => ?_) (fun h39 => ?_)
          · replace h := h.2 h39
            refine pM_il rfl rfl ?_
            refine pM_bi rfl kb_9 ?_
            refine pM_cne rfl rfl (fun h45 => ?_) (fun h45 => ?_)
            · replace h := h.2 h45
              refine pM_il rfl rfl ?_
              refine pM_bi rfl kb_10 ?_
              refine pM_cne rfl rfl (fun h51 => ?_) (fun h51 => ?_)
              · replace h := h.2 h51
                refine pM_ic rfl ki_0 ?_
                exact pM_ri rfl (⟨_, rfl, h⟩)
              · replace h := h.1 h51
                refine pM_aln rfl rfl rfl ?_
                refine pM_gr rfl rfl rfl rfl ?_
                refine pM_gr rfl rfl rfl rfl ?_
                refine pM_iln rfl rfl ?_
                refine pM_ic rfl ki_4 ?_
                refine pM_add rfl ?_
                refine pM_p (pc' := 155) (S' := [.inl (.inl (p1 + 4)), .inr (.inl (some 17)), .inl (.inl (p1 + 4)), .inr (.inl (some 17))]) rfl rfl (fun _ => rfl) ?_
                refine pM_ai rfl rfl (one_p _) ?_
                refine pM_iln rfl rfl ?_
                refine pM_add rfl ?_
                refine pM_sa rfl rfl (one_p _) ?_
                refine pM_go rfl rfl ?_
                refine pM_aln rfl rfl rfl ?_
                refine pM_gr rfl rfl rfl rfl ?_
                refine pM_qRu (as := [.inr (.inl (some 3))]) (T := []) rfl rfl (fun C hC => cl_v hC rfl rfl rfl rfl) rfl (q_Text_goOn  h) (fun M53 h => ?_)
                refine pM_aln rfl rfl rfl ?_
                refine pM_gr rfl rfl rfl rfl ?_
                refine pM_qVi (as := [.inr (.inl (some 3))]) (T := []) rfl rfl (fun C hC => cl_v hC rfl rfl rfl rfl) rfl (q_Text_kind ) ?_
                refine pM_bi rfl kb_43 ?_
                refine pM_ceq rfl rfl (fun h54 => ?_) (fun h54 => ?_)
                · replace h := h.1 h54
                  refine pM_aln rfl rfl rfl ?_
                  refine pM_gr rfl rfl rfl rfl ?_
                  refine pM_qRu (as := [.inr (.inl (some 3))]) (T := []) rfl rfl (fun C hC => cl_v hC rfl rfl rfl rfl) rfl (q_Text_goOn  h) (fun M56 h => ?_)
                  refine pM_ii rfl rfl rfl ki_1 ?_
                  refine pM_go rfl rfl ?_
                  refine pM_w (F2 := [(0, .inr (.inl (some 42))), (1, .inl (.inl p1)), (2, .inl (.inl p2)), (3, .inl (.inl (v3 + 1)))]) (fun L hL => lo_cons (lo_lk hL rfl) (lo_cons (lo_lk hL rfl) (lo_cons (lo_lk hL rfl) (lo_cons (lo_lk hL rfl) lo_nil)))) ?_
                  exact IH hN (v3 + 1) M56 h
                · replace h := h.2 h54
                  refine pM_ic rfl ki_1 ?_
                  exact pM_ri rfl (⟨_, rfl, h⟩)
            · replace h := h.1 h45
              refine pM_aln rfl rfl rfl ?_
              refine pM_gr rfl rfl rfl rfl ?_
              refine pM_gr rfl rfl rfl rfl ?_
              refine pM_iln rfl rfl ?_
              refine pM_ic rfl ki_3 ?_
              refine pM_add rfl ?_
              refine pM_p (pc' := 130) (S' := [.inl (.inl (p1 + 3)), .inr (.inl (some 17)), .inl (.inl (p1 + 3)), .inr (.inl (some 17))]) rfl rfl (fun _ => rfl) ?_
              refine pM_ai rfl rfl (one_p _) ?_
              refine pM_iln rfl rfl ?_
              refine pM_add rfl ?_
              refine pM_sa rfl rfl (one_p _) ?_
              refine pM_go rfl rfl ?_
              refine pM_aln rfl rfl rfl ?_
              refine pM_gr rfl rfl rfl rfl ?_
              refine pM_qRu (as := [.inr (.inl (some 3))]) (T := []) rfl rfl (fun C hC => cl_v hC rfl rfl rfl rfl) rfl (q_Text_goOn  h) (fun M47 h => ?_)
              refine pM_aln rfl rfl rfl ?_
              refine pM_gr rfl rfl rfl rfl ?_
              refine pM_qVi (as := [.inr (.inl (some 3))]) (T := []) rfl rfl (fun C hC => cl_v hC rfl rfl rfl rfl) rfl (q_Text_kind ) ?_
              refine pM_bi rfl kb_43 ?_
              refine pM_ceq rfl rfl (fun h48 => ?_) (fun h48 => ?_)
              · replace h := h.1 h48
                refine pM_aln rfl rfl rfl ?_
                refine pM_gr rfl rfl rfl rfl ?_
                refine pM_qRu (as := [.inr (.inl (some 3))]) (T := []) rfl rfl (fun C hC => cl_v hC rfl rfl rfl rfl) rfl (q_Text_goOn  h) (fun M50 h => ?_)
                refine pM_ii rfl rfl rfl ki_1 ?_
                refine pM_go rfl rfl ?_
                refine pM_w (F2 := [(0, .inr (.inl (some 42))), (1, .inl (.inl p1)), (2, .inl (.inl p2)), (3, .inl (.inl (v3 + 1)))]) (fun L hL => lo_cons (lo_lk hL rfl) (lo_cons (lo_lk hL rfl) (lo_cons (lo_lk hL rfl) (lo_cons (lo_lk hL rfl) lo_nil)))) ?_
                exact IH hN (v3 + 1) M50 h
              · replace h := h.2 h48
                refine pM_ic rfl ki_1 ?_
                exact pM_ri rfl (⟨_, rfl, h⟩)
          · replace h := h.1 h39
            refine pM_aln rfl rfl rfl ?_
            refine pM_gr rfl rfl rfl rfl ?_
            refine pM_gr rfl rfl rfl rfl ?_
            refine pM_iln rfl rfl ?_
            refine pM_ic rfl ki_2 ?_
            refine pM_add rfl ?_
            refine pM_p (pc' := 105) (S' := [.inl (.inl (p1 + 2)), .inr (.inl (some 17)), .inl (.inl (p1 + 2)), .inr (.inl (some 17))]) rfl rfl (fun _ => rfl) ?_
            refine pM_ai rfl rfl (one_p _) ?_
            refine pM_iln rfl rfl ?_
            refine pM_add rfl ?_
            refine pM_sa rfl rfl (one_p _) ?_
            refine pM_go rfl rfl ?_
            refine pM_aln rfl rfl rfl ?_
            refine pM_gr rfl rfl rfl rfl ?_
            refine pM_qRu (as := [.inr (.inl (some 3))]) (T := []) rfl rfl (fun C hC => cl_v hC rfl rfl rfl rfl) rfl (q_Text_goOn  h) (fun M41 h => ?_)
            refine pM_aln rfl rfl rfl ?_
            refine pM_gr rfl rfl rfl rfl ?_
            refine pM_qVi (as := [.inr (.inl (some 3))]) (T := []) rfl rfl (fun C hC => cl_v hC rfl rfl rfl rfl) rfl (q_Text_kind ) ?_
            refine pM_bi rfl kb_43 ?_
            refine pM_ceq rfl rfl (fun h42 => ?_) (fun h42 => ?_)
            · replace h := h.1 h42
              refine pM_aln rfl rfl rfl ?_
              refine pM_gr rfl rfl rfl rfl ?_
              refine pM_qRu (as := [.inr (.inl (some 3))]) (T := []) rfl rfl (fun C hC => cl_v hC rfl rfl rfl rfl) rfl (q_Text_goOn  h) (fun M44 h => ?_)
              refine pM_ii rfl rfl rfl ki_1 ?_
              refine pM_go rfl rfl ?_
              refine pM_w (F2 := [(0, .inr (.inl (some 42))), (1, .inl (.inl p1)), (2, .inl (.inl p2)), (3, .inl (.inl (v3 + 1)))]) (fun L hL => lo_cons (lo_lk hL rfl) (lo_cons (lo_lk hL rfl) (lo_cons (lo_lk hL rfl) (lo_cons (lo_lk hL rfl) lo_nil)))) ?_
              exact IH hN (v3 + 1) M44 h
            · replace h := h.2 h42
              refine pM_ic rfl ki_1 ?_
              exact pM_ri rfl (⟨_, rfl, h⟩)
        · replace h := h.1 h33
          refine pM_aln rfl rfl rfl ?_
          refine pM_gr rfl rfl rfl rfl ?_
          refine pM_gr rfl rfl rfl rfl ?_
          refine pM_iln rfl rfl ?_
          refine pM_ic rfl ki_1 ?_
          refine pM_add rfl ?_
          refine pM_p (pc' := 80) (S' := [.inl (.inl (p1 + 1)), .inr (.inl (some 17)), .inl (.inl (p1 + 1)), .inr (.inl (some 17))]) rfl rfl (fun _ => rfl) ?_
          refine pM_ai rfl rfl (one_p _) ?_
          refine pM_iln rfl rfl ?_
          refine pM_add rfl ?_
          refine pM_sa rfl rfl (one_p _) ?_
          refine pM_go rfl rfl ?_
          refine pM_aln rfl rfl rfl ?_
          refine pM_gr rfl rfl rfl rfl ?_
          refine pM_qRu (as := [.inr (.inl (some 3))]) (T := []) rfl rfl (fun C hC => cl_v hC rfl rfl rfl rfl) rfl (q_Text_goOn  h) (fun M35 h => ?_)
          refine pM_aln rfl rfl rfl ?_
          refine pM_gr rfl rfl rfl rfl ?_
          refine pM_qVi (as := [.inr (.inl (some 3))]) (T := []) rfl rfl (fun C hC => cl_v hC rfl rfl rfl rfl) rfl (q_Text_kind ) ?_
          refine pM_bi rfl kb_43 ?_
          refine pM_ceq rfl rfl (fun h36 => ?_) (fun h36 => ?_)
          · replace h := h.1 h36
            refine pM_aln rfl rfl rfl ?_
            refine pM_gr rfl rfl rfl rfl ?_
            refine pM_qRu (as := [.inr (.inl (some 3))]) (T := []) rfl rfl (fun C hC => cl_v hC rfl rfl rfl rfl) rfl (q_Text_goOn  h) (fun M38 h => ?_)
            refine pM_ii rfl rfl rfl ki_1 ?_
            refine pM_go rfl rfl ?_
            refine pM_w (F2 := [(0, .inr (.inl (some 42))), (1, .inl (.inl p1)), (2, .inl (.inl p2)), (3, .inl (.inl (v3 + 1)))]) (fun L hL => lo_cons (lo_lk hL rfl) (lo_cons (lo_lk hL rfl) (lo_cons (lo_lk hL rfl) (lo_cons (lo_lk hL rfl) lo_nil)))) ?_
            exact IH hN (v3 + 1) M38 h
          · replace h := h.2 h36
            refine pM_ic rfl ki_1 ?_
            exact pM_ri rfl (⟨_, rfl, h⟩)
      · replace h := h.1 h2
        refine pM_aln rfl rfl rfl ?_
        refine pM_gr rfl rfl rfl rfl ?_
        refine pM_qVi (as := [.inr (.inl (some 3))]) (T := []) rfl rfl (fun C hC => cl_v hC rfl rfl rfl rfl) rfl (q_Text_value ) ?_
        refine pM_si rfl ks_999 ?_
        refine pM_cgt rfl rfl (fun h3 => ?_) (fun h3 => ?_)
        · replace h := h.1 h3
          refine pM_il rfl rfl ?_
          refine pM_bi rfl kb_7 ?_
          refine pM_cne rfl rfl (fun h4 => ?_) (fun h4 => ?_)
          · replace h := h.2 h4
            refine pM_il rfl rfl ?_
            refine pM_bi rfl kb_8 ?_
            refine pM_cne rfl rfl (fun h10 => ?_) (fun h10 => ?_)
            · replace h := h.2 h10
              refine pM_il rfl rfl ?_
              refine pM_bi rfl kb_9 ?_
              refine pM_cne rfl rfl (fun h16 => ?_) (fun h16 => ?_)
              · replace h := h.2 h16
                refine pM_il rfl rfl ?_
                refine pM_bi rfl kb_10 ?_
                refine pM_cne rfl rfl (fun h22 => ?_) (fun h22 => ?_)
                · replace h := h.2 h22
                  refine pM_ic rfl ki_0 ?_
                  exact pM_ri rfl (⟨_, rfl, h⟩)
                · replace h := h.1 h22
                  refine pM_aln rfl rfl rfl ?_
                  refine pM_gr rfl rfl rfl rfl ?_
                  refine pM_gr rfl rfl rfl rfl ?_
                  refine pM_iln rfl rfl ?_
                  refine pM_ic rfl ki_4 ?_
                  refine pM_add rfl ?_
                  refine pM_p (pc' := 155) (S' := [.inl (.inl (p1 + 4)), .inr (.inl (some 17)), .inl (.inl (p1 + 4)), .inr (.inl (some 17))]) rfl rfl (fun _ => rfl) ?_
                  refine pM_ai rfl rfl (one_p _) ?_
                  refine pM_iln rfl rfl ?_
                  refine pM_add rfl ?_
                  refine pM_sa rfl rfl (one_p _) ?_
                  refine pM_go rfl rfl ?_
                  refine pM_aln rfl rfl rfl ?_
                  refine pM_gr rfl rfl rfl rfl ?_
                  refine pM_qRu (as := [.inr (.inl (some 3))]) (T := []) rfl rfl (fun C hC => cl_v hC rfl rfl rfl rfl) rfl (q_Text_goOn  h) (fun M24 h => ?_)
                  refine pM_aln rfl rfl rfl ?_
                  refine pM_gr rfl rfl rfl rfl ?_
                  refine pM_qVi (as := [.inr (.inl (some 3))]) (T := []) rfl rfl (fun C hC => cl_v hC rfl rfl rfl rfl) rfl (q_Text_kind ) ?_
                  refine pM_bi rfl kb_43 ?_
                  refine pM_ceq rfl rfl (fun h25 => ?_) (fun h25 => ?_)
                  · replace h := h.1 h25
                    refine pM_aln rfl rfl rfl ?_
                    refine pM_gr rfl rfl rfl rfl ?_
                    refine pM_qRu (as := [.inr (.inl (some 3))]) (T := []) rfl rfl (fun C hC => cl_v hC rfl rfl rfl rfl) rfl (q_Text_goOn  h) (fun M27 h => ?_)
                    refine pM_ii rfl rfl rfl ki_1 ?_
                    refine pM_go rfl rfl ?_
                    refine pM_w (F2 := [(0, .inr (.inl (some 42))), (1, .inl (.inl p1)), (2, .inl (.inl p2)), (3, .inl (.inl (v3 + 1)))]) (fun L hL => lo_cons (lo_lk hL rfl) (lo_cons (lo_lk hL rfl) (lo_cons (lo_lk hL rfl) (lo_cons (lo_lk hL rfl) lo_nil)))) ?_
                    exact IH hN (v3 + 1) M27 h
                  · replace h := h.2 h25
                    refine pM_ic rfl ki_1 ?_
                    exact pM_ri rfl (⟨_, rfl, h⟩)
              · replace h := h.1 h16
                refine pM_aln rfl rfl rfl ?_
                refine pM_gr rfl rfl rfl rfl ?_
                refine pM_gr rfl rfl rfl rfl ?_
                refine pM_iln rfl rfl ?_
                refine pM_ic rfl ki_3 ?_
                refine pM_add rfl ?_
                refine pM_p (pc' := 130) (S' := [.inl (.inl (p1 + 3)), .inr (.inl (some 17)), .inl (.inl (p1 + 3)), .inr (.inl (some 17))]) rfl rfl (fun _ => rfl) ?_
                refine pM_ai rfl rfl (one_p _) ?_
                refine pM_iln rfl rfl ?_
                refine pM_add rfl ?_
                refine pM_sa rfl rfl (one_p _) ?_
                refine pM_go rfl rfl ?_
                refine pM_aln rfl rfl rfl ?_
                refine pM_gr rfl rfl rfl rfl ?_
                refine pM_qRu (as := [.inr (.inl (some 3))]) (T := []) rfl rfl (fun C hC => cl_v hC rfl rfl rfl rfl) rfl (q_Text_goOn  h) (fun M18 h => ?_)
                refine pM_aln rfl rfl rfl ?_
                refine pM_gr rfl rfl rfl rfl ?_
                refine pM_qVi (as := [.inr (.inl (some 3))]) (T := []) rfl rfl (fun C hC => cl_v hC rfl rfl rfl rfl) rfl (q_Text_kind ) ?_
                refine pM_bi rfl kb_43 ?_
                refine pM_ceq rfl rfl (fun h19 => ?_) (fun h19 => ?_)
                · replace h := h.1 h19
                  refine pM_aln rfl rfl rfl ?_
                  refine pM_gr rfl rfl rfl rfl ?_
                  refine pM_qRu (as := [.inr (.inl (some 3))]) (T := []) rfl rfl (fun C hC => cl_v hC rfl rfl rfl rfl) rfl (q_Text_goOn  h) (fun M21 h => ?_)
                  refine pM_ii rfl rfl rfl ki_1 ?_
                  refine pM_go rfl rfl ?_
                  refine pM_w (F2 := [(0, .inr (.inl (some 42))), (1, .inl (.inl p1)), (2, .inl (.inl p2)), (3, .inl (.inl (v3 + 1)))]) (fun L hL => lo_cons (lo_lk hL rfl) (lo_cons (lo_lk hL rfl) (lo_cons (lo_lk hL rfl) (lo_cons (lo_lk hL rfl) lo_nil)))) ?_
                  exact IH hN (v3 + 1) M21 h
                · replace h := h.2 h19
                  refine pM_ic rfl ki_1 ?_
                  exact pM_ri rfl (⟨_, rfl, h⟩)
            · replace h := h.1 h10
              refine pM_aln rfl rfl rfl ?_
              refine pM_gr rfl rfl rfl rfl ?_
              refine pM_gr rfl rfl rfl rfl ?_
              refine pM_iln rfl rfl ?_
              refine pM_ic rfl ki_2 ?_
              refine pM_add rfl ?_
              refine pM_p (pc' := 105) (S' := [.inl (.inl (p1 + 2)), .inr (.inl (some 17)), .inl (.inl (p1 + 2)), .inr (.inl (some 17))]) rfl rfl (fun _ => rfl) ?_
              refine pM_ai rfl rfl (one_p _) ?_
              refine pM_iln rfl rfl ?_
              refine pM_add rfl ?_
              refine pM_sa rfl rfl (one_p _) ?_
              refine pM_go rfl rfl ?_
              refine pM_aln rfl rfl rfl ?_
              refine pM_gr rfl rfl rfl rfl ?_
              refine pM_qRu (as := [.inr (.inl (some 3))]) (T := []) rfl rfl (fun C hC => cl_v hC rfl rfl rfl rfl) rfl (q_Text_goOn  h) (fun M12 h => ?_)
              refine pM_aln rfl rfl rfl ?_
              refine pM_gr rfl rfl rfl rfl ?_
              refine pM_qVi (as := [.inr (.inl (some 3))]) (T := []) rfl rfl (fun C hC => cl_v hC rfl rfl rfl rfl) rfl (q_Text_kind ) ?_
              refine pM_bi rfl kb_43 ?_
              refine pM_ceq rfl rfl (fun h13 => ?_) (fun h13 => ?_)
              · replace h := h.1 h13
                refine pM_aln rfl rfl rfl ?_
                refine pM_gr rfl rfl rfl rfl ?_
                refine pM_qRu (as := [.inr (.inl (some 3))]) (T := []) rfl rfl (fun C hC => cl_v hC rfl rfl rfl rfl) rfl (q_Text_goOn  h) (fun M15 h => ?_)
                refine pM_ii rfl rfl rfl ki_1 ?_
                refine pM_go rfl rfl ?_
                refine pM_w (F2 := [(0, .inr (.inl (some 42))), (1, .inl (.inl p1)), (2, .inl (.inl p2)), (3, .inl (.inl (v3 + 1)))]) (fun L hL => lo_cons (lo_lk hL rfl) (lo_cons (lo_lk hL rfl) (lo_cons (lo_lk hL rfl) (lo_cons (lo_lk hL rfl) lo_nil)))) ?_
                exact IH hN (v3 + 1) M15 h
              · replace h := h.2 h13
                refine pM_ic rfl ki_1 ?_
                exact pM_ri rfl (⟨_, rfl, h⟩)
          · replace h := h.1 h4
            refine pM_aln rfl rfl rfl ?_
            refine pM_gr rfl rfl rfl rfl ?_
            refine pM_gr rfl rfl rfl rfl ?_
            refine pM_iln rfl rfl ?_
            refine pM_ic rfl ki_1 ?_
            refine pM_add rfl ?_
            refine pM_p (pc' := 80) (S' := [.inl (.inl (p1 + 1)), .inr (.inl (some 17)), .inl (.inl (p1 + 1)), .inr (.inl (some 17))]) rfl rfl (fun _ => rfl) ?_
            refine pM_ai rfl rfl (one_p _) ?_
            refine pM_iln rfl rfl ?_
            refine pM_add rfl ?_
            refine pM_sa rfl rfl (one_p _) ?_
            refine pM_go rfl rfl ?_
            refine pM_aln rfl rfl rfl ?_
            refine pM_gr rfl rfl rfl rfl ?_
            refine pM_qRu (as := [.inr (.inl (some 3))]) (T := []) rfl rfl (fun C hC => cl_v hC rfl rfl rfl rfl) rfl (q_Text_goOn  h) (fun M6 h => ?_)
            refine pM_aln rfl rfl rfl ?_
            refine pM_gr rfl rfl rfl rfl ?_
            refine pM_qVi (as := [.inr (.inl (some 3))]) (T := []) rfl rfl (fun C hC => cl_v hC rfl rfl rfl rfl) rfl (q_Text_kind ) ?_
            refine pM_bi rfl kb_43 ?_
            refine pM_ceq rfl rfl (fun h7 => ?_) (fun h7 => ?_)
            · replace h := h.1 h7
              refine pM_aln rfl rfl rfl ?_
              refine pM_gr rfl rfl rfl rfl ?_
              refine pM_qRu (as := [.inr (.inl (some 3))]) (T := []) rfl rfl (fun C hC => cl_v hC rfl rfl rfl rfl) rfl (q_Text_goOn  h) (fun M9 h => ?_)
              refine pM_ii rfl rfl rfl ki_1 ?_
              refine pM_go rfl rfl ?_
              refine pM_w (F2 := [(0, .inr (.inl (some 42))), (1, .inl (.inl p1)), (2, .inl (.inl p2)), (3, .inl (.inl (v3 + 1)))]) (fun L hL => lo_cons (lo_lk hL rfl) (lo_cons (lo_lk hL rfl) (lo_cons (lo_lk hL rfl) (lo_cons (lo_lk hL rfl) lo_nil)))) ?_
              exact IH hN (v3 + 1) M9 h
            · replace h := h.2 h7
              refine pM_ic rfl ki_1 ?_
              exact pM_ri rfl (⟨_, rfl, h⟩)
        · replace h := h.2 h3
          refine pM_aln rfl rfl rfl ?_
          refine pM_gr rfl rfl rfl rfl ?_
          refine pM_gr rfl rfl rfl rfl ?_
          refine pM_iln rfl rfl ?_
          refine pM_p (pc' := 47) (S' := [.inl (.inl p1), .inr (.inl (some 17)), .inl (.inl p1), .inr (.inl (some 17))]) rfl rfl (fun _ => rfl) ?_
          refine pM_ai rfl rfl (one_p _) ?_
          refine pM_iln rfl rfl ?_
          refine pM_aln rfl rfl rfl ?_
          refine pM_gr rfl rfl rfl rfl ?_
          refine pM_qVi (as := [.inr (.inl (some 3))]) (T := [.inl (.inl p2), .inl (.inl (M.1 17 (ni p1))), .inl (.inl p1), .inr (.inl (some 17))]) rfl rfl (fun C hC => cl_v hC rfl rfl rfl rfl) rfl (q_Text_value ) ?_
          refine pM_mul rfl ?_
          refine pM_add rfl ?_
          refine pM_sa rfl rfl (one_p _) ?_
          refine pM_go rfl rfl ?_
          refine pM_aln rfl rfl rfl ?_
          refine pM_gr rfl rfl rfl rfl ?_
          refine pM_qRu (as := [.inr (.inl (some 3))]) (T := []) rfl rfl (fun C hC => cl_v hC rfl rfl rfl rfl) rfl (q_Text_goOn  h) (fun M29 h => ?_)
          refine pM_aln rfl rfl rfl ?_
          refine pM_gr rfl rfl rfl rfl ?_
          refine pM_qVi (as := [.inr (.inl (some 3))]) (T := []) rfl rfl (fun C hC => cl_v hC rfl rfl rfl rfl) rfl (q_Text_kind ) ?_
          refine pM_bi rfl kb_43 ?_
          refine pM_ceq rfl rfl (fun h30 => ?_) (fun h30 => ?_)
          · replace h := h.1 h30
            refine pM_aln rfl rfl rfl ?_
            refine pM_gr rfl rfl rfl rfl ?_
            refine pM_qRu (as := [.inr (.inl (some 3))]) (T := []) rfl rfl (fun C hC => cl_v hC rfl rfl rfl rfl) rfl (q_Text_goOn  h) (fun M32 h => ?_)
            refine pM_ii rfl rfl rfl ki_1 ?_
            refine pM_go rfl rfl ?_
            refine pM_w (F2 := [(0, .inr (.inl (some 42))), (1, .inl (.inl p1)), (2, .inl (.inl p2)), (3, .inl (.inl (v3 + 1)))]) (fun L hL => lo_cons (lo_lk hL rfl) (lo_cons (lo_lk hL rfl) (lo_cons (lo_lk hL rfl) (lo_cons (lo_lk hL rfl) lo_nil)))) ?_
            exact IH hN (v3 + 1) M32 h
          · replace h := h.2 h30
            refine pM_ic rfl ki_1 ?_
            exact pM_ri rfl (⟨_, rfl, h⟩)
/-- 44: EarCode$LawReader.readSum(II)Z -/
def W_LawReader_readSum (p1 : Int32) (p2 : Int32) (N : Nat) (M : MM) (Q : Int32 → MM → Prop) : Prop :=
  W_LawReader_readSum_2 p1 p2 Q N 0 M
theorem q_LawReader_readSum {X : Option (List AI)} {N : Nat} {M : MM} {p1 : Int32} {p2 : Int32} {Q : Int32 → MM → Prop}  (h : W_LawReader_readSum p1 p2 N M Q) : pM X N 44 0 (ea_ar 0 [.inr (.inl (some 42)), .inl (.inl p1), .inl (.inl p2)]) [] M (Ri Q) := by
  refine pM_w (F2 := [(0, .inr (.inl (some 42))), (1, .inl (.inl p1)), (2, .inl (.inl p2))]) (fun L hL => lo_cons (lo_lk hL rfl) (lo_cons (lo_lk hL rfl) (lo_cons (lo_lk hL rfl) lo_nil))) ?_
  refine pM_ic rfl ki_0 ?_
  refine pM_isn rfl rfl ?_
  refine pM_w (F2 := [(0, .inr (.inl (some 42))), (1, .inl (.inl p1)), (2, .inl (.inl p2)), (3, .inl (.inl 0))]) (fun L hL => lo_cons (lo_lk hL rfl) (lo_cons (lo_lk hL rfl) (lo_cons (lo_lk hL rfl) (lo_cons (lo_lk hL rfl) lo_nil)))) ?_
  refine q_LawReader_readSum_2   N (Nat.le_refl N) 0 M h
def B_LawReader_readComparison_61 (u1 : Int32) (u2 : Int32) (k95 : MM → Prop) (Q : Int32 → MM → Prop) (N : Nat) (ih : Int32 → MM → Prop) (v3 : Int32) (M : MM) : Prop :=
  ((v3 < 5 →
    ih (v3 + 1) (wi M 17 (ni (u1 + v3)) (-(M.1 17 (ni (u1 + v3)))))) ∧
   (¬ v3 < 5 →
    k95 M))
def W_LawReader_readComparison_61 (u1 : Int32) (u2 : Int32) (k95 : MM → Prop) (Q : Int32 → MM → Prop) : Nat → Int32 → MM → Prop
  | 0, _, _ => True
  | N + 1, v3, M => B_LawReader_readComparison_61 u1 u2 k95 Q N (W_LawReader_readComparison_61 u1 u2 k95 Q N) v3 M
theorem I_LawReader_readComparison_61 (u1 : Int32) (u2 : Int32) (k95 : MM → Prop) (Q : Int32 → MM → Prop) (inv : Int32 → MM → Prop) (hs : ∀ (N : Nat) (ih : Int32 → MM → Prop) (v3 : Int32) (M : MM), (∀ (v3 : Int32) (M : MM), inv v3 M → ih v3 M) → inv v3 M → B_LawReader_readComparison_61 u1 u2 k95 Q N ih v3 M) : ∀ (N : Nat) (v3 : Int32) (M : MM), inv v3 M → W_LawReader_readComparison_61 u1 u2 k95 Q N v3 M := by
  intro N
  induction N with
  | zero => intros; trivial
  | succ N IH =>
    intro v3 M h
    exact hs N _ v3 M IH h
theorem q_LawReader_readComparison_61 {X : Option (List AI)} {N0 : Nat} {u1 : Int32} {u2 : Int32} {k95 : MM → Prop} {Q : Int32 → MM → Prop}  (hk95 : ∀  (M : MM), k95 M → pM X N0 43 95 [(0, .inr (.inl (some 42))), (1, .inl (.inl u1)), (2, .inl (.inl u2))] [] M (Ri Q)) : ∀ (N : Nat), N ≤ N0 → ∀ (v3 : Int32) (M : MM), W_LawReader_readComparison_61 u1 u2 k95 Q N v3 M → pM X N 43 61 [(0, .inr (.inl (some 42))), (1, .inl (.inl u1)), (2, .inl (.inl u2)), (3, .inl (.inl v3))] [] M (Ri Q) := by
  intro N
  induction N with
  | zero => intros; exact pM_zero
  | succ N IH =>
    intro hN v3 M h
    replace hN := Nat.le_of_succ_le hN
    replace h : B_LawReader_readComparison_61 u1 u2 k95 Q N (W_LawReader_readComparison_61 u1 u2 k95 Q N) v3 M := h
    refine pM_s (pMs_iln rfl rfl ?_)
    refine pM_ic rfl ki_5 ?_
    refine pM_cge rfl rfl (fun h11 => ?_) (fun h11 => ?_)
    · replace h := h.2 h11
      refine pM_w (F2 := [(0, .inr (.inl (some 42))), (1, .inl (.inl u1)), (2, .inl (.inl u2))]) (fun L hL => lo_cons (lo_lk hL rfl) (lo_cons (lo_lk hL rfl) (lo_cons (lo_lk hL rfl) lo_nil))) ?_
      exact pM_le hN (hk95 _ h)
    · replace h := h.1 h11
      refine pM_aln rfl rfl rfl ?_
      refine pM_gr rfl rfl rfl rfl ?_
      refine pM_gr rfl rfl rfl rfl ?_
      refine pM_iln rfl rfl ?_
      refine pM_iln rfl rfl ?_
      refine pM_add rfl ?_
      refine pM_aln rfl rfl rfl ?_
      refine pM_gr rfl rfl rfl rfl ?_
      refine pM_gr rfl rfl rfl rfl ?_
      refine pM_iln rfl rfl ?_
      refine pM_iln rfl rfl ?_
      refine pM_add rfl ?_
      refine pM_ai rfl rfl (one_p _) ?_
      refine pM_neg rfl ?_
      refine pM_sa rfl rfl (one_p _) ?_
      refine pM_ii rfl rfl rfl ki_1 ?_
      refine pM_go rfl rfl ?_
      refine pM_w (F2 := [(0, .inr (.inl (some 42))), (1, .inl (.inl u1)), (2, .inl (.inl u2)), (3, .inl (.inl (v3 + 1)))]) (fun L hL => lo_cons (lo_lk hL rfl) (lo_cons (lo_lk hL rfl) (lo_cons (lo_lk hL rfl) (lo_cons (lo_lk hL rfl) lo_nil)))) ?_
      exact IH hN (v3 + 1) (wi M 17 (ni (u1 + v3)) (-(M.1 17 (ni (u1 + v3))))) h
/-- 43: EarCode$LawReader.readComparison()Z -/
def W_LawReader_readComparison  (N : Nat) (M : MM) (Q : Int32 → MM → Prop) : Prop :=
  W_Law_addTerms 13 N M (fun r1 M2 =>
    ((r1 = (-1) →
      Q 0 M2) ∧
     (¬ r1 = (-1) →
      W_LawReader_readSum r1 1 N M2 (fun r4 M5 =>
        ((r4 = 0 →
          Q 0 M5) ∧
         (¬ r4 = 0 →
          (((V_Text_kind  M5) = 60 →
            W_Text_goOn  N M5 (fun M9 =>
              (((V_Text_kind  M5) = 60 →
                W_LawReader_readComparison_61 r1 (V_Text_kind  M5) (fun M12 =>
                  (((V_Text_kind  M5) = 60 →
                    W_LawReader_readSum r1 1 N M12 (fun r14 M15 =>
                      ((r14 = 0 →
                        Q 0 M15) ∧
                       (¬ r14 = 0 →
                        W_Law_addStep 13 r1 N M15 (fun M18 =>
                          Q 1 M18))))) ∧
                   (¬ (V_Text_kind  M5) = 60 →
                    W_LawReader_readSum r1 (-1) N M12 (fun r19 M20 =>
                      ((r19 = 0 →
                        Q 0 M20) ∧
                       (¬ r19 = 0 →
                        W_Law_addStep 13 r1 N M20 (fun M23 =>
                          Q 1 M23))))))) Q N 0 M9) ∧
               (¬ (V_Text_kind  M5) = 60 →
                (((V_Text_kind  M5) = 60 →
                  W_LawReader_readSum r1 1 N M9 (fun r25 M26 =>
                    ((r25 = 0 →
                      Q 0 M26) ∧
                     (¬ r25 = 0 →
                      W_Law_addStep 13 r1 N M26 (fun M29 =>
                        Q 1 M29))))) ∧
                 (¬ (V_Text_kind  M5) = 60 →
                  W_LawReader_readSum r1 (-1) N M9 (fun r30 M31 =>
                    ((r30 = 0 →
                      Q 0 M31) ∧
                     (¬ r30 = 0 →
                      W_Law_addStep 13 r1 N M31 (fun M34 =>
                        Q 1 M34)))))))))) ∧
           (¬ (V_Text_kind  M5) = 60 →
            (((V_Text_kind  M5) = 62 →
              W_Text_goOn  N M5 (fun M37 =>
                (((V_Text_kind  M5) = 60 →
                  W_LawReader_readComparison_61 r1 (V_Text_kind  M5) (fun M39 =>
                    (((V_Text_kind  M5) = 60 →
                      W_LawReader_readSum r1 1 N M39 (fun r41 M42 =>
                        ((r41 = 0 →
                          Q 0 M42) ∧
                         (¬ r41 = 0 →
                          W_Law_addStep 13 r1 N M42 (fun M45 =>
                            Q 1 M45))))) ∧
                     (¬ (V_Text_kind  M5) = 60 →
                      W_LawReader_readSum r1 (-1) N M39 (fun r46 M47 =>
                        ((r46 = 0 →
                          Q 0 M47) ∧
                         (¬ r46 = 0 →
                          W_Law_addStep 13 r1 N M47 (fun M50 =>
                            Q 1 M50))))))) Q N 0 M37) ∧
                 (¬ (V_Text_kind  M5) = 60 →
                  (((V_Text_kind  M5) = 60 →
                    W_LawReader_readSum r1 1 N M37 (fun r52 M53 =>
                      ((r52 = 0 →
                        Q 0 M53) ∧
                       (¬ r52 = 0 →
                        W_Law_addStep 13 r1 N M53 (fun M56 =>
                          Q 1 M56))))) ∧
                   (¬ (V_Text_kind  M5) = 60 →
                    W_LawReader_readSum r1 (-1) N M37 (fun r57 M58 =>
                      ((r57 = 0 →
                        Q 0 M58) ∧
                       (¬ r57 = 0 →
                        W_Law_addStep 13 r1 N M58 (fun M61 =>
                          Q 1 M61)))))))))) ∧
             (¬ (V_Text_kind  M5) = 62 →
              Q 0 M5))))))))))
theorem q_LawReader_readComparison {X : Option (List AI)} {N : Nat} {M : MM}  {Q : Int32 → MM → Prop}  (h : W_LawReader_readComparison  N M Q) : pM X N 43 0 (ea_ar 0 [.inr (.inl (some 42))]) [] M (Ri Q) := by
  refine pM_w (F2 := [(0, .inr (.inl (some 42)))]) (fun L hL => lo_cons (lo_lk hL rfl) lo_nil) ?_
  refine pM_aln rfl rfl rfl ?_
  refine pM_gr rfl rfl rfl rfl ?_
  refine pM_qRi (as := [.inr (.inl (some 13))]) (T := []) rfl rfl (fun C hC => cl_v hC rfl rfl rfl rfl) rfl (q_Law_addTerms isK_13 h) (fun r1 M2 h => ?_)
  refine pM_isn rfl rfl ?_
  refine pM_iln rfl rfl ?_
  refine pM_ic rfl ki_m1 ?_
  refine pM_ceq rfl rfl (fun h3 => ?_) (fun h3 => ?_)
  · replace h := h.1 h3
    refine pM_ic rfl ki_0 ?_
    exact pM_ri rfl (⟨_, rfl, h⟩)
  · replace h := h.2 h3
    refine pM_aln rfl rfl rfl ?_
    refine pM_iln rfl rfl ?_
    refine pM_ic rfl ki_1 ?_
    refine pM_qRi (as := [.inr (.inl (some 42)), .inl (.inl r1), .inl (.inl 1)]) (T := []) rfl rfl (fun C hC => cl_v hC rfl rfl rfl rfl) rfl (q_LawReader_readSum  h) (fun r4 M5 h => ?_)
    refine pM_zne rfl rfl (fun h6 => ?_) (fun h6 => ?_)
    · replace h := h.2 h6
      refine pM_aln rfl rfl rfl ?_
      refine pM_gr rfl rfl rfl rfl ?_
      refine pM_qVi (as := [.inr (.inl (some 3))]) (T := []) rfl rfl (fun C hC => cl_v hC rfl rfl rfl rfl) rfl (q_Text_kind ) ?_
      refine pM_isn rfl rfl ?_
      refine pM_iln rfl rfl ?_
      refine pM_bi rfl kb_60 ?_
      refine pM_ceq rfl rfl (fun h7 => ?_) (fun h7 => ?_)
      · replace h := h.1 h7
        refine pM_aln rfl rfl rfl ?_
        refine pM_gr rfl rfl rfl rfl ?_
        refine pM_qRu (as := [.inr (.inl (some 3))]) (T := []) rfl rfl (fun C hC => cl_v hC rfl rfl rfl rfl) rfl (q_Text_goOn  h) (fun M9 h => ?_)
        refine pM_iln rfl rfl ?_
        refine pM_bi rfl kb_60 ?_
        refine pM_cne rfl rfl (fun h10 => ?_) (fun h10 => ?_)
        · replace h := h.2 h10
          refine pM_aln rfl rfl rfl ?_
          refine pM_iln rfl rfl ?_
          refine pM_iln rfl rfl ?_
          refine pM_bi rfl kb_60 ?_
          refine pM_cne rfl rfl (fun h24 => ?_) (fun h24 => ?_)
          · replace h := h.2 h24
            refine pM_ic rfl ki_m1 ?_
            refine pM_qRi (as := [.inr (.inl (some 42)), .inl (.inl r1), .inl (.inl (-1))]) (T := []) rfl rfl (fun C hC => cl_v hC rfl rfl rfl rfl) rfl (q_LawReader_readSum  h) (fun r30 M31 h => ?_)
            refine pM_zne rfl rfl (fun h32 => ?_) (fun h32 => ?_)
            · replace h := h.2 h32
              refine pM_aln rfl rfl rfl ?_
              refine pM_gr rfl rfl rfl rfl ?_
              refine pM_iln rfl rfl ?_
              refine pM_qRu (as := [.inr (.inl (some 13)), .inl (.inl r1)]) (T := []) rfl rfl (fun C hC => cl_v hC rfl rfl rfl rfl) rfl (q_Law_addStep isK_13 h) (fun M34 h => ?_)
              refine pM_ic rfl ki_1 ?_
              exact pM_ri rfl (⟨_, rfl, h⟩)
            · replace h := h.1 h32
              refine pM_ic rfl ki_0 ?_
              exact pM_ri rfl (⟨_, rfl, h⟩)
          · replace h := h.1 h24
            refine pM_ic rfl ki_1 ?_
            refine pM_go rfl rfl ?_
            refine pM_qRi (as := [.inr (.inl (some 42)), .inl (.inl r1), .inl (.inl 1)]) (T := []) rfl rfl (fun C hC => cl_v hC rfl rfl rfl rfl) rfl (q_LawReader_readSum  h) (fun r25 M26 h => ?_)
            refine pM_zne rfl rfl (fun h27 => ?_) (fun h27 => ?_)
            · replace h := h.2 h27
              refine pM_aln rfl rfl rfl ?_
              refine pM_gr rfl rfl rfl rfl ?_
              refine pM_iln rfl rfl ?_
              refine pM_qRu (as := [.inr (.inl (some 13)), .inl (.inl r1)]) (T := []) rfl rfl (fun C hC => cl_v hC rfl rfl rfl rfl) rfl (q_Law_addStep isK_13 h) (fun M29 h => ?_)
              refine pM_ic rfl ki_1 ?_
              exact pM_ri rfl (⟨_, rfl, h⟩)
            · replace h := h.1 h27
              refine pM_ic rfl ki_0 ?_
              exact pM_ri rfl (⟨_, rfl, h⟩)
        · replace h := h.1 h10
          refine pM_ic rfl ki_0 ?_
          refine pM_isn rfl rfl ?_
          refine pM_w (F2 := [(0, .inr (.inl (some 42))), (1, .inl (.inl r1)), (2, .inl (.inl (V_Text_kind  M5))), (3, .inl (.inl 0))]) (fun L hL => lo_cons (lo_lk hL rfl) (lo_cons (lo_lk hL rfl) (lo_cons (lo_lk hL rfl) (lo_cons (lo_lk hL rfl) lo_nil)))) ?_
          refine q_LawReader_readComparison_61  (fun M12 h => ?_) N (Nat.le_refl N) 0 M9 h
          · refine pM_aln rfl rfl rfl ?_
            refine pM_iln rfl rfl ?_
            refine pM_iln rfl rfl ?_
            refine pM_bi rfl kb_60 ?_
            refine pM_cne rfl rfl (fun h13 => ?_) (fun h13 => ?_)
            · replace h := h.2 h13
              refine pM_ic rfl ki_m1 ?_
              refine pM_qRi (as := [.inr (.inl (some 42)), .inl (.inl r1), .inl (.inl (-1))]) (T := []) rfl rfl (fun C hC => cl_v hC rfl rfl rfl rfl) rfl (q_LawReader_readSum  h) (fun r19 M20 h => ?_)
              refine pM_zne rfl rfl (fun h21 => ?_) (fun h21 => ?_)
              · replace h := h.2 h21
                refine pM_aln rfl rfl rfl ?_
                refine pM_gr rfl rfl rfl rfl ?_
                refine pM_iln rfl rfl ?_
                refine pM_qRu (as := [.inr (.inl (some 13)), .inl (.inl r1)]) (T := []) rfl rfl (fun C hC => cl_v hC rfl rfl rfl rfl) rfl (q_Law_addStep isK_13 h) (fun M23 h => ?_)
                refine pM_ic rfl ki_1 ?_
                exact pM_ri rfl (⟨_, rfl, h⟩)
              · replace h := h.1 h21
                refine pM_ic rfl ki_0 ?_
                exact pM_ri rfl (⟨_, rfl, h⟩)
            · replace h := h.1 h13
              refine pM_ic rfl ki_1 ?_
              refine pM_go rfl rfl ?_
              refine pM_qRi (as := [.inr (.inl (some 42)), .inl (.inl r1), .inl (.inl 1)]) (T := []) rfl rfl (fun C hC => cl_v hC rfl rfl rfl rfl) rfl (q_LawReader_readSum  h) (fun r14 M15 h => ?_)
              refine pM_zne rfl rfl (fun h16 => ?_) (fun h16 => ?_)
              · replace h := h.2 h16
                refine pM_aln rfl rfl rfl ?_
                refine pM_gr rfl rfl rfl rfl ?_
                refine pM_iln rfl rfl ?_
                refine pM_qRu (as := [.inr (.inl (some 13)), .inl (.inl r1)]) (T := []) rfl rfl (fun C hC => cl_v hC rfl rfl rfl rfl) rfl (q_Law_addStep isK_13 h) (fun M18 h => ?_)
                refine pM_ic rfl ki_1 ?_
                exact pM_ri rfl (⟨_, rfl, h⟩)
              · replace h := h.1 h16
                refine pM_ic rfl ki_0 ?_
                exact pM_ri rfl (⟨_, rfl, h⟩)
      · replace h := h.2 h7
        refine pM_iln rfl rfl ?_
        refine pM_bi rfl kb_62 ?_
        refine pM_ceq rfl rfl (fun h35 => ?_) (fun h35 => ?_)
        · replace h := h.1 h35
          refine pM_aln rfl rfl rfl ?_
          refine pM_gr rfl rfl rfl rfl ?_
          refine pM_qRu (as := [.inr (.inl (some 3))]) (T := []) rfl rfl (fun C hC => cl_v hC rfl rfl rfl rfl) rfl (q_Text_goOn  h) (fun M37 h => ?_)
          refine pM_iln rfl rfl ?_
          refine pM_bi rfl kb_60 ?_
          refine pM_cne rfl rfl (fun h38 => ?_) (fun h38 => ?_)
          · replace h := h.2 h38
            refine pM_aln rfl rfl rfl ?_
            refine pM_iln rfl rfl ?_
            refine pM_iln rfl rfl ?_
            refine pM_bi rfl kb_60 ?_
            refine pM_cne rfl rfl (fun h51 => ?_) (fun h51 => ?_)
            · replace h := h.2 h51
              refine pM_ic rfl ki_m1 ?_
              refine pM_qRi (as := [.inr (.inl (some 42)), .inl (.inl r1), .inl (.inl (-1))]) (T := []) rfl rfl (fun C hC => cl_v hC rfl rfl rfl rfl) rfl (q_LawReader_readSum  h) (fun r57 M58 h => ?_)
              refine pM_zne rfl rfl (fun h59 => ?_) (fun h59 => ?_)
              · replace h := h.2 h59
                refine pM_aln rfl rfl rfl ?_
                refine pM_gr rfl rfl rfl rfl ?_
                refine pM_iln rfl rfl ?_
                refine pM_qRu (as := [.inr (.inl (some 13)), .inl (.inl r1)]) (T := []) rfl rfl (fun C hC => cl_v hC rfl rfl rfl rfl) rfl (q_Law_addStep isK_13 h) (fun M61 h => ?_)
                refine pM_ic rfl ki_1 ?_
                exact pM_ri rfl (⟨_, rfl, h⟩)
              · replace h := h.1 h59
                refine pM_ic rfl ki_0 ?_
                exact pM_ri rfl (⟨_, rfl, h⟩)
            · replace h := h.1 h51
              refine pM_ic rfl ki_1 ?_
              refine pM_go rfl rfl ?_
              refine pM_qRi (as := [.inr (.inl (some 42)), .inl (.inl r1), .inl (.inl 1)]) (T := []) rfl rfl (fun C hC => cl_v hC rfl rfl rfl rfl) rfl (q_LawReader_readSum  h) (fun r52 M53 h => ?_)
              refine pM_zne rfl rfl (fun h54 => ?_) (fun h54 => ?_)
              · replace h := h.2 h54
                refine pM_aln rfl rfl rfl ?_
                refine pM_gr rfl rfl rfl rfl ?_
                refine pM_iln rfl rfl ?_
                refine pM_qRu (as := [.inr (.inl (some 13)), .inl (.inl r1)]) (T := []) rfl rfl (fun C hC => cl_v hC rfl rfl rfl rfl) rfl (q_Law_addStep isK_13 h) (fun M56 h => ?_)
                refine pM_ic rfl ki_1 ?_
                exact pM_ri rfl (⟨_, rfl, h⟩)
              · replace h := h.1 h54
                refine pM_ic rfl ki_0 ?_
                exact pM_ri rfl (⟨_, rfl, h⟩)
          · replace h := h.1 h38
            refine pM_ic rfl ki_0 ?_
            refine pM_isn rfl rfl ?_
            refine pM_w (F2 := [(0, .inr (.inl (some 42))), (1, .inl (.inl r1)), (2, .inl (.inl (V_Text_kind  M5))), (3, .inl (.inl 0))]) (fun L hL => lo_cons (lo_lk hL rfl) (lo_cons (lo_lk hL rfl) (lo_cons (lo_lk hL rfl) (lo_cons (lo_lk hL rfl) lo_nil)))) ?_
            refine q_LawReader_readComparison_61  (fun M39 h => ?_) N (Nat.le_refl N) 0 M37 h
            · refine pM_aln rfl rfl rfl ?_
              refine pM_iln rfl rfl ?_
              refine pM_iln rfl rfl ?_
              refine pM_bi rfl kb_60 ?_
              refine pM_cne rfl rfl (fun h40 => ?_) (fun h40 => ?_)
              · replace h := h.2 h40
                refine pM_ic rfl ki_m1 ?_
                refine pM_qRi (as := [.inr (.inl (some 42)), .inl (.inl r1), .inl (.inl (-1))]) (T := []) rfl rfl (fun C hC => cl_v hC rfl rfl rfl rfl) rfl (q_LawReader_readSum  h) (fun r46 M47 h => ?_)
                refine pM_zne rfl rfl (fun h48 => ?_) (fun h48 => ?_)
                · replace h := h.2 h48
                  refine pM_aln rfl rfl rfl ?_
                  refine pM_gr rfl rfl rfl rfl ?_
                  refine pM_iln rfl rfl ?_
                  refine pM_qRu (as := [.inr (.inl (some 13)), .inl (.inl r1)]) (T := []) rfl rfl (fun C hC => cl_v hC rfl rfl rfl rfl) rfl (q_Law_addStep isK_13 h) (fun M50 h => ?_)
                  refine pM_ic rfl ki_1 ?_
                  exact pM_ri rfl (⟨_, rfl, h⟩)
                · replace h := h.1 h48
                  refine pM_ic rfl ki_0 ?_
                  exact pM_ri rfl (⟨_, rfl, h⟩)
              · replace h := h.1 h40
                refine pM_ic rfl ki_1 ?_
                refine pM_go rfl rfl ?_
                refine pM_qRi (as := [.inr (.inl (some 42)), .inl (.inl r1), .inl (.inl 1)]) (T := []) rfl rfl (fun C hC => cl_v hC rfl rfl rfl rfl) rfl (q_LawReader_readSum  h) (fun r41 M42 h => ?_)
                refine pM_zne rfl rfl (fun h43 => ?_) (fun h43 => ?_)
                · replace h := h.2 h43
                  refine pM_aln rfl rfl rfl ?_
                  refine pM_gr rfl rfl rfl rfl ?_
                  refine pM_iln rfl rfl ?_
                  refine pM_qRu (as := [.inr (.inl (some 13)), .inl (.inl r1)]) (T := []) rfl rfl (fun C hC => cl_v hC rfl rfl rfl rfl) rfl (q_Law_addStep isK_13 h) (fun M45 h => ?_)
                  refine pM_ic rfl ki_1 ?_
                  exact pM_ri rfl (⟨_, rfl, h⟩)
                · replace h := h.1 h43
                  refine pM_ic rfl ki_0 ?_
                  exact pM_ri rfl (⟨_, rfl, h⟩)
        · replace h := h.2 h35
          refine pM_ic rfl ki_0 ?_
          exact pM_ri rfl (⟨_, rfl, h⟩)
    · replace h := h.1 h6
      refine pM_ic rfl ki_0 ?_
      exact pM_ri rfl (⟨_, rfl, h⟩)
/-- 369: EarCode$LawReader.readAtom(I)Z -/
def W_LawReader_readAtom_369 (p1 : Int32) (N : Nat) (M : MM) (Q : Int32 → MM → Prop) : Prop :=
  (((V_Text_kind  M) = 6 →
    W_Text_goOn  N M (fun M3 =>
      W_Law_addStep 13 (-1) N M3 (fun M5 =>
        Q 1 M5))) ∧
   (¬ (V_Text_kind  M) = 6 →
    (((V_Text_kind  M) = 5 →
      ((p1 < 6 →
        W_Text_goOn  N M (fun M9 =>
          (((V_Text_kind  M) = 5 →
            True) ∧
           (¬ (V_Text_kind  M) = 5 →
            True)))) ∧
       (¬ p1 < 6 →
        Q 0 M))) ∧
     (¬ (V_Text_kind  M) = 5 →
      (((V_Text_kind  M) = 40 →
        ((p1 < 6 →
          W_Text_goOn  N M (fun M14 =>
            (((V_Text_kind  M) = 5 →
              True) ∧
             (¬ (V_Text_kind  M) = 5 →
              True)))) ∧
         (¬ p1 < 6 →
          Q 0 M))) ∧
       (¬ (V_Text_kind  M) = 40 →
        W_LawReader_readComparison  N M (fun r16 M17 =>
          Q r16 M17)))))))
theorem q_LawReader_readAtom_369 {X : Option (List AI)} {N : Nat} {M : MM} {p1 : Int32} {Q : Int32 → MM → Prop}  (h : W_LawReader_readAtom_369 p1 N M Q) : pM X N 369 0 (ea_ar 0 [.inr (.inl (some 42)), .inl (.inl p1)]) [] M (Ri Q) := by
  refine pM_w (F2 := [(0, .inr (.inl (some 42))), (1, .inl (.inl p1))]) (fun L hL => lo_cons (lo_lk hL rfl) (lo_cons (lo_lk hL rfl) lo_nil)) ?_
  refine pM_aln rfl rfl rfl ?_
  refine pM_gr rfl rfl rfl rfl ?_
  refine pM_qVi (as := [.inr (.inl (some 3))]) (T := []) rfl rfl (fun C hC => cl_v hC rfl rfl rfl rfl) rfl (q_Text_kind ) ?_
  refine pM_isn rfl rfl ?_
  refine pM_iln rfl rfl ?_
  refine pM_bi rfl kb_6 ?_
  refine pM_cne rfl rfl (fun h1 => ?_) (fun h1 => ?_)
  · replace h := h.2 h1
    refine pM_iln rfl rfl ?_
    refine pM_ic rfl ki_5 ?_
    refine pM_ceq rfl rfl (fun h6 => ?_) (fun h6 => ?_)
    · replace h := h.1 h6
      refine pM_iln rfl rfl ?_
      refine pM_bi rfl kb_6 ?_
      refine pM_clt rfl rfl (fun h7 => ?_) (fun h7 => ?_)
      · replace h := h.1 h7
        refine pM_aln rfl rfl rfl ?_
        refine pM_gr rfl rfl rfl rfl ?_
        refine pM_qRu (as := [.inr (.inl (some 3))]) (T := []) rfl rfl (fun C hC => cl_v hC rfl rfl rfl rfl) rfl (q_Text_goOn  h) (fun M9 h => ?_)
        refine pM_iln rfl rfl ?_
        refine pM_ic rfl ki_5 ?_
        refine pM_cne rfl rfl (fun h10 => ?_) (fun h10 => ?_)
        · replace h := h.2 h10
          refine pM_aln rfl rfl rfl ?_
          refine pM_iln rfl rfl ?_
          refine pM_ic rfl ki_1 ?_
          refine pM_add rfl ?_
          exact pM_dn (as := [.inr (.inl (some 42)), .inl (.inl (p1 + 1))]) (T := []) rfl rfl (fun C hC => cl_v hC rfl rfl rfl rfl) rfl
        · replace h := h.1 h10
          refine pM_aln rfl rfl rfl ?_
          refine pM_iln rfl rfl ?_
          refine pM_ic rfl ki_1 ?_
          refine pM_add rfl ?_
          exact pM_dn (as := [.inr (.inl (some 42)), .inl (.inl (p1 + 1))]) (T := []) rfl rfl (fun C hC => cl_v hC rfl rfl rfl rfl) rfl
      · replace h := h.2 h7
        refine pM_ic rfl ki_0 ?_
        exact pM_ri rfl (⟨_, rfl, h⟩)
    · replace h := h.2 h6
      refine pM_iln rfl rfl ?_
      refine pM_bi rfl kb_40 ?_
      refine pM_ceq rfl rfl (fun h11 => ?_) (fun h11 => ?_)
      · replace h := h.1 h11
        refine pM_iln rfl rfl ?_
        refine pM_bi rfl kb_6 ?_
        refine pM_clt rfl rfl (fun h12 => ?_) (fun h12 => ?_)
        · replace h := h.1 h12
          refine pM_aln rfl rfl rfl ?_
          refine pM_gr rfl rfl rfl rfl ?_
          refine pM_qRu (as := [.inr (.inl (some 3))]) (T := []) rfl rfl (fun C hC => cl_v hC rfl rfl rfl rfl) rfl (q_Text_goOn  h) (fun M14 h => ?_)
          refine pM_iln rfl rfl ?_
          refine pM_ic rfl ki_5 ?_
          refine pM_cne rfl rfl (fun h15 => ?_) (fun h15 => ?_)
          · replace h := h.2 h15
            refine pM_aln rfl rfl rfl ?_
            refine pM_iln rfl rfl ?_
            refine pM_ic rfl ki_1 ?_
            refine pM_add rfl ?_
            exact pM_dn (as := [.inr (.inl (some 42)), .inl (.inl (p1 + 1))]) (T := []) rfl rfl (fun C hC => cl_v hC rfl rfl rfl rfl) rfl
          · replace h := h.1 h15
            refine pM_aln rfl rfl rfl ?_
            refine pM_iln rfl rfl ?_
            refine pM_ic rfl ki_1 ?_
            refine pM_add rfl ?_
            exact pM_dn (as := [.inr (.inl (some 42)), .inl (.inl (p1 + 1))]) (T := []) rfl rfl (fun C hC => cl_v hC rfl rfl rfl rfl) rfl
        · replace h := h.2 h12
          refine pM_ic rfl ki_0 ?_
          exact pM_ri rfl (⟨_, rfl, h⟩)
      · replace h := h.2 h11
        refine pM_aln rfl rfl rfl ?_
        refine pM_qRi (as := [.inr (.inl (some 42))]) (T := []) rfl rfl (fun C hC => cl_v hC rfl rfl rfl rfl) rfl (q_LawReader_readComparison  h) (fun r16 M17 h => ?_)
        exact pM_ri rfl (⟨_, rfl, h⟩)
  · replace h := h.1 h1
    refine pM_aln rfl rfl rfl ?_
    refine pM_gr rfl rfl rfl rfl ?_
    refine pM_qRu (as := [.inr (.inl (some 3))]) (T := []) rfl rfl (fun C hC => cl_v hC rfl rfl rfl rfl) rfl (q_Text_goOn  h) (fun M3 h => ?_)
    refine pM_aln rfl rfl rfl ?_
    refine pM_gr rfl rfl rfl rfl ?_
    refine pM_ic rfl ki_m1 ?_
    refine pM_qRu (as := [.inr (.inl (some 13)), .inl (.inl (-1))]) (T := []) rfl rfl (fun C hC => cl_v hC rfl rfl rfl rfl) rfl (q_Law_addStep isK_13 h) (fun M5 h => ?_)
    refine pM_ic rfl ki_1 ?_
    exact pM_ri rfl (⟨_, rfl, h⟩)
def B_LawReader_readCondition_368_7 (p1 : Int32) (Q : Int32 → MM → Prop) (N : Nat) (ih : Int32 → Int32 → Int32 → MM → Prop) (v2 : Int32) (v3 : Int32) (v4 : Int32) (M : MM) : Prop :=
  ((v4 < 400 →
    W_LawReader_readAtom_369 p1 N M (fun r2 M3 =>
      ((r2 = 0 →
        Q 0 M3) ∧
       (¬ r2 = 0 →
        ((v2 = 0 →
          (((V_Text_kind  M3) = 4 →
            W_Text_goOn  N M3 (fun M9 =>
              ih 1 v3 (v4 + 1) M9)) ∧
           (¬ (V_Text_kind  M3) = 4 →
            ((v3 = 0 →
              (((V_Text_kind  M3) = 3 →
                W_Text_goOn  N M3 (fun M15 =>
                  ih 0 1 (v4 + 1) M15)) ∧
               (¬ (V_Text_kind  M3) = 3 →
                Q 1 M3))) ∧
             (¬ v3 = 0 →
              W_Law_addStep 13 (-4) N M3 (fun M18 =>
                (((V_Text_kind  M18) = 3 →
                  W_Text_goOn  N M18 (fun M22 =>
                    ih 0 1 (v4 + 1) M22)) ∧
                 (¬ (V_Text_kind  M18) = 3 →
                  Q 1 M18)))))))) ∧
         (¬ v2 = 0 →
          W_Law_addStep 13 (-3) N M3 (fun M25 =>
            (((V_Text_kind  M25) = 4 →
              W_Text_goOn  N M25 (fun M29 =>
                ih 1 v3 (v4 + 1) M29)) ∧
             (¬ (V_Text_kind  M25) = 4 →
              ((v3 = 0 →
                (((V_Text_kind  M25) = 3 →
                  W_Text_goOn  N M25 (fun M35 =>
                    ih 0 1 (v4 + 1) M35)) ∧
                 (¬ (V_Text_kind  M25) = 3 →
                  Q 1 M25))) ∧
               (¬ v3 = 0 →
                W_Law_addStep 13 (-4) N M25 (fun M38 =>
                  (((V_Text_kind  M38) = 3 →
                    W_Text_goOn  N M38 (fun M42 =>
                      ih 0 1 (v4 + 1) M42)) ∧
                   (¬ (V_Text_kind  M38) = 3 →
                    Q 1 M38)))))))))))))) ∧
   (¬ v4 < 400 →
    Q 0 M))
def W_LawReader_readCondition_368_7 (p1 : Int32) (Q : Int32 → MM → Prop) : Nat → Int32 → Int32 → Int32 → MM → Prop
  | 0, _, _, _, _ => True
  | N + 1, v2, v3, v4, M => B_LawReader_readCondition_368_7 p1 Q N (W_LawReader_readCondition_368_7 p1 Q N) v2 v3 v4 M
theorem I_LawReader_readCondition_368_7 (p1 : Int32) (Q : Int32 → MM → Prop) (inv : Int32 → Int32 → Int32 → MM → Prop) (hs : ∀ (N : Nat) (ih : Int32 → Int32 → Int32 → MM → Prop) (v2 : Int32) (v3 : Int32) (v4 : Int32) (M : MM), (∀ (v2 : Int32) (v3 : Int32) (v4 : Int32) (M : MM), inv v2 v3 v4 M → ih v2 v3 v4 M) → inv v2 v3 v4 M → B_LawReader_readCondition_368_7 p1 Q N ih v2 v3 v4 M) : ∀ (N : Nat) (v2 : Int32) (v3 : Int32) (v4 : Int32) (M : MM), inv v2 v3 v4 M → W_LawReader_readCondition_368_7 p1 Q N v2 v3 v4 M := by
  intro N
  induction N with
  | zero => intros; trivial
  | succ N IH =>
    intro v2 v3 v4 M h
    exact hs N _ v2 v3 v4 M IH h
theorem q_LawReader_readCondition_368_7 {X : Option (List AI)} {N0 : Nat} {p1 : Int32} {Q : Int32 → MM → Prop}   : ∀ (N : Nat), N ≤ N0 → ∀ (v2 : Int32) (v3 : Int32) (v4 : Int32) (M : MM), W_LawReader_readCondition_368_7 p1 Q N v2 v3 v4 M → pM X N 368 7 [(0, .inr (.inl (some 42))), (1, .inl (.inl p1)), (2, .inl (.inl v2)), (3, .inl (.inl v3)), (4, .inl (.inl v4))] [] M (Ri Q) := by
  intro N
  induction N with
  | zero => intros; exact pM_zero
  | succ N IH =>
    intro hN v2 v3 v4 M h
    replace hN := Nat.le_of_succ_le hN
    replace h : B_LawReader_readCondition_368_7 p1 Q N (W_LawReader_readCondition_368_7 p1 Q N) v2 v3 v4 M := h
    refine pM_s (pMs_il rfl rfl ?_)
    refine pM_si rfl ks_400 ?_
    refine pM_cge rfl rfl (fun h1 => ?_) (fun h1 => ?_)
    · replace h := h.2 h1
      refine pM_ic rfl ki_0 ?_
      exact pM_ri rfl (⟨_, rfl, h⟩)
    · replace h := h.1 h1
      refine pM_aln rfl rfl rfl ?_
      refine pM_iln rfl rfl ?_
      refine pM_qRi (as := [.inr (.inl (some 42)), .inl (.inl p1)]) (T := []) rfl rfl (fun C hC => cl_v hC rfl rfl rfl rfl) rfl (q_LawReader_readAtom_369  h) (fun r2 M3 h => ?_)
      refine pM_zne rfl rfl (fun h4 => ?_) (fun h4 => ?_)
      · replace h := h.2 h4
        refine pM_iln rfl rfl ?_
        refine pM_zeq rfl rfl (fun h5 => ?_) (fun h5 => ?_)
        · replace h := h.1 h5
          refine pM_aln rfl rfl rfl ?_
          refine pM_gr rfl rfl rfl rfl ?_
          refine pM_qVi (as := [.inr (.inl (some 3))]) (T := []) rfl rfl (fun C hC => cl_v hC rfl rfl rfl rfl) rfl (q_Text_kind ) ?_
          refine pM_ic rfl ki_4 ?_
          refine pM_cne rfl rfl (fun h6 => ?_) (fun h6 => ?_)
          · replace h := h.2 h6
            refine pM_ic rfl ki_0 ?_
            refine pM_isn rfl rfl ?_
            refine pM_iln rfl rfl ?_
            refine pM_zne rfl rfl (fun h10 => ?_) (fun h10 => ?_)
            · exact absurd (by decide) h10
            · refine pM_iln rfl rfl ?_
              refine pM_zeq rfl rfl (fun h11 => ?_) (fun h11 => ?_)
              · replace h := h.1 h11
                refine pM_aln rfl rfl rfl ?_
                refine pM_gr rfl rfl rfl rfl ?_
                refine pM_qVi (as := [.inr (.inl (some 3))]) (T := []) rfl rfl (fun C hC => cl_v hC rfl rfl rfl rfl) rfl (q_Text_kind ) ?_
                refine pM_ic rfl ki_3 ?_
                refine pM_cne rfl rfl (fun h12 => ?_) (fun h12 => ?_)
                · replace h := h.2 h12
                  refine pM_ic rfl ki_0 ?_
                  refine pM_isn rfl rfl ?_
                  refine pM_iln rfl rfl ?_
                  refine pM_zne rfl rfl (fun h16 => ?_) (fun h16 => ?_)
                  · exact absurd (by decide) h16
                  · refine pM_ic rfl ki_1 ?_
                    exact pM_ri rfl (⟨_, rfl, h⟩)
                · replace h := h.1 h12
                  refine pM_ic rfl ki_1 ?_
                  refine pM_go rfl rfl ?_
                  refine pM_isn rfl rfl ?_
                  refine pM_iln rfl rfl ?_
                  refine pM_zne rfl rfl (fun h13 => ?_) (fun h13 => ?_)
                  · refine pM_aln rfl rfl rfl ?_
                    refine pM_gr rfl rfl rfl rfl ?_
                    refine pM_qRu (as := [.inr (.inl (some 3))]) (T := []) rfl rfl (fun C hC => cl_v hC rfl rfl rfl rfl) rfl (q_Text_goOn  h) (fun M15 h => ?_)
                    refine pM_ii rfl rfl rfl ki_1 ?_
                    refine pM_go rfl rfl ?_
                    refine pM_w (F2 := [(0, .inr (.inl (some 42))), (1, .inl (.inl p1)), (2, .inl (.inl 0)), (3, .inl (.inl 1)), (4, .inl (.inl (v4 + 1)))]) (fun L hL => lo_cons (lo_lk hL rfl) (lo_cons (lo_lk hL rfl) (lo_cons (lo_lk hL rfl) (lo_cons (lo_lk hL rfl) (lo_cons (lo_lk hL rfl) lo_nil))))) ?_
                    exact IH hN 0 1 (v4 + 1) M15 h
                  · exact absurd h13 (by decide)
              · replace h := h.2 h11
                refine pM_aln rfl rfl rfl ?_
                refine pM_gr rfl rfl rfl rfl ?_
                refine pM_bi rfl kb_m4 ?_
                refine pM_qRu (as := [.inr (.inl (some 13)), .inl (.inl (-4))]) (T := []) rfl rfl (fun C hC => cl_v hC rfl rfl rfl rfl) rfl (q_Law_addStep isK_13 h) (fun M18 h => ?_)
                refine pM_aln rfl rfl rfl ?_
                refine pM_gr rfl rfl rfl rfl ?_
                refine pM_qVi (as := [.inr (.inl (some 3))]) (T := []) rfl rfl (fun C hC => cl_v hC rfl rfl rfl rfl) rfl (q_Text_kind ) ?_
                refine pM_ic rfl ki_3 ?_
                refine pM_cne rfl rfl (fun h19 => ?_) (fun h19 => ?_)
                · replace h := h.2 h19
                  refine pM_ic rfl ki_0 ?_
                  refine pM_isn rfl rfl ?_
                  refine pM_iln rfl rfl ?_
                  refine pM_zne rfl rfl (fun h23 => ?_) (fun h23 => ?_)
                  · exact absurd (by decide) h23
                  · refine pM_ic rfl ki_1 ?_
                    exact pM_ri rfl (⟨_, rfl, h⟩)
                · replace h := h.1 h19
                  refine pM_ic rfl ki_1 ?_
                  refine pM_go rfl rfl ?_
                  refine pM_isn rfl rfl ?_
                  refine pM_iln rfl rfl ?_
                  refine pM_zne rfl rfl (fun h20 => ?_) (fun h20 => ?_)
                  · refine pM_aln rfl rfl rfl ?_
                    refine pM_gr rfl rfl rfl rfl ?_
                    refine pM_qRu (as := [.inr (.inl (some 3))]) (T := []) rfl rfl (fun C hC => cl_v hC rfl rfl rfl rfl) rfl (q_Text_goOn  h) (fun M22 h => ?_)
                    refine pM_ii rfl rfl rfl ki_1 ?_
                    refine pM_go rfl rfl ?_
                    refine pM_w (F2 := [(0, .inr (.inl (some 42))), (1, .inl (.inl p1)), (2, .inl (.inl 0)), (3, .inl (.inl 1)), (4, .inl (.inl (v4 + 1)))]) (fun L hL => lo_cons (lo_lk hL rfl) (lo_cons (lo_lk hL rfl) (lo_cons (lo_lk hL rfl) (lo_cons (lo_lk hL rfl) (lo_cons (lo_lk hL rfl) lo_nil))))) ?_
                    exact IH hN 0 1 (v4 + 1) M22 h
                  · exact absurd h20 (by decide)
          · replace h := h.1 h6
            refine pM_ic rfl ki_1 ?_
            refine pM_go rfl rfl ?_
            refine pM_isn rfl rfl ?_
            refine pM_iln rfl rfl ?_
            refine pM_zne rfl rfl (fun h7 => ?_) (fun h7 => ?_)
            · refine pM_aln rfl rfl rfl ?_
              refine pM_gr rfl rfl rfl rfl ?_
              refine pM_qRu (as := [.inr (.inl (some 3))]) (T := []) rfl rfl (fun C hC => cl_v hC rfl rfl rfl rfl) rfl (q_Text_goOn  h) (fun M9 h => ?_)
              refine pM_ii rfl rfl rfl ki_1 ?_
              refine pM_go rfl rfl ?_
              refine pM_w (F2 := [(0, .inr (.inl (some 42))), (1, .inl (.inl p1)), (2, .inl (.inl 1)), (3, .inl (.inl v3)), (4, .inl (.inl (v4 + 1)))]) (fun L hL => lo_cons (lo_lk hL rfl) (lo_cons (lo_lk hL rfl) (lo_cons (lo_lk hL rfl) (lo_cons (lo_lk hL rfl) (lo_cons (lo_lk hL rfl) lo_nil))))) ?_
              exact IH hN 1 v3 (v4 + 1) M9 h
            · exact absurd h7 (by decide)
        · replace h := h.2 h5
          refine pM_aln rfl rfl rfl ?_
          refine pM_gr rfl rfl rfl rfl ?_
          refine pM_bi rfl kb_m3 ?_
          refine pM_qRu (as := [.inr (.inl (some 13)), .inl (.inl (-3))]) (T := []) rfl rfl (fun C hC => cl_v hC rfl rfl rfl rfl) rfl (q_Law_addStep isK_13 h) (fun M25 h => ?_)
          refine pM_aln rfl rfl rfl ?_
          refine pM_gr rfl rfl rfl rfl ?_
          refine pM_qVi (as := [.inr (.inl (some 3))]) (T := []) rfl rfl (fun C hC => cl_v hC rfl rfl rfl rfl) rfl (q_Text_kind ) ?_
          refine pM_ic rfl ki_4 ?_
          refine pM_cne rfl rfl (fun h26 => ?_) (fun h26 => ?_)
          · replace h := h.2 h26
            refine pM_ic rfl ki_0 ?_
            refine pM_isn rfl rfl ?_
            refine pM_iln rfl rfl ?_
            refine pM_zne rfl rfl (fun h30 => ?_) (fun h30 => ?_)
            · exact absurd (by decide) h30
            · refine pM_iln rfl rfl ?_
              refine pM_zeq rfl rfl (fun h31 => ?_) (fun h31 => ?_)
              · replace h := h.1 h31
                refine pM_aln rfl rfl rfl ?_
                refine pM_gr rfl rfl rfl rfl ?_
                refine pM_qVi (as := [.inr (.inl (some 3))]) (T := []) rfl rfl (fun C hC => cl_v hC rfl rfl rfl rfl) rfl (q_Text_kind ) ?_
                refine pM_ic rfl ki_3 ?_
                refine pM_cne rfl rfl (fun h32 => ?_) (fun h32 => ?_)
                · replace h := h.2 h32
                  refine pM_ic rfl ki_0 ?_
                  refine pM_isn rfl rfl ?_
                  refine pM_iln rfl rfl ?_
                  refine pM_zne rfl rfl (fun h36 => ?_) (fun h36 => ?_)
                  · exact absurd (by decide) h36
                  · refine pM_ic rfl ki_1 ?_
                    exact pM_ri rfl (⟨_, rfl, h⟩)
                · replace h := h.1 h32
                  refine pM_ic rfl ki_1 ?_
                  refine pM_go rfl rfl ?_
                  refine pM_isn rfl rfl ?_
                  refine pM_iln rfl rfl ?_
                  refine pM_zne rfl rfl (fun h33 => ?_) (fun h33 => ?_)
                  · refine pM_aln rfl rfl rfl ?_
                    refine pM_gr rfl rfl rfl rfl ?_
                    refine pM_qRu (as := [.inr (.inl (some 3))]) (T := []) rfl rfl (fun C hC => cl_v hC rfl rfl rfl rfl) rfl (q_Text_goOn  h) (fun M35 h => ?_)
                    refine pM_ii rfl rfl rfl ki_1 ?_
                    refine pM_go rfl rfl ?_
                    refine pM_w (F2 := [(0, .inr (.inl (some 42))), (1, .inl (.inl p1)), (2, .inl (.inl 0)), (3, .inl (.inl 1)), (4, .inl (.inl (v4 + 1)))]) (fun L hL => lo_cons (lo_lk hL rfl) (lo_cons (lo_lk hL rfl) (lo_cons (lo_lk hL rfl) (lo_cons (lo_lk hL rfl) (lo_cons (lo_lk hL rfl) lo_nil))))) ?_
                    exact IH hN 0 1 (v4 + 1) M35 h
                  · exact absurd h33 (by decide)
              · replace h := h.2 h31
                refine pM_aln rfl rfl rfl ?_
                refine pM_gr rfl rfl rfl rfl ?_
                refine pM_bi rfl kb_m4 ?_
                refine pM_qRu (as := [.inr (.inl (some 13)), .inl (.inl (-4))]) (T := []) rfl rfl (fun C hC => cl_v hC rfl rfl rfl rfl) rfl (q_Law_addStep isK_13 h) (fun M38 h => ?_)
                refine pM_aln rfl rfl rfl ?_
                refine pM_gr rfl rfl rfl rfl ?_
                refine pM_qVi (as := [.inr (.inl (some 3))]) (T := []) rfl rfl (fun C hC => cl_v hC rfl rfl rfl rfl) rfl (q_Text_kind ) ?_
                refine pM_ic rfl ki_3 ?_
                refine pM_cne rfl rfl (fun h39 => ?_) (fun h39 => ?_)
                · replace h := h.2 h39
                  refine pM_ic rfl ki_0 ?_
                  refine pM_isn rfl rfl ?_
                  refine pM_iln rfl rfl ?_
                  refine pM_zne rfl rfl (fun h43 => ?_) (fun h43 => ?_)
                  · exact absurd (by decide) h43
                  · refine pM_ic rfl ki_1 ?_
                    exact pM_ri rfl (⟨_, rfl, h⟩)
                · replace h := h.1 h39
                  refine pM_ic rfl ki_1 ?_
                  refine pM_go rfl rfl ?_
                  refine pM_isn rfl rfl ?_
                  refine pM_iln rfl rfl ?_
                  refine pM_zne rfl rfl (fun h40 => ?_) (fun h40 => ?_)
                  · refine pM_aln rfl rfl rfl ?_
                    refine pM_gr rfl rfl rfl rfl ?_
                    refine pM_qRu (as := [.inr (.inl (some 3))]) (T := []) rfl rfl (fun C hC => cl_v hC rfl rfl rfl rfl) rfl (q_Text_goOn  h) (fun M42 h => ?_)
                    refine pM_ii rfl rfl rfl ki_1 ?_
                    refine pM_go rfl rfl ?_
                    refine pM_w (F2 := [(0, .inr (.inl (some 42))), (1, .inl (.inl p1)), (2, .inl (.inl 0)), (3, .inl (.inl 1)), (4, .inl (.inl (v4 + 1)))]) (fun L hL => lo_cons (lo_lk hL rfl) (lo_cons (lo_lk hL rfl) (lo_cons (lo_lk hL rfl) (lo_cons (lo_lk hL rfl) (lo_cons (lo_lk hL rfl) lo_nil))))) ?_
                    exact IH hN 0 1 (v4 + 1) M42 h
                  · exact absurd h40 (by decide)
          · replace h := h.1 h26
            refine pM_ic rfl ki_1 ?_
            refine pM_go rfl rfl ?_
            refine pM_isn rfl rfl ?_
            refine pM_iln rfl rfl ?_
            refine pM_zne rfl rfl (fun h27 => ?_) (fun h27 => ?_)
            · refine pM_aln rfl rfl rfl ?_
              refine pM_gr rfl rfl rfl rfl ?_
              refine pM_qRu (as := [.inr (.inl (some 3))]) (T := []) rfl rfl (fun C hC => cl_v hC rfl rfl rfl rfl) rfl (q_Text_goOn  h) (fun M29 h => ?_)
              refine pM_ii rfl rfl rfl ki_1 ?_
              refine pM_go rfl rfl ?_
              refine pM_w (F2 := [(0, .inr (.inl (some 42))), (1, .inl (.inl p1)), (2, .inl (.inl 1)), (3, .inl (.inl v3)), (4, .inl (.inl (v4 + 1)))]) (fun L hL => lo_cons (lo_lk hL rfl) (lo_cons (lo_lk hL rfl) (lo_cons (lo_lk hL rfl) (lo_cons (lo_lk hL rfl) (lo_cons (lo_lk hL rfl) lo_nil))))) ?_
              exact IH hN 1 v3 (v4 + 1) M29 h
            · exact absurd h27 (by decide)
      · replace h := h.1 h4
        refine pM_ic rfl ki_0 ?_
        exact pM_ri rfl (⟨_, rfl, h⟩)
/-- 368: EarCode$LawReader.readCondition(I)Z -/
def W_LawReader_readCondition_368 (p1 : Int32) (N : Nat) (M : MM) (Q : Int32 → MM → Prop) : Prop :=
  W_LawReader_readCondition_368_7 p1 Q N 0 0 0 M
theorem q_LawReader_readCondition_368 {X : Option (List AI)} {N : Nat} {M : MM} {p1 : Int32} {Q : Int32 → MM → Prop}  (h : W_LawReader_readCondition_368 p1 N M Q) : pM X N 368 0 (ea_ar 0 [.inr (.inl (some 42)), .inl (.inl p1)]) [] M (Ri Q) := by
  refine pM_w (F2 := [(0, .inr (.inl (some 42))), (1, .inl (.inl p1))]) (fun L hL => lo_cons (lo_lk hL rfl) (lo_cons (lo_lk hL rfl) lo_nil)) ?_
  refine pM_ic rfl ki_0 ?_
  refine pM_isn rfl rfl ?_
  refine pM_ic rfl ki_0 ?_
  refine pM_isn rfl rfl ?_
  refine pM_ic rfl ki_0 ?_
  refine pM_is rfl rfl ?_
  refine pM_w (F2 := [(0, .inr (.inl (some 42))), (1, .inl (.inl p1)), (2, .inl (.inl 0)), (3, .inl (.inl 0)), (4, .inl (.inl 0))]) (fun L hL => lo_cons (lo_lk hL rfl) (lo_cons (lo_lk hL rfl) (lo_cons (lo_lk hL rfl) (lo_cons (lo_lk hL rfl) (lo_cons (lo_lk hL rfl) lo_nil))))) ?_
  refine q_LawReader_readCondition_368_7   N (Nat.le_refl N) 0 0 0 M h
/-- 367: EarCode$LawReader.readAtom(I)Z -/
def W_LawReader_readAtom_367 (p1 : Int32) (N : Nat) (M : MM) (Q : Int32 → MM → Prop) : Prop :=
  (((V_Text_kind  M) = 6 →
    W_Text_goOn  N M (fun M3 =>
      W_Law_addStep 13 (-1) N M3 (fun M5 =>
        Q 1 M5))) ∧
   (¬ (V_Text_kind  M) = 6 →
    (((V_Text_kind  M) = 5 →
      ((p1 < 6 →
        W_Text_goOn  N M (fun M9 =>
          (((V_Text_kind  M) = 5 →
            W_LawReader_readAtom_369 (p1 + 1) N M9 (fun r11 M12 =>
              ((r11 = 0 →
                Q 0 M12) ∧
               (¬ r11 = 0 →
                W_Law_addStep 13 (-2) N M12 (fun M15 =>
                  Q 1 M15))))) ∧
           (¬ (V_Text_kind  M) = 5 →
            W_LawReader_readCondition_368 (p1 + 1) N M9 (fun r16 M17 =>
              ((r16 = 0 →
                Q 0 M17) ∧
               (¬ r16 = 0 →
                (((V_Text_kind  M17) = 41 →
                  W_Text_goOn  N M17 (fun M21 =>
                    Q 1 M21)) ∧
                 (¬ (V_Text_kind  M17) = 41 →
                  Q 0 M17))))))))) ∧
       (¬ p1 < 6 →
        Q 0 M))) ∧
     (¬ (V_Text_kind  M) = 5 →
      (((V_Text_kind  M) = 40 →
        ((p1 < 6 →
          W_Text_goOn  N M (fun M25 =>
            (((V_Text_kind  M) = 5 →
              W_LawReader_readAtom_369 (p1 + 1) N M25 (fun r27 M28 =>
                ((r27 = 0 →
                  Q 0 M28) ∧
                 (¬ r27 = 0 →
                  W_Law_addStep 13 (-2) N M28 (fun M31 =>
                    Q 1 M31))))) ∧
             (¬ (V_Text_kind  M) = 5 →
              W_LawReader_readCondition_368 (p1 + 1) N M25 (fun r32 M33 =>
                ((r32 = 0 →
                  Q 0 M33) ∧
                 (¬ r32 = 0 →
                  (((V_Text_kind  M33) = 41 →
                    W_Text_goOn  N M33 (fun M37 =>
                      Q 1 M37)) ∧
                   (¬ (V_Text_kind  M33) = 41 →
                    Q 0 M33))))))))) ∧
         (¬ p1 < 6 →
          Q 0 M))) ∧
       (¬ (V_Text_kind  M) = 40 →
        W_LawReader_readComparison  N M (fun r38 M39 =>
          Q r38 M39)))))))
theorem q_LawReader_readAtom_367 {X : Option (List AI)} {N : Nat} {M : MM} {p1 : Int32} {Q : Int32 → MM → Prop}  (h : W_LawReader_readAtom_367 p1 N M Q) : pM X N 367 0 (ea_ar 0 [.inr (.inl (some 42)), .inl (.inl p1)]) [] M (Ri Q) := by
  refine pM_w (F2 := [(0, .inr (.inl (some 42))), (1, .inl (.inl p1))]) (fun L hL => lo_cons (lo_lk hL rfl) (lo_cons (lo_lk hL rfl) lo_nil)) ?_
  refine pM_aln rfl rfl rfl ?_
  refine pM_gr rfl rfl rfl rfl ?_
  refine pM_qVi (as := [.inr (.inl (some 3))]) (T := []) rfl rfl (fun C hC => cl_v hC rfl rfl rfl rfl) rfl (q_Text_kind ) ?_
  refine pM_isn rfl rfl ?_
  refine pM_iln rfl rfl ?_
  refine pM_bi rfl kb_6 ?_
  refine pM_cne rfl rfl (fun h1 => ?_) (fun h1 => ?_)
  · replace h := h.2 h1
    refine pM_iln rfl rfl ?_
    refine pM_ic rfl ki_5 ?_
    refine pM_ceq rfl rfl (fun h6 => ?_) (fun h6 => ?_)
    · replace h := h.1 h6
      refine pM_iln rfl rfl ?_
      refine pM_bi rfl kb_6 ?_
      refine pM_clt rfl rfl (fun h7 => ?_) (fun h7 => ?_)
      · replace h := h.1 h7
        refine pM_aln rfl rfl rfl ?_
        refine pM_gr rfl rfl rfl rfl ?_
        refine pM_qRu (as := [.inr (.inl (some 3))]) (T := []) rfl rfl (fun C hC => cl_v hC rfl rfl rfl rfl) rfl (q_Text_goOn  h) (fun M9 h => ?_)
        refine pM_iln rfl rfl ?_
        refine pM_ic rfl ki_5 ?_
        refine pM_cne rfl rfl (fun h10 => ?_) (fun h10 => ?_)
        · replace h := h.2 h10
          refine pM_aln rfl rfl rfl ?_
          refine pM_iln rfl rfl ?_
          refine pM_ic rfl ki_1 ?_
          refine pM_add rfl ?_
          refine pM_qRi (as := [.inr (.inl (some 42)), .inl (.inl (p1 + 1))]) (T := []) rfl rfl (fun C hC => cl_v hC rfl rfl rfl rfl) rfl (q_LawReader_readCondition_368  h) (fun r16 M17 h => ?_)
          refine pM_zeq rfl rfl (fun h18 => ?_) (fun h18 => ?_)
          · replace h := h.1 h18
            refine pM_ic rfl ki_0 ?_
            exact pM_ri rfl (⟨_, rfl, h⟩)
          · replace h := h.2 h18
            refine pM_aln rfl rfl rfl ?_
            refine pM_gr rfl rfl rfl rfl ?_
            refine pM_qVi (as := [.inr (.inl (some 3))]) (T := []) rfl rfl (fun C hC => cl_v hC rfl rfl rfl rfl) rfl (q_Text_kind ) ?_
            refine pM_bi rfl kb_41 ?_
            refine pM_ceq rfl rfl (fun h19 => ?_) (fun h19 => ?_)
            · replace h := h.1 h19
              refine pM_aln rfl rfl rfl ?_
              refine pM_gr rfl rfl rfl rfl ?_
              refine pM_qRu (as := [.inr (.inl (some 3))]) (T := []) rfl rfl (fun C hC => cl_v hC rfl rfl rfl rfl) rfl (q_Text_goOn  h) (fun M21 h => ?_)
              refine pM_ic rfl ki_1 ?_
              exact pM_ri rfl (⟨_, rfl, h⟩)
            · replace h := h.2 h19
              refine pM_ic rfl ki_0 ?_
              exact pM_ri rfl (⟨_, rfl, h⟩)
        · replace h := h.1 h10
          refine pM_aln rfl rfl rfl ?_
          refine pM_iln rfl rfl ?_
          refine pM_ic rfl ki_1 ?_
          refine pM_add rfl ?_
          refine pM_qRi (as := [.inr (.inl (some 42)), .inl (.inl (p1 + 1))]) (T := []) rfl rfl (fun C hC => cl_v hC rfl rfl rfl rfl) rfl (q_LawReader_readAtom_369  h) (fun r11 M12 h => ?_)
          refine pM_zne rfl rfl (fun h13 => ?_) (fun h13 => ?_)
          · replace h := h.2 h13
            refine pM_aln rfl rfl rfl ?_
            refine pM_gr rfl rfl rfl rfl ?_
            refine pM_bi rfl kb_m2 ?_
            refine pM_qRu (as := [.inr (.inl (some 13)), .inl (.inl (-2))]) (T := []) rfl rfl (fun C hC => cl_v hC rfl rfl rfl rfl) rfl (q_Law_addStep isK_13 h) (fun M15 h => ?_)
            refine pM_ic rfl ki_1 ?_
            exact pM_ri rfl (⟨_, rfl, h⟩)
          · replace h := h.1 h13
            refine pM_ic rfl ki_0 ?_
            exact pM_ri rfl (⟨_, rfl, h⟩)
      · replace h := h.2 h7
        refine pM_ic rfl ki_0 ?_
        exact pM_ri rfl (⟨_, rfl, h⟩)
    · replace h := h.2 h6
      refine pM_iln rfl rfl ?_
      refine pM_bi rfl kb_40 ?_
      refine pM_ceq rfl rfl (fun h22 => ?_) (fun h22 => ?_)
      · replace h := h.1 h22
        refine pM_iln rfl rfl ?_
        refine pM_bi rfl kb_6 ?_
        refine pM_clt rfl rfl (fun h23 => ?_) (fun h23 => ?_)
        · replace h := h.1 h23
          refine pM_aln rfl rfl rfl ?_
          refine pM_gr rfl rfl rfl rfl ?_
          refine pM_qRu (as := [.inr (.inl (some 3))]) (T := []) rfl rfl (fun C hC => cl_v hC rfl rfl rfl rfl) rfl (q_Text_goOn  h) (fun M25 h => ?_)
          refine pM_iln rfl rfl ?_
          refine pM_ic rfl ki_5 ?_
          refine pM_cne rfl rfl (fun h26 => ?_) (fun h26 => ?_)
          · replace h := h.2 h26
            refine pM_aln rfl rfl rfl ?_
            refine pM_iln rfl rfl ?_
            refine pM_ic rfl ki_1 ?_
            refine pM_add rfl ?_
            refine pM_qRi (as := [.inr (.inl (some 42)), .inl (.inl (p1 + 1))]) (T := []) rfl rfl (fun C hC => cl_v hC rfl rfl rfl rfl) rfl (q_LawReader_readCondition_368  h) (fun r32 M33 h => ?_)
            refine pM_zeq rfl rfl (fun h34 => ?_) (fun h34 => ?_)
            · replace h := h.1 h34
              refine pM_ic rfl ki_0 ?_
              exact pM_ri rfl (⟨_, rfl, h⟩)
            · replace h := h.2 h34
              refine pM_aln rfl rfl rfl ?_
              refine pM_gr rfl rfl rfl rfl ?_
              refine pM_qVi (as := [.inr (.inl (some 3))]) (T := []) rfl rfl (fun C hC => cl_v hC rfl rfl rfl rfl) rfl (q_Text_kind ) ?_
              refine pM_bi rfl kb_41 ?_
              refine pM_ceq rfl rfl (fun h35 => ?_) (fun h35 => ?_)
              · replace h := h.1 h35
                refine pM_aln rfl rfl rfl ?_
                refine pM_gr rfl rfl rfl rfl ?_
                refine pM_qRu (as := [.inr (.inl (some 3))]) (T := []) rfl rfl (fun C hC => cl_v hC rfl rfl rfl rfl) rfl (q_Text_goOn  h) (fun M37 h => ?_)
                refine pM_ic rfl ki_1 ?_
                exact pM_ri rfl (⟨_, rfl, h⟩)
              · replace h := h.2 h35
                refine pM_ic rfl ki_0 ?_
                exact pM_ri rfl (⟨_, rfl, h⟩)
          · replace h := h.1 h26
            refine pM_aln rfl rfl rfl ?_
            refine pM_iln rfl rfl ?_
            refine pM_ic rfl ki_1 ?_
            refine pM_add rfl ?_
            refine pM_qRi (as := [.inr (.inl (some 42)), .inl (.inl (p1 + 1))]) (T := []) rfl rfl (fun C hC => cl_v hC rfl rfl rfl rfl) rfl (q_LawReader_readAtom_369  h) (fun r27 M28 h => ?_)
            refine pM_zne rfl rfl (fun h29 => ?_) (fun h29 => ?_)
            · replace h := h.2 h29
              refine pM_aln rfl rfl rfl ?_
              refine pM_gr rfl rfl rfl rfl ?_
              refine pM_bi rfl kb_m2 ?_
              refine pM_qRu (as := [.inr (.inl (some 13)), .inl (.inl (-2))]) (T := []) rfl rfl (fun C hC => cl_v hC rfl rfl rfl rfl) rfl (q_Law_addStep isK_13 h) (fun M31 h => ?_)
              refine pM_ic rfl ki_1 ?_
              exact pM_ri rfl (⟨_, rfl, h⟩)
            · replace h := h.1 h29
              refine pM_ic rfl ki_0 ?_
              exact pM_ri rfl (⟨_, rfl, h⟩)
        · replace h := h.2 h23
          refine pM_ic rfl ki_0 ?_
          exact pM_ri rfl (⟨_, rfl, h⟩)
      · replace h := h.2 h22
        refine pM_aln rfl rfl rfl ?_
        refine pM_qRi (as := [.inr (.inl (some 42))]) (T := []) rfl rfl (fun C hC => cl_v hC rfl rfl rfl rfl) rfl (q_LawReader_readComparison  h) (fun r38 M39 h => ?_)
        exact pM_ri rfl (⟨_, rfl, h⟩)
  · replace h := h.1 h1
    refine pM_aln rfl rfl rfl ?_
    refine pM_gr rfl rfl rfl rfl ?_
    refine pM_qRu (as := [.inr (.inl (some 3))]) (T := []) rfl rfl (fun C hC => cl_v hC rfl rfl rfl rfl) rfl (q_Text_goOn  h) (fun M3 h => ?_)
    refine pM_aln rfl rfl rfl ?_
    refine pM_gr rfl rfl rfl rfl ?_
    refine pM_ic rfl ki_m1 ?_
    refine pM_qRu (as := [.inr (.inl (some 13)), .inl (.inl (-1))]) (T := []) rfl rfl (fun C hC => cl_v hC rfl rfl rfl rfl) rfl (q_Law_addStep isK_13 h) (fun M5 h => ?_)
    refine pM_ic rfl ki_1 ?_
    exact pM_ri rfl (⟨_, rfl, h⟩)
