/-! WHAT EACH METHOD COMES TO (gw.py) -/
def B_m_isOf_29 (p1 : Int32) (p2 : Int32) (p3 : Int32) (p4 : Int32) (Q : Int32 → MM → Prop) (N : Nat) (ih : Int32 → Int32 → MM → Prop) (v5 : Int32) (v6 : Int32) (M : MM) : Prop :=
  ((v6 < (M.1 201 (ni ((4 * p1) + 3))) →
    ((5 < (M.1 202 (ni (2 * v6))) →
      (((M.1 202 (ni (2 * v6))) = 9 →
        ih v5 (v6 + 1) (wi M 207 (ni (v5 - 1)) (1 - (M.1 207 (ni (v5 - 1)))))) ∧
       (¬ (M.1 202 (ni (2 * v6))) = 9 →
        (((M.1 202 (ni (2 * v6))) = 7 →
          (((M.1 207 (ni ((v5 + (-1)) - 1))) < (M.1 207 (ni (v5 + (-1)))) →
            (((M.1 202 (ni (2 * v6))) = 6 →
              ih (v5 + (-1)) (v6 + 1) (wi M 207 (ni ((v5 + (-1)) - 1)) ((M.1 207 (ni ((v5 + (-1)) - 1))) + (M.1 207 (ni (v5 + (-1))))))) ∧
             (¬ (M.1 202 (ni (2 * v6))) = 6 →
              ih (v5 + (-1)) (v6 + 1) (wi M 207 (ni ((v5 + (-1)) - 1)) 1)))) ∧
           (¬ (M.1 207 (ni ((v5 + (-1)) - 1))) < (M.1 207 (ni (v5 + (-1)))) →
            (((M.1 202 (ni (2 * v6))) = 6 →
              ih (v5 + (-1)) (v6 + 1) (wi M 207 (ni ((v5 + (-1)) - 1)) ((M.1 207 (ni ((v5 + (-1)) - 1))) + (M.1 207 (ni (v5 + (-1))))))) ∧
             (¬ (M.1 202 (ni (2 * v6))) = 6 →
              ih (v5 + (-1)) (v6 + 1) (wi M 207 (ni ((v5 + (-1)) - 1)) 0)))))) ∧
         (¬ (M.1 202 (ni (2 * v6))) = 7 →
          (((M.1 202 (ni (2 * v6))) = 8 →
            (((M.1 207 (ni (v5 + (-1)))) < (M.1 207 (ni ((v5 + (-1)) - 1))) →
              (((M.1 202 (ni (2 * v6))) = 6 →
                ih (v5 + (-1)) (v6 + 1) (wi M 207 (ni ((v5 + (-1)) - 1)) ((M.1 207 (ni ((v5 + (-1)) - 1))) + (M.1 207 (ni (v5 + (-1))))))) ∧
               (¬ (M.1 202 (ni (2 * v6))) = 6 →
                ih (v5 + (-1)) (v6 + 1) (wi M 207 (ni ((v5 + (-1)) - 1)) 1)))) ∧
             (¬ (M.1 207 (ni (v5 + (-1)))) < (M.1 207 (ni ((v5 + (-1)) - 1))) →
              (((M.1 202 (ni (2 * v6))) = 6 →
                ih (v5 + (-1)) (v6 + 1) (wi M 207 (ni ((v5 + (-1)) - 1)) ((M.1 207 (ni ((v5 + (-1)) - 1))) + (M.1 207 (ni (v5 + (-1))))))) ∧
               (¬ (M.1 202 (ni (2 * v6))) = 6 →
                ih (v5 + (-1)) (v6 + 1) (wi M 207 (ni ((v5 + (-1)) - 1)) 0)))))) ∧
           (¬ (M.1 202 (ni (2 * v6))) = 8 →
            (((M.1 202 (ni (2 * v6))) = 10 →
              ((((M.1 207 (ni ((v5 + (-1)) - 1))) + (M.1 207 (ni (v5 + (-1))))) = 2 →
                (((M.1 202 (ni (2 * v6))) = 6 →
                  ih (v5 + (-1)) (v6 + 1) (wi M 207 (ni ((v5 + (-1)) - 1)) ((M.1 207 (ni ((v5 + (-1)) - 1))) + (M.1 207 (ni (v5 + (-1))))))) ∧
                 (¬ (M.1 202 (ni (2 * v6))) = 6 →
                  ih (v5 + (-1)) (v6 + 1) (wi M 207 (ni ((v5 + (-1)) - 1)) 1)))) ∧
               (¬ ((M.1 207 (ni ((v5 + (-1)) - 1))) + (M.1 207 (ni (v5 + (-1))))) = 2 →
                (((M.1 202 (ni (2 * v6))) = 6 →
                  ih (v5 + (-1)) (v6 + 1) (wi M 207 (ni ((v5 + (-1)) - 1)) ((M.1 207 (ni ((v5 + (-1)) - 1))) + (M.1 207 (ni (v5 + (-1))))))) ∧
                 (¬ (M.1 202 (ni (2 * v6))) = 6 →
                  ih (v5 + (-1)) (v6 + 1) (wi M 207 (ni ((v5 + (-1)) - 1)) 0)))))) ∧
             (¬ (M.1 202 (ni (2 * v6))) = 10 →
              ((0 < ((M.1 207 (ni ((v5 + (-1)) - 1))) + (M.1 207 (ni (v5 + (-1))))) →
                (((M.1 202 (ni (2 * v6))) = 6 →
                  ih (v5 + (-1)) (v6 + 1) (wi M 207 (ni ((v5 + (-1)) - 1)) ((M.1 207 (ni ((v5 + (-1)) - 1))) + (M.1 207 (ni (v5 + (-1))))))) ∧
                 (¬ (M.1 202 (ni (2 * v6))) = 6 →
                  ih (v5 + (-1)) (v6 + 1) (wi M 207 (ni ((v5 + (-1)) - 1)) 1)))) ∧
               (¬ 0 < ((M.1 207 (ni ((v5 + (-1)) - 1))) + (M.1 207 (ni (v5 + (-1))))) →
                (((M.1 202 (ni (2 * v6))) = 6 →
                  ih (v5 + (-1)) (v6 + 1) (wi M 207 (ni ((v5 + (-1)) - 1)) ((M.1 207 (ni ((v5 + (-1)) - 1))) + (M.1 207 (ni (v5 + (-1))))))) ∧
                 (¬ (M.1 202 (ni (2 * v6))) = 6 →
                  ih (v5 + (-1)) (v6 + 1) (wi M 207 (ni ((v5 + (-1)) - 1)) 0)))))))))))))) ∧
     (¬ 5 < (M.1 202 (ni (2 * v6))) →
      ih (v5 + 1) (v6 + 1) (wi M 207 (ni v5) (V_m_factOf (M.1 202 (ni (2 * v6))) (M.1 202 (ni ((2 * v6) + 1))) (rm p2 8) p3 p4 M))))) ∧
   (¬ v6 < (M.1 201 (ni ((4 * p1) + 3))) →
    ((v5 = 0 →
      Q 1 M) ∧
     (¬ v5 = 0 →
      (((M.1 207 (ni 0)) = 1 →
        Q 1 M) ∧
       (¬ (M.1 207 (ni 0)) = 1 →
        Q 0 M))))))
def W_m_isOf_29 (p1 : Int32) (p2 : Int32) (p3 : Int32) (p4 : Int32) (Q : Int32 → MM → Prop) : Nat → Int32 → Int32 → MM → Prop
  | 0, _, _, _ => True
  | N + 1, v5, v6, M => B_m_isOf_29 p1 p2 p3 p4 Q N (W_m_isOf_29 p1 p2 p3 p4 Q N) v5 v6 M
theorem I_m_isOf_29 (p1 : Int32) (p2 : Int32) (p3 : Int32) (p4 : Int32) (Q : Int32 → MM → Prop) (inv : Int32 → Int32 → MM → Prop) (hs : ∀ (N : Nat) (ih : Int32 → Int32 → MM → Prop) (v5 : Int32) (v6 : Int32) (M : MM), (∀ (v5 : Int32) (v6 : Int32) (M : MM), inv v5 v6 M → ih v5 v6 M) → inv v5 v6 M → B_m_isOf_29 p1 p2 p3 p4 Q N ih v5 v6 M) : ∀ (N : Nat) (v5 : Int32) (v6 : Int32) (M : MM), inv v5 v6 M → W_m_isOf_29 p1 p2 p3 p4 Q N v5 v6 M := by
  intro N
  induction N with
  | zero => intros; trivial
  | succ N IH =>
    intro v5 v6 M h
    exact hs N _ v5 v6 M IH h
theorem q_m_isOf_29 {X : Option (List AI)} {N0 : Nat} {p1 : Int32} {p2 : Int32} {p3 : Int32} {p4 : Int32} {Q : Int32 → MM → Prop}   : ∀ (N : Nat), N ≤ N0 → ∀ (v5 : Int32) (v6 : Int32) (M : MM), W_m_isOf_29 p1 p2 p3 p4 Q N v5 v6 M → pM X N 246 29 [(0, .inr (.inl (some 190))), (1, .inl (.inl p1)), (2, .inl (.inl p2)), (3, .inl (.inl p3)), (4, .inl (.inl p4)), (5, .inl (.inl v5)), (6, .inl (.inl v6))] [] M (Ri Q) := by
  intro N
  induction N with
  | zero => intros; exact pM_zero
  | succ N IH =>
    intro hN v5 v6 M h
    replace hN := Nat.le_of_succ_le hN
    replace h : B_m_isOf_29 p1 p2 p3 p4 Q N (W_m_isOf_29 p1 p2 p3 p4 Q N) v5 v6 M := h
    refine pM_s (pMs_il rfl rfl ?_)
    refine pM_aln rfl rfl rfl ?_
    refine pM_gr rfl rfl rfl rfl ?_
    refine pM_ic rfl ki_4 ?_
    refine pM_iln rfl rfl ?_
    refine pM_mul rfl ?_
    refine pM_ic rfl ki_3 ?_
    refine pM_add rfl ?_
    refine pM_ai rfl rfl (one_p _) ?_
    refine pM_cge rfl rfl (fun h2 => ?_) (fun h2 => ?_)
    · replace h := h.2 h2
      refine pM_il rfl rfl ?_
      refine pM_zeq rfl rfl (fun h28 => ?_) (fun h28 => ?_)
      · replace h := h.1 h28
        refine pM_ic rfl ki_1 ?_
        refine pM_go rfl rfl ?_
        exact pM_ri rfl (⟨_, rfl, h⟩)
      · replace h := h.2 h28
        refine pM_aln rfl rfl rfl ?_
        refine pM_gr rfl rfl rfl rfl ?_
        refine pM_ic rfl ki_0 ?_
        refine pM_ai rfl rfl (one_p _) ?_
        refine pM_ic rfl ki_1 ?_
        refine pM_cne rfl rfl (fun h29 => ?_) (fun h29 => ?_)
        · replace h := h.2 h29
          refine pM_ic rfl ki_0 ?_
          exact pM_ri rfl (⟨_, rfl, h⟩)
        · replace h := h.1 h29
          refine pM_ic rfl ki_1 ?_
          refine pM_go rfl rfl ?_
          exact pM_ri rfl (⟨_, rfl, h⟩)
    · replace h := h.1 h2
      refine pM_aln rfl rfl rfl ?_
      refine pM_gr rfl rfl rfl rfl ?_
      refine pM_ic rfl ki_2 ?_
      refine pM_il rfl rfl ?_
      refine pM_mul rfl ?_
      refine pM_ai rfl rfl (one_p _) ?_
      refine pM_is rfl rfl ?_
      refine pM_il rfl rfl ?_
      refine pM_ic rfl ki_5 ?_
      refine pM_cgt rfl rfl (fun h3 => ?_) (fun h3 => ?_)
      · replace h := h.1 h3
        refine pM_il rfl rfl ?_
        refine pM_bi rfl kb_9 ?_
        refine pM_cne rfl rfl (fun h4 => ?_) (fun h4 => ?_)
        · replace h := h.2 h4
          refine pM_ii rfl rfl rfl ki_m1 ?_
          refine pM_aln rfl rfl rfl ?_
          refine pM_gr rfl rfl rfl rfl ?_
          refine pM_il rfl rfl ?_
          refine pM_ic rfl ki_1 ?_
          refine pM_sub rfl ?_
          refine pM_ai rfl rfl (one_p _) ?_
          refine pM_is rfl rfl ?_
          refine pM_aln rfl rfl rfl ?_
          refine pM_gr rfl rfl rfl rfl ?_
          refine pM_il rfl rfl ?_
          refine pM_ai rfl rfl (one_p _) ?_
          refine pM_is rfl rfl ?_
          refine pM_il rfl rfl ?_
          refine pM_bi rfl kb_7 ?_
          refine pM_cne rfl rfl (fun h5 => ?_) (fun h5 => ?_)
          · replace h := h.2 h5
            refine pM_il rfl rfl ?_
            refine pM_bi rfl kb_8 ?_
            refine pM_cne rfl rfl (fun h11 => ?_) (fun h11 => ?_)
            · replace h := h.2 h11
              refine pM_il rfl rfl ?_
              refine pM_bi rfl kb_10 ?_
              refine pM_cne rfl rfl (fun h17 => ?_) (fun h17 => ?_)
              · replace h := h.2 h17
                refine pM_il rfl rfl ?_
                refine pM_il rfl rfl ?_
                refine pM_add rfl ?_
                refine pM_zle rfl rfl (fun h23 => ?_) (fun h23 => ?_)
                · replace h := h.2 h23
                  refine pM_ic rfl ki_0 ?_
                  refine pM_is rfl rfl ?_
                  refine pM_aln rfl rfl rfl ?_
                  refine pM_gr rfl rfl rfl rfl ?_
                  refine pM_il rfl rfl ?_
                  refine pM_ic rfl ki_1 ?_
                  refine pM_sub rfl ?_
                  refine pM_il rfl rfl ?_
                  refine pM_bi rfl kb_6 ?_
                  refine pM_cne rfl rfl (fun h26 => ?_) (fun h26 => ?_)
                  · replace h := h.2 h26
                    refine pM_il rfl rfl ?_
                    refine pM_zeq rfl rfl (fun h27 => ?_) (fun h27 => ?_)
                    · refine pM_ic rfl ki_0 ?_
                      refine pM_sa rfl rfl (one_p _) ?_
                      refine pM_ii rfl rfl rfl ki_1 ?_
                      refine pM_go rfl rfl ?_
                      refine pM_w (F2 := [(0, .inr (.inl (some 190))), (1, .inl (.inl p1)), (2, .inl (.inl p2)), (3, .inl (.inl p3)), (4, .inl (.inl p4)), (5, .inl (.inl (v5 + (-1)))), (6, .inl (.inl (v6 + 1)))]) (fun L hL => lo_cons (lo_lk hL rfl) (lo_cons (lo_lk hL rfl) (lo_cons (lo_lk hL rfl) (lo_cons (lo_lk hL rfl) (lo_cons (lo_lk hL rfl) (lo_cons (lo_lk hL rfl) (lo_cons (lo_lk hL rfl) lo_nil))))))) ?_
                      exact IH hN (v5 + (-1)) (v6 + 1) (wi M 207 (ni ((v5 + (-1)) - 1)) 0) h
                    · exact absurd (by decide) h27
                  · replace h := h.1 h26
                    refine pM_il rfl rfl ?_
                    refine pM_il rfl rfl ?_
                    refine pM_add rfl ?_
                    refine pM_go rfl rfl ?_
                    refine pM_sa rfl rfl (one_p _) ?_
                    refine pM_ii rfl rfl rfl ki_1 ?_
                    refine pM_go rfl rfl ?_
                    refine pM_w (F2 := [(0, .inr (.inl (some 190))), (1, .inl (.inl p1)), (2, .inl (.inl p2)), (3, .inl (.inl p3)), (4, .inl (.inl p4)), (5, .inl (.inl (v5 + (-1)))), (6, .inl (.inl (v6 + 1)))]) (fun L hL => lo_cons (lo_lk hL rfl) (lo_cons (lo_lk hL rfl) (lo_cons (lo_lk hL rfl) (lo_cons (lo_lk hL rfl) (lo_cons (lo_lk hL rfl) (lo_cons (lo_lk hL rfl) (lo_cons (lo_lk hL rfl) lo_nil))))))) ?_
                    exact IH hN (v5 + (-1)) (v6 + 1) (wi M 207 (ni ((v5 + (-1)) - 1)) ((M.1 207 (ni ((v5 + (-1)) - 1))) + (M.1 207 (ni (v5 + (-1)))))) h
                · replace h := h.1 h23
                  refine pM_ic rfl ki_1 ?_
                  refine pM_go rfl rfl ?_
                  refine pM_is rfl rfl ?_
                  refine pM_aln rfl rfl rfl ?_
                  refine pM_gr rfl rfl rfl rfl ?_
                  refine pM_il rfl rfl ?_
                  refine pM_ic rfl ki_1 ?_
                  refine pM_sub rfl ?_
                  refine pM_il rfl rfl ?_
                  refine pM_bi rfl kb_6 ?_
                  refine pM_cne rfl rfl (fun h24 => ?_) (fun h24 => ?_)
                  · replace h := h.2 h24
                    refine pM_il rfl rfl ?_
                    refine pM_zeq rfl rfl (fun h25 => ?_) (fun h25 => ?_)
                    · exact absurd h25 (by decide)
                    · refine pM_ic rfl ki_1 ?_
                      refine pM_go rfl rfl ?_
                      refine pM_sa rfl rfl (one_p _) ?_
                      refine pM_ii rfl rfl rfl ki_1 ?_
                      refine pM_go rfl rfl ?_
                      refine pM_w (F2 := [(0, .inr (.inl (some 190))), (1, .inl (.inl p1)), (2, .inl (.inl p2)), (3, .inl (.inl p3)), (4, .inl (.inl p4)), (5, .inl (.inl (v5 + (-1)))), (6, .inl (.inl (v6 + 1)))]) (fun L hL => lo_cons (lo_lk hL rfl) (lo_cons (lo_lk hL rfl) (lo_cons (lo_lk hL rfl) (lo_cons (lo_lk hL rfl) (lo_cons (lo_lk hL rfl) (lo_cons (lo_lk hL rfl) (lo_cons (lo_lk hL rfl) lo_nil))))))) ?_
                      exact IH hN (v5 + (-1)) (v6 + 1) (wi M 207 (ni ((v5 + (-1)) - 1)) 1) h
                  · replace h := h.1 h24
                    refine pM_il rfl rfl ?_
                    refine pM_il rfl rfl ?_
                    refine pM_add rfl ?_
                    refine pM_go rfl rfl ?_
                    refine pM_sa rfl rfl (one_p _) ?_
                    refine pM_ii rfl rfl rfl ki_1 ?_
                    refine pM_go rfl rfl ?_
                    refine pM_w (F2 := [(0, .inr (.inl (some 190))), (1, .inl (.inl p1)), (2, .inl (.inl p2)), (3, .inl (.inl p3)), (4, .inl (.inl p4)), (5, .inl (.inl (v5 + (-1)))), (6, .inl (.inl (v6 + 1)))]) (fun L hL => lo_cons (lo_lk hL rfl) (lo_cons (lo_lk hL rfl) (lo_cons (lo_lk hL rfl) (lo_cons (lo_lk hL rfl) (lo_cons (lo_lk hL rfl) (lo_cons (lo_lk hL rfl) (lo_cons (lo_lk hL rfl) lo_nil))))))) ?_
                    exact IH hN (v5 + (-1)) (v6 + 1) (wi M 207 (ni ((v5 + (-1)) - 1)) ((M.1 207 (ni ((v5 + (-1)) - 1))) + (M.1 207 (ni (v5 + (-1)))))) h
              · replace h := h.1 h17
                refine pM_il rfl rfl ?_
                refine pM_il rfl rfl ?_
                refine pM_add rfl ?_
                refine pM_ic rfl ki_2 ?_
                refine pM_cne rfl rfl (fun h18 => ?_) (fun h18 => ?_)
                · replace h := h.2 h18
                  refine pM_ic rfl ki_0 ?_
                  refine pM_go rfl rfl ?_
                  refine pM_is rfl rfl ?_
                  refine pM_aln rfl rfl rfl ?_
                  refine pM_gr rfl rfl rfl rfl ?_
                  refine pM_il rfl rfl ?_
                  refine pM_ic rfl ki_1 ?_
                  refine pM_sub rfl ?_
                  refine pM_il rfl rfl ?_
                  refine pM_bi rfl kb_6 ?_
                  refine pM_cne rfl rfl (fun h21 => ?_) (fun h21 => ?_)
                  · replace h := h.2 h21
                    refine pM_il rfl rfl ?_
                    refine pM_zeq rfl rfl (fun h22 => ?_) (fun h22 => ?_)
                    · refine pM_ic rfl ki_0 ?_
                      refine pM_sa rfl rfl (one_p _) ?_
                      refine pM_ii rfl rfl rfl ki_1 ?_
                      refine pM_go rfl rfl ?_
                      refine pM_w (F2 := [(0, .inr (.inl (some 190))), (1, .inl (.inl p1)), (2, .inl (.inl p2)), (3, .inl (.inl p3)), (4, .inl (.inl p4)), (5, .inl (.inl (v5 + (-1)))), (6, .inl (.inl (v6 + 1)))]) (fun L hL => lo_cons (lo_lk hL rfl) (lo_cons (lo_lk hL rfl) (lo_cons (lo_lk hL rfl) (lo_cons (lo_lk hL rfl) (lo_cons (lo_lk hL rfl) (lo_cons (lo_lk hL rfl) (lo_cons (lo_lk hL rfl) lo_nil))))))) ?_
                      exact IH hN (v5 + (-1)) (v6 + 1) (wi M 207 (ni ((v5 + (-1)) - 1)) 0) h
                    · exact absurd (by decide) h22
                  · replace h := h.1 h21
                    refine pM_il rfl rfl ?_
                    refine pM_il rfl rfl ?_
                    refine pM_add rfl ?_
                    refine pM_go rfl rfl ?_
                    refine pM_sa rfl rfl (one_p _) ?_
                    refine pM_ii rfl rfl rfl ki_1 ?_
                    refine pM_go rfl rfl ?_
                    refine pM_w (F2 := [(0, .inr (.inl (some 190))), (1, .inl (.inl p1)), (2, .inl (.inl p2)), (3, .inl (.inl p3)), (4, .inl (.inl p4)), (5, .inl (.inl (v5 + (-1)))), (6, .inl (.inl (v6 + 1)))]) (fun L hL => lo_cons (lo_lk hL rfl) (lo_cons (lo_lk hL rfl) (lo_cons (lo_lk hL rfl) (lo_cons (lo_lk hL rfl) (lo_cons (lo_lk hL rfl) (lo_cons (lo_lk hL rfl) (lo_cons (lo_lk hL rfl) lo_nil))))))) ?_
                    exact IH hN (v5 + (-1)) (v6 + 1) (wi M 207 (ni ((v5 + (-1)) - 1)) ((M.1 207 (ni ((v5 + (-1)) - 1))) + (M.1 207 (ni (v5 + (-1)))))) h
                · replace h := h.1 h18
                  refine pM_ic rfl ki_1 ?_
                  refine pM_go rfl rfl ?_
                  refine pM_is rfl rfl ?_
                  refine pM_aln rfl rfl rfl ?_
                  refine pM_gr rfl rfl rfl rfl ?_
                  refine pM_il rfl rfl ?_
                  refine pM_ic rfl ki_1 ?_
                  refine pM_sub rfl ?_
                  refine pM_il rfl rfl ?_
                  refine pM_bi rfl kb_6 ?_
                  refine pM_cne rfl rfl (fun h19 => ?_) (fun h19 => ?_)
                  · replace h := h.2 h19
                    refine pM_il rfl rfl ?_
                    refine pM_zeq rfl rfl (fun h20 => ?_) (fun h20 => ?_)
                    · exact absurd h20 (by decide)
                    · refine pM_ic rfl ki_1 ?_
                      refine pM_go rfl rfl ?_
                      refine pM_sa rfl rfl (one_p _) ?_
                      refine pM_ii rfl rfl rfl ki_1 ?_
                      refine pM_go rfl rfl ?_
                      refine pM_w (F2 := [(0, .inr (.inl (some 190))), (1, .inl (.inl p1)), (2, .inl (.inl p2)), (3, .inl (.inl p3)), (4, .inl (.inl p4)), (5, .inl (.inl (v5 + (-1)))), (6, .inl (.inl (v6 + 1)))]) (fun L hL => lo_cons (lo_lk hL rfl) (lo_cons (lo_lk hL rfl) (lo_cons (lo_lk hL rfl) (lo_cons (lo_lk hL rfl) (lo_cons (lo_lk hL rfl) (lo_cons (lo_lk hL rfl) (lo_cons (lo_lk hL rfl) lo_nil))))))) ?_
                      exact IH hN (v5 + (-1)) (v6 + 1) (wi M 207 (ni ((v5 + (-1)) - 1)) 1) h
                  · replace h := h.1 h19
                    refine pM_il rfl rfl ?_
                    refine pM_il rfl rfl ?_
                    refine pM_add rfl ?_
                    refine pM_go rfl rfl ?_
                    refine pM_sa rfl rfl (one_p _) ?_
                    refine pM_ii rfl rfl rfl ki_1 ?_
                    refine pM_go rfl rfl ?_
                    refine pM_w (F2 := [(0, .inr (.inl (some 190))), (1, .inl (.inl p1)), (2, .inl (.inl p2)), (3, .inl (.inl p3)), (4, .inl (.inl p4)), (5, .inl (.inl (v5 + (-1)))), (6, .inl (.inl (v6 + 1)))]) (fun L hL => lo_cons (lo_lk hL rfl) (lo_cons (lo_lk hL rfl) (lo_cons (lo_lk hL rfl) (lo_cons (lo_lk hL rfl) (lo_cons (lo_lk hL rfl) (lo_cons (lo_lk hL rfl) (lo_cons (lo_lk hL rfl) lo_nil))))))) ?_
                    exact IH hN (v5 + (-1)) (v6 + 1) (wi M 207 (ni ((v5 + (-1)) - 1)) ((M.1 207 (ni ((v5 + (-1)) - 1))) + (M.1 207 (ni (v5 + (-1)))))) h
            · replace h := h.1 h11
              refine pM_il rfl rfl ?_
              refine pM_il rfl rfl ?_
              refine pM_cle rfl rfl (fun h12 => ?_) (fun h12 => ?_)
              · replace h := h.2 h12
                refine pM_ic rfl ki_0 ?_
                refine pM_go rfl rfl ?_
                refine pM_is rfl rfl ?_
                refine pM_aln rfl rfl rfl ?_
                refine pM_gr rfl rfl rfl rfl ?_
                refine pM_il rfl rfl ?_
                refine pM_ic rfl ki_1 ?_
                refine pM_sub rfl ?_
                refine pM_il rfl rfl ?_
                refine pM_bi rfl kb_6 ?_
                refine pM_cne rfl rfl (fun h15 => ?_) (fun h15 => ?_)
                · replace h := h.2 h15
                  refine pM_il rfl rfl ?_
                  refine pM_zeq rfl rfl (fun h16 => ?_) (fun h16 => ?_)
                  · refine pM_ic rfl ki_0 ?_
                    refine pM_sa rfl rfl (one_p _) ?_
                    refine pM_ii rfl rfl rfl ki_1 ?_
                    refine pM_go rfl rfl ?_
                    refine pM_w (F2 := [(0, .inr (.inl (some 190))), (1, .inl (.inl p1)), (2, .inl (.inl p2)), (3, .inl (.inl p3)), (4, .inl (.inl p4)), (5, .inl (.inl (v5 + (-1)))), (6, .inl (.inl (v6 + 1)))]) (fun L hL => lo_cons (lo_lk hL rfl) (lo_cons (lo_lk hL rfl) (lo_cons (lo_lk hL rfl) (lo_cons (lo_lk hL rfl) (lo_cons (lo_lk hL rfl) (lo_cons (lo_lk hL rfl) (lo_cons (lo_lk hL rfl) lo_nil))))))) ?_
                    exact IH hN (v5 + (-1)) (v6 + 1) (wi M 207 (ni ((v5 + (-1)) - 1)) 0) h
                  · exact absurd (by decide) h16
                · replace h := h.1 h15
                  refine pM_il rfl rfl ?_
                  refine pM_il rfl rfl ?_
                  refine pM_add rfl ?_
                  refine pM_go rfl rfl ?_
                  refine pM_sa rfl rfl (one_p _) ?_
                  refine pM_ii rfl rfl rfl ki_1 ?_
                  refine pM_go rfl rfl ?_
                  refine pM_w (F2 := [(0, .inr (.inl (some 190))), (1, .inl (.inl p1)), (2, .inl (.inl p2)), (3, .inl (.inl p3)), (4, .inl (.inl p4)), (5, .inl (.inl (v5 + (-1)))), (6, .inl (.inl (v6 + 1)))]) (fun L hL => lo_cons (lo_lk hL rfl) (lo_cons (lo_lk hL rfl) (lo_cons (lo_lk hL rfl) (lo_cons (lo_lk hL rfl) (lo_cons (lo_lk hL rfl) (lo_cons (lo_lk hL rfl) (lo_cons (lo_lk hL rfl) lo_nil))))))) ?_
                  exact IH hN (v5 + (-1)) (v6 + 1) (wi M 207 (ni ((v5 + (-1)) - 1)) ((M.1 207 (ni ((v5 + (-1)) - 1))) + (M.1 207 (ni (v5 + (-1)))))) h
              · replace h := h.1 h12
                refine pM_ic rfl ki_1 ?_
                refine pM_go rfl rfl ?_
                refine pM_is rfl rfl ?_
                refine pM_aln rfl rfl rfl ?_
                refine pM_gr rfl rfl rfl rfl ?_
                refine pM_il rfl rfl ?_
                refine pM_ic rfl ki_1 ?_
                refine pM_sub rfl ?_
                refine pM_il rfl rfl ?_
                refine pM_bi rfl kb_6 ?_
                refine pM_cne rfl rfl (fun h13 => ?_) (fun h13 => ?_)
                · replace h := h.2 h13
                  refine pM_il rfl rfl ?_
                  refine pM_zeq rfl rfl (fun h14 => ?_) (fun h14 => ?_)
                  · exact absurd h14 (by decide)
                  · refine pM_ic rfl ki_1 ?_
                    refine pM_go rfl rfl ?_
                    refine pM_sa rfl rfl (one_p _) ?_
                    refine pM_ii rfl rfl rfl ki_1 ?_
                    refine pM_go rfl rfl ?_
                    refine pM_w (F2 := [(0, .inr (.inl (some 190))), (1, .inl (.inl p1)), (2, .inl (.inl p2)), (3, .inl (.inl p3)), (4, .inl (.inl p4)), (5, .inl (.inl (v5 + (-1)))), (6, .inl (.inl (v6 + 1)))]) (fun L hL => lo_cons (lo_lk hL rfl) (lo_cons (lo_lk hL rfl) (lo_cons (lo_lk hL rfl) (lo_cons (lo_lk hL rfl) (lo_cons (lo_lk hL rfl) (lo_cons (lo_lk hL rfl) (lo_cons (lo_lk hL rfl) lo_nil))))))) ?_
                    exact IH hN (v5 + (-1)) (v6 + 1) (wi M 207 (ni ((v5 + (-1)) - 1)) 1) h
                · replace h := h.1 h13
                  refine pM_il rfl rfl ?_
                  refine pM_il rfl rfl ?_
                  refine pM_add rfl ?_
                  refine pM_go rfl rfl ?_
                  refine pM_sa rfl rfl (one_p _) ?_
                  refine pM_ii rfl rfl rfl ki_1 ?_
                  refine pM_go rfl rfl ?_
                  refine pM_w (F2 := [(0, .inr (.inl (some 190))), (1, .inl (.inl p1)), (2, .inl (.inl p2)), (3, .inl (.inl p3)), (4, .inl (.inl p4)), (5, .inl (.inl (v5 + (-1)))), (6, .inl (.inl (v6 + 1)))]) (fun L hL => lo_cons (lo_lk hL rfl) (lo_cons (lo_lk hL rfl) (lo_cons (lo_lk hL rfl) (lo_cons (lo_lk hL rfl) (lo_cons (lo_lk hL rfl) (lo_cons (lo_lk hL rfl) (lo_cons (lo_lk hL rfl) lo_nil))))))) ?_
                  exact IH hN (v5 + (-1)) (v6 + 1) (wi M 207 (ni ((v5 + (-1)) - 1)) ((M.1 207 (ni ((v5 + (-1)) - 1))) + (M.1 207 (ni (v5 + (-1)))))) h
          · replace h := h.1 h5
            refine pM_il rfl rfl ?_
            refine pM_il rfl rfl ?_
            refine pM_cge rfl rfl (fun h6 => ?_) (fun h6 => ?_)
            · replace h := h.2 h6
              refine pM_ic rfl ki_0 ?_
              refine pM_go rfl rfl ?_
              refine pM_is rfl rfl ?_
              refine pM_aln rfl rfl rfl ?_
              refine pM_gr rfl rfl rfl rfl ?_
              refine pM_il rfl rfl ?_
              refine pM_ic rfl ki_1 ?_
              refine pM_sub rfl ?_
              refine pM_il rfl rfl ?_
              refine pM_bi rfl kb_6 ?_
              refine pM_cne rfl rfl (fun h9 => ?_) (fun h9 => ?_)
              · replace h := h.2 h9
                refine pM_il rfl rfl ?_
                refine pM_zeq rfl rfl (fun h10 => ?_) (fun h10 => ?_)
                · refine pM_ic rfl ki_0 ?_
                  refine pM_sa rfl rfl (one_p _) ?_
                  refine pM_ii rfl rfl rfl ki_1 ?_
                  refine pM_go rfl rfl ?_
                  refine pM_w (F2 := [(0, .inr (.inl (some 190))), (1, .inl (.inl p1)), (2, .inl (.inl p2)), (3, .inl (.inl p3)), (4, .inl (.inl p4)), (5, .inl (.inl (v5 + (-1)))), (6, .inl (.inl (v6 + 1)))]) (fun L hL => lo_cons (lo_lk hL rfl) (lo_cons (lo_lk hL rfl) (lo_cons (lo_lk hL rfl) (lo_cons (lo_lk hL rfl) (lo_cons (lo_lk hL rfl) (lo_cons (lo_lk hL rfl) (lo_cons (lo_lk hL rfl) lo_nil))))))) ?_
                  exact IH hN (v5 + (-1)) (v6 + 1) (wi M 207 (ni ((v5 + (-1)) - 1)) 0) h
                · exact absurd (by decide) h10
              · replace h := h.1 h9
                refine pM_il rfl rfl ?_
                refine pM_il rfl rfl ?_
                refine pM_add rfl ?_
                refine pM_go rfl rfl ?_
                refine pM_sa rfl rfl (one_p _) ?_
                refine pM_ii rfl rfl rfl ki_1 ?_
                refine pM_go rfl rfl ?_
                refine pM_w (F2 := [(0, .inr (.inl (some 190))), (1, .inl (.inl p1)), (2, .inl (.inl p2)), (3, .inl (.inl p3)), (4, .inl (.inl p4)), (5, .inl (.inl (v5 + (-1)))), (6, .inl (.inl (v6 + 1)))]) (fun L hL => lo_cons (lo_lk hL rfl) (lo_cons (lo_lk hL rfl) (lo_cons (lo_lk hL rfl) (lo_cons (lo_lk hL rfl) (lo_cons (lo_lk hL rfl) (lo_cons (lo_lk hL rfl) (lo_cons (lo_lk hL rfl) lo_nil))))))) ?_
                exact IH hN (v5 + (-1)) (v6 + 1) (wi M 207 (ni ((v5 + (-1)) - 1)) ((M.1 207 (ni ((v5 + (-1)) - 1))) + (M.1 207 (ni (v5 + (-1)))))) h
            · replace h := h.1 h6
              refine pM_ic rfl ki_1 ?_
              refine pM_go rfl rfl ?_
              refine pM_is rfl rfl ?_
              refine pM_aln rfl rfl rfl ?_
              refine pM_gr rfl rfl rfl rfl ?_
              refine pM_il rfl rfl ?_
              refine pM_ic rfl ki_1 ?_
              refine pM_sub rfl ?_
              refine pM_il rfl rfl ?_
              refine pM_bi rfl kb_6 ?_
              refine pM_cne rfl rfl (fun h7 => ?_) (fun h7 => ?_)
              · replace h := h.2 h7
                refine pM_il rfl rfl ?_
                refine pM_zeq rfl rfl (fun h8 => ?_) (fun h8 => ?_)
                · exact absurd h8 (by decide)
                · refine pM_ic rfl ki_1 ?_
                  refine pM_go rfl rfl ?_
                  refine pM_sa rfl rfl (one_p _) ?_
                  refine pM_ii rfl rfl rfl ki_1 ?_
                  refine pM_go rfl rfl ?_
                  refine pM_w (F2 := [(0, .inr (.inl (some 190))), (1, .inl (.inl p1)), (2, .inl (.inl p2)), (3, .inl (.inl p3)), (4, .inl (.inl p4)), (5, .inl (.inl (v5 + (-1)))), (6, .inl (.inl (v6 + 1)))]) (fun L hL => lo_cons (lo_lk hL rfl) (lo_cons (lo_lk hL rfl) (lo_cons (lo_lk hL rfl) (lo_cons (lo_lk hL rfl) (lo_cons (lo_lk hL rfl) (lo_cons (lo_lk hL rfl) (lo_cons (lo_lk hL rfl) lo_nil))))))) ?_
                  exact IH hN (v5 + (-1)) (v6 + 1) (wi M 207 (ni ((v5 + (-1)) - 1)) 1) h
              · replace h := h.1 h7
                refine pM_il rfl rfl ?_
                refine pM_il rfl rfl ?_
                refine pM_add rfl ?_
                refine pM_go rfl rfl ?_
                refine pM_sa rfl rfl (one_p _) ?_
                refine pM_ii rfl rfl rfl ki_1 ?_
                refine pM_go rfl rfl ?_
                refine pM_w (F2 := [(0, .inr (.inl (some 190))), (1, .inl (.inl p1)), (2, .inl (.inl p2)), (3, .inl (.inl p3)), (4, .inl (.inl p4)), (5, .inl (.inl (v5 + (-1)))), (6, .inl (.inl (v6 + 1)))]) (fun L hL => lo_cons (lo_lk hL rfl) (lo_cons (lo_lk hL rfl) (lo_cons (lo_lk hL rfl) (lo_cons (lo_lk hL rfl) (lo_cons (lo_lk hL rfl) (lo_cons (lo_lk hL rfl) (lo_cons (lo_lk hL rfl) lo_nil))))))) ?_
                exact IH hN (v5 + (-1)) (v6 + 1) (wi M 207 (ni ((v5 + (-1)) - 1)) ((M.1 207 (ni ((v5 + (-1)) - 1))) + (M.1 207 (ni (v5 + (-1)))))) h
        · replace h := h.1 h4
          refine pM_aln rfl rfl rfl ?_
          refine pM_gr rfl rfl rfl rfl ?_
          refine pM_il rfl rfl ?_
          refine pM_ic rfl ki_1 ?_
          refine pM_sub rfl ?_
          refine pM_ic rfl ki_1 ?_
          refine pM_aln rfl rfl rfl ?_
          refine pM_gr rfl rfl rfl rfl ?_
          refine pM_il rfl rfl ?_
          refine pM_ic rfl ki_1 ?_
          refine pM_sub rfl ?_
          refine pM_ai rfl rfl (one_p _) ?_
          refine pM_sub rfl ?_
          refine pM_sa rfl rfl (one_p _) ?_
          refine pM_go rfl rfl ?_
          refine pM_ii rfl rfl rfl ki_1 ?_
          refine pM_go rfl rfl ?_
          refine pM_w (F2 := [(0, .inr (.inl (some 190))), (1, .inl (.inl p1)), (2, .inl (.inl p2)), (3, .inl (.inl p3)), (4, .inl (.inl p4)), (5, .inl (.inl v5)), (6, .inl (.inl (v6 + 1)))]) (fun L hL => lo_cons (lo_lk hL rfl) (lo_cons (lo_lk hL rfl) (lo_cons (lo_lk hL rfl) (lo_cons (lo_lk hL rfl) (lo_cons (lo_lk hL rfl) (lo_cons (lo_lk hL rfl) (lo_cons (lo_lk hL rfl) lo_nil))))))) ?_
          exact IH hN v5 (v6 + 1) (wi M 207 (ni (v5 - 1)) (1 - (M.1 207 (ni (v5 - 1))))) h
      · replace h := h.2 h3
        refine pM_aln rfl rfl rfl ?_
        refine pM_gr rfl rfl rfl rfl ?_
        refine pM_il rfl rfl ?_
        refine pM_aln rfl rfl rfl ?_
        refine pM_il rfl rfl ?_
        refine pM_aln rfl rfl rfl ?_
        refine pM_gr rfl rfl rfl rfl ?_
        refine pM_ic rfl ki_2 ?_
        refine pM_il rfl rfl ?_
        refine pM_mul rfl ?_
        refine pM_ic rfl ki_1 ?_
        refine pM_add rfl ?_
        refine pM_ai rfl rfl (one_p _) ?_
        refine pM_iln rfl rfl ?_
        refine pM_bi rfl kb_8 ?_
        refine pM_rem rfl ?_
        refine pM_iln rfl rfl ?_
        refine pM_il rfl rfl ?_
        refine pM_qVi (as := [.inr (.inl (some 190)), .inl (.inl (M.1 202 (ni (2 * v6)))), .inl (.inl (M.1 202 (ni ((2 * v6) + 1)))), .inl (.inl (rm p2 8)), .inl (.inl p3), .inl (.inl p4)]) (T := [.inl (.inl v5), .inr (.inl (some 207))]) rfl rfl (fun C hC => cl_v hC rfl rfl rfl rfl) rfl (q_m_factOf ) ?_
        refine pM_sa rfl rfl (one_p _) ?_
        refine pM_ii rfl rfl rfl ki_1 ?_
        refine pM_go rfl rfl ?_
        refine pM_ii rfl rfl rfl ki_1 ?_
        refine pM_go rfl rfl ?_
        refine pM_w (F2 := [(0, .inr (.inl (some 190))), (1, .inl (.inl p1)), (2, .inl (.inl p2)), (3, .inl (.inl p3)), (4, .inl (.inl p4)), (5, .inl (.inl (v5 + 1))), (6, .inl (.inl (v6 + 1)))]) (fun L hL => lo_cons (lo_lk hL rfl) (lo_cons (lo_lk hL rfl) (lo_cons (lo_lk hL rfl) (lo_cons (lo_lk hL rfl) (lo_cons (lo_lk hL rfl) (lo_cons (lo_lk hL rfl) (lo_cons (lo_lk hL rfl) lo_nil))))))) ?_
        exact IH hN (v5 + 1) (v6 + 1) (wi M 207 (ni v5) (V_m_factOf (M.1 202 (ni (2 * v6))) (M.1 202 (ni ((2 * v6) + 1))) (rm p2 8) p3 p4 M)) h
/-- 246: EarCodeModel.isOf(IIII)Z -/
def W_m_isOf (p1 : Int32) (p2 : Int32) (p3 : Int32) (p4 : Int32) (N : Nat) (M : MM) (Q : Int32 → MM → Prop) : Prop :=
  (((V_m_deedOf p1 M) = (p2 / 8) →
    W_m_isOf_29 p1 p2 p3 p4 Q N 0 (M.1 201 (ni ((4 * p1) + 2))) M) ∧
   (¬ (V_m_deedOf p1 M) = (p2 / 8) →
    Q 0 M))
theorem q_m_isOf {X : Option (List AI)} {N : Nat} {M : MM} {p1 : Int32} {p2 : Int32} {p3 : Int32} {p4 : Int32} {Q : Int32 → MM → Prop}  (h : W_m_isOf p1 p2 p3 p4 N M Q) : pM X N 246 0 (ea_ar 0 [.inr (.inl (some 190)), .inl (.inl p1), .inl (.inl p2), .inl (.inl p3), .inl (.inl p4)]) [] M (Ri Q) := by
  refine pM_w (F2 := [(0, .inr (.inl (some 190))), (1, .inl (.inl p1)), (2, .inl (.inl p2)), (3, .inl (.inl p3)), (4, .inl (.inl p4))]) (fun L hL => lo_cons (lo_lk hL rfl) (lo_cons (lo_lk hL rfl) (lo_cons (lo_lk hL rfl) (lo_cons (lo_lk hL rfl) (lo_cons (lo_lk hL rfl) lo_nil))))) ?_
  refine pM_aln rfl rfl rfl ?_
  refine pM_iln rfl rfl ?_
  refine pM_qVi (as := [.inr (.inl (some 190)), .inl (.inl p1)]) (T := []) rfl rfl (fun C hC => cl_v hC rfl rfl rfl rfl) rfl (q_m_deedOf ) ?_
  refine pM_iln rfl rfl ?_
  refine pM_bi rfl kb_8 ?_
  refine pM_div rfl ?_
  refine pM_ceq rfl rfl (fun h1 => ?_) (fun h1 => ?_)
  · replace h := h.1 h1
    refine pM_ic rfl ki_0 ?_
    refine pM_is rfl rfl ?_
    refine pM_aln rfl rfl rfl ?_
    refine pM_gr rfl rfl rfl rfl ?_
    refine pM_ic rfl ki_4 ?_
    refine pM_iln rfl rfl ?_
    refine pM_mul rfl ?_
    refine pM_ic rfl ki_2 ?_
    refine pM_add rfl ?_
    refine pM_ai rfl rfl (one_p _) ?_
    refine pM_is rfl rfl ?_
    refine pM_w (F2 := [(0, .inr (.inl (some 190))), (1, .inl (.inl p1)), (2, .inl (.inl p2)), (3, .inl (.inl p3)), (4, .inl (.inl p4)), (5, .inl (.inl 0)), (6, .inl (.inl (M.1 201 (ni ((4 * p1) + 2)))))]) (fun L hL => lo_cons (lo_lk hL rfl) (lo_cons (lo_lk hL rfl) (lo_cons (lo_lk hL rfl) (lo_cons (lo_lk hL rfl) (lo_cons (lo_lk hL rfl) (lo_cons (lo_lk hL rfl) (lo_cons (lo_lk hL rfl) lo_nil))))))) ?_
    refine q_m_isOf_29   N (Nat.le_refl N) 0 (M.1 201 (ni ((4 * p1) + 2))) M h
  · replace h := h.2 h1
    refine pM_ic rfl ki_0 ?_
    exact pM_ri rfl (⟨_, rfl, h⟩)
def B_m_inForce_4 (M : MM) (Q : Int32 → Prop) (N : Nat) (ih : Int32 → Int32 → Prop) (v1 : Int32) (v2 : Int32) : Prop :=
  ((v2 < (V_m_citizens  M) →
    (((V_m_isAlive v2 M) = 0 →
      ih (v1 ||| 0) (v2 + 1)) ∧
     (¬ (V_m_isAlive v2 M) = 0 →
      ih (v1 ||| (V_m_of v2 1 M)) (v2 + 1)))) ∧
   (¬ v2 < (V_m_citizens  M) →
    Q v1))
def W_m_inForce_4 (M : MM) (Q : Int32 → Prop) : Nat → Int32 → Int32 → Prop
  | 0, _, _ => True
  | N + 1, v1, v2 => B_m_inForce_4 M Q N (W_m_inForce_4 M Q N) v1 v2
theorem I_m_inForce_4 (M : MM) (Q : Int32 → Prop) (inv : Int32 → Int32 → Prop) (hs : ∀ (N : Nat) (ih : Int32 → Int32 → Prop) (v1 : Int32) (v2 : Int32), (∀ (v1 : Int32) (v2 : Int32), inv v1 v2 → ih v1 v2) → inv v1 v2 → B_m_inForce_4 M Q N ih v1 v2) : ∀ (N : Nat) (v1 : Int32) (v2 : Int32), inv v1 v2 → W_m_inForce_4 M Q N v1 v2 := by
  intro N
  induction N with
  | zero => intros; trivial
  | succ N IH =>
    intro v1 v2 h
    exact hs N _ v1 v2 IH h
theorem q_m_inForce_4 {X : Option (List AI)} {N0 : Nat} {M : MM} {Q : Int32 → Prop}   : ∀ (N : Nat), N ≤ N0 → ∀ (v1 : Int32) (v2 : Int32), W_m_inForce_4 M Q N v1 v2 → pM X N 247 4 [(0, .inr (.inl (some 190))), (1, .inl (.inl v1)), (2, .inl (.inl v2))] [] M (Pi Q M) := by
  intro N
  induction N with
  | zero => intros; exact pM_zero
  | succ N IH =>
    intro hN v1 v2 h
    replace hN := Nat.le_of_succ_le hN
    replace h : B_m_inForce_4 M Q N (W_m_inForce_4 M Q N) v1 v2 := h
    refine pM_s (pMs_iln rfl rfl ?_)
    refine pM_aln rfl rfl rfl ?_
    refine pM_qVi (as := [.inr (.inl (some 190))]) (T := [.inl (.inl v2)]) rfl rfl (fun C hC => cl_v hC rfl rfl rfl rfl) rfl (q_m_citizens ) ?_
    refine pM_cge rfl rfl (fun h1 => ?_) (fun h1 => ?_)
    · replace h := h.2 h1
      refine pM_iln rfl rfl ?_
      exact pM_ri rfl (⟨_, rfl, rfl, h⟩)
    · replace h := h.1 h1
      refine pM_iln rfl rfl ?_
      refine pM_aln rfl rfl rfl ?_
      refine pM_iln rfl rfl ?_
      refine pM_qVi (as := [.inr (.inl (some 190)), .inl (.inl v2)]) (T := [.inl (.inl v1)]) rfl rfl (fun C hC => cl_v hC rfl rfl rfl rfl) rfl (q_m_isAlive ) ?_
      refine pM_zeq rfl rfl (fun h2 => ?_) (fun h2 => ?_)
      · replace h := h.1 h2
        refine pM_ic rfl ki_0 ?_
        refine pM_or rfl ?_
        refine pM_isn rfl rfl ?_
        refine pM_ii rfl rfl rfl ki_1 ?_
        refine pM_go rfl rfl ?_
        refine pM_w (F2 := [(0, .inr (.inl (some 190))), (1, .inl (.inl (v1 ||| 0))), (2, .inl (.inl (v2 + 1)))]) (fun L hL => lo_cons (lo_lk hL rfl) (lo_cons (lo_lk hL rfl) (lo_cons (lo_lk hL rfl) lo_nil))) ?_
        exact IH hN (v1 ||| 0) (v2 + 1) h
      · replace h := h.2 h2
        refine pM_aln rfl rfl rfl ?_
        refine pM_iln rfl rfl ?_
        refine pM_ic rfl ki_1 ?_
        refine pM_qVi (as := [.inr (.inl (some 190)), .inl (.inl v2), .inl (.inl 1)]) (T := [.inl (.inl v1)]) rfl rfl (fun C hC => cl_v hC rfl rfl rfl rfl) rfl (q_m_of ) ?_
        refine pM_go rfl rfl ?_
        refine pM_or rfl ?_
        refine pM_isn rfl rfl ?_
        refine pM_ii rfl rfl rfl ki_1 ?_
        refine pM_go rfl rfl ?_
        refine pM_w (F2 := [(0, .inr (.inl (some 190))), (1, .inl (.inl (v1 ||| (V_m_of v2 1 M)))), (2, .inl (.inl (v2 + 1)))]) (fun L hL => lo_cons (lo_lk hL rfl) (lo_cons (lo_lk hL rfl) (lo_cons (lo_lk hL rfl) lo_nil))) ?_
        exact IH hN (v1 ||| (V_m_of v2 1 M)) (v2 + 1) h
/-- 247: EarCodeModel.inForce()I -/
def W_m_inForce  (N : Nat) (M : MM) (Q : Int32 → Prop) : Prop :=
  W_m_inForce_4 M Q N 0 0
theorem q_m_inForce {X : Option (List AI)} {N : Nat} {M : MM}  {Q : Int32 → Prop}  (h : W_m_inForce  N M Q) : pM X N 247 0 (ea_ar 0 [.inr (.inl (some 190))]) [] M (Pi Q M) := by
  refine pM_w (F2 := [(0, .inr (.inl (some 190)))]) (fun L hL => lo_cons (lo_lk hL rfl) lo_nil) ?_
  refine pM_ic rfl ki_0 ?_
  refine pM_isn rfl rfl ?_
  refine pM_ic rfl ki_0 ?_
  refine pM_isn rfl rfl ?_
  refine pM_w (F2 := [(0, .inr (.inl (some 190))), (1, .inl (.inl 0)), (2, .inl (.inl 0))]) (fun L hL => lo_cons (lo_lk hL rfl) (lo_cons (lo_lk hL rfl) (lo_cons (lo_lk hL rfl) lo_nil))) ?_
  refine q_m_inForce_4   N (Nat.le_refl N) 0 0 h
def B_m_saying_6 (p1 : Int32) (p2 : Int32) (p3 : Int32) (p4 : Int32) (p5 : Int32) (Q : Int32 → MM → Prop) (N : Nat) (ih : Int32 → Int32 → MM → Prop) (v6 : Int32) (v7 : Int32) (M : MM) : Prop :=
  ((v7 < (V_m_clauses  M) →
    (((V_m_has p1 v7 M) = 0 →
      ih (v6 ||| 0) (v7 + 1) M) ∧
     (¬ (V_m_has p1 v7 M) = 0 →
      (((V_m_demands v7 M) = p2 →
        W_m_isOf v7 p3 p4 p5 N M (fun r4 M5 =>
          ((r4 = 0 →
            ih (v6 ||| 0) (v7 + 1) M5) ∧
           (¬ r4 = 0 →
            ih (v6 ||| (sl 1 v7)) (v7 + 1) M5)))) ∧
       (¬ (V_m_demands v7 M) = p2 →
        ih (v6 ||| 0) (v7 + 1) M))))) ∧
   (¬ v7 < (V_m_clauses  M) →
    Q v6 M))
def W_m_saying_6 (p1 : Int32) (p2 : Int32) (p3 : Int32) (p4 : Int32) (p5 : Int32) (Q : Int32 → MM → Prop) : Nat → Int32 → Int32 → MM → Prop
  | 0, _, _, _ => True
  | N + 1, v6, v7, M => B_m_saying_6 p1 p2 p3 p4 p5 Q N (W_m_saying_6 p1 p2 p3 p4 p5 Q N) v6 v7 M
theorem I_m_saying_6 (p1 : Int32) (p2 : Int32) (p3 : Int32) (p4 : Int32) (p5 : Int32) (Q : Int32 → MM → Prop) (inv : Int32 → Int32 → MM → Prop) (hs : ∀ (N : Nat) (ih : Int32 → Int32 → MM → Prop) (v6 : Int32) (v7 : Int32) (M : MM), (∀ (v6 : Int32) (v7 : Int32) (M : MM), inv v6 v7 M → ih v6 v7 M) → inv v6 v7 M → B_m_saying_6 p1 p2 p3 p4 p5 Q N ih v6 v7 M) : ∀ (N : Nat) (v6 : Int32) (v7 : Int32) (M : MM), inv v6 v7 M → W_m_saying_6 p1 p2 p3 p4 p5 Q N v6 v7 M := by
  intro N
  induction N with
  | zero => intros; trivial
  | succ N IH =>
    intro v6 v7 M h
    exact hs N _ v6 v7 M IH h
theorem q_m_saying_6 {X : Option (List AI)} {N0 : Nat} {p1 : Int32} {p2 : Int32} {p3 : Int32} {p4 : Int32} {p5 : Int32} {Q : Int32 → MM → Prop}   : ∀ (N : Nat), N ≤ N0 → ∀ (v6 : Int32) (v7 : Int32) (M : MM), W_m_saying_6 p1 p2 p3 p4 p5 Q N v6 v7 M → pM X N 248 6 [(0, .inr (.inl (some 190))), (1, .inl (.inl p1)), (2, .inl (.inl p2)), (3, .inl (.inl p3)), (4, .inl (.inl p4)), (5, .inl (.inl p5)), (6, .inl (.inl v6)), (7, .inl (.inl v7))] [] M (Ri Q) := by
  intro N
  induction N with
  | zero => intros; exact pM_zero
  | succ N IH =>
    intro hN v6 v7 M h
    replace hN := Nat.le_of_succ_le hN
    replace h : B_m_saying_6 p1 p2 p3 p4 p5 Q N (W_m_saying_6 p1 p2 p3 p4 p5 Q N) v6 v7 M := h
    refine pM_s (pMs_il rfl rfl ?_)
    refine pM_aln rfl rfl rfl ?_
    refine pM_qVi (as := [.inr (.inl (some 190))]) (T := [.inl (.inl v7)]) rfl rfl (fun C hC => cl_v hC rfl rfl rfl rfl) rfl (q_m_clauses ) ?_
    refine pM_cge rfl rfl (fun h1 => ?_) (fun h1 => ?_)
    · replace h := h.2 h1
      refine pM_il rfl rfl ?_
      exact pM_ri rfl (⟨_, rfl, h⟩)
    · replace h := h.1 h1
      refine pM_il rfl rfl ?_
      refine pM_iln rfl rfl ?_
      refine pM_il rfl rfl ?_
      refine pM_qVi (as := [.inl (.inl p1), .inl (.inl v7)]) (T := [.inl (.inl v6)]) rfl rfl (fun _ _ => rfl) rfl (q_m_has ) ?_
      refine pM_zeq rfl rfl (fun h2 => ?_) (fun h2 => ?_)
      · replace h := h.1 h2
        refine pM_ic rfl ki_0 ?_
        refine pM_or rfl ?_
        refine pM_is rfl rfl ?_
        refine pM_ii rfl rfl rfl ki_1 ?_
        refine pM_go rfl rfl ?_
        refine pM_w (F2 := [(0, .inr (.inl (some 190))), (1, .inl (.inl p1)), (2, .inl (.inl p2)), (3, .inl (.inl p3)), (4, .inl (.inl p4)), (5, .inl (.inl p5)), (6, .inl (.inl (v6 ||| 0))), (7, .inl (.inl (v7 + 1)))]) (fun L hL => lo_cons (lo_lk hL rfl) (lo_cons (lo_lk hL rfl) (lo_cons (lo_lk hL rfl) (lo_cons (lo_lk hL rfl) (lo_cons (lo_lk hL rfl) (lo_cons (lo_lk hL rfl) (lo_cons (lo_lk hL rfl) (lo_cons (lo_lk hL rfl) lo_nil)))))))) ?_
        exact IH hN (v6 ||| 0) (v7 + 1) M h
      · replace h := h.2 h2
        refine pM_aln rfl rfl rfl ?_
        refine pM_il rfl rfl ?_
        refine pM_qVi (as := [.inr (.inl (some 190)), .inl (.inl v7)]) (T := [.inl (.inl v6)]) rfl rfl (fun C hC => cl_v hC rfl rfl rfl rfl) rfl (q_m_demands ) ?_
        refine pM_iln rfl rfl ?_
        refine pM_cne rfl rfl (fun h3 => ?_) (fun h3 => ?_)
        · replace h := h.2 h3
          refine pM_ic rfl ki_0 ?_
          refine pM_or rfl ?_
          refine pM_is rfl rfl ?_
          refine pM_ii rfl rfl rfl ki_1 ?_
          refine pM_go rfl rfl ?_
          refine pM_w (F2 := [(0, .inr (.inl (some 190))), (1, .inl (.inl p1)), (2, .inl (.inl p2)), (3, .inl (.inl p3)), (4, .inl (.inl p4)), (5, .inl (.inl p5)), (6, .inl (.inl (v6 ||| 0))), (7, .inl (.inl (v7 + 1)))]) (fun L hL => lo_cons (lo_lk hL rfl) (lo_cons (lo_lk hL rfl) (lo_cons (lo_lk hL rfl) (lo_cons (lo_lk hL rfl) (lo_cons (lo_lk hL rfl) (lo_cons (lo_lk hL rfl) (lo_cons (lo_lk hL rfl) (lo_cons (lo_lk hL rfl) lo_nil)))))))) ?_
          exact IH hN (v6 ||| 0) (v7 + 1) M h
        · replace h := h.1 h3
          refine pM_aln rfl rfl rfl ?_
          refine pM_il rfl rfl ?_
          refine pM_iln rfl rfl ?_
          refine pM_il rfl rfl ?_
          refine pM_il rfl rfl ?_
          refine pM_qRi (as := [.inr (.inl (some 190)), .inl (.inl v7), .inl (.inl p3), .inl (.inl p4), .inl (.inl p5)]) (T := [.inl (.inl v6)]) rfl rfl (fun C hC => cl_v hC rfl rfl rfl rfl) rfl (q_m_isOf  h) (fun r4 M5 h => ?_)
          refine pM_zeq rfl rfl (fun h6 => ?_) (fun h6 => ?_)
          · replace h := h.1 h6
            refine pM_ic rfl ki_0 ?_
            refine pM_or rfl ?_
            refine pM_is rfl rfl ?_
            refine pM_ii rfl rfl rfl ki_1 ?_
            refine pM_go rfl rfl ?_
            refine pM_w (F2 := [(0, .inr (.inl (some 190))), (1, .inl (.inl p1)), (2, .inl (.inl p2)), (3, .inl (.inl p3)), (4, .inl (.inl p4)), (5, .inl (.inl p5)), (6, .inl (.inl (v6 ||| 0))), (7, .inl (.inl (v7 + 1)))]) (fun L hL => lo_cons (lo_lk hL rfl) (lo_cons (lo_lk hL rfl) (lo_cons (lo_lk hL rfl) (lo_cons (lo_lk hL rfl) (lo_cons (lo_lk hL rfl) (lo_cons (lo_lk hL rfl) (lo_cons (lo_lk hL rfl) (lo_cons (lo_lk hL rfl) lo_nil)))))))) ?_
            exact IH hN (v6 ||| 0) (v7 + 1) M5 h
          · replace h := h.2 h6
            refine pM_ic rfl ki_1 ?_
            refine pM_il rfl rfl ?_
            refine pM_shl rfl ?_
            refine pM_go rfl rfl ?_
            refine pM_or rfl ?_
            refine pM_is rfl rfl ?_
            refine pM_ii rfl rfl rfl ki_1 ?_
            refine pM_go rfl rfl ?_
            refine pM_w (F2 := [(0, .inr (.inl (some 190))), (1, .inl (.inl p1)), (2, .inl (.inl p2)), (3, .inl (.inl p3)), (4, .inl (.inl p4)), (5, .inl (.inl p5)), (6, .inl (.inl (v6 ||| (sl 1 v7)))), (7, .inl (.inl (v7 + 1)))]) (fun L hL => lo_cons (lo_lk hL rfl) (lo_cons (lo_lk hL rfl) (lo_cons (lo_lk hL rfl) (lo_cons (lo_lk hL rfl) (lo_cons (lo_lk hL rfl) (lo_cons (lo_lk hL rfl) (lo_cons (lo_lk hL rfl) (lo_cons (lo_lk hL rfl) lo_nil)))))))) ?_
            exact IH hN (v6 ||| (sl 1 v7)) (v7 + 1) M5 h
/-- 248: EarCodeModel.saying(IZIII)I -/
def W_m_saying (p1 : Int32) (p2 : Int32) (p3 : Int32) (p4 : Int32) (p5 : Int32) (N : Nat) (M : MM) (Q : Int32 → MM → Prop) : Prop :=
  W_m_saying_6 p1 p2 p3 p4 p5 Q N 0 0 M
theorem q_m_saying {X : Option (List AI)} {N : Nat} {M : MM} {p1 : Int32} {p2 : Int32} {p3 : Int32} {p4 : Int32} {p5 : Int32} {Q : Int32 → MM → Prop}  (h : W_m_saying p1 p2 p3 p4 p5 N M Q) : pM X N 248 0 (ea_ar 0 [.inr (.inl (some 190)), .inl (.inl p1), .inl (.inl p2), .inl (.inl p3), .inl (.inl p4), .inl (.inl p5)]) [] M (Ri Q) := by
  refine pM_w (F2 := [(0, .inr (.inl (some 190))), (1, .inl (.inl p1)), (2, .inl (.inl p2)), (3, .inl (.inl p3)), (4, .inl (.inl p4)), (5, .inl (.inl p5))]) (fun L hL => lo_cons (lo_lk hL rfl) (lo_cons (lo_lk hL rfl) (lo_cons (lo_lk hL rfl) (lo_cons (lo_lk hL rfl) (lo_cons (lo_lk hL rfl) (lo_cons (lo_lk hL rfl) lo_nil)))))) ?_
  refine pM_ic rfl ki_0 ?_
  refine pM_is rfl rfl ?_
  refine pM_ic rfl ki_0 ?_
  refine pM_is rfl rfl ?_
  refine pM_w (F2 := [(0, .inr (.inl (some 190))), (1, .inl (.inl p1)), (2, .inl (.inl p2)), (3, .inl (.inl p3)), (4, .inl (.inl p4)), (5, .inl (.inl p5)), (6, .inl (.inl 0)), (7, .inl (.inl 0))]) (fun L hL => lo_cons (lo_lk hL rfl) (lo_cons (lo_lk hL rfl) (lo_cons (lo_lk hL rfl) (lo_cons (lo_lk hL rfl) (lo_cons (lo_lk hL rfl) (lo_cons (lo_lk hL rfl) (lo_cons (lo_lk hL rfl) (lo_cons (lo_lk hL rfl) lo_nil)))))))) ?_
  refine q_m_saying_6   N (Nat.le_refl N) 0 0 M h
/-- 249: EarCodeModel.forbidding(IIII)I -/
def W_m_forbidding (p1 : Int32) (p2 : Int32) (p3 : Int32) (p4 : Int32) (N : Nat) (M : MM) (Q : Int32 → MM → Prop) : Prop :=
  W_m_saying p1 0 p2 p3 p4 N M (fun r1 M2 =>
    Q r1 M2)
theorem q_m_forbidding {X : Option (List AI)} {N : Nat} {M : MM} {p1 : Int32} {p2 : Int32} {p3 : Int32} {p4 : Int32} {Q : Int32 → MM → Prop}  (h : W_m_forbidding p1 p2 p3 p4 N M Q) : pM X N 249 0 (ea_ar 0 [.inr (.inl (some 190)), .inl (.inl p1), .inl (.inl p2), .inl (.inl p3), .inl (.inl p4)]) [] M (Ri Q) := by
  refine pM_w (F2 := [(0, .inr (.inl (some 190))), (1, .inl (.inl p1)), (2, .inl (.inl p2)), (3, .inl (.inl p3)), (4, .inl (.inl p4))]) (fun L hL => lo_cons (lo_lk hL rfl) (lo_cons (lo_lk hL rfl) (lo_cons (lo_lk hL rfl) (lo_cons (lo_lk hL rfl) (lo_cons (lo_lk hL rfl) lo_nil))))) ?_
  refine pM_aln rfl rfl rfl ?_
  refine pM_iln rfl rfl ?_
  refine pM_ic rfl ki_0 ?_
  refine pM_iln rfl rfl ?_
  refine pM_iln rfl rfl ?_
  refine pM_il rfl rfl ?_
  refine pM_qRi (as := [.inr (.inl (some 190)), .inl (.inl p1), .inl (.inl 0), .inl (.inl p2), .inl (.inl p3), .inl (.inl p4)]) (T := []) rfl rfl (fun C hC => cl_v hC rfl rfl rfl rfl) rfl (q_m_saying  h) (fun r1 M2 h => ?_)
  exact pM_ri rfl (⟨_, rfl, h⟩)
/-- 250: EarCodeModel.forbidsNow(III)I -/
def W_m_forbidsNow (p1 : Int32) (p2 : Int32) (p3 : Int32) (N : Nat) (M : MM) (Q : Int32 → MM → Prop) : Prop :=
  W_m_forbidding p1 p2 p3 (M.1 191 (ni 2)) N M (fun r1 M2 =>
    Q r1 M2)
theorem q_m_forbidsNow {X : Option (List AI)} {N : Nat} {M : MM} {p1 : Int32} {p2 : Int32} {p3 : Int32} {Q : Int32 → MM → Prop}  (h : W_m_forbidsNow p1 p2 p3 N M Q) : pM X N 250 0 (ea_ar 0 [.inr (.inl (some 190)), .inl (.inl p1), .inl (.inl p2), .inl (.inl p3)]) [] M (Ri Q) := by
  refine pM_w (F2 := [(0, .inr (.inl (some 190))), (1, .inl (.inl p1)), (2, .inl (.inl p2)), (3, .inl (.inl p3))]) (fun L hL => lo_cons (lo_lk hL rfl) (lo_cons (lo_lk hL rfl) (lo_cons (lo_lk hL rfl) (lo_cons (lo_lk hL rfl) lo_nil)))) ?_
  refine pM_aln rfl rfl rfl ?_
  refine pM_iln rfl rfl ?_
  refine pM_iln rfl rfl ?_
  refine pM_iln rfl rfl ?_
  refine pM_aln rfl rfl rfl ?_
  refine pM_gr rfl rfl rfl rfl ?_
  refine pM_ic rfl ki_2 ?_
  refine pM_ai rfl rfl row_p ?_
  refine pM_qRi (as := [.inr (.inl (some 190)), .inl (.inl p1), .inl (.inl p2), .inl (.inl p3), .inl (.inl (M.1 191 (ni 2)))]) (T := []) rfl rfl (fun C hC => cl_v hC rfl rfl rfl rfl) rfl (q_m_forbidding  h) (fun r1 M2 h => ?_)
  exact pM_ri rfl (⟨_, rfl, h⟩)
def B_m_knowers_4 (p1 : Int32) (M : MM) (Q : Int32 → Prop) (N : Nat) (ih : Int32 → Int32 → Prop) (v2 : Int32) (v3 : Int32) : Prop :=
  ((v3 < (V_m_citizens  M) →
    (((V_m_isAlive v3 M) = 0 →
      ih (v2 ||| 0) (v3 + 1)) ∧
     (¬ (V_m_isAlive v3 M) = 0 →
      (((V_m_knows v3 p1 M) = 0 →
        ih (v2 ||| 0) (v3 + 1)) ∧
       (¬ (V_m_knows v3 p1 M) = 0 →
        ih (v2 ||| (sl 1 v3)) (v3 + 1)))))) ∧
   (¬ v3 < (V_m_citizens  M) →
    Q v2))
def W_m_knowers_4 (p1 : Int32) (M : MM) (Q : Int32 → Prop) : Nat → Int32 → Int32 → Prop
  | 0, _, _ => True
  | N + 1, v2, v3 => B_m_knowers_4 p1 M Q N (W_m_knowers_4 p1 M Q N) v2 v3
theorem I_m_knowers_4 (p1 : Int32) (M : MM) (Q : Int32 → Prop) (inv : Int32 → Int32 → Prop) (hs : ∀ (N : Nat) (ih : Int32 → Int32 → Prop) (v2 : Int32) (v3 : Int32), (∀ (v2 : Int32) (v3 : Int32), inv v2 v3 → ih v2 v3) → inv v2 v3 → B_m_knowers_4 p1 M Q N ih v2 v3) : ∀ (N : Nat) (v2 : Int32) (v3 : Int32), inv v2 v3 → W_m_knowers_4 p1 M Q N v2 v3 := by
  intro N
  induction N with
  | zero => intros; trivial
  | succ N IH =>
    intro v2 v3 h
    exact hs N _ v2 v3 IH h
theorem q_m_knowers_4 {X : Option (List AI)} {N0 : Nat} {p1 : Int32} {M : MM} {Q : Int32 → Prop}   : ∀ (N : Nat), N ≤ N0 → ∀ (v2 : Int32) (v3 : Int32), W_m_knowers_4 p1 M Q N v2 v3 → pM X N 251 4 [(0, .inr (.inl (some 190))), (1, .inl (.inl p1)), (2, .inl (.inl v2)), (3, .inl (.inl v3))] [] M (Pi Q M) := by
  intro N
  induction N with
  | zero => intros; exact pM_zero
  | succ N IH =>
    intro hN v2 v3 h
    replace hN := Nat.le_of_succ_le hN
    replace h : B_m_knowers_4 p1 M Q N (W_m_knowers_4 p1 M Q N) v2 v3 := h
    refine pM_s (pMs_iln rfl rfl ?_)
    refine pM_aln rfl rfl rfl ?_
    refine pM_qVi (as := [.inr (.inl (some 190))]) (T := [.inl (.inl v3)]) rfl rfl (fun C hC => cl_v hC rfl rfl rfl rfl) rfl (q_m_citizens ) ?_
    refine pM_cge rfl rfl (fun h1 => ?_) (fun h1 => ?_)
    · replace h := h.2 h1
      refine pM_iln rfl rfl ?_
      exact pM_ri rfl (⟨_, rfl, rfl, h⟩)
    · replace h := h.1 h1
      refine pM_iln rfl rfl ?_
      refine pM_aln rfl rfl rfl ?_
      refine pM_iln rfl rfl ?_
      refine pM_qVi (as := [.inr (.inl (some 190)), .inl (.inl v3)]) (T := [.inl (.inl v2)]) rfl rfl (fun C hC => cl_v hC rfl rfl rfl rfl) rfl (q_m_isAlive ) ?_
      refine pM_zeq rfl rfl (fun h2 => ?_) (fun h2 => ?_)
      · replace h := h.1 h2
        refine pM_ic rfl ki_0 ?_
        refine pM_or rfl ?_
        refine pM_isn rfl rfl ?_
        refine pM_ii rfl rfl rfl ki_1 ?_
        refine pM_go rfl rfl ?_
        refine pM_w (F2 := [(0, .inr (.inl (some 190))), (1, .inl (.inl p1)), (2, .inl (.inl (v2 ||| 0))), (3, .inl (.inl (v3 + 1)))]) (fun L hL => lo_cons (lo_lk hL rfl) (lo_cons (lo_lk hL rfl) (lo_cons (lo_lk hL rfl) (lo_cons (lo_lk hL rfl) lo_nil)))) ?_
        exact IH hN (v2 ||| 0) (v3 + 1) h
      · replace h := h.2 h2
        refine pM_aln rfl rfl rfl ?_
        refine pM_iln rfl rfl ?_
        refine pM_iln rfl rfl ?_
        refine pM_qVi (as := [.inr (.inl (some 190)), .inl (.inl v3), .inl (.inl p1)]) (T := [.inl (.inl v2)]) rfl rfl (fun C hC => cl_v hC rfl rfl rfl rfl) rfl (q_m_knows ) ?_
        refine pM_zeq rfl rfl (fun h3 => ?_) (fun h3 => ?_)
        · replace h := h.1 h3
          refine pM_ic rfl ki_0 ?_
          refine pM_or rfl ?_
          refine pM_isn rfl rfl ?_
          refine pM_ii rfl rfl rfl ki_1 ?_
          refine pM_go rfl rfl ?_
          refine pM_w (F2 := [(0, .inr (.inl (some 190))), (1, .inl (.inl p1)), (2, .inl (.inl (v2 ||| 0))), (3, .inl (.inl (v3 + 1)))]) (fun L hL => lo_cons (lo_lk hL rfl) (lo_cons (lo_lk hL rfl) (lo_cons (lo_lk hL rfl) (lo_cons (lo_lk hL rfl) lo_nil)))) ?_
          exact IH hN (v2 ||| 0) (v3 + 1) h
        · replace h := h.2 h3
          refine pM_ic rfl ki_1 ?_
          refine pM_iln rfl rfl ?_
          refine pM_shl rfl ?_
          refine pM_go rfl rfl ?_
          refine pM_or rfl ?_
          refine pM_isn rfl rfl ?_
          refine pM_ii rfl rfl rfl ki_1 ?_
          refine pM_go rfl rfl ?_
          refine pM_w (F2 := [(0, .inr (.inl (some 190))), (1, .inl (.inl p1)), (2, .inl (.inl (v2 ||| (sl 1 v3)))), (3, .inl (.inl (v3 + 1)))]) (fun L hL => lo_cons (lo_lk hL rfl) (lo_cons (lo_lk hL rfl) (lo_cons (lo_lk hL rfl) (lo_cons (lo_lk hL rfl) lo_nil)))) ?_
          exact IH hN (v2 ||| (sl 1 v3)) (v3 + 1) h
/-- 251: EarCodeModel.knowers(I)I -/
def W_m_knowers (p1 : Int32) (N : Nat) (M : MM) (Q : Int32 → Prop) : Prop :=
  W_m_knowers_4 p1 M Q N 0 0
theorem q_m_knowers {X : Option (List AI)} {N : Nat} {M : MM} {p1 : Int32} {Q : Int32 → Prop}  (h : W_m_knowers p1 N M Q) : pM X N 251 0 (ea_ar 0 [.inr (.inl (some 190)), .inl (.inl p1)]) [] M (Pi Q M) := by
  refine pM_w (F2 := [(0, .inr (.inl (some 190))), (1, .inl (.inl p1))]) (fun L hL => lo_cons (lo_lk hL rfl) (lo_cons (lo_lk hL rfl) lo_nil)) ?_
  refine pM_ic rfl ki_0 ?_
  refine pM_isn rfl rfl ?_
  refine pM_ic rfl ki_0 ?_
  refine pM_isn rfl rfl ?_
  refine pM_w (F2 := [(0, .inr (.inl (some 190))), (1, .inl (.inl p1)), (2, .inl (.inl 0)), (3, .inl (.inl 0))]) (fun L hL => lo_cons (lo_lk hL rfl) (lo_cons (lo_lk hL rfl) (lo_cons (lo_lk hL rfl) (lo_cons (lo_lk hL rfl) lo_nil)))) ?_
  refine q_m_knowers_4   N (Nat.le_refl N) 0 0 h
def B_m_alive_4 (M : MM) (Q : Int32 → Prop) (N : Nat) (ih : Int32 → Int32 → Prop) (v1 : Int32) (v2 : Int32) : Prop :=
  ((v2 < (V_m_citizens  M) →
    (((V_m_isAlive v2 M) = 0 →
      ih (v1 ||| 0) (v2 + 1)) ∧
     (¬ (V_m_isAlive v2 M) = 0 →
      ih (v1 ||| (sl 1 v2)) (v2 + 1)))) ∧
   (¬ v2 < (V_m_citizens  M) →
    Q v1))
def W_m_alive_4 (M : MM) (Q : Int32 → Prop) : Nat → Int32 → Int32 → Prop
  | 0, _, _ => True
  | N + 1, v1, v2 => B_m_alive_4 M Q N (W_m_alive_4 M Q N) v1 v2
theorem I_m_alive_4 (M : MM) (Q : Int32 → Prop) (inv : Int32 → Int32 → Prop) (hs : ∀ (N : Nat) (ih : Int32 → Int32 → Prop) (v1 : Int32) (v2 : Int32), (∀ (v1 : Int32) (v2 : Int32), inv v1 v2 → ih v1 v2) → inv v1 v2 → B_m_alive_4 M Q N ih v1 v2) : ∀ (N : Nat) (v1 : Int32) (v2 : Int32), inv v1 v2 → W_m_alive_4 M Q N v1 v2 := by
  intro N
  induction N with
  | zero => intros; trivial
  | succ N IH =>
    intro v1 v2 h
    exact hs N _ v1 v2 IH h
theorem q_m_alive_4 {X : Option (List AI)} {N0 : Nat} {M : MM} {Q : Int32 → Prop}   : ∀ (N : Nat), N ≤ N0 → ∀ (v1 : Int32) (v2 : Int32), W_m_alive_4 M Q N v1 v2 → pM X N 252 4 [(0, .inr (.inl (some 190))), (1, .inl (.inl v1)), (2, .inl (.inl v2))] [] M (Pi Q M) := by
  intro N
  induction N with
  | zero => intros; exact pM_zero
  | succ N IH =>
    intro hN v1 v2 h
    replace hN := Nat.le_of_succ_le hN
    replace h : B_m_alive_4 M Q N (W_m_alive_4 M Q N) v1 v2 := h
    refine pM_s (pMs_iln rfl rfl ?_)
    refine pM_aln rfl rfl rfl ?_
    refine pM_qVi (as := [.inr (.inl (some 190))]) (T := [.inl (.inl v2)]) rfl rfl (fun C hC => cl_v hC rfl rfl rfl rfl) rfl (q_m_citizens ) ?_
    refine pM_cge rfl rfl (fun h1 => ?_) (fun h1 => ?_)
    · replace h := h.2 h1
      refine pM_iln rfl rfl ?_
      exact pM_ri rfl (⟨_, rfl, rfl, h⟩)
    · replace h := h.1 h1
      refine pM_iln rfl rfl ?_
      refine pM_aln rfl rfl rfl ?_
      refine pM_iln rfl rfl ?_
      refine pM_qVi (as := [.inr (.inl (some 190)), .inl (.inl v2)]) (T := [.inl (.inl v1)]) rfl rfl (fun C hC => cl_v hC rfl rfl rfl rfl) rfl (q_m_isAlive ) ?_
      refine pM_zeq rfl rfl (fun h2 => ?_) (fun h2 => ?_)
      · replace h := h.1 h2
        refine pM_ic rfl ki_0 ?_
        refine pM_or rfl ?_
        refine pM_isn rfl rfl ?_
        refine pM_ii rfl rfl rfl ki_1 ?_
        refine pM_go rfl rfl ?_
        refine pM_w (F2 := [(0, .inr (.inl (some 190))), (1, .inl (.inl (v1 ||| 0))), (2, .inl (.inl (v2 + 1)))]) (fun L hL => lo_cons (lo_lk hL rfl) (lo_cons (lo_lk hL rfl) (lo_cons (lo_lk hL rfl) lo_nil))) ?_
        exact IH hN (v1 ||| 0) (v2 + 1) h
      · replace h := h.2 h2
        refine pM_ic rfl ki_1 ?_
        refine pM_iln rfl rfl ?_
        refine pM_shl rfl ?_
        refine pM_go rfl rfl ?_
        refine pM_or rfl ?_
        refine pM_isn rfl rfl ?_
        refine pM_ii rfl rfl rfl ki_1 ?_
        refine pM_go rfl rfl ?_
        refine pM_w (F2 := [(0, .inr (.inl (some 190))), (1, .inl (.inl (v1 ||| (sl 1 v2)))), (2, .inl (.inl (v2 + 1)))]) (fun L hL => lo_cons (lo_lk hL rfl) (lo_cons (lo_lk hL rfl) (lo_cons (lo_lk hL rfl) lo_nil))) ?_
        exact IH hN (v1 ||| (sl 1 v2)) (v2 + 1) h
/-- 252: EarCodeModel.alive()I -/
def W_m_alive  (N : Nat) (M : MM) (Q : Int32 → Prop) : Prop :=
  W_m_alive_4 M Q N 0 0
theorem q_m_alive {X : Option (List AI)} {N : Nat} {M : MM}  {Q : Int32 → Prop}  (h : W_m_alive  N M Q) : pM X N 252 0 (ea_ar 0 [.inr (.inl (some 190))]) [] M (Pi Q M) := by
  refine pM_w (F2 := [(0, .inr (.inl (some 190)))]) (fun L hL => lo_cons (lo_lk hL rfl) lo_nil) ?_
  refine pM_ic rfl ki_0 ?_
  refine pM_isn rfl rfl ?_
  refine pM_ic rfl ki_0 ?_
  refine pM_isn rfl rfl ?_
  refine pM_w (F2 := [(0, .inr (.inl (some 190))), (1, .inl (.inl 0)), (2, .inl (.inl 0))]) (fun L hL => lo_cons (lo_lk hL rfl) (lo_cons (lo_lk hL rfl) (lo_cons (lo_lk hL rfl) lo_nil))) ?_
  refine q_m_alive_4   N (Nat.le_refl N) 0 0 h
def B_m_contradict_45 (p1 : Int32) (p2 : Int32) (u4 : Int32) (k128 : Int32 → MM → Prop) (Q : Int32 → MM → Prop) (N : Nat) (ih : Int32 → Int32 → MM → Prop) (v3 : Int32) (v5 : Int32) (M : MM) : Prop :=
  ((v5 < (V_m_citizens  M) →
    ((v3 = 0 →
      (((V_m_isAlive v5 M) = 0 →
        ih 0 (v5 + 1) M) ∧
       (¬ (V_m_isAlive v5 M) = 0 →
        W_m_isOf p1 ((8 * (V_m_deedOf p1 M)) + u4) v5 (M.1 191 (ni 2)) N M (fun r8 M9 =>
          ((r8 = 0 →
            ih 0 (v5 + 1) M9) ∧
           (¬ r8 = 0 →
            W_m_isOf p2 ((8 * (V_m_deedOf p1 M)) + u4) v5 (M9.1 191 (ni 2)) N M9 (fun r11 M12 =>
              ((r11 = 0 →
                ih 0 (v5 + 1) M12) ∧
               (¬ r11 = 0 →
                ih 1 (v5 + 1) M12))))))))) ∧
     (¬ v3 = 0 →
      ih 1 (v5 + 1) M))) ∧
   (¬ v5 < (V_m_citizens  M) →
    k128 v3 M))
def W_m_contradict_45 (p1 : Int32) (p2 : Int32) (u4 : Int32) (k128 : Int32 → MM → Prop) (Q : Int32 → MM → Prop) : Nat → Int32 → Int32 → MM → Prop
  | 0, _, _, _ => True
  | N + 1, v3, v5, M => B_m_contradict_45 p1 p2 u4 k128 Q N (W_m_contradict_45 p1 p2 u4 k128 Q N) v3 v5 M
theorem I_m_contradict_45 (p1 : Int32) (p2 : Int32) (u4 : Int32) (k128 : Int32 → MM → Prop) (Q : Int32 → MM → Prop) (inv : Int32 → Int32 → MM → Prop) (hs : ∀ (N : Nat) (ih : Int32 → Int32 → MM → Prop) (v3 : Int32) (v5 : Int32) (M : MM), (∀ (v3 : Int32) (v5 : Int32) (M : MM), inv v3 v5 M → ih v3 v5 M) → inv v3 v5 M → B_m_contradict_45 p1 p2 u4 k128 Q N ih v3 v5 M) : ∀ (N : Nat) (v3 : Int32) (v5 : Int32) (M : MM), inv v3 v5 M → W_m_contradict_45 p1 p2 u4 k128 Q N v3 v5 M := by
  intro N
  induction N with
  | zero => intros; trivial
  | succ N IH =>
    intro v3 v5 M h
    exact hs N _ v3 v5 M IH h
theorem q_m_contradict_45 {X : Option (List AI)} {N0 : Nat} {p1 : Int32} {p2 : Int32} {u4 : Int32} {k128 : Int32 → MM → Prop} {Q : Int32 → MM → Prop}  (hk128 : ∀ (v3 : Int32) (M : MM), k128 v3 M → pM X N0 253 128 [(0, .inr (.inl (some 190))), (1, .inl (.inl p1)), (2, .inl (.inl p2)), (3, .inl (.inl v3)), (4, .inl (.inl u4))] [] M (Ri Q)) : ∀ (N : Nat), N ≤ N0 → ∀ (v3 : Int32) (v5 : Int32) (M : MM), W_m_contradict_45 p1 p2 u4 k128 Q N v3 v5 M → pM X N 253 45 [(0, .inr (.inl (some 190))), (1, .inl (.inl p1)), (2, .inl (.inl p2)), (3, .inl (.inl v3)), (4, .inl (.inl u4)), (5, .inl (.inl v5))] [] M (Ri Q) := by
  intro N
  induction N with
  | zero => intros; exact pM_zero
  | succ N IH =>
    intro hN v3 v5 M h
    replace hN := Nat.le_of_succ_le hN
    replace h : B_m_contradict_45 p1 p2 u4 k128 Q N (W_m_contradict_45 p1 p2 u4 k128 Q N) v3 v5 M := h
    refine pM_s (pMs_il rfl rfl ?_)
    refine pM_aln rfl rfl rfl ?_
    refine pM_qVi (as := [.inr (.inl (some 190))]) (T := [.inl (.inl v5)]) rfl rfl (fun C hC => cl_v hC rfl rfl rfl rfl) rfl (q_m_citizens ) ?_
    refine pM_cge rfl rfl (fun h5 => ?_) (fun h5 => ?_)
    · replace h := h.2 h5
      refine pM_w (F2 := [(0, .inr (.inl (some 190))), (1, .inl (.inl p1)), (2, .inl (.inl p2)), (3, .inl (.inl v3)), (4, .inl (.inl u4))]) (fun L hL => lo_cons (lo_lk hL rfl) (lo_cons (lo_lk hL rfl) (lo_cons (lo_lk hL rfl) (lo_cons (lo_lk hL rfl) (lo_cons (lo_lk hL rfl) lo_nil))))) ?_
      exact pM_le hN (hk128 _ _ h)
    · replace h := h.1 h5
      refine pM_bi rfl kb_8 ?_
      refine pM_aln rfl rfl rfl ?_
      refine pM_iln rfl rfl ?_
      refine pM_qVi (as := [.inr (.inl (some 190)), .inl (.inl p1)]) (T := [.inl (.inl 8)]) rfl rfl (fun C hC => cl_v hC rfl rfl rfl rfl) rfl (q_m_deedOf ) ?_
      refine pM_mul rfl ?_
      refine pM_il rfl rfl ?_
      refine pM_add rfl ?_
      refine pM_is rfl rfl ?_
      refine pM_iln rfl rfl ?_
      refine pM_zne rfl rfl (fun h6 => ?_) (fun h6 => ?_)
      · replace h := h.2 h6
        refine pM_ic rfl ki_1 ?_
        refine pM_go rfl rfl ?_
        refine pM_isn rfl rfl ?_
        refine pM_ii rfl rfl rfl ki_1 ?_
        refine pM_go rfl rfl ?_
        refine pM_w (F2 := [(0, .inr (.inl (some 190))), (1, .inl (.inl p1)), (2, .inl (.inl p2)), (3, .inl (.inl 1)), (4, .inl (.inl u4)), (5, .inl (.inl (v5 + 1)))]) (fun L hL => lo_cons (lo_lk hL rfl) (lo_cons (lo_lk hL rfl) (lo_cons (lo_lk hL rfl) (lo_cons (lo_lk hL rfl) (lo_cons (lo_lk hL rfl) (lo_cons (lo_lk hL rfl) lo_nil)))))) ?_
        exact IH hN 1 (v5 + 1) M h
      · replace h := h.1 h6
        refine pM_aln rfl rfl rfl ?_
        refine pM_il rfl rfl ?_
        refine pM_qVi (as := [.inr (.inl (some 190)), .inl (.inl v5)]) (T := []) rfl rfl (fun C hC => cl_v hC rfl rfl rfl rfl) rfl (q_m_isAlive ) ?_
        refine pM_zeq rfl rfl (fun h7 => ?_) (fun h7 => ?_)
        · replace h := h.1 h7
          refine pM_ic rfl ki_0 ?_
          refine pM_isn rfl rfl ?_
          refine pM_ii rfl rfl rfl ki_1 ?_
          refine pM_go rfl rfl ?_
          refine pM_w (F2 := [(0, .inr (.inl (some 190))), (1, .inl (.inl p1)), (2, .inl (.inl p2)), (3, .inl (.inl 0)), (4, .inl (.inl u4)), (5, .inl (.inl (v5 + 1)))]) (fun L hL => lo_cons (lo_lk hL rfl) (lo_cons (lo_lk hL rfl) (lo_cons (lo_lk hL rfl) (lo_cons (lo_lk hL rfl) (lo_cons (lo_lk hL rfl) (lo_cons (lo_lk hL rfl) lo_nil)))))) ?_
          exact IH hN 0 (v5 + 1) M h
        · replace h := h.2 h7
          refine pM_aln rfl rfl rfl ?_
          refine pM_iln rfl rfl ?_
          refine pM_il rfl rfl ?_
          refine pM_il rfl rfl ?_
          refine pM_aln rfl rfl rfl ?_
          refine pM_gr rfl rfl rfl rfl ?_
          refine pM_ic rfl ki_2 ?_
          refine pM_ai rfl rfl row_p ?_
          refine pM_qRi (as := [.inr (.inl (some 190)), .inl (.inl p1), .inl (.inl ((8 * (V_m_deedOf p1 M)) + u4)), .inl (.inl v5), .inl (.inl (M.1 191 (ni 2)))]) (T := []) rfl rfl (fun C hC => cl_v hC rfl rfl rfl rfl) rfl (q_m_isOf  h) (fun r8 M9 h => ?_)
          refine pM_zeq rfl rfl (fun h10 => ?_) (fun h10 => ?_)
          · replace h := h.1 h10
            refine pM_ic rfl ki_0 ?_
            refine pM_isn rfl rfl ?_
            refine pM_ii rfl rfl rfl ki_1 ?_
            refine pM_go rfl rfl ?_
            refine pM_w (F2 := [(0, .inr (.inl (some 190))), (1, .inl (.inl p1)), (2, .inl (.inl p2)), (3, .inl (.inl 0)), (4, .inl (.inl u4)), (5, .inl (.inl (v5 + 1)))]) (fun L hL => lo_cons (lo_lk hL rfl) (lo_cons (lo_lk hL rfl) (lo_cons (lo_lk hL rfl) (lo_cons (lo_lk hL rfl) (lo_cons (lo_lk hL rfl) (lo_cons (lo_lk hL rfl) lo_nil)))))) ?_
            exact IH hN 0 (v5 + 1) M9 h
          · replace h := h.2 h10
            refine pM_aln rfl rfl rfl ?_
            refine pM_iln rfl rfl ?_
            refine pM_il rfl rfl ?_
            refine pM_il rfl rfl ?_
            refine pM_aln rfl rfl rfl ?_
            refine pM_gr rfl rfl rfl rfl ?_
            refine pM_ic rfl ki_2 ?_
            refine pM_ai rfl rfl row_p ?_
            refine pM_qRi (as := [.inr (.inl (some 190)), .inl (.inl p2), .inl (.inl ((8 * (V_m_deedOf p1 M)) + u4)), .inl (.inl v5), .inl (.inl (M9.1 191 (ni 2)))]) (T := []) rfl rfl (fun C hC => cl_v hC rfl rfl rfl rfl) rfl (q_m_isOf  h) (fun r11 M12 h => ?_)
            refine pM_zeq rfl rfl (fun h13 => ?_) (fun h13 => ?_)
            · replace h := h.1 h13
              refine pM_ic rfl ki_0 ?_
              refine pM_isn rfl rfl ?_
              refine pM_ii rfl rfl rfl ki_1 ?_
              refine pM_go rfl rfl ?_
              refine pM_w (F2 := [(0, .inr (.inl (some 190))), (1, .inl (.inl p1)), (2, .inl (.inl p2)), (3, .inl (.inl 0)), (4, .inl (.inl u4)), (5, .inl (.inl (v5 + 1)))]) (fun L hL => lo_cons (lo_lk hL rfl) (lo_cons (lo_lk hL rfl) (lo_cons (lo_lk hL rfl) (lo_cons (lo_lk hL rfl) (lo_cons (lo_lk hL rfl) (lo_cons (lo_lk hL rfl) lo_nil)))))) ?_
              exact IH hN 0 (v5 + 1) M12 h
            · replace h := h.2 h13
              refine pM_ic rfl ki_1 ?_
              refine pM_go rfl rfl ?_
              refine pM_isn rfl rfl ?_
              refine pM_ii rfl rfl rfl ki_1 ?_
              refine pM_go rfl rfl ?_
              refine pM_w (F2 := [(0, .inr (.inl (some 190))), (1, .inl (.inl p1)), (2, .inl (.inl p2)), (3, .inl (.inl 1)), (4, .inl (.inl u4)), (5, .inl (.inl (v5 + 1)))]) (fun L hL => lo_cons (lo_lk hL rfl) (lo_cons (lo_lk hL rfl) (lo_cons (lo_lk hL rfl) (lo_cons (lo_lk hL rfl) (lo_cons (lo_lk hL rfl) (lo_cons (lo_lk hL rfl) lo_nil)))))) ?_
              exact IH hN 1 (v5 + 1) M12 h
def B_m_contradict_5 (p1 : Int32) (p2 : Int32) (Q : Int32 → MM → Prop) (N : Nat) (ih : Int32 → Int32 → MM → Prop) (v3 : Int32) (v4 : Int32) (M : MM) : Prop :=
  ((v4 < 8 →
    ((v3 = 0 →
      (((V_m_demands p1 M) = (V_m_demands p2 M) →
        Q v3 M) ∧
       (¬ (V_m_demands p1 M) = (V_m_demands p2 M) →
        (((V_m_deedOf p1 M) = (V_m_deedOf p2 M) →
          W_m_contradict_45 p1 p2 v4 (fun x14 M15 =>
            ih x14 (v4 + 1) M15) Q N v3 0 M) ∧
         (¬ (V_m_deedOf p1 M) = (V_m_deedOf p2 M) →
          Q v3 M))))) ∧
     (¬ v3 = 0 →
      Q v3 M))) ∧
   (¬ v4 < 8 →
    Q v3 M))
def W_m_contradict_5 (p1 : Int32) (p2 : Int32) (Q : Int32 → MM → Prop) : Nat → Int32 → Int32 → MM → Prop
  | 0, _, _, _ => True
  | N + 1, v3, v4, M => B_m_contradict_5 p1 p2 Q N (W_m_contradict_5 p1 p2 Q N) v3 v4 M
theorem I_m_contradict_5 (p1 : Int32) (p2 : Int32) (Q : Int32 → MM → Prop) (inv : Int32 → Int32 → MM → Prop) (hs : ∀ (N : Nat) (ih : Int32 → Int32 → MM → Prop) (v3 : Int32) (v4 : Int32) (M : MM), (∀ (v3 : Int32) (v4 : Int32) (M : MM), inv v3 v4 M → ih v3 v4 M) → inv v3 v4 M → B_m_contradict_5 p1 p2 Q N ih v3 v4 M) : ∀ (N : Nat) (v3 : Int32) (v4 : Int32) (M : MM), inv v3 v4 M → W_m_contradict_5 p1 p2 Q N v3 v4 M := by
  intro N
  induction N with
  | zero => intros; trivial
  | succ N IH =>
    intro v3 v4 M h
    exact hs N _ v3 v4 M IH h
theorem q_m_contradict_5 {X : Option (List AI)} {N0 : Nat} {p1 : Int32} {p2 : Int32} {Q : Int32 → MM → Prop}   : ∀ (N : Nat), N ≤ N0 → ∀ (v3 : Int32) (v4 : Int32) (M : MM), W_m_contradict_5 p1 p2 Q N v3 v4 M → pM X N 253 5 [(0, .inr (.inl (some 190))), (1, .inl (.inl p1)), (2, .inl (.inl p2)), (3, .inl (.inl v3)), (4, .inl (.inl v4))] [] M (Ri Q) := by
  intro N
  induction N with
  | zero => intros; exact pM_zero
  | succ N IH =>
    intro hN v3 v4 M h
    replace hN := Nat.le_of_succ_le hN
    replace h : B_m_contradict_5 p1 p2 Q N (W_m_contradict_5 p1 p2 Q N) v3 v4 M := h
    refine pM_s (pMs_il rfl rfl ?_)
    refine pM_bi rfl kb_8 ?_
    refine pM_cge rfl rfl (fun h1 => ?_) (fun h1 => ?_)
    · replace h := h.2 h1
      refine pM_iln rfl rfl ?_
      exact pM_ri rfl (⟨_, rfl, h⟩)
    · replace h := h.1 h1
      refine pM_iln rfl rfl ?_
      refine pM_zne rfl rfl (fun h2 => ?_) (fun h2 => ?_)
      · replace h := h.2 h2
        refine pM_iln rfl rfl ?_
        exact pM_ri rfl (⟨_, rfl, h⟩)
      · replace h := h.1 h2
        refine pM_aln rfl rfl rfl ?_
        refine pM_iln rfl rfl ?_
        refine pM_qVi (as := [.inr (.inl (some 190)), .inl (.inl p1)]) (T := []) rfl rfl (fun C hC => cl_v hC rfl rfl rfl rfl) rfl (q_m_demands ) ?_
        refine pM_aln rfl rfl rfl ?_
        refine pM_iln rfl rfl ?_
        refine pM_qVi (as := [.inr (.inl (some 190)), .inl (.inl p2)]) (T := [.inl (.inl (V_m_demands p1 M))]) rfl rfl (fun C hC => cl_v hC rfl rfl rfl rfl) rfl (q_m_demands ) ?_
        refine pM_ceq rfl rfl (fun h3 => ?_) (fun h3 => ?_)
        · replace h := h.1 h3
          refine pM_iln rfl rfl ?_
          exact pM_ri rfl (⟨_, rfl, h⟩)
        · replace h := h.2 h3
          refine pM_aln rfl rfl rfl ?_
          refine pM_iln rfl rfl ?_
          refine pM_qVi (as := [.inr (.inl (some 190)), .inl (.inl p1)]) (T := []) rfl rfl (fun C hC => cl_v hC rfl rfl rfl rfl) rfl (q_m_deedOf ) ?_
          refine pM_aln rfl rfl rfl ?_
          refine pM_iln rfl rfl ?_
          refine pM_qVi (as := [.inr (.inl (some 190)), .inl (.inl p2)]) (T := [.inl (.inl (V_m_deedOf p1 M))]) rfl rfl (fun C hC => cl_v hC rfl rfl rfl rfl) rfl (q_m_deedOf ) ?_
          refine pM_cne rfl rfl (fun h4 => ?_) (fun h4 => ?_)
          · replace h := h.2 h4
            refine pM_iln rfl rfl ?_
            exact pM_ri rfl (⟨_, rfl, h⟩)
          · replace h := h.1 h4
            refine pM_ic rfl ki_0 ?_
            refine pM_is rfl rfl ?_
            refine pM_w (F2 := [(0, .inr (.inl (some 190))), (1, .inl (.inl p1)), (2, .inl (.inl p2)), (3, .inl (.inl v3)), (4, .inl (.inl v4)), (5, .inl (.inl 0))]) (fun L hL => lo_cons (lo_lk hL rfl) (lo_cons (lo_lk hL rfl) (lo_cons (lo_lk hL rfl) (lo_cons (lo_lk hL rfl) (lo_cons (lo_lk hL rfl) (lo_cons (lo_lk hL rfl) lo_nil)))))) ?_
            refine q_m_contradict_45  (fun x14 M15 h => ?_) N (Nat.le_refl N) v3 0 M h
            · refine pM_ii rfl rfl rfl ki_1 ?_
              refine pM_go rfl rfl ?_
              refine pM_w (F2 := [(0, .inr (.inl (some 190))), (1, .inl (.inl p1)), (2, .inl (.inl p2)), (3, .inl (.inl x14)), (4, .inl (.inl (v4 + 1)))]) (fun L hL => lo_cons (lo_lk hL rfl) (lo_cons (lo_lk hL rfl) (lo_cons (lo_lk hL rfl) (lo_cons (lo_lk hL rfl) (lo_cons (lo_lk hL rfl) lo_nil))))) ?_
              exact IH hN x14 (v4 + 1) M15 h
/-- 253: EarCodeModel.contradict(II)Z -/
def W_m_contradict (p1 : Int32) (p2 : Int32) (N : Nat) (M : MM) (Q : Int32 → MM → Prop) : Prop :=
  W_m_contradict_5 p1 p2 Q N 0 0 M
theorem q_m_contradict {X : Option (List AI)} {N : Nat} {M : MM} {p1 : Int32} {p2 : Int32} {Q : Int32 → MM → Prop}  (h : W_m_contradict p1 p2 N M Q) : pM X N 253 0 (ea_ar 0 [.inr (.inl (some 190)), .inl (.inl p1), .inl (.inl p2)]) [] M (Ri Q) := by
  refine pM_w (F2 := [(0, .inr (.inl (some 190))), (1, .inl (.inl p1)), (2, .inl (.inl p2))]) (fun L hL => lo_cons (lo_lk hL rfl) (lo_cons (lo_lk hL rfl) (lo_cons (lo_lk hL rfl) lo_nil))) ?_
  refine pM_ic rfl ki_0 ?_
  refine pM_isn rfl rfl ?_
  refine pM_ic rfl ki_0 ?_
  refine pM_is rfl rfl ?_
  refine pM_w (F2 := [(0, .inr (.inl (some 190))), (1, .inl (.inl p1)), (2, .inl (.inl p2)), (3, .inl (.inl 0)), (4, .inl (.inl 0))]) (fun L hL => lo_cons (lo_lk hL rfl) (lo_cons (lo_lk hL rfl) (lo_cons (lo_lk hL rfl) (lo_cons (lo_lk hL rfl) (lo_cons (lo_lk hL rfl) lo_nil))))) ?_
  refine q_m_contradict_5   N (Nat.le_refl N) 0 0 M h
def B_m_contradicting_4 (p1 : Int32) (Q : Int32 → MM → Prop) (N : Nat) (ih : Int32 → Int32 → MM → Prop) (v2 : Int32) (v3 : Int32) (M : MM) : Prop :=
  ((v3 < (V_m_clauses  M) →
    W_m_contradict p1 v3 N M (fun r2 M3 =>
      ((r2 = 0 →
        ih (v2 ||| 0) (v3 + 1) M3) ∧
       (¬ r2 = 0 →
        ih (v2 ||| (sl 1 v3)) (v3 + 1) M3)))) ∧
   (¬ v3 < (V_m_clauses  M) →
    Q v2 M))
def W_m_contradicting_4 (p1 : Int32) (Q : Int32 → MM → Prop) : Nat → Int32 → Int32 → MM → Prop
  | 0, _, _, _ => True
  | N + 1, v2, v3, M => B_m_contradicting_4 p1 Q N (W_m_contradicting_4 p1 Q N) v2 v3 M
theorem I_m_contradicting_4 (p1 : Int32) (Q : Int32 → MM → Prop) (inv : Int32 → Int32 → MM → Prop) (hs : ∀ (N : Nat) (ih : Int32 → Int32 → MM → Prop) (v2 : Int32) (v3 : Int32) (M : MM), (∀ (v2 : Int32) (v3 : Int32) (M : MM), inv v2 v3 M → ih v2 v3 M) → inv v2 v3 M → B_m_contradicting_4 p1 Q N ih v2 v3 M) : ∀ (N : Nat) (v2 : Int32) (v3 : Int32) (M : MM), inv v2 v3 M → W_m_contradicting_4 p1 Q N v2 v3 M := by
  intro N
  induction N with
  | zero => intros; trivial
  | succ N IH =>
    intro v2 v3 M h
    exact hs N _ v2 v3 M IH h
theorem q_m_contradicting_4 {X : Option (List AI)} {N0 : Nat} {p1 : Int32} {Q : Int32 → MM → Prop}   : ∀ (N : Nat), N ≤ N0 → ∀ (v2 : Int32) (v3 : Int32) (M : MM), W_m_contradicting_4 p1 Q N v2 v3 M → pM X N 254 4 [(0, .inr (.inl (some 190))), (1, .inl (.inl p1)), (2, .inl (.inl v2)), (3, .inl (.inl v3))] [] M (Ri Q) := by
  intro N
  induction N with
  | zero => intros; exact pM_zero
  | succ N IH =>
    intro hN v2 v3 M h
    replace hN := Nat.le_of_succ_le hN
    replace h : B_m_contradicting_4 p1 Q N (W_m_contradicting_4 p1 Q N) v2 v3 M := h
    refine pM_s (pMs_iln rfl rfl ?_)
    refine pM_aln rfl rfl rfl ?_
    refine pM_qVi (as := [.inr (.inl (some 190))]) (T := [.inl (.inl v3)]) rfl rfl (fun C hC => cl_v hC rfl rfl rfl rfl) rfl (q_m_clauses ) ?_
    refine pM_cge rfl rfl (fun h1 => ?_) (fun h1 => ?_)
    · replace h := h.2 h1
      refine pM_iln rfl rfl ?_
      exact pM_ri rfl (⟨_, rfl, h⟩)
    · replace h := h.1 h1
      refine pM_iln rfl rfl ?_
      refine pM_aln rfl rfl rfl ?_
      refine pM_iln rfl rfl ?_
      refine pM_iln rfl rfl ?_
      refine pM_qRi (as := [.inr (.inl (some 190)), .inl (.inl p1), .inl (.inl v3)]) (T := [.inl (.inl v2)]) rfl rfl (fun C hC => cl_v hC rfl rfl rfl rfl) rfl (q_m_contradict  h) (fun r2 M3 h => ?_)
      refine pM_zeq rfl rfl (fun h4 => ?_) (fun h4 => ?_)
      · replace h := h.1 h4
        refine pM_ic rfl ki_0 ?_
        refine pM_or rfl ?_
        refine pM_isn rfl rfl ?_
        refine pM_ii rfl rfl rfl ki_1 ?_
        refine pM_go rfl rfl ?_
        refine pM_w (F2 := [(0, .inr (.inl (some 190))), (1, .inl (.inl p1)), (2, .inl (.inl (v2 ||| 0))), (3, .inl (.inl (v3 + 1)))]) (fun L hL => lo_cons (lo_lk hL rfl) (lo_cons (lo_lk hL rfl) (lo_cons (lo_lk hL rfl) (lo_cons (lo_lk hL rfl) lo_nil)))) ?_
        exact IH hN (v2 ||| 0) (v3 + 1) M3 h
      · replace h := h.2 h4
        refine pM_ic rfl ki_1 ?_
        refine pM_iln rfl rfl ?_
        refine pM_shl rfl ?_
        refine pM_go rfl rfl ?_
        refine pM_or rfl ?_
        refine pM_isn rfl rfl ?_
        refine pM_ii rfl rfl rfl ki_1 ?_
        refine pM_go rfl rfl ?_
        refine pM_w (F2 := [(0, .inr (.inl (some 190))), (1, .inl (.inl p1)), (2, .inl (.inl (v2 ||| (sl 1 v3)))), (3, .inl (.inl (v3 + 1)))]) (fun L hL => lo_cons (lo_lk hL rfl) (lo_cons (lo_lk hL rfl) (lo_cons (lo_lk hL rfl) (lo_cons (lo_lk hL rfl) lo_nil)))) ?_
        exact IH hN (v2 ||| (sl 1 v3)) (v3 + 1) M3 h
/-- 254: EarCodeModel.contradicting(I)I -/
def W_m_contradicting (p1 : Int32) (N : Nat) (M : MM) (Q : Int32 → MM → Prop) : Prop :=
  W_m_contradicting_4 p1 Q N 0 0 M
theorem q_m_contradicting {X : Option (List AI)} {N : Nat} {M : MM} {p1 : Int32} {Q : Int32 → MM → Prop}  (h : W_m_contradicting p1 N M Q) : pM X N 254 0 (ea_ar 0 [.inr (.inl (some 190)), .inl (.inl p1)]) [] M (Ri Q) := by
  refine pM_w (F2 := [(0, .inr (.inl (some 190))), (1, .inl (.inl p1))]) (fun L hL => lo_cons (lo_lk hL rfl) (lo_cons (lo_lk hL rfl) lo_nil)) ?_
  refine pM_ic rfl ki_0 ?_
  refine pM_isn rfl rfl ?_
  refine pM_ic rfl ki_0 ?_
  refine pM_isn rfl rfl ?_
  refine pM_w (F2 := [(0, .inr (.inl (some 190))), (1, .inl (.inl p1)), (2, .inl (.inl 0)), (3, .inl (.inl 0))]) (fun L hL => lo_cons (lo_lk hL rfl) (lo_cons (lo_lk hL rfl) (lo_cons (lo_lk hL rfl) (lo_cons (lo_lk hL rfl) lo_nil)))) ?_
  refine q_m_contradicting_4   N (Nat.le_refl N) 0 0 M h
/-- 255: EarCodeModel.clause(II)I -/
def W_m_clause (p1 : Int32) (p2 : Int32) (N : Nat) (M : MM) (Q : Int32 → MM → Prop) : Prop :=
  W_m_throwsIf (V_m_noClause p1 (wi M 190 0 0)) 1 N (wi M 190 0 0) (fun r1 M2 =>
    ((r1 = 0 →
      (((V_m_in p2 0 4 M2) = 0 →
        W_m_throwsIf 1 2 N M2 (fun r5 M6 =>
          ((r5 = 0 →
            ((p2 = 0 →
              (((V_m_demands p1 M6) = 0 →
                Q 0 M6) ∧
               (¬ (V_m_demands p1 M6) = 0 →
                Q 1 M6))) ∧
             (p2 = 1 →
              Q (V_m_deedOf p1 M6) M6) ∧
             (p2 = 2 →
              W_m_inForce  N M6 (fun r12 =>
                Q ((sr r12 p1) &&& 1) M6)) ∧
             (p2 = 3 →
              W_m_knowers p1 N M6 (fun r14 =>
                Q r14 M6)) ∧
             (¬ p2 = 0 → ¬ p2 = 1 → ¬ p2 = 2 → ¬ p2 = 3 → W_m_contradicting p1 N M6 (fun r9 M10 =>
              Q r9 M10)))) ∧
           (¬ r5 = 0 →
            Q 0 M6)))) ∧
       (¬ (V_m_in p2 0 4 M2) = 0 →
        W_m_throwsIf 0 2 N M2 (fun r16 M17 =>
          ((r16 = 0 →
            ((p2 = 0 →
              (((V_m_demands p1 M17) = 0 →
                Q 0 M17) ∧
               (¬ (V_m_demands p1 M17) = 0 →
                Q 1 M17))) ∧
             (p2 = 1 →
              Q (V_m_deedOf p1 M17) M17) ∧
             (p2 = 2 →
              W_m_inForce  N M17 (fun r23 =>
                Q ((sr r23 p1) &&& 1) M17)) ∧
             (p2 = 3 →
              W_m_knowers p1 N M17 (fun r25 =>
                Q r25 M17)) ∧
             (¬ p2 = 0 → ¬ p2 = 1 → ¬ p2 = 2 → ¬ p2 = 3 → W_m_contradicting p1 N M17 (fun r20 M21 =>
              Q r20 M21)))) ∧
           (¬ r16 = 0 →
            Q 0 M17)))))) ∧
     (¬ r1 = 0 →
      Q 0 M2)))
theorem q_m_clause {X : Option (List AI)} {N : Nat} {M : MM} {p1 : Int32} {p2 : Int32} {Q : Int32 → MM → Prop}  (h : W_m_clause p1 p2 N M Q) : pM X N 255 0 (ea_ar 0 [.inr (.inl (some 190)), .inl (.inl p1), .inl (.inl p2)]) [] M (Ri Q) := by
  refine pM_w (F2 := [(0, .inr (.inl (some 190))), (1, .inl (.inl p1)), (2, .inl (.inl p2))]) (fun L hL => lo_cons (lo_lk hL rfl) (lo_cons (lo_lk hL rfl) (lo_cons (lo_lk hL rfl) lo_nil))) ?_
  refine pM_aln rfl rfl rfl ?_
  refine pM_ic rfl ki_0 ?_
  refine pM_pi rfl rfl rfl rfl ?_
  refine pM_aln rfl rfl rfl ?_
  refine pM_aln rfl rfl rfl ?_
  refine pM_iln rfl rfl ?_
  refine pM_qVi (as := [.inr (.inl (some 190)), .inl (.inl p1)]) (T := [.inr (.inl (some 190))]) rfl rfl (fun C hC => cl_v hC rfl rfl rfl rfl) rfl (q_m_noClause ) ?_
  refine pM_ic rfl ki_1 ?_
  refine pM_qRi (as := [.inr (.inl (some 190)), .inl (.inl (V_m_noClause p1 (wi M 190 0 0))), .inl (.inl 1)]) (T := []) rfl rfl (fun C hC => cl_v hC rfl rfl rfl rfl) rfl (q_m_throwsIf  h) (fun r1 M2 h => ?_)
  refine pM_zne rfl rfl (fun h3 => ?_) (fun h3 => ?_)
  · replace h := h.2 h3
    refine pM_ic rfl ki_0 ?_
    exact pM_ri rfl (⟨_, rfl, h⟩)
  · replace h := h.1 h3
    refine pM_aln rfl rfl rfl ?_
    refine pM_iln rfl rfl ?_
    refine pM_ic rfl ki_0 ?_
    refine pM_ic rfl ki_4 ?_
    refine pM_qVi (as := [.inl (.inl p2), .inl (.inl 0), .inl (.inl 4)]) (T := [.inr (.inl (some 190))]) rfl rfl (fun _ _ => rfl) rfl (q_m_in ) ?_
    refine pM_zne rfl rfl (fun h4 => ?_) (fun h4 => ?_)
    · replace h := h.2 h4
      refine pM_ic rfl ki_0 ?_
      refine pM_ic rfl ki_2 ?_
      refine pM_qRi (as := [.inr (.inl (some 190)), .inl (.inl 0), .inl (.inl 2)]) (T := []) rfl rfl (fun C hC => cl_v hC rfl rfl rfl rfl) rfl (q_m_throwsIf  h) (fun r16 M17 h => ?_)
      refine pM_zeq rfl rfl (fun h18 => ?_) (fun h18 => ?_)
      · replace h := h.1 h18
        refine pM_iln rfl rfl ?_
        refine pM_sw rfl rfl (fun h19 => ?_) (fun j o t h19 ho hto => ?_)
        · replace h := h.2.2.2.2 (sw_o h19 (by decide)) (sw_o h19 (by decide)) (sw_o h19 (by decide)) (sw_o h19 (by decide))
          refine pM_aln rfl rfl rfl ?_
          refine pM_iln rfl rfl ?_
          refine pM_qRi (as := [.inr (.inl (some 190)), .inl (.inl p1)]) (T := []) rfl rfl (fun C hC => cl_v hC rfl rfl rfl rfl) rfl (q_m_contradicting  h) (fun r20 M21 h => ?_)
          exact pM_ri rfl (⟨_, rfl, h⟩)
        · match j, h19, ho with
          | 0, h19, ho =>
            have e := Option.some.inj ho
            subst e
            have e := Option.some.inj hto
            subst e
            replace h := h.1 (sw_e h19 (by decide))
            refine pM_aln rfl rfl rfl ?_
            refine pM_iln rfl rfl ?_
            refine pM_qVi (as := [.inr (.inl (some 190)), .inl (.inl p1)]) (T := []) rfl rfl (fun C hC => cl_v hC rfl rfl rfl rfl) rfl (q_m_demands ) ?_
            refine pM_zeq rfl rfl (fun h22 => ?_) (fun h22 => ?_)
            · replace h := h.1 h22
              refine pM_ic rfl ki_0 ?_
              exact pM_ri rfl (⟨_, rfl, h⟩)
            · replace h := h.2 h22
              refine pM_ic rfl ki_1 ?_
              refine pM_go rfl rfl ?_
              exact pM_ri rfl (⟨_, rfl, h⟩)
          | 1, h19, ho =>
            have e := Option.some.inj ho
            subst e
            have e := Option.some.inj hto
            subst e
            replace h := h.2.1 (sw_e h19 (by decide))
            refine pM_aln rfl rfl rfl ?_
            refine pM_iln rfl rfl ?_
            refine pM_qVi (as := [.inr (.inl (some 190)), .inl (.inl p1)]) (T := []) rfl rfl (fun C hC => cl_v hC rfl rfl rfl rfl) rfl (q_m_deedOf ) ?_
            exact pM_ri rfl (⟨_, rfl, h⟩)
          | 2, h19, ho =>
            have e := Option.some.inj ho
            subst e
            have e := Option.some.inj hto
            subst e
            replace h := h.2.2.1 (sw_e h19 (by decide))
            refine pM_aln rfl rfl rfl ?_
            refine pM_qPi (as := [.inr (.inl (some 190))]) (T := []) rfl rfl (fun C hC => cl_v hC rfl rfl rfl rfl) rfl (q_m_inForce  h) (fun r23 h => ?_)
            refine pM_iln rfl rfl ?_
            refine pM_shr rfl ?_
            refine pM_ic rfl ki_1 ?_
            refine pM_and rfl ?_
            exact pM_ri rfl (⟨_, rfl, h⟩)
          | 3, h19, ho =>
            have e := Option.some.inj ho
            subst e
            have e := Option.some.inj hto
            subst e
            replace h := h.2.2.2.1 (sw_e h19 (by decide))
            refine pM_aln rfl rfl rfl ?_
            refine pM_iln rfl rfl ?_
            refine pM_qPi (as := [.inr (.inl (some 190)), .inl (.inl p1)]) (T := []) rfl rfl (fun C hC => cl_v hC rfl rfl rfl rfl) rfl (q_m_knowers  h) (fun r25 h => ?_)
            exact pM_ri rfl (⟨_, rfl, h⟩)
          | j + 4, _, ho => exact absurd ho (by simp)
      · replace h := h.2 h18
        refine pM_ic rfl ki_0 ?_
        exact pM_ri rfl (⟨_, rfl, h⟩)
    · replace h := h.1 h4
      refine pM_ic rfl ki_1 ?_
      refine pM_go rfl rfl ?_
      refine pM_ic rfl ki_2 ?_
      refine pM_qRi (as := [.inr (.inl (some 190)), .inl (.inl 1), .inl (.inl 2)]) (T := []) rfl rfl (fun C hC => cl_v hC rfl rfl rfl rfl) rfl (q_m_throwsIf  h) (fun r5 M6 h => ?_)
      refine pM_zeq rfl rfl (fun h7 => ?_) (fun h7 => ?_)
      · replace h := h.1 h7
        refine pM_iln rfl rfl ?_
        refine pM_sw rfl rfl (fun h8 => ?_) (fun j o t h8 ho hto => ?_)
        · replace h := h.2.2.2.2 (sw_o h8 (by decide)) (sw_o h8 (by decide)) (sw_o h8 (by decide)) (sw_o h8 (by decide))
          refine pM_aln rfl rfl rfl ?_
          refine pM_iln rfl rfl ?_
          refine pM_qRi (as := [.inr (.inl (some 190)), .inl (.inl p1)]) (T := []) rfl rfl (fun C hC => cl_v hC rfl rfl rfl rfl) rfl (q_m_contradicting  h) (fun r9 M10 h => ?_)
          exact pM_ri rfl (⟨_, rfl, h⟩)
        · match j, h8, ho with
          | 0, h8, ho =>
            have e := Option.some.inj ho
            subst e
            have e := Option.some.inj hto
            subst e
            replace h := h.1 (sw_e h8 (by decide))
            refine pM_aln rfl rfl rfl ?_
            refine pM_iln rfl rfl ?_
            refine pM_qVi (as := [.inr (.inl (some 190)), .inl (.inl p1)]) (T := []) rfl rfl (fun C hC => cl_v hC rfl rfl rfl rfl) rfl (q_m_demands ) ?_
            refine pM_zeq rfl rfl (fun h11 => ?_) (fun h11 => ?_)
            · replace h := h.1 h11
              refine pM_ic rfl ki_0 ?_
              exact pM_ri rfl (⟨_, rfl, h⟩)
            · replace h := h.2 h11
              refine pM_ic rfl ki_1 ?_
              refine pM_go rfl rfl ?_
              exact pM_ri rfl (⟨_, rfl, h⟩)
          | 1, h8, ho =>
            have e := Option.some.inj ho
            subst e
            have e := Option.some.inj hto
            subst e
            replace h := h.2.1 (sw_e h8 (by decide))
            refine pM_aln rfl rfl rfl ?_
            refine pM_iln rfl rfl ?_
            refine pM_qVi (as := [.inr (.inl (some 190)), .inl (.inl p1)]) (T := []) rfl rfl (fun C hC => cl_v hC rfl rfl rfl rfl) rfl (q_m_deedOf ) ?_
            exact pM_ri rfl (⟨_, rfl, h⟩)
          | 2, h8, ho =>
            have e := Option.some.inj ho
            subst e
            have e := Option.some.inj hto
            subst e
            replace h := h.2.2.1 (sw_e h8 (by decide))
            refine pM_aln rfl rfl rfl ?_
            refine pM_qPi (as := [.inr (.inl (some 190))]) (T := []) rfl rfl (fun C hC => cl_v hC rfl rfl rfl rfl) rfl (q_m_inForce  h) (fun r12 h => ?_)
            refine pM_iln rfl rfl ?_
            refine pM_shr rfl ?_
            refine pM_ic rfl ki_1 ?_
            refine pM_and rfl ?_
            exact pM_ri rfl (⟨_, rfl, h⟩)
          | 3, h8, ho =>
            have e := Option.some.inj ho
            subst e
            have e := Option.some.inj hto
            subst e
            replace h := h.2.2.2.1 (sw_e h8 (by decide))
            refine pM_aln rfl rfl rfl ?_
            refine pM_iln rfl rfl ?_
            refine pM_qPi (as := [.inr (.inl (some 190)), .inl (.inl p1)]) (T := []) rfl rfl (fun C hC => cl_v hC rfl rfl rfl rfl) rfl (q_m_knowers  h) (fun r14 h => ?_)
            exact pM_ri rfl (⟨_, rfl, h⟩)
          | j + 4, _, ho => exact absurd ho (by simp)
      · replace h := h.2 h7
        refine pM_ic rfl ki_0 ?_
        exact pM_ri rfl (⟨_, rfl, h⟩)
/-- 256: EarCodeModel.pooled(I)I -/
def V_m_pooled (p1 : Int32) (M : MM) : Int32 :=
  (if (V_m_of p1 4 M) < 0 then
    ((V_m_of p1 1 M) ||| 0)
  else
    ((V_m_of p1 1 M) ||| (V_m_of (V_m_of p1 4 M) 1 M)))
theorem q_m_pooled {X : Option (List AI)} {N : Nat} {M : MM} {p1 : Int32}  : pM X N 256 0 (ea_ar 0 [.inr (.inl (some 190)), .inl (.inl p1)]) [] M (Vi (V_m_pooled p1 M) M) := by
  refine pM_w (F2 := [(0, .inr (.inl (some 190))), (1, .inl (.inl p1))]) (fun L hL => lo_cons (lo_lk hL rfl) (lo_cons (lo_lk hL rfl) lo_nil)) ?_
  refine pM_aln rfl rfl rfl ?_
  refine pM_iln rfl rfl ?_
  refine pM_ic rfl ki_1 ?_
  refine pM_qVi (as := [.inr (.inl (some 190)), .inl (.inl p1), .inl (.inl 1)]) (T := []) rfl rfl (fun C hC => cl_v hC rfl rfl rfl rfl) rfl (q_m_of ) ?_
  refine pM_aln rfl rfl rfl ?_
  refine pM_iln rfl rfl ?_
  refine pM_ic rfl ki_4 ?_
  refine pM_qVi (as := [.inr (.inl (some 190)), .inl (.inl p1), .inl (.inl 4)]) (T := [.inl (.inl (V_m_of p1 1 M))]) rfl rfl (fun C hC => cl_v hC rfl rfl rfl rfl) rfl (q_m_of ) ?_
  refine pM_zge rfl rfl (fun h1 => ?_) (fun h1 => ?_)
  · refine pM_aln rfl rfl rfl ?_
    refine pM_aln rfl rfl rfl ?_
    refine pM_iln rfl rfl ?_
    refine pM_ic rfl ki_4 ?_
    refine pM_qVi (as := [.inr (.inl (some 190)), .inl (.inl p1), .inl (.inl 4)]) (T := [.inr (.inl (some 190)), .inl (.inl (V_m_of p1 1 M))]) rfl rfl (fun C hC => cl_v hC rfl rfl rfl rfl) rfl (q_m_of ) ?_
    refine pM_ic rfl ki_1 ?_
    refine pM_qVi (as := [.inr (.inl (some 190)), .inl (.inl (V_m_of p1 4 M)), .inl (.inl 1)]) (T := [.inl (.inl (V_m_of p1 1 M))]) rfl rfl (fun C hC => cl_v hC rfl rfl rfl rfl) rfl (q_m_of ) ?_
    refine pM_or rfl ?_
    exact pM_rVi rfl (Eq.trans (if_neg h1) rfl)
  · refine pM_ic rfl ki_0 ?_
    refine pM_go rfl rfl ?_
    refine pM_or rfl ?_
    exact pM_rVi rfl (Eq.trans (if_pos h1) rfl)
