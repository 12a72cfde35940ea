/-! WHAT EACH METHOD COMES TO (gw.py) -/
def B_Law_holds_25 (a : Nat) (p1 : Int32) (p2 : Int32) (p3 : Int32) (p4 : Int32) (p5 : Int32) (M : MM) (Q : Int32 → Prop) (N : Nat) (ih : Int32 → Int32 → Prop) (v7 : Int32) (v8 : Int32) : Prop :=
  ((v8 < (M.1 (a + 2) (ni p1)) →
    (((M.1 (a + 3) (ni v8)) = (-1) →
      (((rm p5 7) = 0 →
        ih ((sl v7 1) ||| 1) (v8 + 1)) ∧
       (¬ (rm p5 7) = 0 →
        ih ((sl v7 1) ||| 0) (v8 + 1)))) ∧
     (¬ (M.1 (a + 3) (ni v8)) = (-1) →
      (((M.1 (a + 3) (ni v8)) = (-2) →
        ih (v7 ^^^ 1) (v8 + 1)) ∧
       (¬ (M.1 (a + 3) (ni v8)) = (-2) →
        (((M.1 (a + 3) (ni v8)) = (-3) →
          ih ((sr v7 1) &&& ((v7 &&& 1) ||| (-2))) (v8 + 1)) ∧
         (¬ (M.1 (a + 3) (ni v8)) = (-3) →
          (((M.1 (a + 3) (ni v8)) = (-4) →
            ih ((sr v7 1) ||| (v7 &&& 1)) (v8 + 1)) ∧
           (¬ (M.1 (a + 3) (ni v8)) = (-4) →
            (((M.1 (a + 3) (ni v8)) < 0 →
              ih v7 (v8 + 1)) ∧
             (¬ (M.1 (a + 3) (ni v8)) < 0 →
              ((665 < ((M.1 (a + 3) (ni v8)) + 5) →
                ih v7 (v8 + 1)) ∧
               (¬ 665 < ((M.1 (a + 3) (ni v8)) + 5) →
                ((0 < (((((M.1 (a + 4) (ni (M.1 (a + 3) (ni v8)))) + ((M.1 (a + 4) (ni ((M.1 (a + 3) (ni v8)) + 1))) * p2)) + ((M.1 (a + 4) (ni ((M.1 (a + 3) (ni v8)) + 2))) * p5)) + ((M.1 (a + 4) (ni ((M.1 (a + 3) (ni v8)) + 3))) * p3)) + ((M.1 (a + 4) (ni ((M.1 (a + 3) (ni v8)) + 4))) * p4)) →
                  ih ((sl v7 1) ||| 1) (v8 + 1)) ∧
                 (¬ 0 < (((((M.1 (a + 4) (ni (M.1 (a + 3) (ni v8)))) + ((M.1 (a + 4) (ni ((M.1 (a + 3) (ni v8)) + 1))) * p2)) + ((M.1 (a + 4) (ni ((M.1 (a + 3) (ni v8)) + 2))) * p5)) + ((M.1 (a + 4) (ni ((M.1 (a + 3) (ni v8)) + 3))) * p3)) + ((M.1 (a + 4) (ni ((M.1 (a + 3) (ni v8)) + 4))) * p4)) →
                  ih ((sl v7 1) ||| 0) (v8 + 1)))))))))))))))) ∧
   (¬ v8 < (M.1 (a + 2) (ni p1)) →
    (((v7 &&& 1) = 1 →
      Q 1) ∧
     (¬ (v7 &&& 1) = 1 →
      Q 0))))
def W_Law_holds_25 (a : Nat) (p1 : Int32) (p2 : Int32) (p3 : Int32) (p4 : Int32) (p5 : Int32) (M : MM) (Q : Int32 → Prop) : Nat → Int32 → Int32 → Prop
  | 0, _, _ => True
  | N + 1, v7, v8 => B_Law_holds_25 a p1 p2 p3 p4 p5 M Q N (W_Law_holds_25 a p1 p2 p3 p4 p5 M Q N) v7 v8
theorem I_Law_holds_25 (a : Nat) (p1 : Int32) (p2 : Int32) (p3 : Int32) (p4 : Int32) (p5 : Int32) (M : MM) (Q : Int32 → Prop) (inv : Int32 → Int32 → Prop) (hs : ∀ (N : Nat) (ih : Int32 → Int32 → Prop) (v7 : Int32) (v8 : Int32), (∀ (v7 : Int32) (v8 : Int32), inv v7 v8 → ih v7 v8) → inv v7 v8 → B_Law_holds_25 a p1 p2 p3 p4 p5 M Q N ih v7 v8) : ∀ (N : Nat) (v7 : Int32) (v8 : Int32), inv v7 v8 → W_Law_holds_25 a p1 p2 p3 p4 p5 M Q N v7 v8 := by
  intro N
  induction N with
  | zero => intros; trivial
  | succ N IH =>
    intro v7 v8 h
    exact hs N _ v7 v8 IH h
theorem q_Law_holds_25 {X : Option (List AI)} {N0 : Nat} {a : Nat} {p1 : Int32} {p2 : Int32} {p3 : Int32} {p4 : Int32} {p5 : Int32} {M : MM} {Q : Int32 → Prop} (ha : isK a)  : ∀ (N : Nat), N ≤ N0 → ∀ (v7 : Int32) (v8 : Int32), W_Law_holds_25 a p1 p2 p3 p4 p5 M Q N v7 v8 → pM X N 37 25 [(0, .inr (.inl (some a))), (1, .inl (.inl p1)), (2, .inl (.inl p2)), (3, .inl (.inl p3)), (4, .inl (.inl p4)), (5, .inl (.inl p5)), (7, .inl (.inl v7)), (8, .inl (.inl v8))] [] M (Pi Q M) := by
  intro N
  induction N with
  | zero => intros; exact pM_zero
  | succ N IH =>
    intro hN v7 v8 h
    replace hN := Nat.le_of_succ_le hN
    replace h : B_Law_holds_25 a p1 p2 p3 p4 p5 M Q N (W_Law_holds_25 a p1 p2 p3 p4 p5 M Q N) v7 v8 := h
    refine pM_s (pMs_il rfl rfl ?_)
    refine pM_aln rfl rfl rfl ?_
    refine pM_gr rfl rfl ha.1 rfl ?_
    refine pM_iln rfl rfl ?_
    refine pM_ai rfl ha.2.2.1 (one_p _) ?_
    refine pM_cge rfl rfl (fun h2 => ?_) (fun h2 => ?_)
    · replace h := h.2 h2
      refine pM_il rfl rfl ?_
      refine pM_ic rfl ki_1 ?_
      refine pM_and rfl ?_
      refine pM_ic rfl ki_1 ?_
      refine pM_cne rfl rfl (fun h11 => ?_) (fun h11 => ?_)
      · replace h := h.2 h11
        refine pM_ic rfl ki_0 ?_
        exact pM_ri rfl (⟨_, rfl, rfl, h⟩)
      · replace h := h.1 h11
        refine pM_ic rfl ki_1 ?_
        refine pM_go rfl rfl ?_
        exact pM_ri rfl (⟨_, rfl, rfl, h⟩)
    · replace h := h.1 h2
      refine pM_aln rfl rfl rfl ?_
      refine pM_gr rfl rfl ha.1 rfl ?_
      refine pM_il rfl rfl ?_
      refine pM_ai rfl ha.2.2.2.1 (one_p _) ?_
      refine pM_is rfl rfl ?_
      refine pM_il rfl rfl ?_
      refine pM_ic rfl ki_1 ?_
      refine pM_and rfl ?_
      refine pM_is rfl rfl ?_
      refine pM_il rfl rfl ?_
      refine pM_ic rfl ki_m1 ?_
      refine pM_cne rfl rfl (fun h3 => ?_) (fun h3 => ?_)
      · replace h := h.2 h3
        refine pM_il rfl rfl ?_
        refine pM_bi rfl kb_m2 ?_
        refine pM_cne rfl rfl (fun h5 => ?_) (fun h5 => ?_)
        · replace h := h.2 h5
          refine pM_il rfl rfl ?_
          refine pM_bi rfl kb_m3 ?_
          refine pM_cne rfl rfl (fun h6 => ?_) (fun h6 => ?_)
          · replace h := h.2 h6
            refine pM_il rfl rfl ?_
            refine pM_bi rfl kb_m4 ?_
            refine pM_cne rfl rfl (fun h7 => ?_) (fun h7 => ?_)
            · replace h := h.2 h7
              refine pM_il rfl rfl ?_
              refine pM_zlt rfl rfl (fun h8 => ?_) (fun h8 => ?_)
              · replace h := h.1 h8
                refine pM_ii rfl rfl rfl ki_1 ?_
                refine pM_go rfl rfl ?_
                refine pM_w (F2 := [(0, .inr (.inl (some a))), (1, .inl (.inl p1)), (2, .inl (.inl p2)), (3, .inl (.inl p3)), (4, .inl (.inl p4)), (5, .inl (.inl p5)), (7, .inl (.inl v7)), (8, .inl (.inl (v8 + 1)))]) (fun L hL => lo_cons (lo_lk hL rfl) (lo_cons (lo_lk hL rfl) (lo_cons (lo_lk hL rfl) (lo_cons (lo_lk hL rfl) (lo_cons (lo_lk hL rfl) (lo_cons (lo_lk hL rfl) (lo_cons (lo_lk hL rfl) (lo_cons (lo_lk hL rfl) lo_nil)))))))) ?_
                exact IH hN v7 (v8 + 1) h
              · replace h := h.2 h8
                refine pM_il rfl rfl ?_
                refine pM_ic rfl ki_5 ?_
                refine pM_add rfl ?_
                refine pM_aln rfl rfl rfl ?_
                refine pM_gr rfl rfl ha.1 rfl ?_
                refine pM_len rfl ha.2.2.2.2 kn_665 ?_
                refine pM_cgt rfl rfl (fun h9 => ?_) (fun h9 => ?_)
                · replace h := h.1 h9
                  refine pM_ii rfl rfl rfl ki_1 ?_
                  refine pM_go rfl rfl ?_
                  refine pM_w (F2 := [(0, .inr (.inl (some a))), (1, .inl (.inl p1)), (2, .inl (.inl p2)), (3, .inl (.inl p3)), (4, .inl (.inl p4)), (5, .inl (.inl p5)), (7, .inl (.inl v7)), (8, .inl (.inl (v8 + 1)))]) (fun L hL => lo_cons (lo_lk hL rfl) (lo_cons (lo_lk hL rfl) (lo_cons (lo_lk hL rfl) (lo_cons (lo_lk hL rfl) (lo_cons (lo_lk hL rfl) (lo_cons (lo_lk hL rfl) (lo_cons (lo_lk hL rfl) (lo_cons (lo_lk hL rfl) lo_nil)))))))) ?_
                  exact IH hN v7 (v8 + 1) h
                · replace h := h.2 h9
                  refine pM_aln rfl rfl rfl ?_
                  refine pM_gr rfl rfl ha.1 rfl ?_
                  refine pM_il rfl rfl ?_
                  refine pM_ai rfl ha.2.2.2.2 (one_p _) ?_
                  refine pM_aln rfl rfl rfl ?_
                  refine pM_gr rfl rfl ha.1 rfl ?_
                  refine pM_il rfl rfl ?_
                  refine pM_ic rfl ki_1 ?_
                  refine pM_add rfl ?_
                  refine pM_ai rfl ha.2.2.2.2 (one_p _) ?_
                  refine pM_iln rfl rfl ?_
                  refine pM_mul rfl ?_
                  refine pM_add rfl ?_
                  refine pM_aln rfl rfl rfl ?_
                  refine pM_gr rfl rfl ha.1 rfl ?_
                  refine pM_il rfl rfl ?_
                  refine pM_ic rfl ki_2 ?_
                  refine pM_add rfl ?_
                  refine pM_ai rfl ha.2.2.2.2 (one_p _) ?_
                  refine pM_il rfl rfl ?_
                  refine pM_mul rfl ?_
                  refine pM_add rfl ?_
                  refine pM_aln rfl rfl rfl ?_
                  refine pM_gr rfl rfl ha.1 rfl ?_
                  refine pM_il rfl rfl ?_
                  refine pM_ic rfl ki_3 ?_
                  refine pM_add rfl ?_
                  refine pM_ai rfl ha.2.2.2.2 (one_p _) ?_
                  refine pM_iln rfl rfl ?_
                  refine pM_mul rfl ?_
                  refine pM_add rfl ?_
                  refine pM_aln rfl rfl rfl ?_
                  refine pM_gr rfl rfl ha.1 rfl ?_
                  refine pM_il rfl rfl ?_
                  refine pM_ic rfl ki_4 ?_
                  refine pM_add rfl ?_
                  refine pM_ai rfl ha.2.2.2.2 (one_p _) ?_
                  refine pM_il rfl rfl ?_
                  refine pM_mul rfl ?_
                  refine pM_add rfl ?_
                  refine pM_is rfl rfl ?_
                  refine pM_il rfl rfl ?_
                  refine pM_ic rfl ki_1 ?_
                  refine pM_shl rfl ?_
                  refine pM_il rfl rfl ?_
                  refine pM_zle rfl rfl (fun h10 => ?_) (fun h10 => ?_)
                  · replace h := h.2 h10
                    refine pM_ic rfl ki_0 ?_
                    refine pM_or rfl ?_
                    refine pM_is rfl rfl ?_
                    refine pM_ii rfl rfl rfl ki_1 ?_
                    refine pM_go rfl rfl ?_
                    refine pM_w (F2 := [(0, .inr (.inl (some a))), (1, .inl (.inl p1)), (2, .inl (.inl p2)), (3, .inl (.inl p3)), (4, .inl (.inl p4)), (5, .inl (.inl p5)), (7, .inl (.inl ((sl v7 1) ||| 0))), (8, .inl (.inl (v8 + 1)))]) (fun L hL => lo_cons (lo_lk hL rfl) (lo_cons (lo_lk hL rfl) (lo_cons (lo_lk hL rfl) (lo_cons (lo_lk hL rfl) (lo_cons (lo_lk hL rfl) (lo_cons (lo_lk hL rfl) (lo_cons (lo_lk hL rfl) (lo_cons (lo_lk hL rfl) lo_nil)))))))) ?_
                    exact IH hN ((sl v7 1) ||| 0) (v8 + 1) h
                  · replace h := h.1 h10
                    refine pM_ic rfl ki_1 ?_
                    refine pM_go rfl rfl ?_
                    refine pM_or rfl ?_
                    refine pM_is rfl rfl ?_
                    refine pM_ii rfl rfl rfl ki_1 ?_
                    refine pM_go rfl rfl ?_
                    refine pM_w (F2 := [(0, .inr (.inl (some a))), (1, .inl (.inl p1)), (2, .inl (.inl p2)), (3, .inl (.inl p3)), (4, .inl (.inl p4)), (5, .inl (.inl p5)), (7, .inl (.inl ((sl v7 1) ||| 1))), (8, .inl (.inl (v8 + 1)))]) (fun L hL => lo_cons (lo_lk hL rfl) (lo_cons (lo_lk hL rfl) (lo_cons (lo_lk hL rfl) (lo_cons (lo_lk hL rfl) (lo_cons (lo_lk hL rfl) (lo_cons (lo_lk hL rfl) (lo_cons (lo_lk hL rfl) (lo_cons (lo_lk hL rfl) lo_nil)))))))) ?_
                    exact IH hN ((sl v7 1) ||| 1) (v8 + 1) h
            · replace h := h.1 h7
              refine pM_il rfl rfl ?_
              refine pM_ic rfl ki_1 ?_
              refine pM_shr rfl ?_
              refine pM_il rfl rfl ?_
              refine pM_or rfl ?_
              refine pM_is rfl rfl ?_
              refine pM_go rfl rfl ?_
              refine pM_ii rfl rfl rfl ki_1 ?_
              refine pM_go rfl rfl ?_
              refine pM_w (F2 := [(0, .inr (.inl (some a))), (1, .inl (.inl p1)), (2, .inl (.inl p2)), (3, .inl (.inl p3)), (4, .inl (.inl p4)), (5, .inl (.inl p5)), (7, .inl (.inl ((sr v7 1) ||| (v7 &&& 1)))), (8, .inl (.inl (v8 + 1)))]) (fun L hL => lo_cons (lo_lk hL rfl) (lo_cons (lo_lk hL rfl) (lo_cons (lo_lk hL rfl) (lo_cons (lo_lk hL rfl) (lo_cons (lo_lk hL rfl) (lo_cons (lo_lk hL rfl) (lo_cons (lo_lk hL rfl) (lo_cons (lo_lk hL rfl) lo_nil)))))))) ?_
              exact IH hN ((sr v7 1) ||| (v7 &&& 1)) (v8 + 1) h
          · replace h := h.1 h6
            refine pM_il rfl rfl ?_
            refine pM_ic rfl ki_1 ?_
            refine pM_shr rfl ?_
            refine pM_il rfl rfl ?_
            refine pM_bi rfl kb_m2 ?_
            refine pM_or rfl ?_
            refine pM_and rfl ?_
            refine pM_is rfl rfl ?_
            refine pM_go rfl rfl ?_
            refine pM_ii rfl rfl rfl ki_1 ?_
            refine pM_go rfl rfl ?_
            refine pM_w (F2 := [(0, .inr (.inl (some a))), (1, .inl (.inl p1)), (2, .inl (.inl p2)), (3, .inl (.inl p3)), (4, .inl (.inl p4)), (5, .inl (.inl p5)), (7, .inl (.inl ((sr v7 1) &&& ((v7 &&& 1) ||| (-2))))), (8, .inl (.inl (v8 + 1)))]) (fun L hL => lo_cons (lo_lk hL rfl) (lo_cons (lo_lk hL rfl) (lo_cons (lo_lk hL rfl) (lo_cons (lo_lk hL rfl) (lo_cons (lo_lk hL rfl) (lo_cons (lo_lk hL rfl) (lo_cons (lo_lk hL rfl) (lo_cons (lo_lk hL rfl) lo_nil)))))))) ?_
            exact IH hN ((sr v7 1) &&& ((v7 &&& 1) ||| (-2))) (v8 + 1) h
        · replace h := h.1 h5
          refine pM_il rfl rfl ?_
          refine pM_ic rfl ki_1 ?_
          refine pM_xor rfl ?_
          refine pM_is rfl rfl ?_
          refine pM_go rfl rfl ?_
          refine pM_ii rfl rfl rfl ki_1 ?_
          refine pM_go rfl rfl ?_
          refine pM_w (F2 := [(0, .inr (.inl (some a))), (1, .inl (.inl p1)), (2, .inl (.inl p2)), (3, .inl (.inl p3)), (4, .inl (.inl p4)), (5, .inl (.inl p5)), (7, .inl (.inl (v7 ^^^ 1))), (8, .inl (.inl (v8 + 1)))]) (fun L hL => lo_cons (lo_lk hL rfl) (lo_cons (lo_lk hL rfl) (lo_cons (lo_lk hL rfl) (lo_cons (lo_lk hL rfl) (lo_cons (lo_lk hL rfl) (lo_cons (lo_lk hL rfl) (lo_cons (lo_lk hL rfl) (lo_cons (lo_lk hL rfl) lo_nil)))))))) ?_
          exact IH hN (v7 ^^^ 1) (v8 + 1) h
      · replace h := h.1 h3
        refine pM_il rfl rfl ?_
        refine pM_ic rfl ki_1 ?_
        refine pM_shl rfl ?_
        refine pM_il rfl rfl ?_
        refine pM_bi rfl kb_7 ?_
        refine pM_rem rfl ?_
        refine pM_zne rfl rfl (fun h4 => ?_) (fun h4 => ?_)
        · replace h := h.2 h4
          refine pM_ic rfl ki_0 ?_
          refine pM_or rfl ?_
          refine pM_is rfl rfl ?_
          refine pM_go rfl rfl ?_
          refine pM_ii rfl rfl rfl ki_1 ?_
          refine pM_go rfl rfl ?_
          refine pM_w (F2 := [(0, .inr (.inl (some a))), (1, .inl (.inl p1)), (2, .inl (.inl p2)), (3, .inl (.inl p3)), (4, .inl (.inl p4)), (5, .inl (.inl p5)), (7, .inl (.inl ((sl v7 1) ||| 0))), (8, .inl (.inl (v8 + 1)))]) (fun L hL => lo_cons (lo_lk hL rfl) (lo_cons (lo_lk hL rfl) (lo_cons (lo_lk hL rfl) (lo_cons (lo_lk hL rfl) (lo_cons (lo_lk hL rfl) (lo_cons (lo_lk hL rfl) (lo_cons (lo_lk hL rfl) (lo_cons (lo_lk hL rfl) lo_nil)))))))) ?_
          exact IH hN ((sl v7 1) ||| 0) (v8 + 1) h
        · replace h := h.1 h4
          refine pM_ic rfl ki_1 ?_
          refine pM_go rfl rfl ?_
          refine pM_or rfl ?_
          refine pM_is rfl rfl ?_
          refine pM_go rfl rfl ?_
          refine pM_ii rfl rfl rfl ki_1 ?_
          refine pM_go rfl rfl ?_
          refine pM_w (F2 := [(0, .inr (.inl (some a))), (1, .inl (.inl p1)), (2, .inl (.inl p2)), (3, .inl (.inl p3)), (4, .inl (.inl p4)), (5, .inl (.inl p5)), (7, .inl (.inl ((sl v7 1) ||| 1))), (8, .inl (.inl (v8 + 1)))]) (fun L hL => lo_cons (lo_lk hL rfl) (lo_cons (lo_lk hL rfl) (lo_cons (lo_lk hL rfl) (lo_cons (lo_lk hL rfl) (lo_cons (lo_lk hL rfl) (lo_cons (lo_lk hL rfl) (lo_cons (lo_lk hL rfl) (lo_cons (lo_lk hL rfl) lo_nil)))))))) ?_
          exact IH hN ((sl v7 1) ||| 1) (v8 + 1) h
/-- 37: EarCode$Law.holds(IIIII)Z -/
def W_Law_holds (a : Nat) (p1 : Int32) (p2 : Int32) (p3 : Int32) (p4 : Int32) (p5 : Int32) (N : Nat) (M : MM) (Q : Int32 → Prop) : Prop :=
  ((p1 = 0 →
    W_Law_holds_25 a p1 p2 p3 p4 p5 M Q N 1 0) ∧
   (¬ p1 = 0 →
    W_Law_holds_25 a p1 p2 p3 p4 p5 M Q N 1 (M.1 (a + 2) (ni (p1 - 1)))))
theorem q_Law_holds {X : Option (List AI)} {N : Nat} {M : MM} {a : Nat} {p1 : Int32} {p2 : Int32} {p3 : Int32} {p4 : Int32} {p5 : Int32} {Q : Int32 → Prop} (ha : isK a) (h : W_Law_holds a p1 p2 p3 p4 p5 N M Q) : pM X N 37 0 (ea_ar 0 [.inr (.inl (some a)), .inl (.inl p1), .inl (.inl p2), .inl (.inl p3), .inl (.inl p4), .inl (.inl p5)]) [] M (Pi Q M) := by
  refine pM_w (F2 := [(0, .inr (.inl (some a))), (1, .inl (.inl p1)), (2, .inl (.inl p2)), (3, .inl (.inl p3)), (4, .inl (.inl p4)), (5, .inl (.inl p5))]) (fun L hL => lo_cons (lo_lk hL rfl) (lo_cons (lo_lk hL rfl) (lo_cons (lo_lk hL rfl) (lo_cons (lo_lk hL rfl) (lo_cons (lo_lk hL rfl) (lo_cons (lo_lk hL rfl) lo_nil)))))) ?_
  refine pM_iln rfl rfl ?_
  refine pM_zne rfl rfl (fun h1 => ?_) (fun h1 => ?_)
  · replace h := h.2 h1
    refine pM_aln rfl rfl rfl ?_
    refine pM_gr rfl rfl ha.1 rfl ?_
    refine pM_iln rfl rfl ?_
    refine pM_ic rfl ki_1 ?_
    refine pM_sub rfl ?_
    refine pM_ai rfl ha.2.2.1 (one_p _) ?_
    refine pM_is rfl rfl ?_
    refine pM_ic rfl ki_1 ?_
    refine pM_is rfl rfl ?_
    refine pM_il rfl rfl ?_
    refine pM_is rfl rfl ?_
    refine pM_w (F2 := [(0, .inr (.inl (some a))), (1, .inl (.inl p1)), (2, .inl (.inl p2)), (3, .inl (.inl p3)), (4, .inl (.inl p4)), (5, .inl (.inl p5)), (7, .inl (.inl 1)), (8, .inl (.inl (M.1 (a + 2) (ni (p1 - 1)))))]) (fun L hL => lo_cons (lo_lk hL rfl) (lo_cons (lo_lk hL rfl) (lo_cons (lo_lk hL rfl) (lo_cons (lo_lk hL rfl) (lo_cons (lo_lk hL rfl) (lo_cons (lo_lk hL rfl) (lo_cons (lo_lk hL rfl) (lo_cons (lo_lk hL rfl) lo_nil)))))))) ?_
    refine q_Law_holds_25 ha  N (Nat.le_refl N) 1 (M.1 (a + 2) (ni (p1 - 1))) h
  · replace h := h.1 h1
    refine pM_ic rfl ki_0 ?_
    refine pM_go rfl rfl ?_
    refine pM_is rfl rfl ?_
    refine pM_ic rfl ki_1 ?_
    refine pM_is rfl rfl ?_
    refine pM_il rfl rfl ?_
    refine pM_is rfl rfl ?_
    refine pM_w (F2 := [(0, .inr (.inl (some a))), (1, .inl (.inl p1)), (2, .inl (.inl p2)), (3, .inl (.inl p3)), (4, .inl (.inl p4)), (5, .inl (.inl p5)), (7, .inl (.inl 1)), (8, .inl (.inl 0))]) (fun L hL => lo_cons (lo_lk hL rfl) (lo_cons (lo_lk hL rfl) (lo_cons (lo_lk hL rfl) (lo_cons (lo_lk hL rfl) (lo_cons (lo_lk hL rfl) (lo_cons (lo_lk hL rfl) (lo_cons (lo_lk hL rfl) (lo_cons (lo_lk hL rfl) lo_nil)))))))) ?_
    refine q_Law_holds_25 ha  N (Nat.le_refl N) 1 0 h
/-- 185: EarCode.bit(II)I -/
def V_E_bit (p0 : Int32) (p1 : Int32) (M : MM) : Int32 :=
  ((sr p0 p1) &&& 1)
theorem q_E_bit {X : Option (List AI)} {N : Nat} {M : MM} {p0 : Int32} {p1 : Int32}  : pM X N 185 0 (ea_ar 0 [.inl (.inl p0), .inl (.inl p1)]) [] M (Vi (V_E_bit p0 p1 M) M) := by
  refine pM_w (F2 := [(0, .inl (.inl p0)), (1, .inl (.inl p1))]) (fun L hL => lo_cons (lo_lk hL rfl) (lo_cons (lo_lk hL rfl) lo_nil)) ?_
  refine pM_iln rfl rfl ?_
  refine pM_iln rfl rfl ?_
  refine pM_shr rfl ?_
  refine pM_ic rfl ki_1 ?_
  refine pM_and rfl ?_
  exact pM_rVi rfl (rfl)
def B_Law_bearing_23 (a : Nat) (p1 : Int32) (p2 : Int32) (p3 : Int32) (p4 : Int32) (p5 : Int32) (u7 : Int32) (u8 : Int32) (M : MM) (Q : Int32 → Prop) (N : Nat) (ih : Int32 → Int32 → Prop) (v6 : Int32) (v9 : Int32) : Prop :=
  ((v9 < (M.1 a 1) →
    (((M.1 (a + 1) (ni v9)) = u7 →
      (((V_E_bit (M.1 a 2) v9 M) = u8 →
        W_Law_holds a v9 (rm p2 8) p3 p4 p5 N M (fun r5 =>
          ((r5 = 0 →
            ih v6 (v9 + 1)) ∧
           (¬ r5 = 0 →
            ih (v6 ||| (sl 1 v9)) (v9 + 1))))) ∧
       (¬ (V_E_bit (M.1 a 2) v9 M) = u8 →
        ih v6 (v9 + 1)))) ∧
     (¬ (M.1 (a + 1) (ni v9)) = u7 →
      ih v6 (v9 + 1)))) ∧
   (¬ v9 < (M.1 a 1) →
    Q v6))
def W_Law_bearing_23 (a : Nat) (p1 : Int32) (p2 : Int32) (p3 : Int32) (p4 : Int32) (p5 : Int32) (u7 : Int32) (u8 : Int32) (M : MM) (Q : Int32 → Prop) : Nat → Int32 → Int32 → Prop
  | 0, _, _ => True
  | N + 1, v6, v9 => B_Law_bearing_23 a p1 p2 p3 p4 p5 u7 u8 M Q N (W_Law_bearing_23 a p1 p2 p3 p4 p5 u7 u8 M Q N) v6 v9
theorem I_Law_bearing_23 (a : Nat) (p1 : Int32) (p2 : Int32) (p3 : Int32) (p4 : Int32) (p5 : Int32) (u7 : Int32) (u8 : Int32) (M : MM) (Q : Int32 → Prop) (inv : Int32 → Int32 → Prop) (hs : ∀ (N : Nat) (ih : Int32 → Int32 → Prop) (v6 : Int32) (v9 : Int32), (∀ (v6 : Int32) (v9 : Int32), inv v6 v9 → ih v6 v9) → inv v6 v9 → B_Law_bearing_23 a p1 p2 p3 p4 p5 u7 u8 M Q N ih v6 v9) : ∀ (N : Nat) (v6 : Int32) (v9 : Int32), inv v6 v9 → W_Law_bearing_23 a p1 p2 p3 p4 p5 u7 u8 M Q N v6 v9 := by
  intro N
  induction N with
  | zero => intros; trivial
  | succ N IH =>
    intro v6 v9 h
    exact hs N _ v6 v9 IH h
theorem q_Law_bearing_23 {X : Option (List AI)} {N0 : Nat} {a : Nat} {p1 : Int32} {p2 : Int32} {p3 : Int32} {p4 : Int32} {p5 : Int32} {u7 : Int32} {u8 : Int32} {M : MM} {Q : Int32 → Prop} (ha : isK a)  : ∀ (N : Nat), N ≤ N0 → ∀ (v6 : Int32) (v9 : Int32), W_Law_bearing_23 a p1 p2 p3 p4 p5 u7 u8 M Q N v6 v9 → pM X N 36 23 [(0, .inr (.inl (some a))), (2, .inl (.inl p2)), (3, .inl (.inl p3)), (4, .inl (.inl p4)), (5, .inl (.inl p5)), (6, .inl (.inl v6)), (7, .inl (.inl u7)), (8, .inl (.inl u8)), (9, .inl (.inl v9))] [] M (Pi Q M) := by
  intro N
  induction N with
  | zero => intros; exact pM_zero
  | succ N IH =>
    intro hN v6 v9 h
    replace hN := Nat.le_of_succ_le hN
    replace h : B_Law_bearing_23 a p1 p2 p3 p4 p5 u7 u8 M Q N (W_Law_bearing_23 a p1 p2 p3 p4 p5 u7 u8 M Q N) v6 v9 := h
    refine pM_s (pMs_il rfl rfl ?_)
    refine pM_aln rfl rfl rfl ?_
    refine pM_gi rfl rfl ha.1 rfl ?_
    refine pM_cge rfl rfl (fun h2 => ?_) (fun h2 => ?_)
    · replace h := h.2 h2
      refine pM_il rfl rfl ?_
      exact pM_ri rfl (⟨_, rfl, rfl, h⟩)
    · replace h := h.1 h2
      refine pM_aln rfl rfl rfl ?_
      refine pM_gr rfl rfl ha.1 rfl ?_
      refine pM_il rfl rfl ?_
      refine pM_ai rfl ha.2.1 (one_p _) ?_
      refine pM_il rfl rfl ?_
      refine pM_cne rfl rfl (fun h3 => ?_) (fun h3 => ?_)
      · replace h := h.2 h3
        refine pM_ii rfl rfl rfl ki_1 ?_
        refine pM_go rfl rfl ?_
        refine pM_w (F2 := [(0, .inr (.inl (some a))), (2, .inl (.inl p2)), (3, .inl (.inl p3)), (4, .inl (.inl p4)), (5, .inl (.inl p5)), (6, .inl (.inl v6)), (7, .inl (.inl u7)), (8, .inl (.inl u8)), (9, .inl (.inl (v9 + 1)))]) (fun L hL => lo_cons (lo_lk hL rfl) (lo_cons (lo_lk hL rfl) (lo_cons (lo_lk hL rfl) (lo_cons (lo_lk hL rfl) (lo_cons (lo_lk hL rfl) (lo_cons (lo_lk hL rfl) (lo_cons (lo_lk hL rfl) (lo_cons (lo_lk hL rfl) (lo_cons (lo_lk hL rfl) lo_nil))))))))) ?_
        exact IH hN v6 (v9 + 1) h
      · replace h := h.1 h3
        refine pM_aln rfl rfl rfl ?_
        refine pM_gi rfl rfl ha.1 rfl ?_
        refine pM_il rfl rfl ?_
        refine pM_qVi (as := [.inl (.inl (M.1 a 2)), .inl (.inl v9)]) (T := []) rfl rfl (fun _ _ => rfl) rfl (q_E_bit ) ?_
        refine pM_il rfl rfl ?_
        refine pM_cne rfl rfl (fun h4 => ?_) (fun h4 => ?_)
        · replace h := h.2 h4
          refine pM_ii rfl rfl rfl ki_1 ?_
          refine pM_go rfl rfl ?_
          refine pM_w (F2 := [(0, .inr (.inl (some a))), (2, .inl (.inl p2)), (3, .inl (.inl p3)), (4, .inl (.inl p4)), (5, .inl (.inl p5)), (6, .inl (.inl v6)), (7, .inl (.inl u7)), (8, .inl (.inl u8)), (9, .inl (.inl (v9 + 1)))]) (fun L hL => lo_cons (lo_lk hL rfl) (lo_cons (lo_lk hL rfl) (lo_cons (lo_lk hL rfl) (lo_cons (lo_lk hL rfl) (lo_cons (lo_lk hL rfl) (lo_cons (lo_lk hL rfl) (lo_cons (lo_lk hL rfl) (lo_cons (lo_lk hL rfl) (lo_cons (lo_lk hL rfl) lo_nil))))))))) ?_
          exact IH hN v6 (v9 + 1) h
        · replace h := h.1 h4
          refine pM_aln rfl rfl rfl ?_
          refine pM_il rfl rfl ?_
          refine pM_iln rfl rfl ?_
          refine pM_bi rfl kb_8 ?_
          refine pM_rem rfl ?_
          refine pM_iln rfl rfl ?_
          refine pM_il rfl rfl ?_
          refine pM_il rfl rfl ?_
          refine pM_qPi (as := [.inr (.inl (some a)), .inl (.inl v9), .inl (.inl (rm p2 8)), .inl (.inl p3), .inl (.inl p4), .inl (.inl p5)]) (T := []) rfl rfl (fun C hC => cl_v hC ha.1 rfl rfl rfl) rfl (q_Law_holds ha h) (fun r5 h => ?_)
          refine pM_zeq rfl rfl (fun h7 => ?_) (fun h7 => ?_)
          · replace h := h.1 h7
            refine pM_ii rfl rfl rfl ki_1 ?_
            refine pM_go rfl rfl ?_
            refine pM_w (F2 := [(0, .inr (.inl (some a))), (2, .inl (.inl p2)), (3, .inl (.inl p3)), (4, .inl (.inl p4)), (5, .inl (.inl p5)), (6, .inl (.inl v6)), (7, .inl (.inl u7)), (8, .inl (.inl u8)), (9, .inl (.inl (v9 + 1)))]) (fun L hL => lo_cons (lo_lk hL rfl) (lo_cons (lo_lk hL rfl) (lo_cons (lo_lk hL rfl) (lo_cons (lo_lk hL rfl) (lo_cons (lo_lk hL rfl) (lo_cons (lo_lk hL rfl) (lo_cons (lo_lk hL rfl) (lo_cons (lo_lk hL rfl) (lo_cons (lo_lk hL rfl) lo_nil))))))))) ?_
            exact IH hN v6 (v9 + 1) h
          · replace h := h.2 h7
            refine pM_il rfl rfl ?_
            refine pM_ic rfl ki_1 ?_
            refine pM_il rfl rfl ?_
            refine pM_shl rfl ?_
            refine pM_or rfl ?_
            refine pM_is rfl rfl ?_
            refine pM_ii rfl rfl rfl ki_1 ?_
            refine pM_go rfl rfl ?_
            refine pM_w (F2 := [(0, .inr (.inl (some a))), (2, .inl (.inl p2)), (3, .inl (.inl p3)), (4, .inl (.inl p4)), (5, .inl (.inl p5)), (6, .inl (.inl (v6 ||| (sl 1 v9)))), (7, .inl (.inl u7)), (8, .inl (.inl u8)), (9, .inl (.inl (v9 + 1)))]) (fun L hL => lo_cons (lo_lk hL rfl) (lo_cons (lo_lk hL rfl) (lo_cons (lo_lk hL rfl) (lo_cons (lo_lk hL rfl) (lo_cons (lo_lk hL rfl) (lo_cons (lo_lk hL rfl) (lo_cons (lo_lk hL rfl) (lo_cons (lo_lk hL rfl) (lo_cons (lo_lk hL rfl) lo_nil))))))))) ?_
            exact IH hN (v6 ||| (sl 1 v9)) (v9 + 1) h
/-- 36: EarCode$Law.bearing(ZIIII)I -/
def W_Law_bearing (a : Nat) (p1 : Int32) (p2 : Int32) (p3 : Int32) (p4 : Int32) (p5 : Int32) (N : Nat) (M : MM) (Q : Int32 → Prop) : Prop :=
  ((p1 = 0 →
    W_Law_bearing_23 a p1 p2 p3 p4 p5 (p2 / 8) 0 M Q N 0 0) ∧
   (¬ p1 = 0 →
    W_Law_bearing_23 a p1 p2 p3 p4 p5 (p2 / 8) 1 M Q N 0 0))
theorem q_Law_bearing {X : Option (List AI)} {N : Nat} {M : MM} {a : Nat} {p1 : Int32} {p2 : Int32} {p3 : Int32} {p4 : Int32} {p5 : Int32} {Q : Int32 → Prop} (ha : isK a) (h : W_Law_bearing a p1 p2 p3 p4 p5 N M Q) : pM X N 36 0 (ea_ar 0 [.inr (.inl (some a)), .inl (.inl p1), .inl (.inl p2), .inl (.inl p3), .inl (.inl p4), .inl (.inl p5)]) [] M (Pi Q M) := by
  refine pM_w (F2 := [(0, .inr (.inl (some a))), (1, .inl (.inl p1)), (2, .inl (.inl p2)), (3, .inl (.inl p3)), (4, .inl (.inl p4)), (5, .inl (.inl p5))]) (fun L hL => lo_cons (lo_lk hL rfl) (lo_cons (lo_lk hL rfl) (lo_cons (lo_lk hL rfl) (lo_cons (lo_lk hL rfl) (lo_cons (lo_lk hL rfl) (lo_cons (lo_lk hL rfl) lo_nil)))))) ?_
  refine pM_ic rfl ki_0 ?_
  refine pM_is rfl rfl ?_
  refine pM_iln rfl rfl ?_
  refine pM_bi rfl kb_8 ?_
  refine pM_div rfl ?_
  refine pM_is rfl rfl ?_
  refine pM_iln rfl rfl ?_
  refine pM_zeq rfl rfl (fun h1 => ?_) (fun h1 => ?_)
  · replace h := h.1 h1
    refine pM_ic rfl ki_0 ?_
    refine pM_is rfl rfl ?_
    refine pM_ic rfl ki_0 ?_
    refine pM_is rfl rfl ?_
    refine pM_w (F2 := [(0, .inr (.inl (some a))), (2, .inl (.inl p2)), (3, .inl (.inl p3)), (4, .inl (.inl p4)), (5, .inl (.inl p5)), (6, .inl (.inl 0)), (7, .inl (.inl (p2 / 8))), (8, .inl (.inl 0)), (9, .inl (.inl 0))]) (fun L hL => lo_cons (lo_lk hL rfl) (lo_cons (lo_lk hL rfl) (lo_cons (lo_lk hL rfl) (lo_cons (lo_lk hL rfl) (lo_cons (lo_lk hL rfl) (lo_cons (lo_lk hL rfl) (lo_cons (lo_lk hL rfl) (lo_cons (lo_lk hL rfl) (lo_cons (lo_lk hL rfl) lo_nil))))))))) ?_
    refine q_Law_bearing_23 ha  N (Nat.le_refl N) 0 0 h
  · replace h := h.2 h1
    refine pM_ic rfl ki_1 ?_
    refine pM_go rfl rfl ?_
    refine pM_is rfl rfl ?_
    refine pM_ic rfl ki_0 ?_
    refine pM_is rfl rfl ?_
    refine pM_w (F2 := [(0, .inr (.inl (some a))), (2, .inl (.inl p2)), (3, .inl (.inl p3)), (4, .inl (.inl p4)), (5, .inl (.inl p5)), (6, .inl (.inl 0)), (7, .inl (.inl (p2 / 8))), (8, .inl (.inl 1)), (9, .inl (.inl 0))]) (fun L hL => lo_cons (lo_lk hL rfl) (lo_cons (lo_lk hL rfl) (lo_cons (lo_lk hL rfl) (lo_cons (lo_lk hL rfl) (lo_cons (lo_lk hL rfl) (lo_cons (lo_lk hL rfl) (lo_cons (lo_lk hL rfl) (lo_cons (lo_lk hL rfl) (lo_cons (lo_lk hL rfl) lo_nil))))))))) ?_
    refine q_Law_bearing_23 ha  N (Nat.le_refl N) 0 0 h
/-- 317: java/lang/Integer.bitCount(I)I -/
def V_Int_bitCount (p0 : Int32) (M : MM) : Int32 :=
  ((((((((p0 - ((su p0 1) &&& 1431655765)) &&& 858993459) + ((su (p0 - ((su p0 1) &&& 1431655765)) 2) &&& 858993459)) + (su (((p0 - ((su p0 1) &&& 1431655765)) &&& 858993459) + ((su (p0 - ((su p0 1) &&& 1431655765)) 2) &&& 858993459)) 4)) &&& 252645135) + (su (((((p0 - ((su p0 1) &&& 1431655765)) &&& 858993459) + ((su (p0 - ((su p0 1) &&& 1431655765)) 2) &&& 858993459)) + (su (((p0 - ((su p0 1) &&& 1431655765)) &&& 858993459) + ((su (p0 - ((su p0 1) &&& 1431655765)) 2) &&& 858993459)) 4)) &&& 252645135) 8)) + (su ((((((p0 - ((su p0 1) &&& 1431655765)) &&& 858993459) + ((su (p0 - ((su p0 1) &&& 1431655765)) 2) &&& 858993459)) + (su (((p0 - ((su p0 1) &&& 1431655765)) &&& 858993459) + ((su (p0 - ((su p0 1) &&& 1431655765)) 2) &&& 858993459)) 4)) &&& 252645135) + (su (((((p0 - ((su p0 1) &&& 1431655765)) &&& 858993459) + ((su (p0 - ((su p0 1) &&& 1431655765)) 2) &&& 858993459)) + (su (((p0 - ((su p0 1) &&& 1431655765)) &&& 858993459) + ((su (p0 - ((su p0 1) &&& 1431655765)) 2) &&& 858993459)) 4)) &&& 252645135) 8)) 16)) &&& 63)
theorem q_Int_bitCount {X : Option (List AI)} {N : Nat} {M : MM} {p0 : Int32}  : pM X N 317 0 (ea_ar 0 [.inl (.inl p0)]) [] M (Vi (V_Int_bitCount p0 M) M) := by
  refine pM_w (F2 := [(0, .inl (.inl p0))]) (fun L hL => lo_cons (lo_lk hL rfl) lo_nil) ?_
  refine pM_iln rfl rfl ?_
  refine pM_iln rfl rfl ?_
  refine pM_ic rfl ki_1 ?_
  refine pM_ushr rfl ?_
  refine pM_ldw rfl rfl kn_1431655765 ?_
  refine pM_and rfl ?_
  refine pM_sub rfl ?_
  refine pM_isn rfl rfl ?_
  refine pM_iln rfl rfl ?_
  refine pM_ldw rfl rfl kn_858993459 ?_
  refine pM_and rfl ?_
  refine pM_iln rfl rfl ?_
  refine pM_ic rfl ki_2 ?_
  refine pM_ushr rfl ?_
  refine pM_ldw rfl rfl kn_858993459 ?_
  refine pM_and rfl ?_
  refine pM_add rfl ?_
  refine pM_isn rfl rfl ?_
  refine pM_iln rfl rfl ?_
  refine pM_iln rfl rfl ?_
  refine pM_ic rfl ki_4 ?_
  refine pM_ushr rfl ?_
  refine pM_add rfl ?_
  refine pM_ldw rfl rfl kn_252645135 ?_
  refine pM_and rfl ?_
  refine pM_isn rfl rfl ?_
  refine pM_iln rfl rfl ?_
  refine pM_iln rfl rfl ?_
  refine pM_bi rfl kb_8 ?_
  refine pM_ushr rfl ?_
  refine pM_add rfl ?_
  refine pM_isn rfl rfl ?_
  refine pM_iln rfl rfl ?_
  refine pM_iln rfl rfl ?_
  refine pM_bi rfl kb_16 ?_
  refine pM_ushr rfl ?_
  refine pM_add rfl ?_
  refine pM_isn rfl rfl ?_
  refine pM_iln rfl rfl ?_
  refine pM_bi rfl kb_63 ?_
  refine pM_and rfl ?_
  exact pM_rVi rfl (rfl)
/-- 113: EarCode$World.knownBy(I)I -/
def V_World_knownBy (a : Nat) (p1 : Int32) (M : MM) : Int32 :=
  (V_Int_bitCount (M.1 (a + 1) (ni p1)) M)
theorem q_World_knownBy {X : Option (List AI)} {N : Nat} {M : MM} {a : Nat} {p1 : Int32} (ha : isW a) : pM X N 113 0 (ea_ar 0 [.inr (.inl (some a)), .inl (.inl p1)]) [] M (Vi (V_World_knownBy a p1 M) M) := by
  refine pM_w (F2 := [(0, .inr (.inl (some a))), (1, .inl (.inl p1))]) (fun L hL => lo_cons (lo_lk hL rfl) (lo_cons (lo_lk hL rfl) lo_nil)) ?_
  refine pM_aln rfl rfl rfl ?_
  refine pM_gr rfl rfl ha.1 rfl ?_
  refine pM_iln rfl rfl ?_
  refine pM_ai rfl ha.2.1 (one_p _) ?_
  refine pM_qVi (as := [.inl (.inl (M.1 (a + 1) (ni p1)))]) (T := []) rfl rfl (fun _ _ => rfl) rfl (q_Int_bitCount ) ?_
  exact pM_rVi rfl (rfl)
/-- 2: EarCode$Inquiry.forbidding(II)I -/
def W_Inquiry_forbidding (p1 : Int32) (p2 : Int32) (N : Nat) (M : MM) (Q : Int32 → Prop) : Prop :=
  W_Law_bearing 8 0 p2 p1 (V_World_knownBy 18 p1 M) (M.1 18 13) N M (fun r1 =>
    Q r1)
theorem q_Inquiry_forbidding {X : Option (List AI)} {N : Nat} {M : MM} {p1 : Int32} {p2 : Int32} {Q : Int32 → Prop}  (h : W_Inquiry_forbidding p1 p2 N M Q) : pM X N 2 0 (ea_ar 0 [.inr (.inl (some 171)), .inl (.inl p1), .inl (.inl p2)]) [] M (Pi Q M) := by
  refine pM_w (F2 := [(0, .inr (.inl (some 171))), (1, .inl (.inl p1)), (2, .inl (.inl p2))]) (fun L hL => lo_cons (lo_lk hL rfl) (lo_cons (lo_lk hL rfl) (lo_cons (lo_lk hL rfl) lo_nil))) ?_
  refine pM_aln rfl rfl rfl ?_
  refine pM_gr rfl rfl rfl rfl ?_
  refine pM_ic rfl ki_0 ?_
  refine pM_iln rfl rfl ?_
  refine pM_iln rfl rfl ?_
  refine pM_aln rfl rfl rfl ?_
  refine pM_gr rfl rfl rfl rfl ?_
  refine pM_iln rfl rfl ?_
  refine pM_qVi (as := [.inr (.inl (some 18)), .inl (.inl p1)]) (T := [.inl (.inl p1), .inl (.inl p2), .inl (.inl 0), .inr (.inl (some 8))]) rfl rfl (fun C hC => cl_v hC rfl rfl rfl rfl) rfl (q_World_knownBy isW_18) ?_
  refine pM_aln rfl rfl rfl ?_
  refine pM_gr rfl rfl rfl rfl ?_
  refine pM_gi rfl rfl rfl rfl ?_
  refine pM_qPi (as := [.inr (.inl (some 8)), .inl (.inl 0), .inl (.inl p2), .inl (.inl p1), .inl (.inl (V_World_knownBy 18 p1 M)), .inl (.inl (M.1 18 13))]) (T := []) rfl rfl (fun C hC => cl_v hC rfl rfl rfl rfl) rfl (q_Law_bearing isK_8 h) (fun r1 h => ?_)
  exact pM_ri rfl (⟨_, rfl, rfl, h⟩)
/-- 3: EarCode$Inquiry.demanding(II)I -/
def W_Inquiry_demanding (p1 : Int32) (p2 : Int32) (N : Nat) (M : MM) (Q : Int32 → Prop) : Prop :=
  W_Law_bearing 8 1 p2 p1 (V_World_knownBy 18 p1 M) (M.1 18 13) N M (fun r1 =>
    Q r1)
theorem q_Inquiry_demanding {X : Option (List AI)} {N : Nat} {M : MM} {p1 : Int32} {p2 : Int32} {Q : Int32 → Prop}  (h : W_Inquiry_demanding p1 p2 N M Q) : pM X N 3 0 (ea_ar 0 [.inr (.inl (some 171)), .inl (.inl p1), .inl (.inl p2)]) [] M (Pi Q M) := by
  refine pM_w (F2 := [(0, .inr (.inl (some 171))), (1, .inl (.inl p1)), (2, .inl (.inl p2))]) (fun L hL => lo_cons (lo_lk hL rfl) (lo_cons (lo_lk hL rfl) (lo_cons (lo_lk hL rfl) lo_nil))) ?_
  refine pM_aln rfl rfl rfl ?_
  refine pM_gr rfl rfl rfl rfl ?_
  refine pM_ic rfl ki_1 ?_
  refine pM_iln rfl rfl ?_
  refine pM_iln rfl rfl ?_
  refine pM_aln rfl rfl rfl ?_
  refine pM_gr rfl rfl rfl rfl ?_
  refine pM_iln rfl rfl ?_
  refine pM_qVi (as := [.inr (.inl (some 18)), .inl (.inl p1)]) (T := [.inl (.inl p1), .inl (.inl p2), .inl (.inl 1), .inr (.inl (some 8))]) rfl rfl (fun C hC => cl_v hC rfl rfl rfl rfl) rfl (q_World_knownBy isW_18) ?_
  refine pM_aln rfl rfl rfl ?_
  refine pM_gr rfl rfl rfl rfl ?_
  refine pM_gi rfl rfl rfl rfl ?_
  refine pM_qPi (as := [.inr (.inl (some 8)), .inl (.inl 1), .inl (.inl p2), .inl (.inl p1), .inl (.inl (V_World_knownBy 18 p1 M)), .inl (.inl (M.1 18 13))]) (T := []) rfl rfl (fun C hC => cl_v hC rfl rfl rfl rfl) rfl (q_Law_bearing isK_8 h) (fun r1 h => ?_)
  exact pM_ri rfl (⟨_, rfl, rfl, h⟩)
/-- 108: EarCode$World.isAlive(I)Z -/
def V_World_isAlive (a : Nat) (p1 : Int32) (M : MM) : Int32 :=
  (if (V_E_bit (M.1 a 1) p1 M) = 1 then
    1
  else
    0)
theorem q_World_isAlive {X : Option (List AI)} {N : Nat} {M : MM} {a : Nat} {p1 : Int32} (ha : isW a) : pM X N 108 0 (ea_ar 0 [.inr (.inl (some a)), .inl (.inl p1)]) [] M (Vi (V_World_isAlive a p1 M) M) := by
  refine pM_w (F2 := [(0, .inr (.inl (some a))), (1, .inl (.inl p1))]) (fun L hL => lo_cons (lo_lk hL rfl) (lo_cons (lo_lk hL rfl) lo_nil)) ?_
  refine pM_aln rfl rfl rfl ?_
  refine pM_gi rfl rfl ha.1 rfl ?_
  refine pM_iln rfl rfl ?_
  refine pM_qVi (as := [.inl (.inl (M.1 a 1)), .inl (.inl p1)]) (T := []) rfl rfl (fun _ _ => rfl) rfl (q_E_bit ) ?_
  refine pM_ic rfl ki_1 ?_
  refine pM_cne rfl rfl (fun h1 => ?_) (fun h1 => ?_)
  · refine pM_ic rfl ki_0 ?_
    exact pM_rVi rfl (Eq.trans (if_neg h1) rfl)
  · refine pM_ic rfl ki_1 ?_
    refine pM_go rfl rfl ?_
    exact pM_rVi rfl (Eq.trans (if_pos h1) rfl)
def B_World_inForce_4 (a : Nat) (M : MM) (Q : Int32 → Prop) (N : Nat) (ih : Int32 → Int32 → Prop) (v1 : Int32) (v2 : Int32) : Prop :=
  ((v2 < (M.1 a 0) →
    (((V_World_isAlive a v2 M) = 0 →
      ih v1 (v2 + 1)) ∧
     (¬ (V_World_isAlive a v2 M) = 0 →
      ih (v1 ||| (M.1 (a + 1) (ni v2))) (v2 + 1)))) ∧
   (¬ v2 < (M.1 a 0) →
    Q v1))
def W_World_inForce_4 (a : Nat) (M : MM) (Q : Int32 → Prop) : Nat → Int32 → Int32 → Prop
  | 0, _, _ => True
  | N + 1, v1, v2 => B_World_inForce_4 a M Q N (W_World_inForce_4 a M Q N) v1 v2
theorem I_World_inForce_4 (a : Nat) (M : MM) (Q : Int32 → Prop) (inv : Int32 → Int32 → Prop) (hs : ∀ (N : Nat) (ih : Int32 → Int32 → Prop) (v1 : Int32) (v2 : Int32), (∀ (v1 : Int32) (v2 : Int32), inv v1 v2 → ih v1 v2) → inv v1 v2 → B_World_inForce_4 a M Q N ih v1 v2) : ∀ (N : Nat) (v1 : Int32) (v2 : Int32), inv v1 v2 → W_World_inForce_4 a M Q N v1 v2 := by
  intro N
  induction N with
  | zero => intros; trivial
  | succ N IH =>
    intro v1 v2 h
    exact hs N _ v1 v2 IH h
theorem q_World_inForce_4 {X : Option (List AI)} {N0 : Nat} {a : Nat} {M : MM} {Q : Int32 → Prop} (ha : isW a)  : ∀ (N : Nat), N ≤ N0 → ∀ (v1 : Int32) (v2 : Int32), W_World_inForce_4 a M Q N v1 v2 → pM X N 115 4 [(0, .inr (.inl (some a))), (1, .inl (.inl v1)), (2, .inl (.inl v2))] [] M (Pi Q M) := by
  intro N
  induction N with
  | zero => intros; exact pM_zero
  | succ N IH =>
    intro hN v1 v2 h
    replace hN := Nat.le_of_succ_le hN
    replace h : B_World_inForce_4 a M Q N (W_World_inForce_4 a M Q N) v1 v2 := h
    refine pM_s (pMs_iln rfl rfl ?_)
    refine pM_aln rfl rfl rfl ?_
    refine pM_gi rfl rfl ha.1 rfl ?_
    refine pM_cge rfl rfl (fun h1 => ?_) (fun h1 => ?_)
    · replace h := h.2 h1
      refine pM_iln rfl rfl ?_
      exact pM_ri rfl (⟨_, rfl, rfl, h⟩)
    · replace h := h.1 h1
      refine pM_aln rfl rfl rfl ?_
      refine pM_iln rfl rfl ?_
      refine pM_qVi (as := [.inr (.inl (some a)), .inl (.inl v2)]) (T := []) rfl rfl (fun C hC => cl_v hC ha.1 rfl rfl rfl) rfl (q_World_isAlive ha) ?_
      refine pM_zeq rfl rfl (fun h2 => ?_) (fun h2 => ?_)
      · replace h := h.1 h2
        refine pM_ii rfl rfl rfl ki_1 ?_
        refine pM_go rfl rfl ?_
        refine pM_w (F2 := [(0, .inr (.inl (some a))), (1, .inl (.inl v1)), (2, .inl (.inl (v2 + 1)))]) (fun L hL => lo_cons (lo_lk hL rfl) (lo_cons (lo_lk hL rfl) (lo_cons (lo_lk hL rfl) lo_nil))) ?_
        exact IH hN v1 (v2 + 1) h
      · replace h := h.2 h2
        refine pM_iln rfl rfl ?_
        refine pM_aln rfl rfl rfl ?_
        refine pM_gr rfl rfl ha.1 rfl ?_
        refine pM_iln rfl rfl ?_
        refine pM_ai rfl ha.2.1 (one_p _) ?_
        refine pM_or rfl ?_
        refine pM_isn rfl rfl ?_
        refine pM_ii rfl rfl rfl ki_1 ?_
        refine pM_go rfl rfl ?_
        refine pM_w (F2 := [(0, .inr (.inl (some a))), (1, .inl (.inl (v1 ||| (M.1 (a + 1) (ni v2))))), (2, .inl (.inl (v2 + 1)))]) (fun L hL => lo_cons (lo_lk hL rfl) (lo_cons (lo_lk hL rfl) (lo_cons (lo_lk hL rfl) lo_nil))) ?_
        exact IH hN (v1 ||| (M.1 (a + 1) (ni v2))) (v2 + 1) h
/-- 115: EarCode$World.inForce()I -/
def W_World_inForce (a : Nat) (N : Nat) (M : MM) (Q : Int32 → Prop) : Prop :=
  W_World_inForce_4 a M Q N 0 0
theorem q_World_inForce {X : Option (List AI)} {N : Nat} {M : MM} {a : Nat} {Q : Int32 → Prop} (ha : isW a) (h : W_World_inForce a N M Q) : pM X N 115 0 (ea_ar 0 [.inr (.inl (some a))]) [] M (Pi Q M) := by
  refine pM_w (F2 := [(0, .inr (.inl (some a)))]) (fun L hL => lo_cons (lo_lk hL rfl) lo_nil) ?_
  refine pM_ic rfl ki_0 ?_
  refine pM_isn rfl rfl ?_
  refine pM_ic rfl ki_0 ?_
  refine pM_isn rfl rfl ?_
  refine pM_w (F2 := [(0, .inr (.inl (some a))), (1, .inl (.inl 0)), (2, .inl (.inl 0))]) (fun L hL => lo_cons (lo_lk hL rfl) (lo_cons (lo_lk hL rfl) (lo_cons (lo_lk hL rfl) lo_nil))) ?_
  refine q_World_inForce_4 ha  N (Nat.le_refl N) 0 0 h
/-- 4: EarCode$Inquiry.forbiddenTo(II)I -/
def W_Inquiry_forbiddenTo (p1 : Int32) (p2 : Int32) (N : Nat) (M : MM) (Q : Int32 → Prop) : Prop :=
  W_Inquiry_forbidding p1 p2 N M (fun r1 =>
    W_World_inForce 18 N M (fun r3 =>
      Q (r1 &&& r3)))
theorem q_Inquiry_forbiddenTo {X : Option (List AI)} {N : Nat} {M : MM} {p1 : Int32} {p2 : Int32} {Q : Int32 → Prop}  (h : W_Inquiry_forbiddenTo p1 p2 N M Q) : pM X N 4 0 (ea_ar 0 [.inr (.inl (some 171)), .inl (.inl p1), .inl (.inl p2)]) [] M (Pi Q M) := by
  refine pM_w (F2 := [(0, .inr (.inl (some 171))), (1, .inl (.inl p1)), (2, .inl (.inl p2))]) (fun L hL => lo_cons (lo_lk hL rfl) (lo_cons (lo_lk hL rfl) (lo_cons (lo_lk hL rfl) lo_nil))) ?_
  refine pM_aln rfl rfl rfl ?_
  refine pM_iln rfl rfl ?_
  refine pM_iln rfl rfl ?_
  refine pM_qPi (as := [.inr (.inl (some 171)), .inl (.inl p1), .inl (.inl p2)]) (T := []) rfl rfl (fun C hC => cl_v hC rfl rfl rfl rfl) rfl (q_Inquiry_forbidding  h) (fun r1 h => ?_)
  refine pM_aln rfl rfl rfl ?_
  refine pM_gr rfl rfl rfl rfl ?_
  refine pM_qPi (as := [.inr (.inl (some 18))]) (T := [.inl (.inl r1)]) rfl rfl (fun C hC => cl_v hC rfl rfl rfl rfl) rfl (q_World_inForce isW_18 h) (fun r3 h => ?_)
  refine pM_and rfl ?_
  exact pM_ri rfl (⟨_, rfl, rfl, h⟩)
/-- 5: EarCode$Inquiry.demandedOf(II)I -/
def W_Inquiry_demandedOf (p1 : Int32) (p2 : Int32) (N : Nat) (M : MM) (Q : Int32 → Prop) : Prop :=
  W_Inquiry_demanding p1 p2 N M (fun r1 =>
    W_World_inForce 18 N M (fun r3 =>
      Q (r1 &&& r3)))
theorem q_Inquiry_demandedOf {X : Option (List AI)} {N : Nat} {M : MM} {p1 : Int32} {p2 : Int32} {Q : Int32 → Prop}  (h : W_Inquiry_demandedOf p1 p2 N M Q) : pM X N 5 0 (ea_ar 0 [.inr (.inl (some 171)), .inl (.inl p1), .inl (.inl p2)]) [] M (Pi Q M) := by
  refine pM_w (F2 := [(0, .inr (.inl (some 171))), (1, .inl (.inl p1)), (2, .inl (.inl p2))]) (fun L hL => lo_cons (lo_lk hL rfl) (lo_cons (lo_lk hL rfl) (lo_cons (lo_lk hL rfl) lo_nil))) ?_
  refine pM_aln rfl rfl rfl ?_
  refine pM_iln rfl rfl ?_
  refine pM_iln rfl rfl ?_
  refine pM_qPi (as := [.inr (.inl (some 171)), .inl (.inl p1), .inl (.inl p2)]) (T := []) rfl rfl (fun C hC => cl_v hC rfl rfl rfl rfl) rfl (q_Inquiry_demanding  h) (fun r1 h => ?_)
  refine pM_aln rfl rfl rfl ?_
  refine pM_gr rfl rfl rfl rfl ?_
  refine pM_qPi (as := [.inr (.inl (some 18))]) (T := [.inl (.inl r1)]) rfl rfl (fun C hC => cl_v hC rfl rfl rfl rfl) rfl (q_World_inForce isW_18 h) (fun r3 h => ?_)
  refine pM_and rfl ?_
  exact pM_ri rfl (⟨_, rfl, rfl, h⟩)
/-- 6: EarCode$Inquiry.allows(II)Z -/
def W_Inquiry_allows (p1 : Int32) (p2 : Int32) (N : Nat) (M : MM) (Q : Int32 → Prop) : Prop :=
  W_Inquiry_forbidding p1 p2 N M (fun r1 =>
    (((r1 &&& (M.1 19 (ni p1))) = 0 →
      Q 1) ∧
     (¬ (r1 &&& (M.1 19 (ni p1))) = 0 →
      Q 0)))
theorem q_Inquiry_allows {X : Option (List AI)} {N : Nat} {M : MM} {p1 : Int32} {p2 : Int32} {Q : Int32 → Prop}  (h : W_Inquiry_allows p1 p2 N M Q) : pM X N 6 0 (ea_ar 0 [.inr (.inl (some 171)), .inl (.inl p1), .inl (.inl p2)]) [] M (Pi Q M) := by
  refine pM_w (F2 := [(0, .inr (.inl (some 171))), (1, .inl (.inl p1)), (2, .inl (.inl p2))]) (fun L hL => lo_cons (lo_lk hL rfl) (lo_cons (lo_lk hL rfl) (lo_cons (lo_lk hL rfl) lo_nil))) ?_
  refine pM_aln rfl rfl rfl ?_
  refine pM_iln rfl rfl ?_
  refine pM_iln rfl rfl ?_
  refine pM_qPi (as := [.inr (.inl (some 171)), .inl (.inl p1), .inl (.inl p2)]) (T := []) rfl rfl (fun C hC => cl_v hC rfl rfl rfl rfl) rfl (q_Inquiry_forbidding  h) (fun r1 h => ?_)
  refine pM_aln rfl rfl rfl ?_
  refine pM_gr rfl rfl rfl rfl ?_
  refine pM_gr rfl rfl rfl rfl ?_
  refine pM_iln rfl rfl ?_
  refine pM_ai rfl rfl (one_p _) ?_
  refine pM_and rfl ?_
  refine pM_zne rfl rfl (fun h3 => ?_) (fun h3 => ?_)
  · replace h := h.2 h3
    refine pM_ic rfl ki_0 ?_
    exact pM_ri rfl (⟨_, rfl, rfl, h⟩)
  · replace h := h.1 h3
    refine pM_ic rfl ki_1 ?_
    refine pM_go rfl rfl ?_
    exact pM_ri rfl (⟨_, rfl, rfl, h⟩)
def B_Inquiry_isForbiddenToAll_16 (p1 : Int32) (p2 : Int32) (u3 : Int32) (M : MM) (k59 : Prop) (Q : Int32 → Prop) (N : Nat) (ih : Int32 → Prop) (v4 : Int32) : Prop :=
  ((v4 < 8 →
    (((V_World_isAlive 18 u3 M) = 0 →
      k59) ∧
     (¬ (V_World_isAlive 18 u3 M) = 0 →
      W_Inquiry_forbidding u3 ((p1 * 8) + v4) N M (fun r4 =>
        (((r4 &&& p2) = 0 →
          Q 0) ∧
         (¬ (r4 &&& p2) = 0 →
          ih (v4 + 1))))))) ∧
   (¬ v4 < 8 →
    k59))
def W_Inquiry_isForbiddenToAll_16 (p1 : Int32) (p2 : Int32) (u3 : Int32) (M : MM) (k59 : Prop) (Q : Int32 → Prop) : Nat → Int32 → Prop
  | 0, _ => True
  | N + 1, v4 => B_Inquiry_isForbiddenToAll_16 p1 p2 u3 M k59 Q N (W_Inquiry_isForbiddenToAll_16 p1 p2 u3 M k59 Q N) v4
theorem I_Inquiry_isForbiddenToAll_16 (p1 : Int32) (p2 : Int32) (u3 : Int32) (M : MM) (k59 : Prop) (Q : Int32 → Prop) (inv : Int32 → Prop) (hs : ∀ (N : Nat) (ih : Int32 → Prop) (v4 : Int32), (∀ (v4 : Int32), inv v4 → ih v4) → inv v4 → B_Inquiry_isForbiddenToAll_16 p1 p2 u3 M k59 Q N ih v4) : ∀ (N : Nat) (v4 : Int32), inv v4 → W_Inquiry_isForbiddenToAll_16 p1 p2 u3 M k59 Q N v4 := by
  intro N
  induction N with
  | zero => intros; trivial
  | succ N IH =>
    intro v4 h
    exact hs N _ v4 IH h
theorem q_Inquiry_isForbiddenToAll_16 {X : Option (List AI)} {N0 : Nat} {p1 : Int32} {p2 : Int32} {u3 : Int32} {M : MM} {k59 : Prop} {Q : Int32 → Prop}  (hk59 : k59 → pM X N0 8 59 [(0, .inr (.inl (some 171))), (1, .inl (.inl p1)), (2, .inl (.inl p2)), (3, .inl (.inl u3))] [] M (Pi Q M)) : ∀ (N : Nat), N ≤ N0 → ∀ (v4 : Int32), W_Inquiry_isForbiddenToAll_16 p1 p2 u3 M k59 Q N v4 → pM X N 8 16 [(0, .inr (.inl (some 171))), (1, .inl (.inl p1)), (2, .inl (.inl p2)), (3, .inl (.inl u3)), (4, .inl (.inl v4))] [] M (Pi Q M) := by
  intro N
  induction N with
  | zero => intros; exact pM_zero
  | succ N IH =>
    intro hN v4 h
    replace hN := Nat.le_of_succ_le hN
    replace h : B_Inquiry_isForbiddenToAll_16 p1 p2 u3 M k59 Q N (W_Inquiry_isForbiddenToAll_16 p1 p2 u3 M k59 Q N) v4 := h
    refine pM_s (pMs_il rfl rfl ?_)
    refine pM_bi rfl kb_8 ?_
    refine pM_cge rfl rfl (fun h2 => ?_) (fun h2 => ?_)
    · replace h := h.2 h2
      refine pM_w (F2 := [(0, .inr (.inl (some 171))), (1, .inl (.inl p1)), (2, .inl (.inl p2)), (3, .inl (.inl u3))]) (fun L hL => lo_cons (lo_lk hL rfl) (lo_cons (lo_lk hL rfl) (lo_cons (lo_lk hL rfl) (lo_cons (lo_lk hL rfl) lo_nil)))) ?_
      exact pM_le hN (hk59 h)
    · replace h := h.1 h2
      refine pM_aln rfl rfl rfl ?_
      refine pM_gr rfl rfl rfl rfl ?_
      refine pM_iln rfl rfl ?_
      refine pM_qVi (as := [.inr (.inl (some 18)), .inl (.inl u3)]) (T := []) rfl rfl (fun C hC => cl_v hC rfl rfl rfl rfl) rfl (q_World_isAlive isW_18) ?_
      refine pM_zeq rfl rfl (fun h3 => ?_) (fun h3 => ?_)
      · replace h := h.1 h3
        refine pM_w (F2 := [(0, .inr (.inl (some 171))), (1, .inl (.inl p1)), (2, .inl (.inl p2)), (3, .inl (.inl u3))]) (fun L hL => lo_cons (lo_lk hL rfl) (lo_cons (lo_lk hL rfl) (lo_cons (lo_lk hL rfl) (lo_cons (lo_lk hL rfl) lo_nil)))) ?_
        exact pM_le hN (hk59 h)
      · replace h := h.2 h3
        refine pM_aln rfl rfl rfl ?_
        refine pM_iln rfl rfl ?_
        refine pM_iln rfl rfl ?_
        refine pM_bi rfl kb_8 ?_
        refine pM_mul rfl ?_
        refine pM_il rfl rfl ?_
        refine pM_add rfl ?_
        refine pM_qPi (as := [.inr (.inl (some 171)), .inl (.inl u3), .inl (.inl ((p1 * 8) + v4))]) (T := []) rfl rfl (fun C hC => cl_v hC rfl rfl rfl rfl) rfl (q_Inquiry_forbidding  h) (fun r4 h => ?_)
        refine pM_iln rfl rfl ?_
        refine pM_and rfl ?_
        refine pM_zne rfl rfl (fun h6 => ?_) (fun h6 => ?_)
        · replace h := h.2 h6
          refine pM_ii rfl rfl rfl ki_1 ?_
          refine pM_go rfl rfl ?_
          refine pM_w (F2 := [(0, .inr (.inl (some 171))), (1, .inl (.inl p1)), (2, .inl (.inl p2)), (3, .inl (.inl u3)), (4, .inl (.inl (v4 + 1)))]) (fun L hL => lo_cons (lo_lk hL rfl) (lo_cons (lo_lk hL rfl) (lo_cons (lo_lk hL rfl) (lo_cons (lo_lk hL rfl) (lo_cons (lo_lk hL rfl) lo_nil))))) ?_
          exact IH hN (v4 + 1) h
        · replace h := h.1 h6
          refine pM_ic rfl ki_0 ?_
          exact pM_ri rfl (⟨_, rfl, rfl, h⟩)
def B_Inquiry_isForbiddenToAll_2 (p1 : Int32) (p2 : Int32) (M : MM) (Q : Int32 → Prop) (N : Nat) (ih : Int32 → Prop) (v3 : Int32) : Prop :=
  ((v3 < (M.1 18 0) →
    W_Inquiry_isForbiddenToAll_16 p1 p2 v3 M (ih (v3 + 1)) Q N 0) ∧
   (¬ v3 < (M.1 18 0) →
    Q 1))
def W_Inquiry_isForbiddenToAll_2 (p1 : Int32) (p2 : Int32) (M : MM) (Q : Int32 → Prop) : Nat → Int32 → Prop
  | 0, _ => True
  | N + 1, v3 => B_Inquiry_isForbiddenToAll_2 p1 p2 M Q N (W_Inquiry_isForbiddenToAll_2 p1 p2 M Q N) v3
theorem I_Inquiry_isForbiddenToAll_2 (p1 : Int32) (p2 : Int32) (M : MM) (Q : Int32 → Prop) (inv : Int32 → Prop) (hs : ∀ (N : Nat) (ih : Int32 → Prop) (v3 : Int32), (∀ (v3 : Int32), inv v3 → ih v3) → inv v3 → B_Inquiry_isForbiddenToAll_2 p1 p2 M Q N ih v3) : ∀ (N : Nat) (v3 : Int32), inv v3 → W_Inquiry_isForbiddenToAll_2 p1 p2 M Q N v3 := by
  intro N
  induction N with
  | zero => intros; trivial
  | succ N IH =>
    intro v3 h
    exact hs N _ v3 IH h
theorem q_Inquiry_isForbiddenToAll_2 {X : Option (List AI)} {N0 : Nat} {p1 : Int32} {p2 : Int32} {M : MM} {Q : Int32 → Prop}   : ∀ (N : Nat), N ≤ N0 → ∀ (v3 : Int32), W_Inquiry_isForbiddenToAll_2 p1 p2 M Q N v3 → pM X N 8 2 [(0, .inr (.inl (some 171))), (1, .inl (.inl p1)), (2, .inl (.inl p2)), (3, .inl (.inl v3))] [] M (Pi Q M) := by
  intro N
  induction N with
  | zero => intros; exact pM_zero
  | succ N IH =>
    intro hN v3 h
    replace hN := Nat.le_of_succ_le hN
    replace h : B_Inquiry_isForbiddenToAll_2 p1 p2 M Q N (W_Inquiry_isForbiddenToAll_2 p1 p2 M Q N) v3 := h
    refine pM_s (pMs_iln rfl rfl ?_)
    refine pM_aln rfl rfl rfl ?_
    refine pM_gr rfl rfl rfl rfl ?_
    refine pM_gi rfl rfl rfl rfl ?_
    refine pM_cge rfl rfl (fun h1 => ?_) (fun h1 => ?_)
    · replace h := h.2 h1
      refine pM_ic rfl ki_1 ?_
      exact pM_ri rfl (⟨_, rfl, rfl, h⟩)
    · replace h := h.1 h1
      refine pM_ic rfl ki_0 ?_
      refine pM_is rfl rfl ?_
      refine pM_w (F2 := [(0, .inr (.inl (some 171))), (1, .inl (.inl p1)), (2, .inl (.inl p2)), (3, .inl (.inl v3)), (4, .inl (.inl 0))]) (fun L hL => lo_cons (lo_lk hL rfl) (lo_cons (lo_lk hL rfl) (lo_cons (lo_lk hL rfl) (lo_cons (lo_lk hL rfl) (lo_cons (lo_lk hL rfl) lo_nil))))) ?_
      refine q_Inquiry_isForbiddenToAll_16  (fun h => ?_) N (Nat.le_refl N) 0 h
      · refine pM_ii rfl rfl rfl ki_1 ?_
        refine pM_go rfl rfl ?_
        refine pM_w (F2 := [(0, .inr (.inl (some 171))), (1, .inl (.inl p1)), (2, .inl (.inl p2)), (3, .inl (.inl (v3 + 1)))]) (fun L hL => lo_cons (lo_lk hL rfl) (lo_cons (lo_lk hL rfl) (lo_cons (lo_lk hL rfl) (lo_cons (lo_lk hL rfl) lo_nil)))) ?_
        exact IH hN (v3 + 1) h
/-- 8: EarCode$Inquiry.isForbiddenToAll(II)Z -/
def W_Inquiry_isForbiddenToAll (p1 : Int32) (p2 : Int32) (N : Nat) (M : MM) (Q : Int32 → Prop) : Prop :=
  W_Inquiry_isForbiddenToAll_2 p1 p2 M Q N 0
theorem q_Inquiry_isForbiddenToAll {X : Option (List AI)} {N : Nat} {M : MM} {p1 : Int32} {p2 : Int32} {Q : Int32 → Prop}  (h : W_Inquiry_isForbiddenToAll p1 p2 N M Q) : pM X N 8 0 (ea_ar 0 [.inr (.inl (some 171)), .inl (.inl p1), .inl (.inl p2)]) [] M (Pi Q M) := by
  refine pM_w (F2 := [(0, .inr (.inl (some 171))), (1, .inl (.inl p1)), (2, .inl (.inl p2))]) (fun L hL => lo_cons (lo_lk hL rfl) (lo_cons (lo_lk hL rfl) (lo_cons (lo_lk hL rfl) lo_nil))) ?_
  refine pM_ic rfl ki_0 ?_
  refine pM_isn rfl rfl ?_
  refine pM_w (F2 := [(0, .inr (.inl (some 171))), (1, .inl (.inl p1)), (2, .inl (.inl p2)), (3, .inl (.inl 0))]) (fun L hL => lo_cons (lo_lk hL rfl) (lo_cons (lo_lk hL rfl) (lo_cons (lo_lk hL rfl) (lo_cons (lo_lk hL rfl) lo_nil)))) ?_
  refine q_Inquiry_isForbiddenToAll_2   N (Nat.le_refl N) 0 h
def B_Inquiry_forbiddenToAll_12 (u2 : Int32) (M : MM) (Q : Int32 → Prop) (N : Nat) (ih : Int32 → Int32 → Prop) (v1 : Int32) (v3 : Int32) : Prop :=
  ((v3 < 8 →
    (((M.1 18 1) = 0 →
      Q v1) ∧
     (¬ (M.1 18 1) = 0 →
      W_Inquiry_isForbiddenToAll v3 u2 N M (fun r5 =>
        ((r5 = 0 →
          ih v1 (v3 + 1)) ∧
         (¬ r5 = 0 →
          ih (v1 ||| (sl 1 v3)) (v3 + 1))))))) ∧
   (¬ v3 < 8 →
    Q v1))
def W_Inquiry_forbiddenToAll_12 (u2 : Int32) (M : MM) (Q : Int32 → Prop) : Nat → Int32 → Int32 → Prop
  | 0, _, _ => True
  | N + 1, v1, v3 => B_Inquiry_forbiddenToAll_12 u2 M Q N (W_Inquiry_forbiddenToAll_12 u2 M Q N) v1 v3
theorem I_Inquiry_forbiddenToAll_12 (u2 : Int32) (M : MM) (Q : Int32 → Prop) (inv : Int32 → Int32 → Prop) (hs : ∀ (N : Nat) (ih : Int32 → Int32 → Prop) (v1 : Int32) (v3 : Int32), (∀ (v1 : Int32) (v3 : Int32), inv v1 v3 → ih v1 v3) → inv v1 v3 → B_Inquiry_forbiddenToAll_12 u2 M Q N ih v1 v3) : ∀ (N : Nat) (v1 : Int32) (v3 : Int32), inv v1 v3 → W_Inquiry_forbiddenToAll_12 u2 M Q N v1 v3 := by
  intro N
  induction N with
  | zero => intros; trivial
  | succ N IH =>
    intro v1 v3 h
    exact hs N _ v1 v3 IH h
theorem q_Inquiry_forbiddenToAll_12 {X : Option (List AI)} {N0 : Nat} {u2 : Int32} {M : MM} {Q : Int32 → Prop}   : ∀ (N : Nat), N ≤ N0 → ∀ (v1 : Int32) (v3 : Int32), W_Inquiry_forbiddenToAll_12 u2 M Q N v1 v3 → pM X N 7 12 [(0, .inr (.inl (some 171))), (1, .inl (.inl v1)), (2, .inl (.inl u2)), (3, .inl (.inl v3))] [] M (Pi Q M) := by
  intro N
  induction N with
  | zero => intros; exact pM_zero
  | succ N IH =>
    intro hN v1 v3 h
    replace hN := Nat.le_of_succ_le hN
    replace h : B_Inquiry_forbiddenToAll_12 u2 M Q N (W_Inquiry_forbiddenToAll_12 u2 M Q N) v1 v3 := h
    refine pM_s (pMs_iln rfl rfl ?_)
    refine pM_bi rfl kb_8 ?_
    refine pM_cge rfl rfl (fun h3 => ?_) (fun h3 => ?_)
    · replace h := h.2 h3
      refine pM_iln rfl rfl ?_
      exact pM_ri rfl (⟨_, rfl, rfl, h⟩)
    · replace h := h.1 h3
      refine pM_aln rfl rfl rfl ?_
      refine pM_gr rfl rfl rfl rfl ?_
      refine pM_gi rfl rfl rfl rfl ?_
      refine pM_zeq rfl rfl (fun h4 => ?_) (fun h4 => ?_)
      · replace h := h.1 h4
        refine pM_iln rfl rfl ?_
        exact pM_ri rfl (⟨_, rfl, rfl, h⟩)
      · replace h := h.2 h4
        refine pM_aln rfl rfl rfl ?_
        refine pM_iln rfl rfl ?_
        refine pM_iln rfl rfl ?_
        refine pM_qPi (as := [.inr (.inl (some 171)), .inl (.inl v3), .inl (.inl u2)]) (T := []) rfl rfl (fun C hC => cl_v hC rfl rfl rfl rfl) rfl (q_Inquiry_isForbiddenToAll  h) (fun r5 h => ?_)
        refine pM_zeq rfl rfl (fun h7 => ?_) (fun h7 => ?_)
        · replace h := h.1 h7
          refine pM_ii rfl rfl rfl ki_1 ?_
          refine pM_go rfl rfl ?_
          refine pM_w (F2 := [(0, .inr (.inl (some 171))), (1, .inl (.inl v1)), (2, .inl (.inl u2)), (3, .inl (.inl (v3 + 1)))]) (fun L hL => lo_cons (lo_lk hL rfl) (lo_cons (lo_lk hL rfl) (lo_cons (lo_lk hL rfl) (lo_cons (lo_lk hL rfl) lo_nil)))) ?_
          exact IH hN v1 (v3 + 1) h
        · replace h := h.2 h7
          refine pM_iln rfl rfl ?_
          refine pM_ic rfl ki_1 ?_
          refine pM_iln rfl rfl ?_
          refine pM_shl rfl ?_
          refine pM_or rfl ?_
          refine pM_isn rfl rfl ?_
          refine pM_ii rfl rfl rfl ki_1 ?_
          refine pM_go rfl rfl ?_
          refine pM_w (F2 := [(0, .inr (.inl (some 171))), (1, .inl (.inl (v1 ||| (sl 1 v3)))), (2, .inl (.inl u2)), (3, .inl (.inl (v3 + 1)))]) (fun L hL => lo_cons (lo_lk hL rfl) (lo_cons (lo_lk hL rfl) (lo_cons (lo_lk hL rfl) (lo_cons (lo_lk hL rfl) lo_nil)))) ?_
          exact IH hN (v1 ||| (sl 1 v3)) (v3 + 1) h
/-- 7: EarCode$Inquiry.forbiddenToAll()I -/
def W_Inquiry_forbiddenToAll  (N : Nat) (M : MM) (Q : Int32 → Prop) : Prop :=
  W_World_inForce 18 N M (fun r1 =>
    W_Inquiry_forbiddenToAll_12 r1 M Q N 0 0)
theorem q_Inquiry_forbiddenToAll {X : Option (List AI)} {N : Nat} {M : MM}  {Q : Int32 → Prop}  (h : W_Inquiry_forbiddenToAll  N M Q) : pM X N 7 0 (ea_ar 0 [.inr (.inl (some 171))]) [] M (Pi Q M) := by
  refine pM_w (F2 := [(0, .inr (.inl (some 171)))]) (fun L hL => lo_cons (lo_lk hL rfl) lo_nil) ?_
  refine pM_ic rfl ki_0 ?_
  refine pM_isn rfl rfl ?_
  refine pM_aln rfl rfl rfl ?_
  refine pM_gr rfl rfl rfl rfl ?_
  refine pM_qPi (as := [.inr (.inl (some 18))]) (T := []) rfl rfl (fun C hC => cl_v hC rfl rfl rfl rfl) rfl (q_World_inForce isW_18 h) (fun r1 h => ?_)
  refine pM_isn rfl rfl ?_
  refine pM_ic rfl ki_0 ?_
  refine pM_isn rfl rfl ?_
  refine pM_w (F2 := [(0, .inr (.inl (some 171))), (1, .inl (.inl 0)), (2, .inl (.inl r1)), (3, .inl (.inl 0))]) (fun L hL => lo_cons (lo_lk hL rfl) (lo_cons (lo_lk hL rfl) (lo_cons (lo_lk hL rfl) (lo_cons (lo_lk hL rfl) lo_nil)))) ?_
  refine q_Inquiry_forbiddenToAll_12   N (Nat.le_refl N) 0 0 h
def B_Inquiry_clearOthers_2 (Q : MM → Prop) (N : Nat) (ih : Int32 → MM → Prop) (v1 : Int32) (M : MM) : Prop :=
  ((v1 < 12 →
    ih (v1 + 1) (wi M 172 (ni v1) 0)) ∧
   (¬ v1 < 12 →
    Q M))
def W_Inquiry_clearOthers_2 (Q : MM → Prop) : Nat → Int32 → MM → Prop
  | 0, _, _ => True
  | N + 1, v1, M => B_Inquiry_clearOthers_2 Q N (W_Inquiry_clearOthers_2 Q N) v1 M
theorem I_Inquiry_clearOthers_2 (Q : MM → Prop) (inv : Int32 → MM → Prop) (hs : ∀ (N : Nat) (ih : Int32 → MM → Prop) (v1 : Int32) (M : MM), (∀ (v1 : Int32) (M : MM), inv v1 M → ih v1 M) → inv v1 M → B_Inquiry_clearOthers_2 Q N ih v1 M) : ∀ (N : Nat) (v1 : Int32) (M : MM), inv v1 M → W_Inquiry_clearOthers_2 Q N v1 M := by
  intro N
  induction N with
  | zero => intros; trivial
  | succ N IH =>
    intro v1 M h
    exact hs N _ v1 M IH h
theorem q_Inquiry_clearOthers_2 {X : Option (List AI)} {N0 : Nat} {Q : MM → Prop}   : ∀ (N : Nat), N ≤ N0 → ∀ (v1 : Int32) (M : MM), W_Inquiry_clearOthers_2 Q N v1 M → pM X N 12 2 [(0, .inr (.inl (some 171))), (1, .inl (.inl v1))] [] M (Ru Q) := by
  intro N
  induction N with
  | zero => intros; exact pM_zero
  | succ N IH =>
    intro hN v1 M h
    replace hN := Nat.le_of_succ_le hN
    replace h : B_Inquiry_clearOthers_2 Q N (W_Inquiry_clearOthers_2 Q N) v1 M := h
    refine pM_s (pMs_iln rfl rfl ?_)
    refine pM_bi rfl kb_12 ?_
    refine pM_cge rfl rfl (fun h1 => ?_) (fun h1 => ?_)
    · replace h := h.2 h1
      exact pM_ru rfl (⟨rfl, h⟩)
    · replace h := h.1 h1
      refine pM_aln rfl rfl rfl ?_
      refine pM_gr rfl rfl rfl rfl ?_
      refine pM_iln rfl rfl ?_
      refine pM_ic rfl ki_0 ?_
      refine pM_sa rfl rfl (one_p _) ?_
      refine pM_ii rfl rfl rfl ki_1 ?_
      refine pM_go rfl rfl ?_
      refine pM_w (F2 := [(0, .inr (.inl (some 171))), (1, .inl (.inl (v1 + 1)))]) (fun L hL => lo_cons (lo_lk hL rfl) (lo_cons (lo_lk hL rfl) lo_nil)) ?_
      exact IH hN (v1 + 1) (wi M 172 (ni v1) 0) h
/-- 12: EarCode$Inquiry.clearOthers()V -/
def W_Inquiry_clearOthers  (N : Nat) (M : MM) (Q : MM → Prop) : Prop :=
  W_Inquiry_clearOthers_2 Q N 0 M
theorem q_Inquiry_clearOthers {X : Option (List AI)} {N : Nat} {M : MM}  {Q : MM → Prop}  (h : W_Inquiry_clearOthers  N M Q) : pM X N 12 0 (ea_ar 0 [.inr (.inl (some 171))]) [] M (Ru Q) := by
  refine pM_w (F2 := [(0, .inr (.inl (some 171)))]) (fun L hL => lo_cons (lo_lk hL rfl) lo_nil) ?_
  refine pM_ic rfl ki_0 ?_
  refine pM_isn rfl rfl ?_
  refine pM_w (F2 := [(0, .inr (.inl (some 171))), (1, .inl (.inl 0))]) (fun L hL => lo_cons (lo_lk hL rfl) (lo_cons (lo_lk hL rfl) lo_nil)) ?_
  refine q_Inquiry_clearOthers_2   N (Nat.le_refl N) 0 M h
def B_Inquiry_addOthers_2 (p1 : Int32) (p2 : Int32) (Q : MM → Prop) (N : Nat) (ih : Int32 → MM → Prop) (v3 : Int32) (M : MM) : Prop :=
  ((v3 < (M.1 8 1) →
    (((V_E_bit p1 v3 M) = 1 →
      ih (v3 + 1) (wi M 172 (ni v3) ((M.1 172 (ni v3)) ||| p2))) ∧
     (¬ (V_E_bit p1 v3 M) = 1 →
      (((V_E_bit p2 v3 M) = 1 →
        ih (v3 + 1) (wi M 172 (ni v3) ((M.1 172 (ni v3)) ||| p1))) ∧
       (¬ (V_E_bit p2 v3 M) = 1 →
        ih (v3 + 1) M))))) ∧
   (¬ v3 < (M.1 8 1) →
    Q M))
def W_Inquiry_addOthers_2 (p1 : Int32) (p2 : Int32) (Q : MM → Prop) : Nat → Int32 → MM → Prop
  | 0, _, _ => True
  | N + 1, v3, M => B_Inquiry_addOthers_2 p1 p2 Q N (W_Inquiry_addOthers_2 p1 p2 Q N) v3 M
theorem I_Inquiry_addOthers_2 (p1 : Int32) (p2 : Int32) (Q : MM → Prop) (inv : Int32 → MM → Prop) (hs : ∀ (N : Nat) (ih : Int32 → MM → Prop) (v3 : Int32) (M : MM), (∀ (v3 : Int32) (M : MM), inv v3 M → ih v3 M) → inv v3 M → B_Inquiry_addOthers_2 p1 p2 Q N ih v3 M) : ∀ (N : Nat) (v3 : Int32) (M : MM), inv v3 M → W_Inquiry_addOthers_2 p1 p2 Q N v3 M := by
  intro N
  induction N with
  | zero => intros; trivial
  | succ N IH =>
    intro v3 M h
    exact hs N _ v3 M IH h
theorem q_Inquiry_addOthers_2 {X : Option (List AI)} {N0 : Nat} {p1 : Int32} {p2 : Int32} {Q : MM → Prop}   : ∀ (N : Nat), N ≤ N0 → ∀ (v3 : Int32) (M : MM), W_Inquiry_addOthers_2 p1 p2 Q N v3 M → pM X N 14 2 [(0, .inr (.inl (some 171))), (1, .inl (.inl p1)), (2, .inl (.inl p2)), (3, .inl (.inl v3))] [] M (Ru Q) := by
  intro N
  induction N with
  | zero => intros; exact pM_zero
  | succ N IH =>
    intro hN v3 M h
    replace hN := Nat.le_of_succ_le hN
    replace h : B_Inquiry_addOthers_2 p1 p2 Q N (W_Inquiry_addOthers_2 p1 p2 Q N) v3 M := h
    refine pM_s (pMs_iln rfl rfl ?_)
    refine pM_aln rfl rfl rfl ?_
    refine pM_gr rfl rfl rfl rfl ?_
    refine pM_gi rfl rfl rfl rfl ?_
    refine pM_cge rfl rfl (fun h1 => ?_) (fun h1 => ?_)
    · replace h := h.2 h1
      exact pM_ru rfl (⟨rfl, h⟩)
    · replace h := h.1 h1
      refine pM_iln rfl rfl ?_
      refine pM_iln rfl rfl ?_
      refine pM_qVi (as := [.inl (.inl p1), .inl (.inl v3)]) (T := []) rfl rfl (fun _ _ => rfl) rfl (q_E_bit ) ?_
      refine pM_ic rfl ki_1 ?_
      refine pM_cne rfl rfl (fun h2 => ?_) (fun h2 => ?_)
      · replace h := h.2 h2
        refine pM_iln rfl rfl ?_
        refine pM_iln rfl rfl ?_
        refine pM_qVi (as := [.inl (.inl p2), .inl (.inl v3)]) (T := []) rfl rfl (fun _ _ => rfl) rfl (q_E_bit ) ?_
        refine pM_ic rfl ki_1 ?_
        refine pM_cne rfl rfl (fun h3 => ?_) (fun h3 => ?_)
        · replace h := h.2 h3
          refine pM_ii rfl rfl rfl ki_1 ?_
          refine pM_go rfl rfl ?_
          refine pM_w (F2 := [(0, .inr (.inl (some 171))), (1, .inl (.inl p1)), (2, .inl (.inl p2)), (3, .inl (.inl (v3 + 1)))]) (fun L hL => lo_cons (lo_lk hL rfl) (lo_cons (lo_lk hL rfl) (lo_cons (lo_lk hL rfl) (lo_cons (lo_lk hL rfl) lo_nil)))) ?_
          exact IH hN (v3 + 1) M h
        · replace h := h.1 h3
          refine pM_aln rfl rfl rfl ?_
          refine pM_gr rfl rfl rfl rfl ?_
          refine pM_iln rfl rfl ?_
          refine pM_p (pc' := 50) (S' := [.inl (.inl v3), .inr (.inl (some 172)), .inl (.inl v3), .inr (.inl (some 172))]) rfl rfl (fun _ => rfl) ?_
          refine pM_ai rfl rfl (one_p _) ?_
          refine pM_iln rfl rfl ?_
          refine pM_or rfl ?_
          refine pM_sa rfl rfl (one_p _) ?_
          refine pM_ii rfl rfl rfl ki_1 ?_
          refine pM_go rfl rfl ?_
          refine pM_w (F2 := [(0, .inr (.inl (some 171))), (1, .inl (.inl p1)), (2, .inl (.inl p2)), (3, .inl (.inl (v3 + 1)))]) (fun L hL => lo_cons (lo_lk hL rfl) (lo_cons (lo_lk hL rfl) (lo_cons (lo_lk hL rfl) (lo_cons (lo_lk hL rfl) lo_nil)))) ?_
          exact IH hN (v3 + 1) (wi M 172 (ni v3) ((M.1 172 (ni v3)) ||| p1)) h
      · replace h := h.1 h2
        refine pM_aln rfl rfl rfl ?_
        refine pM_gr rfl rfl rfl rfl ?_
        refine pM_iln rfl rfl ?_
        refine pM_p (pc' := 28) (S' := [.inl (.inl v3), .inr (.inl (some 172)), .inl (.inl v3), .inr (.inl (some 172))]) rfl rfl (fun _ => rfl) ?_
        refine pM_ai rfl rfl (one_p _) ?_
        refine pM_iln rfl rfl ?_
        refine pM_or rfl ?_
        refine pM_sa rfl rfl (one_p _) ?_
        refine pM_go rfl rfl ?_
        refine pM_ii rfl rfl rfl ki_1 ?_
        refine pM_go rfl rfl ?_
        refine pM_w (F2 := [(0, .inr (.inl (some 171))), (1, .inl (.inl p1)), (2, .inl (.inl p2)), (3, .inl (.inl (v3 + 1)))]) (fun L hL => lo_cons (lo_lk hL rfl) (lo_cons (lo_lk hL rfl) (lo_cons (lo_lk hL rfl) (lo_cons (lo_lk hL rfl) lo_nil)))) ?_
        exact IH hN (v3 + 1) (wi M 172 (ni v3) ((M.1 172 (ni v3)) ||| p2)) h
/-- 14: EarCode$Inquiry.addOthers(II)V -/
def W_Inquiry_addOthers (p1 : Int32) (p2 : Int32) (N : Nat) (M : MM) (Q : MM → Prop) : Prop :=
  W_Inquiry_addOthers_2 p1 p2 Q N 0 M
theorem q_Inquiry_addOthers {X : Option (List AI)} {N : Nat} {M : MM} {p1 : Int32} {p2 : Int32} {Q : MM → Prop}  (h : W_Inquiry_addOthers p1 p2 N M Q) : pM X N 14 0 (ea_ar 0 [.inr (.inl (some 171)), .inl (.inl p1), .inl (.inl p2)]) [] M (Ru Q) := by
  refine pM_w (F2 := [(0, .inr (.inl (some 171))), (1, .inl (.inl p1)), (2, .inl (.inl p2))]) (fun L hL => lo_cons (lo_lk hL rfl) (lo_cons (lo_lk hL rfl) (lo_cons (lo_lk hL rfl) lo_nil))) ?_
  refine pM_ic rfl ki_0 ?_
  refine pM_isn rfl rfl ?_
  refine pM_w (F2 := [(0, .inr (.inl (some 171))), (1, .inl (.inl p1)), (2, .inl (.inl p2)), (3, .inl (.inl 0))]) (fun L hL => lo_cons (lo_lk hL rfl) (lo_cons (lo_lk hL rfl) (lo_cons (lo_lk hL rfl) (lo_cons (lo_lk hL rfl) lo_nil)))) ?_
  refine q_Inquiry_addOthers_2   N (Nat.le_refl N) 0 M h
def B_Inquiry_findOthers_15 (p1 : Int32) (u2 : Int32) (k64 : MM → Prop) (Q : MM → Prop) (N : Nat) (ih : Int32 → MM → Prop) (v3 : Int32) (M : MM) : Prop :=
  ((v3 < 8 →
    (((V_World_isAlive 18 u2 M) = 0 →
      k64 M) ∧
     (¬ (V_World_isAlive 18 u2 M) = 0 →
      W_Inquiry_forbidding u2 ((p1 * 8) + v3) N M (fun r4 =>
        W_Inquiry_demanding u2 ((p1 * 8) + v3) N M (fun r6 =>
          W_Inquiry_addOthers r4 r6 N M (fun M9 =>
            ih (v3 + 1) M9)))))) ∧
   (¬ v3 < 8 →
    k64 M))
def W_Inquiry_findOthers_15 (p1 : Int32) (u2 : Int32) (k64 : MM → Prop) (Q : MM → Prop) : Nat → Int32 → MM → Prop
  | 0, _, _ => True
  | N + 1, v3, M => B_Inquiry_findOthers_15 p1 u2 k64 Q N (W_Inquiry_findOthers_15 p1 u2 k64 Q N) v3 M
theorem I_Inquiry_findOthers_15 (p1 : Int32) (u2 : Int32) (k64 : MM → Prop) (Q : MM → Prop) (inv : Int32 → MM → Prop) (hs : ∀ (N : Nat) (ih : Int32 → MM → Prop) (v3 : Int32) (M : MM), (∀ (v3 : Int32) (M : MM), inv v3 M → ih v3 M) → inv v3 M → B_Inquiry_findOthers_15 p1 u2 k64 Q N ih v3 M) : ∀ (N : Nat) (v3 : Int32) (M : MM), inv v3 M → W_Inquiry_findOthers_15 p1 u2 k64 Q N v3 M := by
  intro N
  induction N with
  | zero => intros; trivial
  | succ N IH =>
    intro v3 M h
    exact hs N _ v3 M IH h
theorem q_Inquiry_findOthers_15 {X : Option (List AI)} {N0 : Nat} {p1 : Int32} {u2 : Int32} {k64 : MM → Prop} {Q : MM → Prop}  (hk64 : ∀  (M : MM), k64 M → pM X N0 13 64 [(0, .inr (.inl (some 171))), (1, .inl (.inl p1)), (2, .inl (.inl u2))] [] M (Ru Q)) : ∀ (N : Nat), N ≤ N0 → ∀ (v3 : Int32) (M : MM), W_Inquiry_findOthers_15 p1 u2 k64 Q N v3 M → pM X N 13 15 [(0, .inr (.inl (some 171))), (1, .inl (.inl p1)), (2, .inl (.inl u2)), (3, .inl (.inl v3))] [] M (Ru Q) := by
  intro N
  induction N with
  | zero => intros; exact pM_zero
  | succ N IH =>
    intro hN v3 M h
    replace hN := Nat.le_of_succ_le hN
    replace h : B_Inquiry_findOthers_15 p1 u2 k64 Q N (W_Inquiry_findOthers_15 p1 u2 k64 Q N) v3 M := h
    refine pM_s (pMs_iln rfl rfl ?_)
    refine pM_bi rfl kb_8 ?_
    refine pM_cge rfl rfl (fun h2 => ?_) (fun h2 => ?_)
    · replace h := h.2 h2
      refine pM_w (F2 := [(0, .inr (.inl (some 171))), (1, .inl (.inl p1)), (2, .inl (.inl u2))]) (fun L hL => lo_cons (lo_lk hL rfl) (lo_cons (lo_lk hL rfl) (lo_cons (lo_lk hL rfl) lo_nil))) ?_
      exact pM_le hN (hk64 _ h)
    · replace h := h.1 h2
      refine pM_aln rfl rfl rfl ?_
      refine pM_gr rfl rfl rfl rfl ?_
      refine pM_iln rfl rfl ?_
      refine pM_qVi (as := [.inr (.inl (some 18)), .inl (.inl u2)]) (T := []) rfl rfl (fun C hC => cl_v hC rfl rfl rfl rfl) rfl (q_World_isAlive isW_18) ?_
      refine pM_zeq rfl rfl (fun h3 => ?_) (fun h3 => ?_)
      · replace h := h.1 h3
        refine pM_w (F2 := [(0, .inr (.inl (some 171))), (1, .inl (.inl p1)), (2, .inl (.inl u2))]) (fun L hL => lo_cons (lo_lk hL rfl) (lo_cons (lo_lk hL rfl) (lo_cons (lo_lk hL rfl) lo_nil))) ?_
        exact pM_le hN (hk64 _ h)
      · replace h := h.2 h3
        refine pM_iln rfl rfl ?_
        refine pM_bi rfl kb_8 ?_
        refine pM_mul rfl ?_
        refine pM_iln rfl rfl ?_
        refine pM_add rfl ?_
        refine pM_is rfl rfl ?_
        refine pM_aln rfl rfl rfl ?_
        refine pM_aln rfl rfl rfl ?_
        refine pM_iln rfl rfl ?_
        refine pM_il rfl rfl ?_
        refine pM_qPi (as := [.inr (.inl (some 171)), .inl (.inl u2), .inl (.inl ((p1 * 8) + v3))]) (T := [.inr (.inl (some 171))]) rfl rfl (fun C hC => cl_v hC rfl rfl rfl rfl) rfl (q_Inquiry_forbidding  h) (fun r4 h => ?_)
        refine pM_aln rfl rfl rfl ?_
        refine pM_iln rfl rfl ?_
        refine pM_il rfl rfl ?_
        refine pM_qPi (as := [.inr (.inl (some 171)), .inl (.inl u2), .inl (.inl ((p1 * 8) + v3))]) (T := [.inl (.inl r4), .inr (.inl (some 171))]) rfl rfl (fun C hC => cl_v hC rfl rfl rfl rfl) rfl (q_Inquiry_demanding  h) (fun r6 h => ?_)
        refine pM_qRu (as := [.inr (.inl (some 171)), .inl (.inl r4), .inl (.inl r6)]) (T := []) rfl rfl (fun C hC => cl_v hC rfl rfl rfl rfl) rfl (q_Inquiry_addOthers  h) (fun M9 h => ?_)
        refine pM_ii rfl rfl rfl ki_1 ?_
        refine pM_go rfl rfl ?_
        refine pM_w (F2 := [(0, .inr (.inl (some 171))), (1, .inl (.inl p1)), (2, .inl (.inl u2)), (3, .inl (.inl (v3 + 1)))]) (fun L hL => lo_cons (lo_lk hL rfl) (lo_cons (lo_lk hL rfl) (lo_cons (lo_lk hL rfl) (lo_cons (lo_lk hL rfl) lo_nil)))) ?_
        exact IH hN (v3 + 1) M9 h
def B_Inquiry_findOthers_2 (p1 : Int32) (Q : MM → Prop) (N : Nat) (ih : Int32 → MM → Prop) (v2 : Int32) (M : MM) : Prop :=
  ((v2 < (M.1 18 0) →
    W_Inquiry_findOthers_15 p1 v2 (fun M10 =>
      ih (v2 + 1) M10) Q N 0 M) ∧
   (¬ v2 < (M.1 18 0) →
    Q M))
def W_Inquiry_findOthers_2 (p1 : Int32) (Q : MM → Prop) : Nat → Int32 → MM → Prop
  | 0, _, _ => True
  | N + 1, v2, M => B_Inquiry_findOthers_2 p1 Q N (W_Inquiry_findOthers_2 p1 Q N) v2 M
theorem I_Inquiry_findOthers_2 (p1 : Int32) (Q : MM → Prop) (inv : Int32 → MM → Prop) (hs : ∀ (N : Nat) (ih : Int32 → MM → Prop) (v2 : Int32) (M : MM), (∀ (v2 : Int32) (M : MM), inv v2 M → ih v2 M) → inv v2 M → B_Inquiry_findOthers_2 p1 Q N ih v2 M) : ∀ (N : Nat) (v2 : Int32) (M : MM), inv v2 M → W_Inquiry_findOthers_2 p1 Q N v2 M := by
  intro N
  induction N with
  | zero => intros; trivial
  | succ N IH =>
    intro v2 M h
    exact hs N _ v2 M IH h
theorem q_Inquiry_findOthers_2 {X : Option (List AI)} {N0 : Nat} {p1 : Int32} {Q : MM → Prop}   : ∀ (N : Nat), N ≤ N0 → ∀ (v2 : Int32) (M : MM), W_Inquiry_findOthers_2 p1 Q N v2 M → pM X N 13 2 [(0, .inr (.inl (some 171))), (1, .inl (.inl p1)), (2, .inl (.inl v2))] [] M (Ru Q) := by
  intro N
  induction N with
  | zero => intros; exact pM_zero
  | succ N IH =>
    intro hN v2 M h
    replace hN := Nat.le_of_succ_le hN
    replace h : B_Inquiry_findOthers_2 p1 Q N (W_Inquiry_findOthers_2 p1 Q N) v2 M := h
    refine pM_s (pMs_iln rfl rfl ?_)
    refine pM_aln rfl rfl rfl ?_
    refine pM_gr rfl rfl rfl rfl ?_
    refine pM_gi rfl rfl rfl rfl ?_
    refine pM_cge rfl rfl (fun h1 => ?_) (fun h1 => ?_)
    · replace h := h.2 h1
      exact pM_ru rfl (⟨rfl, h⟩)
    · replace h := h.1 h1
      refine pM_ic rfl ki_0 ?_
      refine pM_isn rfl rfl ?_
      refine pM_w (F2 := [(0, .inr (.inl (some 171))), (1, .inl (.inl p1)), (2, .inl (.inl v2)), (3, .inl (.inl 0))]) (fun L hL => lo_cons (lo_lk hL rfl) (lo_cons (lo_lk hL rfl) (lo_cons (lo_lk hL rfl) (lo_cons (lo_lk hL rfl) lo_nil)))) ?_
      refine q_Inquiry_findOthers_15  (fun M10 h => ?_) N (Nat.le_refl N) 0 M h
      · refine pM_ii rfl rfl rfl ki_1 ?_
        refine pM_go rfl rfl ?_
        refine pM_w (F2 := [(0, .inr (.inl (some 171))), (1, .inl (.inl p1)), (2, .inl (.inl (v2 + 1)))]) (fun L hL => lo_cons (lo_lk hL rfl) (lo_cons (lo_lk hL rfl) (lo_cons (lo_lk hL rfl) lo_nil))) ?_
        exact IH hN (v2 + 1) M10 h
/-- 13: EarCode$Inquiry.findOthers(I)V -/
def W_Inquiry_findOthers (p1 : Int32) (N : Nat) (M : MM) (Q : MM → Prop) : Prop :=
  W_Inquiry_findOthers_2 p1 Q N 0 M
theorem q_Inquiry_findOthers {X : Option (List AI)} {N : Nat} {M : MM} {p1 : Int32} {Q : MM → Prop}  (h : W_Inquiry_findOthers p1 N M Q) : pM X N 13 0 (ea_ar 0 [.inr (.inl (some 171)), .inl (.inl p1)]) [] M (Ru Q) := by
  refine pM_w (F2 := [(0, .inr (.inl (some 171))), (1, .inl (.inl p1))]) (fun L hL => lo_cons (lo_lk hL rfl) (lo_cons (lo_lk hL rfl) lo_nil)) ?_
  refine pM_ic rfl ki_0 ?_
  refine pM_isn rfl rfl ?_
  refine pM_w (F2 := [(0, .inr (.inl (some 171))), (1, .inl (.inl p1)), (2, .inl (.inl 0))]) (fun L hL => lo_cons (lo_lk hL rfl) (lo_cons (lo_lk hL rfl) (lo_cons (lo_lk hL rfl) lo_nil))) ?_
  refine q_Inquiry_findOthers_2   N (Nat.le_refl N) 0 M h
/-- 9: EarCode$Inquiry.contradicting(I)I -/
def W_Inquiry_contradicting (p1 : Int32) (N : Nat) (M : MM) (Q : Int32 → MM → Prop) : Prop :=
  W_Inquiry_clearOthers  N M (fun M2 =>
    W_Inquiry_findOthers (M2.1 9 (ni p1)) N M2 (fun M4 =>
      Q (M4.1 172 (ni p1)) M4))
theorem q_Inquiry_contradicting {X : Option (List AI)} {N : Nat} {M : MM} {p1 : Int32} {Q : Int32 → MM → Prop}  (h : W_Inquiry_contradicting p1 N M Q) : pM X N 9 0 (ea_ar 0 [.inr (.inl (some 171)), .inl (.inl p1)]) [] M (Ri Q) := by
  refine pM_w (F2 := [(0, .inr (.inl (some 171))), (1, .inl (.inl p1))]) (fun L hL => lo_cons (lo_lk hL rfl) (lo_cons (lo_lk hL rfl) lo_nil)) ?_
  refine pM_aln rfl rfl rfl ?_
  refine pM_qRu (as := [.inr (.inl (some 171))]) (T := []) rfl rfl (fun C hC => cl_v hC rfl rfl rfl rfl) rfl (q_Inquiry_clearOthers  h) (fun M2 h => ?_)
  refine pM_aln rfl rfl rfl ?_
  refine pM_aln rfl rfl rfl ?_
  refine pM_gr rfl rfl rfl rfl ?_
  refine pM_gr rfl rfl rfl rfl ?_
  refine pM_iln rfl rfl ?_
  refine pM_ai rfl rfl (one_p _) ?_
  refine pM_qRu (as := [.inr (.inl (some 171)), .inl (.inl (M2.1 9 (ni p1)))]) (T := []) rfl rfl (fun C hC => cl_v hC rfl rfl rfl rfl) rfl (q_Inquiry_findOthers  h) (fun M4 h => ?_)
  refine pM_aln rfl rfl rfl ?_
  refine pM_gr rfl rfl rfl rfl ?_
  refine pM_iln rfl rfl ?_
  refine pM_ai rfl rfl (one_p _) ?_
  exact pM_ri rfl (⟨_, rfl, h⟩)
def B_Inquiry_isRelief_2 (p1 : Int32) (M : MM) (Q : Int32 → Prop) (N : Nat) (ih : Int32 → Prop) (v2 : Int32) : Prop :=
  ((v2 < (M.1 8 1) →
    (((V_E_bit p1 v2 M) = 0 →
      ((((M.1 172 (ni v2)) &&& (p1 ^^^ (-1))) = 0 →
        ih (v2 + 1)) ∧
       (¬ ((M.1 172 (ni v2)) &&& (p1 ^^^ (-1))) = 0 →
        Q 0))) ∧
     (¬ (V_E_bit p1 v2 M) = 0 →
      ih (v2 + 1)))) ∧
   (¬ v2 < (M.1 8 1) →
    Q 1))
def W_Inquiry_isRelief_2 (p1 : Int32) (M : MM) (Q : Int32 → Prop) : Nat → Int32 → Prop
  | 0, _ => True
  | N + 1, v2 => B_Inquiry_isRelief_2 p1 M Q N (W_Inquiry_isRelief_2 p1 M Q N) v2
theorem I_Inquiry_isRelief_2 (p1 : Int32) (M : MM) (Q : Int32 → Prop) (inv : Int32 → Prop) (hs : ∀ (N : Nat) (ih : Int32 → Prop) (v2 : Int32), (∀ (v2 : Int32), inv v2 → ih v2) → inv v2 → B_Inquiry_isRelief_2 p1 M Q N ih v2) : ∀ (N : Nat) (v2 : Int32), inv v2 → W_Inquiry_isRelief_2 p1 M Q N v2 := by
  intro N
  induction N with
  | zero => intros; trivial
  | succ N IH =>
    intro v2 h
    exact hs N _ v2 IH h
theorem q_Inquiry_isRelief_2 {X : Option (List AI)} {N0 : Nat} {p1 : Int32} {M : MM} {Q : Int32 → Prop}   : ∀ (N : Nat), N ≤ N0 → ∀ (v2 : Int32), W_Inquiry_isRelief_2 p1 M Q N v2 → pM X N 11 2 [(0, .inr (.inl (some 171))), (1, .inl (.inl p1)), (2, .inl (.inl v2))] [] M (Pi Q M) := by
  intro N
  induction N with
  | zero => intros; exact pM_zero
  | succ N IH =>
    intro hN v2 h
    replace hN := Nat.le_of_succ_le hN
    replace h : B_Inquiry_isRelief_2 p1 M Q N (W_Inquiry_isRelief_2 p1 M Q N) v2 := h
    refine pM_s (pMs_iln rfl rfl ?_)
    refine pM_aln rfl rfl rfl ?_
    refine pM_gr rfl rfl rfl rfl ?_
    refine pM_gi rfl rfl rfl rfl ?_
    refine pM_cge rfl rfl (fun h1 => ?_) (fun h1 => ?_)
    · replace h := h.2 h1
      refine pM_ic rfl ki_1 ?_
      exact pM_ri rfl (⟨_, rfl, rfl, h⟩)
    · replace h := h.1 h1
      refine pM_iln rfl rfl ?_
      refine pM_iln rfl rfl ?_
      refine pM_qVi (as := [.inl (.inl p1), .inl (.inl v2)]) (T := []) rfl rfl (fun _ _ => rfl) rfl (q_E_bit ) ?_
      refine pM_zne rfl rfl (fun h2 => ?_) (fun h2 => ?_)
      · replace h := h.2 h2
        refine pM_ii rfl rfl rfl ki_1 ?_
        refine pM_go rfl rfl ?_
        refine pM_w (F2 := [(0, .inr (.inl (some 171))), (1, .inl (.inl p1)), (2, .inl (.inl (v2 + 1)))]) (fun L hL => lo_cons (lo_lk hL rfl) (lo_cons (lo_lk hL rfl) (lo_cons (lo_lk hL rfl) lo_nil))) ?_
        exact IH hN (v2 + 1) h
      · replace h := h.1 h2
        refine pM_aln rfl rfl rfl ?_
        refine pM_gr rfl rfl rfl rfl ?_
        refine pM_iln rfl rfl ?_
        refine pM_ai rfl rfl (one_p _) ?_
        refine pM_iln rfl rfl ?_
        refine pM_ic rfl ki_m1 ?_
        refine pM_xor rfl ?_
        refine pM_and rfl ?_
        refine pM_zeq rfl rfl (fun h3 => ?_) (fun h3 => ?_)
        · replace h := h.1 h3
          refine pM_ii rfl rfl rfl ki_1 ?_
          refine pM_go rfl rfl ?_
          refine pM_w (F2 := [(0, .inr (.inl (some 171))), (1, .inl (.inl p1)), (2, .inl (.inl (v2 + 1)))]) (fun L hL => lo_cons (lo_lk hL rfl) (lo_cons (lo_lk hL rfl) (lo_cons (lo_lk hL rfl) lo_nil))) ?_
          exact IH hN (v2 + 1) h
        · replace h := h.2 h3
          refine pM_ic rfl ki_0 ?_
          exact pM_ri rfl (⟨_, rfl, rfl, h⟩)
/-- 11: EarCode$Inquiry.isRelief(I)Z -/
def W_Inquiry_isRelief (p1 : Int32) (N : Nat) (M : MM) (Q : Int32 → Prop) : Prop :=
  W_Inquiry_isRelief_2 p1 M Q N 0
theorem q_Inquiry_isRelief {X : Option (List AI)} {N : Nat} {M : MM} {p1 : Int32} {Q : Int32 → Prop}  (h : W_Inquiry_isRelief p1 N M Q) : pM X N 11 0 (ea_ar 0 [.inr (.inl (some 171)), .inl (.inl p1)]) [] M (Pi Q M) := by
  refine pM_w (F2 := [(0, .inr (.inl (some 171))), (1, .inl (.inl p1))]) (fun L hL => lo_cons (lo_lk hL rfl) (lo_cons (lo_lk hL rfl) lo_nil)) ?_
  refine pM_ic rfl ki_0 ?_
  refine pM_isn rfl rfl ?_
  refine pM_w (F2 := [(0, .inr (.inl (some 171))), (1, .inl (.inl p1)), (2, .inl (.inl 0))]) (fun L hL => lo_cons (lo_lk hL rfl) (lo_cons (lo_lk hL rfl) (lo_cons (lo_lk hL rfl) lo_nil))) ?_
  refine q_Inquiry_isRelief_2   N (Nat.le_refl N) 0 h
def B_Inquiry_fewestToDie_6 (k23 : MM → Prop) (Q : Int32 → MM → Prop) (N : Nat) (ih : Int32 → MM → Prop) (v1 : Int32) (M : MM) : Prop :=
  ((v1 < 8 →
    W_Inquiry_findOthers v1 N M (fun M5 =>
      ih (v1 + 1) M5)) ∧
   (¬ v1 < 8 →
    k23 M))
def W_Inquiry_fewestToDie_6 (k23 : MM → Prop) (Q : Int32 → MM → Prop) : Nat → Int32 → MM → Prop
  | 0, _, _ => True
  | N + 1, v1, M => B_Inquiry_fewestToDie_6 k23 Q N (W_Inquiry_fewestToDie_6 k23 Q N) v1 M
theorem I_Inquiry_fewestToDie_6 (k23 : MM → Prop) (Q : Int32 → MM → Prop) (inv : Int32 → MM → Prop) (hs : ∀ (N : Nat) (ih : Int32 → MM → Prop) (v1 : Int32) (M : MM), (∀ (v1 : Int32) (M : MM), inv v1 M → ih v1 M) → inv v1 M → B_Inquiry_fewestToDie_6 k23 Q N ih v1 M) : ∀ (N : Nat) (v1 : Int32) (M : MM), inv v1 M → W_Inquiry_fewestToDie_6 k23 Q N v1 M := by
  intro N
  induction N with
  | zero => intros; trivial
  | succ N IH =>
    intro v1 M h
    exact hs N _ v1 M IH h
theorem q_Inquiry_fewestToDie_6 {X : Option (List AI)} {N0 : Nat} {k23 : MM → Prop} {Q : Int32 → MM → Prop}  (hk23 : ∀  (M : MM), k23 M → pM X N0 10 23 [(0, .inr (.inl (some 171)))] [] M (Ri Q)) : ∀ (N : Nat), N ≤ N0 → ∀ (v1 : Int32) (M : MM), W_Inquiry_fewestToDie_6 k23 Q N v1 M → pM X N 10 6 [(0, .inr (.inl (some 171))), (1, .inl (.inl v1))] [] M (Ri Q) := by
  intro N
  induction N with
  | zero => intros; exact pM_zero
  | succ N IH =>
    intro hN v1 M h
    replace hN := Nat.le_of_succ_le hN
    replace h : B_Inquiry_fewestToDie_6 k23 Q N (W_Inquiry_fewestToDie_6 k23 Q N) v1 M := h
    refine pM_s (pMs_iln rfl rfl ?_)
    refine pM_bi rfl kb_8 ?_
    refine pM_cge rfl rfl (fun h3 => ?_) (fun h3 => ?_)
    · replace h := h.2 h3
      refine pM_w (F2 := [(0, .inr (.inl (some 171)))]) (fun L hL => lo_cons (lo_lk hL rfl) lo_nil) ?_
      exact pM_le hN (hk23 _ h)
    · replace h := h.1 h3
      refine pM_aln rfl rfl rfl ?_
      refine pM_iln rfl rfl ?_
      refine pM_qRu (as := [.inr (.inl (some 171)), .inl (.inl v1)]) (T := []) rfl rfl (fun C hC => cl_v hC rfl rfl rfl rfl) rfl (q_Inquiry_findOthers  h) (fun M5 h => ?_)
      refine pM_ii rfl rfl rfl ki_1 ?_
      refine pM_go rfl rfl ?_
      refine pM_w (F2 := [(0, .inr (.inl (some 171))), (1, .inl (.inl (v1 + 1)))]) (fun L hL => lo_cons (lo_lk hL rfl) (lo_cons (lo_lk hL rfl) lo_nil)) ?_
      exact IH hN (v1 + 1) M5 h
def B_Inquiry_fewestToDie_30 (M : MM) (Q : Int32 → MM → Prop) (N : Nat) (ih : Int32 → Int32 → Int32 → Prop) (v1 : Int32) (v2 : Int32) (v3 : Int32) : Prop :=
  ((v3 < (sl 1 (M.1 8 1)) →
    (((V_Int_bitCount v3 M) < v2 →
      W_Inquiry_isRelief v3 N M (fun r9 =>
        ((r9 = 0 →
          ih v1 v2 (v3 + 1)) ∧
         (¬ r9 = 0 →
          ih v3 (V_Int_bitCount v3 M) (v3 + 1))))) ∧
     (¬ (V_Int_bitCount v3 M) < v2 →
      ih v1 v2 (v3 + 1)))) ∧
   (¬ v3 < (sl 1 (M.1 8 1)) →
    Q v1 M))
def W_Inquiry_fewestToDie_30 (M : MM) (Q : Int32 → MM → Prop) : Nat → Int32 → Int32 → Int32 → Prop
  | 0, _, _, _ => True
  | N + 1, v1, v2, v3 => B_Inquiry_fewestToDie_30 M Q N (W_Inquiry_fewestToDie_30 M Q N) v1 v2 v3
theorem I_Inquiry_fewestToDie_30 (M : MM) (Q : Int32 → MM → Prop) (inv : Int32 → Int32 → Int32 → Prop) (hs : ∀ (N : Nat) (ih : Int32 → Int32 → Int32 → Prop) (v1 : Int32) (v2 : Int32) (v3 : Int32), (∀ (v1 : Int32) (v2 : Int32) (v3 : Int32), inv v1 v2 v3 → ih v1 v2 v3) → inv v1 v2 v3 → B_Inquiry_fewestToDie_30 M Q N ih v1 v2 v3) : ∀ (N : Nat) (v1 : Int32) (v2 : Int32) (v3 : Int32), inv v1 v2 v3 → W_Inquiry_fewestToDie_30 M Q N v1 v2 v3 := by
  intro N
  induction N with
  | zero => intros; trivial
  | succ N IH =>
    intro v1 v2 v3 h
    exact hs N _ v1 v2 v3 IH h
theorem q_Inquiry_fewestToDie_30 {X : Option (List AI)} {N0 : Nat} {M : MM} {Q : Int32 → MM → Prop}   : ∀ (N : Nat), N ≤ N0 → ∀ (v1 : Int32) (v2 : Int32) (v3 : Int32), W_Inquiry_fewestToDie_30 M Q N v1 v2 v3 → pM X N 10 30 [(0, .inr (.inl (some 171))), (1, .inl (.inl v1)), (2, .inl (.inl v2)), (3, .inl (.inl v3))] [] M (Ri Q) := by
  intro N
  induction N with
  | zero => intros; exact pM_zero
  | succ N IH =>
    intro hN v1 v2 v3 h
    replace hN := Nat.le_of_succ_le hN
    replace h : B_Inquiry_fewestToDie_30 M Q N (W_Inquiry_fewestToDie_30 M Q N) v1 v2 v3 := h
    refine pM_s (pMs_iln rfl rfl ?_)
    refine pM_ic rfl ki_1 ?_
    refine pM_aln rfl rfl rfl ?_
    refine pM_gr rfl rfl rfl rfl ?_
    refine pM_gi rfl rfl rfl rfl ?_
    refine pM_shl rfl ?_
    refine pM_cge rfl rfl (fun h7 => ?_) (fun h7 => ?_)
    · replace h := h.2 h7
      refine pM_iln rfl rfl ?_
      exact pM_ri rfl (⟨_, rfl, h⟩)
    · replace h := h.1 h7
      refine pM_iln rfl rfl ?_
      refine pM_qVi (as := [.inl (.inl v3)]) (T := []) rfl rfl (fun _ _ => rfl) rfl (q_Int_bitCount ) ?_
      refine pM_is rfl rfl ?_
      refine pM_il rfl rfl ?_
      refine pM_iln rfl rfl ?_
      refine pM_cge rfl rfl (fun h8 => ?_) (fun h8 => ?_)
      · replace h := h.2 h8
        refine pM_ii rfl rfl rfl ki_1 ?_
        refine pM_go rfl rfl ?_
        refine pM_w (F2 := [(0, .inr (.inl (some 171))), (1, .inl (.inl v1)), (2, .inl (.inl v2)), (3, .inl (.inl (v3 + 1)))]) (fun L hL => lo_cons (lo_lk hL rfl) (lo_cons (lo_lk hL rfl) (lo_cons (lo_lk hL rfl) (lo_cons (lo_lk hL rfl) lo_nil)))) ?_
        exact IH hN v1 v2 (v3 + 1) h
      · replace h := h.1 h8
        refine pM_aln rfl rfl rfl ?_
        refine pM_iln rfl rfl ?_
        refine pM_qPi (as := [.inr (.inl (some 171)), .inl (.inl v3)]) (T := []) rfl rfl (fun C hC => cl_v hC rfl rfl rfl rfl) rfl (q_Inquiry_isRelief  h) (fun r9 h => ?_)
        refine pM_zeq rfl rfl (fun h11 => ?_) (fun h11 => ?_)
        · replace h := h.1 h11
          refine pM_ii rfl rfl rfl ki_1 ?_
          refine pM_go rfl rfl ?_
          refine pM_w (F2 := [(0, .inr (.inl (some 171))), (1, .inl (.inl v1)), (2, .inl (.inl v2)), (3, .inl (.inl (v3 + 1)))]) (fun L hL => lo_cons (lo_lk hL rfl) (lo_cons (lo_lk hL rfl) (lo_cons (lo_lk hL rfl) (lo_cons (lo_lk hL rfl) lo_nil)))) ?_
          exact IH hN v1 v2 (v3 + 1) h
        · replace h := h.2 h11
          refine pM_il rfl rfl ?_
          refine pM_isn rfl rfl ?_
          refine pM_iln rfl rfl ?_
          refine pM_isn rfl rfl ?_
          refine pM_ii rfl rfl rfl ki_1 ?_
          refine pM_go rfl rfl ?_
          refine pM_w (F2 := [(0, .inr (.inl (some 171))), (1, .inl (.inl v3)), (2, .inl (.inl (V_Int_bitCount v3 M))), (3, .inl (.inl (v3 + 1)))]) (fun L hL => lo_cons (lo_lk hL rfl) (lo_cons (lo_lk hL rfl) (lo_cons (lo_lk hL rfl) (lo_cons (lo_lk hL rfl) lo_nil)))) ?_
          exact IH hN v3 (V_Int_bitCount v3 M) (v3 + 1) h
/-- 10: EarCode$Inquiry.fewestToDie()I -/
def W_Inquiry_fewestToDie  (N : Nat) (M : MM) (Q : Int32 → MM → Prop) : Prop :=
  W_Inquiry_clearOthers  N M (fun M2 =>
    W_Inquiry_fewestToDie_6 (fun M6 =>
      W_Inquiry_fewestToDie_30 M6 Q N 0 13 0) Q N 0 M2)
theorem q_Inquiry_fewestToDie {X : Option (List AI)} {N : Nat} {M : MM}  {Q : Int32 → MM → Prop}  (h : W_Inquiry_fewestToDie  N M Q) : pM X N 10 0 (ea_ar 0 [.inr (.inl (some 171))]) [] M (Ri Q) := by
  refine pM_w (F2 := [(0, .inr (.inl (some 171)))]) (fun L hL => lo_cons (lo_lk hL rfl) lo_nil) ?_
  refine pM_aln rfl rfl rfl ?_
  refine pM_qRu (as := [.inr (.inl (some 171))]) (T := []) rfl rfl (fun C hC => cl_v hC rfl rfl rfl rfl) rfl (q_Inquiry_clearOthers  h) (fun M2 h => ?_)
  refine pM_ic rfl ki_0 ?_
  refine pM_isn rfl rfl ?_
  refine pM_w (F2 := [(0, .inr (.inl (some 171))), (1, .inl (.inl 0))]) (fun L hL => lo_cons (lo_lk hL rfl) (lo_cons (lo_lk hL rfl) lo_nil)) ?_
  refine q_Inquiry_fewestToDie_6  (fun M6 h => ?_) N (Nat.le_refl N) 0 M2 h
  · refine pM_ic rfl ki_0 ?_
    refine pM_isn rfl rfl ?_
    refine pM_bi rfl kb_13 ?_
    refine pM_isn rfl rfl ?_
    refine pM_ic rfl ki_0 ?_
    refine pM_isn rfl rfl ?_
    refine pM_w (F2 := [(0, .inr (.inl (some 171))), (1, .inl (.inl 0)), (2, .inl (.inl 13)), (3, .inl (.inl 0))]) (fun L hL => lo_cons (lo_lk hL rfl) (lo_cons (lo_lk hL rfl) (lo_cons (lo_lk hL rfl) (lo_cons (lo_lk hL rfl) lo_nil)))) ?_
    refine q_Inquiry_fewestToDie_30   N (Nat.le_refl N) 0 13 0 h
def B_Inquiry_knownTogether_4 (p1 : Int32) (M : MM) (Q : Int32 → Prop) (N : Nat) (ih : Int32 → Int32 → Prop) (v2 : Int32) (v3 : Int32) : Prop :=
  ((v3 < (M.1 18 0) →
    (((V_E_bit p1 v3 M) = 1 →
      ih (v2 ||| (M.1 19 (ni v3))) (v3 + 1)) ∧
     (¬ (V_E_bit p1 v3 M) = 1 →
      ih v2 (v3 + 1)))) ∧
   (¬ v3 < (M.1 18 0) →
    Q v2))
def W_Inquiry_knownTogether_4 (p1 : Int32) (M : MM) (Q : Int32 → Prop) : Nat → Int32 → Int32 → Prop
  | 0, _, _ => True
  | N + 1, v2, v3 => B_Inquiry_knownTogether_4 p1 M Q N (W_Inquiry_knownTogether_4 p1 M Q N) v2 v3
theorem I_Inquiry_knownTogether_4 (p1 : Int32) (M : MM) (Q : Int32 → Prop) (inv : Int32 → Int32 → Prop) (hs : ∀ (N : Nat) (ih : Int32 → Int32 → Prop) (v2 : Int32) (v3 : Int32), (∀ (v2 : Int32) (v3 : Int32), inv v2 v3 → ih v2 v3) → inv v2 v3 → B_Inquiry_knownTogether_4 p1 M Q N ih v2 v3) : ∀ (N : Nat) (v2 : Int32) (v3 : Int32), inv v2 v3 → W_Inquiry_knownTogether_4 p1 M Q N v2 v3 := by
  intro N
  induction N with
  | zero => intros; trivial
  | succ N IH =>
    intro v2 v3 h
    exact hs N _ v2 v3 IH h
theorem q_Inquiry_knownTogether_4 {X : Option (List AI)} {N0 : Nat} {p1 : Int32} {M : MM} {Q : Int32 → Prop}   : ∀ (N : Nat), N ≤ N0 → ∀ (v2 : Int32) (v3 : Int32), W_Inquiry_knownTogether_4 p1 M Q N v2 v3 → pM X N 16 4 [(0, .inr (.inl (some 171))), (1, .inl (.inl p1)), (2, .inl (.inl v2)), (3, .inl (.inl v3))] [] M (Pi Q M) := by
  intro N
  induction N with
  | zero => intros; exact pM_zero
  | succ N IH =>
    intro hN v2 v3 h
    replace hN := Nat.le_of_succ_le hN
    replace h : B_Inquiry_knownTogether_4 p1 M Q N (W_Inquiry_knownTogether_4 p1 M Q N) v2 v3 := h
    refine pM_s (pMs_iln rfl rfl ?_)
    refine pM_aln rfl rfl rfl ?_
    refine pM_gr rfl rfl rfl rfl ?_
    refine pM_gi rfl rfl rfl rfl ?_
    refine pM_cge rfl rfl (fun h1 => ?_) (fun h1 => ?_)
    · replace h := h.2 h1
      refine pM_iln rfl rfl ?_
      exact pM_ri rfl (⟨_, rfl, rfl, h⟩)
    · replace h := h.1 h1
      refine pM_iln rfl rfl ?_
      refine pM_iln rfl rfl ?_
      refine pM_qVi (as := [.inl (.inl p1), .inl (.inl v3)]) (T := []) rfl rfl (fun _ _ => rfl) rfl (q_E_bit ) ?_
      refine pM_ic rfl ki_1 ?_
      refine pM_cne rfl rfl (fun h2 => ?_) (fun h2 => ?_)
      · replace h := h.2 h2
        refine pM_ii rfl rfl rfl ki_1 ?_
        refine pM_go rfl rfl ?_
        refine pM_w (F2 := [(0, .inr (.inl (some 171))), (1, .inl (.inl p1)), (2, .inl (.inl v2)), (3, .inl (.inl (v3 + 1)))]) (fun L hL => lo_cons (lo_lk hL rfl) (lo_cons (lo_lk hL rfl) (lo_cons (lo_lk hL rfl) (lo_cons (lo_lk hL rfl) lo_nil)))) ?_
        exact IH hN v2 (v3 + 1) h
      · replace h := h.1 h2
        refine pM_iln rfl rfl ?_
        refine pM_aln rfl rfl rfl ?_
        refine pM_gr rfl rfl rfl rfl ?_
        refine pM_gr rfl rfl rfl rfl ?_
        refine pM_iln rfl rfl ?_
        refine pM_ai rfl rfl (one_p _) ?_
        refine pM_or rfl ?_
        refine pM_isn rfl rfl ?_
        refine pM_ii rfl rfl rfl ki_1 ?_
        refine pM_go rfl rfl ?_
        refine pM_w (F2 := [(0, .inr (.inl (some 171))), (1, .inl (.inl p1)), (2, .inl (.inl (v2 ||| (M.1 19 (ni v3))))), (3, .inl (.inl (v3 + 1)))]) (fun L hL => lo_cons (lo_lk hL rfl) (lo_cons (lo_lk hL rfl) (lo_cons (lo_lk hL rfl) (lo_cons (lo_lk hL rfl) lo_nil)))) ?_
        exact IH hN (v2 ||| (M.1 19 (ni v3))) (v3 + 1) h
/-- 16: EarCode$Inquiry.knownTogether(I)I -/
def W_Inquiry_knownTogether (p1 : Int32) (N : Nat) (M : MM) (Q : Int32 → Prop) : Prop :=
  W_Inquiry_knownTogether_4 p1 M Q N 0 0
theorem q_Inquiry_knownTogether {X : Option (List AI)} {N : Nat} {M : MM} {p1 : Int32} {Q : Int32 → Prop}  (h : W_Inquiry_knownTogether p1 N M Q) : pM X N 16 0 (ea_ar 0 [.inr (.inl (some 171)), .inl (.inl p1)]) [] M (Pi Q M) := by
  refine pM_w (F2 := [(0, .inr (.inl (some 171))), (1, .inl (.inl p1))]) (fun L hL => lo_cons (lo_lk hL rfl) (lo_cons (lo_lk hL rfl) lo_nil)) ?_
  refine pM_ic rfl ki_0 ?_
  refine pM_isn rfl rfl ?_
  refine pM_ic rfl ki_0 ?_
  refine pM_isn rfl rfl ?_
  refine pM_w (F2 := [(0, .inr (.inl (some 171))), (1, .inl (.inl p1)), (2, .inl (.inl 0)), (3, .inl (.inl 0))]) (fun L hL => lo_cons (lo_lk hL rfl) (lo_cons (lo_lk hL rfl) (lo_cons (lo_lk hL rfl) (lo_cons (lo_lk hL rfl) lo_nil)))) ?_
  refine q_Inquiry_knownTogether_4   N (Nat.le_refl N) 0 0 h
