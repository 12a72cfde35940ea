/-! WHAT THE REFERENCE'S CLAUSES SAY -/
theorem i32_a (a b : Nat) : i32 a + i32 b = i32 (a + b) := by
  unfold i32
  rw [Int32.ofNat_add]
theorem i32_m (a b : Nat) : i32 a * i32 b = i32 (a * b) := by
  unfold i32
  rw [Int32.ofNat_mul]
theorem rrun_0 {td : Nat → Int32} {pl wh kn dy : Int32} {i : Nat} {v : RV} : rrun td pl wh kn dy i 0 v = v := rfl
theorem rrun_s {td : Nat → Int32} {pl wh kn dy : Int32} {i n : Nat} {v : RV} : rrun td pl wh kn dy i (n + 1) v = rrun td pl wh kn dy (i + 1) n (rst pl wh kn dy (td (2 * i)) (td (2 * i + 1)) v) := rfl
/-- how many clauses one knows -/
def knw (M : MM) (c : Int32) : Int32 := V_Int_bitCount (V_m_of c 1 M) M
theorem sp_isOf {k N : Nat} {M : MM} {L : LWT} {m c dy : Int32} {Q : Int32 → MM → Prop} (hL : LawR M L) (hk : k < L.1) (hr : rng (rm m 8) c (knw M c) dy) (hQ : ∀ val, Q (b32 (decide (L.2.2.1 k = m / 8) && L.2.2.2 k (rm m 8) c (knw M c) dy)) (svM M val)) : W_m_isOf (i32 k) m c dy N M Q := by
  obtain ⟨l0, l1⟩ := hL
  obtain ⟨m1, m2, m3, m4, m5⟩ := l1 k hk
  have q1 : ni (4 * i32 k + 1) = 4 * k + 1 := by
    rw [show (4 : Int32) * i32 k = i32 (4 * k) from i32_m 4 k, i32_s, ni_i (by omega)]
  have q2 : ni (4 * i32 k + 2) = 4 * k + 2 := by
    rw [show (4 : Int32) * i32 k = i32 (4 * k) from i32_m 4 k, show i32 (4 * k) + 2 = i32 (4 * k + 2) from i32_a (4 * k) 2, ni_i (by omega)]
  have q3 : ni (4 * i32 k + 3) = 4 * k + 3 := by
    rw [show (4 : Int32) * i32 k = i32 (4 * k) from i32_m 4 k, show i32 (4 * k) + 3 = i32 (4 * k + 3) from i32_a (4 * k) 3, ni_i (by omega)]
  unfold W_m_isOf V_m_deedOf
  rw [q1, m2, q2]
  refine ⟨fun hd => ?_, fun hd => ?_⟩
  · rw [decide_eq_true hd, Bool.true_and] at hQ
    have hi0 : ni (M.1 201 (4 * k + 2)) < 2147483648 := ni_ge _
    rw [i32_ni m3]
    refine I_m_isOf_29 _ _ _ _ Q (fun v5 v6 M' => ∃ i val, i < 2147483648 ∧ v6 = i32 i ∧ M' = svM M val ∧ rfin (rrun (M.1 202) (rm m 8) c (knw M c) dy i (ni (M.1 201 (4 * k + 3)) - i) (v5, val)) = L.2.2.2 k (rm m 8) c (knw M c) dy) (fun N ih v5 v6 M' hih hv => ?_) N _ _ _ ⟨ni (M.1 201 (4 * k + 2)), M.1 207, hi0, rfl, svM_id.symm, m5 _ _ _ _ _ hr⟩
    obtain ⟨i, val, hi, rfl, rfl, e⟩ := hv
    unfold B_m_isOf_29
    rw [q3]
    rw [show (svM M val).1 201 (4 * k + 3) = M.1 201 (4 * k + 3) from svM_n (by decide)]
    refine ⟨fun hlt => ?_, fun hlt => ?_⟩
    · rw [ni_lt (by rw [i32_i hi]; omega), ni_i hi] at hlt
      have e1 : ni (M.1 201 (4 * k + 3)) - i = (ni (M.1 201 (4 * k + 3)) - (i + 1)) + 1 := by omega
      rw [e1, rrun_s] at e
      have p1 : ni (2 * i32 i) = 2 * i := by
        rw [show (2 : Int32) * i32 i = i32 (2 * i) from i32_m 2 i, ni_i (by omega)]
      have p2 : ni (2 * i32 i + 1) = 2 * i + 1 := by
        rw [show (2 : Int32) * i32 i = i32 (2 * i) from i32_m 2 i, i32_s, ni_i (by omega)]
      rw [p1, p2]
      simp only [show ∀ j, (svM M val).1 202 j = M.1 202 j from fun j => svM_n (by decide), show ∀ j, (svM M val).1 207 j = val j from fun j => svM_e]
      have nx : ∀ v' : RV, rst (rm m 8) c (knw M c) dy (M.1 202 (2 * i)) (M.1 202 (2 * i + 1)) (v5, val) = v' → ih v'.1 (i32 i + 1) (svM M v'.2) := fun v' hv' => hih _ _ _ ⟨i + 1, v'.2, by omega, i32_s i, rfl, by rw [← hv']; exact e⟩
      generalize M.1 202 (2 * i) = op at nx ⊢
      generalize M.1 202 (2 * i + 1) = n at nx ⊢
      unfold rst at nx
      refine ⟨fun h5 => ⟨fun h9 => ?_, fun h9 => ?_⟩, fun h5 => ?_⟩
      · rw [if_pos h5, if_pos h9] at nx
        have := nx _ rfl
        rw [svM_w]
        exact this
      · rw [if_pos h5, if_neg h9] at nx
        have nx2 : ∀ x, rop op (val (ni ((v5 + (-1)) - 1))) (val (ni (v5 + (-1)))) = x → ih (v5 + (-1)) (i32 i + 1) (wi (svM M val) 207 (ni ((v5 + (-1)) - 1)) x) := fun x hx => by
          rw [svM_w, ← hx]
          have h3 := nx _ rfl
          dsimp only at h3
          exact h3
        clear nx
        generalize val (ni ((v5 + (-1)) - 1)) = x at nx2 ⊢
        generalize val (ni (v5 + (-1))) = y at nx2 ⊢
        unfold rop at nx2
        have c6 : ∀ z : Int32, (op = 6 → ih (v5 + (-1)) (i32 i + 1) (wi (svM M val) 207 (ni ((v5 + (-1)) - 1)) (x + y))) := fun z h6 => nx2 _ (if_pos h6)
        refine ⟨fun h7 => ⟨fun hc => ⟨c6 0, fun h6 => ?_⟩, fun hc => ⟨c6 0, fun h6 => ?_⟩⟩, fun h7 => ⟨fun h8 => ⟨fun hc => ⟨c6 0, fun h6 => ?_⟩, fun hc => ⟨c6 0, fun h6 => ?_⟩⟩, fun h8 => ⟨fun h10 => ⟨fun hc => ⟨c6 0, fun h6 => ?_⟩, fun hc => ⟨c6 0, fun h6 => ?_⟩⟩, fun h10 => ⟨fun hc => ⟨c6 0, fun h6 => ?_⟩, fun hc => ⟨c6 0, fun h6 => ?_⟩⟩⟩⟩⟩
        · exact nx2 1 (by rw [if_neg h6, if_pos h7, decide_eq_true hc]; rfl)
        · exact nx2 0 (by rw [if_neg h6, if_pos h7, decide_eq_false hc]; rfl)
        · exact nx2 1 (by rw [if_neg h6, if_neg h7, if_pos h8, decide_eq_true hc]; rfl)
        · exact nx2 0 (by rw [if_neg h6, if_neg h7, if_pos h8, decide_eq_false hc]; rfl)
        · exact nx2 1 (by rw [if_neg h6, if_neg h7, if_neg h8, if_pos h10, decide_eq_true hc]; rfl)
        · exact nx2 0 (by rw [if_neg h6, if_neg h7, if_neg h8, if_pos h10, decide_eq_false hc]; rfl)
        · exact nx2 1 (by rw [if_neg h6, if_neg h7, if_neg h8, if_neg h10, decide_eq_true hc]; rfl)
        · exact nx2 0 (by rw [if_neg h6, if_neg h7, if_neg h8, if_neg h10, decide_eq_false hc]; rfl)
      · rw [if_neg h5] at nx
        have := nx _ rfl
        rw [svM_w]
        exact this
    · rw [ni_lt (by rw [i32_i hi]; omega), ni_i hi] at hlt
      have e1 : ni (M.1 201 (4 * k + 3)) - i = 0 := by omega
      rw [e1, rrun_0] at e
      have hQ' := hQ val
      rw [← e] at hQ'
      unfold rfin at hQ'
      dsimp only at hQ'
      refine ⟨fun h1 => ?_, fun h1 => ⟨fun h2 => ?_, fun h2 => ?_⟩⟩
      · rw [decide_eq_true h1, Bool.true_or] at hQ'; exact hQ'
      · rw [show (svM M val).1 207 (ni 0) = val 0 from svM_e] at h2
        rw [decide_eq_true h2, Bool.or_true] at hQ'; exact hQ'
      · rw [show (svM M val).1 207 (ni 0) = val 0 from svM_e] at h2
        rw [decide_eq_false h1, decide_eq_false h2] at hQ'; exact hQ'
  · rw [decide_eq_false hd, Bool.false_and] at hQ
    have := hQ (M.1 207)
    rw [svM_id] at this
    exact this
theorem LawR_sv {M : MM} {L : LWT} (h : LawR M L) (val : Nat → Int32) : LawR (svM M val) L := h
theorem sp_saying {N : Nat} {M : MM} {L : LWT} {set d m c dy : Int32} {Q : Int32 → MM → Prop} (hL : LawR M L) (hn : V_m_clauses M = i32 L.1) (hr : rng (rm m 8) c (knw M c) dy) (hQ : ∀ val, Q (bs (fun k => tb set k && bear L d m c (knw M c) dy k) L.1) (svM M val)) : W_m_saying set d m c dy N M Q := by
  have l0 := hL.1
  unfold W_m_saying
  refine I_m_saying_6 _ _ _ _ _ Q (fun acc v M' => ∃ j val, j ≤ L.1 ∧ v = i32 j ∧ M' = svM M val ∧ acc = bs (fun k => tb set k && bear L d m c (knw M c) dy k) j) (fun N ih acc v M' hih hv => ?_) N _ _ _ ⟨0, M.1 207, by omega, rfl, svM_id.symm, rfl⟩
  obtain ⟨j, val, hj, rfl, rfl, rfl⟩ := hv
  unfold B_m_saying_6
  rw [show V_m_clauses (svM M val) = i32 L.1 from hn, i32_lt (by omega) (by omega)]
  refine ⟨fun hlt => ?_, fun hlt => ?_⟩
  · have nx : ∀ val', ih (bs (fun k => tb set k && bear L d m c (knw M c) dy k) (j + 1)) (i32 j + 1) (svM M val') := fun val' => hih _ _ _ ⟨j + 1, val', by omega, i32_s j, rfl, rfl⟩
    rw [bs_s] at nx
    unfold bear at nx
    obtain ⟨m1, m2, m3, m4⟩ := hL.2 j hlt
    have q0 : ni (4 * i32 j) = 4 * j := by
      rw [show (4 : Int32) * i32 j = i32 (4 * j) from i32_m 4 j, ni_i (by omega)]
    unfold V_m_has V_m_demands
    rw [q0, show (svM M val).1 201 (4 * j) = M.1 201 (4 * j) from svM_n (by decide), m1, Int32.or_zero]
    by_cases hs : tb set j = true
    · rw [if_pos ((bt_1 (by omega)).mpr hs)]
      refine ⟨fun h => absurd h (by decide), fun _ => ⟨fun hd => ?_, fun hd => ?_⟩⟩
      · refine sp_isOf (L := L) (LawR_sv hL val) hlt hr (fun val' => ?_)
        rw [svM_s]
        have nx' := nx val'
        rw [hs, decide_eq_true hd] at nx'
        simp only [Bool.true_and] at nx'
        rw [show knw (svM M val) c = knw M c from rfl]
        cases hT : (decide (L.2.2.1 j = m / 8) && L.2.2.2 j (rm m 8) c (knw M c) dy) with
        | true =>
          rw [hT] at nx'
          exact ⟨fun h => absurd h (by decide), fun _ => nx'⟩
        | false =>
          rw [hT] at nx'
          exact ⟨fun _ => nx', fun h => absurd rfl h⟩
      · have nx' := nx val
        rw [decide_eq_false hd] at nx'
        simp only [Bool.false_and, Bool.and_false, Bool.false_eq_true, if_false] at nx'
        exact nx'
    · rw [if_neg (fun h => hs ((bt_1 (by omega)).mp h))]
      have nx' := nx val
      simp only [hs, Bool.false_and, Bool.false_eq_true, if_false] at nx'
      exact ⟨fun _ => nx', fun h => absurd rfl h⟩
  · obtain rfl : j = L.1 := by omega
    exact hQ val
