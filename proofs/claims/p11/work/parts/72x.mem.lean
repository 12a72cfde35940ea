/-! WHAT IS REMEMBERED -/
def lkM (M : MM) (a P b R n : Nat) : MM := (fun c j => if c = b ∧ R ≤ j ∧ j < R + n then M.1 a (P + (j - R)) else M.1 c j, M.2)
def lkS (M : MM) (a P b R n : Nat) : MM := (M.1, fun c j => if c = b ∧ R ≤ j ∧ j < R + n then M.2 a (P + (j - R)) else M.2 c j)
section LK
variable {M : MM} {a b P R N : Nat} {Q : MM → Prop}
theorem lkM_0 : lkM M a P b R 0 = M := by
  unfold lkM
  apply Prod.ext
  · funext c j
    exact if_neg (by omega)
  · rfl
theorem lkS_0 : lkS M a P b R 0 = M := by
  unfold lkS
  apply Prod.ext
  · rfl
  · funext c j
    exact if_neg (by omega)
theorem lkM_s {k : Nat} (hk : k < 388) (hd : a ≠ b ∨ R + 388 ≤ P) : wi (lkM M a P b R k) b (R + k) ((lkM M a P b R k).1 a (P + k)) = lkM M a P b R (k + 1) := by
  unfold wi lkM up
  apply Prod.ext
  · funext c j
    dsimp only
    rw [if_neg (show ¬ (a = b ∧ R ≤ P + k ∧ P + k < R + k) by omega)]
    by_cases h : c = b ∧ j = R + k
    · obtain ⟨rfl, rfl⟩ := h
      rw [if_pos ⟨rfl, rfl⟩, if_pos (show c = c ∧ R ≤ R + k ∧ R + k < R + (k + 1) by omega), show P + (R + k - R) = P + k by omega]
    · rw [if_neg h]
      by_cases h2 : c = b ∧ R ≤ j ∧ j < R + k
      · rw [if_pos h2, if_pos (by omega)]
      · rw [if_neg h2, if_neg (by omega)]
  · rfl
theorem lkS_s {k : Nat} (hk : k < 10) (hd : a ≠ b ∨ R + 10 ≤ P) : wj (lkS M a P b R k) b (R + k) ((lkS M a P b R k).2 a (P + k)) = lkS M a P b R (k + 1) := by
  unfold wj lkS up
  apply Prod.ext
  · rfl
  · funext c j
    dsimp only
    rw [if_neg (show ¬ (a = b ∧ R ≤ P + k ∧ P + k < R + k) by omega)]
    by_cases h : c = b ∧ j = R + k
    · obtain ⟨rfl, rfl⟩ := h
      rw [if_pos ⟨rfl, rfl⟩, if_pos (show c = c ∧ R ≤ R + k ∧ R + k < R + (k + 1) by omega), show P + (R + k - R) = P + k by omega]
    · rw [if_neg h]
      by_cases h2 : c = b ∧ R ≤ j ∧ j < R + k
      · rw [if_pos h2, if_pos (by omega)]
      · rw [if_neg h2, if_neg (by omega)]
theorem sp_likens (hP : P < 100000) (hR : R < 100000) (hd : a ≠ b ∨ R + 388 ≤ P) (hQ : Q (lkM M a P b R 388)) : W_m_likens a (i32 P) b (i32 R) N M Q := by
  unfold W_m_likens
  refine I_m_likens_3 a _ b _ Q (fun v M' => ∃ k, k ≤ 388 ∧ v = i32 k ∧ M' = lkM M a P b R k) (fun N ih v M' hih hv => ?_) N _ _ ⟨0, by omega, rfl, lkM_0.symm⟩
  obtain ⟨k, hk, rfl, rfl⟩ := hv
  unfold B_m_likens_3
  rw [show i32 k < 388 ↔ k < 388 from i32_lt (k := 388) (by omega) (by omega)]
  refine ⟨fun h => ?_, fun h => ?_⟩
  · rw [i32_a, i32_a, ni_i (by omega), ni_i (by omega), lkM_s h hd]
    exact hih _ _ ⟨k + 1, by omega, i32_s k, rfl⟩
  · obtain rfl : k = 388 := by omega
    exact hQ
theorem sp_likensS (hP : P < 100000) (hR : R < 100000) (hd : a ≠ b ∨ R + 10 ≤ P) (hQ : Q (lkS M a P b R 10)) : W_m_likensSeen a (i32 P) b (i32 R) N M Q := by
  unfold W_m_likensSeen
  refine I_m_likensSeen_3 a _ b _ Q (fun v M' => ∃ k, k ≤ 10 ∧ v = i32 k ∧ M' = lkS M a P b R k) (fun N ih v M' hih hv => ?_) N _ _ ⟨0, by omega, rfl, lkS_0.symm⟩
  obtain ⟨k, hk, rfl, rfl⟩ := hv
  unfold B_m_likensSeen_3
  rw [show i32 k < 10 ↔ k < 10 from i32_lt (k := 10) (by omega) (by omega)]
  refine ⟨fun h => ?_, fun h => ?_⟩
  · rw [i32_a, i32_a, ni_i (by omega), ni_i (by omega), lkS_s h hd]
    exact hih _ _ ⟨k + 1, by omega, i32_s k, rfl⟩
  · obtain rfl : k = 10 := by omega
    exact hQ
end LK
/-- the remembered rows, the latest first -/
abbrev HW : Type := Nat → RW × RS
def hpush (x : RW × RS) (h : HW) : HW := fun i => match i with
  | 0 => x
  | i + 1 => h i
def CM (M : MM) (m : Nat) (h : HW) : Prop := m ≤ 10 ∧ M.1 44 2 = i32 m ∧ (0 ≤ (M.1 44 1).toInt ∧ (M.1 44 1).toInt < 10) ∧ ∀ i, i < m → CW M (46 + 12 * ((ni (M.1 44 1) + 9 - i) % 10)) (h i).1 (h i).2
def RMm (M : MM) (m : Nat) (h : HW) : Prop := m ≤ 10 ∧ M.1 190 12 = i32 m ∧ ∀ i, i < m → (∀ k, k < 388 → M.1 195 (388 * (m - 1 - i) + k) = (h i).1 k) ∧ ∀ c, c < 10 → M.2 200 (10 * (m - 1 - i) + c) = (h i).2 c
theorem fpb_out {A B b j : Nat} (h : b < A ∨ A + 11 < b) : fpm (fp_World_become A B) b j = false := by
  unfold fpm
  rw [List.any_eq_false]
  intro q hq
  unfold fp_World_become at hq
  simp only [List.mem_cons, List.not_mem_nil, or_false] at hq
  have : ∀ x, A ≤ x → x ≤ A + 11 → ¬ (Nat.ble x b && Nat.ble b x) = true := fun x h1 h2 h3 => by
    rw [Bool.and_eq_true] at h3
    have := Nat.le_of_ble_eq_true h3.1
    have := Nat.le_of_ble_eq_true h3.2
    omega
  intro hh
  rw [Bool.and_eq_true] at hh
  have h2 : A ≤ q.1 ∧ q.1 ≤ A + 11 ∧ q.2.1 = q.1 := by
    rcases hq with rfl | rfl | rfl | rfl | rfl | rfl | rfl | rfl | rfl | rfl | rfl | rfl | rfl | rfl | rfl | rfl | rfl | rfl | rfl | rfl | rfl | rfl <;> exact ⟨by dsimp only; omega, by dsimp only; omega, rfl⟩
  rw [h2.2.2] at hh
  exact this _ h2.1 h2.2.1 hh.1
/-- what another world is, when one is written -/
theorem CW_oth {M M' : MM} {A B a : Nat} {w : RW} {s : RS} (h : CW M a w s) (he : Eqo (fp_World_become A B) M M') (hd : a + 12 ≤ A ∨ A + 12 ≤ a) : CW M' a w s :=
  CW_fr h (fun b j h1 h2 => he b j (fpb_out (by omega)))
theorem CW_44 {M : MM} {k a : Nat} {x : Int32} {w : RW} {s : RS} (h : CW M a w s) (ha : a ≠ 44) (hd : a + 11 < 44 ∨ 44 < a) : CW (wi M 44 k x) a w s :=
  CW_fr h (fun b j h1 h2 => ⟨wi_1n (by omega), rfl⟩)
theorem c_rem {M : MM} {m N : Nat} {h : HW} {w : RW} {s : RS} {Q : MM → Prop} (hm : CM M m h) (hw : CW M 18 w s) (hQ : ∀ M', CM M' (min (m + 1) 10) (hpush (w, s) h) → CW M' 18 w s → Eqo fp_Memory_remember M M' → Q M') : W_Memory_remember N M Q := by
  obtain ⟨m1, m2, m3, m4⟩ := hm
  have ee := i32_ni m3.1
  have eb : ni (M.1 44 1) < 10 := by unfold ni; omega
  refine and_Memory_remember (Q1 := fun M' => CM M' (min (m + 1) 10) (hpush (w, s) h) ∧ CW M' 18 w s) (fun M' h1 h2 => hQ M' h1.1 h1.2 h2) ?_ (an_Memory_remember (Q := fun M' => Eqo fp_Memory_remember M M') (fun M1 h => h))
  unfold W_Memory_remember
  intro _
  generalize hg : ni (M.1 44 1) = e at *
  refine sp_become (Or.inr (by omega)) hw (fun M3 h3 e3 => ?_)
  have x1 : M3.1 44 1 = M.1 44 1 := (e3 44 1 (fpb_out (by omega))).1
  have x2 : M3.1 44 2 = M.1 44 2 := (e3 44 2 (fpb_out (by omega))).1
  rw [wi_1n (by omega), x1, x2, ee, m2, i32_s, i32_s, show rm (i32 (e + 1)) 10 = i32 ((e + 1) % 10) from rm_n (y := 10) (by omega) (by omega)]
  have em : mn (i32 (m + 1)) 10 = i32 (min (m + 1) 10) := by
    unfold mn
    by_cases hl : m = 10
    · subst hl; decide
    · rw [if_neg (by
        rw [show (10 : Int32) < i32 (m + 1) ↔ 10 < m + 1 from i32_lt (j := 10) (by omega) (by omega)]
        omega)]
      rw [show min (m + 1) 10 = m + 1 by omega]
  rw [em]
  have tr : ∀ z, z < 10 → ∀ w' s', CW M3 (46 + 12 * z) w' s' → CW (wi (wi M3 44 1 (i32 ((e + 1) % 10))) 44 2 (i32 (min (m + 1) 10))) (46 + 12 * z) w' s' := fun z hz w' s' hh => CW_44 (CW_44 hh (by omega) (by omega)) (by omega) (by omega)
  refine ⟨⟨by omega, wi_1e, ?_, fun i hi => ?_⟩, CW_44 (CW_44 (CW_oth hw e3 (by omega)) (by omega) (by omega)) (by omega) (by omega)⟩
  · rw [wi_1n (by omega), wi_1e, i32_i (by omega)]
    omega
  · rw [show ni ((wi (wi M3 44 1 (i32 ((e + 1) % 10))) 44 2 (i32 (min (m + 1) 10))).1 44 1) = (e + 1) % 10 from by rw [wi_1n (by omega), wi_1e, ni_i (by omega)]]
    match i, hi with
    | 0, _ =>
      rw [show ((e + 1) % 10 + 9 - 0) % 10 = e by omega]
      exact tr e eb _ _ h3
    | i + 1, hi =>
      rw [show ((e + 1) % 10 + 9 - (i + 1)) % 10 = (e + 9 - i) % 10 by omega]
      refine tr _ (by omega) _ _ (CW_oth (m4 i (by omega)) e3 ?_)
      have : (e + 9 - i) % 10 ≠ e := by omega
      omega
theorem c_back {M : MM} {m N : Nat} {h : HW} {Q : Int32 → MM → Prop} (hm : CM M m h) (hQ0 : m = 0 → Q 0 M) (hQ : 0 < m → ∀ M', CM M' (m - 1) (fun i => h (i + 1)) → CW M' 18 (h 0).1 (h 0).2 → Eqo fp_Memory_takeBack M M' → Q 1 M') : W_Memory_takeBack N M Q := by
  obtain ⟨m1, m2, m3, m4⟩ := hm
  have ee := i32_ni m3.1
  have eb : ni (M.1 44 1) < 10 := by unfold ni; omega
  by_cases hm0 : m = 0
  · unfold W_Memory_takeBack
    rw [m2, hm0]
    exact ⟨fun _ => hQ0 hm0, fun h => absurd rfl h⟩
  · refine and_Memory_takeBack (Q1 := fun r M' => r = 1 ∧ CM M' (m - 1) (fun i => h (i + 1)) ∧ CW M' 18 (h 0).1 (h 0).2) (fun r M' h1 h2 => by rw [h1.1]; exact hQ (by omega) M' h1.2.1 h1.2.2 h2) ?_ (an_Memory_takeBack (Q := fun r M' => Eqo fp_Memory_takeBack M M') (fun r M1 h => h))
    unfold W_Memory_takeBack
    rw [m2]
    refine ⟨fun e => absurd ((i32_inj (j := m) (k := 0) (by omega) (by omega)).mp e) hm0, fun _ _ => ?_⟩
    generalize hg : ni (M.1 44 1) = e at *
    have er : rm ((M.1 44 1 + 10) - 1) 10 = i32 ((e + 9) % 10) := by
      rw [ee, show i32 e + 10 = i32 (e + 10) from i32_a e 10, show e + 10 = e + 9 + 1 by omega, show i32 (e + 9 + 1) - 1 = i32 (e + 9) from i32_sb (e + 9) 1]
      exact rm_n (y := 10) (by omega) (by omega)
    rw [er]
    have x1 : (wi (wi M 44 1 (i32 ((e + 9) % 10))) 44 2 ((wi M 44 1 (i32 ((e + 9) % 10))).1 44 2 - 1)).1 44 1 = i32 ((e + 9) % 10) := by rw [wi_1n (by omega), wi_1e]
    rw [x1, ni_i (by omega)]
    have x2 : (wi M 44 1 (i32 ((e + 9) % 10))).1 44 2 - 1 = i32 (m - 1) := by
      rw [wi_1n (by omega), m2, show m = m - 1 + 1 by omega]
      exact i32_sb _ 1
    rw [x2]
    have h0 := m4 0 (by omega)
    rw [show (e + 9 - 0) % 10 = (e + 9) % 10 by omega] at h0
    refine sp_become (Or.inl (by omega)) (CW_44 (CW_44 h0 (by omega) (by omega)) (by omega) (by omega)) (fun M3 h3 e3 => ?_)
    refine ⟨rfl, ⟨by omega, ?_, ?_, fun i hi => ?_⟩, h3⟩
    · rw [(e3 44 2 (fpb_out (by omega))).1, wi_1e]
    · rw [(e3 44 1 (fpb_out (by omega))).1, wi_1n (by omega), wi_1e, i32_i (by omega)]
      omega
    · rw [(e3 44 1 (fpb_out (by omega))).1, wi_1n (by omega), wi_1e, ni_i (by omega), show ((e + 9) % 10 + 9 - i) % 10 = (e + 9 - (i + 1)) % 10 by omega]
      exact CW_oth (CW_44 (CW_44 (m4 (i + 1) (by omega)) (by omega) (by omega)) (by omega) (by omega)) e3 (by omega)
