/-! WHAT IS REMEMBERED, in the reference; ALL TOGETHER -/
def shM (M : MM) (k : Nat) : MM := (fun c j => if c = 195 ∧ j < 388 * k then M.1 195 (j + 388) else M.1 c j, fun c j => if c = 200 ∧ j < 10 * k then M.2 200 (j + 10) else M.2 c j)
theorem shM_0 {M : MM} : shM M 0 = M := by
  unfold shM
  apply Prod.ext
  · funext c j
    exact if_neg (by omega)
  · funext c j
    exact if_neg (by omega)
theorem shM_s {M : MM} {k : Nat} (hk : k < 9) : lkS (lkM (shM M k) 195 (388 * (k + 1)) 195 (388 * k) 388) 200 (10 * (k + 1)) 200 (10 * k) 10 = shM M (k + 1) := by
  unfold lkS lkM shM
  apply Prod.ext
  · funext c j
    dsimp only
    by_cases h : c = 195 ∧ 388 * k ≤ j ∧ j < 388 * k + 388
    · rw [if_pos h, if_neg (show ¬ ((195 : Nat) = 195 ∧ 388 * (k + 1) + (j - 388 * k) < 388 * k) by omega), if_pos (show c = 195 ∧ j < 388 * (k + 1) by omega), show 388 * (k + 1) + (j - 388 * k) = j + 388 by omega]
    · rw [if_neg h]
      by_cases h2 : c = 195 ∧ j < 388 * k
      · rw [if_pos h2, if_pos (by omega)]
      · rw [if_neg h2, if_neg (by omega)]
  · funext c j
    dsimp only
    by_cases h : c = 200 ∧ 10 * k ≤ j ∧ j < 10 * k + 10
    · rw [if_pos h, if_neg (show ¬ ((200 : Nat) = 200 ∧ 10 * (k + 1) + (j - 10 * k) < 10 * k) by omega), if_pos (show c = 200 ∧ j < 10 * (k + 1) by omega), show 10 * (k + 1) + (j - 10 * k) = j + 10 by omega]
    · rw [if_neg h]
      by_cases h2 : c = 200 ∧ j < 10 * k
      · rw [if_pos h2, if_pos (by omega)]
      · rw [if_neg h2, if_neg (by omega)]
theorem mn_10 {m : Nat} (hm : m ≤ 10) : mn 10 (i32 m + 1) = i32 (min (m + 1) 10) := by
  rw [i32_s]
  unfold mn
  by_cases h : m = 10
  · subst h; decide
  · by_cases h9 : m = 9
    · subst h9; decide
    · rw [if_pos (by rw [show i32 (m + 1) < 10 ↔ m + 1 < 10 from i32_lt (k := 10) (by omega) (by omega)]; omega), show min (m + 1) 10 = m + 1 by omega]
theorem r_rem {M : MM} {m N : Nat} {h : HW} {Q : MM → Prop} (hm : RMm M m h) (hQ : ∀ M', RMm M' (min (m + 1) 10) (hpush (M.1 191, M.2 196) h) → Eqo fp_m_remembers M M' → Q M') : W_m_remembers N M Q := by
  obtain ⟨m1, m2, m3⟩ := hm
  refine and_m_remembers (Q1 := fun M' => RMm M' (min (m + 1) 10) (hpush (M.1 191, M.2 196) h)) (fun M' h1 h2 => hQ M' h1 h2) ?_ (an_m_remembers (Q := fun M' => Eqo fp_m_remembers M M') (fun M1 h => h))
  unfold W_m_remembers
  have fin : ∀ M7 : MM, M7.1 190 12 = i32 m → M7.1 191 = M.1 191 → M7.2 196 = M.2 196 → (∀ i, i + 1 < min (m + 1) 10 → (∀ k, k < 388 → M7.1 195 (388 * (min (m + 1) 10 - 1 - (i + 1)) + k) = (h i).1 k) ∧ ∀ c, c < 10 → M7.2 200 (10 * (min (m + 1) 10 - 1 - (i + 1)) + c) = (h i).2 c) → W_m_likens 191 0 195 (388 * (((wi M7 190 12 (mn 10 ((M7.1 190 12) + 1))).1 190 12) - 1)) N (wi M7 190 12 (mn 10 ((M7.1 190 12) + 1))) (fun M9 =>
      W_m_likensSeen 196 0 200 (10 * ((M9.1 190 12) - 1)) N M9 (fun M11 =>
        RMm M11 (min (m + 1) 10) (hpush (M.1 191, M.2 196) h))) := by
    intro M7 q1 q2 q3 q4
    rw [wi_1e, q1, mn_10 m1]
    generalize hmm : min (m + 1) 10 = m' at *
    have b' : 1 ≤ m' ∧ m' ≤ 10 := by omega
    obtain ⟨m'', rfl⟩ : ∃ m'', m' = m'' + 1 := ⟨m' - 1, by omega⟩
    rw [show i32 (m'' + 1) - 1 = i32 m'' from i32_sb m'' 1, show (388 : Int32) * i32 m'' = i32 (388 * m'') from i32_m 388 m'']
    refine sp_likens (P := 0) (by omega) (by omega) (Or.inl (by decide)) ?_
    have e12 : (lkM (wi M7 190 12 (i32 (m'' + 1))) 191 0 195 (388 * m'') 388).1 190 12 = i32 (m'' + 1) := by
      unfold lkM
      dsimp only
      rw [if_neg (by omega), wi_1e]
    rw [e12, show i32 (m'' + 1) - 1 = i32 m'' from i32_sb m'' 1, show (10 : Int32) * i32 m'' = i32 (10 * m'') from i32_m 10 m'']
    refine sp_likensS (P := 0) (by omega) (by omega) (Or.inl (by decide)) ?_
    refine ⟨by omega, e12, fun i hi => ⟨fun k hk => ?_, fun c hc => ?_⟩⟩
    · show (lkM (wi M7 190 12 (i32 (m'' + 1))) 191 0 195 (388 * m'') 388).1 195 _ = _
      unfold lkM
      dsimp only
      match i, hi with
      | 0, _ =>
        rw [if_pos (by omega), wi_1n (by omega), q2, show 0 + (388 * (m'' + 1 - 1 - 0) + k - 388 * m'') = k by omega]
        rfl
      | i + 1, hi =>
        rw [if_neg (by omega), wi_1n (by omega)]
        exact (q4 i hi).1 k hk
    · unfold lkS
      dsimp only
      match i, hi with
      | 0, _ =>
        rw [if_pos (by omega), show 0 + (10 * (m'' + 1 - 1 - 0) + c - 10 * m'') = c by omega]
        show M7.2 196 c = M.2 196 c
        rw [q3]
      | i + 1, hi =>
        rw [if_neg (by omega)]
        exact (q4 i hi).2 c hc
  refine I_m_remembers_2 _ _ (fun v M' => ∃ k, k ≤ 9 ∧ v = i32 (k + 1) ∧ M' = shM M k ∧ (m = 10 ∨ k = 0)) (fun N' ih v M' hih hv => ?_) N _ _ ⟨0, by omega, rfl, shM_0.symm, Or.inr rfl⟩
  obtain ⟨k, hk, rfl, rfl, hmk⟩ := hv
  unfold B_m_remembers_2
  have s12 : (shM M k).1 190 12 = i32 m := m2
  rw [s12, show i32 (k + 1) < 10 ↔ k + 1 < 10 from i32_lt (k := 10) (by omega) (by omega)]
  refine ⟨fun hlt => ⟨fun h10 => ?_, fun h10 => ?_⟩, fun hlt => ?_⟩
  · have hm10 : m = 10 := (i32_inj (j := m) (k := 10) (by omega) (by omega)).mp h10
    rw [show i32 (k + 1) - 1 = i32 k from i32_sb k 1, show (388 : Int32) * i32 (k + 1) = i32 (388 * (k + 1)) from i32_m 388 _, show (388 : Int32) * i32 k = i32 (388 * k) from i32_m 388 _, show (10 : Int32) * i32 (k + 1) = i32 (10 * (k + 1)) from i32_m 10 _, show (10 : Int32) * i32 k = i32 (10 * k) from i32_m 10 _]
    refine sp_likens (by omega) (by omega) (Or.inr (by omega)) ?_
    refine sp_likensS (by omega) (by omega) (Or.inr (by omega)) ?_
    rw [shM_s (by omega)]
    exact hih _ _ ⟨k + 1, by omega, i32_s (k + 1), rfl, Or.inl hm10⟩
  · have hm10 : m ≠ 10 := fun e => h10 (by rw [e]; rfl)
    obtain rfl : k = 0 := by omega
    rw [shM_0]
    refine fin M m2 rfl rfl (fun i hi => ?_)
    have hh := m3 i (by omega)
    rw [show min (m + 1) 10 - 1 - (i + 1) = m - 1 - i by omega]
    exact hh
  · obtain rfl : k = 9 := by omega
    have hm10 : m = 10 := by omega
    subst hm10
    refine fin (shM M 9) s12 rfl rfl (fun i hi => ?_)
    have hh := m3 (i + 1 - 1) (by omega)
    have hi9 : i ≤ 8 := by omega
    refine ⟨fun k hk => ?_, fun c hc => ?_⟩
    · unfold shM
      dsimp only
      rw [if_pos (by omega), show 388 * (min (10 + 1) 10 - 1 - (i + 1)) + k + 388 = 388 * (10 - 1 - i) + k by omega]
      exact (m3 i (by omega)).1 k hk
    · unfold shM
      dsimp only
      rw [if_pos (by omega), show 10 * (min (10 + 1) 10 - 1 - (i + 1)) + c + 10 = 10 * (10 - 1 - i) + c by omega]
      exact (m3 i (by omega)).2 c hc
/-! all together -/
def GW (B : Int) (w : RW) : Prop := WF w ∧ 0 ≤ (w 2).toInt ∧ (w 2).toInt ≤ B ∧ (w 1).toInt ≤ 12
def TP (M : MM) : Prop := ∃ n, n ≤ 400 ∧ M.1 1 1 = i32 n ∧ M.1 190 18 = i32 n ∧ ∀ j, j < n → (0 ≤ (M.1 2 j).toInt ∧ (M.1 2 j).toInt < 256) ∧ M.1 203 j = (M.1 2 j).toInt8.toInt32
def TLD (M : MM) (L : LWT) : Prop := (M.1 190 15 = -1 ∧ M.1 8 0 = 0 ∧ L.1 = 0) ∨ (M.1 190 15 = i32 L.1 ∧ M.1 8 0 = 1)
def IML (M : MM) (L : LWT) : Prop := (M.1 190 16 = -1 ∧ M.1 173 0 = 0 ∧ M.1 173 1 = 0 ∧ ∀ j, j < 0 → 0 ≤ (M.1 175 j).toInt) ∨ (M.1 190 16 = i32 L.1 ∧ M.1 190 15 = i32 L.1 ∧ M.1 173 0 = 1 ∧ LawC M 173 L)
def IMG (B : Int) (M : MM) (L : LWT) : Prop := M.1 0 14 = M.1 190 11 ∧ (M.1 190 11 = 0 ∨ (M.1 190 11 = 1 ∧ CW M 178 (M.1 192) (M.2 197) ∧ GW B (M.1 192) ∧ IML M L))
def MEM (B : Int) (M : MM) : Prop := ∃ m h, CM M m h ∧ RMm M m h ∧ ∀ i, i < m → GW B (h i).1
def WLD (B : Int) (M : MM) : Prop := CW M 18 (M.1 191) (M.2 196) ∧ GW B (M.1 191)
def CP (B : Int) (M : MM) : Prop := TP M ∧ M.1 0 15 = M.1 190 23 ∧ (∃ L, LawC M 8 L ∧ LawR M L ∧ TLD M L ∧ IMG B M L) ∧ WLD B M ∧ MEM B M
/-- places that a list leaves alone -/
def fpo (l : List (Nat × Nat × Option Nat)) (lo hi : Nat) : Bool := l.all (fun q => Nat.blt q.2.1 lo || Nat.blt hi q.1)
def fpf (l : List (Nat × Nat × Option Nat)) (b k : Nat) : Bool := l.all (fun q => Nat.blt q.2.1 b || Nat.blt b q.1 || (match q.2.2 with
  | none => false
  | some f => !Nat.beq f k))
theorem fpo_ok {l : List (Nat × Nat × Option Nat)} {lo hi b j : Nat} (h : fpo l lo hi = true) (h1 : lo ≤ b) (h2 : b ≤ hi) : fpm l b j = false := by
  unfold fpm
  rw [List.any_eq_false]
  intro q hq hh
  have := List.all_eq_true.mp h q hq
  simp only [Bool.and_eq_true, Bool.or_eq_true] at hh this
  have a1 := Nat.le_of_ble_eq_true hh.1.1
  have a2 := Nat.le_of_ble_eq_true hh.1.2
  rcases this with h3 | h3
  · have := blt_lt h3; omega
  · have := blt_lt h3; omega
theorem fpf_ok {l : List (Nat × Nat × Option Nat)} {b k : Nat} (h : fpf l b k = true) : fpm l b k = false := by
  unfold fpm
  rw [List.any_eq_false]
  intro q hq hh
  have := List.all_eq_true.mp h q hq
  simp only [Bool.and_eq_true, Bool.or_eq_true] at hh this
  have a1 := Nat.le_of_ble_eq_true hh.1.1
  have a2 := Nat.le_of_ble_eq_true hh.1.2
  rcases this with (h3 | h3) | h3
  · have := blt_lt h3; omega
  · have := blt_lt h3; omega
  · obtain ⟨lo, hi, o⟩ := q
    cases o with
    | none => cases h3
    | some f =>
      have h4 : Nat.beq f k = true := hh.2
      have h5 : (!Nat.beq f k) = true := h3
      rw [h4] at h5
      cases h5
section FR
variable {l : List (Nat × Nat × Option Nat)} {M M' : MM} {B : Int} {L : LWT}
theorem eq1 (e : Eqo l M M') {b k : Nat} (h : fpf l b k = true) : M'.1 b k = M.1 b k := (e b k (fpf_ok h)).1
theorem eqb (e : Eqo l M M') {lo hi : Nat} (h : fpo l lo hi = true) {b : Nat} (h1 : lo ≤ b) (h2 : b ≤ hi) : M'.1 b = M.1 b := by
  funext j
  exact (e b j (fpo_ok h h1 h2)).1
theorem eqb2 (e : Eqo l M M') {lo hi : Nat} (h : fpo l lo hi = true) {b : Nat} (h1 : lo ≤ b) (h2 : b ≤ hi) : M'.2 b = M.2 b := by
  funext j
  exact (e b j (fpo_ok h h1 h2)).2
def tpk (l : List (Nat × Nat × Option Nat)) : Bool := fpf l 1 1 && (fpf l 190 18 && (fpo l 2 2 && fpo l 203 203))
theorem TP_fr (h : TP M) (e : Eqo l M M') (hl : tpk l = true) : TP M' := by
  simp only [tpk, Bool.and_eq_true] at hl
  obtain ⟨l1, l2, l3, l4⟩ := hl
  obtain ⟨n, n1, n2, n3, n4⟩ := h
  exact ⟨n, n1, by rw [eq1 e l1]; exact n2, by rw [eq1 e l2]; exact n3, by rw [eqb e l3 (Nat.le_refl _) (Nat.le_refl _), eqb e l4 (Nat.le_refl _) (Nat.le_refl _)]; exact n4⟩
def lwk (l : List (Nat × Nat × Option Nat)) : Bool := fpo l 8 12 && (fpo l 201 202 && (fpf l 190 15))
theorem LawC_eq {a : Nat} (h : LawC M a L) (e : Eqo l M M') (hl : fpo l a (a + 4) = true) : LawC M' a L := LawC_fr (fun i hi => eqb e hl (by omega) (by omega)) h
theorem LawR_eq (h : LawR M L) (e : Eqo l M M') (hl : fpo l 201 202 = true) : LawR M' L := by
  unfold LawR rT at *
  rw [eqb e hl (show 201 ≤ 201 by omega) (by omega), eqb e hl (show 201 ≤ 202 by omega) (by omega)]
  exact h
theorem TLD_eq (h : TLD M L) (e : Eqo l M M') (hl : lwk l = true) : TLD M' L := by
  simp only [lwk, Bool.and_eq_true] at hl
  unfold TLD at *
  rw [eq1 e hl.2.2, eqb e hl.1 (show 8 ≤ 8 by omega) (by omega)]
  exact h
theorem GW_eq {w : RW} (h : GW B w) {w' : RW} (e : w' = w) : GW B w' := e ▸ h
def imk (l : List (Nat × Nat × Option Nat)) : Bool := fpf l 0 14 && (fpf l 190 11 && (fpf l 190 16 && (fpf l 190 15 && (fpo l 173 189 && (fpo l 192 192 && fpo l 197 197)))))
theorem IMG_eq (h : IMG B M L) (e : Eqo l M M') (hl : imk l = true) : IMG B M' L := by
  simp only [imk, Bool.and_eq_true] at hl
  obtain ⟨l1, l2, l3, l4, l5, l6, l7⟩ := hl
  have c : fpo l 173 177 = true := by
    unfold fpo at l5 ⊢
    rw [List.all_eq_true] at l5 ⊢
    intro q hq
    have := l5 q hq
    simp only [Bool.or_eq_true] at this ⊢
    rcases this with h | h
    · exact Or.inl h
    · right
      have := blt_lt h
      exact Nat.ble_eq_true_of_le (by omega)
  unfold IMG IML at *
  rw [eq1 e l1, eq1 e l2, eq1 e l3, eq1 e l4, eqb e l6 (Nat.le_refl _) (Nat.le_refl _), eqb2 e l7 (Nat.le_refl _) (Nat.le_refl _), eqb e l5 (show 173 ≤ 173 by omega) (by omega), eqb e l5 (show 173 ≤ 175 by omega) (by omega)]
  obtain ⟨h1, h2⟩ := h
  refine ⟨h1, ?_⟩
  rcases h2 with h2 | ⟨h2, h3, h4, h5⟩
  · exact Or.inl h2
  · refine Or.inr ⟨h2, CW_fr h3 (fun b j q1 q2 => e b j (fpo_ok l5 (by omega) (by omega))), h4, ?_⟩
    rcases h5 with h5 | ⟨h5, h6, h7, h8⟩
    · exact Or.inl h5
    · exact Or.inr ⟨h5, h6, h7, LawC_eq h8 e c⟩
def wlk (l : List (Nat × Nat × Option Nat)) : Bool := fpo l 18 29 && (fpo l 191 191 && fpo l 196 196)
theorem WLD_eq (h : WLD B M) (e : Eqo l M M') (hl : wlk l = true) : WLD B M' := by
  simp only [wlk, Bool.and_eq_true] at hl
  unfold WLD at *
  rw [eqb e hl.2.1 (Nat.le_refl _) (Nat.le_refl _), eqb2 e hl.2.2 (Nat.le_refl _) (Nat.le_refl _)]
  exact ⟨CW_fr h.1 (fun b j q1 q2 => e b j (fpo_ok hl.1 (by omega) (by omega))), h.2⟩
def cmk (l : List (Nat × Nat × Option Nat)) : Bool := fpf l 44 1 && (fpf l 44 2 && fpo l 46 165)
theorem CM_eq {m : Nat} {h : HW} (hm : CM M m h) (e : Eqo l M M') (hl : cmk l = true) : CM M' m h := by
  simp only [cmk, Bool.and_eq_true] at hl
  obtain ⟨m1, m2, m3, m4⟩ := hm
  unfold CM
  rw [eq1 e hl.1, eq1 e hl.2.1]
  exact ⟨m1, m2, m3, fun i hi => CW_fr (m4 i hi) (fun b j q1 q2 => e b j (fpo_ok hl.2.2 (by omega) (by omega)))⟩
def rmk (l : List (Nat × Nat × Option Nat)) : Bool := fpf l 190 12 && (fpo l 195 195 && fpo l 200 200)
theorem RMm_eq {m : Nat} {h : HW} (hm : RMm M m h) (e : Eqo l M M') (hl : rmk l = true) : RMm M' m h := by
  simp only [rmk, Bool.and_eq_true] at hl
  unfold RMm at *
  rw [eq1 e hl.1, eqb e hl.2.1 (Nat.le_refl _) (Nat.le_refl _), eqb2 e hl.2.2 (Nat.le_refl _) (Nat.le_refl _)]
  exact hm
def cpk (l : List (Nat × Nat × Option Nat)) : Bool := (tpk l && (fpf l 0 15 && fpf l 190 23)) && ((lwk l && imk l) && (wlk l && (cmk l && rmk l)))
theorem lwk_C (h : lwk l = true) : fpo l 8 (8 + 4) = true := by
  simp only [lwk, Bool.and_eq_true] at h
  exact h.1
theorem lwk_R (h : lwk l = true) : fpo l 201 202 = true := by
  simp only [lwk, Bool.and_eq_true] at h
  exact h.2.1
/-- what leaves it all alone -/
theorem CP_eq (h : CP B M) (e : Eqo l M M') (hl : cpk l = true) : CP B M' := by
  simp only [cpk, Bool.and_eq_true] at hl
  obtain ⟨⟨k1, k2, k3⟩, ⟨k4, k5⟩, k6, k7, k8⟩ := hl
  obtain ⟨h1, h2, ⟨L, h3, h4, h5, h6⟩, h7, m, hh, h8, h9, h10⟩ := h
  exact ⟨TP_fr h1 e k1, by rw [eq1 e k2, eq1 e k3]; exact h2, ⟨L, LawC_eq h3 e (lwk_C k4), LawR_eq h4 e (lwk_R k4), TLD_eq h5 e k4, IMG_eq h6 e k5⟩, WLD_eq h7 e k6, m, hh, CM_eq h8 e k7, RMm_eq h9 e k8, h10⟩
end FR
