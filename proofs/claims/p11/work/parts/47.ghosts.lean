/-! THE GHOSTS of the reference -/
/-- an int at a place, 0 if there is none -/
def rf_v (C : List AC) (a k : Nat) : Int := match cv C a k with
  | some (.inl (.inl x)) => x.toInt
  | _ => 0
theorem rf_v_eq {C C' : List AC} {a k : Nat} (h : cv C' a k = cv C a k) : rf_v C' a k = rf_v C a k := by
  unfold rf_v
  rw [h]
theorem rf_v_pv {GF : GH} {C : List AC} {a k : Nat} {z : Int} (ha : ¬ 999 ≤ a) (h : pv GF C a k z) : rf_v C a k = z := by
  unfold pv at h
  rw [if_neg ha] at h
  obtain ⟨x, h1, h2⟩ := h
  unfold rf_v
  rw [h1]
  exact h2
noncomputable def rf_b (p : Prop) : Int := @ite Int p (Classical.propDecidable p) 1 0
theorem rf_b_1 {p : Prop} (h : p) : rf_b p = 1 := by unfold rf_b; rw [if_pos h]
theorem rf_b_of {p : Prop} (h : rf_b p = 1) : p := by
  apply Classical.byContradiction
  intro hn
  unfold rf_b at h
  rw [if_neg hn] at h
  cases h
theorem rf_b_iff {p q : Prop} (h : p ↔ q) : rf_b p = rf_b q := by rw [propext h]
/-- a row is right: each citizen of it has a habit -/
def rf_row (f : Nat → Int) : Prop := ∀ c : Nat, c < 10 → (c : Int) < f 0 → 1 ≤ f (23 + 13 * c)
def rf_row2 (f : Nat → Int) : Prop := ∀ c : Nat, c < 10 → (c : Int) ≤ f 0 → 1 ≤ f (23 + 13 * c)
theorem rf_row_eq {f g : Nat → Int} (h0 : f 0 = g 0) (h : ∀ c, c < 10 → f (23 + 13 * c) = g (23 + 13 * c)) : rf_row f ↔ rf_row g :=
  ⟨fun w c hc hl => by rw [← h c hc]; exact w c hc (by rw [h0]; exact hl), fun w c hc hl => by rw [h c hc]; exact w c hc (by rw [← h0]; exact hl)⟩
theorem rf_row2_eq {f g : Nat → Int} (h0 : f 0 = g 0) (h : ∀ c, c < 10 → f (23 + 13 * c) = g (23 + 13 * c)) : rf_row2 f ↔ rf_row2 g :=
  ⟨fun w c hc hl => by rw [← h c hc]; exact w c hc (by rw [h0]; exact hl), fun w c hc hl => by rw [h c hc]; exact w c hc (by rw [← h0]; exact hl)⟩
def rf_W (C : List AC) : Prop := rf_row (rf_v C 191) ∧ rf_row (rf_v C 192) ∧ rf_row (rf_v C 193) ∧ rf_row (rf_v C 194) ∧ ∀ t : Nat, t < 10 → rf_row (fun k => rf_v C 195 (388 * t + k))
/-- how deep the stack is behind n steps from i on; none: a step finds too little -/
def rf_d (f : Nat → Int) (i n d : Nat) : Option Nat := match n with
  | 0 => some d
  | n + 1 => if f (2 * i) ≤ 5 then rf_d f (i + 1) n (d + 1) else if f (2 * i) = 9 then (if 1 ≤ d then rf_d f (i + 1) n d else none) else (if 2 ≤ d then rf_d f (i + 1) n (d - 1) else none)
theorem rf_d_eq {f g : Nat → Int} (h : ∀ j, j < 800 → f j = g j) : ∀ (n i d : Nat), i + n ≤ 400 → rf_d f i n d = rf_d g i n d
  | 0, i, d, _ => rfl
  | n + 1, i, d, hl => by
    unfold rf_d
    rw [h (2 * i) (by omega), rf_d_eq h n (i + 1) (d + 1) (by omega), rf_d_eq h n (i + 1) d (by omega), rf_d_eq h n (i + 1) (d - 1) (by omega)]
/-- a clause's steps: within, and never too few on the stack -/
def rf_cl (cl f : Nat → Int) (k : Nat) : Prop := ∃ i n d : Nat, cl (4 * k + 2) = (i : Int) ∧ cl (4 * k + 3) = ((i + n : Nat) : Int) ∧ i + n ≤ 400 ∧ rf_d f i n 0 = some d
theorem rf_cl_eq {cl cl' f g : Nat → Int} (h : ∀ j, j < 800 → f j = g j) (hc : ∀ j, j < 48 → cl j = cl' j) {k : Nat} (hk : k < 12) : rf_cl cl f k ↔ rf_cl cl' g k := by
  constructor
  · rintro ⟨i, n, d, h1, h2, h3, h4⟩
    exact ⟨i, n, d, by rw [← hc _ (by omega)]; exact h1, by rw [← hc _ (by omega)]; exact h2, h3, by rw [← rf_d_eq h n i 0 h3]; exact h4⟩
  · rintro ⟨i, n, d, h1, h2, h3, h4⟩
    exact ⟨i, n, d, by rw [hc _ (by omega)]; exact h1, by rw [hc _ (by omega)]; exact h2, h3, by rw [rf_d_eq h n i 0 h3]; exact h4⟩
def rf_cls (C : List AC) (a b : Nat) : Prop := (rf_v C 190 16 = -1 ∨ rf_v C 190 16 = rf_v C 190 15) ∧ ∀ k : Nat, k < 12 → (k : Int) < rf_v C 190 15 → rf_cl (rf_v C a) (rf_v C b) k
theorem rf_cls_eq {C C' : List AC} {a b : Nat} (h : ∀ j, j < 800 → rf_v C' b j = rf_v C b j) (hc : ∀ j, j < 48 → rf_v C' a j = rf_v C a j) (h1 : rf_v C' 190 15 = rf_v C 190 15) (h2 : rf_v C' 190 16 = rf_v C 190 16) : rf_cls C' a b ↔ rf_cls C a b := by
  unfold rf_cls
  rw [h1, h2]
  constructor
  · rintro ⟨w1, w2⟩
    exact ⟨w1, fun k hk hl => (rf_cl_eq h hc hk).mp (w2 k hk hl)⟩
  · rintro ⟨w1, w2⟩
    exact ⟨w1, fun k hk hl => (rf_cl_eq h hc hk).mpr (w2 k hk hl)⟩
/-- the tape is what was watched: rows of three, the first of each a citizen's number, the second a matter -/
def rf_wa (C : List AC) : Prop := rf_v C 190 20 % 3 = 0 ∧ rf_v C 190 20 ≤ 400 ∧ ∀ t : Nat, t < 134 → 3 * (t : Int) < rf_v C 190 20 → (0 ≤ rf_v C 203 (3 * t) ∧ rf_v C 203 (3 * t) ≤ 9) ∧ 0 ≤ rf_v C 203 (3 * t + 1) ∧ rf_v C 203 (3 * t + 1) ≤ 63
def rf_ga (u : Nat) (C : List AC) : Int := if (u : Int) ≤ rf_v C 190 25 ∧ rf_v C 190 25 ≤ 400 then (match rf_d (rf_v C 202) u ((rf_v C 190 25).toNat - u) 0 with
  | some d => (d : Int)
  | none => -1) else -1
noncomputable def rf_G (u : Nat) : GH := fun k C => match k with
  | 999 => rf_b (rf_W C)
  | 1000 => rf_b (rf_row2 (rf_v C 191))
  | 1001 => rf_b (rf_cls C 201 202)
  | 1002 => rf_b (rf_cls C 205 206)
  | 1004 => rf_ga u C
  | 1005 => rf_v C 190 19 - rf_v C 190 25
  | 1006 => rf_b (rf_wa C)
  | 1007 => rf_v C 190 18
  | 1008 => rf_v C 190 11
  | _ => 0
/-- where the ghosts come from -/
theorem rf_gs (u : Nat) : gs_ok (rf_G u) tr_gs := by
  intro k C C' h
  have key : ∀ (a i : Nat) (lo hi : Int), (k, a, lo, hi) ∈ tr_gs → lo ≤ (i : Int) → (i : Int) ≤ hi → rf_v C' a i = rf_v C a i := fun a i lo hi hm h1 h2 => rf_v_eq (h a i ⟨_, hm, rfl, rfl, h1, h2⟩)
  by_cases k0 : k = 999
  · subst k0
    have e0 := key 191 0 0 0 (by decide) (by decide) (by decide)
    have ec : ∀ c, c < 10 → rf_v C' 191 (23 + 13 * c) = rf_v C 191 (23 + 13 * c) := fun c hc => by
      have : c = 0 ∨ c = 1 ∨ c = 2 ∨ c = 3 ∨ c = 4 ∨ c = 5 ∨ c = 6 ∨ c = 7 ∨ c = 8 ∨ c = 9 := by omega
      rcases this with rfl | rfl | rfl | rfl | rfl | rfl | rfl | rfl | rfl | rfl
      · exact key 191 23 23 23 (by decide) (by decide) (by decide)
      · exact key 191 36 36 36 (by decide) (by decide) (by decide)
      · exact key 191 49 49 49 (by decide) (by decide) (by decide)
      · exact key 191 62 62 62 (by decide) (by decide) (by decide)
      · exact key 191 75 75 75 (by decide) (by decide) (by decide)
      · exact key 191 88 88 88 (by decide) (by decide) (by decide)
      · exact key 191 101 101 101 (by decide) (by decide) (by decide)
      · exact key 191 114 114 114 (by decide) (by decide) (by decide)
      · exact key 191 127 127 127 (by decide) (by decide) (by decide)
      · exact key 191 140 140 140 (by decide) (by decide) (by decide)
    have e2 : ∀ i, i < 388 → rf_v C' 192 i = rf_v C 192 i := fun i hi => key 192 i 0 387 (by decide) (by omega) (by omega)
    have e3 : ∀ i, i < 388 → rf_v C' 193 i = rf_v C 193 i := fun i hi => key 193 i 0 387 (by decide) (by omega) (by omega)
    have e4 : ∀ i, i < 388 → rf_v C' 194 i = rf_v C 194 i := fun i hi => key 194 i 0 387 (by decide) (by omega) (by omega)
    have e5 : ∀ i, i < 3880 → rf_v C' 195 i = rf_v C 195 i := fun i hi => key 195 i 0 3879 (by decide) (by omega) (by omega)
    refine rf_b_iff ?_
    unfold rf_W
    rw [rf_row_eq e0 ec, rf_row_eq (e2 0 (by omega)) (fun c hc => e2 _ (by omega)), rf_row_eq (e3 0 (by omega)) (fun c hc => e3 _ (by omega)), rf_row_eq (e4 0 (by omega)) (fun c hc => e4 _ (by omega))]
    have e6 : (∀ t : Nat, t < 10 → rf_row (fun k => rf_v C' 195 (388 * t + k))) ↔ (∀ t : Nat, t < 10 → rf_row (fun k => rf_v C 195 (388 * t + k))) :=
      ⟨fun w t ht => (rf_row_eq (f := fun k => rf_v C' 195 (388 * t + k)) (g := fun k => rf_v C 195 (388 * t + k)) (e5 _ (by omega)) (fun c hc => e5 _ (by omega))).mp (w t ht), fun w t ht => (rf_row_eq (f := fun k => rf_v C' 195 (388 * t + k)) (g := fun k => rf_v C 195 (388 * t + k)) (e5 _ (by omega)) (fun c hc => e5 _ (by omega))).mpr (w t ht)⟩
    rw [e6]
  by_cases k1 : k = 1000
  · subst k1
    have e0 := key 191 0 0 0 (by decide) (by decide) (by decide)
    have ec : ∀ c, c < 10 → rf_v C' 191 (23 + 13 * c) = rf_v C 191 (23 + 13 * c) := fun c hc => by
      have : c = 0 ∨ c = 1 ∨ c = 2 ∨ c = 3 ∨ c = 4 ∨ c = 5 ∨ c = 6 ∨ c = 7 ∨ c = 8 ∨ c = 9 := by omega
      rcases this with rfl | rfl | rfl | rfl | rfl | rfl | rfl | rfl | rfl | rfl
      · exact key 191 23 23 23 (by decide) (by decide) (by decide)
      · exact key 191 36 36 36 (by decide) (by decide) (by decide)
      · exact key 191 49 49 49 (by decide) (by decide) (by decide)
      · exact key 191 62 62 62 (by decide) (by decide) (by decide)
      · exact key 191 75 75 75 (by decide) (by decide) (by decide)
      · exact key 191 88 88 88 (by decide) (by decide) (by decide)
      · exact key 191 101 101 101 (by decide) (by decide) (by decide)
      · exact key 191 114 114 114 (by decide) (by decide) (by decide)
      · exact key 191 127 127 127 (by decide) (by decide) (by decide)
      · exact key 191 140 140 140 (by decide) (by decide) (by decide)
    exact rf_b_iff (rf_row2_eq e0 ec)
  by_cases k2 : k = 1001
  · subst k2
    exact rf_b_iff (rf_cls_eq (fun j hj => key 202 j 0 799 (by decide) (by omega) (by omega)) (fun j hj => key 201 j 0 47 (by decide) (by omega) (by omega)) (key 190 15 15 15 (by decide) (by decide) (by decide)) (key 190 16 16 16 (by decide) (by decide) (by decide)))
  by_cases k3 : k = 1002
  · subst k3
    exact rf_b_iff (rf_cls_eq (fun j hj => key 206 j 0 799 (by decide) (by omega) (by omega)) (fun j hj => key 205 j 0 47 (by decide) (by omega) (by omega)) (key 190 15 15 15 (by decide) (by decide) (by decide)) (key 190 16 16 16 (by decide) (by decide) (by decide)))
  by_cases k4 : k = 1004
  · subst k4
    have es := key 190 25 25 25 (by decide) (by decide) (by decide)
    show rf_ga u C' = rf_ga u C
    unfold rf_ga
    rw [es]
    split
    · rename_i hc
      rw [rf_d_eq (fun j hj => key 202 j 0 799 (by decide) (by omega) (by omega)) _ _ _ (by omega)]
    · rfl
  by_cases k5 : k = 1005
  · subst k5
    show rf_v C' 190 19 - rf_v C' 190 25 = rf_v C 190 19 - rf_v C 190 25
    rw [key 190 19 19 19 (by decide) (by decide) (by decide), key 190 25 25 25 (by decide) (by decide) (by decide)]
  by_cases k6 : k = 1006
  · subst k6
    have ee := key 190 20 20 20 (by decide) (by decide) (by decide)
    refine rf_b_iff ?_
    unfold rf_wa
    rw [ee]
    have et : ∀ t : Nat, t < 134 → 3 * (t : Int) < rf_v C 190 20 → rf_v C 190 20 ≤ 400 → rf_v C' 203 (3 * t) = rf_v C 203 (3 * t) := fun t ht hl hm => key 203 (3 * t) 0 399 (by decide) (by omega) (by omega)
    have eu : ∀ t : Nat, t < 134 → 3 * (t : Int) < rf_v C 190 20 → rf_v C 190 20 ≤ 400 → rf_v C 190 20 % 3 = 0 → rf_v C' 203 (3 * t + 1) = rf_v C 203 (3 * t + 1) := fun t ht hl hm h3 => key 203 (3 * t + 1) 0 399 (by decide) (by omega) (by omega)
    constructor
    · rintro ⟨w1, w2, w3⟩
      exact ⟨w1, w2, fun t ht hl => by rw [← et t ht hl w2, ← eu t ht hl w2 w1]; exact w3 t ht hl⟩
    · rintro ⟨w1, w2, w3⟩
      exact ⟨w1, w2, fun t ht hl => by rw [et t ht hl w2, eu t ht hl w2 w1]; exact w3 t ht hl⟩
  by_cases k7 : k = 1007
  · subst k7
    exact key 190 18 18 18 (by decide) (by decide) (by decide)
  by_cases k8 : k = 1008
  · subst k8
    exact key 190 11 11 11 (by decide) (by decide) (by decide)
  · have g0 : ∀ D : List AC, rf_G u k D = 0 := by
      intro D
      unfold rf_G
      split <;> first | rfl | (exfalso; omega)
    rw [g0, g0]
