section
/-! the contracts of the reference hold: checked by the kernel -/
set_option maxRecDepth 100000 in
theorem trv_a : (List.range' 35 3).all tr_ck = true := by decide +kernel
end
section
/-! the contracts of the reference hold: checked by the kernel -/
set_option maxRecDepth 100000 in
theorem trv_b : (List.range' 39 1).all tr_ck = true := by decide +kernel
end
section
/-! the contracts of the reference hold: checked by the kernel -/
set_option maxRecDepth 100000 in
theorem trv_c : (List.range' 41 1).all tr_ck = true := by decide +kernel
end
section
/-! the contracts of the reference hold: checked by the kernel -/
set_option maxRecDepth 100000 in
theorem trv_d : (List.range' 43 1).all tr_ck = true := by decide +kernel
end
section
/-! the contracts of the reference hold: checked by the kernel -/
set_option maxRecDepth 100000 in
theorem trv_e : (List.range' 45 1).all tr_ck = true := by decide +kernel
end
section
/-! the contracts of the reference hold: checked by the kernel -/
set_option maxRecDepth 100000 in
theorem trv_f : (List.range' 47 10).all tr_ck = true := by decide +kernel
end
section
/-! the contracts of the reference hold: checked by the kernel -/
set_option maxRecDepth 100000 in
theorem trv_g : (List.range' 59 10).all tr_ck = true := by decide +kernel
end
section
/-! the contracts of the reference hold: checked by the kernel -/
set_option maxRecDepth 100000 in
theorem trv_h : (List.range' 70 1).all tr_ck = true := by decide +kernel
end
section
/-! the contracts of the reference hold: checked by the kernel -/
set_option maxRecDepth 100000 in
theorem trv_i : (List.range' 73 25).all tr_ck = true := by decide +kernel
end
section
/-! the contracts of the reference hold: checked by the kernel -/
set_option maxRecDepth 100000 in
theorem trv_j : (List.range' 98 6).all tr_ck = true := by decide +kernel
end
section
/-! the contracts of the reference hold: checked by the kernel -/
set_option maxRecDepth 100000 in
theorem trv_k : (List.range' 105 1).all tr_ck = true := by decide +kernel
end
section
/-! the contracts of the reference hold: checked by the kernel -/
set_option maxRecDepth 100000 in
theorem trv_l : (List.range' 107 25).all tr_ck = true := by decide +kernel
end
section
/-! the contracts of the reference hold: checked by the kernel -/
set_option maxRecDepth 100000 in
theorem trv_m : (List.range' 133 1).all tr_ck = true := by decide +kernel
end
section
/-! the contracts of the reference hold: checked by the kernel -/
set_option maxRecDepth 100000 in
theorem trv_n : (List.range' 136 25).all tr_ck = true := by decide +kernel
end
section
/-! the contracts of the reference hold: checked by the kernel -/
set_option maxRecDepth 100000 in
theorem trv_o : (List.range' 161 10).all tr_ck = true := by decide +kernel
end
section
/-! the checker with relations never looks at the script -/
section XSC2
variable (X : Option (List AI)) {G : Nat → Option CT} {gs : GS} {cts : Nat → List CX} {mac : Nat → Nat → Option (CX × Nat)} {hd : Nat → Option HX} {c : CX} {en : List XI} {ih : IH}
theorem xz2_scr (m pc : Nat) (L : List (Nat × XV)) (S : List XV) (e : XE) (F : List FR) : xz2 (tb_P X) G gs cts mac c en ih m pc L S e F = xz2 (tb_P none) G gs cts mac c en ih m pc L S e F := rfl
theorem xw2_scr (st : Option (Int × List (Int × XI))) (n : Nat) : xw2 (tb_P X) G gs cts mac hd c en st n = xw2 (tb_P none) G gs cts mac hd c en st n := by
  induction n with
  | zero => rfl
  | succ n ihn =>
    funext m pc L S e F
    show (match xw2_h hd c m pc F with
      | some h => hx_at G en h st L S e
      | none => xz2 (tb_P X) G gs cts mac c en (xw2 (tb_P X) G gs cts mac hd c en st n) m pc L S e F) = (match xw2_h hd c m pc F with
      | some h => hx_at G en h st L S e
      | none => xz2 (tb_P none) G gs cts mac c en (xw2 (tb_P none) G gs cts mac hd c en st n) m pc L S e F)
    rw [ihn, xz2_scr X]
theorem hx_ck_scr (n pc : Nat) (h : HX) : hx_ck (tb_P X) G gs cts mac hd c n pc h = hx_ck (tb_P none) G gs cts mac hd c n pc h := by
  unfold hx_ck
  simp only [xw2_scr X, xz2_scr X]
theorem hx_all_scr (n : Nat) : ∀ l : List (Nat × HX), hx_all (tb_P X) G gs cts mac hd c n l = hx_all (tb_P none) G gs cts mac hd c n l
  | [] => rfl
  | q :: t => by
    show (hx_ck (tb_P X) G gs cts mac hd c n q.1 q.2 && hx_all (tb_P X) G gs cts mac hd c n t) = (hx_ck (tb_P none) G gs cts mac hd c n q.1 q.2 && hx_all (tb_P none) G gs cts mac hd c n t)
    rw [hx_ck_scr X, hx_all_scr n t]
theorem cx_scr (hds : List (Nat × HX)) (n : Nat) : cx_ck (tb_P X) G gs cts mac hds c n = cx_ck (tb_P none) G gs cts mac hds c n := by
  unfold cx_ck cx_en
  rw [hx_all_scr X]
  simp only [xw2_scr X]
end XSC2
/-- contracts of the reference that are proved by hand -/
def tr_as : List Nat := [0, 1, 2, 3, 4, 5, 6, 7, 8, 9, 10, 11, 12, 13, 14, 15, 16, 17, 18, 19, 20, 21, 22, 23, 24, 25, 26, 27, 28, 29, 30, 31, 32, 33, 34, 38, 40, 42, 44, 46, 57, 58, 69, 71, 72, 104, 106, 132, 134, 135]
theorem tr_all (r : Nat) (hr : r < 171) (ha : r ∉ tr_as) : tr_ck r = true := by
  have n0 : r ≠ 0 := fun h => ha (by rw [h]; decide)
  have n1 : r ≠ 1 := fun h => ha (by rw [h]; decide)
  have n2 : r ≠ 2 := fun h => ha (by rw [h]; decide)
  have n3 : r ≠ 3 := fun h => ha (by rw [h]; decide)
  have n4 : r ≠ 4 := fun h => ha (by rw [h]; decide)
  have n5 : r ≠ 5 := fun h => ha (by rw [h]; decide)
  have n6 : r ≠ 6 := fun h => ha (by rw [h]; decide)
  have n7 : r ≠ 7 := fun h => ha (by rw [h]; decide)
  have n8 : r ≠ 8 := fun h => ha (by rw [h]; decide)
  have n9 : r ≠ 9 := fun h => ha (by rw [h]; decide)
  have n10 : r ≠ 10 := fun h => ha (by rw [h]; decide)
  have n11 : r ≠ 11 := fun h => ha (by rw [h]; decide)
  have n12 : r ≠ 12 := fun h => ha (by rw [h]; decide)
  have n13 : r ≠ 13 := fun h => ha (by rw [h]; decide)
  have n14 : r ≠ 14 := fun h => ha (by rw [h]; decide)
  have n15 : r ≠ 15 := fun h => ha (by rw [h]; decide)
  have n16 : r ≠ 16 := fun h => ha (by rw [h]; decide)
  have n17 : r ≠ 17 := fun h => ha (by rw [h]; decide)
  have n18 : r ≠ 18 := fun h => ha (by rw [h]; decide)
  have n19 : r ≠ 19 := fun h => ha (by rw [h]; decide)
  have n20 : r ≠ 20 := fun h => ha (by rw [h]; decide)
  have n21 : r ≠ 21 := fun h => ha (by rw [h]; decide)
  have n22 : r ≠ 22 := fun h => ha (by rw [h]; decide)
  have n23 : r ≠ 23 := fun h => ha (by rw [h]; decide)
  have n24 : r ≠ 24 := fun h => ha (by rw [h]; decide)
  have n25 : r ≠ 25 := fun h => ha (by rw [h]; decide)
  have n26 : r ≠ 26 := fun h => ha (by rw [h]; decide)
  have n27 : r ≠ 27 := fun h => ha (by rw [h]; decide)
  have n28 : r ≠ 28 := fun h => ha (by rw [h]; decide)
  have n29 : r ≠ 29 := fun h => ha (by rw [h]; decide)
  have n30 : r ≠ 30 := fun h => ha (by rw [h]; decide)
  have n31 : r ≠ 31 := fun h => ha (by rw [h]; decide)
  have n32 : r ≠ 32 := fun h => ha (by rw [h]; decide)
  have n33 : r ≠ 33 := fun h => ha (by rw [h]; decide)
  have n34 : r ≠ 34 := fun h => ha (by rw [h]; decide)
  have n38 : r ≠ 38 := fun h => ha (by rw [h]; decide)
  have n40 : r ≠ 40 := fun h => ha (by rw [h]; decide)
  have n42 : r ≠ 42 := fun h => ha (by rw [h]; decide)
  have n44 : r ≠ 44 := fun h => ha (by rw [h]; decide)
  have n46 : r ≠ 46 := fun h => ha (by rw [h]; decide)
  have n57 : r ≠ 57 := fun h => ha (by rw [h]; decide)
  have n58 : r ≠ 58 := fun h => ha (by rw [h]; decide)
  have n69 : r ≠ 69 := fun h => ha (by rw [h]; decide)
  have n71 : r ≠ 71 := fun h => ha (by rw [h]; decide)
  have n72 : r ≠ 72 := fun h => ha (by rw [h]; decide)
  have n104 : r ≠ 104 := fun h => ha (by rw [h]; decide)
  have n106 : r ≠ 106 := fun h => ha (by rw [h]; decide)
  have n132 : r ≠ 132 := fun h => ha (by rw [h]; decide)
  have n134 : r ≠ 134 := fun h => ha (by rw [h]; decide)
  have n135 : r ≠ 135 := fun h => ha (by rw [h]; decide)
  by_cases ha : r < 38
  · exact List.all_eq_true.mp trv_a r (List.mem_range'_1.mpr ⟨by omega, by omega⟩)
  by_cases hb : r < 40
  · exact List.all_eq_true.mp trv_b r (List.mem_range'_1.mpr ⟨by omega, by omega⟩)
  by_cases hc : r < 42
  · exact List.all_eq_true.mp trv_c r (List.mem_range'_1.mpr ⟨by omega, by omega⟩)
  by_cases hd : r < 44
  · exact List.all_eq_true.mp trv_d r (List.mem_range'_1.mpr ⟨by omega, by omega⟩)
  by_cases he : r < 46
  · exact List.all_eq_true.mp trv_e r (List.mem_range'_1.mpr ⟨by omega, by omega⟩)
  by_cases hf : r < 57
  · exact List.all_eq_true.mp trv_f r (List.mem_range'_1.mpr ⟨by omega, by omega⟩)
  by_cases hg : r < 69
  · exact List.all_eq_true.mp trv_g r (List.mem_range'_1.mpr ⟨by omega, by omega⟩)
  by_cases hh : r < 71
  · exact List.all_eq_true.mp trv_h r (List.mem_range'_1.mpr ⟨by omega, by omega⟩)
  by_cases hi : r < 98
  · exact List.all_eq_true.mp trv_i r (List.mem_range'_1.mpr ⟨by omega, by omega⟩)
  by_cases hj : r < 104
  · exact List.all_eq_true.mp trv_j r (List.mem_range'_1.mpr ⟨by omega, by omega⟩)
  by_cases hk : r < 106
  · exact List.all_eq_true.mp trv_k r (List.mem_range'_1.mpr ⟨by omega, by omega⟩)
  by_cases hl : r < 132
  · exact List.all_eq_true.mp trv_l r (List.mem_range'_1.mpr ⟨by omega, by omega⟩)
  by_cases hm : r < 134
  · exact List.all_eq_true.mp trv_m r (List.mem_range'_1.mpr ⟨by omega, by omega⟩)
  by_cases hn : r < 161
  · exact List.all_eq_true.mp trv_n r (List.mem_range'_1.mpr ⟨by omega, by omega⟩)
  by_cases ho : r < 171
  · exact List.all_eq_true.mp trv_o r (List.mem_range'_1.mpr ⟨by omega, by omega⟩)
  · exact absurd hr (by omega)
theorem tr_name : (List.range 388).all (fun m => (tr_K m).all (fun q => Nat.beq (tr_at q).1.1 m && Nat.blt q 171)) = true := by decide +kernel
theorem tr_Kk {m q : Nat} (h : q ∈ tr_K m) : (tr_at q).1.1 = m ∧ q < 171 := by
  have hm : m < 388 := by
    apply Classical.byContradiction
    intro hn
    have hb : Nat.blt m 388 = false := by
      cases hb : Nat.blt m 388 with
      | false => rfl
      | true => exact absurd (blt_lt hb) hn
    unfold tr_K at h
    rw [hb] at h
    exact nomatch h
  have h1 := List.all_eq_true.mp (List.all_eq_true.mp tr_name m (List.mem_range.mpr hm)) q h
  simp only [Bool.and_eq_true] at h1
  exact ⟨Nat.eq_of_beq_eq_true h1.1, blt_lt h1.2⟩
theorem tr_f_mem {r : Nat} {c : CX} : ∀ {l : List Nat}, c ∈ tr_f r l → ∃ q ∈ l, q < r ∧ c = tr_at q
  | [], h => nomatch h
  | q :: t, h => by
    unfold tr_f at h
    cases hb : Nat.blt q r with
    | true =>
      rw [hb] at h
      rcases List.mem_cons.mp h with rfl | h
      · exact ⟨q, List.mem_cons_self, blt_lt hb, rfl⟩
      · obtain ⟨q', h1, h2⟩ := tr_f_mem h
        exact ⟨q', List.mem_cons_of_mem _ h1, h2⟩
    | false =>
      rw [hb] at h
      obtain ⟨q', h1, h2⟩ := tr_f_mem h
      exact ⟨q', List.mem_cons_of_mem _ h1, h2⟩
theorem tr_G9 (b : Nat) (hb : 999 ≤ b) : tb_G b = none := by
  have : Nat.blt b 216 = false := by
    cases h : Nat.blt b 216 with
    | false => rfl
    | true => have := blt_lt h; omega
  unfold tb_G
  rw [this]
  rfl
/-- every contract of the reference holds, if those by hand and the pieces do; whatever the ghosts are (u: a family of them) -/
theorem tr_ok {U : Type} (X : Option (List AI)) (GF : U → GH) (hgs : ∀ u, gs_ok (GF u) tr_gs) (hM : ∀ u m pc mc, tr_mac m pc = some mc → mc_ok (tb_P X) tb_G (GF u) m pc mc.1 mc.2) (hA : ∀ r, r ∈ tr_as → (∀ q, q < r → ∀ u, cx_ok (tb_P X) tb_G (GF u) (tr_at q)) → ∀ u, cx_ok (tb_P X) tb_G (GF u) (tr_at r)) : ∀ r, r < 171 → ∀ u, cx_ok (tb_P X) tb_G (GF u) (tr_at r) := by
  intro r
  induction r using Nat.strongRecOn with
  | ind r IH =>
    intro hr u
    by_cases ha : r ∈ tr_as
    · exact hA r ha (fun q hq u => IH q hq (Nat.lt_trans hq hr) u) u
    have h := tr_all r hr ha
    unfold tr_ck at h
    rw [← cx_scr X] at h
    refine cx_ck_ok tr_G9 (hgs u) (fun mj c' hc' => ?_) (hM u) h
    obtain ⟨q, h1, h2, rfl⟩ := tr_f_mem (show c' ∈ tr_f r (tr_K mj) from hc')
    exact ⟨(tr_Kk h1).1, IH q h2 (tr_Kk h1).2 u⟩
end
section
/-! THE GHOSTS of the reference -/
/-- an int at a place, 0 if there is none -/
def rf_v (C : List AC) (a k : Nat) : Int := match cv C a k with
  | some (.inl (.inl x)) => x.toInt
  | _ => 0
theorem rf_v_eq {C C' : List AC} {a k : Nat} (h : cv C' a k = cv C a k) : rf_v C' a k = rf_v C a k := by
  unfold rf_v
  rw [h]
theorem rf_v_pv {GF : GH} {C : List AC} {a k : Nat} {z : Int} (ha : ¬ 999 ≤ a) (h : pv GF C a k z) : rf_v C a k = z := by
  unfold pv at h
  rw [if_neg ha] at h
  obtain ⟨x, h1, h2⟩ := h
  unfold rf_v
  rw [h1]
  exact h2
noncomputable def rf_b (p : Prop) : Int := @ite Int p (Classical.propDecidable p) 1 0
theorem rf_b_1 {p : Prop} (h : p) : rf_b p = 1 := by unfold rf_b; rw [if_pos h]
theorem rf_b_of {p : Prop} (h : rf_b p = 1) : p := by
  apply Classical.byContradiction
  intro hn
  unfold rf_b at h
  rw [if_neg hn] at h
  cases h
theorem rf_b_iff {p q : Prop} (h : p ↔ q) : rf_b p = rf_b q := by rw [propext h]
/-- a row is right: each citizen of it has a habit -/
def rf_row (f : Nat → Int) : Prop := ∀ c : Nat, c < 10 → (c : Int) < f 0 → 1 ≤ f (23 + 13 * c)
def rf_row2 (f : Nat → Int) : Prop := ∀ c : Nat, c < 10 → (c : Int) ≤ f 0 → 1 ≤ f (23 + 13 * c)
theorem rf_row_eq {f g : Nat → Int} (h0 : f 0 = g 0) (h : ∀ c, c < 10 → f (23 + 13 * c) = g (23 + 13 * c)) : rf_row f ↔ rf_row g :=
  ⟨fun w c hc hl => by rw [← h c hc]; exact w c hc (by rw [h0]; exact hl), fun w c hc hl => by rw [h c hc]; exact w c hc (by rw [← h0]; exact hl)⟩
theorem rf_row2_eq {f g : Nat → Int} (h0 : f 0 = g 0) (h : ∀ c, c < 10 → f (23 + 13 * c) = g (23 + 13 * c)) : rf_row2 f ↔ rf_row2 g :=
  ⟨fun w c hc hl => by rw [← h c hc]; exact w c hc (by rw [h0]; exact hl), fun w c hc hl => by rw [h c hc]; exact w c hc (by rw [← h0]; exact hl)⟩
def rf_W (C : List AC) : Prop := rf_row (rf_v C 191) ∧ rf_row (rf_v C 192) ∧ rf_row (rf_v C 193) ∧ rf_row (rf_v C 194) ∧ ∀ t : Nat, t < 10 → rf_row (fun k => rf_v C 195 (388 * t + k))
/-- how deep the stack is behind n steps from i on; none: a step finds too little -/
def rf_d (f : Nat → Int) (i n d : Nat) : Option Nat := match n with
  | 0 => some d
  | n + 1 => if f (2 * i) ≤ 5 then rf_d f (i + 1) n (d + 1) else if f (2 * i) = 9 then (if 1 ≤ d then rf_d f (i + 1) n d else none) else (if 2 ≤ d then rf_d f (i + 1) n (d - 1) else none)
theorem rf_d_eq {f g : Nat → Int} (h : ∀ j, j < 800 → f j = g j) : ∀ (n i d : Nat), i + n ≤ 400 → rf_d f i n d = rf_d g i n d
  | 0, i, d, _ => rfl
  | n + 1, i, d, hl => by
    unfold rf_d
    rw [h (2 * i) (by omega), rf_d_eq h n (i + 1) (d + 1) (by omega), rf_d_eq h n (i + 1) d (by omega), rf_d_eq h n (i + 1) (d - 1) (by omega)]
/-- a clause's steps: within, and never too few on the stack -/
def rf_cl (cl f : Nat → Int) (k : Nat) : Prop := ∃ i n d : Nat, cl (4 * k + 2) = (i : Int) ∧ cl (4 * k + 3) = ((i + n : Nat) : Int) ∧ i + n ≤ 400 ∧ rf_d f i n 0 = some d
theorem rf_cl_eq {cl cl' f g : Nat → Int} (h : ∀ j, j < 800 → f j = g j) (hc : ∀ j, j < 48 → cl j = cl' j) {k : Nat} (hk : k < 12) : rf_cl cl f k ↔ rf_cl cl' g k := by
  constructor
  · rintro ⟨i, n, d, h1, h2, h3, h4⟩
    exact ⟨i, n, d, by rw [← hc _ (by omega)]; exact h1, by rw [← hc _ (by omega)]; exact h2, h3, by rw [← rf_d_eq h n i 0 h3]; exact h4⟩
  · rintro ⟨i, n, d, h1, h2, h3, h4⟩
    exact ⟨i, n, d, by rw [hc _ (by omega)]; exact h1, by rw [hc _ (by omega)]; exact h2, h3, by rw [rf_d_eq h n i 0 h3]; exact h4⟩
def rf_cls (C : List AC) (a b : Nat) : Prop := (rf_v C 190 16 = -1 ∨ rf_v C 190 16 = rf_v C 190 15) ∧ ∀ k : Nat, k < 12 → (k : Int) < rf_v C 190 15 → rf_cl (rf_v C a) (rf_v C b) k
theorem rf_cls_eq {C C' : List AC} {a b : Nat} (h : ∀ j, j < 800 → rf_v C' b j = rf_v C b j) (hc : ∀ j, j < 48 → rf_v C' a j = rf_v C a j) (h1 : rf_v C' 190 15 = rf_v C 190 15) (h2 : rf_v C' 190 16 = rf_v C 190 16) : rf_cls C' a b ↔ rf_cls C a b := by
  unfold rf_cls
  rw [h1, h2]
  constructor
  · rintro ⟨w1, w2⟩
    exact ⟨w1, fun k hk hl => (rf_cl_eq h hc hk).mp (w2 k hk hl)⟩
  · rintro ⟨w1, w2⟩
    exact ⟨w1, fun k hk hl => (rf_cl_eq h hc hk).mpr (w2 k hk hl)⟩
/-- the tape is what was watched: rows of three, the first of each a citizen's number, the second a matter -/
def rf_wa (C : List AC) : Prop := rf_v C 190 20 % 3 = 0 ∧ rf_v C 190 20 ≤ 400 ∧ ∀ t : Nat, t < 134 → 3 * (t : Int) < rf_v C 190 20 → (0 ≤ rf_v C 203 (3 * t) ∧ rf_v C 203 (3 * t) ≤ 9) ∧ 0 ≤ rf_v C 203 (3 * t + 1) ∧ rf_v C 203 (3 * t + 1) ≤ 63
def rf_ga (u : Nat) (C : List AC) : Int := if (u : Int) ≤ rf_v C 190 25 ∧ rf_v C 190 25 ≤ 400 then (match rf_d (rf_v C 202) u ((rf_v C 190 25).toNat - u) 0 with
  | some d => (d : Int)
  | none => -1) else -1
noncomputable def rf_G (u : Nat) : GH := fun k C => match k with
  | 999 => rf_b (rf_W C)
  | 1000 => rf_b (rf_row2 (rf_v C 191))
  | 1001 => rf_b (rf_cls C 201 202)
  | 1002 => rf_b (rf_cls C 205 206)
  | 1004 => rf_ga u C
  | 1005 => rf_v C 190 19 - rf_v C 190 25
  | 1006 => rf_b (rf_wa C)
  | 1007 => rf_v C 190 18
  | 1008 => rf_v C 190 11
  | _ => 0
/-- where the ghosts come from -/
theorem rf_gs (u : Nat) : gs_ok (rf_G u) tr_gs := by
  intro k C C' h
  have key : ∀ (a i : Nat) (lo hi : Int), (k, a, lo, hi) ∈ tr_gs → lo ≤ (i : Int) → (i : Int) ≤ hi → rf_v C' a i = rf_v C a i := fun a i lo hi hm h1 h2 => rf_v_eq (h a i ⟨_, hm, rfl, rfl, h1, h2⟩)
  by_cases k0 : k = 999
  · subst k0
    have e0 := key 191 0 0 0 (by decide) (by decide) (by decide)
    have ec : ∀ c, c < 10 → rf_v C' 191 (23 + 13 * c) = rf_v C 191 (23 + 13 * c) := fun c hc => by
      have : c = 0 ∨ c = 1 ∨ c = 2 ∨ c = 3 ∨ c = 4 ∨ c = 5 ∨ c = 6 ∨ c = 7 ∨ c = 8 ∨ c = 9 := by omega
      rcases this with rfl | rfl | rfl | rfl | rfl | rfl | rfl | rfl | rfl | rfl
      · exact key 191 23 23 23 (by decide) (by decide) (by decide)
      · exact key 191 36 36 36 (by decide) (by decide) (by decide)
      · exact key 191 49 49 49 (by decide) (by decide) (by decide)
      · exact key 191 62 62 62 (by decide) (by decide) (by decide)
      · exact key 191 75 75 75 (by decide) (by decide) (by decide)
      · exact key 191 88 88 88 (by decide) (by decide) (by decide)
      · exact key 191 101 101 101 (by decide) (by decide) (by decide)
      · exact key 191 114 114 114 (by decide) (by decide) (by decide)
      · exact key 191 127 127 127 (by decide) (by decide) (by decide)
      · exact key 191 140 140 140 (by decide) (by decide) (by decide)
    have e2 : ∀ i, i < 388 → rf_v C' 192 i = rf_v C 192 i := fun i hi => key 192 i 0 387 (by decide) (by omega) (by omega)
    have e3 : ∀ i, i < 388 → rf_v C' 193 i = rf_v C 193 i := fun i hi => key 193 i 0 387 (by decide) (by omega) (by omega)
    have e4 : ∀ i, i < 388 → rf_v C' 194 i = rf_v C 194 i := fun i hi => key 194 i 0 387 (by decide) (by omega) (by omega)
    have e5 : ∀ i, i < 3880 → rf_v C' 195 i = rf_v C 195 i := fun i hi => key 195 i 0 3879 (by decide) (by omega) (by omega)
    refine rf_b_iff ?_
    unfold rf_W
    rw [rf_row_eq e0 ec, rf_row_eq (e2 0 (by omega)) (fun c hc => e2 _ (by omega)), rf_row_eq (e3 0 (by omega)) (fun c hc => e3 _ (by omega)), rf_row_eq (e4 0 (by omega)) (fun c hc => e4 _ (by omega))]
    have e6 : (∀ t : Nat, t < 10 → rf_row (fun k => rf_v C' 195 (388 * t + k))) ↔ (∀ t : Nat, t < 10 → rf_row (fun k => rf_v C 195 (388 * t + k))) :=
      ⟨fun w t ht => (rf_row_eq (f := fun k => rf_v C' 195 (388 * t + k)) (g := fun k => rf_v C 195 (388 * t + k)) (e5 _ (by omega)) (fun c hc => e5 _ (by omega))).mp (w t ht), fun w t ht => (rf_row_eq (f := fun k => rf_v C' 195 (388 * t + k)) (g := fun k => rf_v C 195 (388 * t + k)) (e5 _ (by omega)) (fun c hc => e5 _ (by omega))).mpr (w t ht)⟩
    rw [e6]
  by_cases k1 : k = 1000
  · subst k1
    have e0 := key 191 0 0 0 (by decide) (by decide) (by decide)
    have ec : ∀ c, c < 10 → rf_v C' 191 (23 + 13 * c) = rf_v C 191 (23 + 13 * c) := fun c hc => by
      have : c = 0 ∨ c = 1 ∨ c = 2 ∨ c = 3 ∨ c = 4 ∨ c = 5 ∨ c = 6 ∨ c = 7 ∨ c = 8 ∨ c = 9 := by omega
      rcases this with rfl | rfl | rfl | rfl | rfl | rfl | rfl | rfl | rfl | rfl
      · exact key 191 23 23 23 (by decide) (by decide) (by decide)
      · exact key 191 36 36 36 (by decide) (by decide) (by decide)
      · exact key 191 49 49 49 (by decide) (by decide) (by decide)
      · exact key 191 62 62 62 (by decide) (by decide) (by decide)
      · exact key 191 75 75 75 (by decide) (by decide) (by decide)
      · exact key 191 88 88 88 (by decide) (by decide) (by decide)
      · exact key 191 101 101 101 (by decide) (by decide) (by decide)
      · exact key 191 114 114 114 (by decide) (by decide) (by decide)
      · exact key 191 127 127 127 (by decide) (by decide) (by decide)
      · exact key 191 140 140 140 (by decide) (by decide) (by decide)
    exact rf_b_iff (rf_row2_eq e0 ec)
  by_cases k2 : k = 1001
  · subst k2
    exact rf_b_iff (rf_cls_eq (fun j hj => key 202 j 0 799 (by decide) (by omega) (by omega)) (fun j hj => key 201 j 0 47 (by decide) (by omega) (by omega)) (key 190 15 15 15 (by decide) (by decide) (by decide)) (key 190 16 16 16 (by decide) (by decide) (by decide)))
  by_cases k3 : k = 1002
  · subst k3
    exact rf_b_iff (rf_cls_eq (fun j hj => key 206 j 0 799 (by decide) (by omega) (by omega)) (fun j hj => key 205 j 0 47 (by decide) (by omega) (by omega)) (key 190 15 15 15 (by decide) (by decide) (by decide)) (key 190 16 16 16 (by decide) (by decide) (by decide)))
  by_cases k4 : k = 1004
  · subst k4
    have es := key 190 25 25 25 (by decide) (by decide) (by decide)
    show rf_ga u C' = rf_ga u C
    unfold rf_ga
    rw [es]
    split
    · rename_i hc
      rw [rf_d_eq (fun j hj => key 202 j 0 799 (by decide) (by omega) (by omega)) _ _ _ (by omega)]
    · rfl
  by_cases k5 : k = 1005
  · subst k5
    show rf_v C' 190 19 - rf_v C' 190 25 = rf_v C 190 19 - rf_v C 190 25
    rw [key 190 19 19 19 (by decide) (by decide) (by decide), key 190 25 25 25 (by decide) (by decide) (by decide)]
  by_cases k6 : k = 1006
  · subst k6
    have ee := key 190 20 20 20 (by decide) (by decide) (by decide)
    refine rf_b_iff ?_
    unfold rf_wa
    rw [ee]
    have et : ∀ t : Nat, t < 134 → 3 * (t : Int) < rf_v C 190 20 → rf_v C 190 20 ≤ 400 → rf_v C' 203 (3 * t) = rf_v C 203 (3 * t) := fun t ht hl hm => key 203 (3 * t) 0 399 (by decide) (by omega) (by omega)
    have eu : ∀ t : Nat, t < 134 → 3 * (t : Int) < rf_v C 190 20 → rf_v C 190 20 ≤ 400 → rf_v C 190 20 % 3 = 0 → rf_v C' 203 (3 * t + 1) = rf_v C 203 (3 * t + 1) := fun t ht hl hm h3 => key 203 (3 * t + 1) 0 399 (by decide) (by omega) (by omega)
    constructor
    · rintro ⟨w1, w2, w3⟩
      exact ⟨w1, w2, fun t ht hl => by rw [← et t ht hl w2, ← eu t ht hl w2 w1]; exact w3 t ht hl⟩
    · rintro ⟨w1, w2, w3⟩
      exact ⟨w1, w2, fun t ht hl => by rw [et t ht hl w2, eu t ht hl w2 w1]; exact w3 t ht hl⟩
  by_cases k7 : k = 1007
  · subst k7
    exact key 190 18 18 18 (by decide) (by decide) (by decide)
  by_cases k8 : k = 1008
  · subst k8
    exact key 190 11 11 11 (by decide) (by decide) (by decide)
  · have g0 : ∀ D : List AC, rf_G u k D = 0 := by
      intro D
      unfold rf_G
      split <;> first | rfl | (exfalso; omega)
    rw [g0, g0]
end
section
/-! CONTRACTS BY HAND: rows for it -/
theorem hI_f {G : Nat → Option CT} {C : List AC} (hI : xI G C) {a ci : Nat} {fs : List FT} (hG : G a = some (.inl (ci, fs))) : ∃ vs, ea_nt C a = some (.inr (ci, vs)) ∧ vs.length = fs.length ∧ ∀ k f, ea_nt fs k = some f → ∃ v, ea_nt vs k = some v ∧ ft_g f v := hI.1 a ci fs hG
theorem hI_a {G : Nat → Option CT} {C : List AC} (hI : xI G C) {a kd n p : Nat} {fs : List FT} (hG : G a = some (.inr (kd, n, p, fs))) : ∃ d us, ea_nt C a = some (.inl (kd, n, d, us)) ∧ ∀ j, j < n → el_g kd p fs j (ea_al d us j) := by
  obtain ⟨d, us, g1, g2⟩ := hI.2.1 a kd n p fs hG
  exact ⟨d, us, g1, fun j hj => (g2 j hj).elim id (fun ⟨q, q1, _⟩ => nomatch q1)⟩
/-- a store into an array keeps the kinds -/
theorem xI_sa {G : Nat → Option CT} {C : List AC} (hI : xI G C) {a kd n p : Nat} {fs : List FT} {d : AV} {us : List (Nat × AV)} (hG : G a = some (.inr (kd, n, p, fs))) (hC : ea_nt C a = some (.inl (kd, n, d, us))) {j : Nat} {v : AV} (hv : el_g kd p fs j v) : xI G (C.set a (.inl (kd, n, d, (j, v) :: us))) := by
  refine xh_seta (e' := (1, [], [], [], [])) hI hG hC (fun i hi => Or.inl ?_) (fun q hq => nomatch hq) rfl (fun q hq => nomatch hq)
  rw [ea_al_at]
  split
  · rename_i h
    rw [h]
    exact hv
  · obtain ⟨d', us', g1, g2⟩ := hI_a hI hG
    rw [hC] at g1
    cases g1
    exact g2 i hi
/-- a store into a field keeps the kinds -/
theorem xI_sf {G : Nat → Option CT} {C : List AC} (hI : xI G C) {a ci : Nat} {fs : List FT} {vs : List AV} (hG : G a = some (.inl (ci, fs))) (hC : ea_nt C a = some (.inr (ci, vs))) {k : Nat} {f : FT} (hf : ea_nt fs k = some f) {v : AV} (hv : ft_g f v) : xI G (C.set a (.inr (ci, vs.set k v))) := by
  obtain ⟨vs', g1, g2, g3⟩ := hI_f hI hG
  rw [hC] at g1
  cases g1
  refine ⟨fun b cj fs' hG' => ?_, fun b kd n p fs' hG' => ?_, fun q hq => nomatch hq⟩
  · by_cases hab : a = b
    · subst hab
      rw [hG] at hG'
      cases hG'
      refine ⟨_, nt_set_self hC, by rw [nt_len_set]; exact g2, fun k' f' hf' => ?_⟩
      by_cases hk : k = k'
      · subst hk
        rw [hf] at hf'
        cases hf'
        obtain ⟨w, hw, -⟩ := g3 k f hf
        exact ⟨v, nt_set_self hw, hv⟩
      · obtain ⟨v', o1, o2⟩ := g3 k' f' hf'
        exact ⟨v', by rw [nt_set_ne hk]; exact o1, o2⟩
    · obtain ⟨vs', n1, n2⟩ := hI.1 b cj fs' hG'
      exact ⟨vs', by rw [nt_set_ne hab]; exact n1, n2⟩
  · have hab : a ≠ b := by rintro rfl; rw [hG] at hG'; cases hG'
    obtain ⟨d, us, n1, n2⟩ := hI.2.1 b kd n p fs' hG'
    exact ⟨d, us, by rw [nt_set_ne hab]; exact n1, n2⟩
section OKS
variable {P : EP} {m pc : Nat} {L : List (Nat × AV)} {S : List AV} {C : List AC} {K : Option AV ⊕ Nat → List AC → Prop}
theorem ok_gf {x ci k a : Nat} {vs : List AV} {v : AV} (hc : ep_cod P m pc = some (.getfield x, 3)) (hr : ea_rd (ep_pl P m x) = some (ci, k)) (hC : ea_nt C a = some (.inr (ci, vs))) (hv : ea_nt vs k = some v) (h : ok_ P m (pc + 3) L (v :: S) C K) : ok_ P m pc L (.inr (.inl (some a)) :: S) C K :=
  ok_h (C' := none) hc rfl rfl (by simp only [ea_h, hr, hC, Nat.beq_refl, cond_true, hv]) h
theorem ok_pf {x ci k a : Nat} {vs : List AV} {v : AV} (hc : ep_cod P m pc = some (.putfield x, 3)) (hr : ea_wr (ep_ini P m) (ep_pl P m x) = some (ci, k)) (hC : ea_nt C a = some (.inr (ci, vs))) (hf : ea_fit (ep_fty P ci k) v = true) (hk : Nat.blt k vs.length = true) (h : ok_ P m (pc + 3) L S (C.set a (.inr (ci, vs.set k v))) K) : ok_ P m pc L (v :: .inr (.inl (some a)) :: S) C K :=
  ok_h (C' := some _) hc rfl rfl (by simp only [ea_h, hr, hC, Nat.beq_refl, hf, hk, Bool.and_self, cond_true]) h
theorem ok_al {a n j : Nat} {d : AV} {us : List (Nat × AV)} {x y : Int32} (hc : ep_cod P m pc = some (.iaload, 1)) (hC : ea_nt C a = some (.inl (0, n, d, us))) (hi : ea_ix (.inl x) n = some j) (hv : ea_al d us j = .inl (.inl y)) (h : ok_ P m (pc + 1) L (.inl (.inl y) :: S) C K) : ok_ P m pc L (.inl (.inl x) :: .inr (.inl (some a)) :: S) C K :=
  ok_h (C' := none) hc rfl rfl (by simp only [ea_h, hC, hi, hv]) h
theorem ok_as {a n j : Nat} {d : AV} {us : List (Nat × AV)} {x y : Int32} (hc : ep_cod P m pc = some (.iastore, 1)) (hC : ea_nt C a = some (.inl (0, n, d, us))) (hi : ea_ix (.inl x) n = some j) (h : ok_ P m (pc + 1) L S (C.set a (.inl (0, n, d, (j, .inl (.inl y)) :: us))) K) : ok_ P m pc L (.inl (.inl y) :: .inl (.inl x) :: .inr (.inl (some a)) :: S) C K :=
  ok_h (C' := some _) hc rfl rfl (by simp only [ea_h, hC, hi]) h
end OKS
theorem i32_add {x y : Int32} (h1 : -2147483648 ≤ x.toInt + y.toInt) (h2 : x.toInt + y.toInt ≤ 2147483647) : (x + y).toInt = x.toInt + y.toInt := by
  rw [Int32.toInt_add, Int.bmod_eq_of_le (by omega) (by omega)]
theorem i32_mul {x y : Int32} (h1 : -2147483648 ≤ x.toInt * y.toInt) (h2 : x.toInt * y.toInt ≤ 2147483647) : (x * y).toInt = x.toInt * y.toInt := by
  rw [Int32.toInt_mul, Int.bmod_eq_of_le (by omega) (by omega)]
theorem ix_of {x : Int32} {n j : Nat} (h : x.toInt = (j : Int)) (hj : j < n) : ea_ix (.inl x) n = some j := by
  obtain ⟨h1, h2, h3⟩ := ix_ok (x := x) (n := n) (by omega) (by omega)
  have : x.toNatClampNeg = j := by omega
  rw [h1, this]
/-- the place of a citizen's row -/
theorem rf_ix {c w : Int32} (c1 : 0 ≤ c.toInt) (c2 : c.toInt ≤ 9) (w1 : 0 ≤ w.toInt) (w2 : w.toInt ≤ 12) : ((Int8.ofInt 18).toInt32 + (Int8.ofInt 13).toInt32 * c + w).toInt = ((18 + 13 * c.toInt.toNat + w.toInt.toNat : Nat) : Int) := by
  have e1 : ((Int8.ofInt 18).toInt32).toInt = 18 := by decide
  have e2 : ((Int8.ofInt 13).toInt32).toInt = 13 := by decide
  have m1 := i32_mul (x := (Int8.ofInt 13).toInt32) (y := c) (by rw [e2]; omega) (by rw [e2]; omega)
  rw [e2] at m1
  have m2 := i32_add (x := (Int8.ofInt 18).toInt32) (y := (Int8.ofInt 13).toInt32 * c) (by rw [e1, m1]; omega) (by rw [e1, m1]; omega)
  have m3 := i32_add (x := (Int8.ofInt 18).toInt32 + (Int8.ofInt 13).toInt32 * c) (y := w) (by rw [m2, e1, m1]; omega) (by rw [m2, e1, m1]; omega)
  rw [m3, m2, e1, m1]
  omega
theorem rf_way : ∀ c, c < 10 → ∀ w, w < 6 → ea_nt tg_row ((18 + 13 * c + (w + 7)) % 388) = some (.inl (0, 63)) := by decide +kernel
theorem rf_len : ∀ c, c < 10 → ea_nt tg_row ((23 + 13 * c) % 388) = some (.inl (0, 6)) := by decide +kernel
theorem po_n {GF : GH} {C : List AC} {EV : List Int} {v : Option AV} {c : CX} (h0 : c.2.2.2.1 = ([], [])) (h1 : c.2.2.2.2 = ([], [])) : po_g GF (cx_po c v) v EV C := by
  have : cx_po c v = ([], []) := by
    unfold cx_po
    split
    · split
      · exact h0
      · exact h1
    · exact h1
  rw [this]
  exact ⟨⟨[], trivial⟩, fun q hq => nomatch hq⟩
theorem rf_el {C : List AC} {a kd n : Nat} {d : AV} {us : List (Nat × AV)} {j : Nat} {y : Int32} (hC : ea_nt C a = some (.inl (kd, n, d, us))) (hj : j < n) (hy : ea_al d us j = .inl (.inl y)) : rf_v C a j = y.toInt := by
  have hb : Nat.blt j n = true := Nat.ble_eq_true_of_le hj
  unfold rf_v cv
  rw [hC]
  dsimp only
  rw [hb, hy]
  rfl
set_option maxRecDepth 20000 in
/-- of, as it runs -/
theorem of_run (X : Option (List AI)) {C : List AC} (hI : xI tb_G C) {c w : Int32} (c1 : 0 ≤ c.toInt) (c2 : c.toInt ≤ 9) (w1 : 0 ≤ w.toInt) (w2 : w.toInt ≤ 12) {K : Option AV ⊕ Nat → List AC → Prop} (h : ∀ (y : Int32) (f : FT), ea_nt tg_row ((18 + 13 * c.toInt.toNat + w.toInt.toNat) % 388) = some f → ft_g f (.inl (.inl y)) → rf_v C 191 (18 + 13 * c.toInt.toNat + w.toInt.toNat) = y.toInt → K (.inl (some (.inl (.inl y)))) C) : ok_ (tb_P X) 199 0 (ea_ar 0 [.inr (.inl (some 190)), .inl (.inl c), .inl (.inl w)]) [] C K := by
  obtain ⟨ms, m1, m2, m3⟩ := hI_f hI (show tb_G 190 = some (.inl (_, _)) from rfl)
  obtain ⟨d, us, a1, a2⟩ := hI_a hI (show tb_G 191 = some (.inr (_, _, _, _)) from rfl)
  obtain ⟨_, r1, rfl⟩ := m3 1 (.inr 191) rfl
  have hix := rf_ix (c := c) (w := w) c1 c2 w1 w2
  have hlt : 18 + 13 * c.toInt.toNat + w.toInt.toNat < 388 := by omega
  obtain ⟨f, f1, f2⟩ := el_get (by decide) (a2 _ hlt)
  have hint : ∃ y : Int32, ea_al d us (18 + 13 * c.toInt.toNat + w.toInt.toNat) = .inl (.inl y) := by
    match f, f1, f2 with
    | .inl q, _, ⟨y, y1, _⟩ => exact ⟨y, y1⟩
    | .inr k, f1, _ =>
      exfalso
      have hall : tg_row.all (fun f => match f with
        | .inl _ => true
        | .inr _ => false) = true := by decide +kernel
      have := List.all_eq_true.mp hall _ (nt_mem f1)
      cases this
  obtain ⟨y, hy⟩ := hint
  rw [hy] at f2
  refine ok_p rfl rfl rfl ?_
  refine ok_gf rfl rfl m1 r1 ?_
  refine ok_p rfl rfl rfl ?_
  refine ok_p rfl rfl rfl ?_
  refine ok_p rfl rfl rfl ?_
  refine ok_p rfl rfl rfl ?_
  refine ok_p rfl rfl rfl ?_
  refine ok_p rfl rfl rfl ?_
  refine ok_p rfl rfl rfl ?_
  refine ok_al rfl a1 (ix_of hix hlt) hy ?_
  refine ok_r rfl rfl rfl rfl rfl ?_
  exact h y f f1 f2 (rf_el a1 hlt hy)
set_option maxRecDepth 20000 in
/-- sets, as it runs -/
theorem sets_run (X : Option (List AI)) {C : List AC} (hI : xI tb_G C) {c w v : Int32} (c1 : 0 ≤ c.toInt) (c2 : c.toInt ≤ 9) (w1 : 0 ≤ w.toInt) (w2 : w.toInt ≤ 12) {K : Option AV ⊕ Nat → List AC → Prop} (h : ∀ (d : AV) (us : List (Nat × AV)), ea_nt C 191 = some (.inl (0, 388, d, us)) → K (.inl none) (C.set 191 (.inl (0, 388, d, (18 + 13 * c.toInt.toNat + w.toInt.toNat, .inl (.inl v)) :: us)))) : ok_ (tb_P X) 200 0 (ea_ar 0 [.inr (.inl (some 190)), .inl (.inl c), .inl (.inl w), .inl (.inl v)]) [] C K := by
  obtain ⟨ms, m1, m2, m3⟩ := hI_f hI (show tb_G 190 = some (.inl (_, _)) from rfl)
  obtain ⟨d, us, a1, a2⟩ := hI_a hI (show tb_G 191 = some (.inr (_, _, _, _)) from rfl)
  obtain ⟨_, r1, rfl⟩ := m3 1 (.inr 191) rfl
  have hix := rf_ix (c := c) (w := w) c1 c2 w1 w2
  have hlt : 18 + 13 * c.toInt.toNat + w.toInt.toNat < 388 := by omega
  refine ok_p rfl rfl rfl ?_
  refine ok_gf rfl rfl m1 r1 ?_
  refine ok_p rfl rfl rfl ?_
  refine ok_p rfl rfl rfl ?_
  refine ok_p rfl rfl rfl ?_
  refine ok_p rfl rfl rfl ?_
  refine ok_p rfl rfl rfl ?_
  refine ok_p rfl rfl rfl ?_
  refine ok_p rfl rfl rfl ?_
  refine ok_p rfl rfl rfl ?_
  refine ok_as rfl a1 (ix_of hix hlt) ?_
  refine ok_r rfl rfl rfl rfl rfl ?_
  exact h d us a1
/-- of: what is done -/
theorem tr_h1 (X : Option (List AI)) (GF : GH) : cx_ok (tb_P X) tb_G GF trk_1 := by
  intro vs C EV hvs hI hpre hrel
  obtain ⟨v0, t0, rfl, h0, hvs1⟩ := ea_rl_cons hvs
  obtain ⟨v1, t1, rfl, ⟨c, rfl, c1, c2⟩, hvs2⟩ := ea_rl_cons hvs1
  obtain ⟨v2, t2, rfl, ⟨w, rfl, w1, w2⟩, hvs3⟩ := ea_rl_cons hvs2
  obtain rfl := ea_rl_nil hvs3
  obtain rfl : v0 = .inr (.inl (some 190)) := h0
  dsimp only at c1 c2 w1 w2
  refine of_run X hI c1 c2 (by omega) (by omega) (fun y f f1 f2 hy => ?_)
  have hw := rf_way c.toInt.toNat (by omega) (w.toInt.toNat - 7) (by omega)
  rw [show w.toInt.toNat - 7 + 7 = w.toInt.toNat by omega] at hw
  rw [hw] at f1
  cases f1
  obtain ⟨y', y1, y2, y3⟩ := f2
  cases y1
  exact ⟨_, rfl, hI, fr_c_rf GF _ C, ⟨y, rfl, y2, y3⟩, po_n rfl rfl⟩
/-- of: how long the habit of a citizen is -/
theorem tr_h0 (X : Option (List AI)) (u : Nat) : cx_ok (tb_P X) tb_G (rf_G u) trk_0 := by
  intro vs C EV hvs hI hpre hrel
  obtain ⟨v0, t0, rfl, h0, hvs1⟩ := ea_rl_cons hvs
  obtain ⟨v1, t1, rfl, ⟨c, rfl, c1, c2⟩, hvs2⟩ := ea_rl_cons hvs1
  obtain ⟨v2, t2, rfl, ⟨w, rfl, w1, w2⟩, hvs3⟩ := ea_rl_cons hvs2
  obtain rfl := ea_rl_nil hvs3
  obtain rfl : v0 = .inr (.inl (some 190)) := h0
  dsimp only at c1 c2 w1 w2
  obtain ⟨zW, e0, rfl, ⟨pW, q1, q2⟩, hp2⟩ := ea_rl_cons hpre
  obtain ⟨zN, e1, rfl, ⟨pN, n1, n2⟩, hp3⟩ := ea_rl_cons hp2
  obtain ⟨z1, z2, s1, s2, hz⟩ := hrel _ List.mem_cons_self
  obtain ⟨x1, hx1, hx2⟩ : ∃ x : Int32, ea_lk (ea_ar 0 [.inr (.inl (some 190)), .inl (.inl c), .inl (.inl w)]) 1 = some (.inl (.inl x)) ∧ x.toInt = z1 := s1
  obtain rfl : c = x1 := by
    have : some (Sum.inl (Sum.inl c)) = some (Sum.inl (Sum.inl x1)) := hx1
    cases this
    rfl
  have hs2 : zN = z2 := by
    have : some zN = some z2 := s2
    cases this
    rfl
  have hN : rf_v C 191 0 = zN := rf_v_pv (a := 191) (by decide) pN
  have hW : rf_W C := rf_b_of (p := rf_W C) (by
    have h1 : rf_G u 999 C = zW := pW
    have h2 : rf_G u 999 C = rf_b (rf_W C) := rfl
    dsimp only at q1 q2
    omega)
  have hlen := hW.1 c.toInt.toNat (by omega) (by dsimp only at hz; omega)
  refine of_run X hI c1 c2 (by omega) (by omega) (fun y f f1 f2 hy => ?_)
  have hwn : w.toInt.toNat = 5 := by omega
  rw [hwn, show 18 + 13 * c.toInt.toNat + 5 = 23 + 13 * c.toInt.toNat by omega] at f1 hy
  rw [rf_len c.toInt.toNat (by omega)] at f1
  cases f1
  obtain ⟨y', y1, y2, y3⟩ := f2
  cases y1
  exact ⟨_, rfl, hI, fr_c_rf _ _ C, ⟨y, rfl, by show (1 : Int) ≤ _; omega, y3⟩, po_n rfl rfl⟩
theorem gs_191 : ∀ q ∈ tr_gs, q.2.1 = 191 → q.2.2.1 = q.2.2.2 ∧ (q.2.2.1 = 0 ∨ (q.2.2.1 - 23) % 13 = 0) := by decide
/-- a store into the world, at no count and no length -/
theorem fr_191 (u : Nat) {C : List AC} {d : AV} {us : List (Nat × AV)} (hC : ea_nt C 191 = some (.inl (0, 388, d, us))) {j : Nat} {v : AV} (h0 : j ≠ 0) (h1 : ¬ ((j : Int) - 23) % 13 = 0) : fr_c (rf_G u) [(191, 192)] C (C.set 191 (.inl (0, 388, d, (j, v) :: us))) := by
  refine ⟨fun b hb => ?_, fun k _ _ => rf_gs u k C _ (fun a i hq => ?_)⟩
  · have : (191 : Nat) ≠ b := by
      rintro rfl
      exact absurd hb (by decide)
    rw [nt_set_ne this]
  · obtain ⟨q, q1, q2, q3, q4, q5⟩ := hq
    refine cv_arr (t := (191, (j : Int), (j : Int), 1, 0)) hC ⟨rfl, Int.le_refl _, Int.le_refl _, Int.emod_one _⟩ a i ?_
    rintro ⟨rfl, w1, w2, -⟩
    dsimp only at w1 w2
    obtain ⟨g1, g2⟩ := gs_191 q q1 q3
    have hij : (i : Int) = (j : Int) := by omega
    have hiq : (i : Int) = q.2.2.1 := by omega
    rcases g2 with g2 | g2
    · omega
    · rw [← hiq, hij] at g2
      exact h1 g2
theorem rf_kd {w : Nat} {f : FT} {y : Int32} (hf : ea_nt tg_row w = some f) (hy : ft_g f (.inl (.inl y))) : el_g 0 388 tg_row w (.inl (.inl y)) := by
  refine el_put (by decide) ⟨f, ?_, hy⟩
  have hl : w < 388 := by
    have := nt_lt hf
    have e : tg_row.length = 388 := by decide +kernel
    omega
  rw [Nat.mod_eq_of_lt hl]
  exact hf
theorem pv_el {GF : GH} {C : List AC} {a kd n : Nat} {d : AV} {us : List (Nat × AV)} {j k : Nat} {v : AV} {z : Int} (ha : ¬ 999 ≤ a) (hC : ea_nt C a = some (.inl (kd, n, d, us))) (hjk : j ≠ k) (h : pv GF C a k z) : pv GF (C.set a (.inl (kd, n, d, (j, v) :: us))) a k z := by
  unfold pv at h ⊢
  rw [if_neg ha] at h ⊢
  obtain ⟨x, h1, h2⟩ := h
  refine ⟨x, ?_, h2⟩
  rw [cv_arr (t := (a, (j : Int), (j : Int), 1, 0)) hC ⟨rfl, Int.le_refl _, Int.le_refl _, Int.emod_one _⟩ a k]
  · exact h1
  · rintro ⟨-, w1, w2, -⟩
    dsimp only at w1 w2
    exact hjk (by omega)
/-- sets: what is done -/
theorem tr_h2 (X : Option (List AI)) (u : Nat) : cx_ok (tb_P X) tb_G (rf_G u) trk_2 := by
  intro vs C EV hvs hI hpre hrel
  obtain ⟨v0, t0, rfl, h0, hvs1⟩ := ea_rl_cons hvs
  obtain ⟨v1, t1, rfl, ⟨c, rfl, c1, c2⟩, hvs2⟩ := ea_rl_cons hvs1
  obtain ⟨v2, t2, rfl, ⟨w, rfl, w1, w2⟩, hvs3⟩ := ea_rl_cons hvs2
  obtain ⟨v3, t3, rfl, ⟨v, rfl, x1, x2⟩, hvs4⟩ := ea_rl_cons hvs3
  obtain rfl := ea_rl_nil hvs4
  obtain rfl : v0 = .inr (.inl (some 190)) := h0
  dsimp only at c1 c2 w1 w2 x1 x2
  obtain ⟨zN, e1, rfl, ⟨pN, n1, n2⟩, hp3⟩ := ea_rl_cons hpre
  refine sets_run X hI c1 c2 (by omega) (by omega) (fun d us hC => ?_)
  have hw := rf_way c.toInt.toNat (by omega) (w.toInt.toNat - 7) (by omega)
  rw [show w.toInt.toNat - 7 + 7 = w.toInt.toNat by omega, Nat.mod_eq_of_lt (by omega)] at hw
  have hp : pv (rf_G u) (C.set 191 (.inl (0, 388, d, (18 + 13 * c.toInt.toNat + w.toInt.toNat, .inl (.inl v)) :: us))) 191 0 zN := pv_el (by decide) hC (by omega) pN
  refine ⟨none, rfl, xI_sa hI (show tb_G 191 = some (.inr (0, 388, 388, tg_row)) from rfl) hC (rf_kd hw ⟨v, rfl, x1, x2⟩), fr_191 u hC (by omega) (by omega), rfl, ⟨[zN], ⟨⟨hp, n1, n2⟩, trivial⟩⟩, fun q hq => ?_⟩
  rcases List.mem_cons.mp hq with rfl | hq
  · exact ⟨zN, zN, hp, rfl, by dsimp only; omega⟩
  · rcases List.mem_cons.mp hq with rfl | hq
    · exact ⟨zN, zN, rfl, hp, by dsimp only; omega⟩
    · exact nomatch hq
end
section
/-! CONTRACTS BY HAND: the lengths of habits; the counts -/
theorem rf_v_set {C : List AC} {a kd n : Nat} {d : AV} {us : List (Nat × AV)} {j : Nat} {v : AV} (hC : ea_nt C a = some (.inl (kd, n, d, us))) {b k : Nat} (h : ¬ (b = a ∧ k = j)) : rf_v (C.set a (.inl (kd, n, d, (j, v) :: us))) b k = rf_v C b k := by
  refine rf_v_eq (cv_arr (t := (a, (j : Int), (j : Int), 1, 0)) hC ⟨rfl, Int.le_refl _, Int.le_refl _, Int.emod_one _⟩ b k ?_)
  rintro ⟨h1, w1, w2, -⟩
  dsimp only at h1 w1 w2
  exact h ⟨h1, by omega⟩
theorem rf_v_self {C : List AC} {a kd n : Nat} {d : AV} {us : List (Nat × AV)} {j : Nat} {x : Int32} (hC : ea_nt C a = some (.inl (kd, n, d, us))) (hj : j < n) : rf_v (C.set a (.inl (kd, n, d, (j, .inl (.inl x)) :: us))) a j = x.toInt :=
  rf_el (nt_set_self hC) hj (by rw [ea_al_at, if_pos rfl])
/-- the rows of the world's copies are as they were -/
theorem rf_W_191 {C : List AC} {d : AV} {us : List (Nat × AV)} {j : Nat} {v : AV} (hC : ea_nt C 191 = some (.inl (0, 388, d, us))) (hW : rf_W C) (h : rf_row (rf_v (C.set 191 (.inl (0, 388, d, (j, v) :: us))) 191)) : rf_W (C.set 191 (.inl (0, 388, d, (j, v) :: us))) := by
  have e : ∀ b k, b ≠ 191 → rf_v (C.set 191 (.inl (0, 388, d, (j, v) :: us))) b k = rf_v C b k := fun b k hb => rf_v_set hC (fun hc => hb hc.1)
  refine ⟨h, (rf_row_eq (e 192 _ (by decide)) (fun c _ => e 192 _ (by decide))).mpr hW.2.1, (rf_row_eq (e 193 _ (by decide)) (fun c _ => e 193 _ (by decide))).mpr hW.2.2.1, (rf_row_eq (e 194 _ (by decide)) (fun c _ => e 194 _ (by decide))).mpr hW.2.2.2.1, fun t ht => ?_⟩
  exact (rf_row_eq (f := fun k => rf_v (C.set 191 (.inl (0, 388, d, (j, v) :: us))) 195 (388 * t + k)) (g := fun k => rf_v C 195 (388 * t + k)) (e 195 _ (by decide)) (fun c _ => e 195 _ (by decide))).mpr (hW.2.2.2.2 t ht)
theorem gs_191w : ∀ q ∈ tr_gs, q.2.1 = 191 → q.1 = 999 ∨ q.1 = 1000 := by decide
/-- a store into the world at any place: the other ghosts stay -/
theorem fr_191w (u : Nat) {C : List AC} {d : AV} {us : List (Nat × AV)} (hC : ea_nt C 191 = some (.inl (0, 388, d, us))) {j : Nat} {v : AV} : fr_c (rf_G u) [(191, 192), (999, 1001)] C (C.set 191 (.inl (0, 388, d, (j, v) :: us))) := by
  refine ⟨fun b hb => ?_, fun k hk hm => rf_gs u k C _ (fun a i hq => ?_)⟩
  · have : (191 : Nat) ≠ b := by
      rintro rfl
      exact absurd hb (by decide)
    rw [nt_set_ne this]
  · obtain ⟨q, q1, q2, q3, q4, q5⟩ := hq
    refine cv_eq (nt_set_ne ?_) i
    rintro rfl
    rcases gs_191w q q1 q3 with h | h
    · rw [← q2, h] at hm
      exact absurd hm (by decide)
    · rw [← q2, h] at hm
      exact absurd hm (by decide)
theorem rf_G_W {u : Nat} {C : List AC} {z : Int} (h : pv (rf_G u) C 999 0 z) (h1 : 1 ≤ z) (h2 : z ≤ 1) : rf_W C := rf_b_of (p := rf_W C) (by
  have h3 : rf_G u 999 C = z := h
  have h4 : rf_G u 999 C = rf_b (rf_W C) := rfl
  omega)
theorem rf_G_W2 {u : Nat} {C : List AC} {z : Int} (h : pv (rf_G u) C 1000 0 z) (h1 : 1 ≤ z) (h2 : z ≤ 1) : rf_row2 (rf_v C 191) := rf_b_of (p := rf_row2 (rf_v C 191)) (by
  have h3 : rf_G u 1000 C = z := h
  have h4 : rf_G u 1000 C = rf_b (rf_row2 (rf_v C 191)) := rfl
  omega)
/-- sets: the habit of the citizen that is being made has a length -/
theorem tr_h3 (X : Option (List AI)) (u : Nat) : cx_ok (tb_P X) tb_G (rf_G u) trk_3 := by
  intro vs C EV hvs hI hpre hrel
  obtain ⟨v0, t0, rfl, h0, hvs1⟩ := ea_rl_cons hvs
  obtain ⟨v1, t1, rfl, ⟨c, rfl, c1, c2⟩, hvs2⟩ := ea_rl_cons hvs1
  obtain ⟨v2, t2, rfl, ⟨w, rfl, w1, w2⟩, hvs3⟩ := ea_rl_cons hvs2
  obtain ⟨v3, t3, rfl, ⟨v, rfl, x1, x2⟩, hvs4⟩ := ea_rl_cons hvs3
  obtain rfl := ea_rl_nil hvs4
  obtain rfl : v0 = .inr (.inl (some 190)) := h0
  dsimp only at c1 c2 w1 w2 x1 x2
  obtain ⟨zW, e0, rfl, ⟨pW, q1, q2⟩, hp2⟩ := ea_rl_cons hpre
  obtain ⟨zN, e1, rfl, ⟨pN, n1, n2⟩, hp3⟩ := ea_rl_cons hp2
  dsimp only at q1 q2 n1 n2
  have hW := rf_G_W pW q1 q2
  have hN : rf_v C 191 0 = zN := rf_v_pv (a := 191) (by decide) pN
  obtain ⟨z1, z2, s1, s2, hz⟩ := hrel _ List.mem_cons_self
  obtain ⟨z3, z4, s3, s4, hz'⟩ := hrel _ (List.mem_cons_of_mem _ List.mem_cons_self)
  have r1 : z1 = c.toInt := sp_one s1 ⟨c, rfl, rfl⟩
  have r2 : z2 = zN := sp_one s2 rfl
  have r3 : z3 = zN := sp_one s3 rfl
  have r4 : z4 = c.toInt := sp_one s4 ⟨c, rfl, rfl⟩
  dsimp only at hz hz'
  refine sets_run X hI c1 c2 (by omega) (by omega) (fun d us hC => ?_)
  have hj : 18 + 13 * c.toInt.toNat + w.toInt.toNat = 23 + 13 * c.toInt.toNat := by omega
  rw [hj]
  have hlen := rf_len c.toInt.toNat (by omega)
  rw [Nat.mod_eq_of_lt (by omega)] at hlen
  have hp : pv (rf_G u) (C.set 191 (.inl (0, 388, d, (23 + 13 * c.toInt.toNat, .inl (.inl v)) :: us))) 191 0 zN := pv_el (by decide) hC (by omega) pN
  have h0' : rf_v (C.set 191 (.inl (0, 388, d, (23 + 13 * c.toInt.toNat, .inl (.inl v)) :: us))) 191 0 = rf_v C 191 0 := rf_v_set hC (fun hc => by have := hc.2; omega)
  have row2 : rf_row2 (rf_v (C.set 191 (.inl (0, 388, d, (23 + 13 * c.toInt.toNat, .inl (.inl v)) :: us))) 191) := by
    intro k hk hle
    rw [h0'] at hle
    by_cases hkc : k = c.toInt.toNat
    · rw [hkc, rf_v_self hC (by omega)]
      exact x1
    · rw [rf_v_set hC (fun hc => hkc (by have := hc.2; omega))]
      exact hW.1 k hk (by omega)
  have row1 : rf_row (rf_v (C.set 191 (.inl (0, 388, d, (23 + 13 * c.toInt.toNat, .inl (.inl v)) :: us))) 191) := fun k hk hl => row2 k hk (by omega)
  have hW' := rf_W_191 hC hW row1
  have pW' : pv (rf_G u) (C.set 191 (.inl (0, 388, d, (23 + 13 * c.toInt.toNat, .inl (.inl v)) :: us))) 999 0 1 := rf_b_1 hW'
  have pW2 : pv (rf_G u) (C.set 191 (.inl (0, 388, d, (23 + 13 * c.toInt.toNat, .inl (.inl v)) :: us))) 1000 0 1 := rf_b_1 row2
  refine ⟨none, rfl, xI_sa hI (show tb_G 191 = some (.inr (0, 388, 388, tg_row)) from rfl) hC (rf_kd hlen ⟨v, rfl, by omega, by omega⟩), fr_191w u hC, rfl, ⟨[1, 1, zN], ⟨⟨pW', by decide, by decide⟩, ⟨pW2, by decide, by decide⟩, ⟨hp, n1, n2⟩, trivial⟩⟩, fun q hq => ?_⟩
  rcases List.mem_cons.mp hq with rfl | hq
  · exact ⟨zN, zN, hp, rfl, by dsimp only; omega⟩
  · rcases List.mem_cons.mp hq with rfl | hq
    · exact ⟨zN, zN, rfl, hp, by dsimp only; omega⟩
    · exact nomatch hq
/-- sets: no length yet of the citizen that is being made -/
theorem tr_h4 (X : Option (List AI)) (u : Nat) : cx_ok (tb_P X) tb_G (rf_G u) trk_4 := by
  intro vs C EV hvs hI hpre hrel
  obtain ⟨v0, t0, rfl, h0, hvs1⟩ := ea_rl_cons hvs
  obtain ⟨v1, t1, rfl, ⟨c, rfl, c1, c2⟩, hvs2⟩ := ea_rl_cons hvs1
  obtain ⟨v2, t2, rfl, ⟨w, rfl, w1, w2⟩, hvs3⟩ := ea_rl_cons hvs2
  obtain ⟨v3, t3, rfl, ⟨v, rfl, x1, x2⟩, hvs4⟩ := ea_rl_cons hvs3
  obtain rfl := ea_rl_nil hvs4
  obtain rfl : v0 = .inr (.inl (some 190)) := h0
  dsimp only at c1 c2 w1 w2 x1 x2
  obtain ⟨zW, e0, rfl, ⟨pW, q1, q2⟩, hp2⟩ := ea_rl_cons hpre
  obtain ⟨zN, e1, rfl, ⟨pN, n1, n2⟩, hp3⟩ := ea_rl_cons hp2
  dsimp only at q1 q2 n1 n2
  have hW := rf_G_W pW q1 q2
  have hN : rf_v C 191 0 = zN := rf_v_pv (a := 191) (by decide) pN
  obtain ⟨z3, z4, s3, s4, hz'⟩ := hrel _ List.mem_cons_self
  have r3 : z3 = zN := sp_one s3 rfl
  have r4 : z4 = c.toInt := sp_one s4 ⟨c, rfl, rfl⟩
  dsimp only at hz'
  refine sets_run X hI c1 c2 (by omega) (by omega) (fun d us hC => ?_)
  have hj : 18 + 13 * c.toInt.toNat + w.toInt.toNat = 23 + 13 * c.toInt.toNat := by omega
  rw [hj]
  have hlen := rf_len c.toInt.toNat (by omega)
  rw [Nat.mod_eq_of_lt (by omega)] at hlen
  have hp : pv (rf_G u) (C.set 191 (.inl (0, 388, d, (23 + 13 * c.toInt.toNat, .inl (.inl v)) :: us))) 191 0 zN := pv_el (by decide) hC (by omega) pN
  have h0' : rf_v (C.set 191 (.inl (0, 388, d, (23 + 13 * c.toInt.toNat, .inl (.inl v)) :: us))) 191 0 = rf_v C 191 0 := rf_v_set hC (fun hc => by have := hc.2; omega)
  have row1 : rf_row (rf_v (C.set 191 (.inl (0, 388, d, (23 + 13 * c.toInt.toNat, .inl (.inl v)) :: us))) 191) := by
    intro k hk hl
    rw [h0'] at hl
    rw [rf_v_set hC (fun hc => by have := hc.2; omega)]
    exact hW.1 k hk hl
  have pW' : pv (rf_G u) (C.set 191 (.inl (0, 388, d, (23 + 13 * c.toInt.toNat, .inl (.inl v)) :: us))) 999 0 1 := rf_b_1 (rf_W_191 hC hW row1)
  refine ⟨none, rfl, xI_sa hI (show tb_G 191 = some (.inr (0, 388, 388, tg_row)) from rfl) hC (rf_kd hlen ⟨v, rfl, by omega, by omega⟩), fr_191w u hC, rfl, ⟨[1, zN], ⟨⟨pW', by decide, by decide⟩, ⟨hp, n1, n2⟩, trivial⟩⟩, fun q hq => ?_⟩
  rcases List.mem_cons.mp hq with rfl | hq
  · exact ⟨zN, zN, hp, rfl, by dsimp only; omega⟩
  · rcases List.mem_cons.mp hq with rfl | hq
    · exact ⟨zN, zN, rfl, hp, by dsimp only; omega⟩
    · exact nomatch hq
end
section
/-! PIECES BY HAND: a citizen more; the count of clauses kept and brought back; what is used up -/
theorem fr_f (u : Nat) {M : List (Nat × Nat)} {p : Nat} {v : AV} {vs : List AV} {C : List AC} (hC : ea_nt C 190 = some (.inr (12, vs))) (h190 : xm M 190 = true) (hall : gs_all tr_gs M (190, (p : Int), (p : Int), 1, 0) = true) : fr_c (rf_G u) M C (C.set 190 (.inr (12, vs.set p v))) := by
  refine ⟨fun b hb => ?_, fun k hk hm => gs_same (rf_gs u) (gs_all_hit hm hall) (cv_fld hC ⟨rfl, Int.le_refl _, Int.le_refl _, Int.emod_one _⟩)⟩
  have : (190 : Nat) ≠ b := by
    rintro rfl
    rw [h190] at hb
    cases hb
  rw [nt_set_ne this]
theorem rf_f {C : List AC} {a ci : Nat} {vs : List AV} {k : Nat} {y : Int32} (hC : ea_nt C a = some (.inr (ci, vs))) (hy : ea_nt vs k = some (.inl (.inl y))) : rf_v C a k = y.toInt := by
  unfold rf_v cv
  rw [hC]
  dsimp only
  rw [hy]
theorem ok_a0 {P : EP} {m pc : Nat} {L : List (Nat × AV)} {S : List AV} {C : List AC} {K : Option AV ⊕ Nat → List AC → Prop} {v : AV} (hc : ep_cod P m pc = some (.aload_n 0, 1)) (hl : ea_lk L 0 = some v) (hr : ea_isr v = true) (h : ok_ P m (pc + 1) L (v :: S) C K) : ok_ P m pc L S C K :=
  ok_p hc rfl (show (match ea_lk L 0 with
    | some a => if ea_isr a = true then some (pc + 1, L, a :: S) else none
    | none => none) = some (pc + 1, L, v :: S) by rw [hl]; dsimp only; rw [if_pos hr]) h

set_option maxRecDepth 20000 in
theorem tr_m2 (X : Option (List AI)) (u : Nat) : mc_ok (tb_P X) tb_G (rf_G u) 233 136 tr_mc2 146 := by
  intro cl cs C EV K hloc hI hpre hrel hk
  obtain ⟨l0, hl0, rfl⟩ := hloc _ List.mem_cons_self
  obtain ⟨zW, e0, rfl, ⟨pW, q1, q2⟩, hp2⟩ := ea_rl_cons hpre
  obtain ⟨zV, e1, rfl, ⟨pV, q3, q4⟩, hp3⟩ := ea_rl_cons hp2
  obtain ⟨zN, e2, rfl, ⟨pN, n1, n2⟩, hp4⟩ := ea_rl_cons hp3
  dsimp only at q1 q2 q3 q4 n1 n2
  have hW := rf_G_W pW q1 q2
  have hV := rf_G_W2 pV q3 q4
  have hN : rf_v C 191 0 = zN := rf_v_pv (a := 191) (by decide) pN
  obtain ⟨ms, m1, m2, m3⟩ := hI_f hI (show tb_G 190 = some (.inl (_, _)) from rfl)
  obtain ⟨d, us, a1, a2⟩ := hI_a hI (show tb_G 191 = some (.inr (_, _, _, _)) from rfl)
  obtain ⟨_, r1, rfl⟩ := m3 1 (.inr 191) rfl
  obtain ⟨f, f1, f2⟩ := el_get (by decide) (a2 0 (by decide))
  cases (show some (Sum.inl (0, 10)) = some f from f1)
  obtain ⟨y, y1, y2, y3⟩ := f2
  have hy := rf_el a1 (by decide) y1
  have hy1 : (y + Int32.ofInt 1).toInt = y.toInt + 1 := by
    have e : (Int32.ofInt 1).toInt = 1 := by decide
    rw [i32_add (by rw [e]; omega) (by rw [e]; omega), e]
  refine ok_a0 rfl hl0 rfl ?_
  refine ok_gf rfl rfl m1 r1 ?_
  refine ok_p rfl rfl rfl ?_
  refine ok_p rfl rfl rfl ?_
  refine ok_al rfl a1 (ix_of (j := 0) (by decide) (by decide)) y1 ?_
  refine ok_p rfl rfl rfl ?_
  refine ok_p rfl rfl rfl ?_
  refine ok_as rfl a1 (ix_of (j := 0) (by decide) (by decide)) ?_
  have row1 : rf_row (rf_v (C.set 191 (.inl (0, 388, d, (0, .inl (.inl (y + Int32.ofInt 1))) :: us))) 191) := by
    intro k hk' hl
    rw [rf_v_self a1 (by decide)] at hl
    rw [rf_v_set a1 (fun hc => by have := hc.2; omega)]
    exact hV k hk' (by omega)
  refine hk _ (xI_sa hI (show tb_G 191 = some (.inr (0, 388, 388, tg_row)) from rfl) a1 (rf_kd (f := .inl (0, 10)) rfl ⟨_, rfl, by show (0 : Int) ≤ (y + Int32.ofInt 1).toInt; omega, by show (y + Int32.ofInt 1).toInt ≤ (10 : Int); omega⟩)) (fr_191w u a1) ⟨⟨[1], ⟨⟨rf_b_1 (rf_W_191 a1 hW row1), by decide, by decide⟩, trivial⟩⟩, fun q hq => nomatch hq⟩

set_option maxRecDepth 20000 in
theorem tr_m3 (X : Option (List AI)) (u : Nat) : mc_ok (tb_P X) tb_G (rf_G u) 265 134 tr_mc3 144 := by
  intro cl cs C EV K hloc hI hpre hrel hk
  obtain ⟨l0, hl0, rfl⟩ := hloc _ List.mem_cons_self
  obtain ⟨zW, e0, rfl, ⟨pW, q1, q2⟩, hp2⟩ := ea_rl_cons hpre
  obtain ⟨zV, e1, rfl, ⟨pV, q3, q4⟩, hp3⟩ := ea_rl_cons hp2
  obtain ⟨zN, e2, rfl, ⟨pN, n1, n2⟩, hp4⟩ := ea_rl_cons hp3
  dsimp only at q1 q2 q3 q4 n1 n2
  have hW := rf_G_W pW q1 q2
  have hV := rf_G_W2 pV q3 q4
  have hN : rf_v C 191 0 = zN := rf_v_pv (a := 191) (by decide) pN
  obtain ⟨ms, m1, m2, m3⟩ := hI_f hI (show tb_G 190 = some (.inl (_, _)) from rfl)
  obtain ⟨d, us, a1, a2⟩ := hI_a hI (show tb_G 191 = some (.inr (_, _, _, _)) from rfl)
  obtain ⟨_, r1, rfl⟩ := m3 1 (.inr 191) rfl
  obtain ⟨f, f1, f2⟩ := el_get (by decide) (a2 0 (by decide))
  cases (show some (Sum.inl (0, 10)) = some f from f1)
  obtain ⟨y, y1, y2, y3⟩ := f2
  have hy := rf_el a1 (by decide) y1
  have hy1 : (y + Int32.ofInt 1).toInt = y.toInt + 1 := by
    have e : (Int32.ofInt 1).toInt = 1 := by decide
    rw [i32_add (by rw [e]; omega) (by rw [e]; omega), e]
  refine ok_a0 rfl hl0 rfl ?_
  refine ok_gf rfl rfl m1 r1 ?_
  refine ok_p rfl rfl rfl ?_
  refine ok_p rfl rfl rfl ?_
  refine ok_al rfl a1 (ix_of (j := 0) (by decide) (by decide)) y1 ?_
  refine ok_p rfl rfl rfl ?_
  refine ok_p rfl rfl rfl ?_
  refine ok_as rfl a1 (ix_of (j := 0) (by decide) (by decide)) ?_
  have row1 : rf_row (rf_v (C.set 191 (.inl (0, 388, d, (0, .inl (.inl (y + Int32.ofInt 1))) :: us))) 191) := by
    intro k hk' hl
    rw [rf_v_self a1 (by decide)] at hl
    rw [rf_v_set a1 (fun hc => by have := hc.2; omega)]
    exact hV k hk' (by omega)
  refine hk _ (xI_sa hI (show tb_G 191 = some (.inr (0, 388, 388, tg_row)) from rfl) a1 (rf_kd (f := .inl (0, 10)) rfl ⟨_, rfl, by show (0 : Int) ≤ (y + Int32.ofInt 1).toInt; omega, by show (y + Int32.ofInt 1).toInt ≤ (10 : Int); omega⟩)) (fr_191w u a1) ⟨⟨[1], ⟨⟨rf_b_1 (rf_W_191 a1 hW row1), by decide, by decide⟩, trivial⟩⟩, fun q hq => nomatch hq⟩

set_option maxRecDepth 20000 in
theorem tr_m0 (X : Option (List AI)) (u : Nat) : mc_ok (tb_P X) tb_G (rf_G u) 193 31 tr_mc0 39 := by
  intro cl cs C EV K hloc hI hpre hrel hk
  obtain ⟨l0, hl0, rfl⟩ := hloc _ List.mem_cons_self
  obtain ⟨zW, e0, rfl, ⟨pW, q1, q2⟩, hp2⟩ := ea_rl_cons hpre
  obtain ⟨zJ, e1, rfl, ⟨pJ, q3, q4⟩, hp3⟩ := ea_rl_cons hp2
  dsimp only at q1 q2 q3 q4
  have hJ : rf_cls C 201 202 := rf_b_of (p := rf_cls C 201 202) (by
    have h3 : rf_G u 1001 C = zJ := pJ
    have h4 : rf_G u 1001 C = rf_b (rf_cls C 201 202) := rfl
    omega)
  obtain ⟨ms, m1, m2, m3⟩ := hI_f hI (show tb_G 190 = some (.inl (12, _)) from rfl)
  obtain ⟨_, r1, y, rfl, y2, y3⟩ := m3 15 (.inl (-1, 12)) rfl
  have hlen : ms.length = 38 := m2
  refine ok_a0 rfl hl0 rfl ?_
  refine ok_a0 rfl hl0 rfl ?_
  refine ok_gf rfl rfl m1 r1 ?_
  refine ok_pf rfl rfl m1 rfl (by rw [hlen]; rfl) ?_
  have same : ∀ b k, ¬ (b = 190 ∧ k = 16) → rf_v (C.set 190 (.inr (12, ms.set 16 (.inl (.inl y))))) b k = rf_v C b k := by
    intro b k hn
    refine rf_v_eq (cv_fld (t := (190, 16, 16, 1, 0)) m1 ⟨rfl, Int.le_refl _, Int.le_refl _, Int.emod_one _⟩ b k ?_)
    rintro ⟨h1, w1, w2, -⟩
    dsimp only at h1 w1 w2
    exact hn ⟨h1, by omega⟩
  have hself : rf_v (C.set 190 (.inr (12, ms.set 16 (.inl (.inl y))))) 190 16 = y.toInt := by
    obtain ⟨w, hw, -⟩ := m3 16 (.inl (-1, 12)) rfl
    exact rf_f (nt_set_self m1) (nt_set_self hw)
  have hsrc : rf_v C 190 15 = y.toInt := rf_f m1 r1
  have hfr : fr_c (rf_G u) [(190, 191), (1001, 1003)] C (C.set 190 (.inr (12, ms.set 16 (.inl (.inl y))))) := fr_f u m1 (by decide) (by decide)
  have pW' : pv (rf_G u) (C.set 190 (.inr (12, ms.set 16 (.inl (.inl y))))) 999 0 zW := by
    show rf_G u 999 _ = zW
    rw [hfr.2 999 (by decide) (by decide)]
    exact pW
  have pJ' : pv (rf_G u) (C.set 190 (.inr (12, ms.set 16 (.inl (.inl y))))) 1001 0 1 := by
    refine rf_b_1 ?_
    unfold rf_cls
    rw [hself, same 190 15 (by decide), hsrc]
    refine ⟨Or.inr rfl, fun k hk' hl => ?_⟩
    refine (rf_cl_eq (fun j hj => same 202 j (fun hc => absurd hc.1 (by decide))) (fun j hj => same 201 j (fun hc => absurd hc.1 (by decide))) hk').mpr (hJ.2 k hk' (by rw [hsrc]; exact hl))
  refine hk _ (xI_sf hI (show tb_G 190 = some (.inl (12, _)) from rfl) m1 (k := 16) (f := .inl (-1, 12)) rfl ⟨y, rfl, y2, y3⟩) hfr ⟨⟨[zW, 1], ⟨⟨pW', q1, q2⟩, ⟨pJ', by decide, by decide⟩, trivial⟩⟩, fun q hq => nomatch hq⟩

set_option maxRecDepth 20000 in
theorem tr_m1 (X : Option (List AI)) (u : Nat) : mc_ok (tb_P X) tb_G (rf_G u) 194 40 tr_mc1 48 := by
  intro cl cs C EV K hloc hI hpre hrel hk
  obtain ⟨l0, hl0, rfl⟩ := hloc _ List.mem_cons_self
  obtain ⟨zW, e0, rfl, ⟨pW, q1, q2⟩, hp2⟩ := ea_rl_cons hpre
  obtain ⟨zJ, e1, rfl, ⟨pJ, q3, q4⟩, hp3⟩ := ea_rl_cons hp2
  dsimp only at q1 q2 q3 q4
  have hJ : rf_cls C 201 202 := rf_b_of (p := rf_cls C 201 202) (by
    have h3 : rf_G u 1001 C = zJ := pJ
    have h4 : rf_G u 1001 C = rf_b (rf_cls C 201 202) := rfl
    omega)
  obtain ⟨ms, m1, m2, m3⟩ := hI_f hI (show tb_G 190 = some (.inl (12, _)) from rfl)
  obtain ⟨_, r1, y, rfl, y2, y3⟩ := m3 16 (.inl (-1, 12)) rfl
  have hlen : ms.length = 38 := m2
  refine ok_a0 rfl hl0 rfl ?_
  refine ok_a0 rfl hl0 rfl ?_
  refine ok_gf rfl rfl m1 r1 ?_
  refine ok_pf rfl rfl m1 rfl (by rw [hlen]; rfl) ?_
  have same : ∀ b k, ¬ (b = 190 ∧ k = 15) → rf_v (C.set 190 (.inr (12, ms.set 15 (.inl (.inl y))))) b k = rf_v C b k := by
    intro b k hn
    refine rf_v_eq (cv_fld (t := (190, 15, 15, 1, 0)) m1 ⟨rfl, Int.le_refl _, Int.le_refl _, Int.emod_one _⟩ b k ?_)
    rintro ⟨h1, w1, w2, -⟩
    dsimp only at h1 w1 w2
    exact hn ⟨h1, by omega⟩
  have hself : rf_v (C.set 190 (.inr (12, ms.set 15 (.inl (.inl y))))) 190 15 = y.toInt := by
    obtain ⟨w, hw, -⟩ := m3 15 (.inl (-1, 12)) rfl
    exact rf_f (nt_set_self m1) (nt_set_self hw)
  have hsrc : rf_v C 190 16 = y.toInt := rf_f m1 r1
  have hfr : fr_c (rf_G u) [(190, 191), (1001, 1003)] C (C.set 190 (.inr (12, ms.set 15 (.inl (.inl y))))) := fr_f u m1 (by decide) (by decide)
  have pW' : pv (rf_G u) (C.set 190 (.inr (12, ms.set 15 (.inl (.inl y))))) 999 0 zW := by
    show rf_G u 999 _ = zW
    rw [hfr.2 999 (by decide) (by decide)]
    exact pW
  have pJ' : pv (rf_G u) (C.set 190 (.inr (12, ms.set 15 (.inl (.inl y))))) 1001 0 1 := by
    refine rf_b_1 ?_
    unfold rf_cls
    rw [hself, same 190 16 (by decide), hsrc]
    refine ⟨Or.inr rfl, fun k hk' hl => ?_⟩
    refine (rf_cl_eq (fun j hj => same 202 j (fun hc => absurd hc.1 (by decide))) (fun j hj => same 201 j (fun hc => absurd hc.1 (by decide))) hk').mpr (hJ.2 k hk' ?_)
    rcases hJ.1 with h1 | h1
    · omega
    · omega
  refine hk _ (xI_sf hI (show tb_G 190 = some (.inl (12, _)) from rfl) m1 (k := 15) (f := .inl (-1, 12)) rfl ⟨y, rfl, y2, y3⟩) hfr ⟨⟨[zW, 1], ⟨⟨pW', q1, q2⟩, ⟨pJ', by decide, by decide⟩, trivial⟩⟩, fun q hq => nomatch hq⟩
end
section
/-! CONTRACTS BY HAND: what a reader does to the point's lead over the steps, out of what it does to both -/
theorem rl_split {α β : Type} {R : α → β → Prop} {q : α} : ∀ {l : List α} {bs : List β}, ea_rl R (l ++ [q]) bs → ∃ cs b, bs = cs ++ [b] ∧ ea_rl R l cs ∧ R q b
  | [], bs, h => by
    obtain ⟨b, t, rfl, h1, h2⟩ := ea_rl_cons h
    obtain rfl := ea_rl_nil h2
    exact ⟨[], b, rfl, trivial, h1⟩
  | a :: l, bs, h => by
    obtain ⟨b, t, rfl, h1, h2⟩ := ea_rl_cons (show ea_rl R (a :: (l ++ [q])) bs from h)
    obtain ⟨cs, b', rfl, h3, h4⟩ := rl_split h2
    exact ⟨b :: cs, b', rfl, ⟨h1, h3⟩, h4⟩
theorem nt_app {α : Type} {l : List α} {x a : α} {k : Nat} (h : ea_nt l k = some a) : ea_nt (l ++ [x]) k = some a := by
  rw [ea_nt_eq] at h ⊢
  rw [List.getElem?_append_left (List.getElem?_eq_some_iff.mp h).1]
  exact h
theorem nt_last {α : Type} (l : List α) (x : α) : ea_nt (l ++ [x]) l.length = some x := by
  rw [ea_nt_eq, List.getElem?_append_right (Nat.le_refl _), Nat.sub_self]
  rfl
theorem sp_app {GF : GH} {cl : List (Nat × AV)} {EV : List Int} {C : List AC} {s : SP} {z x : Int} (h : sp_g GF cl EV C s z) : sp_g GF cl (EV ++ [x]) C s z := by
  match s, h with
  | .inl k, h => exact h
  | .inr (.inl j), h => exact nt_app (show ea_nt EV j = some z from h)
  | .inr (.inr q), h => exact h
theorem rl_app {GF : GH} {cl : List (Nat × AV)} {EV : List Int} {C : List AC} {l : List RL} {x : Int} (h : rl_g GF cl EV C l) : rl_g GF cl (EV ++ [x]) C l := fun q hq => by
  obtain ⟨z1, z2, h1, h2, h3⟩ := h q hq
  exact ⟨z1, z2, sp_app h1, sp_app h2, h3⟩
theorem pb_mem {GF : GH} {C : List AC} : ∀ {l : List PB} {EV : List Int}, pb_g GF C l EV → ∀ q ∈ l, ∃ z, pv GF C q.1 q.2.1 z ∧ q.2.2.1 ≤ z ∧ z ≤ q.2.2.2
  | [], _, _, q, hq => nomatch hq
  | p :: t, EV, h, q, hq => by
    obtain ⟨b, t', rfl, h1, h2⟩ := ea_rl_cons h
    rcases List.mem_cons.mp hq with rfl | hq
    · exact ⟨b, h1⟩
    · exact pb_mem h2 q hq
theorem rl_snoc {α β : Type} {R : α → β → Prop} {a : α} {b : β} : ∀ {l : List α} {bs : List β}, ea_rl R l bs → R a b → ea_rl R (l ++ [a]) (bs ++ [b]) := fun h1 h2 => ea_rl_app h1 ⟨h2, trivial⟩
def si_q : PB := (1005, 0, -400, 400)
def po_l (po : PO) (n : Nat) (a : Int) : PO := (po.1 ++ [si_q], po.2 ++ [(.inr (.inl n), .inr (.inr (1005, 0)), -a)])
def cx_l (c : CX) (a0 a1 : Int) : CX := ((c.1.1, c.1.2.1, c.1.2.2.1, c.1.2.2.2.1, [], c.1.2.2.2.2.2 ++ [si_q]), c.2.1, c.2.2.1, po_l c.2.2.2.1 c.1.2.2.2.2.2.length a0, po_l c.2.2.2.2 c.1.2.2.2.2.2.length a1)
def po_h (po : PO) (a : Int) : Prop := ((190, 19, 0, 400) : PB) ∈ po.1 ∧ ((190, 25, 0, 400) : PB) ∈ po.1 ∧ ((.inr (.inl 0), .inr (.inr (190, 19)), -a) : RL) ∈ po.2 ∧ ((.inr (.inr (190, 25)), .inr (.inl 1), 0) : RL) ∈ po.2
theorem lift_po (u : Nat) {C C' : List AC} {EV : List Int} {v : Option AV} {po : PO} {a z p s : Int} (hp : po_h po a) (e0 : ea_nt EV 0 = some p) (e1 : ea_nt EV 1 = some s) (hps : p = rf_v C 190 19) (hss : s = rf_v C 190 25) (hz : pv (rf_G u) C 1005 0 z) (h : po_g (rf_G u) po v EV C') : po_g (rf_G u) (po_l po EV.length a) v (EV ++ [z]) C' := by
  obtain ⟨⟨NV, hNV⟩, hrl⟩ := h
  obtain ⟨g1, g2, g3, g4⟩ := hp
  obtain ⟨zp, a1, a2, a3⟩ := pb_mem hNV _ g1
  obtain ⟨zs, b1, b2, b3⟩ := pb_mem hNV _ g2
  dsimp only at a1 a2 a3 b1 b2 b3
  have hzp := rf_v_pv (a := 190) (by decide) a1
  have hzs := rf_v_pv (a := 190) (by decide) b1
  obtain ⟨x1, x2, s1, s2, s3⟩ := hrl _ g3
  obtain ⟨y1, y2, t1, t2, t3⟩ := hrl _ g4
  dsimp only at s1 s2 s3 t1 t2 t3
  have r1 : x1 = p := sp_one s1 (show sp_g (rf_G u) (rv_l v) EV C' (.inr (.inl 0)) p from e0)
  have r2 : x2 = zp := sp_one s2 (show sp_g (rf_G u) (rv_l v) EV C' (.inr (.inr (190, 19))) zp from a1)
  have r3 : y1 = zs := sp_one t1 (show sp_g (rf_G u) (rv_l v) EV C' (.inr (.inr (190, 25))) zs from b1)
  have r4 : y2 = s := sp_one t2 (show sp_g (rf_G u) (rv_l v) EV C' (.inr (.inl 1)) s from e1)
  have hz1 : rf_v C 190 19 - rf_v C 190 25 = z := hz
  have hn : pv (rf_G u) C' 1005 0 (zp - zs) := by
    show rf_v C' 190 19 - rf_v C' 190 25 = zp - zs
    rw [hzp, hzs]
  refine ⟨⟨NV ++ [zp - zs], rl_snoc hNV ⟨hn, by show (-400 : Int) ≤ _; omega, by show _ ≤ (400 : Int); omega⟩⟩, fun q hq => ?_⟩
  rcases List.mem_append.mp hq with hq | hq
  · exact rl_app hrl q hq
  · rcases List.mem_cons.mp hq with rfl | hq
    · exact ⟨z, zp - zs, nt_last EV z, hn, by dsimp only; omega⟩
    · exact nomatch hq
theorem lift_ok (u : Nat) {P : EP} {c : CX} {a0 a1 : Int} (hr : c.2.1 = []) {rest : List PB} (hpre : c.1.2.2.2.2.2 = (190, 19, 0, 400) :: (190, 25, 0, 400) :: rest) (h0 : po_h c.2.2.2.1 a0) (h1 : po_h c.2.2.2.2 a1) (hc : cx_ok P tb_G (rf_G u) c) : cx_ok P tb_G (rf_G u) (cx_l c a0 a1) := by
  intro vs C EV' hvs hI hp hrel
  obtain ⟨EV, z, rfl, hE, hz⟩ := rl_split (show ea_rl _ (c.1.2.2.2.2.2 ++ [si_q]) EV' from hp)
  have run := hc vs C EV hvs hI hE (by rw [hr]; exact fun q hq => nomatch hq)
  have hlen : c.1.2.2.2.2.2.length = EV.length := ea_rl_len hE
  have hE2 := hE
  rw [hpre] at hE2
  obtain ⟨p, E1, rfl, ⟨p1, -, -⟩, hE3⟩ := ea_rl_cons hE2
  obtain ⟨s, E2, rfl, ⟨s1, -, -⟩, hE4⟩ := ea_rl_cons hE3
  have hps := rf_v_pv (a := 190) (by decide) p1
  have hss := rf_v_pv (a := 190) (by decide) s1
  refine ok_post run (fun o C' ho => ?_)
  obtain ⟨v, rfl, o1, o2, o3, o4⟩ := ho
  refine ⟨v, rfl, o1, o2, o3, ?_⟩
  have key : ∀ po a, po_h po a → po_g (rf_G u) po v (p :: s :: E2) C' → po_g (rf_G u) (po_l po c.1.2.2.2.2.2.length a) v ((p :: s :: E2) ++ [z]) C' := fun po a hh hg => by
    rw [hlen]
    exact lift_po u hh rfl rfl hps.symm hss.symm hz.1 hg
  unfold cx_po at o4 ⊢
  split at o4
  · rename_i x
    by_cases hx : x.toInt < c.2.2.1
    · rw [if_pos hx] at o4
      have e : (if x.toInt < (cx_l c a0 a1).2.2.1 then (cx_l c a0 a1).2.2.2.1 else (cx_l c a0 a1).2.2.2.2) = po_l c.2.2.2.1 c.1.2.2.2.2.2.length a0 := if_pos hx
      rw [e]
      exact key _ _ h0 o4
    · rw [if_neg hx] at o4
      have e : (if x.toInt < (cx_l c a0 a1).2.2.1 then (cx_l c a0 a1).2.2.2.1 else (cx_l c a0 a1).2.2.2.2) = po_l c.2.2.2.2 c.1.2.2.2.2.2.length a1 := if_neg hx
      rw [e]
      exact key _ _ h1 o4
  · exact key _ _ h1 o4
theorem tr_h38 (X : Option (List AI)) (u : Nat) (h : cx_ok (tb_P X) tb_G (rf_G u) trk_37) : cx_ok (tb_P X) tb_G (rf_G u) trk_38 := lift_ok (c := trk_37) (a0 := 0) (a1 := 1) u rfl rfl ⟨.head _, .tail _ (.tail _ (.head _)), .head _, .tail _ (.head _)⟩ ⟨.head _, .tail _ (.tail _ (.head _)), .head _, .tail _ (.head _)⟩ h
theorem tr_h40 (X : Option (List AI)) (u : Nat) (h : cx_ok (tb_P X) tb_G (rf_G u) trk_39) : cx_ok (tb_P X) tb_G (rf_G u) trk_40 := lift_ok (c := trk_39) (a0 := 0) (a1 := 1) u rfl rfl ⟨.head _, .tail _ (.tail _ (.head _)), .head _, .tail _ (.head _)⟩ ⟨.head _, .tail _ (.tail _ (.head _)), .head _, .tail _ (.head _)⟩ h
theorem tr_h42 (X : Option (List AI)) (u : Nat) (h : cx_ok (tb_P X) tb_G (rf_G u) trk_41) : cx_ok (tb_P X) tb_G (rf_G u) trk_42 := lift_ok (c := trk_41) (a0 := 0) (a1 := 1) u rfl rfl ⟨.head _, .tail _ (.tail _ (.head _)), .head _, .tail _ (.head _)⟩ ⟨.head _, .tail _ (.tail _ (.head _)), .head _, .tail _ (.head _)⟩ h
theorem tr_h44 (X : Option (List AI)) (u : Nat) (h : cx_ok (tb_P X) tb_G (rf_G u) trk_43) : cx_ok (tb_P X) tb_G (rf_G u) trk_44 := lift_ok (c := trk_43) (a0 := 0) (a1 := 1) u rfl rfl ⟨.head _, .tail _ (.tail _ (.head _)), .head _, .tail _ (.head _)⟩ ⟨.head _, .tail _ (.tail _ (.head _)), .head _, .tail _ (.head _)⟩ h
theorem tr_h46 (X : Option (List AI)) (u : Nat) (h : cx_ok (tb_P X) tb_G (rf_G u) trk_45) : cx_ok (tb_P X) tb_G (rf_G u) trk_46 := lift_ok (c := trk_45) (a0 := 0) (a1 := 1) u rfl rfl ⟨.head _, .tail _ (.tail _ (.head _)), .head _, .tail _ (.head _)⟩ ⟨.head _, .tail _ (.tail _ (.head _)), .head _, .tail _ (.head _)⟩ h
end
section
/-! CONTRACTS BY HAND: the tape is used up -/
theorem fr_c_same {GF : GH} {M : List (Nat × Nat)} {C0 C C' : List AC} (h : fr_c GF M C0 C) (h' : fr_c GF M C C') : fr_c GF M C0 C' := ⟨fun b hb => by rw [h'.1 b hb, h.1 b hb], fun k hk hm => by rw [h'.2 k hk hm, h.2 k hk hm]⟩
set_option maxRecDepth 20000 in
theorem tr_h71 (X : Option (List AI)) (u : Nat) : cx_ok (tb_P X) tb_G (rf_G u) trk_71 := by
  intro vs C EV hvs hI hpre hrel
  obtain ⟨v0, t0, rfl, h0, hvs1⟩ := ea_rl_cons hvs
  obtain rfl := ea_rl_nil hvs1
  obtain rfl : v0 = .inr (.inl (some 190)) := h0
  obtain ⟨zD, e1, rfl, ⟨pD, n1, n2⟩, hp3⟩ := ea_rl_cons hpre
  dsimp only at n1 n2
  obtain ⟨ms, m1, m2, m3⟩ := hI_f hI (show tb_G 190 = some (.inl (12, _)) from rfl)
  have hlen : ms.length = 38 := m2
  obtain ⟨_, r18, t, rfl, t1, t2⟩ := m3 18 (.inl (0, 400)) rfl
  obtain ⟨w0, r0, -⟩ := m3 0 (.inl (-2147483648, 2147483647)) rfl
  obtain ⟨w20, r20, -⟩ := m3 20 (.inl (0, 400)) rfl
  obtain ⟨w19, r19, -⟩ := m3 19 (.inl (0, 400)) rfl
  obtain ⟨_, r22, dd, rfl, d1, d2⟩ := m3 22 (.inl (0, 6)) rfl
  have z0 : (Int32.ofInt (Int.ofNat 0)).toInt = 0 := by decide
  have hD : zD = dd.toInt := by
    have h1 : rf_v C 190 22 = zD := rf_v_pv (a := 190) (by decide) pD
    have h2 := rf_f m1 r22
    omega
  refine ok_p rfl rfl rfl ?_
  refine ok_p rfl rfl rfl ?_
  refine ok_pf rfl rfl m1 rfl (by rw [hlen]; rfl) ?_
  have I1 := xI_sf hI (show tb_G 190 = some (.inl (12, _)) from rfl) m1 (k := 0) (v := .inl (.inl (Int32.ofInt (Int.ofNat 0)))) rfl ⟨_, rfl, by rw [z0]; decide, by rw [z0]; decide⟩
  have F1 : fr_c (rf_G u) [(190, 191), (1005, 1008)] C (C.set 190 (.inr (12, ms.set 0 (.inl (.inl (Int32.ofInt (Int.ofNat 0))))))) := fr_f u m1 (by decide) (by decide)
  have N1 := nt_set_self (c := Sum.inr (12, ms.set 0 (.inl (.inl (Int32.ofInt (Int.ofNat 0)))))) m1
  have L1 : (ms.set 0 (Sum.inl (Sum.inl (Int32.ofInt (Int.ofNat 0))))).length = 38 := by rw [nt_len_set]; exact hlen
  have q18 : ea_nt (ms.set 0 (Sum.inl (Sum.inl (Int32.ofInt (Int.ofNat 0))))) 18 = some (.inl (.inl t)) := by rw [nt_set_ne (by decide)]; exact r18
  have q20 : ea_nt (ms.set 0 (Sum.inl (Sum.inl (Int32.ofInt (Int.ofNat 0))))) 20 = some w20 := by rw [nt_set_ne (by decide)]; exact r20
  have q19 : ea_nt (ms.set 0 (Sum.inl (Sum.inl (Int32.ofInt (Int.ofNat 0))))) 19 = some w19 := by rw [nt_set_ne (by decide)]; exact r19
  have q22 : ea_nt (ms.set 0 (Sum.inl (Sum.inl (Int32.ofInt (Int.ofNat 0))))) 22 = some (.inl (.inl dd)) := by rw [nt_set_ne (by decide)]; exact r22
  revert I1 F1 N1 L1 q18 q20 q19 q22
  generalize C.set 190 (.inr (12, ms.set 0 (.inl (.inl (Int32.ofInt (Int.ofNat 0)))))) = C1
  generalize ms.set 0 (Sum.inl (Sum.inl (Int32.ofInt (Int.ofNat 0)))) = s1
  intro I1 F1 N1 L1 q18 q20 q19 q22
  refine ok_p rfl rfl rfl ?_
  refine ok_p rfl rfl rfl ?_
  refine ok_gf rfl rfl N1 q18 ?_
  refine ok_pf rfl rfl N1 rfl (by rw [L1]; rfl) ?_
  have I2 := xI_sf I1 (show tb_G 190 = some (.inl (12, _)) from rfl) N1 (k := 20) (v := .inl (.inl t)) rfl ⟨_, rfl, t1, t2⟩
  have F2 : fr_c (rf_G u) [(190, 191), (1005, 1008)] C (C1.set 190 (.inr (12, s1.set 20 (.inl (.inl t))))) := fr_c_same F1 (fr_f u N1 (by decide) (by decide))
  have N2 := nt_set_self (c := Sum.inr (12, s1.set 20 (.inl (.inl t)))) N1
  have L2 : (s1.set 20 (Sum.inl (Sum.inl t))).length = 38 := by rw [nt_len_set]; exact L1
  have p18 : ea_nt (s1.set 20 (Sum.inl (Sum.inl t))) 18 = some (.inl (.inl t)) := by rw [nt_set_ne (by decide)]; exact q18
  have p19 : ea_nt (s1.set 20 (Sum.inl (Sum.inl t))) 19 = some w19 := by rw [nt_set_ne (by decide)]; exact q19
  have p22 : ea_nt (s1.set 20 (Sum.inl (Sum.inl t))) 22 = some (.inl (.inl dd)) := by rw [nt_set_ne (by decide)]; exact q22
  revert I2 F2 N2 L2 p18 p19 p22
  generalize C1.set 190 (.inr (12, s1.set 20 (.inl (.inl t)))) = C2
  generalize s1.set 20 (Sum.inl (Sum.inl t)) = s2
  intro I2 F2 N2 L2 p18 p19 p22
  refine ok_p rfl rfl rfl ?_
  refine ok_p rfl rfl rfl ?_
  refine ok_pf rfl rfl N2 rfl (by rw [L2]; rfl) ?_
  have I3 := xI_sf I2 (show tb_G 190 = some (.inl (12, _)) from rfl) N2 (k := 18) (v := .inl (.inl (Int32.ofInt (Int.ofNat 0)))) rfl ⟨_, rfl, by rw [z0]; decide, by rw [z0]; decide⟩
  have F3 : fr_c (rf_G u) [(190, 191), (1005, 1008)] C (C2.set 190 (.inr (12, s2.set 18 (.inl (.inl (Int32.ofInt (Int.ofNat 0))))))) := fr_c_same F2 (fr_f u N2 (by decide) (by decide))
  have N3 := nt_set_self (c := Sum.inr (12, s2.set 18 (.inl (.inl (Int32.ofInt (Int.ofNat 0)))))) N2
  have L3 : (s2.set 18 (Sum.inl (Sum.inl (Int32.ofInt (Int.ofNat 0))))).length = 38 := by rw [nt_len_set]; exact L2
  have o18 : ea_nt (s2.set 18 (Sum.inl (Sum.inl (Int32.ofInt (Int.ofNat 0))))) 18 = some (.inl (.inl (Int32.ofInt (Int.ofNat 0)))) := nt_set_self p18
  have o19 : ea_nt (s2.set 18 (Sum.inl (Sum.inl (Int32.ofInt (Int.ofNat 0))))) 19 = some w19 := by rw [nt_set_ne (by decide)]; exact p19
  have o22 : ea_nt (s2.set 18 (Sum.inl (Sum.inl (Int32.ofInt (Int.ofNat 0))))) 22 = some (.inl (.inl dd)) := by rw [nt_set_ne (by decide)]; exact p22
  revert I3 F3 N3 L3 o18 o19 o22
  generalize C2.set 190 (.inr (12, s2.set 18 (.inl (.inl (Int32.ofInt (Int.ofNat 0)))))) = C3
  generalize s2.set 18 (Sum.inl (Sum.inl (Int32.ofInt (Int.ofNat 0)))) = s3
  intro I3 F3 N3 L3 o18 o19 o22
  refine ok_p rfl rfl rfl ?_
  refine ok_p rfl rfl rfl ?_
  refine ok_pf rfl rfl N3 rfl (by rw [L3]; rfl) ?_
  have I4 := xI_sf I3 (show tb_G 190 = some (.inl (12, _)) from rfl) N3 (k := 19) (v := .inl (.inl (Int32.ofInt (Int.ofNat 0)))) rfl ⟨_, rfl, by rw [z0]; decide, by rw [z0]; decide⟩
  have F4 : fr_c (rf_G u) [(190, 191), (1005, 1008)] C (C3.set 190 (.inr (12, s3.set 19 (.inl (.inl (Int32.ofInt (Int.ofNat 0))))))) := fr_c_same F3 (fr_f u N3 (by decide) (by decide))
  have N4 := nt_set_self (c := Sum.inr (12, s3.set 19 (.inl (.inl (Int32.ofInt (Int.ofNat 0)))))) N3
  have u18 : ea_nt (s3.set 19 (Sum.inl (Sum.inl (Int32.ofInt (Int.ofNat 0))))) 18 = some (.inl (.inl (Int32.ofInt (Int.ofNat 0)))) := by rw [nt_set_ne (by decide)]; exact o18
  have u19 : ea_nt (s3.set 19 (Sum.inl (Sum.inl (Int32.ofInt (Int.ofNat 0))))) 19 = some (.inl (.inl (Int32.ofInt (Int.ofNat 0)))) := nt_set_self o19
  have u22 : ea_nt (s3.set 19 (Sum.inl (Sum.inl (Int32.ofInt (Int.ofNat 0))))) 22 = some (.inl (.inl dd)) := by rw [nt_set_ne (by decide)]; exact o22
  refine ok_r rfl rfl rfl rfl rfl ?_
  have v18 := rf_f N4 u18
  have pvf : ∀ {k : Nat} {y : Int32}, ea_nt (s3.set 19 (Sum.inl (Sum.inl (Int32.ofInt (Int.ofNat 0))))) k = some (.inl (.inl y)) → pv (rf_G u) (C3.set 190 (.inr (12, s3.set 19 (.inl (.inl (Int32.ofInt (Int.ofNat 0))))))) 190 k y.toInt := by
    intro k y hy
    unfold pv
    rw [if_neg (by decide)]
    refine ⟨y, ?_, rfl⟩
    unfold cv
    rw [N4]
    exact hy
  have w22 := pvf u22
  rw [← hD] at w22
  have w19' := pvf u19
  rw [z0] at w19'
  have wT : pv (rf_G u) (C3.set 190 (.inr (12, s3.set 19 (.inl (.inl (Int32.ofInt (Int.ofNat 0))))))) 1007 0 0 := by
    show rf_v _ 190 18 = 0
    rw [v18, z0]
  refine ⟨none, rfl, I4, F4, rfl, ⟨[0, 0, zD], ⟨⟨wT, by decide, by decide⟩, ⟨w19', by decide, by decide⟩, ⟨w22, n1, n2⟩, trivial⟩⟩, fun q hq => ?_⟩
  rcases List.mem_cons.mp hq with rfl | hq
  · exact ⟨zD, zD, w22, rfl, by dsimp only; omega⟩
  · rcases List.mem_cons.mp hq with rfl | hq
    · exact ⟨zD, zD, rfl, w22, by dsimp only; omega⟩
    · exact nomatch hq
end
section
/-! CONTRACTS BY HAND: a step is told -/
/-- what a step does to the depth -/
def rf_st (s : Int) (e : Nat) : Option Nat := if s ≤ 5 then some (e + 1) else if s = 9 then (if 1 ≤ e then some e else none) else (if 2 ≤ e then some (e - 1) else none)
theorem rf_d_snoc {f : Nat → Int} : ∀ (n i d e : Nat), rf_d f i n d = some e → rf_d f i (n + 1) d = rf_st (f (2 * (i + n))) e
  | 0, i, d, e, h => by
    cases h
    show (if f (2 * i) ≤ 5 then some (d + 1) else if f (2 * i) = 9 then (if 1 ≤ d then some d else none) else (if 2 ≤ d then some (d - 1) else none)) = rf_st (f (2 * (i + 0))) d
    rfl
  | n + 1, i, d, e, h => by
    unfold rf_d at h
    rw [rf_d]
    have hi : i + (n + 1) = (i + 1) + n := by omega
    split at h
    · rename_i h1
      rw [if_pos h1, rf_d_snoc n (i + 1) (d + 1) e h, hi]
    · rename_i h1
      rw [if_neg h1]
      split at h
      · rename_i h2
        rw [if_pos h2]
        split at h
        · rename_i h3
          rw [if_pos h3, rf_d_snoc n (i + 1) d e h, hi]
        · cases h
      · rename_i h2
        rw [if_neg h2]
        split at h
        · rename_i h3
          rw [if_pos h3, rf_d_snoc n (i + 1) (d - 1) e h, hi]
        · cases h
theorem rf_d_low {f g : Nat → Int} : ∀ (n i d : Nat), (∀ j, j < 2 * (i + n) → f j = g j) → rf_d f i n d = rf_d g i n d
  | 0, i, d, _ => rfl
  | n + 1, i, d, h => by
    unfold rf_d
    rw [h (2 * i) (by omega), rf_d_low n (i + 1) (d + 1) (fun j hj => h j (by omega)), rf_d_low n (i + 1) d (fun j hj => h j (by omega)), rf_d_low n (i + 1) (d - 1) (fun j hj => h j (by omega))]
/-- never deeper than steps were told -/
theorem rf_d_le {f : Nat → Int} : ∀ (n i d e : Nat), rf_d f i n d = some e → e ≤ d + n
  | 0, i, d, e, h => by cases h; omega
  | n + 1, i, d, e, h => by
    unfold rf_d at h
    split at h
    · have := rf_d_le n (i + 1) (d + 1) e h; omega
    · split at h
      · split at h
        · have := rf_d_le n (i + 1) d e h; omega
        · cases h
      · split at h
        · have := rf_d_le n (i + 1) (d - 1) e h; omega
        · cases h
theorem gs_202 (M : List (Nat × Nat)) (hM : M = [(190, 191), (202, 203), (1001, 1002), (1003, 1006)]) : ∀ q ∈ tr_gs, q.2.1 = 202 → xm M q.1 = true := by
  subst hM
  decide
theorem fr_202 (u : Nat) {C : List AC} {d : AV} {us : List (Nat × AV)} (hC : ea_nt C 202 = some (.inl (0, 800, d, us))) {j : Nat} {v : AV} : fr_c (rf_G u) [(190, 191), (202, 203), (1001, 1002), (1003, 1006)] C (C.set 202 (.inl (0, 800, d, (j, v) :: us))) := by
  refine ⟨fun b hb => ?_, fun k hk hm => rf_gs u k C _ (fun a i hq => ?_)⟩
  · have : (202 : Nat) ≠ b := by
      rintro rfl
      exact absurd hb (by decide)
    rw [nt_set_ne this]
  · obtain ⟨q, q1, q2, q3, q4, q5⟩ := hq
    refine cv_eq (nt_set_ne ?_) i
    rintro rfl
    have := gs_202 _ rfl q q1 q3
    rw [q2, hm] at this
    cases this
theorem i32_2 : (Int32.ofInt (Int.ofNat 2)).toInt = 2 := by decide
theorem i32_1 : (Int32.ofInt (Int.ofNat 1)).toInt = 1 := by decide
set_option maxRecDepth 20000 in
set_option maxHeartbeats 1000000 in
/-- emits, as it runs: two elements of told, and the steps -/
theorem emits_run (X : Option (List AI)) (u : Nat) {C : List AC} (hI : xI tb_G C) {st n s : Int32} (hs : fd_g C 190 25 s) (s1 : 0 ≤ s.toInt) (s2 : s.toInt ≤ 399) {K : Option AV ⊕ Nat → List AC → Prop}
    (h : ∀ C', xI tb_G C' → fr_c (rf_G u) [(190, 191), (202, 203), (1001, 1002), (1003, 1006)] C C' → (∀ k, k ≠ 25 → rf_v C' 190 k = rf_v C 190 k) → (∀ k, k ≠ 25 → cv C' 190 k = cv C 190 k) → rf_v C' 190 25 = s.toInt + 1 → cv C' 190 25 = some (.inl (.inl (s + Int32.ofInt (Int.ofNat 1)))) → rf_v C' 202 (2 * s.toInt.toNat) = st.toInt → (∀ j, j < 2 * s.toInt.toNat → rf_v C' 202 j = rf_v C 202 j) → K (.inl none) C') :
    ok_ (tb_P X) 224 0 (ea_ar 0 [.inr (.inl (some 190)), .inl (.inl st), .inl (.inl n)]) [] C K := by
  obtain ⟨ms, m1, m2, m3⟩ := hI_f hI (show tb_G 190 = some (.inl (12, _)) from rfl)
  obtain ⟨d, us, a1, a2⟩ := hI_a hI (show tb_G 202 = some (.inr (0, 800, _, _)) from rfl)
  have hlen : ms.length = 38 := m2
  obtain ⟨_, r14, rfl⟩ := m3 14 (.inr 202) rfl
  obtain ⟨ci, vs', f1, f2⟩ := hs
  rw [m1] at f1
  cases f1
  have e2 : (Int32.ofInt (Int.ofNat 2) * s).toInt = ((2 * s.toInt.toNat : Nat) : Int) := by
    rw [i32_mul (by rw [i32_2]; omega) (by rw [i32_2]; omega), i32_2]
    omega
  have e3 : (Int32.ofInt (Int.ofNat 2) * s + Int32.ofInt (Int.ofNat 1)).toInt = ((2 * s.toInt.toNat + 1 : Nat) : Int) := by
    rw [i32_add (by rw [e2, i32_1]; omega) (by rw [e2, i32_1]; omega), e2, i32_1]
    omega
  have e4 : (s + Int32.ofInt (Int.ofNat 1)).toInt = s.toInt + 1 := by
    rw [i32_add (by rw [i32_1]; omega) (by rw [i32_1]; omega), i32_1]
  refine ok_p rfl rfl rfl ?_
  refine ok_gf rfl rfl m1 r14 ?_
  refine ok_p rfl rfl rfl ?_
  refine ok_p rfl rfl rfl ?_
  refine ok_gf rfl rfl m1 f2 ?_
  refine ok_p rfl rfl rfl ?_
  refine ok_p rfl rfl rfl ?_
  refine ok_as rfl a1 (ix_of e2 (by omega)) ?_
  have I1 := xI_sa hI (show tb_G 202 = some (.inr (0, 800, 1, [.inl (-2147483648, 2147483647)])) from rfl) a1 (j := 2 * s.toInt.toNat) (v := .inl (.inl st)) (el_put (by decide) ⟨.inl (-2147483648, 2147483647), by rw [Nat.mod_one]; rfl, st, rfl, Int32.le_toInt st, Int.le_of_lt_add_one (Int32.toInt_lt st)⟩)
  have F1 := fr_202 u a1 (j := 2 * s.toInt.toNat) (v := .inl (.inl st))
  have N1 := nt_set_self (c := Sum.inl (0, 800, d, (2 * s.toInt.toNat, Sum.inl (Sum.inl st)) :: us)) a1
  have M1 : ea_nt (C.set 202 (.inl (0, 800, d, (2 * s.toInt.toNat, .inl (.inl st)) :: us))) 190 = some (.inr (12, ms)) := by rw [nt_set_ne (by decide)]; exact m1
  refine ok_p rfl rfl rfl ?_
  refine ok_gf rfl rfl M1 r14 ?_
  refine ok_p rfl rfl rfl ?_
  refine ok_p rfl rfl rfl ?_
  refine ok_gf rfl rfl M1 f2 ?_
  refine ok_p rfl rfl rfl ?_
  refine ok_p rfl rfl rfl ?_
  refine ok_p rfl rfl rfl ?_
  refine ok_p rfl rfl rfl ?_
  refine ok_as rfl N1 (ix_of e3 (by omega)) ?_
  have I2 := xI_sa I1 (show tb_G 202 = some (.inr (0, 800, 1, [.inl (-2147483648, 2147483647)])) from rfl) N1 (j := 2 * s.toInt.toNat + 1) (v := .inl (.inl n)) (el_put (by decide) ⟨.inl (-2147483648, 2147483647), by rw [Nat.mod_one]; rfl, n, rfl, Int32.le_toInt n, Int.le_of_lt_add_one (Int32.toInt_lt n)⟩)
  have F2 := fr_c_same F1 (fr_202 u N1 (j := 2 * s.toInt.toNat + 1) (v := .inl (.inl n)))
  have V2 : rf_v ((C.set 202 (.inl (0, 800, d, (2 * s.toInt.toNat, .inl (.inl st)) :: us))).set 202 (.inl (0, 800, d, (2 * s.toInt.toNat + 1, .inl (.inl n)) :: (2 * s.toInt.toNat, .inl (.inl st)) :: us))) 202 (2 * s.toInt.toNat) = st.toInt := by
    rw [rf_v_set N1 (fun hc => by have := hc.2; omega)]
    exact rf_v_self a1 (by omega)
  have W2 : ∀ j, j < 2 * s.toInt.toNat → rf_v ((C.set 202 (.inl (0, 800, d, (2 * s.toInt.toNat, .inl (.inl st)) :: us))).set 202 (.inl (0, 800, d, (2 * s.toInt.toNat + 1, .inl (.inl n)) :: (2 * s.toInt.toNat, .inl (.inl st)) :: us))) 202 j = rf_v C 202 j := by
    intro j hj
    rw [rf_v_set N1 (fun hc => by have := hc.2; omega), rf_v_set a1 (fun hc => by have := hc.2; omega)]
  have M2 : ea_nt ((C.set 202 (.inl (0, 800, d, (2 * s.toInt.toNat, .inl (.inl st)) :: us))).set 202 (.inl (0, 800, d, (2 * s.toInt.toNat + 1, .inl (.inl n)) :: (2 * s.toInt.toNat, .inl (.inl st)) :: us))) 190 = some (.inr (12, ms)) := by rw [nt_set_ne (by decide)]; exact M1
  revert I2 F2 V2 W2 M2
  generalize (C.set 202 (.inl (0, 800, d, (2 * s.toInt.toNat, .inl (.inl st)) :: us))).set 202 (.inl (0, 800, d, (2 * s.toInt.toNat + 1, .inl (.inl n)) :: (2 * s.toInt.toNat, .inl (.inl st)) :: us)) = C2
  intro I2 F2 V2 W2 M2
  refine ok_p rfl rfl rfl ?_
  refine ok_p rfl rfl rfl ?_
  refine ok_gf rfl rfl M2 f2 ?_
  refine ok_p rfl rfl rfl ?_
  refine ok_p rfl rfl rfl ?_
  refine ok_pf rfl rfl M2 rfl (by rw [hlen]; rfl) ?_
  refine ok_r rfl rfl rfl rfl rfl ?_
  have but : cv_but (190, 25, 25, 1, 0) C2 (C2.set 190 (.inr (12, ms.set 25 (.inl (.inl (s + Int32.ofInt (Int.ofNat 1))))))) := cv_fld M2 ⟨rfl, Int.le_refl _, Int.le_refl _, Int.emod_one _⟩
  have cvo : ∀ a k, ¬ (a = 190 ∧ k = 25) → cv (C2.set 190 (.inr (12, ms.set 25 (.inl (.inl (s + Int32.ofInt (Int.ofNat 1))))))) a k = cv C2 a k := by
    intro a k hn
    refine but a k ?_
    rintro ⟨h1, w1, w2, -⟩
    dsimp only at h1 w1 w2
    exact hn ⟨h1, by omega⟩
  have cv2 : ∀ k, cv C2 190 k = cv C 190 k := by
    intro k
    unfold cv
    rw [M2, m1]
  have cself : cv (C2.set 190 (.inr (12, ms.set 25 (.inl (.inl (s + Int32.ofInt (Int.ofNat 1))))))) 190 25 = some (.inl (.inl (s + Int32.ofInt (Int.ofNat 1)))) := by
    unfold cv
    rw [nt_set_self M2]
    exact nt_set_self f2
  refine h (C2.set 190 (.inr (12, ms.set 25 (.inl (.inl (s + Int32.ofInt (Int.ofNat 1))))))) (xI_sf I2 (show tb_G 190 = some (.inl (12, _)) from rfl) M2 (k := 25) (f := .inl (0, 400)) rfl ⟨_, rfl, by show (0 : Int) ≤ (s + Int32.ofInt (Int.ofNat 1)).toInt; omega, by show (s + Int32.ofInt (Int.ofNat 1)).toInt ≤ (400 : Int); omega⟩) (fr_c_same F2 (fr_f u M2 (by decide) (by decide))) (fun k hk => ?_) (fun k hk => ?_) ?_ cself ?_ (fun j hj => ?_)
  · exact rf_v_eq ((cvo 190 k (fun hc => hk hc.2)).trans (cv2 k))
  · exact (cvo 190 k (fun hc => hk hc.2)).trans (cv2 k)
  · unfold rf_v
    rw [cself]
    exact e4
  · rw [rf_v_eq (cvo 202 _ (fun hc => absurd hc.1 (by decide)))]
    exact V2
  · rw [rf_v_eq (cvo 202 j (fun hc => absurd hc.1 (by decide)))]
    exact W2 j hj

theorem tr_h31 (X : Option (List AI)) (u : Nat) : cx_ok (tb_P X) tb_G (rf_G u) trk_31 := by
  intro vs C EV hvs hI hpre hrel
  obtain ⟨v0, t0, rfl, h0, hvs1⟩ := ea_rl_cons hvs
  obtain ⟨v1, t1, rfl, ⟨st, rfl, x1, x2⟩, hvs2⟩ := ea_rl_cons hvs1
  obtain ⟨v2, t2, rfl, ⟨n, rfl, -, -⟩, hvs3⟩ := ea_rl_cons hvs2
  obtain rfl := ea_rl_nil hvs3
  obtain rfl : v0 = .inr (.inl (some 190)) := h0
  obtain ⟨p, E1, rfl, ⟨pP, p1, p2⟩, hp1⟩ := ea_rl_cons hpre
  obtain ⟨sz, E2, rfl, ⟨pS, s1, s2⟩, hp2⟩ := ea_rl_cons hp1
  obtain ⟨dd, E3, rfl, ⟨pD, d1, d2⟩, hp3⟩ := ea_rl_cons hp2
  obtain ⟨si, E4, rfl, ⟨pI, i1, i2⟩, hp4⟩ := ea_rl_cons hp3
  obtain ⟨ga, E5, rfl, ⟨pG, g1, g2⟩, hp5⟩ := ea_rl_cons hp4
  obtain rfl := ea_rl_nil hp5
  dsimp only at x1 x2 p1 p2 s1 s2 d1 d2 i1 i2 g1 g2
  have vP : rf_v C 190 19 = p := rf_v_pv (a := 190) (by decide) pP
  have vS : rf_v C 190 25 = sz := rf_v_pv (a := 190) (by decide) pS
  have vI : rf_v C 190 19 - rf_v C 190 25 = si := pI
  have vG : rf_ga u C = ga := pG
  obtain ⟨ms, m1, m2, m3⟩ := hI_f hI (show tb_G 190 = some (.inl (12, _)) from rfl)
  obtain ⟨s, hs, hsz⟩ : ∃ x : Int32, cv C 190 25 = some (.inl (.inl x)) ∧ x.toInt = sz := by
    have h := pS
    unfold pv at h
    rw [if_neg (by decide)] at h
    exact h
  have hfd : fd_g C 190 25 s := by
    unfold cv at hs
    rw [m1] at hs
    exact ⟨12, ms, m1, hs⟩
  have hgad : (u : Int) ≤ sz ∧ ∃ d : Nat, rf_d (rf_v C 202) u (sz.toNat - u) 0 = some d ∧ ga = (d : Int) := by
    unfold rf_ga at vG
    rw [vS] at vG
    split at vG
    · rename_i hc
      refine ⟨hc.1, ?_⟩
      split at vG
      · rename_i d hd
        exact ⟨d, hd, vG.symm⟩
      · omega
    · omega
  obtain ⟨hu, d, hd, hga⟩ := hgad
  refine emits_run X u hI hfd (by omega) (by omega) (fun C' I' F' vo co vs' cs' vt vl => ?_)
  have hpt : pv (rf_G u) C' 190 19 p := by
    have h := pP
    unfold pv at h ⊢
    rw [if_neg (by decide)] at h ⊢
    rw [co 19 (by decide)]
    exact h
  have hdp : pv (rf_G u) C' 190 22 dd := by
    have h := pD
    unfold pv at h ⊢
    rw [if_neg (by decide)] at h ⊢
    rw [co 22 (by decide)]
    exact h
  have hst : pv (rf_G u) C' 190 25 (sz + 1) := by
    unfold pv
    rw [if_neg (by decide)]
    refine ⟨_, cs', ?_⟩
    rw [i32_add (by rw [i32_1]; omega) (by rw [i32_1]; omega), i32_1, hsz]
  have hsi : pv (rf_G u) C' 1005 0 (si - 1) := by
    show rf_v C' 190 19 - rf_v C' 190 25 = si - 1
    rw [vo 19 (by decide), vs']
    omega
  have hsn : s.toInt.toNat = sz.toNat := by rw [hsz]
  rw [hsn] at vt vl
  have hlow : rf_d (rf_v C' 202) u (sz.toNat - u) 0 = some d := by
    rw [rf_d_low (f := rf_v C' 202) (g := rf_v C 202) _ _ _ (fun j hj => vl j (by omega))]
    exact hd
  have hsnoc := rf_d_snoc (f := rf_v C' 202) (sz.toNat - u) u 0 d hlow
  rw [show u + (sz.toNat - u) = sz.toNat by omega, vt] at hsnoc
  have hdl := rf_d_le (f := rf_v C' 202) (sz.toNat - u) u 0 d hlow
  have hst2 : rf_st st.toInt d = some (d + 1) := by
    unfold rf_st
    rw [if_pos (by omega)]
  rw [hst2] at hsnoc
  have hgan : pv (rf_G u) C' 1004 0 (ga + (1)) := by
    show rf_ga u C' = ga + (1)
    unfold rf_ga
    rw [vs', if_pos (by omega), show (s.toInt + 1).toNat - u = sz.toNat - u + 1 by omega, hsnoc]
    dsimp only
    omega
  refine ⟨none, rfl, I', F', rfl, ⟨[p, sz + 1, dd, si - 1, ga + (1)], ⟨⟨hpt, p1, p2⟩, ⟨hst, by dsimp only; omega, by dsimp only; omega⟩, ⟨hdp, d1, d2⟩, ⟨hsi, by dsimp only; omega, by dsimp only; omega⟩, ⟨hgan, by dsimp only; omega, by dsimp only; omega⟩, trivial⟩⟩, fun q hq => ?_⟩
  rcases List.mem_cons.mp hq with rfl | hq
  · exact ⟨p, p, hpt, rfl, by dsimp only; omega⟩
  rcases List.mem_cons.mp hq with rfl | hq
  · exact ⟨p, p, rfl, hpt, by dsimp only; omega⟩
  rcases List.mem_cons.mp hq with rfl | hq
  · exact ⟨dd, dd, hdp, rfl, by dsimp only; omega⟩
  rcases List.mem_cons.mp hq with rfl | hq
  · exact ⟨dd, dd, rfl, hdp, by dsimp only; omega⟩
  rcases List.mem_cons.mp hq with rfl | hq
  · exact ⟨si - 1, si, hsi, rfl, by dsimp only; omega⟩
  rcases List.mem_cons.mp hq with rfl | hq
  · exact ⟨si, si - 1, rfl, hsi, by dsimp only; omega⟩
  rcases List.mem_cons.mp hq with rfl | hq
  · exact ⟨ga + (1), ga, hgan, rfl, by dsimp only; omega⟩
  rcases List.mem_cons.mp hq with rfl | hq
  · exact ⟨ga, ga + (1), rfl, hgan, by dsimp only; omega⟩
  · exact nomatch hq

theorem tr_h32 (X : Option (List AI)) (u : Nat) : cx_ok (tb_P X) tb_G (rf_G u) trk_32 := by
  intro vs C EV hvs hI hpre hrel
  obtain ⟨v0, t0, rfl, h0, hvs1⟩ := ea_rl_cons hvs
  obtain ⟨v1, t1, rfl, ⟨st, rfl, x1, x2⟩, hvs2⟩ := ea_rl_cons hvs1
  obtain ⟨v2, t2, rfl, ⟨n, rfl, -, -⟩, hvs3⟩ := ea_rl_cons hvs2
  obtain rfl := ea_rl_nil hvs3
  obtain rfl : v0 = .inr (.inl (some 190)) := h0
  obtain ⟨p, E1, rfl, ⟨pP, p1, p2⟩, hp1⟩ := ea_rl_cons hpre
  obtain ⟨sz, E2, rfl, ⟨pS, s1, s2⟩, hp2⟩ := ea_rl_cons hp1
  obtain ⟨dd, E3, rfl, ⟨pD, d1, d2⟩, hp3⟩ := ea_rl_cons hp2
  obtain ⟨si, E4, rfl, ⟨pI, i1, i2⟩, hp4⟩ := ea_rl_cons hp3
  obtain ⟨ga, E5, rfl, ⟨pG, g1, g2⟩, hp5⟩ := ea_rl_cons hp4
  obtain rfl := ea_rl_nil hp5
  dsimp only at x1 x2 p1 p2 s1 s2 d1 d2 i1 i2 g1 g2
  have vP : rf_v C 190 19 = p := rf_v_pv (a := 190) (by decide) pP
  have vS : rf_v C 190 25 = sz := rf_v_pv (a := 190) (by decide) pS
  have vI : rf_v C 190 19 - rf_v C 190 25 = si := pI
  have vG : rf_ga u C = ga := pG
  obtain ⟨ms, m1, m2, m3⟩ := hI_f hI (show tb_G 190 = some (.inl (12, _)) from rfl)
  obtain ⟨s, hs, hsz⟩ : ∃ x : Int32, cv C 190 25 = some (.inl (.inl x)) ∧ x.toInt = sz := by
    have h := pS
    unfold pv at h
    rw [if_neg (by decide)] at h
    exact h
  have hfd : fd_g C 190 25 s := by
    unfold cv at hs
    rw [m1] at hs
    exact ⟨12, ms, m1, hs⟩
  have hgad : (u : Int) ≤ sz ∧ ∃ d : Nat, rf_d (rf_v C 202) u (sz.toNat - u) 0 = some d ∧ ga = (d : Int) := by
    unfold rf_ga at vG
    rw [vS] at vG
    split at vG
    · rename_i hc
      refine ⟨hc.1, ?_⟩
      split at vG
      · rename_i d hd
        exact ⟨d, hd, vG.symm⟩
      · omega
    · omega
  obtain ⟨hu, d, hd, hga⟩ := hgad
  refine emits_run X u hI hfd (by omega) (by omega) (fun C' I' F' vo co vs' cs' vt vl => ?_)
  have hpt : pv (rf_G u) C' 190 19 p := by
    have h := pP
    unfold pv at h ⊢
    rw [if_neg (by decide)] at h ⊢
    rw [co 19 (by decide)]
    exact h
  have hdp : pv (rf_G u) C' 190 22 dd := by
    have h := pD
    unfold pv at h ⊢
    rw [if_neg (by decide)] at h ⊢
    rw [co 22 (by decide)]
    exact h
  have hst : pv (rf_G u) C' 190 25 (sz + 1) := by
    unfold pv
    rw [if_neg (by decide)]
    refine ⟨_, cs', ?_⟩
    rw [i32_add (by rw [i32_1]; omega) (by rw [i32_1]; omega), i32_1, hsz]
  have hsi : pv (rf_G u) C' 1005 0 (si - 1) := by
    show rf_v C' 190 19 - rf_v C' 190 25 = si - 1
    rw [vo 19 (by decide), vs']
    omega
  have hsn : s.toInt.toNat = sz.toNat := by rw [hsz]
  rw [hsn] at vt vl
  have hlow : rf_d (rf_v C' 202) u (sz.toNat - u) 0 = some d := by
    rw [rf_d_low (f := rf_v C' 202) (g := rf_v C 202) _ _ _ (fun j hj => vl j (by omega))]
    exact hd
  have hsnoc := rf_d_snoc (f := rf_v C' 202) (sz.toNat - u) u 0 d hlow
  rw [show u + (sz.toNat - u) = sz.toNat by omega, vt] at hsnoc
  have hdl := rf_d_le (f := rf_v C' 202) (sz.toNat - u) u 0 d hlow
  have hst2 : rf_st st.toInt d = some (d) := by
    unfold rf_st
    rw [if_neg (by omega), if_pos (by omega), if_pos (by omega)]
  rw [hst2] at hsnoc
  have hgan : pv (rf_G u) C' 1004 0 (ga + (0)) := by
    show rf_ga u C' = ga + (0)
    unfold rf_ga
    rw [vs', if_pos (by omega), show (s.toInt + 1).toNat - u = sz.toNat - u + 1 by omega, hsnoc]
    dsimp only
    omega
  refine ⟨none, rfl, I', F', rfl, ⟨[p, sz + 1, dd, si - 1, ga + (0)], ⟨⟨hpt, p1, p2⟩, ⟨hst, by dsimp only; omega, by dsimp only; omega⟩, ⟨hdp, d1, d2⟩, ⟨hsi, by dsimp only; omega, by dsimp only; omega⟩, ⟨hgan, by dsimp only; omega, by dsimp only; omega⟩, trivial⟩⟩, fun q hq => ?_⟩
  rcases List.mem_cons.mp hq with rfl | hq
  · exact ⟨p, p, hpt, rfl, by dsimp only; omega⟩
  rcases List.mem_cons.mp hq with rfl | hq
  · exact ⟨p, p, rfl, hpt, by dsimp only; omega⟩
  rcases List.mem_cons.mp hq with rfl | hq
  · exact ⟨dd, dd, hdp, rfl, by dsimp only; omega⟩
  rcases List.mem_cons.mp hq with rfl | hq
  · exact ⟨dd, dd, rfl, hdp, by dsimp only; omega⟩
  rcases List.mem_cons.mp hq with rfl | hq
  · exact ⟨si - 1, si, hsi, rfl, by dsimp only; omega⟩
  rcases List.mem_cons.mp hq with rfl | hq
  · exact ⟨si, si - 1, rfl, hsi, by dsimp only; omega⟩
  rcases List.mem_cons.mp hq with rfl | hq
  · exact ⟨ga + (0), ga, hgan, rfl, by dsimp only; omega⟩
  rcases List.mem_cons.mp hq with rfl | hq
  · exact ⟨ga, ga + (0), rfl, hgan, by dsimp only; omega⟩
  · exact nomatch hq

theorem tr_h33 (X : Option (List AI)) (u : Nat) : cx_ok (tb_P X) tb_G (rf_G u) trk_33 := by
  intro vs C EV hvs hI hpre hrel
  obtain ⟨v0, t0, rfl, h0, hvs1⟩ := ea_rl_cons hvs
  obtain ⟨v1, t1, rfl, ⟨st, rfl, x1, x2⟩, hvs2⟩ := ea_rl_cons hvs1
  obtain ⟨v2, t2, rfl, ⟨n, rfl, -, -⟩, hvs3⟩ := ea_rl_cons hvs2
  obtain rfl := ea_rl_nil hvs3
  obtain rfl : v0 = .inr (.inl (some 190)) := h0
  obtain ⟨p, E1, rfl, ⟨pP, p1, p2⟩, hp1⟩ := ea_rl_cons hpre
  obtain ⟨sz, E2, rfl, ⟨pS, s1, s2⟩, hp2⟩ := ea_rl_cons hp1
  obtain ⟨dd, E3, rfl, ⟨pD, d1, d2⟩, hp3⟩ := ea_rl_cons hp2
  obtain ⟨si, E4, rfl, ⟨pI, i1, i2⟩, hp4⟩ := ea_rl_cons hp3
  obtain ⟨ga, E5, rfl, ⟨pG, g1, g2⟩, hp5⟩ := ea_rl_cons hp4
  obtain rfl := ea_rl_nil hp5
  dsimp only at x1 x2 p1 p2 s1 s2 d1 d2 i1 i2 g1 g2
  have vP : rf_v C 190 19 = p := rf_v_pv (a := 190) (by decide) pP
  have vS : rf_v C 190 25 = sz := rf_v_pv (a := 190) (by decide) pS
  have vI : rf_v C 190 19 - rf_v C 190 25 = si := pI
  have vG : rf_ga u C = ga := pG
  obtain ⟨ms, m1, m2, m3⟩ := hI_f hI (show tb_G 190 = some (.inl (12, _)) from rfl)
  obtain ⟨s, hs, hsz⟩ : ∃ x : Int32, cv C 190 25 = some (.inl (.inl x)) ∧ x.toInt = sz := by
    have h := pS
    unfold pv at h
    rw [if_neg (by decide)] at h
    exact h
  have hfd : fd_g C 190 25 s := by
    unfold cv at hs
    rw [m1] at hs
    exact ⟨12, ms, m1, hs⟩
  have hgad : (u : Int) ≤ sz ∧ ∃ d : Nat, rf_d (rf_v C 202) u (sz.toNat - u) 0 = some d ∧ ga = (d : Int) := by
    unfold rf_ga at vG
    rw [vS] at vG
    split at vG
    · rename_i hc
      refine ⟨hc.1, ?_⟩
      split at vG
      · rename_i d hd
        exact ⟨d, hd, vG.symm⟩
      · omega
    · omega
  obtain ⟨hu, d, hd, hga⟩ := hgad
  refine emits_run X u hI hfd (by omega) (by omega) (fun C' I' F' vo co vs' cs' vt vl => ?_)
  have hpt : pv (rf_G u) C' 190 19 p := by
    have h := pP
    unfold pv at h ⊢
    rw [if_neg (by decide)] at h ⊢
    rw [co 19 (by decide)]
    exact h
  have hdp : pv (rf_G u) C' 190 22 dd := by
    have h := pD
    unfold pv at h ⊢
    rw [if_neg (by decide)] at h ⊢
    rw [co 22 (by decide)]
    exact h
  have hst : pv (rf_G u) C' 190 25 (sz + 1) := by
    unfold pv
    rw [if_neg (by decide)]
    refine ⟨_, cs', ?_⟩
    rw [i32_add (by rw [i32_1]; omega) (by rw [i32_1]; omega), i32_1, hsz]
  have hsi : pv (rf_G u) C' 1005 0 (si - 1) := by
    show rf_v C' 190 19 - rf_v C' 190 25 = si - 1
    rw [vo 19 (by decide), vs']
    omega
  have hsn : s.toInt.toNat = sz.toNat := by rw [hsz]
  rw [hsn] at vt vl
  have hlow : rf_d (rf_v C' 202) u (sz.toNat - u) 0 = some d := by
    rw [rf_d_low (f := rf_v C' 202) (g := rf_v C 202) _ _ _ (fun j hj => vl j (by omega))]
    exact hd
  have hsnoc := rf_d_snoc (f := rf_v C' 202) (sz.toNat - u) u 0 d hlow
  rw [show u + (sz.toNat - u) = sz.toNat by omega, vt] at hsnoc
  have hdl := rf_d_le (f := rf_v C' 202) (sz.toNat - u) u 0 d hlow
  have hst2 : rf_st st.toInt d = some (d - 1) := by
    unfold rf_st
    rw [if_neg (by omega), if_neg (by omega), if_pos (by omega)]
  rw [hst2] at hsnoc
  have hgan : pv (rf_G u) C' 1004 0 (ga + (-1)) := by
    show rf_ga u C' = ga + (-1)
    unfold rf_ga
    rw [vs', if_pos (by omega), show (s.toInt + 1).toNat - u = sz.toNat - u + 1 by omega, hsnoc]
    dsimp only
    omega
  refine ⟨none, rfl, I', F', rfl, ⟨[p, sz + 1, dd, si - 1, ga + (-1)], ⟨⟨hpt, p1, p2⟩, ⟨hst, by dsimp only; omega, by dsimp only; omega⟩, ⟨hdp, d1, d2⟩, ⟨hsi, by dsimp only; omega, by dsimp only; omega⟩, ⟨hgan, by dsimp only; omega, by dsimp only; omega⟩, trivial⟩⟩, fun q hq => ?_⟩
  rcases List.mem_cons.mp hq with rfl | hq
  · exact ⟨p, p, hpt, rfl, by dsimp only; omega⟩
  rcases List.mem_cons.mp hq with rfl | hq
  · exact ⟨p, p, rfl, hpt, by dsimp only; omega⟩
  rcases List.mem_cons.mp hq with rfl | hq
  · exact ⟨dd, dd, hdp, rfl, by dsimp only; omega⟩
  rcases List.mem_cons.mp hq with rfl | hq
  · exact ⟨dd, dd, rfl, hdp, by dsimp only; omega⟩
  rcases List.mem_cons.mp hq with rfl | hq
  · exact ⟨si - 1, si, hsi, rfl, by dsimp only; omega⟩
  rcases List.mem_cons.mp hq with rfl | hq
  · exact ⟨si, si - 1, rfl, hsi, by dsimp only; omega⟩
  rcases List.mem_cons.mp hq with rfl | hq
  · exact ⟨ga + (-1), ga, hgan, rfl, by dsimp only; omega⟩
  rcases List.mem_cons.mp hq with rfl | hq
  · exact ⟨ga, ga + (-1), rfl, hgan, by dsimp only; omega⟩
  · exact nomatch hq

theorem tr_h34 (X : Option (List AI)) (u : Nat) : cx_ok (tb_P X) tb_G (rf_G u) trk_34 := by
  intro vs C EV hvs hI hpre hrel
  obtain ⟨v0, t0, rfl, h0, hvs1⟩ := ea_rl_cons hvs
  obtain ⟨v1, t1, rfl, ⟨st, rfl, x1, x2⟩, hvs2⟩ := ea_rl_cons hvs1
  obtain ⟨v2, t2, rfl, ⟨n, rfl, -, -⟩, hvs3⟩ := ea_rl_cons hvs2
  obtain rfl := ea_rl_nil hvs3
  obtain rfl : v0 = .inr (.inl (some 190)) := h0
  obtain ⟨p, E1, rfl, ⟨pP, p1, p2⟩, hp1⟩ := ea_rl_cons hpre
  obtain ⟨sz, E2, rfl, ⟨pS, s1, s2⟩, hp2⟩ := ea_rl_cons hp1
  obtain ⟨dd, E3, rfl, ⟨pD, d1, d2⟩, hp3⟩ := ea_rl_cons hp2
  obtain ⟨si, E4, rfl, ⟨pI, i1, i2⟩, hp4⟩ := ea_rl_cons hp3
  obtain ⟨ga, E5, rfl, ⟨pG, g1, g2⟩, hp5⟩ := ea_rl_cons hp4
  obtain rfl := ea_rl_nil hp5
  dsimp only at x1 x2 p1 p2 s1 s2 d1 d2 i1 i2 g1 g2
  have vP : rf_v C 190 19 = p := rf_v_pv (a := 190) (by decide) pP
  have vS : rf_v C 190 25 = sz := rf_v_pv (a := 190) (by decide) pS
  have vI : rf_v C 190 19 - rf_v C 190 25 = si := pI
  have vG : rf_ga u C = ga := pG
  obtain ⟨ms, m1, m2, m3⟩ := hI_f hI (show tb_G 190 = some (.inl (12, _)) from rfl)
  obtain ⟨s, hs, hsz⟩ : ∃ x : Int32, cv C 190 25 = some (.inl (.inl x)) ∧ x.toInt = sz := by
    have h := pS
    unfold pv at h
    rw [if_neg (by decide)] at h
    exact h
  have hfd : fd_g C 190 25 s := by
    unfold cv at hs
    rw [m1] at hs
    exact ⟨12, ms, m1, hs⟩
  have hgad : (u : Int) ≤ sz ∧ ∃ d : Nat, rf_d (rf_v C 202) u (sz.toNat - u) 0 = some d ∧ ga = (d : Int) := by
    unfold rf_ga at vG
    rw [vS] at vG
    split at vG
    · rename_i hc
      refine ⟨hc.1, ?_⟩
      split at vG
      · rename_i d hd
        exact ⟨d, hd, vG.symm⟩
      · omega
    · omega
  obtain ⟨hu, d, hd, hga⟩ := hgad
  refine emits_run X u hI hfd (by omega) (by omega) (fun C' I' F' vo co vs' cs' vt vl => ?_)
  have hpt : pv (rf_G u) C' 190 19 p := by
    have h := pP
    unfold pv at h ⊢
    rw [if_neg (by decide)] at h ⊢
    rw [co 19 (by decide)]
    exact h
  have hdp : pv (rf_G u) C' 190 22 dd := by
    have h := pD
    unfold pv at h ⊢
    rw [if_neg (by decide)] at h ⊢
    rw [co 22 (by decide)]
    exact h
  have hst : pv (rf_G u) C' 190 25 (sz + 1) := by
    unfold pv
    rw [if_neg (by decide)]
    refine ⟨_, cs', ?_⟩
    rw [i32_add (by rw [i32_1]; omega) (by rw [i32_1]; omega), i32_1, hsz]
  have hsi : pv (rf_G u) C' 1005 0 (si - 1) := by
    show rf_v C' 190 19 - rf_v C' 190 25 = si - 1
    rw [vo 19 (by decide), vs']
    omega
  have hsn : s.toInt.toNat = sz.toNat := by rw [hsz]
  rw [hsn] at vt vl
  have hlow : rf_d (rf_v C' 202) u (sz.toNat - u) 0 = some d := by
    rw [rf_d_low (f := rf_v C' 202) (g := rf_v C 202) _ _ _ (fun j hj => vl j (by omega))]
    exact hd
  have hsnoc := rf_d_snoc (f := rf_v C' 202) (sz.toNat - u) u 0 d hlow
  rw [show u + (sz.toNat - u) = sz.toNat by omega, vt] at hsnoc
  have hdl := rf_d_le (f := rf_v C' 202) (sz.toNat - u) u 0 d hlow
  have hst2 : rf_st st.toInt d = some (d - 1) := by
    unfold rf_st
    rw [if_neg (by omega), if_neg (by omega), if_pos (by omega)]
  rw [hst2] at hsnoc
  have hgan : pv (rf_G u) C' 1004 0 (ga + (-1)) := by
    show rf_ga u C' = ga + (-1)
    unfold rf_ga
    rw [vs', if_pos (by omega), show (s.toInt + 1).toNat - u = sz.toNat - u + 1 by omega, hsnoc]
    dsimp only
    omega
  refine ⟨none, rfl, I', F', rfl, ⟨[p, sz + 1, dd, si - 1, ga + (-1)], ⟨⟨hpt, p1, p2⟩, ⟨hst, by dsimp only; omega, by dsimp only; omega⟩, ⟨hdp, d1, d2⟩, ⟨hsi, by dsimp only; omega, by dsimp only; omega⟩, ⟨hgan, by dsimp only; omega, by dsimp only; omega⟩, trivial⟩⟩, fun q hq => ?_⟩
  rcases List.mem_cons.mp hq with rfl | hq
  · exact ⟨p, p, hpt, rfl, by dsimp only; omega⟩
  rcases List.mem_cons.mp hq with rfl | hq
  · exact ⟨p, p, rfl, hpt, by dsimp only; omega⟩
  rcases List.mem_cons.mp hq with rfl | hq
  · exact ⟨dd, dd, hdp, rfl, by dsimp only; omega⟩
  rcases List.mem_cons.mp hq with rfl | hq
  · exact ⟨dd, dd, rfl, hdp, by dsimp only; omega⟩
  rcases List.mem_cons.mp hq with rfl | hq
  · exact ⟨si - 1, si, hsi, rfl, by dsimp only; omega⟩
  rcases List.mem_cons.mp hq with rfl | hq
  · exact ⟨si, si - 1, rfl, hsi, by dsimp only; omega⟩
  rcases List.mem_cons.mp hq with rfl | hq
  · exact ⟨ga + (-1), ga, hgan, rfl, by dsimp only; omega⟩
  rcases List.mem_cons.mp hq with rfl | hq
  · exact ⟨ga, ga + (-1), rfl, hgan, by dsimp only; omega⟩
  · exact nomatch hq
end
section
/-! CONTRACTS BY HAND: rows copied -/
theorem ok_ic {P : EP} {m pc : Nat} {L : List (Nat × AV)} {S : List AV} {C : List AC} {K : Option AV ⊕ Nat → List AC → Prop} {c : Jvm.ClassFile.Cond} {off : Int} {t : Nat} {x y : Int32} (b : Bool) (hc : ep_cod P m pc = some (.if_icmp c off, 3)) (ht : ea_to pc off = some t) (hb : ea_ck c x y = b) (h : ok_ P m (bif b then t else pc + 3) L S C K) : ok_ P m pc L (.inl (.inl y) :: .inl (.inl x) :: S) C K := by
  refine ok_p (pc' := bif b then t else pc + 3) (L' := L) (S' := S) hc rfl ?_ h
  simp only [ea_p, ea_if, hb, ht]
  cases b <;> rfl
theorem row_int : tg_row.all (fun f => match f with
  | .inl _ => true
  | .inr _ => false) = true := by decide +kernel
theorem row_y {j : Nat} {v : AV} (h : el_g 0 388 tg_row j v) : ∃ y : Int32, v = .inl (.inl y) := by
  obtain ⟨f, f1, f2⟩ := el_get (by decide) h
  match f, f1, f2 with
  | .inl q, _, ⟨y, y1, _⟩ => exact ⟨y, y1⟩
  | .inr k, f1, _ =>
    have := List.all_eq_true.mp row_int _ (nt_mem f1)
    cases this
section LK
variable (X : Option (List AI)) {C : List AC} {a b na nb av bv : Nat} {da db : AV} {usa usb : List (Nat × AV)} {al be : Int32} {K : Option AV ⊕ Nat → List AC → Prop}
/-- k elements are copied -/
def lk_I (C : List AC) (b nb av bv : Nat) (da db : AV) (usa usb : List (Nat × AV)) (k : Nat) (C' : List AC) : Prop := xI tb_G C' ∧ (∀ x, x ≠ b → ea_nt C' x = ea_nt C x) ∧ ∃ us', ea_nt C' b = some (.inl (0, nb, db, us')) ∧ ∀ j, j < nb → ea_al db us' j = if bv ≤ j ∧ j < bv + k then ea_al da usa (av + (j - bv)) else ea_al db usb j
set_option maxRecDepth 20000 in
theorem lk_loop (hI : xI tb_G C) (ha : ea_nt C a = some (.inl (0, na, da, usa))) (hGa : tb_G a = some (.inr (0, na, 388, tg_row))) (hb : ea_nt C b = some (.inl (0, nb, db, usb))) (hGb : tb_G b = some (.inr (0, nb, 388, tg_row))) (hal : al.toInt = (av : Int)) (hbe : be.toInt = (bv : Int)) (la : av + 388 ≤ na) (lb : bv + 388 ≤ nb) (ma : av % 388 = 0) (mb : bv % 388 = 0) (na' : na ≤ 4000) (nb' : nb ≤ 4000) (hdis : a ≠ b ∨ av + 388 ≤ bv ∨ bv + 388 ≤ av)
    (hK : ∀ C', lk_I C b nb av bv da db usa usb 388 C' → K (.inl none) C') : ∀ (m k : Nat) (x : Int32) (C' : List AC), m + k = 388 → x.toInt = (k : Int) → lk_I C b nb av bv da db usa usb k C' → ok_ (tb_P X) 191 3 [(4, .inl (.inl x)), (0, .inr (.inl (some a))), (1, .inl (.inl al)), (2, .inr (.inl (some b))), (3, .inl (.inl be))] [] C' K := by
  intro m
  induction m with
  | zero =>
    intro k x C' hm hx hinv
    refine ok_p rfl rfl rfl ?_
    refine ok_p rfl rfl rfl ?_
    refine ok_ic true rfl rfl ?_ ?_
    · show decide ((Int16.ofInt 388).toInt32 ≤ x) = true
      rw [decide_eq_true_eq, Int32.le_iff_toInt_le, hx, show ((Int16.ofInt 388).toInt32).toInt = 388 by decide]
      omega
    · refine ok_r rfl rfl rfl rfl rfl ?_
      obtain rfl : k = 388 := by omega
      exact hK C' hinv
  | succ m IH =>
    intro k x C' hm hx hinv
    obtain ⟨I', F', us', u1, u2⟩ := hinv
    obtain ⟨da', usa', a1, a2⟩ := hI_a I' hGa
    obtain ⟨d0, us0, c1, c2⟩ := hI_a hI hGa
    rw [ha] at c1
    cases c1
    have hval : ea_al da' usa' (av + k) = ea_al da usa (av + k) := by
      by_cases hab : a = b
      · subst hab
        rw [u1] at a1
        cases a1
        rw [hb] at ha
        cases ha
        rw [u2 (av + k) (by omega), if_neg (by omega)]
      · rw [F' a hab, ha] at a1
        cases a1
        rfl
    obtain ⟨y, hy⟩ := row_y (c2 (av + k) (by omega))
    have hy' : ea_al da' usa' (av + k) = .inl (.inl y) := hval.trans hy
    have ix1 : (be + x).toInt = ((bv + k : Nat) : Int) := by
      rw [i32_add (by omega) (by omega)]
      omega
    have ix2 : (al + x).toInt = ((av + k : Nat) : Int) := by
      rw [i32_add (by omega) (by omega)]
      omega
    have ix3 : (x + Int32.ofInt 1).toInt = ((k + 1 : Nat) : Int) := by
      rw [i32_add (by rw [show (Int32.ofInt 1).toInt = 1 by decide]; omega) (by rw [show (Int32.ofInt 1).toInt = 1 by decide]; omega), show (Int32.ofInt 1).toInt = 1 by decide]
      omega
    refine ok_p rfl rfl rfl ?_
    refine ok_p rfl rfl rfl ?_
    refine ok_ic false rfl rfl ?_ ?_
    · show decide ((Int16.ofInt 388).toInt32 ≤ x) = false
      rw [decide_eq_false_iff_not, Int32.le_iff_toInt_le, hx, show ((Int16.ofInt 388).toInt32).toInt = 388 by decide]
      omega
    refine ok_p rfl rfl rfl ?_
    refine ok_p rfl rfl rfl ?_
    refine ok_p rfl rfl rfl ?_
    refine ok_p rfl rfl rfl ?_
    refine ok_p rfl rfl rfl ?_
    refine ok_p rfl rfl rfl ?_
    refine ok_p rfl rfl rfl ?_
    refine ok_p rfl rfl rfl ?_
    refine ok_al rfl a1 (ix_of ix2 (by omega)) hy' ?_
    refine ok_as rfl u1 (ix_of ix1 (by omega)) ?_
    refine ok_p rfl rfl rfl ?_
    refine ok_p rfl rfl rfl ?_
    refine IH (k + 1) (x + Int32.ofInt 1) _ (by omega) ix3 ⟨?_, fun z hz => ?_, _, nt_set_self u1, fun j hj => ?_⟩
    · refine xI_sa I' hGb u1 ?_
      have h1 := c2 (av + k) (by omega)
      rw [hy] at h1
      obtain ⟨f, f1, f2⟩ := el_get (by decide) h1
      refine el_put (by decide) ⟨f, ?_, f2⟩
      rw [show (bv + k) % 388 = (av + k) % 388 by omega]
      exact f1
    · rw [nt_set_ne (fun h => hz h.symm)]
      exact F' z hz
    · rw [ea_al_at]
      by_cases hjk : j = bv + k
      · rw [if_pos hjk, if_pos (by omega), show av + (j - bv) = av + k by omega, hy]
      · rw [if_neg hjk, u2 j hj]
        by_cases hin : bv ≤ j ∧ j < bv + k
        · rw [if_pos hin, if_pos (by omega)]
        · rw [if_neg hin, if_neg (by omega)]
set_option maxRecDepth 20000 in
/-- likens, as it runs -/
theorem lk_run (hI : xI tb_G C) (ha : ea_nt C a = some (.inl (0, na, da, usa))) (hGa : tb_G a = some (.inr (0, na, 388, tg_row))) (hb : ea_nt C b = some (.inl (0, nb, db, usb))) (hGb : tb_G b = some (.inr (0, nb, 388, tg_row))) (hal : al.toInt = (av : Int)) (hbe : be.toInt = (bv : Int)) (la : av + 388 ≤ na) (lb : bv + 388 ≤ nb) (ma : av % 388 = 0) (mb : bv % 388 = 0) (na' : na ≤ 4000) (nb' : nb ≤ 4000) (hdis : a ≠ b ∨ av + 388 ≤ bv ∨ bv + 388 ≤ av)
    (hK : ∀ C', lk_I C b nb av bv da db usa usb 388 C' → K (.inl none) C') : ok_ (tb_P X) 191 0 (ea_ar 0 [.inr (.inl (some a)), .inl (.inl al), .inr (.inl (some b)), .inl (.inl be)]) [] C K := by
  refine ok_p rfl rfl rfl ?_
  refine ok_p rfl rfl rfl ?_
  refine lk_loop X hI ha hGa hb hGb hal hbe la lb ma mb na' nb' hdis hK 388 0 (Int32.ofInt (Int.ofNat 0)) C rfl (by decide) ⟨hI, fun _ _ => rfl, usb, hb, fun j hj => ?_⟩
  rw [if_neg (by omega)]
end LK
end
