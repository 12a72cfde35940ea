/-! the checker with relations never looks at the script -/
section XSC2
variable (X : Option (List AI)) {G : Nat → Option CT} {gs : GS} {cts : Nat → List CX} {mac : Nat → Nat → Option (CX × Nat)} {hd : Nat → Option HX} {c : CX} {en : List XI} {ih : IH}
theorem xz2_scr (m pc : Nat) (L : List (Nat × XV)) (S : List XV) (e : XE) (F : List FR) : xz2 (tb_P X) G gs cts mac c en ih m pc L S e F = xz2 (tb_P none) G gs cts mac c en ih m pc L S e F := rfl
theorem xw2_scr (st : Option (Int × List (Int × XI))) (n : Nat) : xw2 (tb_P X) G gs cts mac hd c en st n = xw2 (tb_P none) G gs cts mac hd c en st n := by
  induction n with
  | zero => rfl
  | succ n ihn =>
    funext m pc L S e F
    show (match xw2_h hd c m pc F with
      | some h => hx_at G en h st L S e
      | none => bif xg_big 25 e.2.2.1 then ea_fn (xg_m en st L S e F) (fun M => fEa (xg_e M e) (fun e => xz2 (tb_P X) G gs cts mac c en (xw2 (tb_P X) G gs cts mac hd c en st n) m pc L S e F)) else xz2 (tb_P X) G gs cts mac c en (xw2 (tb_P X) G gs cts mac hd c en st n) m pc L S e F) = (match xw2_h hd c m pc F with
      | some h => hx_at G en h st L S e
      | none => bif xg_big 25 e.2.2.1 then ea_fn (xg_m en st L S e F) (fun M => fEa (xg_e M e) (fun e => xz2 (tb_P none) G gs cts mac c en (xw2 (tb_P none) G gs cts mac hd c en st n) m pc L S e F)) else xz2 (tb_P none) G gs cts mac c en (xw2 (tb_P none) G gs cts mac hd c en st n) m pc L S e F)
    rw [ihn]
    rfl
theorem hx_ck_scr (n pc : Nat) (h : HX) : hx_ck (tb_P X) G gs cts mac hd c n pc h = hx_ck (tb_P none) G gs cts mac hd c n pc h := by
  unfold hx_ck
  simp only [xw2_scr X, xz2_scr X]
theorem hx_all_scr (n : Nat) : ∀ l : List (Nat × HX), hx_all (tb_P X) G gs cts mac hd c n l = hx_all (tb_P none) G gs cts mac hd c n l
  | [] => rfl
  | q :: t => by
    show (hx_ck (tb_P X) G gs cts mac hd c n q.1 q.2 && hx_all (tb_P X) G gs cts mac hd c n t) = (hx_ck (tb_P none) G gs cts mac hd c n q.1 q.2 && hx_all (tb_P none) G gs cts mac hd c n t)
    rw [hx_ck_scr X, hx_all_scr n t]
theorem cx_scr (hds : List (Nat × HX)) (n : Nat) : cx_ck (tb_P X) G gs cts mac hds c n = cx_ck (tb_P none) G gs cts mac hds c n := by
  unfold cx_ck cx_en
  rw [hx_all_scr X]
  simp only [xw2_scr X]
end XSC2
/-- contracts of the reference that are proved by hand -/
def tr_as : List Nat := [0, 1, 2, 3, 4, 5, 6, 7, 8, 9, 10, 11, 12, 13, 14, 15, 16, 17, 18, 19, 20, 21, 22, 23, 24, 25, 26, 27, 28, 29, 30, 31, 32, 33, 34, 38, 40, 42, 44, 46, 57, 58, 69, 71, 72, 104, 106, 132, 134, 135]
theorem tr_all (r : Nat) (hr : r < 171) (ha : r ∉ tr_as) : tr_ck r = true := by
  have n0 : r ≠ 0 := fun h => ha (by rw [h]; decide)
  have n1 : r ≠ 1 := fun h => ha (by rw [h]; decide)
  have n2 : r ≠ 2 := fun h => ha (by rw [h]; decide)
  have n3 : r ≠ 3 := fun h => ha (by rw [h]; decide)
  have n4 : r ≠ 4 := fun h => ha (by rw [h]; decide)
  have n5 : r ≠ 5 := fun h => ha (by rw [h]; decide)
  have n6 : r ≠ 6 := fun h => ha (by rw [h]; decide)
  have n7 : r ≠ 7 := fun h => ha (by rw [h]; decide)
  have n8 : r ≠ 8 := fun h => ha (by rw [h]; decide)
  have n9 : r ≠ 9 := fun h => ha (by rw [h]; decide)
  have n10 : r ≠ 10 := fun h => ha (by rw [h]; decide)
  have n11 : r ≠ 11 := fun h => ha (by rw [h]; decide)
  have n12 : r ≠ 12 := fun h => ha (by rw [h]; decide)
  have n13 : r ≠ 13 := fun h => ha (by rw [h]; decide)
  have n14 : r ≠ 14 := fun h => ha (by rw [h]; decide)
  have n15 : r ≠ 15 := fun h => ha (by rw [h]; decide)
  have n16 : r ≠ 16 := fun h => ha (by rw [h]; decide)
  have n17 : r ≠ 17 := fun h => ha (by rw [h]; decide)
  have n18 : r ≠ 18 := fun h => ha (by rw [h]; decide)
  have n19 : r ≠ 19 := fun h => ha (by rw [h]; decide)
  have n20 : r ≠ 20 := fun h => ha (by rw [h]; decide)
  have n21 : r ≠ 21 := fun h => ha (by rw [h]; decide)
  have n22 : r ≠ 22 := fun h => ha (by rw [h]; decide)
  have n23 : r ≠ 23 := fun h => ha (by rw [h]; decide)
  have n24 : r ≠ 24 := fun h => ha (by rw [h]; decide)
  have n25 : r ≠ 25 := fun h => ha (by rw [h]; decide)
  have n26 : r ≠ 26 := fun h => ha (by rw [h]; decide)
  have n27 : r ≠ 27 := fun h => ha (by rw [h]; decide)
  have n28 : r ≠ 28 := fun h => ha (by rw [h]; decide)
  have n29 : r ≠ 29 := fun h => ha (by rw [h]; decide)
  have n30 : r ≠ 30 := fun h => ha (by rw [h]; decide)
  have n31 : r ≠ 31 := fun h => ha (by rw [h]; decide)
  have n32 : r ≠ 32 := fun h => ha (by rw [h]; decide)
  have n33 : r ≠ 33 := fun h => ha (by rw [h]; decide)
  have n34 : r ≠ 34 := fun h => ha (by rw [h]; decide)
  have n38 : r ≠ 38 := fun h => ha (by rw [h]; decide)
  have n40 : r ≠ 40 := fun h => ha (by rw [h]; decide)
  have n42 : r ≠ 42 := fun h => ha (by rw [h]; decide)
  have n44 : r ≠ 44 := fun h => ha (by rw [h]; decide)
  have n46 : r ≠ 46 := fun h => ha (by rw [h]; decide)
  have n57 : r ≠ 57 := fun h => ha (by rw [h]; decide)
  have n58 : r ≠ 58 := fun h => ha (by rw [h]; decide)
  have n69 : r ≠ 69 := fun h => ha (by rw [h]; decide)
  have n71 : r ≠ 71 := fun h => ha (by rw [h]; decide)
  have n72 : r ≠ 72 := fun h => ha (by rw [h]; decide)
  have n104 : r ≠ 104 := fun h => ha (by rw [h]; decide)
  have n106 : r ≠ 106 := fun h => ha (by rw [h]; decide)
  have n132 : r ≠ 132 := fun h => ha (by rw [h]; decide)
  have n134 : r ≠ 134 := fun h => ha (by rw [h]; decide)
  have n135 : r ≠ 135 := fun h => ha (by rw [h]; decide)
  by_cases ha : r < 38
  · exact List.all_eq_true.mp trv_a r (List.mem_range'_1.mpr ⟨by omega, by omega⟩)
  by_cases hb : r < 40
  · exact List.all_eq_true.mp trv_b r (List.mem_range'_1.mpr ⟨by omega, by omega⟩)
  by_cases hc : r < 42
  · exact List.all_eq_true.mp trv_c r (List.mem_range'_1.mpr ⟨by omega, by omega⟩)
  by_cases hd : r < 44
  · exact List.all_eq_true.mp trv_d r (List.mem_range'_1.mpr ⟨by omega, by omega⟩)
  by_cases he : r < 46
  · exact List.all_eq_true.mp trv_e r (List.mem_range'_1.mpr ⟨by omega, by omega⟩)
  by_cases hf : r < 57
  · exact List.all_eq_true.mp trv_f r (List.mem_range'_1.mpr ⟨by omega, by omega⟩)
  by_cases hg : r < 69
  · exact List.all_eq_true.mp trv_g r (List.mem_range'_1.mpr ⟨by omega, by omega⟩)
  by_cases hh : r < 71
  · exact List.all_eq_true.mp trv_h r (List.mem_range'_1.mpr ⟨by omega, by omega⟩)
  by_cases hi : r < 98
  · exact List.all_eq_true.mp trv_i r (List.mem_range'_1.mpr ⟨by omega, by omega⟩)
  by_cases hj : r < 104
  · exact List.all_eq_true.mp trv_j r (List.mem_range'_1.mpr ⟨by omega, by omega⟩)
  by_cases hk : r < 106
  · exact List.all_eq_true.mp trv_k r (List.mem_range'_1.mpr ⟨by omega, by omega⟩)
  by_cases hl : r < 132
  · exact List.all_eq_true.mp trv_l r (List.mem_range'_1.mpr ⟨by omega, by omega⟩)
  by_cases hm : r < 134
  · exact List.all_eq_true.mp trv_m r (List.mem_range'_1.mpr ⟨by omega, by omega⟩)
  by_cases hn : r < 161
  · exact List.all_eq_true.mp trv_n r (List.mem_range'_1.mpr ⟨by omega, by omega⟩)
  by_cases ho : r < 171
  · exact List.all_eq_true.mp trv_o r (List.mem_range'_1.mpr ⟨by omega, by omega⟩)
  · exact absurd hr (by omega)
theorem tr_name : (List.range 388).all (fun m => (tr_K m).all (fun q => Nat.beq (tr_at q).1.1 m && Nat.blt q 171)) = true := by decide +kernel
theorem tr_Kk {m q : Nat} (h : q ∈ tr_K m) : (tr_at q).1.1 = m ∧ q < 171 := by
  have hm : m < 388 := by
    apply Classical.byContradiction
    intro hn
    have hb : Nat.blt m 388 = false := by
      cases hb : Nat.blt m 388 with
      | false => rfl
      | true => exact absurd (blt_lt hb) hn
    unfold tr_K at h
    rw [hb] at h
    exact nomatch h
  have h1 := List.all_eq_true.mp (List.all_eq_true.mp tr_name m (List.mem_range.mpr hm)) q h
  simp only [Bool.and_eq_true] at h1
  exact ⟨Nat.eq_of_beq_eq_true h1.1, blt_lt h1.2⟩
theorem tr_f_mem {r : Nat} {c : CX} : ∀ {l : List Nat}, c ∈ tr_f r l → ∃ q ∈ l, q < r ∧ c = tr_at q
  | [], h => nomatch h
  | q :: t, h => by
    unfold tr_f at h
    cases hb : Nat.blt q r with
    | true =>
      rw [hb] at h
      rcases List.mem_cons.mp h with rfl | h
      · exact ⟨q, List.mem_cons_self, blt_lt hb, rfl⟩
      · obtain ⟨q', h1, h2⟩ := tr_f_mem h
        exact ⟨q', List.mem_cons_of_mem _ h1, h2⟩
    | false =>
      rw [hb] at h
      obtain ⟨q', h1, h2⟩ := tr_f_mem h
      exact ⟨q', List.mem_cons_of_mem _ h1, h2⟩
theorem tr_G9 (b : Nat) (hb : 999 ≤ b) : tb_G b = none := by
  have : Nat.blt b 216 = false := by
    cases h : Nat.blt b 216 with
    | false => rfl
    | true => have := blt_lt h; omega
  unfold tb_G
  rw [this]
  rfl
/-- every contract of the reference holds, if those by hand and the pieces do; whatever the ghosts are (u: a family of them) -/
theorem tr_ok {U : Type} (X : Option (List AI)) (GF : U → GH) (hgs : ∀ u, gs_ok (GF u) tr_gs) (hM : ∀ u m pc mc, tr_mac m pc = some mc → mc_ok (tb_P X) tb_G (GF u) m pc mc.1 mc.2) (hA : ∀ r, r ∈ tr_as → (∀ q, q < r → ∀ u, cx_ok (tb_P X) tb_G (GF u) (tr_at q)) → ∀ u, cx_ok (tb_P X) tb_G (GF u) (tr_at r)) : ∀ r, r < 171 → ∀ u, cx_ok (tb_P X) tb_G (GF u) (tr_at r) := by
  intro r
  induction r using Nat.strongRecOn with
  | ind r IH =>
    intro hr u
    by_cases ha : r ∈ tr_as
    · exact hA r ha (fun q hq u => IH q hq (Nat.lt_trans hq hr) u) u
    have h := tr_all r hr ha
    unfold tr_ck at h
    rw [← cx_scr X] at h
    refine cx_ck_ok tr_G9 (hgs u) (fun mj c' hc' => ?_) (hM u) h
    obtain ⟨q, h1, h2, rfl⟩ := tr_f_mem (show c' ∈ tr_f r (tr_K mj) from hc')
    exact ⟨(tr_Kk h1).1, IH q h2 (tr_Kk h1).2 u⟩
