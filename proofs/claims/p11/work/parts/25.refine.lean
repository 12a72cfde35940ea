/-! THE CHECKER, what a branch tells -/
def xr_hi (e : XE) (i : XI) (h : Int) : XE := if i.1 = 1 then match xe_k e.2.1 i.2.1 with
  | some q => if h - i.2.2 < q.2 then (e.1, (i.2.1, q.1, h - i.2.2) :: e.2.1, e.2.2) else e
  | none => e
  else e
def xr_lo (e : XE) (i : XI) (l : Int) : XE := if i.1 = 1 then match xe_k e.2.1 i.2.1 with
  | some q => if q.1 < l - i.2.2 then (e.1, (i.2.1, l - i.2.2, q.2) :: e.2.1, e.2.2) else e
  | none => e
  else e
def xr_d (e : XE) (i j : XI) (k : Int) : XE := if i.1 = 1 ∧ j.1 = 1 ∧ i.2.1 ≠ j.2.1 then (e.1, e.2.1, (i.2.1, j.2.1, k + j.2.2 - i.2.2) :: e.2.2.1, e.2.2.2) else e
theorem xr_hi_ok {r : RN} {e : XE} (he : xe_g r e) {i : XI} {x : Int32} (hx : xi_g r i x) {h : Int} (hh : x.toInt ≤ h) : xe_g r (xr_hi e i h) ∧ (xr_hi e i h).2.2 = e.2.2 := by
  unfold xr_hi
  split
  · rename_i h1
    split
    · rename_i q hq
      split
      · obtain ⟨g1, g2, g3, g4⟩ := he
        refine ⟨⟨g1, g2, fun p hp => ?_, g4⟩, rfl⟩
        rcases List.mem_cons.mp hp with rfl | hp
        · obtain ⟨a, b, c⟩ := g3 _ (xe_k_mem hq)
          have z := hx.2
          unfold xi_z at z
          rw [h1] at z
          dsimp only at b ⊢
          exact ⟨a, b, by omega⟩
        · exact g3 p hp
      · exact ⟨he, rfl⟩
    · exact ⟨he, rfl⟩
  · exact ⟨he, rfl⟩
theorem xr_lo_ok {r : RN} {e : XE} (he : xe_g r e) {i : XI} {x : Int32} (hx : xi_g r i x) {l : Int} (hh : l ≤ x.toInt) : xe_g r (xr_lo e i l) ∧ (xr_lo e i l).2.2 = e.2.2 := by
  unfold xr_lo
  split
  · rename_i h1
    split
    · rename_i q hq
      split
      · obtain ⟨g1, g2, g3, g4⟩ := he
        refine ⟨⟨g1, g2, fun p hp => ?_, g4⟩, rfl⟩
        rcases List.mem_cons.mp hp with rfl | hp
        · obtain ⟨a, b, c⟩ := g3 _ (xe_k_mem hq)
          have z := hx.2
          unfold xi_z at z
          rw [h1] at z
          dsimp only at c ⊢
          exact ⟨a, by omega, c⟩
        · exact g3 p hp
      · exact ⟨he, rfl⟩
    · exact ⟨he, rfl⟩
  · exact ⟨he, rfl⟩
theorem xr_d_ok {r : RN} {e : XE} (he : xe_g r e) {i j : XI} {x y : Int32} (hx : xi_g r i x) (hy : xi_g r j y) {k : Int} (hh : x.toInt - y.toInt ≤ k) : xe_g r (xr_d e i j k) ∧ (xr_d e i j k).2.2.2 = e.2.2.2 := by
  unfold xr_d
  split
  · rename_i h1
    obtain ⟨g1, g2, g3, g4⟩ := he
    refine ⟨⟨g1, g2, g3, fun p hp => ?_⟩, rfl⟩
    rcases List.mem_cons.mp hp with rfl | hp
    · have zx := hx.2
      have zy := hy.2
      unfold xi_z at zx zy
      rw [h1.1] at zx
      rw [h1.2.1] at zy
      dsimp only
      exact ⟨hx.1, hy.1, by omega⟩
    · exact g4 p hp
  · exact ⟨he, rfl⟩
/-- i is above j by k at most; none: it cannot be -/
def xr_le (e : XE) (i j : XI) (k : Int) : Option XE := if k < - xi_du e j i then none else some (xr_d (xr_lo (xr_hi e i ((xi_b e.2.1 j).2 + k)) j ((xi_b e.2.1 i).1 - k)) i j k)
theorem xr_le_ok {r : RN} {e : XE} (he : xe_g r e) {i j : XI} {x y : Int32} (hx : xi_g r i x) (hy : xi_g r j y) {k : Int} (hh : x.toInt - y.toInt ≤ k) : ∃ e', xr_le e i j k = some e' ∧ xe_g r e' ∧ e'.2.2.2 = e.2.2.2 := by
  have d := xi_du_ok he hy hx
  have a := xi_b_ok he hx
  have b := xi_b_ok he hy
  unfold xr_le
  rw [if_neg (by omega)]
  have s1 := xr_hi_ok he hx (h := (xi_b e.2.1 j).2 + k) (by omega)
  have s2 := xr_lo_ok s1.1 hy (l := (xi_b e.2.1 i).1 - k) (by omega)
  have s3 := xr_d_ok s2.1 hx hy hh
  exact ⟨_, rfl, s3.1, by rw [s3.2, s2.2, s1.2]⟩
def xr_ne (e : XE) (i j : XI) : Option XE :=
  let bi := xi_b e.2.1 i
  let bj := xi_b e.2.1 j
  if bj.1 = bj.2 then (if bi.1 = bj.1 then xr_le e j i (-1) else if bi.2 = bj.1 then xr_le e i j (-1) else some e)
  else if bi.1 = bi.2 then (if bj.1 = bi.1 then xr_le e i j (-1) else if bj.2 = bi.1 then xr_le e j i (-1) else some e)
  else if xi_du e i j = 0 then xr_le e i j (-1) else if xi_du e j i = 0 then xr_le e j i (-1) else some e
theorem xr_ne_ok {r : RN} {e : XE} (he : xe_g r e) {i j : XI} {x y : Int32} (hx : xi_g r i x) (hy : xi_g r j y) (hh : x.toInt ≠ y.toInt) : ∃ e', xr_ne e i j = some e' ∧ xe_g r e' ∧ e'.2.2.2 = e.2.2.2 := by
  have a := xi_b_ok he hx
  have b := xi_b_ok he hy
  unfold xr_ne
  dsimp only
  split
  · split
    · exact xr_le_ok he hy hx (by omega)
    · split
      · exact xr_le_ok he hx hy (by omega)
      · exact ⟨e, rfl, he, rfl⟩
  · split
    · split
      · exact xr_le_ok he hx hy (by omega)
      · split
        · exact xr_le_ok he hy hx (by omega)
        · exact ⟨e, rfl, he, rfl⟩
    · split
      · rename_i hz
        have hd := xi_du_ok he hx hy
        exact xr_le_ok he hx hy (by omega)
      · split
        · rename_i hz
          have hd := xi_du_ok he hy hx
          exact xr_le_ok he hy hx (by omega)
        · exact ⟨e, rfl, he, rfl⟩
def xr_eq (e : XE) (i j : XI) : Option XE := match xr_le e i j 0 with
  | some e1 => xr_le e1 j i 0
  | none => none
theorem xr_eq_ok {r : RN} {e : XE} (he : xe_g r e) {i j : XI} {x y : Int32} (hx : xi_g r i x) (hy : xi_g r j y) (hh : x.toInt = y.toInt) : ∃ e', xr_eq e i j = some e' ∧ xe_g r e' ∧ e'.2.2.2 = e.2.2.2 := by
  obtain ⟨e1, h1, h2, h3⟩ := xr_le_ok he hx hy (k := 0) (by omega)
  obtain ⟨e2, h4, h5, h6⟩ := xr_le_ok h2 hy hx (k := 0) (by omega)
  refine ⟨e2, ?_, h5, h6.trans h3⟩
  unfold xr_eq
  rw [h1]
  exact h4
/-- what holds if the branch is taken -/
def xr_c (c : Jvm.ClassFile.Cond) (e : XE) (i j : XI) : Option XE := match c with
  | .eq => xr_eq e i j
  | .ne => xr_ne e i j
  | .lt => xr_le e i j (-1)
  | .ge => xr_le e j i 0
  | .gt => xr_le e j i (-1)
  | .le => xr_le e i j 0
def xr_not (c : Jvm.ClassFile.Cond) : Jvm.ClassFile.Cond := match c with
  | .eq => .ne
  | .ne => .eq
  | .lt => .ge
  | .ge => .lt
  | .gt => .le
  | .le => .gt
theorem xr_c_ok {r : RN} {e : XE} (he : xe_g r e) {c : Jvm.ClassFile.Cond} {i j : XI} {x y : Int32} (hx : xi_g r i x) (hy : xi_g r j y) (hh : ea_cp c x y) : ∃ e', xr_c c e i j = some e' ∧ xe_g r e' ∧ e'.2.2.2 = e.2.2.2 := by
  cases c with
  | eq => exact xr_eq_ok he hx hy (congrArg Int32.toInt hh)
  | ne => exact xr_ne_ok he hx hy (fun h => hh (Int32.toInt_inj.mp h))
  | lt => exact xr_le_ok he hx hy (by have := Int32.lt_iff_toInt_lt.mp hh; omega)
  | ge => exact xr_le_ok he hy hx (by have := Int32.le_iff_toInt_le.mp hh; omega)
  | gt => exact xr_le_ok he hy hx (by have := Int32.lt_iff_toInt_lt.mp hh; omega)
  | le => exact xr_le_ok he hx hy (by have := Int32.le_iff_toInt_le.mp hh; omega)
theorem xr_not_ok {c : Jvm.ClassFile.Cond} {x y : Int32} (h : ¬ ea_cp c x y) : ea_cp (xr_not c) x y := by
  have hle : ∀ u v : Int32, (v ≤ u ↔ ¬ u < v) := fun u v => by rw [Int32.le_iff_toInt_le, Int32.lt_iff_toInt_lt]; omega
  cases c with
  | eq => exact h
  | ne => exact Classical.not_not.mp h
  | lt => exact (hle _ _).mpr h
  | ge => exact Classical.not_not.mp (fun h' => h ((hle _ _).mpr h'))
  | gt => exact (hle _ _).mpr h
  | le => exact Classical.not_not.mp (fun h' => h ((hle _ _).mpr h'))
