/-! all contracts hold, whatever the script is -/
theorem tv_in {a n r : Nat} (h : (List.range' a n).all tv_ck = true) (h1 : a ≤ r) (h2 : r < a + n) : tv_ck r = true := List.all_eq_true.mp h r (List.mem_range'_1.mpr ⟨h1, h2⟩)
/-- contracts that are proved otherwise -/
def tk_as : List Nat := [123]
theorem tv_all (r : Nat) (hr : r < 199) (ha : r ∉ tk_as) : tv_ck r = true := by
  have n123 : r ≠ 123 := fun h => ha (by rw [h]; decide)
  by_cases ha : r < 34
  · exact tv_in tv_a (by omega) (by omega)
  by_cases hb : r < 68
  · exact tv_in tv_b (by omega) (by omega)
  by_cases hc : r < 102
  · exact tv_in tv_c (by omega) (by omega)
  by_cases hd : r < 123
  · exact tv_in tv_d (by omega) (by omega)
  by_cases he : r < 158
  · exact tv_in tv_e (by omega) (by omega)
  by_cases hf : r < 192
  · exact tv_in tv_f (by omega) (by omega)
  by_cases hg : r < 199
  · exact tv_in tv_g (by omega) (by omega)
  · exact absurd hr (by omega)
theorem tk_name : (List.range 388).all (fun m => (tb_K m).all (fun q => Nat.beq (tk_at q).1 m && Nat.blt q 199)) = true := by decide +kernel
theorem tk_K {m q : Nat} (h : q ∈ tb_K m) : (tk_at q).1 = m ∧ q < 199 := by
  have hm : m < 388 := by
    apply Classical.byContradiction
    intro hn
    have hb : Nat.blt m 388 = false := by
      cases hb : Nat.blt m 388 with
      | false => rfl
      | true => exact absurd (blt_lt hb) hn
    unfold tb_K at h
    rw [hb] at h
    exact nomatch h
  have h1 := List.all_eq_true.mp (List.all_eq_true.mp tk_name m (List.mem_range.mpr hm)) q h
  simp only [Bool.and_eq_true] at h1
  exact ⟨Nat.eq_of_beq_eq_true h1.1, blt_lt h1.2⟩
theorem tk_f_mem {r : Nat} {c : CN} : ∀ {l : List Nat}, c ∈ tk_f r l → ∃ q ∈ l, q < r ∧ c = tk_at q
  | [], h => nomatch h
  | q :: t, h => by
    unfold tk_f at h
    cases hb : Nat.blt q r with
    | true =>
      rw [hb] at h
      rcases List.mem_cons.mp h with rfl | h
      · exact ⟨q, List.mem_cons_self, blt_lt hb, rfl⟩
      · obtain ⟨q', h1, h2⟩ := tk_f_mem h
        exact ⟨q', List.mem_cons_of_mem _ h1, h2⟩
    | false =>
      rw [hb] at h
      obtain ⟨q', h1, h2⟩ := tk_f_mem h
      exact ⟨q', List.mem_cons_of_mem _ h1, h2⟩
/-- every contract holds, if those hold that are proved otherwise -/
theorem tk_ok (X : Option (List AI)) (hA : ∀ r, r ∈ tk_as → cn_ok (tb_P X) tb_G (tk_at r)) : ∀ r, r < 199 → cn_ok (tb_P X) tb_G (tk_at r) := by
  intro r
  induction r using Nat.strongRecOn with
  | ind r IH =>
    intro hr
    by_cases ha : r ∈ tk_as
    · exact hA r ha
    have h := tv_all r hr ha
    unfold tv_ck at h
    rw [← ck_scr X] at h
    refine cn_ck_ok (fun mj c' hc' => ?_) h
    obtain ⟨q, h1, h2, rfl⟩ := tk_f_mem (show c' ∈ tk_f r (tb_K mj) from hc')
    obtain ⟨g1, g2⟩ := tk_K h1
    exact ⟨g1, IH q h2 g2⟩
