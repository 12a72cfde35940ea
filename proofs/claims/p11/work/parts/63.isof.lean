/-! CONTRACTS BY HAND: a clause's condition -/
def of_L (cl : List (Nat × AV)) (k m c day top i : Int32) : Prop := ea_lk cl 0 = some (.inr (.inl (some 190))) ∧ ea_lk cl 1 = some (.inl (.inl k)) ∧ ea_lk cl 2 = some (.inl (.inl m)) ∧ ea_lk cl 3 = some (.inl (.inl c)) ∧ ea_lk cl 4 = some (.inl (.inl day)) ∧ ea_lk cl 5 = some (.inl (.inl top)) ∧ ea_lk cl 6 = some (.inl (.inl i))
theorem of_L_7 {cl : List (Nat × AV)} {k m c day top i : Int32} (h : of_L cl k m c day top i) {j : Nat} (hj : 7 ≤ j) (a : AV) : of_L (ea_s1 cl j a) k m c day top i := by
  obtain ⟨h0, h1, h2, h3, h4, h5, h6⟩ := h
  exact ⟨lk_s1_n1 h0 rfl (by omega), lk_s1_n1 h1 rfl (by omega), lk_s1_n1 h2 rfl (by omega), lk_s1_n1 h3 rfl (by omega), lk_s1_n1 h4 rfl (by omega), lk_s1_n1 h5 rfl (by omega), lk_s1_n1 h6 rfl (by omega)⟩
theorem of_L_5 {cl : List (Nat × AV)} {k m c day top i : Int32} (h : of_L cl k m c day top i) (t : Int32) : of_L (ea_s1 cl 5 (.inl (.inl t))) k m c day t i := by
  obtain ⟨h0, h1, h2, h3, h4, h5, h6⟩ := h
  exact ⟨lk_s1_n1 h0 rfl (by omega), lk_s1_n1 h1 rfl (by omega), lk_s1_n1 h2 rfl (by omega), lk_s1_n1 h3 rfl (by omega), lk_s1_n1 h4 rfl (by omega), lk_s1 _ _ _, lk_s1_n1 h6 rfl (by omega)⟩
theorem of_L_6 {cl : List (Nat × AV)} {k m c day top i : Int32} (h : of_L cl k m c day top i) (t : Int32) : of_L (ea_s1 cl 6 (.inl (.inl t))) k m c day top t := by
  obtain ⟨h0, h1, h2, h3, h4, h5, h6⟩ := h
  exact ⟨lk_s1_n1 h0 rfl (by omega), lk_s1_n1 h1 rfl (by omega), lk_s1_n1 h2 rfl (by omega), lk_s1_n1 h3 rfl (by omega), lk_s1_n1 h4 rfl (by omega), lk_s1_n1 h5 rfl (by omega), lk_s1 _ _ _⟩
theorem i_4 : (Int32.ofInt 4).toInt = 4 := by decide
theorem i_5 : (Int32.ofInt 5).toInt = 5 := by decide
theorem i_m1 : (Int32.ofInt (-1)).toInt = -1 := by decide
theorem b_9 : ((Int8.ofInt 9).toInt32).toInt = 9 := by decide
section ISOF
variable (X : Option (List AI)) (u : Nat) {C : List AC} {K : Option AV ⊕ Nat → List AC → Prop}
/-- a store into the values -/
theorem xI_207 {C : List AC} (hI : xI tb_G C) {d : AV} {us : List (Nat × AV)} (hC : ea_nt C 207 = some (.inl (0, 400, d, us))) {j : Nat} {v : Int32} : xI tb_G (C.set 207 (.inl (0, 400, d, (j, .inl (.inl v)) :: us))) :=
  xI_sa hI (show tb_G 207 = some (.inr (0, 400, 1, [.inl ((-2147483648), 2147483647)])) from rfl) hC (el_put (by decide) ⟨.inl ((-2147483648), 2147483647), by rw [Nat.mod_one]; rfl, v, rfl, Int32.le_toInt v, Int.le_of_lt_add_one (Int32.toInt_lt v)⟩)
theorem any_el {C : List AC} (hI : xI tb_G C) {a n : Nat} (hG : tb_G a = some (.inr (0, n, 1, [.inl ((-2147483648), 2147483647)]))) {d : AV} {us : List (Nat × AV)} (hC : ea_nt C a = some (.inl (0, n, d, us))) {j : Nat} (hj : j < n) : ∃ y : Int32, ea_al d us j = .inl (.inl y) ∧ rf_v C a j = y.toInt := by
  obtain ⟨d', us', g1, g2⟩ := hI_a hI hG
  rw [hC] at g1
  cases g1
  obtain ⟨f, f1, f2⟩ := el_get (by decide) (g2 j hj)
  rw [Nat.mod_one] at f1
  cases (show some (.inl ((-2147483648), 2147483647)) = some f from f1)
  obtain ⟨y, y1, -, -⟩ := f2
  exact ⟨y, y1, rf_el hC hj y1⟩
set_option maxRecDepth 20000 in
set_option maxHeartbeats 8000000 in
theorem iof_loop (hI : xI tb_G C) {k m c day : Int32} (k1 : 0 ≤ k.toInt) (k2 : k.toInt ≤ 11) (c1 : 0 ≤ c.toInt) (c2 : c.toInt ≤ 9) {E : Nat} (hE : rf_v C 201 (4 * k.toInt.toNat + 3) = (E : Int)) (hE4 : E ≤ 400) (hK : ∀ (C' : List AC) (y : Int32), xI tb_G C' → (∀ x, x ≠ 207 → ea_nt C' x = ea_nt C x) → (y = Int32.ofInt 0 ∨ y = Int32.ofInt 1) → K (.inl (some (.inl (.inl y)))) C') : ∀ (n i t dd : Nat) (tv iv : Int32) (cl : List (Nat × AV)) (C' : List AC), i + n = E → t ≤ i → rf_d (rf_v C 202) i n t = some dd → tv.toInt = (t : Int) → iv.toInt = (i : Int) → of_L cl k m c day tv iv → xI tb_G C' → (∀ x, x ≠ 207 → ea_nt C' x = ea_nt C x) → ok_ (tb_P X) 246 29 cl [] C' K := by
  obtain ⟨ms, m1, m2, m3⟩ := hI_f hI (show tb_G 190 = some (.inl (12, _)) from rfl)
  obtain ⟨_, r13, rfl⟩ := m3 13 (.inr 201) rfl
  obtain ⟨_, r14, rfl⟩ := m3 14 (.inr 202) rfl
  obtain ⟨_, r28, rfl⟩ := m3 28 (.inr 207) rfl
  obtain ⟨da, ua, a1, a2⟩ := hI_a hI (show tb_G 201 = some (.inr (0, 48, 1, [.inl ((-2147483648), 2147483647)])) from rfl)
  obtain ⟨db, ub, b1, b2⟩ := hI_a hI (show tb_G 202 = some (.inr (0, 800, 1, [.inl ((-2147483648), 2147483647)])) from rfl)
  have i4k : (Int32.ofInt 4 * k).toInt = ((4 * k.toInt.toNat : Nat) : Int) := by
    rw [i32_mul (by rw [i_4]; omega) (by rw [i_4]; omega), i_4]
    omega
  have i4k3 : (Int32.ofInt 4 * k + Int32.ofInt 3).toInt = ((4 * k.toInt.toNat + 3 : Nat) : Int) := by
    rw [i32_add (by rw [i4k, i_3]; omega) (by rw [i4k, i_3]; omega), i4k, i_3]
    omega
  obtain ⟨ev, e1, e2⟩ := any_el hI (a := 201) rfl a1 (show 4 * k.toInt.toNat + 3 < 48 by omega)
  rw [hE] at e2
  intro n
  induction n with
  | zero =>
    intro i t dd tv iv cl C' hn ht hd htv hiv hl I' F'
    obtain ⟨h0, h1, h2, h3, h4, h5, h6⟩ := hl
    have M1 : ea_nt C' 190 = some (.inr (12, ms)) := by rw [F' 190 (by decide)]; exact m1
    have A1 : ea_nt C' 201 = some (.inl (0, 48, da, ua)) := by rw [F' 201 (by decide)]; exact a1
    refine ok_il rfl h6 ?_
    refine ok_an rfl h0 rfl ?_
    refine ok_gf rfl rfl M1 r13 ?_
    refine ok_p rfl rfl rfl ?_
    refine ok_in rfl h1 ?_
    refine ok_p rfl rfl rfl ?_
    refine ok_p rfl rfl rfl ?_
    refine ok_p rfl rfl rfl ?_
    refine ok_al rfl A1 (ix_of i4k3 (by omega)) e1 ?_
    have hq : ea_ck .ge iv ev = true := by
      show decide (ev ≤ iv) = true
      rw [decide_eq_true_eq, Int32.le_iff_toInt_le]
      omega
    refine ok_ic true rfl rfl hq ?_
    refine ok_il rfl h5 ?_
    have yes : ok_ (tb_P X) 246 289 cl [] C' K := by
      refine ok_p rfl rfl rfl ?_
      refine ok_p rfl rfl rfl ?_
      exact ok_r rfl rfl rfl rfl rfl (hK C' _ I' F' (Or.inr rfl))
    cases hz : ea_ck .eq tv 0 with
    | true =>
      refine ok_if true rfl rfl hz ?_
      exact yes
    | false =>
      refine ok_if false rfl rfl hz ?_
      obtain ⟨dv, uv, v1, v2⟩ := hI_a I' (show tb_G 207 = some (.inr (0, 400, 1, [.inl ((-2147483648), 2147483647)])) from rfl)
      obtain ⟨y, y1, -⟩ := any_el I' (a := 207) rfl v1 (show 0 < 400 by decide)
      refine ok_an rfl h0 rfl ?_
      refine ok_gf rfl rfl M1 r28 ?_
      refine ok_p rfl rfl rfl ?_
      refine ok_al rfl v1 (ix_of (x := Int32.ofInt 0) (j := 0) (by decide) (by decide)) y1 ?_
      refine ok_p rfl rfl rfl ?_
      cases hy : ea_ck .ne y (Int32.ofInt 1) with
      | true =>
        refine ok_ic true rfl rfl hy ?_
        refine ok_p rfl rfl rfl ?_
        exact ok_r rfl rfl rfl rfl rfl (hK C' _ I' F' (Or.inl rfl))
      | false =>
        refine ok_ic false rfl rfl hy ?_
        exact yes
  | succ n IH =>
    intro i t dd tv iv cl C' hn ht hd htv hiv hl I' F'
    have hl' := hl
    obtain ⟨h0, h1, h2, h3, h4, h5, h6⟩ := hl
    have M1 : ea_nt C' 190 = some (.inr (12, ms)) := by rw [F' 190 (by decide)]; exact m1
    have A1 : ea_nt C' 201 = some (.inl (0, 48, da, ua)) := by rw [F' 201 (by decide)]; exact a1
    have B1 : ea_nt C' 202 = some (.inl (0, 800, db, ub)) := by rw [F' 202 (by decide)]; exact b1
    obtain ⟨dv, uv, v1, v2⟩ := hI_a I' (show tb_G 207 = some (.inr (0, 400, 1, [.inl ((-2147483648), 2147483647)])) from rfl)
    obtain ⟨s, s1, s2⟩ := any_el hI (a := 202) rfl b1 (show 2 * i < 800 by omega)
    obtain ⟨w, w1, -⟩ := any_el hI (a := 202) rfl b1 (show 2 * i + 1 < 800 by omega)
    have i2i : (Int32.ofInt 2 * iv).toInt = ((2 * i : Nat) : Int) := by
      rw [i32_mul (by rw [i_2]; omega) (by rw [i_2]; omega), i_2]
      omega
    have i2i1 : (Int32.ofInt 2 * iv + Int32.ofInt 1).toInt = ((2 * i + 1 : Nat) : Int) := by
      rw [i32_add (by rw [i2i, i_1]; omega) (by rw [i2i, i_1]; omega), i2i, i_1]
      omega
    have ii1 : (iv + Int32.ofInt 1).toInt = ((i + 1 : Nat) : Int) := by
      rw [i32_add (by rw [i_1]; omega) (by rw [i_1]; omega), i_1]
      omega
    have next : ∀ (t' dd' : Nat) (tv' y : Int32) (j : Nat) (cl' : List (Nat × AV)), t' ≤ i + 1 → rf_d (rf_v C 202) (i + 1) n t' = some dd' → tv'.toInt = (t' : Int) → of_L cl' k m c day tv' iv → ok_ (tb_P X) 246 268 cl' [] (C'.set 207 (.inl (0, 400, dv, (j, .inl (.inl y)) :: uv))) K := by
      intro t' dd' tv' y j cl' ht' hd' htv' hl2
      refine ok_ii rfl (show 6 < 11 by decide) hl2.2.2.2.2.2.2 ?_
      refine ok_p rfl rfl rfl ?_
      exact IH (i + 1) t' dd' tv' (iv + Int32.ofInt 1) _ _ (by omega) ht' hd' htv' ii1 (of_L_6 hl2 _) (xI_207 I' v1) (fun x hx => by rw [nt_set_ne (fun h => hx h.symm)]; exact F' x hx)
    refine ok_il rfl h6 ?_
    refine ok_an rfl h0 rfl ?_
    refine ok_gf rfl rfl M1 r13 ?_
    refine ok_p rfl rfl rfl ?_
    refine ok_in rfl h1 ?_
    refine ok_p rfl rfl rfl ?_
    refine ok_p rfl rfl rfl ?_
    refine ok_p rfl rfl rfl ?_
    refine ok_al rfl A1 (ix_of i4k3 (by omega)) e1 ?_
    have hq : ea_ck .ge iv ev = false := by
      show decide (ev ≤ iv) = false
      rw [decide_eq_false_iff_not, Int32.le_iff_toInt_le]
      omega
    refine ok_ic false rfl rfl hq ?_
    refine ok_an rfl h0 rfl ?_
    refine ok_gf rfl rfl M1 r14 ?_
    refine ok_p rfl rfl rfl ?_
    refine ok_il rfl h6 ?_
    refine ok_p rfl rfl rfl ?_
    refine ok_al rfl B1 (ix_of i2i (by omega)) s1 ?_
    refine ok_p rfl rfl rfl ?_
    have hl7 := of_L_7 hl' (j := 7) (by decide) (.inl (.inl s))
    have g7 := lk_s1 cl 7 (.inl (.inl s))
    revert hl7 g7
    generalize ea_s1 cl 7 (.inl (.inl s)) = cl7
    intro hl7 g7
    have hl7' := hl7
    obtain ⟨h0, h1, h2, h3, h4, h5, h6⟩ := hl7
    refine ok_il rfl g7 ?_
    refine ok_p rfl rfl rfl ?_
    rw [rf_d, s2] at hd
    cases hg : ea_ck .gt s (Int32.ofInt 5) with
    | false =>
      have hs : ¬ Int32.ofInt 5 < s := of_decide_eq_false hg
      rw [Int32.lt_iff_toInt_lt, i_5] at hs
      rw [if_pos (by omega)] at hd
      refine ok_ic false rfl rfl hg ?_
      refine ok_an rfl h0 rfl ?_
      refine ok_gf rfl rfl M1 r28 ?_
      refine ok_il rfl h5 ?_
      refine ok_an rfl h0 rfl ?_
      refine ok_il rfl g7 ?_
      refine ok_an rfl h0 rfl ?_
      refine ok_gf rfl rfl M1 r14 ?_
      refine ok_p rfl rfl rfl ?_
      refine ok_il rfl h6 ?_
      refine ok_p rfl rfl rfl ?_
      refine ok_p rfl rfl rfl ?_
      refine ok_p rfl rfl rfl ?_
      refine ok_al rfl B1 (ix_of i2i1 (by omega)) w1 ?_
      refine ok_in rfl h2 ?_
      refine ok_p rfl rfl rfl ?_
      refine ok_p rfl rfl rfl ?_
      refine ok_in rfl h3 ?_
      refine ok_il rfl h4 ?_
      refine ok_cx (c := fo_c) (fo_ok X 0) (as := [.inl (.inl s), .inl (.inl w), .inl (.inl (m - m / (Int8.ofInt 8).toInt32 * (Int8.ofInt 8).toInt32)), .inl (.inl c), .inl (.inl day)]) (T := [.inl (.inl tv), .inr (.inl (some 207))]) (EV := []) rfl rfl M1 rfl rfl rfl ⟨rfl, ⟨_, rfl, Int32.le_toInt _, Int.le_of_lt_add_one (Int32.toInt_lt _)⟩, ⟨_, rfl, Int32.le_toInt _, Int.le_of_lt_add_one (Int32.toInt_lt _)⟩, ⟨_, rfl, Int32.le_toInt _, Int.le_of_lt_add_one (Int32.toInt_lt _)⟩, ⟨_, rfl, c1, c2⟩, ⟨_, rfl, Int32.le_toInt _, Int.le_of_lt_add_one (Int32.toInt_lt _)⟩, trivial⟩ I' trivial (fun q hq => nomatch hq) (fun z C2 I2 F2 rv P2 => ?_)
      obtain rfl := nt_ext (fun b => F2.1 b rfl)
      obtain ⟨y, rfl, -, -⟩ := rv
      show ok_ (tb_P X) 246 91 _ [.inl (.inl y), .inl (.inl tv), .inr (.inl (some 207))] C2 K
      refine ok_as rfl v1 (ix_of htv (by omega)) ?_
      refine ok_ii rfl (show 5 < 11 by decide) h5 ?_
      refine ok_p rfl rfl rfl ?_
      exact next (t + 1) dd (tv + Int32.ofInt 1) y t _ (by omega) hd (by rw [i32_add (by rw [i_1]; omega) (by rw [i_1]; omega), i_1]; omega) (of_L_5 hl7' _)
    | true =>
      have hs : Int32.ofInt 5 < s := of_decide_eq_true hg
      rw [Int32.lt_iff_toInt_lt, i_5] at hs
      rw [if_neg (by omega)] at hd
      refine ok_ic true rfl rfl hg ?_
      refine ok_il rfl g7 ?_
      refine ok_p rfl rfl rfl ?_
      cases h9 : ea_ck .ne s (Int8.ofInt 9).toInt32 with
      | false =>
        have hs9 : s.toInt = 9 := by
          have h1 : (!decide (s = (Int8.ofInt 9).toInt32)) = false := h9
          rw [Bool.not_eq_false', decide_eq_true_eq] at h1
          rw [h1, b_9]
        rw [if_pos hs9] at hd
        split at hd
        · rename_i ht1
          have t1 : (tv - Int32.ofInt 1).toInt = ((t - 1 : Nat) : Int) := by
            rw [i32_sub (by rw [i_1]; omega) (by rw [i_1]; omega), i_1]
            omega
          obtain ⟨y, y1, -⟩ := any_el I' (a := 207) rfl v1 (show t - 1 < 400 by omega)
          refine ok_ic false rfl rfl h9 ?_
          refine ok_an rfl h0 rfl ?_
          refine ok_gf rfl rfl M1 r28 ?_
          refine ok_il rfl h5 ?_
          refine ok_p rfl rfl rfl ?_
          refine ok_p rfl rfl rfl ?_
          refine ok_p rfl rfl rfl ?_
          refine ok_an rfl h0 rfl ?_
          refine ok_gf rfl rfl M1 r28 ?_
          refine ok_il rfl h5 ?_
          refine ok_p rfl rfl rfl ?_
          refine ok_p rfl rfl rfl ?_
          refine ok_al rfl v1 (ix_of t1 (by omega)) y1 ?_
          refine ok_p rfl rfl rfl ?_
          refine ok_as (y := Int32.ofInt 1 - y) rfl v1 (ix_of t1 (by omega)) ?_
          refine ok_p rfl rfl rfl ?_
          exact next t dd tv _ _ _ (by omega) hd htv hl7'
        · cases hd
      | true =>
        have hs9 : s.toInt ≠ 9 := by
          have h1 : (!decide (s = (Int8.ofInt 9).toInt32)) = true := h9
          rw [Bool.not_eq_true', decide_eq_false_iff_not] at h1
          exact fun h => h1 (Int32.toInt_inj.mp (by rw [h, b_9]))
        rw [if_neg hs9] at hd
        split at hd
        · rename_i ht2
          have t1 : (tv + Int32.ofInt (-1)).toInt = ((t - 1 : Nat) : Int) := by
            rw [i32_add (by rw [i_m1]; omega) (by rw [i_m1]; omega), i_m1]
            omega
          have t2 : (tv + Int32.ofInt (-1) - Int32.ofInt 1).toInt = ((t - 2 : Nat) : Int) := by
            rw [i32_sub (by rw [t1, i_1]; omega) (by rw [t1, i_1]; omega), t1, i_1]
            omega
          obtain ⟨a, ya, -⟩ := any_el I' (a := 207) rfl v1 (show t - 2 < 400 by omega)
          obtain ⟨b, yb, -⟩ := any_el I' (a := 207) rfl v1 (show t - 1 < 400 by omega)
          refine ok_ic true rfl rfl h9 ?_
          refine ok_ii rfl (show 5 < 11 by decide) h5 ?_
          have hl5 := of_L_5 hl7' (tv + Int32.ofInt (-1))
          have g7' := lk_s1_n1 (i := 5) (a := .inl (.inl (tv + Int32.ofInt (-1)))) g7 rfl (by decide)
          revert hl5 g7'
          generalize ea_s1 cl7 5 (.inl (.inl (tv + Int32.ofInt (-1)))) = cl5
          intro hl5 g7'
          obtain ⟨h0, h1, h2, h3, h4, h5, h6⟩ := id hl5
          refine ok_an rfl h0 rfl ?_
          refine ok_gf rfl rfl M1 r28 ?_
          refine ok_il rfl h5 ?_
          refine ok_p rfl rfl rfl ?_
          refine ok_p rfl rfl rfl ?_
          refine ok_al rfl v1 (ix_of t2 (by omega)) ya ?_
          refine ok_p rfl rfl rfl ?_
          have hl8 := of_L_7 hl5 (j := 8) (by decide) (.inl (.inl a))
          have k7 := lk_s1_n1 (i := 8) (a := .inl (.inl a)) g7' rfl (by decide)
          have k8 := lk_s1 cl5 8 (.inl (.inl a))
          revert hl8 k7 k8
          generalize ea_s1 cl5 8 (.inl (.inl a)) = cl8
          intro hl8 k7 k8
          obtain ⟨h0, h1, h2, h3, h4, h5, h6⟩ := id hl8
          refine ok_an rfl h0 rfl ?_
          refine ok_gf rfl rfl M1 r28 ?_
          refine ok_il rfl h5 ?_
          refine ok_al rfl v1 (ix_of t1 (by omega)) yb ?_
          refine ok_p rfl rfl rfl ?_
          have hl9 := of_L_7 hl8 (j := 9) (by decide) (.inl (.inl b))
          have j7 := lk_s1_n1 (i := 9) (a := .inl (.inl b)) k7 rfl (by decide)
          have j8 := lk_s1_n1 (i := 9) (a := .inl (.inl b)) k8 rfl (by decide)
          have j9 := lk_s1 cl8 9 (.inl (.inl b))
          revert hl9 j7 j8 j9
          generalize ea_s1 cl8 9 (.inl (.inl b)) = cl9
          intro hl9 j7 j8 j9
          have last : ∀ y : Int32, (y = Int32.ofInt 0 ∨ y = Int32.ofInt 1) → ok_ (tb_P X) 246 232 cl9 [.inl (.inl y)] C' K := by
            intro y hy
            refine ok_p rfl rfl rfl ?_
            have hl10 := of_L_7 hl9 (j := 10) (by decide) (.inl (.inl y))
            have f7 := lk_s1_n1 (i := 10) (a := .inl (.inl y)) j7 rfl (by decide)
            have f8 := lk_s1_n1 (i := 10) (a := .inl (.inl y)) j8 rfl (by decide)
            have f9 := lk_s1_n1 (i := 10) (a := .inl (.inl y)) j9 rfl (by decide)
            have f10 := lk_s1 cl9 10 (.inl (.inl y))
            revert hl10 f7 f8 f9 f10
            generalize ea_s1 cl9 10 (.inl (.inl y)) = cl10
            intro hl10 f7 f8 f9 f10
            obtain ⟨h0, h1, h2, h3, h4, h5, h6⟩ := id hl10
            refine ok_an rfl h0 rfl ?_
            refine ok_gf rfl rfl M1 r28 ?_
            refine ok_il rfl h5 ?_
            refine ok_p rfl rfl rfl ?_
            refine ok_p rfl rfl rfl ?_
            refine ok_il rfl f7 ?_
            refine ok_p rfl rfl rfl ?_
            cases ha : ea_ck .ne s (Int8.ofInt 6).toInt32 with
            | false =>
              refine ok_ic false rfl rfl ha ?_
              refine ok_il rfl f8 ?_
              refine ok_il rfl f9 ?_
              refine ok_p rfl rfl rfl ?_
              refine ok_p rfl rfl rfl ?_
              refine ok_as (y := a + b) rfl v1 (ix_of t2 (by omega)) ?_
              exact next (t - 1) dd _ _ _ _ (by omega) hd t1 hl10
            | true =>
              refine ok_ic true rfl rfl ha ?_
              refine ok_il rfl f10 ?_
              rcases hy with rfl | rfl
              · refine ok_p rfl rfl rfl ?_
                refine ok_p rfl rfl rfl ?_
                refine ok_as (y := Int32.ofInt 0) rfl v1 (ix_of t2 (by omega)) ?_
                exact next (t - 1) dd _ _ _ _ (by omega) hd t1 hl10
              · refine ok_p rfl rfl rfl ?_
                refine ok_p rfl rfl rfl ?_
                refine ok_p rfl rfl rfl ?_
                refine ok_as (y := Int32.ofInt 1) rfl v1 (ix_of t2 (by omega)) ?_
                exact next (t - 1) dd _ _ _ _ (by omega) hd t1 hl10
          refine ok_il rfl j7 ?_
          refine ok_p rfl rfl rfl ?_
          cases e7 : ea_ck .ne s (Int8.ofInt 7).toInt32 with
          | false =>
            refine ok_ic false rfl rfl e7 ?_
            refine ok_il rfl j8 ?_
            refine ok_il rfl j9 ?_
            cases hc : ea_ck .ge a b with
            | true =>
              refine ok_ic true rfl rfl hc ?_
              refine ok_p rfl rfl rfl ?_
              refine ok_p rfl rfl rfl ?_
              exact last _ (Or.inl rfl)
            | false =>
              refine ok_ic false rfl rfl hc ?_
              refine ok_p rfl rfl rfl ?_
              refine ok_p rfl rfl rfl ?_
              exact last _ (Or.inr rfl)
          | true =>
            refine ok_ic true rfl rfl e7 ?_
            refine ok_il rfl j7 ?_
            refine ok_p rfl rfl rfl ?_
            cases e8 : ea_ck .ne s (Int8.ofInt 8).toInt32 with
            | false =>
              refine ok_ic false rfl rfl e8 ?_
              refine ok_il rfl j8 ?_
              refine ok_il rfl j9 ?_
              cases hc : ea_ck .le a b with
              | true =>
                refine ok_ic true rfl rfl hc ?_
                refine ok_p rfl rfl rfl ?_
                refine ok_p rfl rfl rfl ?_
                exact last _ (Or.inl rfl)
              | false =>
                refine ok_ic false rfl rfl hc ?_
                refine ok_p rfl rfl rfl ?_
                refine ok_p rfl rfl rfl ?_
                exact last _ (Or.inr rfl)
            | true =>
              refine ok_ic true rfl rfl e8 ?_
              refine ok_il rfl j7 ?_
              refine ok_p rfl rfl rfl ?_
              cases e10 : ea_ck .ne s (Int8.ofInt 10).toInt32 with
              | false =>
                refine ok_ic false rfl rfl e10 ?_
                refine ok_il rfl j8 ?_
                refine ok_il rfl j9 ?_
                refine ok_p rfl rfl rfl ?_
                refine ok_p rfl rfl rfl ?_
                cases hc : ea_ck .ne (a + b) (Int32.ofInt 2) with
                | true =>
                  refine ok_ic true rfl rfl hc ?_
                  refine ok_p rfl rfl rfl ?_
                  refine ok_p rfl rfl rfl ?_
                  exact last _ (Or.inl rfl)
                | false =>
                  refine ok_ic false rfl rfl hc ?_
                  refine ok_p rfl rfl rfl ?_
                  refine ok_p rfl rfl rfl ?_
                  exact last _ (Or.inr rfl)
              | true =>
                refine ok_ic true rfl rfl e10 ?_
                refine ok_il rfl j8 ?_
                refine ok_il rfl j9 ?_
                refine ok_p rfl rfl rfl ?_
                cases hc : ea_ck .le (a + b) 0 with
                | true =>
                  refine ok_if true rfl rfl hc ?_
                  refine ok_p rfl rfl rfl ?_
                  exact last _ (Or.inl rfl)
                | false =>
                  refine ok_if false rfl rfl hc ?_
                  refine ok_p rfl rfl rfl ?_
                  refine ok_p rfl rfl rfl ?_
                  exact last _ (Or.inr rfl)
        · cases hd
end ISOF
theorem jj_of {u : Nat} {C : List AC} {z : Int} (h : pv (rf_G u) C 1001 0 z) (h1 : 1 ≤ z) (h2 : z ≤ 1) : rf_cls C 201 202 := rf_b_of (p := rf_cls C 201 202) (by
  have h3 : rf_G u 1001 C = z := h
  have h4 : rf_G u 1001 C = rf_b (rf_cls C 201 202) := rfl
  omega)
set_option maxRecDepth 20000 in
set_option maxHeartbeats 2000000 in
theorem tr_h106 (X : Option (List AI)) (u : Nat) : cx_ok (tb_P X) tb_G (rf_G u) trk_106 := by
  intro vs C EV hvs hI hpre hrel
  obtain ⟨v0, t0, rfl, h0, hvs1⟩ := ea_rl_cons hvs
  obtain ⟨v1, t1, rfl, ⟨k, rfl, k1, k2⟩, hvs2⟩ := ea_rl_cons hvs1
  obtain ⟨v2, t2, rfl, ⟨m, rfl, -, -⟩, hvs3⟩ := ea_rl_cons hvs2
  obtain ⟨v3, t3, rfl, ⟨c, rfl, c1, c2⟩, hvs4⟩ := ea_rl_cons hvs3
  obtain ⟨v4, t4, rfl, ⟨day, rfl, -, -⟩, hvs5⟩ := ea_rl_cons hvs4
  obtain rfl := ea_rl_nil hvs5
  obtain rfl : v0 = .inr (.inl (some 190)) := h0
  obtain ⟨zN, E1, rfl, ⟨pN, q1, q2⟩, hp2⟩ := ea_rl_cons hpre
  obtain ⟨zJ, E2, rfl, ⟨pJ, q3, q4⟩, hp3⟩ := ea_rl_cons hp2
  obtain rfl := ea_rl_nil hp3
  dsimp only at k1 k2 c1 c2 q1 q2 q3 q4
  have hJ := jj_of pJ q3 q4
  have hr := rl_z hrel (.head _) (z1 := k.toInt) (z2 := zN) ⟨k, rfl, rfl⟩ rfl
  have hN : rf_v C 190 15 = zN := rf_v_pv (a := 190) (by decide) pN
  obtain ⟨i, n, dd, j1, j2, j3, j4⟩ := hJ.2 k.toInt.toNat (by omega) (by omega)
  obtain ⟨ms, m1, m2, m3⟩ := hI_f hI (show tb_G 190 = some (.inl (12, _)) from rfl)
  obtain ⟨_, r13, rfl⟩ := m3 13 (.inr 201) rfl
  obtain ⟨da, ua, a1, a2⟩ := hI_a hI (show tb_G 201 = some (.inr (0, 48, 1, [.inl ((-2147483648), 2147483647)])) from rfl)
  have i4k : (Int32.ofInt 4 * k).toInt = ((4 * k.toInt.toNat : Nat) : Int) := by
    rw [i32_mul (by rw [i_4]; omega) (by rw [i_4]; omega), i_4]
    omega
  have i4k2 : (Int32.ofInt 4 * k + Int32.ofInt 2).toInt = ((4 * k.toInt.toNat + 2 : Nat) : Int) := by
    rw [i32_add (by rw [i4k, i_2]; omega) (by rw [i4k, i_2]; omega), i4k, i_2]
    omega
  obtain ⟨bv, b1, b2⟩ := any_el hI (a := 201) rfl a1 (show 4 * k.toInt.toNat + 2 < 48 by omega)
  rw [j1] at b2
  have fin : ∀ (C' : List AC) (y : Int32), xI tb_G C' → (∀ x, x ≠ 207 → ea_nt C' x = ea_nt C x) → (y = Int32.ofInt 0 ∨ y = Int32.ofInt 1) → cx_post (rf_G u) tb_G trk_106 [zN, zJ] C (.inl (some (.inl (.inl y)))) C' := by
    intro C' y I' F' hy
    have hF : fr_c (rf_G u) trk_106.1.2.2.1 C C' := by
      refine ⟨fun b hb => F' b ?_, fun g hk hm => rf_gs u g C C' (fun a i hq => cv_eq (F' a ?_) i)⟩
      · rintro rfl
        exact absurd hb (by decide)
      · obtain ⟨q, w1, w2, w3, -⟩ := hq
        rintro rfl
        exact absurd w3 ((show ∀ q ∈ tr_gs, q.2.1 ≠ 207 by decide) q w1)
    rcases hy with rfl | rfl
    · exact ⟨_, rfl, I', hF, ⟨_, rfl, by decide, by decide⟩, po_n rfl rfl⟩
    · exact ⟨_, rfl, I', hF, ⟨_, rfl, by decide, by decide⟩, po_n rfl rfl⟩
  refine ok_p rfl rfl rfl ?_
  refine ok_p rfl rfl rfl ?_
  refine ok_cx (c := do_c) (do_ok X u) (as := [.inl (.inl k)]) (T := []) (EV := []) rfl rfl m1 rfl rfl rfl ⟨rfl, ⟨_, rfl, k1, k2⟩, trivial⟩ hI trivial (fun q hq => nomatch hq) (fun w C2 I2 F2 rv P2 => ?_)
  obtain rfl := nt_ext (fun b => F2.1 b rfl)
  obtain ⟨y, rfl, -, -⟩ := rv
  show ok_ (tb_P X) 246 5 _ [.inl (.inl y)] C2 _
  refine ok_p rfl rfl rfl ?_
  refine ok_p rfl rfl rfl ?_
  refine ok_p rfl rfl rfl ?_
  cases hq : ea_ck .eq y (m / (Int8.ofInt 8).toInt32) with
  | false =>
    refine ok_ic false rfl rfl hq ?_
    refine ok_p rfl rfl rfl ?_
    exact ok_r rfl rfl rfl rfl rfl (fin C2 _ I2 (fun _ _ => rfl) (Or.inl rfl))
  | true =>
    refine ok_ic true rfl rfl hq ?_
    refine ok_p rfl rfl rfl ?_
    refine ok_p rfl rfl rfl ?_
    refine ok_p rfl rfl rfl ?_
    refine ok_gf rfl rfl m1 r13 ?_
    refine ok_p rfl rfl rfl ?_
    refine ok_p rfl rfl rfl ?_
    refine ok_p rfl rfl rfl ?_
    refine ok_p rfl rfl rfl ?_
    refine ok_p rfl rfl rfl ?_
    refine ok_al rfl a1 (ix_of i4k2 (by omega)) b1 ?_
    refine ok_p rfl rfl rfl ?_
    exact iof_loop X I2 k1 k2 c1 c2 (E := i + n) j2 j3 fin n i 0 dd (Int32.ofInt 0) bv _ C2 rfl (by omega) j4 (by decide) (by omega) ⟨rfl, rfl, rfl, rfl, rfl, rfl, rfl⟩ I2 (fun _ _ => rfl)
