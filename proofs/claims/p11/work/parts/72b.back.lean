/-! THE LAW: back, whose answer is whether an image was kept -/
section CLS3
variable (X : Option (List AI))
/-- back of the class -/
theorem cm_back {C : List AC} (hI : xI tb_G C) : ok_ (tb_P X) 176 0 (ea_ar 0 [.inr (.inl (some 0))]) [] C (fun o C' => ∃ y : Int32, o = .inl (some (.inl (.inl y))) ∧ ((rf_v C 0 14 = 0 ∧ y = Int32.ofInt 0) ∨ (rf_v C 0 14 ≠ 0 ∧ y = Int32.ofInt 1)) ∧ cm_P (rf_v C 1 1) (rf_v C 0 14) C C') := by
  obtain ⟨xs, x1, x2, x3⟩ := hI_f hI (show tb_G 0 = some (.inl (11, _)) from rfl)
  have hlen : xs.length = 16 := x2
  obtain ⟨_, q2, rfl⟩ := x3 2 (.inr 8) rfl
  obtain ⟨_, q4, rfl⟩ := x3 4 (.inr 18) rfl
  obtain ⟨_, q8, rfl⟩ := x3 8 (.inr 44) rfl
  obtain ⟨_, q12, rfl⟩ := x3 12 (.inr 173) rfl
  obtain ⟨_, q13, rfl⟩ := x3 13 (.inr 178) rfl
  obtain ⟨_, q14, im, rfl, -, -⟩ := x3 14 (.inl (0, 1)) rfl
  have him : rf_v C 0 14 = im.toInt := rf_f x1 q14
  refine ok_p rfl rfl rfl ?_
  refine ok_gf rfl rfl x1 q14 ?_
  cases hb : ea_ck .ne im 0 with
  | false =>
    have e0 : im = 0 := by
      have h1 : (!decide (im = 0)) = false := hb
      simpa using h1
    refine ok_if false rfl rfl hb ?_
    refine ok_p rfl rfl rfl ?_
    exact ok_r rfl rfl rfl rfl rfl ⟨_, rfl, Or.inl ⟨by rw [him, e0]; rfl, rfl⟩, hI, fun b hb => rfl, rfl, rfl⟩
  | true =>
    have e0 : im ≠ 0 := by
      have h1 : (!decide (im = 0)) = true := hb
      simpa using h1
    have e1 : rf_v C 0 14 ≠ 0 := by
      rw [him]
      intro h
      exact e0 (Int32.toInt_inj.mp h)
    refine ok_if true rfl rfl hb ?_
    obtain ⟨ys, y1, -, -⟩ := hI_f hI (show tb_G 8 = some (.inl (1, _)) from rfl)
    refine ok_p rfl rfl rfl ?_
    refine ok_gf rfl rfl x1 q2 ?_
    refine ok_p rfl rfl rfl ?_
    refine ok_gf rfl rfl x1 q12 ?_
    refine ok_cn (tk_yes X 26 (by decide)) (as := [.inr (.inl (some 173))]) (T := []) rfl rfl y1 rfl rfl rfl ⟨rfl, rfl, trivial⟩ hI rfl (fun w C1 I1 F1 rv => ?_) (fun ce C' h => nomatch h)
    obtain rfl : w = none := rv
    show ok_ (tb_P X) 176 20 _ [] C1 _
    have X1 : ea_nt C1 0 = some (.inr (11, xs)) := by rw [F1 0 rfl]; exact x1
    obtain ⟨zs, z1, -, -⟩ := hI_f I1 (show tb_G 18 = some (.inl (10, _)) from rfl)
    refine ok_p rfl rfl rfl ?_
    refine ok_gf rfl rfl X1 q4 ?_
    refine ok_p rfl rfl rfl ?_
    refine ok_gf rfl rfl X1 q13 ?_
    refine ok_cn (tk_yes X 125 (by decide)) (as := [.inr (.inl (some 178))]) (T := []) rfl rfl z1 rfl rfl rfl ⟨rfl, rfl, trivial⟩ I1 rfl (fun w C2 I2 F2 rv => ?_) (fun ce C' h => nomatch h)
    obtain rfl : w = none := rv
    show ok_ (tb_P X) 176 31 _ [] C2 _
    have X2 : ea_nt C2 0 = some (.inr (11, xs)) := by rw [F2 0 rfl]; exact X1
    obtain ⟨fs, f1, f2, -⟩ := hI_f I2 (show tb_G 44 = some (.inl (4, _)) from rfl)
    have hlf : fs.length = 3 := f2
    refine ok_p rfl rfl rfl ?_
    refine ok_gf rfl rfl X2 q8 ?_
    refine ok_cv (mj := 54) (as := []) (T := []) rfl rfl f1 rfl rfl rfl ?_
    refine ok_p rfl rfl rfl ?_
    refine ok_p rfl rfl rfl ?_
    refine ok_pf (v := .inl (.inl (Int32.ofInt 0))) rfl rfl f1 rfl (by rw [hlf]; rfl) ?_
    have I3 := xI_sf I2 (show tb_G 44 = some (.inl (4, _)) from rfl) f1 (k := 2) (v := .inl (.inl (Int32.ofInt 0))) rfl ⟨_, rfl, by decide, by decide⟩
    refine ok_r rfl rfl rfl rfl rfl ?_
    show ok_ (tb_P X) 176 38 _ [] _ _
    refine ok_p rfl rfl rfl ?_
    refine ok_r rfl rfl rfl rfl rfl ⟨_, rfl, Or.inr ⟨e1, rfl⟩, I3, fun b hb => ?_, ?_, ?_⟩
    · rw [nt_set_ne (by omega), F2 b (xm_hi (M := [(18, 30)]) hb (by decide)), F1 b (xm_hi (M := [(8, 13)]) hb (by decide))]
    · rw [rf_fa f1 (fun h => absurd h (by decide)), rf_v_eq (cv_eq (F2 1 rfl) 1), rf_v_eq (cv_eq (F1 1 rfl) 1)]
    · rw [rf_fa f1 (fun h => absurd h (by decide)), rf_v_eq (cv_eq (F2 0 rfl) 14), rf_v_eq (cv_eq (F1 0 rfl) 14)]
end CLS3
section RM3
variable (X : Option (List AI)) {sz im T H : Int} {C : List AC}
/-- back of the reference -/
theorem rm_back (hS : lt_S sz im T H C) : ok_ (tb_P X) 194 0 (ea_ar 0 [.inr (.inl (some 190))]) [] C (fun o C' => ∃ y : Int32, o = .inl (some (.inl (.inl y))) ∧ ((H = 0 ∧ y = Int32.ofInt 0) ∨ (H ≠ 0 ∧ y = Int32.ofInt 1)) ∧ lt_S sz im T H C') := by
  have e1 : pv (rf_G 0) C 999 0 1 := rf_b_1 hS.2.1
  have e2 : pv (rf_G 0) C 1001 0 1 := rf_b_1 hS.2.2.1
  obtain ⟨ms, m1, m2, m3⟩ := hI_f hS.1 (show tb_G 190 = some (.inl (12, _)) from rfl)
  have hlen : ms.length = 38 := m2
  refine ok_p rfl rfl rfl ?_
  refine ok_p rfl rfl rfl ?_
  refine ok_pf (v := .inl (.inl (Int32.ofInt 0))) rfl rfl m1 rfl (by rw [hlen]; rfl) ?_
  have S1 : lt_S sz im T H (C.set 190 (.inr (12, ms.set 0 (.inl (.inl (Int32.ofInt 0)))))) := by
    obtain ⟨a, b, c, d, e⟩ := lt_f hS m1 (k := 0) (v := .inl (.inl (Int32.ofInt 0))) (xI_sf hS.1 (show tb_G 190 = some (.inl (12, _)) from rfl) m1 (f := .inl (-2147483648, 2147483647)) rfl ⟨_, rfl, by decide, by decide⟩) (by decide)
    exact ⟨a, b, c, d, e, by rw [rf_fs m1 (by decide)]; exact hS.2.2.2.2.2.1, by rw [rf_fs m1 (by decide)]; exact hS.2.2.2.2.2.2⟩
  revert S1
  generalize C.set 190 (.inr (12, ms.set 0 (.inl (.inl (Int32.ofInt 0))))) = C1
  intro S1
  obtain ⟨s1, n1, n2, n3⟩ := hI_f S1.1 (show tb_G 190 = some (.inl (12, _)) from rfl)
  obtain ⟨_, r1, rfl⟩ := n3 1 (.inr 191) rfl
  obtain ⟨_, r2, rfl⟩ := n3 2 (.inr 192) rfl
  obtain ⟨_, r6, rfl⟩ := n3 6 (.inr 196) rfl
  obtain ⟨_, r7, rfl⟩ := n3 7 (.inr 197) rfl
  obtain ⟨_, r11, hh, rfl, -, -⟩ := n3 11 (.inl (0, 1)) rfl
  have hH : hh.toInt = H := by rw [← rf_f n1 r11]; exact S1.2.2.2.2.2.2
  have z0 : at_g (.inl (0, 0)) (.inl (.inl (Int32.ofInt 0))) := ⟨_, rfl, by decide, by decide⟩
  refine ok_p rfl rfl rfl ?_
  refine ok_gf rfl rfl n1 r11 ?_
  cases hb : ea_ck .ne hh 0 with
  | false =>
    have e0 : hh = 0 := by
      have h1 : (!decide (hh = 0)) = false := hb
      simpa using h1
    refine ok_if false rfl rfl hb ?_
    refine ok_p rfl rfl rfl ?_
    exact ok_r rfl rfl rfl rfl rfl ⟨_, rfl, Or.inl ⟨by rw [← hH, e0]; rfl, rfl⟩, S1⟩
  | true =>
  have e0 : hh ≠ 0 := by
    have h1 : (!decide (hh = 0)) = true := hb
    simpa using h1
  have e9 : H ≠ 0 := by
    rw [← hH]
    intro h
    exact e0 (Int32.toInt_inj.mp h)
  refine ok_if true rfl rfl hb ?_
  refine ok_p rfl rfl rfl ?_
  refine ok_gf rfl rfl n1 r2 ?_
  refine ok_p rfl rfl rfl ?_
  refine ok_p rfl rfl rfl ?_
  refine ok_gf rfl rfl n1 r1 ?_
  refine ok_p rfl rfl rfl ?_
  refine ok_cxs (c := trk_6) (show cx_ok (tb_P X) tb_G (rf_G 0) trk_6 from tr_yes X 6 (by decide) 0) (as := [.inr (.inl (some 192)), .inl (.inl (Int32.ofInt 0)), .inr (.inl (some 191)), .inl (.inl (Int32.ofInt 0))]) (T := []) (EV := [1, 1]) rfl rfl rfl rfl ⟨rfl, z0, rfl, z0, trivial⟩ S1.1 ⟨⟨rf_b_1 S1.2.1, by decide, by decide⟩, ⟨rf_b_1 S1.2.2.1, by decide, by decide⟩, trivial⟩ (fun q hq => nomatch hq) (fun w C2 I2 F2 rv P2 => ?_)
  obtain rfl : w = none := rv
  have W2 := rm_of (t := []) P2 rfl
  have N2 : ea_nt C2 190 = some (.inr (12, s1)) := by rw [F2.1 190 rfl]; exact n1
  show ok_ (tb_P X) 194 27 _ [] C2 _
  refine ok_p rfl rfl rfl ?_
  refine ok_gf rfl rfl N2 r7 ?_
  refine ok_p rfl rfl rfl ?_
  refine ok_p rfl rfl rfl ?_
  refine ok_gf rfl rfl N2 r6 ?_
  refine ok_p rfl rfl rfl ?_
  refine ok_cxs (c := trk_51) (show cx_ok (tb_P X) tb_G (rf_G 0) trk_51 from tr_yes X 51 (by decide) 0) (as := [.inr (.inl (some 197)), .inl (.inl (Int32.ofInt 0)), .inr (.inl (some 196)), .inl (.inl (Int32.ofInt 0))]) (T := []) (EV := [1, 1]) rfl rfl rfl rfl ⟨rfl, z0, rfl, z0, trivial⟩ I2 ⟨⟨W2.1, by decide, by decide⟩, ⟨W2.2.1, by decide, by decide⟩, trivial⟩ (fun q hq => nomatch hq) (fun w C3 I3 F3 rv P3 => ?_)
  obtain rfl : w = none := rv
  have W3 := rm_of (t := []) P3 rfl
  show ok_ (tb_P X) 194 40 _ [] C3 _
  refine tr_m1 X 0 [(0, .inr (.inl (some 190)))] [] C3 [1, 1] _ (fun q hq => ?_) I3 ⟨⟨W3.1, by decide, by decide⟩, ⟨W3.2.1, by decide, by decide⟩, trivial⟩ (fun q hq => nomatch hq) (fun C4 I4 F4 P4 => ?_)
  · rcases List.mem_cons.mp hq with rfl | hq
    · exact ⟨_, rfl, rfl⟩
    · exact nomatch hq
  have W4 := rm_of (t := []) P4 rfl
  obtain ⟨s4, k1, k2, k3⟩ := hI_f I4 (show tb_G 190 = some (.inl (12, _)) from rfl)
  have hlen4 : s4.length = 38 := k2
  have S4 : lt_S sz im T H C4 := by
    refine ⟨I4, rf_G_W W4.1 (by decide) (by decide), jj_of W4.2.1 (by decide) (by decide), ?_, ?_, ?_, ?_⟩
    · rw [rf_v_eq (cv_eq (F4.1 1 rfl) 1), rf_v_eq (cv_eq (F3.1 1 rfl) 1), rf_v_eq (cv_eq (F2.1 1 rfl) 1)]; exact S1.2.2.2.1
    · rw [rf_v_eq (cv_eq (F4.1 0 rfl) 14), rf_v_eq (cv_eq (F3.1 0 rfl) 14), rf_v_eq (cv_eq (F2.1 0 rfl) 14)]; exact S1.2.2.2.2.1
    · have a1 : rf_G 0 1007 C4 = rf_v C4 190 18 := rfl
      have a2 : rf_G 0 1007 C1 = rf_v C1 190 18 := rfl
      rw [← a1, F4.2 1007 (by decide) rfl, F3.2 1007 (by decide) rfl, F2.2 1007 (by decide) rfl, a2]
      exact S1.2.2.2.2.2.1
    · have a1 : rf_G 0 1008 C4 = rf_v C4 190 11 := rfl
      have a2 : rf_G 0 1008 C1 = rf_v C1 190 11 := rfl
      rw [← a1, F4.2 1008 (by decide) rfl, F3.2 1008 (by decide) rfl, F2.2 1008 (by decide) rfl, a2]
      exact S1.2.2.2.2.2.2
  refine ok_p rfl rfl rfl ?_
  refine ok_p rfl rfl rfl ?_
  refine ok_pf (v := .inl (.inl (Int32.ofInt 0))) rfl rfl k1 rfl (by rw [hlen4]; rfl) ?_
  refine ok_p rfl rfl rfl ?_
  refine ok_r rfl rfl rfl rfl rfl ⟨_, rfl, Or.inr ⟨e9, rfl⟩, ?_⟩
  obtain ⟨a, b, c, d, e⟩ := lt_f S4 k1 (k := 12) (v := .inl (.inl (Int32.ofInt 0))) (xI_sf I4 (show tb_G 190 = some (.inl (12, _)) from rfl) k1 (f := .inl (0, 10)) rfl ⟨_, rfl, by decide, by decide⟩) (by decide)
  exact ⟨a, b, c, d, e, by rw [rf_fs k1 (by decide)]; exact S4.2.2.2.2.2.1, by rw [rf_fs k1 (by decide)]; exact S4.2.2.2.2.2.2⟩
end RM3
