section
/-! THE CLASS: the tape's size, whether an image was kept, behind each call -/
def cm_P (sz im : Int) (C C' : List AC) : Prop := xI tb_G C' ∧ (∀ b, 190 ≤ b → ea_nt C' b = ea_nt C b) ∧ rf_v C' 1 1 = sz ∧ rf_v C' 0 14 = im
def en_P (k : Nat) (thr : List Nat) (o : Option AV ⊕ Nat) : Prop := match o with
  | .inl v => match k with
    | 0 => v = none
    | 1 => ∃ y : Int32, v = some (.inl (.inl y))
    | _ + 2 => ∃ y : Int64, v = some (.inr (.inr (.inl (some y))))
  | .inr ce => ce ∈ thr
theorem en_of {c : CN} {o : Option AV ⊕ Nat} (h : cn_end c o) : en_P c.2.2.2.1.1 c.2.2.2.2.1 o := by
  obtain ⟨c1, c2, c3, ⟨k, lo, hi⟩, c5, c6⟩ := c
  cases o with
  | inr ce => exact h
  | inl v =>
    match k, h with
    | 0, h => exact h
    | 1, ⟨x, e, _⟩ => exact ⟨x, e⟩
    | _ + 2, ⟨y, e⟩ => exact ⟨y, e⟩
theorem xm_hi {b k : Nat} (hb : k ≤ b) : ∀ {M : List (Nat × Nat)}, M.all (fun q => Nat.ble q.2 k) = true → xm M b = false
  | [], _ => rfl
  | q :: t, h => by
    simp only [List.all_cons, Bool.and_eq_true] at h
    have h1 := Nat.le_of_ble_eq_true h.1
    unfold xm
    rw [xm_hi hb h.2, Bool.or_false]
    have : Nat.blt b q.2 = false := by
      cases hb2 : Nat.blt b q.2 with
      | false => rfl
      | true => have := blt_lt hb2; omega
    rw [this, Bool.and_false]
section CLS
variable (X : Option (List AI))
/-- a call that leaves tape and image alone -/
theorem cm_norm {c : CN} (hcn : cn_ok (tb_P X) tb_G c) {vs : List AV} {C : List AC} (hv : ea_rl at_g c.2.1 vs) (hI : xI tb_G C) (hF : c.2.2.2.2.2 = []) (h0 : xm c.2.2.1 0 = false) (h1 : xm c.2.2.1 1 = false) (h2 : c.2.2.1.all (fun q => Nat.ble q.2 190) = true) : ok_ (tb_P X) c.1 0 (ea_ar 0 vs) [] C (fun o C' => cm_P (rf_v C 1 1) (rf_v C 0 14) C C' ∧ en_P c.2.2.2.1.1 c.2.2.2.2.1 o) := by
  refine ok_post (hcn vs C hv hI (by rw [hF]; exact fun q hq => nomatch hq)) (fun o C' hq => ?_)
  obtain ⟨o1, o2, o3⟩ := hq
  exact ⟨⟨o1, fun b hb => o2 b (xm_hi hb h2), rf_v_eq (cv_eq (o2 1 h1) 1), rf_v_eq (cv_eq (o2 0 h0) 14)⟩, en_of o3⟩
def fg_c : CX := ((54, [.inr (.inl 44)], [(44, 45)], (0, 0, 0), [], []), [], 0, ([], []), ([], []))
def ad_c : CX := ((84, [.inr (.inl 1), .inl ((-2147483648), 2147483647)], [(1, 3)], (0, 0, 0), [], [(1, 1, 0, 396)]), [], 0, ([], []), ([(1, 1, 4, 400)], [(.inr (.inr (1, 1)), .inr (.inl 0), 4), (.inr (.inl 0), .inr (.inr (1, 1)), (-4))]))
def fe_c : CX := ((131, [.inr (.inl 0), .inl ((-2147483648), 2147483647), .inl ((-2147483648), 2147483647), .inl ((-2147483648), 2147483647), .inl ((-2147483648), 2147483647), .inl ((-2147483648), 2147483647)], [(1, 3)], (1, (-1), 400), [], [(1, 1, 0, 400)]), [], 0, ([(1, 1, 381, 400)], [(.inr (.inr (1, 1)), .inr (.inl 0), 0), (.inr (.inl 0), .inr (.inr (1, 1)), 0)]), ([(1, 1, 20, 400)], [(.inr (.inr (1, 1)), .inr (.inl 0), 20), (.inr (.inl 0), .inr (.inr (1, 1)), (-20)), (.inl 0, .inr (.inl 0), 20), (.inr (.inl 0), .inl 0, (-20))]))
def fe_t (m : Nat) : List CX := bif Nat.beq m 84 then [ad_c] else []
set_option maxRecDepth 100000 in
theorem fg_ck : cx_ck (tb_P none) tb_G tr_gs (fun _ => []) (fun _ _ => none) [] fg_c 400 = true := by decide +kernel
set_option maxRecDepth 100000 in
theorem ad_ck : cx_ck (tb_P none) tb_G tr_gs (fun _ => []) (fun _ _ => none) [] ad_c 1000 = true := by decide +kernel
set_option maxRecDepth 100000 in
theorem fe_ck : cx_ck (tb_P none) tb_G tr_gs fe_t (fun _ _ => none) [] fe_c 1000 = true := by decide +kernel
theorem fg_ok : cx_ok (tb_P X) tb_G (rf_G 0) fg_c := cx_ck_ok tr_G9 (rf_gs 0) no_c no_m (hds := []) (n := 400) (by rw [cx_scr X]; exact fg_ck)
theorem fe_ok : cx_ok (tb_P X) tb_G (rf_G 0) fe_c := cx_ck_ok tr_G9 (rf_gs 0) (fun mj c' hc' => by
  have h : c' ∈ (bif Nat.beq mj 84 then [ad_c] else []) := hc'
  cases hb : Nat.beq mj 84 with
  | true =>
    rw [hb] at h
    rcases List.mem_cons.mp h with rfl | h
    · exact ⟨(Nat.eq_of_beq_eq_true hb).symm, cx_ck_ok tr_G9 (rf_gs 0) no_c no_m (hds := []) (n := 1000) (by rw [cx_scr X]; exact ad_ck)⟩
    · exact nomatch h
  | false => rw [hb] at h; exact nomatch h) no_m (hds := []) (n := 1000) (by rw [cx_scr X]; exact fe_ck)
theorem cm_feed {a b c d e : Int32} {C : List AC} (hI : xI tb_G C) : ok_ (tb_P X) 131 0 (ea_ar 0 [.inr (.inl (some 0)), .inl (.inl a), .inl (.inl b), .inl (.inl c), .inl (.inl d), .inl (.inl e)]) [] C (fun o C' => ∃ y : Int32, o = .inl (some (.inl (.inl y))) ∧ ((rf_v C 1 1 ≤ 380 ∧ y.toInt = rf_v C 1 1 + 20 ∧ cm_P (rf_v C 1 1 + 20) (rf_v C 0 14) C C') ∨ (381 ≤ rf_v C 1 1 ∧ y.toInt = -1 ∧ cm_P (rf_v C 1 1) (rf_v C 0 14) C C'))) := by
  obtain ⟨ts, m1, m2, m3⟩ := hI_f hI (show tb_G 1 = some (.inl (8, [.inr 2, .inl (0, 400)])) from rfl)
  obtain ⟨_, r1, sz, rfl, s1, s2⟩ := m3 1 (.inl (0, 400)) rfl
  have any : ∀ x : Int32, at_g (.inl ((-2147483648), 2147483647)) (.inl (.inl x)) := fun x => ⟨x, rfl, Int32.le_toInt x, Int.le_of_lt_add_one (Int32.toInt_lt x)⟩
  refine ok_post (fe_ok X _ C [sz.toInt] ⟨rfl, any a, any b, any c, any d, any e, trivial⟩ hI ⟨⟨pv_f (a := 1) (by decide) m1 r1, s1, s2⟩, trivial⟩ (fun q hq => nomatch hq)) (fun o C' hq => ?_)
  obtain ⟨v, rfl, I', F', ⟨y, rfl, y1, y2⟩, P'⟩ := hq
  have hs := rf_f m1 r1
  have im : rf_v C' 0 14 = rf_v C 0 14 := rf_v_eq (cv_eq (F'.1 0 rfl) 14)
  have hi : ∀ b, 190 ≤ b → ea_nt C' b = ea_nt C b := fun b hb => F'.1 b (xm_hi hb (by decide))
  refine ⟨y, rfl, ?_⟩
  by_cases hy : y.toInt < 0
  · have e : cx_po fe_c (some (.inl (.inl y))) = fe_c.2.2.2.1 := if_pos hy
    rw [e] at P'
    obtain ⟨⟨NV, hNV⟩, hR⟩ := P'
    obtain ⟨zs, N1, rfl, ⟨zS, zs1, zs2⟩, -⟩ := ea_rl_cons hNV
    have w1 := rl_z hR (.head _) (z1 := zs) (z2 := sz.toInt) zS rfl
    have w2 := rl_z hR (.tail _ (.head _)) (z1 := sz.toInt) (z2 := zs) rfl zS
    have e1 : rf_v C' 1 1 = zs := rf_v_pv (a := 1) (by decide) zS
    dsimp only at zs1
    refine Or.inr ⟨by omega, ?_, I', hi, by omega, im⟩
    have : -1 ≤ y.toInt := y1
    omega
  · have e : cx_po fe_c (some (.inl (.inl y))) = fe_c.2.2.2.2 := if_neg hy
    rw [e] at P'
    obtain ⟨⟨NV, hNV⟩, hR⟩ := P'
    obtain ⟨zs, N1, rfl, ⟨zS, zs1, zs2⟩, -⟩ := ea_rl_cons hNV
    have w1 := rl_z hR (.head _) (z1 := zs) (z2 := sz.toInt) zS rfl
    have w2 := rl_z hR (.tail _ (.head _)) (z1 := sz.toInt) (z2 := zs) rfl zS
    have w3 := rl_z hR (.tail _ (.tail _ (.head _))) (z1 := y.toInt) (z2 := sz.toInt) ⟨y, rfl, rfl⟩ rfl
    have w4 := rl_z hR (.tail _ (.tail _ (.tail _ (.head _)))) (z1 := sz.toInt) (z2 := y.toInt) rfl ⟨y, rfl, rfl⟩
    have e1 : rf_v C' 1 1 = zs := rf_v_pv (a := 1) (by decide) zS
    dsimp only at zs2
    exact Or.inl ⟨by omega, by omega, I', hi, by omega, im⟩
theorem rf_fa {C : List AC} {a ci : Nat} {vs : List AV} (hC : ea_nt C a = some (.inr (ci, vs))) {j b k : Nat} {v : AV} (h : b = a → j ≠ k) : rf_v (C.set a (.inr (ci, vs.set j v))) b k = rf_v C b k := by
  refine rf_v_eq ?_
  unfold cv
  by_cases hab : a = b
  · subst hab
    rw [nt_set_self hC, hC]
    dsimp only
    rw [nt_set_ne (h rfl)]
  · rw [nt_set_ne hab]
/-- end: the size is n, if there are so many -/
theorem cm_end {n : Int32} {C : List AC} (hI : xI tb_G C) : ok_ (tb_P X) 132 0 (ea_ar 0 [.inr (.inl (some 0)), .inl (.inl n)]) [] C (fun o C' => ∃ y : Int32, o = .inl (some (.inl (.inl y))) ∧ ((0 ≤ n.toInt ∧ n.toInt ≤ rf_v C 1 1 ∧ y = Int32.ofInt 1 ∧ cm_P n.toInt (rf_v C 0 14) C C') ∨ (¬ (0 ≤ n.toInt ∧ n.toInt ≤ rf_v C 1 1) ∧ y = Int32.ofInt 0 ∧ cm_P (rf_v C 1 1) (rf_v C 0 14) C C'))) := by
  obtain ⟨xs, x1, x2, x3⟩ := hI_f hI (show tb_G 0 = some (.inl (11, _)) from rfl)
  obtain ⟨_, q0, rfl⟩ := x3 0 (.inr 1) rfl
  obtain ⟨ts, m1, m2, m3⟩ := hI_f hI (show tb_G 1 = some (.inl (8, [.inr 2, .inl (0, 400)])) from rfl)
  have hlen : ts.length = 2 := m2
  obtain ⟨_, r1, sz, rfl, s1, s2⟩ := m3 1 (.inl (0, 400)) rfl
  have hs := rf_f m1 r1
  dsimp only at s1 s2
  have no : ¬ (0 ≤ n.toInt ∧ n.toInt ≤ rf_v C 1 1) → ok_ (tb_P X) 132 15 [(0, .inr (.inl (some 0))), (1, .inl (.inl n))] [] C (fun o C' => ∃ y : Int32, o = .inl (some (.inl (.inl y))) ∧ ((0 ≤ n.toInt ∧ n.toInt ≤ rf_v C 1 1 ∧ y = Int32.ofInt 1 ∧ cm_P n.toInt (rf_v C 0 14) C C') ∨ (¬ (0 ≤ n.toInt ∧ n.toInt ≤ rf_v C 1 1) ∧ y = Int32.ofInt 0 ∧ cm_P (rf_v C 1 1) (rf_v C 0 14) C C'))) := fun hn => by
    refine ok_p rfl rfl rfl ?_
    exact ok_r rfl rfl rfl rfl rfl ⟨_, rfl, Or.inr ⟨hn, rfl, hI, fun _ _ => rfl, rfl, rfl⟩⟩
  refine ok_p rfl rfl rfl ?_
  cases hq : ea_ck .lt n 0 with
  | true =>
    have e1 : n < 0 := of_decide_eq_true hq
    rw [Int32.lt_iff_toInt_lt, show (0 : Int32).toInt = 0 by decide] at e1
    refine ok_if true rfl rfl hq ?_
    exact no (by omega)
  | false =>
    have e1 : ¬ n < 0 := of_decide_eq_false hq
    rw [Int32.lt_iff_toInt_lt, show (0 : Int32).toInt = 0 by decide] at e1
    refine ok_if false rfl rfl hq ?_
    refine ok_p rfl rfl rfl ?_
    refine ok_p rfl rfl rfl ?_
    refine ok_gf rfl rfl x1 q0 ?_
    refine ok_gf rfl rfl m1 r1 ?_
    cases hr : ea_ck .le n sz with
    | false =>
      have e2 : ¬ n ≤ sz := of_decide_eq_false hr
      rw [Int32.le_iff_toInt_le] at e2
      refine ok_ic false rfl rfl hr ?_
      exact no (by omega)
    | true =>
      have e2 : n ≤ sz := of_decide_eq_true hr
      rw [Int32.le_iff_toInt_le] at e2
      refine ok_ic true rfl rfl hr ?_
      refine ok_p rfl rfl rfl ?_
      refine ok_gf rfl rfl x1 q0 ?_
      refine ok_p rfl rfl rfl ?_
      refine ok_pf (v := .inl (.inl n)) rfl rfl m1 rfl (by rw [hlen]; rfl) ?_
      have I2 := xI_sf hI (show tb_G 1 = some (.inl (8, [.inr 2, .inl (0, 400)])) from rfl) m1 (k := 1) (v := .inl (.inl n)) rfl ⟨_, rfl, by show (0 : Int) ≤ n.toInt; omega, by show n.toInt ≤ (400 : Int); omega⟩
      refine ok_p rfl rfl rfl ?_
      exact ok_r rfl rfl rfl rfl rfl ⟨_, rfl, Or.inl ⟨by omega, by omega, rfl, I2, fun b hb => nt_set_ne (by omega), rf_f (nt_set_self m1) (nt_set_self r1), rf_fa m1 (fun h => by cases h)⟩⟩
/-- the tape is used up -/
theorem cm_use {C : List AC} (hI : xI tb_G C) : ∃ ts, ea_nt C 1 = some (.inr (8, ts)) ∧ ts.length = 2 ∧ xI tb_G (C.set 1 (.inr (8, ts.set 1 (.inl (.inl (Int32.ofInt 0)))))) ∧ rf_v (C.set 1 (.inr (8, ts.set 1 (.inl (.inl (Int32.ofInt 0)))))) 1 1 = 0 ∧ ∀ b, b ≠ 1 → ea_nt (C.set 1 (.inr (8, ts.set 1 (.inl (.inl (Int32.ofInt 0)))))) b = ea_nt C b := by
  obtain ⟨ts, m1, m2, m3⟩ := hI_f hI (show tb_G 1 = some (.inl (8, [.inr 2, .inl (0, 400)])) from rfl)
  obtain ⟨_, r1, sz, rfl, s1, s2⟩ := m3 1 (.inl (0, 400)) rfl
  exact ⟨ts, m1, m2, xI_sf hI (show tb_G 1 = some (.inl (8, [.inr 2, .inl (0, 400)])) from rfl) m1 (k := 1) (v := .inl (.inl (Int32.ofInt 0))) rfl ⟨_, rfl, by decide, by decide⟩, rf_f (nt_set_self m1) (nt_set_self r1), fun b hb => nt_set_ne (fun h => hb h.symm)⟩
/-- cells: those from 190 on are the same, and these two fields -/
def us_P (im : Int) (C C' : List AC) : Prop := xI tb_G C' ∧ (∀ b, 190 ≤ b → ea_nt C' b = ea_nt C b) ∧ rf_v C' 1 1 = 0 ∧ rf_v C' 0 14 = im
theorem us_call {im : Int} {C C1 C2 : List AC} (h : us_P im C C1) {M : List (Nat × Nat)} (I2 : xI tb_G C2) (F : ∀ b, xm M b = false → ea_nt C2 b = ea_nt C1 b) (h0 : xm M 0 = false) (h1 : xm M 1 = false) (h2 : M.all (fun q => Nat.ble q.2 190) = true) : us_P im C C2 :=
  ⟨I2, fun b hb => by rw [F b (xm_hi hb h2), h.2.1 b hb], by rw [rf_v_eq (cv_eq (F 1 h1) 1), h.2.2.1], by rw [rf_v_eq (cv_eq (F 0 h0) 14), h.2.2.2]⟩
set_option maxRecDepth 20000 in
set_option maxHeartbeats 4000000 in
theorem cm_code {C : List AC} (hI : xI tb_G C) : ok_ (tb_P X) 133 0 (ea_ar 0 [.inr (.inl (some 0))]) [] C (fun o C' => us_P (rf_v C 0 14) C C' ∧ en_P 1 [0, 1] o) := by
  obtain ⟨xs, x1, x2, x3⟩ := hI_f hI (show tb_G 0 = some (.inl (11, _)) from rfl)
  obtain ⟨_, q1, rfl⟩ := x3 1 (.inr 3) rfl
  obtain ⟨_, q0, rfl⟩ := x3 0 (.inr 1) rfl
  obtain ⟨_, q6, rfl⟩ := x3 6 (.inr 42) rfl
  obtain ⟨ys, y1, -, -⟩ := hI_f hI (show tb_G 3 = some (.inl (9, _)) from rfl)
  refine ok_p rfl rfl rfl ?_
  refine ok_gf rfl rfl x1 q1 ?_
  refine ok_p rfl rfl rfl ?_
  refine ok_gf rfl rfl x1 q0 ?_
  refine ok_cn (tk_yes X 123 (by decide)) (as := [.inr (.inl (some 1))]) (T := []) rfl rfl y1 rfl rfl rfl ⟨rfl, rfl, trivial⟩ hI rfl (fun w C1 I1 F1 rv => ?_) (fun ce C' h => nomatch h)
  obtain rfl : w = none := rv
  show ok_ (tb_P X) 133 11 _ [] C1 _
  have X1 : ea_nt C1 0 = some (.inr (11, xs)) := by rw [F1 0 rfl]; exact x1
  refine ok_p rfl rfl rfl ?_
  refine ok_gf rfl rfl X1 q0 ?_
  refine ok_p rfl rfl rfl ?_
  obtain ⟨ts, m1, m2, I2, Z2, F2⟩ := cm_use I1
  refine ok_pf (v := .inl (.inl (Int32.ofInt 0))) rfl rfl m1 rfl (by rw [m2]; rfl) ?_
  have X2 : ea_nt (C1.set 1 (.inr (8, ts.set 1 (.inl (.inl (Int32.ofInt 0)))))) 0 = some (.inr (11, xs)) := by rw [F2 0 (by decide)]; exact X1
  have U2 : us_P (rf_v C 0 14) C (C1.set 1 (.inr (8, ts.set 1 (.inl (.inl (Int32.ofInt 0)))))) := ⟨I2, fun b hb => by rw [F2 b (by omega), F1 b (xm_hi hb (by decide))], Z2, rf_v_eq (cv_eq (by rw [X2, x1]) 14)⟩
  revert X2 U2
  generalize C1.set 1 (.inr (8, ts.set 1 (.inl (.inl (Int32.ofInt 0))))) = C2
  intro X2 U2
  obtain ⟨zs, z1, -, -⟩ := hI_f U2.1 (show tb_G 42 = some (.inl (2, _)) from rfl)
  refine ok_p rfl rfl rfl ?_
  refine ok_p rfl rfl rfl ?_
  refine ok_gf rfl rfl X2 q6 ?_
  refine ok_cn (tk_yes X 47 (by decide)) (as := []) (T := [.inr (.inl (some 0))]) rfl rfl z1 rfl rfl rfl ⟨rfl, trivial⟩ U2.1 rfl (fun w C3 I3 F3 rv => ?_) (fun ce C' h => nomatch h)
  obtain ⟨v, rfl, v1, v2⟩ := rv
  show ok_ (tb_P X) 133 27 _ [.inl (.inl v), .inr (.inl (some 0))] C3 _
  have U3 := us_call U2 I3 F3 rfl rfl rfl
  have X3 : ea_nt C3 0 = some (.inr (11, xs)) := by rw [F3 0 rfl]; exact X2
  have hlen : xs.length = 16 := x2
  refine ok_pf (v := .inl (.inl v)) rfl rfl X3 rfl (by rw [hlen]; rfl) ?_
  have I4 := xI_sf I3 (show tb_G 0 = some (.inl (11, _)) from rfl) X3 (k := 15) (v := .inl (.inl v)) rfl ⟨_, rfl, Int32.le_toInt v, Int.le_of_lt_add_one (Int32.toInt_lt v)⟩
  have U4 : us_P (rf_v C 0 14) C (C3.set 0 (.inr (11, xs.set 15 (.inl (.inl v))))) := ⟨I4, fun b hb => by rw [nt_set_ne (by omega)]; exact U3.2.1 b hb, by rw [rf_fa X3 (fun h => by cases h)]; exact U3.2.2.1, by rw [rf_fa X3 (fun _ => by decide)]; exact U3.2.2.2⟩
  revert U4
  generalize C3.set 0 (.inr (11, xs.set 15 (.inl (.inl v)))) = C4
  intro U4
  obtain ⟨us, u1, -, u3⟩ := hI_f U4.1 (show tb_G 0 = some (.inl (11, _)) from rfl)
  obtain ⟨_, w15, vv, rfl, -, -⟩ := u3 15 (.inl (-2147483648, 2147483647)) rfl
  obtain ⟨_, w2, rfl⟩ := u3 2 (.inr 8) rfl
  obtain ⟨_, w3, rfl⟩ := u3 3 (.inr 13) rfl
  obtain ⟨_, w4, rfl⟩ := u3 4 (.inr 18) rfl
  obtain ⟨_, w8, rfl⟩ := u3 8 (.inr 44) rfl
  obtain ⟨ls, l1, -, l3⟩ := hI_f U4.1 (show tb_G 8 = some (.inl (1, _)) from rfl)
  obtain ⟨ws, o1, -, o3⟩ := hI_f U4.1 (show tb_G 18 = some (.inl (10, _)) from rfl)
  obtain ⟨_, g0, told, rfl, -, -⟩ := l3 0 (.inl (0, 1)) rfl
  obtain ⟨_, k0, cz, rfl, -, -⟩ := o3 0 (.inl (0, 10)) rfl
  refine ok_p rfl rfl rfl ?_
  refine ok_gf rfl rfl u1 w15 ?_
  refine ok_p rfl rfl rfl ?_
  cases hq : ea_ck .eq vv (Int32.ofInt (Int.negSucc 0)) with
  | false =>
    refine ok_ic false rfl rfl hq ?_
    exact ok_tw rfl ⟨_, rfl⟩ rfl rfl ⟨U4, .head _⟩
  | true =>
    refine ok_ic true rfl rfl hq ?_
    have bad : ok_ (tb_P X) 133 68 [(0, .inr (.inl (some 0)))] [] C4 (fun o C' => us_P (rf_v C 0 14) C C' ∧ en_P 1 [0, 1] o) := ok_tw rfl ⟨_, rfl⟩ rfl rfl ⟨U4, .tail _ (.head _)⟩
    refine ok_p rfl rfl rfl ?_
    refine ok_gf rfl rfl u1 w2 ?_
    refine ok_gf rfl rfl l1 g0 ?_
    cases ht : ea_ck .ne told 0 with
    | true =>
      refine ok_if true rfl rfl ht ?_
      exact bad
    | false =>
      refine ok_if false rfl rfl ht ?_
      refine ok_p rfl rfl rfl ?_
      refine ok_gf rfl rfl u1 w4 ?_
      refine ok_gf rfl rfl o1 k0 ?_
      cases hz : ea_ck .le cz 0 with
      | false =>
        refine ok_if false rfl rfl hz ?_
        exact bad
      | true =>
        refine ok_if true rfl rfl hz ?_
        refine ok_p rfl rfl rfl ?_
        refine ok_gf rfl rfl u1 w2 ?_
        refine ok_p rfl rfl rfl ?_
        refine ok_gf rfl rfl u1 w3 ?_
        refine ok_cn (tk_yes X 25 (by decide)) (as := [.inr (.inl (some 13))]) (T := []) rfl rfl l1 rfl rfl rfl ⟨rfl, rfl, trivial⟩ U4.1 rfl (fun w C5 I5 F5 rv => ?_) (fun ce C' h => nomatch h)
        obtain rfl : w = none := rv
        have U5 := us_call U4 I5 F5 rfl rfl rfl
        show ok_ (tb_P X) 133 89 _ [] C5 _
        have X5 : ea_nt C5 0 = some (.inr (11, us)) := by rw [F5 0 rfl]; exact u1
        obtain ⟨ms, n1, -, -⟩ := hI_f I5 (show tb_G 44 = some (.inl (4, _)) from rfl)
        refine ok_p rfl rfl rfl ?_
        refine ok_gf rfl rfl X5 w8 ?_
        refine ok_cx (c := fg_c) (fg_ok X) (as := []) (T := []) (EV := []) rfl rfl n1 rfl rfl rfl ⟨rfl, trivial⟩ I5 trivial (fun q hq => nomatch hq) (fun w C6 I6 F6 rv P6 => ?_)
        obtain rfl : w = none := rv
        have U6 := us_call U5 I6 F6.1 rfl rfl rfl
        show ok_ (tb_P X) 133 96 _ [] C6 _
        have X6 : ea_nt C6 0 = some (.inr (11, us)) := by rw [F6.1 0 rfl]; exact X5
        obtain ⟨l6, e1, -, e3⟩ := hI_f I6 (show tb_G 8 = some (.inl (1, _)) from rfl)
        obtain ⟨_, g1, cl, rfl, -, -⟩ := e3 1 (.inl (0, 12)) rfl
        refine ok_p rfl rfl rfl ?_
        refine ok_gf rfl rfl X6 w2 ?_
        refine ok_gf rfl rfl e1 g1 ?_
        exact ok_r rfl rfl rfl rfl rfl ⟨U6, _, rfl⟩
set_option maxRecDepth 20000 in
set_option maxHeartbeats 4000000 in
theorem cm_republic {C : List AC} (hI : xI tb_G C) : ok_ (tb_P X) 134 0 (ea_ar 0 [.inr (.inl (some 0))]) [] C (fun o C' => us_P (rf_v C 0 14) C C' ∧ en_P 1 [0, 3] o) := by
  obtain ⟨xs, x1, x2, x3⟩ := hI_f hI (show tb_G 0 = some (.inl (11, _)) from rfl)
  obtain ⟨_, q1, rfl⟩ := x3 1 (.inr 3) rfl
  obtain ⟨_, q0, rfl⟩ := x3 0 (.inr 1) rfl
  obtain ⟨_, q4, rfl⟩ := x3 4 (.inr 18) rfl
  obtain ⟨_, q5, rfl⟩ := x3 5 (.inr 30) rfl
  obtain ⟨_, q7, rfl⟩ := x3 7 (.inr 43) rfl
  obtain ⟨ys, y1, -, -⟩ := hI_f hI (show tb_G 3 = some (.inl (9, _)) from rfl)
  refine ok_p rfl rfl rfl ?_
  refine ok_gf rfl rfl x1 q1 ?_
  refine ok_p rfl rfl rfl ?_
  refine ok_gf rfl rfl x1 q0 ?_
  refine ok_cn (tk_yes X 123 (by decide)) (as := [.inr (.inl (some 1))]) (T := []) rfl rfl y1 rfl rfl rfl ⟨rfl, rfl, trivial⟩ hI rfl (fun w C1 I1 F1 rv => ?_) (fun ce C' h => nomatch h)
  obtain rfl : w = none := rv
  show ok_ (tb_P X) 134 11 _ [] C1 _
  have X1 : ea_nt C1 0 = some (.inr (11, xs)) := by rw [F1 0 rfl]; exact x1
  refine ok_p rfl rfl rfl ?_
  refine ok_gf rfl rfl X1 q0 ?_
  refine ok_p rfl rfl rfl ?_
  obtain ⟨ts, m1, m2, I2, Z2, F2⟩ := cm_use I1
  refine ok_pf (v := .inl (.inl (Int32.ofInt 0))) rfl rfl m1 rfl (by rw [m2]; rfl) ?_
  have X2 : ea_nt (C1.set 1 (.inr (8, ts.set 1 (.inl (.inl (Int32.ofInt 0)))))) 0 = some (.inr (11, xs)) := by rw [F2 0 (by decide)]; exact X1
  have U2 : us_P (rf_v C 0 14) C (C1.set 1 (.inr (8, ts.set 1 (.inl (.inl (Int32.ofInt 0)))))) := ⟨I2, fun b hb => by rw [F2 b (by omega), F1 b (xm_hi hb (by decide))], Z2, rf_v_eq (cv_eq (by rw [X2, x1]) 14)⟩
  revert X2 U2
  generalize C1.set 1 (.inr (8, ts.set 1 (.inl (.inl (Int32.ofInt 0))))) = C2
  intro X2 U2
  obtain ⟨zs, z1, -, -⟩ := hI_f U2.1 (show tb_G 30 = some (.inl (10, _)) from rfl)
  refine ok_p rfl rfl rfl ?_
  refine ok_gf rfl rfl X2 q5 ?_
  refine ok_p rfl rfl rfl ?_
  refine ok_gf rfl rfl X2 q4 ?_
  refine ok_cn (tk_yes X 126 (by decide)) (as := [.inr (.inl (some 18))]) (T := []) rfl rfl z1 rfl rfl rfl ⟨rfl, rfl, trivial⟩ U2.1 rfl (fun w Ca Ia Fa rv => ?_) (fun ce C' h => nomatch h)
  obtain rfl : w = none := rv
  show ok_ (tb_P X) 134 30 _ [] Ca _
  have Ua := us_call U2 Ia Fa rfl rfl rfl
  have Xa : ea_nt Ca 0 = some (.inr (11, xs)) := by rw [Fa 0 rfl]; exact X2
  obtain ⟨zt, z2, -, -⟩ := hI_f Ia (show tb_G 43 = some (.inl (7, _)) from rfl)
  refine ok_p rfl rfl rfl ?_
  refine ok_p rfl rfl rfl ?_
  refine ok_gf rfl rfl Xa q7 ?_
  refine ok_cn (tk_yes X 121 (by decide)) (as := []) (T := [.inr (.inl (some 0))]) rfl rfl z2 rfl rfl rfl ⟨rfl, trivial⟩ Ia rfl (fun w C3 I3 F3 rv => ?_) (fun ce C' h => nomatch h)
  obtain ⟨v, rfl, v1, v2⟩ := rv
  show ok_ (tb_P X) 134 38 _ [.inl (.inl v), .inr (.inl (some 0))] C3 _
  have U3 := us_call Ua I3 F3 rfl rfl rfl
  have X3 : ea_nt C3 0 = some (.inr (11, xs)) := by rw [F3 0 rfl]; exact Xa
  have hlen : xs.length = 16 := x2
  refine ok_pf (v := .inl (.inl v)) rfl rfl X3 rfl (by rw [hlen]; rfl) ?_
  have I4 := xI_sf I3 (show tb_G 0 = some (.inl (11, _)) from rfl) X3 (k := 15) (v := .inl (.inl v)) rfl ⟨_, rfl, Int32.le_toInt v, Int.le_of_lt_add_one (Int32.toInt_lt v)⟩
  have U4 : us_P (rf_v C 0 14) C (C3.set 0 (.inr (11, xs.set 15 (.inl (.inl v))))) := ⟨I4, fun b hb => by rw [nt_set_ne (by omega)]; exact U3.2.1 b hb, by rw [rf_fa X3 (fun h => by cases h)]; exact U3.2.2.1, by rw [rf_fa X3 (fun _ => by decide)]; exact U3.2.2.2⟩
  revert U4
  generalize C3.set 0 (.inr (11, xs.set 15 (.inl (.inl v)))) = C4
  intro U4
  obtain ⟨us, u1, -, u3⟩ := hI_f U4.1 (show tb_G 0 = some (.inl (11, _)) from rfl)
  obtain ⟨_, w15, vv, rfl, -, -⟩ := u3 15 (.inl (-2147483648, 2147483647)) rfl
  obtain ⟨_, w4, rfl⟩ := u3 4 (.inr 18) rfl
  obtain ⟨_, w5, rfl⟩ := u3 5 (.inr 30) rfl
  obtain ⟨_, w8, rfl⟩ := u3 8 (.inr 44) rfl
  obtain ⟨ws, o1, -, o3⟩ := hI_f U4.1 (show tb_G 18 = some (.inl (10, _)) from rfl)
  obtain ⟨_, k15, tz, rfl, -, -⟩ := o3 15 (.inl (-2147483648, 2147483647)) rfl
  refine ok_p rfl rfl rfl ?_
  refine ok_gf rfl rfl u1 w15 ?_
  refine ok_p rfl rfl rfl ?_
  cases hq : ea_ck .eq vv (Int32.ofInt (Int.negSucc 0)) with
  | false =>
    refine ok_ic false rfl rfl hq ?_
    exact ok_tw rfl ⟨_, rfl⟩ rfl rfl ⟨U4, .head _⟩
  | true =>
    refine ok_ic true rfl rfl hq ?_
    refine ok_p rfl rfl rfl ?_
    refine ok_gf rfl rfl u1 w4 ?_
    refine ok_gf rfl rfl o1 k15 ?_
    refine ok_p rfl rfl rfl ?_
    cases ht : ea_ck .lt tz (Int8.ofInt 12).toInt32 with
    | false =>
      refine ok_ic false rfl rfl ht ?_
      exact ok_tw rfl ⟨_, rfl⟩ rfl rfl ⟨U4, .tail _ (.head _)⟩
    | true =>
      refine ok_ic true rfl rfl ht ?_
      refine ok_p rfl rfl rfl ?_
      refine ok_gf rfl rfl u1 w4 ?_
      refine ok_p rfl rfl rfl ?_
      refine ok_gf rfl rfl u1 w5 ?_
      refine ok_cn (tk_yes X 124 (by decide)) (as := [.inr (.inl (some 30))]) (T := []) rfl rfl o1 rfl rfl rfl ⟨rfl, rfl, trivial⟩ U4.1 rfl (fun w C5 I5 F5 rv => ?_) (fun ce C' h => nomatch h)
      obtain rfl : w = none := rv
      have U5 := us_call U4 I5 F5 rfl rfl rfl
      show ok_ (tb_P X) 134 92 _ [] C5 _
      have X5 : ea_nt C5 0 = some (.inr (11, us)) := by rw [F5 0 rfl]; exact u1
      obtain ⟨w5s, e1, e2, e3⟩ := hI_f I5 (show tb_G 18 = some (.inl (10, _)) from rfl)
      obtain ⟨_, h15, ty, rfl, -, -⟩ := e3 15 (.inl (-2147483648, 2147483647)) rfl
      have hl5 : w5s.length = 20 := e2
      refine ok_p rfl rfl rfl ?_
      refine ok_gf rfl rfl X5 w4 ?_
      refine ok_p rfl rfl rfl ?_
      refine ok_gf rfl rfl e1 h15 ?_
      refine ok_p rfl rfl rfl ?_
      refine ok_p rfl rfl rfl ?_
      refine ok_pf (v := .inl (.inl (ty + Int32.ofInt 1))) rfl rfl e1 rfl (by rw [hl5]; rfl) ?_
      have I6 := xI_sf I5 (show tb_G 18 = some (.inl (10, _)) from rfl) e1 (k := 15) (v := .inl (.inl (ty + Int32.ofInt 1))) rfl ⟨_, rfl, Int32.le_toInt _, Int.le_of_lt_add_one (Int32.toInt_lt _)⟩
      have U6 : us_P (rf_v C 0 14) C (C5.set 18 (.inr (10, w5s.set 15 (.inl (.inl (ty + Int32.ofInt 1)))))) := ⟨I6, fun b hb => by rw [nt_set_ne (by omega)]; exact U5.2.1 b hb, by rw [rf_fa e1 (fun h => by cases h)]; exact U5.2.2.1, by rw [rf_fa e1 (fun h => by cases h)]; exact U5.2.2.2⟩
      have X6 : ea_nt (C5.set 18 (.inr (10, w5s.set 15 (.inl (.inl (ty + Int32.ofInt 1)))))) 0 = some (.inr (11, us)) := by rw [nt_set_ne (by decide)]; exact X5
      revert U6 X6
      generalize C5.set 18 (.inr (10, w5s.set 15 (.inl (.inl (ty + Int32.ofInt 1))))) = C6
      intro U6 X6
      obtain ⟨ms, n1, -, -⟩ := hI_f U6.1 (show tb_G 44 = some (.inl (4, _)) from rfl)
      refine ok_p rfl rfl rfl ?_
      refine ok_gf rfl rfl X6 w8 ?_
      refine ok_cx (c := fg_c) (fg_ok X) (as := []) (T := []) (EV := []) rfl rfl n1 rfl rfl rfl ⟨rfl, trivial⟩ U6.1 trivial (fun q hq => nomatch hq) (fun w C7 I7 F7 rv P7 => ?_)
      obtain rfl : w = none := rv
      have U7 := us_call U6 I7 F7.1 rfl rfl rfl
      show ok_ (tb_P X) 134 112 _ [] C7 _
      have X7 : ea_nt C7 0 = some (.inr (11, us)) := by rw [F7.1 0 rfl]; exact X6
      obtain ⟨l7, f1, -, f3⟩ := hI_f I7 (show tb_G 18 = some (.inl (10, _)) from rfl)
      obtain ⟨_, g15, cl, rfl, -, -⟩ := f3 15 (.inl (-2147483648, 2147483647)) rfl
      refine ok_p rfl rfl rfl ?_
      refine ok_gf rfl rfl X7 w4 ?_
      refine ok_gf rfl rfl f1 g15 ?_
      exact ok_r rfl rfl rfl rfl rfl ⟨U7, _, rfl⟩
end CLS
end
section
/-! THE CLASS: read, next, image -/
section CLS2
variable (X : Option (List AI))
set_option maxRecDepth 20000 in
set_option maxHeartbeats 4000000 in
theorem cm_read {n : Int32} {C : List AC} (hI : xI tb_G C) : ok_ (tb_P X) 149 0 (ea_ar 0 [.inr (.inl (some 0)), .inl (.inl n)]) [] C (fun o C' => us_P (rf_v C 0 14) C C' ∧ en_P 1 [0, 4] o) := by
  obtain ⟨xs, x1, x2, x3⟩ := hI_f hI (show tb_G 0 = some (.inl (11, _)) from rfl)
  obtain ⟨_, q9, rfl⟩ := x3 9 (.inr 166) rfl
  obtain ⟨_, q0, rfl⟩ := x3 0 (.inr 1) rfl
  obtain ⟨ys, y1, -, -⟩ := hI_f hI (show tb_G 166 = some (.inl (6, _)) from rfl)
  refine ok_p rfl rfl rfl ?_
  refine ok_gf rfl rfl x1 q9 ?_
  refine ok_p rfl rfl rfl ?_
  refine ok_gf rfl rfl x1 q0 ?_
  refine ok_cn (tk_yes X 105 (by decide)) (as := [.inr (.inl (some 1))]) (T := []) rfl rfl y1 rfl rfl rfl ⟨rfl, rfl, trivial⟩ hI rfl (fun w C1 I1 F1 rv => ?_) (fun ce C' h => nomatch h)
  obtain ⟨f, rfl, f1, f2⟩ := rv
  show ok_ (tb_P X) 149 11 _ [.inl (.inl f)] C1 _
  have X1 : ea_nt C1 0 = some (.inr (11, xs)) := by rw [F1 0 rfl]; exact x1
  refine ok_p rfl rfl rfl ?_
  refine ok_p rfl rfl rfl ?_
  refine ok_gf rfl rfl X1 q0 ?_
  refine ok_p rfl rfl rfl ?_
  obtain ⟨ts, m1, m2, I2, Z2, F2⟩ := cm_use I1
  refine ok_pf (v := .inl (.inl (Int32.ofInt 0))) rfl rfl m1 rfl (by rw [m2]; rfl) ?_
  have X2 : ea_nt (C1.set 1 (.inr (8, ts.set 1 (.inl (.inl (Int32.ofInt 0)))))) 0 = some (.inr (11, xs)) := by rw [F2 0 (by decide)]; exact X1
  have U2 : us_P (rf_v C 0 14) C (C1.set 1 (.inr (8, ts.set 1 (.inl (.inl (Int32.ofInt 0)))))) := ⟨I2, fun b hb => by rw [F2 b (by omega), F1 b (xm_hi hb (by decide))], Z2, rf_v_eq (cv_eq (by rw [X2, x1]) 14)⟩
  revert X2 U2
  generalize C1.set 1 (.inr (8, ts.set 1 (.inl (.inl (Int32.ofInt 0))))) = C2
  intro X2 U2
  have bad : ok_ (tb_P X) 149 44 [(2, .inl (.inl f)), (0, .inr (.inl (some 0))), (1, .inl (.inl n))] [] C2 (fun o C' => us_P (rf_v C 0 14) C C' ∧ en_P 1 [0, 4] o) := ok_tw rfl ⟨_, rfl⟩ rfl rfl ⟨U2, .tail _ (.head _)⟩
  refine ok_p rfl rfl rfl ?_
  rcases yes_no f1 f2 with rfl | rfl
  · refine ok_p rfl rfl rfl ?_
    exact ok_tw rfl ⟨_, rfl⟩ rfl rfl ⟨U2, .head _⟩
  refine ok_p rfl rfl rfl ?_
  refine ok_p rfl rfl rfl ?_
  cases h1 : ea_ck .lt n 0 with
  | true =>
    refine ok_if true rfl rfl h1 ?_
    exact bad
  | false =>
    refine ok_if false rfl rfl h1 ?_
    refine ok_p rfl rfl rfl ?_
    refine ok_p rfl rfl rfl ?_
    cases h2 : ea_ck .le n (Int32.ofInt 2) with
    | false =>
      refine ok_ic false rfl rfl h2 ?_
      exact bad
    | true =>
      refine ok_ic true rfl rfl h2 ?_
      obtain ⟨ys2, y2, -, -⟩ := hI_f U2.1 (show tb_G 166 = some (.inl (6, _)) from rfl)
      refine ok_p rfl rfl rfl ?_
      refine ok_gf rfl rfl X2 q9 ?_
      refine ok_cn (tk_yes X 107 (by decide)) (as := []) (T := []) rfl rfl y2 rfl rfl rfl ⟨rfl, trivial⟩ U2.1 rfl (fun w C3 I3 F3 rv => ?_) (fun ce C' h => nomatch h)
      obtain rfl : w = none := rv
      have U3 := us_call U2 I3 F3 rfl rfl rfl
      have X3 : ea_nt C3 0 = some (.inr (11, xs)) := by rw [F3 0 rfl]; exact X2
      show ok_ (tb_P X) 149 61 _ [] C3 _
      obtain ⟨ys3, y3, -, e3⟩ := hI_f I3 (show tb_G 166 = some (.inl (6, _)) from rfl)
      have fin : ∀ y : Int32, ok_ (tb_P X) 149 97 [(2, .inl (.inl (Int32.ofInt 1))), (0, .inr (.inl (some 0))), (1, .inl (.inl n))] [.inl (.inl y)] C3 (fun o C' => us_P (rf_v C 0 14) C C' ∧ en_P 1 [0, 4] o) := fun y => ok_r rfl rfl rfl rfl rfl ⟨U3, _, rfl⟩
      obtain ⟨_, g6, a6, rfl, -, -⟩ := e3 6 (.inl (-2147483648, 2147483647)) rfl
      obtain ⟨_, g7, a7, rfl, -, -⟩ := e3 7 (.inl (-2147483648, 2147483647)) rfl
      obtain ⟨_, g8, a8, rfl, -, -⟩ := e3 8 (.inl (-2147483648, 2147483647)) rfl
      refine ok_p rfl rfl rfl ?_
      cases h3 : ea_ck .ne n 0 with
      | false =>
        refine ok_if false rfl rfl h3 ?_
        refine ok_p rfl rfl rfl ?_
        refine ok_gf rfl rfl X3 q9 ?_
        refine ok_gf rfl rfl y3 g6 ?_
        refine ok_p rfl rfl rfl ?_
        exact fin _
      | true =>
        refine ok_if true rfl rfl h3 ?_
        refine ok_p rfl rfl rfl ?_
        refine ok_p rfl rfl rfl ?_
        cases h4 : ea_ck .ne n (Int32.ofInt 1) with
        | false =>
          refine ok_ic false rfl rfl h4 ?_
          refine ok_p rfl rfl rfl ?_
          refine ok_gf rfl rfl X3 q9 ?_
          refine ok_gf rfl rfl y3 g7 ?_
          refine ok_p rfl rfl rfl ?_
          exact fin _
        | true =>
          refine ok_ic true rfl rfl h4 ?_
          refine ok_p rfl rfl rfl ?_
          refine ok_gf rfl rfl X3 q9 ?_
          refine ok_gf rfl rfl y3 g8 ?_
          exact fin _
/-- a citizen is wanted -/
theorem cm_nix {a b : Int32} {C : List AC} {K : Option AV ⊕ Nat → List AC → Prop} (h1 : 0 ≤ a.toInt → a.toInt < b.toInt → K (.inl none) C) (h2 : K (.inr 2) C) : ok_ (tb_P X) 181 0 (ea_ar 0 [.inl (.inl a), .inl (.inl b)]) [] C K := by
  have bad : ok_ (tb_P X) 181 9 [(0, .inl (.inl a)), (1, .inl (.inl b))] [] C K := ok_tw rfl ⟨_, rfl⟩ rfl rfl h2
  refine ok_p rfl rfl rfl ?_
  cases hq : ea_ck .lt a 0 with
  | true =>
    refine ok_if true rfl rfl hq ?_
    exact bad
  | false =>
    have e1 : ¬ a < 0 := of_decide_eq_false hq
    rw [Int32.lt_iff_toInt_lt, show (0 : Int32).toInt = 0 by decide] at e1
    refine ok_if false rfl rfl hq ?_
    refine ok_p rfl rfl rfl ?_
    refine ok_p rfl rfl rfl ?_
    cases hr : ea_ck .lt a b with
    | false =>
      refine ok_ic false rfl rfl hr ?_
      exact bad
    | true =>
      have e2 : a < b := of_decide_eq_true hr
      rw [Int32.lt_iff_toInt_lt] at e2
      refine ok_ic true rfl rfl hr ?_
      exact ok_r rfl rfl rfl rfl rfl (h1 (by omega) e2)
theorem cm_nci {a : Int32} {C : List AC} (hI : xI tb_G C) {K : Option AV ⊕ Nat → List AC → Prop} (h1 : 0 ≤ a.toInt → a.toInt ≤ 9 → K (.inl none) C) (h2 : K (.inr 2) C) : ok_ (tb_P X) 179 0 (ea_ar 0 [.inr (.inl (some 0)), .inl (.inl a)]) [] C K := by
  obtain ⟨xs, x1, x2, x3⟩ := hI_f hI (show tb_G 0 = some (.inl (11, _)) from rfl)
  obtain ⟨_, q4, rfl⟩ := x3 4 (.inr 18) rfl
  obtain ⟨ws, o1, -, o3⟩ := hI_f hI (show tb_G 18 = some (.inl (10, _)) from rfl)
  obtain ⟨_, k0, cz, rfl, c1, c2⟩ := o3 0 (.inl (0, 10)) rfl
  dsimp only at c1 c2
  refine ok_p rfl rfl rfl ?_
  refine ok_p rfl rfl rfl ?_
  refine ok_gf rfl rfl x1 q4 ?_
  refine ok_gf rfl rfl o1 k0 ?_
  refine ok_cs (as := [.inl (.inl a), .inl (.inl cz)]) (T := []) rfl rfl rfl rfl ?_
  refine cm_nix X (fun e1 e2 => ?_) ?_
  · show ok_ (tb_P X) 179 11 _ [] C K
    exact ok_r rfl rfl rfl rfl rfl (h1 e1 (by omega))
  · exact ⟨rfl, rfl, h2⟩
def wa_c : CX := ((108, [.inr (.inl 18), .inl (0, 9)], [], (1, 0, 1), [], []), [], 0, ([], []), ([], []))
set_option maxRecDepth 100000 in
theorem wa_ck : cx_ck (tb_P none) tb_G tr_gs (fun _ => []) (fun _ _ => none) [] wa_c 400 = true := by decide +kernel
theorem wa_ok : cx_ok (tb_P X) tb_G (rf_G 0) wa_c := cx_ck_ok tr_G9 (rf_gs 0) no_c no_m (hds := []) (n := 400) (by rw [cx_scr X]; exact wa_ck)
theorem cm_nal {a : Int32} (a1 : 0 ≤ a.toInt) (a2 : a.toInt ≤ 9) {C : List AC} (hI : xI tb_G C) {K : Option AV ⊕ Nat → List AC → Prop} (h1 : K (.inl none) C) (h2 : K (.inr 1) C) : ok_ (tb_P X) 182 0 (ea_ar 0 [.inr (.inl (some 0)), .inl (.inl a)]) [] C K := by
  obtain ⟨xs, x1, x2, x3⟩ := hI_f hI (show tb_G 0 = some (.inl (11, _)) from rfl)
  obtain ⟨_, q4, rfl⟩ := x3 4 (.inr 18) rfl
  obtain ⟨ws, o1, -, -⟩ := hI_f hI (show tb_G 18 = some (.inl (10, _)) from rfl)
  refine ok_p rfl rfl rfl ?_
  refine ok_gf rfl rfl x1 q4 ?_
  refine ok_p rfl rfl rfl ?_
  refine ok_cx (c := wa_c) (wa_ok X) (as := [.inl (.inl a)]) (T := []) (EV := []) rfl rfl o1 rfl rfl rfl ⟨rfl, ⟨_, rfl, a1, a2⟩, trivial⟩ hI trivial (fun q hq => nomatch hq) (fun w C2 I2 F2 rv P2 => ?_)
  obtain rfl := nt_ext (fun b => F2.1 b rfl)
  obtain ⟨y, rfl, y1, y2⟩ := rv
  show ok_ (tb_P X) 182 8 _ [.inl (.inl y)] C2 K
  rcases yes_no y1 y2 with rfl | rfl
  · refine ok_p rfl rfl rfl ?_
    exact ok_tw rfl ⟨_, rfl⟩ rfl rfl h2
  · refine ok_p rfl rfl rfl ?_
    exact ok_r rfl rfl rfl rfl rfl h1
set_option maxRecDepth 20000 in
set_option maxHeartbeats 4000000 in
theorem cm_next {n : Int32} {C : List AC} (hI : xI tb_G C) : ok_ (tb_P X) 150 0 (ea_ar 0 [.inr (.inl (some 0)), .inl (.inl n)]) [] C (fun o C' => us_P (rf_v C 0 14) C C' ∧ en_P 1 [0, 1, 2] o) := by
  obtain ⟨xs, x1, x2, x3⟩ := hI_f hI (show tb_G 0 = some (.inl (11, _)) from rfl)
  obtain ⟨_, q9, rfl⟩ := x3 9 (.inr 166) rfl
  obtain ⟨_, q0, rfl⟩ := x3 0 (.inr 1) rfl
  obtain ⟨ys, y1, -, -⟩ := hI_f hI (show tb_G 166 = some (.inl (6, _)) from rfl)
  refine ok_p rfl rfl rfl ?_
  refine ok_gf rfl rfl x1 q9 ?_
  refine ok_p rfl rfl rfl ?_
  refine ok_gf rfl rfl x1 q0 ?_
  refine ok_cn (tk_yes X 105 (by decide)) (as := [.inr (.inl (some 1))]) (T := []) rfl rfl y1 rfl rfl rfl ⟨rfl, rfl, trivial⟩ hI rfl (fun w C1 I1 F1 rv => ?_) (fun ce C' h => nomatch h)
  obtain ⟨f, rfl, f1, f2⟩ := rv
  show ok_ (tb_P X) 150 11 _ [.inl (.inl f)] C1 _
  have X1 : ea_nt C1 0 = some (.inr (11, xs)) := by rw [F1 0 rfl]; exact x1
  refine ok_p rfl rfl rfl ?_
  refine ok_p rfl rfl rfl ?_
  refine ok_gf rfl rfl X1 q0 ?_
  refine ok_p rfl rfl rfl ?_
  obtain ⟨ts, m1, m2, I2, Z2, F2⟩ := cm_use I1
  refine ok_pf (v := .inl (.inl (Int32.ofInt 0))) rfl rfl m1 rfl (by rw [m2]; rfl) ?_
  have X2 : ea_nt (C1.set 1 (.inr (8, ts.set 1 (.inl (.inl (Int32.ofInt 0)))))) 0 = some (.inr (11, xs)) := by rw [F2 0 (by decide)]; exact X1
  have U2 : us_P (rf_v C 0 14) C (C1.set 1 (.inr (8, ts.set 1 (.inl (.inl (Int32.ofInt 0)))))) := ⟨I2, fun b hb => by rw [F2 b (by omega), F1 b (xm_hi hb (by decide))], Z2, rf_v_eq (cv_eq (by rw [X2, x1]) 14)⟩
  revert X2 U2
  generalize C1.set 1 (.inr (8, ts.set 1 (.inl (.inl (Int32.ofInt 0))))) = C2
  intro X2 U2
  refine ok_p rfl rfl rfl ?_
  refine ok_p rfl rfl rfl ?_
  refine ok_cv (mj := 179) (as := [.inl (.inl n)]) (T := []) rfl rfl X2 rfl rfl rfl ?_
  refine cm_nci X U2.1 (fun n1 n2 => ?_) ⟨rfl, rfl, U2, .tail _ (.tail _ (.head _))⟩
  show ok_ (tb_P X) 150 25 _ [] C2 _
  refine ok_p rfl rfl rfl ?_
  rcases yes_no f1 f2 with rfl | rfl
  · refine ok_p rfl rfl rfl ?_
    exact ok_tw rfl ⟨_, rfl⟩ rfl rfl ⟨U2, .head _⟩
  refine ok_p rfl rfl rfl ?_
  refine ok_p rfl rfl rfl ?_
  refine ok_p rfl rfl rfl ?_
  refine ok_cv (mj := 182) (as := [.inl (.inl n)]) (T := []) rfl rfl X2 rfl rfl rfl ?_
  refine cm_nal X n1 n2 U2.1 ?_ ⟨rfl, rfl, U2, .tail _ (.head _)⟩
  show ok_ (tb_P X) 150 45 _ [] C2 _
  obtain ⟨ys2, y2, -, -⟩ := hI_f U2.1 (show tb_G 166 = some (.inl (6, _)) from rfl)
  refine ok_p rfl rfl rfl ?_
  refine ok_gf rfl rfl X2 q9 ?_
  refine ok_cn (tk_yes X 107 (by decide)) (as := []) (T := []) rfl rfl y2 rfl rfl rfl ⟨rfl, trivial⟩ U2.1 rfl (fun w C3 I3 F3 rv => ?_) (fun ce C' h => nomatch h)
  obtain rfl : w = none := rv
  have U3 := us_call U2 I3 F3 rfl rfl rfl
  have X3 : ea_nt C3 0 = some (.inr (11, xs)) := by rw [F3 0 rfl]; exact X2
  show ok_ (tb_P X) 150 52 _ [] C3 _
  obtain ⟨ys3, y3, -, e3⟩ := hI_f I3 (show tb_G 166 = some (.inl (6, _)) from rfl)
  obtain ⟨_, g6, a6, rfl, -, -⟩ := e3 6 (.inl (-2147483648, 2147483647)) rfl
  refine ok_p rfl rfl rfl ?_
  refine ok_gf rfl rfl X3 q9 ?_
  refine ok_gf rfl rfl y3 g6 ?_
  refine ok_p rfl rfl rfl ?_
  cases h3 : ea_ck .ge a6 (Int32.ofInt 2) with
  | false =>
    refine ok_ic false rfl rfl h3 ?_
    refine ok_p rfl rfl rfl ?_
    refine ok_p rfl rfl rfl ?_
    exact ok_r rfl rfl rfl rfl rfl ⟨U3, _, rfl⟩
  | true =>
    refine ok_ic true rfl rfl h3 ?_
    refine ok_p rfl rfl rfl ?_
    refine ok_gf rfl rfl X3 q9 ?_
    refine ok_p rfl rfl rfl ?_
    refine ok_cn (tk_yes X 109 (by decide)) (as := [.inl (.inl n)]) (T := []) rfl rfl y3 rfl rfl rfl ⟨rfl, ⟨_, rfl, n1, n2⟩, trivial⟩ I3 rfl (fun w C4 I4 F4 rv => ?_) (fun ce C' h => nomatch h)
    obtain ⟨y, rfl, -, -⟩ := rv
    have U4 := us_call U3 I4 F4 rfl rfl rfl
    show ok_ (tb_P X) 150 75 _ [.inl (.inl y)] C4 _
    exact ok_r rfl rfl rfl rfl rfl ⟨U4, _, rfl⟩
set_option maxRecDepth 20000 in
set_option maxHeartbeats 4000000 in
theorem cm_image {C : List AC} (hI : xI tb_G C) : ok_ (tb_P X) 175 0 (ea_ar 0 [.inr (.inl (some 0))]) [] C (fun o C' => cm_P (rf_v C 1 1) 1 C C' ∧ o = .inl none) := by
  obtain ⟨xs, x1, x2, x3⟩ := hI_f hI (show tb_G 0 = some (.inl (11, _)) from rfl)
  have hlen : xs.length = 16 := x2
  obtain ⟨_, q2, rfl⟩ := x3 2 (.inr 8) rfl
  obtain ⟨_, q4, rfl⟩ := x3 4 (.inr 18) rfl
  obtain ⟨_, q12, rfl⟩ := x3 12 (.inr 173) rfl
  obtain ⟨_, q13, rfl⟩ := x3 13 (.inr 178) rfl
  obtain ⟨_, q14, im, rfl, -, -⟩ := x3 14 (.inl (0, 1)) rfl
  obtain ⟨ys, y1, -, -⟩ := hI_f hI (show tb_G 173 = some (.inl (1, _)) from rfl)
  refine ok_p rfl rfl rfl ?_
  refine ok_gf rfl rfl x1 q12 ?_
  refine ok_p rfl rfl rfl ?_
  refine ok_gf rfl rfl x1 q2 ?_
  refine ok_cn (tk_yes X 27 (by decide)) (as := [.inr (.inl (some 8))]) (T := []) rfl rfl y1 rfl rfl rfl ⟨rfl, rfl, trivial⟩ hI rfl (fun w C1 I1 F1 rv => ?_) (fun ce C' h => nomatch h)
  obtain rfl : w = none := rv
  show ok_ (tb_P X) 175 11 _ [] C1 _
  have X1 : ea_nt C1 0 = some (.inr (11, xs)) := by rw [F1 0 rfl]; exact x1
  obtain ⟨zs, z1, -, -⟩ := hI_f I1 (show tb_G 178 = some (.inl (10, _)) from rfl)
  refine ok_p rfl rfl rfl ?_
  refine ok_gf rfl rfl X1 q13 ?_
  refine ok_p rfl rfl rfl ?_
  refine ok_gf rfl rfl X1 q4 ?_
  refine ok_cn (tk_yes X 127 (by decide)) (as := [.inr (.inl (some 18))]) (T := []) rfl rfl z1 rfl rfl rfl ⟨rfl, rfl, trivial⟩ I1 rfl (fun w C2 I2 F2 rv => ?_) (fun ce C' h => nomatch h)
  obtain rfl : w = none := rv
  show ok_ (tb_P X) 175 22 _ [] C2 _
  have X2 : ea_nt C2 0 = some (.inr (11, xs)) := by rw [F2 0 rfl]; exact X1
  refine ok_p rfl rfl rfl ?_
  refine ok_p rfl rfl rfl ?_
  refine ok_pf (v := .inl (.inl (Int32.ofInt 1))) rfl rfl X2 rfl (by rw [hlen]; rfl) ?_
  have I3 := xI_sf I2 (show tb_G 0 = some (.inl (11, _)) from rfl) X2 (k := 14) (v := .inl (.inl (Int32.ofInt 1))) rfl ⟨_, rfl, by decide, by decide⟩
  refine ok_r rfl rfl rfl rfl rfl ⟨⟨I3, fun b hb => ?_, ?_, ?_⟩, rfl⟩
  · rw [nt_set_ne (by omega), F2 b (xm_hi (M := [(178, 190)]) hb (by decide)), F1 b (xm_hi (M := [(173, 178)]) hb (by decide))]
  · rw [rf_fa X2 (fun h => by cases h), rf_v_eq (cv_eq (F2 1 rfl) 1), rf_v_eq (cv_eq (F1 1 rfl) 1)]
  · exact rf_f (nt_set_self X2) (nt_set_self q14)
end CLS2
end
section
/-! THE LAW: what holds between its calls -/
/-- class and reference, with what the tapes hold and whether images were kept -/
def lt_S (sz im T H : Int) (C : List AC) : Prop := xI tb_G C ∧ rf_W C ∧ rf_cls C 201 202 ∧ rf_v C 1 1 = sz ∧ rf_v C 0 14 = im ∧ rf_v C 190 18 = T ∧ rf_v C 190 11 = H
theorem rf_J_of {C C' : List AC} (h : rf_G 0 1001 C' = rf_G 0 1001 C) (hJ : rf_cls C 201 202) : rf_cls C' 201 202 := rf_b_of (p := rf_cls C' 201 202) (by
  have h1 : rf_G 0 1001 C' = rf_b (rf_cls C' 201 202) := rfl
  have h2 : rf_G 0 1001 C = rf_b (rf_cls C 201 202) := rfl
  have h3 := rf_b_1 hJ
  omega)
theorem lt_cm {a b T H sz im : Int} {C C' : List AC} (h : lt_S a b T H C) (hc : cm_P sz im C C') : lt_S sz im T H C' := by
  have F : fr_c (rf_G 0) [(0, 190)] C C' := fr_cells 0 (fun x hx => hc.2.1 x (by
    apply Classical.byContradiction
    intro hn
    have : xm [(0, 190)] x = true := by
      unfold xm
      have h1 : Nat.ble 0 x = true := Nat.ble_eq_true_of_le (Nat.zero_le x)
      have h2 : Nat.blt x 190 = true := Nat.ble_eq_true_of_le (by omega)
      simp [h1, h2]
    rw [this] at hx
    cases hx)) (by decide)
  exact ⟨hc.1, rf_W_of (F.2 999 (by decide) (by decide)) h.2.1, rf_J_of (F.2 1001 (by decide) (by decide)) h.2.2.1, hc.2.2.1, hc.2.2.2, by rw [rf_v_eq (cv_eq (hc.2.1 190 (by decide)) 18)]; exact h.2.2.2.2.2.1, by rw [rf_v_eq (cv_eq (hc.2.1 190 (by decide)) 11)]; exact h.2.2.2.2.2.2⟩
/-- the law's own row is written -/
theorem lt_out {sz im T H : Int} {C : List AC} (h : lt_S sz im T H C) {d : AV} {us : List (Nat × AV)} (hC : ea_nt C 215 = some (.inl (1, 1, d, us))) (y : Int64) : lt_S sz im T H (C.set 215 (.inl (1, 1, d, (0, .inr (.inr (.inl (some y)))) :: us))) := by
  have F : fr_c (rf_G 0) [(215, 216)] C (C.set 215 (.inl (1, 1, d, (0, .inr (.inr (.inl (some y)))) :: us))) := fr_cells 0 (fun x hx => nt_set_ne (by rintro rfl; exact absurd hx (by decide))) (by decide)
  have hv : ∀ {b k : Nat}, b ≠ 215 → rf_v (C.set 215 (.inl (1, 1, d, (0, .inr (.inr (.inl (some y)))) :: us))) b k = rf_v C b k := fun {b k} hb => rf_v_eq (cv_eq (nt_set_ne (fun h => hb h.symm)) k)
  exact ⟨xI_sa h.1 (show tb_G 215 = some (.inr (1, 1, 1, [])) from rfl) hC ⟨y, rfl⟩, rf_W_of (F.2 999 (by decide) (by decide)) h.2.1, rf_J_of (F.2 1001 (by decide) (by decide)) h.2.2.1, by rw [hv (by decide)]; exact h.2.2.2.1, by rw [hv (by decide)]; exact h.2.2.2.2.1, by rw [hv (by decide)]; exact h.2.2.2.2.2.1, by rw [hv (by decide)]; exact h.2.2.2.2.2.2⟩
theorem lt_215 {sz im T H : Int} {C : List AC} (h : lt_S sz im T H C) : ∃ d us, ea_nt C 215 = some (.inl (1, 1, d, us)) := by
  obtain ⟨d, us, h1, -⟩ := hI_a h.1 (show tb_G 215 = some (.inr (1, 1, 1, [])) from rfl)
  exact ⟨d, us, h1⟩
def wr_K (sz im T H : Int) (o : Option AV ⊕ Nat) (C' : List AC) : Prop := (∃ y : Int32, o = .inl (some (.inl (.inl y)))) ∧ lt_S sz im T H C'
section WRP
variable {P : EP} {N m pc : Nat} {L : List (Nat × AV)} {S : List AV} {C : List AC} {K : Option AV ⊕ Nat → List AC → Prop}
theorem okb_rv (h : ok_ P m pc L S C (fun o C' => (∃ v, o = .inl v) ∧ K o C')) : okb P 0 m pc L S C K := by
  obtain ⟨n, o, C', h1, ⟨v, h2⟩, h3⟩ := h
  subst h2
  exact ⟨n, 0, .inl v, C', Nat.le_refl _, h1, h3⟩
theorem okb_cv0 {x mj n a ci : Nat} {vs : List AV} {as T : List AV} (hc : ep_cod P m pc = some (.invokevirtual x, 3)) (hp : ep_pl P m x = some (2, mj, n)) (hC : ea_nt C a = some (.inr (ci, vs))) (ho : ep_own P mj = ci) (hn : as.length = n) (hd : (Nat.blt (ep_dep P mj) (ep_dep P m) && (Nat.ble (ea_wt T) 8 && Nat.ble (ea_wt (.inr (.inl (some a)) :: as)) (ep_nls P mj))) = true) {K1 : Option AV ⊕ Nat → List AC → Prop} (h : ok_ P mj 0 (ea_ar 0 (.inr (.inl (some a)) :: as)) [] C K1) (hk : ∀ o C', K1 o C' → ∃ v, o = .inl v ∧ okb P N m (pc + 3) L (v.toList ++ T) C' K) : okb P N m pc L (as.reverse ++ .inr (.inl (some a)) :: T) C K := by
  have h0 : okb P 0 mj 0 (ea_ar 0 (.inr (.inl (some a)) :: as)) [] C (okb_back P N m pc L T true K) := okb_rv (ok_post h (fun o C' hq => by
    obtain ⟨v, rfl, hv⟩ := hk o C' hq
    exact ⟨⟨v, rfl⟩, hv⟩))
  have := okb_cv (N := N) hc hp hC ho hn hd h0
  rw [Nat.zero_add] at this
  exact this
end WRP
theorem lk_s2_n {L : List (Nat × AV)} {i j : Nat} {a v : AV} (h : ea_lk L j = some v) (h1 : j ≠ i) (h2 : j ≠ i + 1) (h3 : j + 1 ≠ i) : ea_lk (ea_s2 L i a) j = some v := by
  unfold ea_s2
  show (bif Nat.beq i j then some a else ea_lk (L.filter _) j) = some v
  have hb : Nat.beq i j = false := by
    cases hb : Nat.beq i j with
    | false => rfl
    | true => exact absurd (Nat.eq_of_beq_eq_true hb).symm h1
  rw [hb]
  refine lk_filt h (fun q _ hq => ?_)
  rw [hq]
  simp [h1, h2, h3]
def lw_L (cl : List (Nat × AV)) (i : Int32) : Prop := ea_lk cl 0 = some (.inr (.inr (.inr (.inl true)))) ∧ ea_lk cl 1 = some (.inr (.inl (some 0))) ∧ ea_lk cl 2 = some (.inr (.inl (some 190))) ∧ ea_lk cl 3 = some (.inr (.inl (some 215))) ∧ ea_lk cl 4 = some (.inl (.inl i))
theorem lw_L_s {cl : List (Nat × AV)} {i : Int32} (h : lw_L cl i) {j : Nat} (hj : 5 ≤ j) (a : AV) : lw_L (ea_s1 cl j a) i :=
  ⟨lk_s1_n1 h.1 rfl (by omega), lk_s1_n1 h.2.1 rfl (by omega), lk_s1_n1 h.2.2.1 rfl (by omega), lk_s1_n1 h.2.2.2.1 rfl (by omega), lk_s1_n1 h.2.2.2.2 rfl (by omega)⟩
theorem lw_L_l {cl : List (Nat × AV)} {i : Int32} (h : lw_L cl i) {j : Nat} (hj : 6 ≤ j) (a : AV) : lw_L (ea_s2 cl j a) i :=
  ⟨lk_s2_n h.1 (by omega) (by omega) (by omega), lk_s2_n h.2.1 (by omega) (by omega) (by omega), lk_s2_n h.2.2.1 (by omega) (by omega) (by omega), lk_s2_n h.2.2.2.1 (by omega) (by omega) (by omega), lk_s2_n h.2.2.2.2 (by omega) (by omega) (by omega)⟩
section LWL
variable {X : List AI} {N : Nat} {pc : Nat} {cl : List (Nat × AV)} {S : List AV} {C : List AC} {K : Option AV ⊕ Nat → List AC → Prop} {i : Int32}
/-- the script is ints -/
def lw_X (X : List AI) : Prop := X.length ≤ 3072 ∧ ∀ j, j < X.length → ∃ y : Int32, ea_nt X j = some (.inl y)
/-- an int of the call -/
theorem lw_ld (hX : lw_X X) (hl : lw_L cl i) {iN k : Nat} (hi : i.toInt = (iN : Int)) {kz : Int} (hk : (Int32.ofInt kz).toInt = (k : Int)) (hlt : iN + k < X.length) (c0 : ep_cod (tb_P (some X)) 0 pc = some (.aload_n 0, 1)) (c1 : ep_cod (tb_P (some X)) 0 (pc + 1) = some (.iload 4, 2)) (c2 : ep_cod (tb_P (some X)) 0 (pc + 1 + 2) = some (.iconst kz, 1)) (c3 : ep_cod (tb_P (some X)) 0 (pc + 1 + 2 + 1) = some (.iadd, 1)) (c4 : ep_cod (tb_P (some X)) 0 (pc + 1 + 2 + 1 + 1) = some (.iaload, 1)) (h : ∀ y : Int32, ea_nt X (iN + k) = some (.inl y) → okb (tb_P (some X)) N 0 (pc + 6) cl (.inl (.inl y) :: S) C K) : okb (tb_P (some X)) N 0 pc cl S C K := by
  obtain ⟨y, hy⟩ := hX.2 (iN + k) hlt
  have hx := hX.1
  have ix : (i + Int32.ofInt kz).toInt = ((iN + k : Nat) : Int) := by
    rw [i32_add (by omega) (by omega)]
    omega
  refine okb_an c0 hl.1 rfl ?_
  refine okb_il c1 hl.2.2.2.2 ?_
  refine okb_p c2 rfl rfl ?_
  refine okb_p c3 rfl rfl ?_
  exact okb_sl (X := X) c4 rfl (ix_of ix hlt) hy (h y hy)
/-- not 0 -/
theorem lw_bo {y : Int32} (c0 : ep_cod (tb_P (some X)) 0 pc = some (.ifCond .eq 7, 3)) (t0 : ea_to pc 7 = some (pc + 7)) (c1 : ep_cod (tb_P (some X)) 0 (pc + 3) = some (.iconst 1, 1)) (c2 : ep_cod (tb_P (some X)) 0 (pc + 3 + 1) = some (.goto 4, 3)) (t2 : ea_to (pc + 3 + 1) 4 = some (pc + 8)) (c3 : ep_cod (tb_P (some X)) 0 (pc + 7) = some (.iconst 0, 1)) (h : ∀ b : Int32, (b = Int32.ofInt 0 ∨ b = Int32.ofInt 1) → okb (tb_P (some X)) N 0 (pc + 8) cl (.inl (.inl b) :: S) C K) : okb (tb_P (some X)) N 0 pc cl (.inl (.inl y) :: S) C K := by
  cases hq : ea_ck .eq y 0 with
  | true =>
    refine okb_if true c0 t0 hq ?_
    exact okb_p c3 rfl rfl (h _ (Or.inl rfl))
  | false =>
    refine okb_if false c0 t0 hq ?_
    refine okb_p c1 rfl rfl ?_
    refine okb_p (pc' := pc + 8) c2 rfl ?_ (h _ (Or.inr rfl))
    show (match ea_to (pc + 3 + 1) 4 with
      | some t => some (t, cl, _)
      | none => none) = _
    rw [t2]
end LWL
theorem at_any (x : Int32) : at_g (.inl ((-2147483648), 2147483647)) (.inl (.inl x)) := ⟨x, rfl, Int32.le_toInt x, Int.le_of_lt_add_one (Int32.toInt_lt x)⟩
theorem at_bo {b : Int32} (h : b = Int32.ofInt 0 ∨ b = Int32.ofInt 1) : at_g (.inl (0, 1)) (.inl (.inl b)) := by
  rcases h with rfl | rfl
  · exact ⟨_, rfl, by decide, by decide⟩
  · exact ⟨_, rfl, by decide, by decide⟩
section RM
variable (X : Option (List AI)) {sz im T H : Int} {C : List AC}
theorem xm_lo {b k : Nat} (hb : b < k) : ∀ {M : List (Nat × Nat)}, M.all (fun q => Nat.ble k q.1) = true → xm M b = false
  | [], _ => rfl
  | q :: t, h => by
    simp only [List.all_cons, Bool.and_eq_true] at h
    have h1 := Nat.le_of_ble_eq_true h.1
    unfold xm
    rw [xm_lo hb h.2, Bool.or_false]
    have : Nat.ble q.1 b = false := by
      cases hb2 : Nat.ble q.1 b with
      | false => rfl
      | true => have := Nat.le_of_ble_eq_true hb2; omega
    rw [this, Bool.false_and]
/-- what a contract of the reference leaves -/
theorem rm_of {GF : GH} {po : PO} {v : Option AV} {EV : List Int} {C' : List AC} {t : List PB} (h : po_g GF po v EV C') (hp : po.1 = (999, 0, 1, 1) :: (1001, 0, 1, 1) :: t) : pv GF C' 999 0 1 ∧ pv GF C' 1001 0 1 ∧ ∃ NV, pb_g GF C' t NV := by
  obtain ⟨⟨NV, hNV⟩, -⟩ := h
  rw [hp] at hNV
  obtain ⟨z0, N1, rfl, ⟨p0, a1, a2⟩, hn1⟩ := ea_rl_cons hNV
  obtain ⟨z1, N2, rfl, ⟨p1, b1, b2⟩, hn2⟩ := ea_rl_cons hn1
  dsimp only at a1 a2 b1 b2
  obtain rfl : z0 = 1 := by omega
  obtain rfl : z1 = 1 := by omega
  exact ⟨p0, p1, N2, hn2⟩
theorem cx_po2 (c : CX) (v : Option AV) : cx_po c v = c.2.2.2.1 ∨ cx_po c v = c.2.2.2.2 := by
  unfold cx_po
  split
  · split
    · exact Or.inl rfl
    · exact Or.inr rfl
  · exact Or.inr rfl
/-- a call of the reference -/
theorem rm_call {c : CX} (hc : cx_ok (tb_P X) tb_G (rf_G 0) c) (hS : lt_S sz im T H C) {vs : List AV} (hv : ea_rl at_g c.1.2.1 vs) {pre : List PB} {EV : List Int} (hpre : c.1.2.2.2.2.2 = (999, 0, 1, 1) :: (1001, 0, 1, 1) :: pre) (hE : pb_g (rf_G 0) C pre EV) (hr : c.2.1 = []) {t : List PB} (hp0 : c.2.2.2.1.1 = (999, 0, 1, 1) :: (1001, 0, 1, 1) :: t) (hp1 : c.2.2.2.2.1 = (999, 0, 1, 1) :: (1001, 0, 1, 1) :: t) (hM : c.1.2.2.1.all (fun q => Nat.ble 190 q.1) = true) : ok_ (tb_P X) c.1.1 0 (ea_ar 0 vs) [] C (fun o C' => ∃ v, o = .inl v ∧ rt_g c.1.2.2.2.1 v ∧ xI tb_G C' ∧ rf_W C' ∧ rf_cls C' 201 202 ∧ rf_v C' 1 1 = sz ∧ rf_v C' 0 14 = im ∧ (xm c.1.2.2.1 1007 = false → rf_v C' 190 18 = T) ∧ (xm c.1.2.2.1 1008 = false → rf_v C' 190 11 = H) ∧ ∃ NV, pb_g (rf_G 0) C' t NV) := by
  have e1 : pv (rf_G 0) C 999 0 1 := rf_b_1 hS.2.1
  have e2 : pv (rf_G 0) C 1001 0 1 := rf_b_1 hS.2.2.1
  refine ok_post (hc vs C (1 :: 1 :: EV) hv hS.1 (by rw [hpre]; exact ⟨⟨e1, by decide, by decide⟩, ⟨e2, by decide, by decide⟩, hE⟩) (by rw [hr]; exact fun q hq => nomatch hq)) (fun o C' hq => ?_)
  obtain ⟨v, rfl, I', F', rv, P'⟩ := hq
  have hP : pv (rf_G 0) C' 999 0 1 ∧ pv (rf_G 0) C' 1001 0 1 ∧ ∃ NV, pb_g (rf_G 0) C' t NV := by
    rcases cx_po2 c v with e | e
    · exact rm_of P' (by rw [e, hp0])
    · exact rm_of P' (by rw [e, hp1])
  refine ⟨v, rfl, rv, I', rf_G_W hP.1 (by decide) (by decide), jj_of hP.2.1 (by decide) (by decide), ?_, ?_, fun h7 => ?_, fun h8 => ?_, hP.2.2⟩
  · rw [rf_v_eq (cv_eq (F'.1 1 (xm_lo (by decide) hM)) 1)]; exact hS.2.2.2.1
  · rw [rf_v_eq (cv_eq (F'.1 0 (xm_lo (by decide) hM)) 14)]; exact hS.2.2.2.2.1
  · have e1 : rf_G 0 1007 C' = rf_v C' 190 18 := rfl
    have e2 : rf_G 0 1007 C = rf_v C 190 18 := rfl
    rw [← e1, F'.2 1007 (by decide) h7, e2]
    exact hS.2.2.2.2.2.1
  · have e1 : rf_G 0 1008 C' = rf_v C' 190 11 := rfl
    have e2 : rf_G 0 1008 C = rf_v C 190 11 := rfl
    rw [← e1, F'.2 1008 (by decide) h8, e2]
    exact hS.2.2.2.2.2.2
def rm_K (kd : Nat) (sz im T H : Int) (o : Option AV ⊕ Nat) (C' : List AC) : Prop := en_P kd [] o ∧ lt_S sz im T H C'
theorem en_rt {t : Nat × Int × Int} {v : Option AV} (h : rt_g t v) : en_P t.1 [] (.inl v) := by
  obtain ⟨k, lo, hi⟩ := t
  match k, h with
  | 0, h => exact h
  | 1, ⟨x, e, _⟩ => exact ⟨x, e⟩
  | _ + 2, ⟨y, e⟩ => exact ⟨y, e⟩
/-- tape and image alone -/
theorem rm_norm {c : CX} (hc : cx_ok (tb_P X) tb_G (rf_G 0) c) (hS : lt_S sz im T H C) {vs : List AV} (hv : ea_rl at_g c.1.2.1 vs) (hpre : c.1.2.2.2.2.2 = [(999, 0, 1, 1), (1001, 0, 1, 1)]) (hr : c.2.1 = []) (hp0 : c.2.2.2.1.1 = [(999, 0, 1, 1), (1001, 0, 1, 1)]) (hp1 : c.2.2.2.2.1 = [(999, 0, 1, 1), (1001, 0, 1, 1)]) (hM : c.1.2.2.1.all (fun q => Nat.ble 190 q.1) = true) (h7 : xm c.1.2.2.1 1007 = false) (h8 : xm c.1.2.2.1 1008 = false) : ok_ (tb_P X) c.1.1 0 (ea_ar 0 vs) [] C (rm_K c.1.2.2.2.1.1 sz im T H) := by
  refine ok_post (rm_call X hc hS hv (EV := []) hpre trivial hr hp0 hp1 hM) (fun o C' hq => ?_)
  obtain ⟨v, rfl, rv, a, b, c', d, e, f, g, -⟩ := hq
  exact ⟨en_rt rv, a, b, c', d, e, f h7, g h8⟩
/-- the tape is used up -/
theorem rm_use {c : CX} (hc : cx_ok (tb_P X) tb_G (rf_G 0) c) (hS : lt_S sz im T H C) {vs : List AV} (hv : ea_rl at_g c.1.2.1 vs) {pre : List PB} {EV : List Int} (hpre : c.1.2.2.2.2.2 = (999, 0, 1, 1) :: (1001, 0, 1, 1) :: pre) (hE : pb_g (rf_G 0) C pre EV) (hr : c.2.1 = []) (hp0 : c.2.2.2.1.1 = [(999, 0, 1, 1), (1001, 0, 1, 1), (1007, 0, 0, 0)]) (hp1 : c.2.2.2.2.1 = [(999, 0, 1, 1), (1001, 0, 1, 1), (1007, 0, 0, 0)]) (hM : c.1.2.2.1.all (fun q => Nat.ble 190 q.1) = true) (h8 : xm c.1.2.2.1 1008 = false) : ok_ (tb_P X) c.1.1 0 (ea_ar 0 vs) [] C (rm_K c.1.2.2.2.1.1 sz im 0 H) := by
  refine ok_post (rm_call X hc hS hv hpre hE hr hp0 hp1 hM) (fun o C' hq => ?_)
  obtain ⟨v, rfl, rv, a, b, c', d, e, -, g, NV, hNV⟩ := hq
  obtain ⟨z, N1, rfl, ⟨pz, z1, z2⟩, -⟩ := ea_rl_cons hNV
  have ez : rf_v C' 190 18 = z := pz
  dsimp only at z1 z2
  exact ⟨en_rt rv, a, b, c', d, e, by omega, g h8⟩
theorem lt_22 (hS : lt_S sz im T H C) : ∃ z, pb_g (rf_G 0) C [(190, 22, 0, 6)] [z] := by
  obtain ⟨ms, m1, m2, m3⟩ := hI_f hS.1 (show tb_G 190 = some (.inl (12, _)) from rfl)
  obtain ⟨_, r22, dd, rfl, d1, d2⟩ := m3 22 (.inl (0, 6)) rfl
  exact ⟨dd.toInt, ⟨pv_f (a := 190) (by decide) m1 r22, d1, d2⟩, trivial⟩
theorem lt_18 (hS : lt_S sz im T H C) : 0 ≤ T ∧ T ≤ 400 ∧ pb_g (rf_G 0) C [(190, 18, 0, 400)] [T] := by
  obtain ⟨ms, m1, m2, m3⟩ := hI_f hS.1 (show tb_G 190 = some (.inl (12, _)) from rfl)
  obtain ⟨_, r18, dd, rfl, d1, d2⟩ := m3 18 (.inl (0, 400)) rfl
  have h := rf_f m1 r18
  rw [hS.2.2.2.2.2.1] at h
  subst h
  exact ⟨d1, d2, ⟨pv_f (a := 190) (by decide) m1 r18, d1, d2⟩, trivial⟩
/-- feed -/
theorem rm_feed {a b c d e : Int32} (hS : lt_S sz im T H C) : ok_ (tb_P X) 211 0 (ea_ar 0 [.inr (.inl (some 190)), .inl (.inl a), .inl (.inl b), .inl (.inl c), .inl (.inl d), .inl (.inl e)]) [] C (fun o C' => ∃ y : Int32, o = .inl (some (.inl (.inl y))) ∧ ((T ≤ 380 ∧ y.toInt = T + 20 ∧ lt_S sz im (T + 20) H C') ∨ (381 ≤ T ∧ y.toInt = -1 ∧ lt_S sz im T H C'))) := by
  obtain ⟨T1, T2, pT⟩ := lt_18 hS
  have e1 : pv (rf_G 0) C 999 0 1 := rf_b_1 hS.2.1
  have e2 : pv (rf_G 0) C 1001 0 1 := rf_b_1 hS.2.2.1
  refine ok_post ((show cx_ok (tb_P X) tb_G (rf_G 0) trk_59 from tr_yes X 59 (by decide) 0) _ C [1, 1, T] ⟨rfl, at_any a, at_any b, at_any c, at_any d, at_any e, trivial⟩ hS.1 ⟨⟨e1, by decide, by decide⟩, ⟨e2, by decide, by decide⟩, pT⟩ (fun q hq => nomatch hq)) (fun o C' hq => ?_)
  obtain ⟨v, rfl, I', F', ⟨y, rfl, y1, y2⟩, P'⟩ := hq
  have hsz : rf_v C' 1 1 = sz := by rw [rf_v_eq (cv_eq (F'.1 1 rfl) 1)]; exact hS.2.2.2.1
  have him : rf_v C' 0 14 = im := by rw [rf_v_eq (cv_eq (F'.1 0 rfl) 14)]; exact hS.2.2.2.2.1
  have hH : rf_v C' 190 11 = H := by
    have e1 : rf_G 0 1008 C' = rf_v C' 190 11 := rfl
    have e2 : rf_G 0 1008 C = rf_v C 190 11 := rfl
    rw [← e1, F'.2 1008 (by decide) rfl, e2]
    exact hS.2.2.2.2.2.2
  have y3 : -1 ≤ y.toInt := y1
  refine ⟨y, rfl, ?_⟩
  by_cases hy : y.toInt < 0
  · have e : cx_po trk_59 (some (.inl (.inl y))) = trk_59.2.2.2.1 := if_pos hy
    rw [e] at P'
    have hP := rm_of (t := [(190, 18, 381, 400)]) P' rfl
    obtain ⟨⟨NV, hNV⟩, hR⟩ := P'
    obtain ⟨_, N1, rfl, -, hn1⟩ := ea_rl_cons hNV
    obtain ⟨_, N2, rfl, -, hn2⟩ := ea_rl_cons hn1
    obtain ⟨zs, N3, rfl, ⟨zS, zs1, zs2⟩, -⟩ := ea_rl_cons hn2
    have w1 := rl_z hR (.head _) (z1 := zs) (z2 := T) zS rfl
    have w2 := rl_z hR (.tail _ (.head _)) (z1 := T) (z2 := zs) rfl zS
    have ez : rf_v C' 190 18 = zs := rf_v_pv (a := 190) (by decide) zS
    dsimp only at zs1
    exact Or.inr ⟨by omega, by omega, I', rf_G_W hP.1 (by decide) (by decide), jj_of hP.2.1 (by decide) (by decide), hsz, him, by omega, hH⟩
  · have e : cx_po trk_59 (some (.inl (.inl y))) = trk_59.2.2.2.2 := if_neg hy
    rw [e] at P'
    have hP := rm_of (t := [(190, 18, 20, 400)]) P' rfl
    obtain ⟨⟨NV, hNV⟩, hR⟩ := P'
    obtain ⟨_, N1, rfl, -, hn1⟩ := ea_rl_cons hNV
    obtain ⟨_, N2, rfl, -, hn2⟩ := ea_rl_cons hn1
    obtain ⟨zs, N3, rfl, ⟨zS, zs1, zs2⟩, -⟩ := ea_rl_cons hn2
    have w1 := rl_z hR (.head _) (z1 := zs) (z2 := T) zS rfl
    have w2 := rl_z hR (.tail _ (.head _)) (z1 := T) (z2 := zs) rfl zS
    have w3 := rl_z hR (.tail _ (.tail _ (.head _))) (z1 := y.toInt) (z2 := T) ⟨y, rfl, rfl⟩ rfl
    have w4 := rl_z hR (.tail _ (.tail _ (.tail _ (.head _)))) (z1 := T) (z2 := y.toInt) rfl ⟨y, rfl, rfl⟩
    have ez : rf_v C' 190 18 = zs := rf_v_pv (a := 190) (by decide) zS
    dsimp only at zs2
    exact Or.inl ⟨by omega, by omega, I', rf_G_W hP.1 (by decide) (by decide), jj_of hP.2.1 (by decide) (by decide), hsz, him, by omega, hH⟩
/-- one field of the reference is written, not one that the ghosts look at -/
theorem lt_f {k : Nat} {s : List AV} {v : AV} (hS : lt_S sz im T H C) (hs : ea_nt C 190 = some (.inr (12, s))) (hI : xI tb_G (C.set 190 (.inr (12, s.set k v)))) (hg : gs_all tr_gs [(190, 191), (1004, 1009)] (190, (k : Int), (k : Int), 1, 0) = true) : xI tb_G (C.set 190 (.inr (12, s.set k v))) ∧ rf_W (C.set 190 (.inr (12, s.set k v))) ∧ rf_cls (C.set 190 (.inr (12, s.set k v))) 201 202 ∧ rf_v (C.set 190 (.inr (12, s.set k v))) 1 1 = sz ∧ rf_v (C.set 190 (.inr (12, s.set k v))) 0 14 = im := by
  have F : fr_c (rf_G 0) [(190, 191), (1004, 1009)] C (C.set 190 (.inr (12, s.set k v))) := fr_f 0 hs (by decide) hg
  exact ⟨hI, rf_W_of (F.2 999 (by decide) (by decide)) hS.2.1, rf_J_of (F.2 1001 (by decide) (by decide)) hS.2.2.1, by rw [rf_v_eq (cv_eq (F.1 1 rfl) 1)]; exact hS.2.2.2.1, by rw [rf_v_eq (cv_eq (F.1 0 rfl) 14)]; exact hS.2.2.2.2.1⟩
/-- end -/
theorem rm_end {n : Int32} (hS : lt_S sz im T H C) : ok_ (tb_P X) 212 0 (ea_ar 0 [.inr (.inl (some 190)), .inl (.inl n)]) [] C (fun o C' => ∃ y : Int32, o = .inl (some (.inl (.inl y))) ∧ ((0 ≤ n.toInt ∧ n.toInt ≤ T ∧ y = Int32.ofInt 1 ∧ lt_S sz im n.toInt H C') ∨ (¬ (0 ≤ n.toInt ∧ n.toInt ≤ T) ∧ y = Int32.ofInt 0 ∧ lt_S sz im T H C'))) := by
  obtain ⟨ms, m1, m2, m3⟩ := hI_f hS.1 (show tb_G 190 = some (.inl (12, _)) from rfl)
  have hlen : ms.length = 38 := m2
  refine ok_p rfl rfl rfl ?_
  refine ok_p rfl rfl rfl ?_
  refine ok_pf (v := .inl (.inl (Int32.ofInt 0))) rfl rfl m1 rfl (by rw [hlen]; rfl) ?_
  have S1 : lt_S sz im T H (C.set 190 (.inr (12, ms.set 0 (.inl (.inl (Int32.ofInt 0)))))) := by
    obtain ⟨a, b, c, d, e⟩ := lt_f hS m1 (k := 0) (v := .inl (.inl (Int32.ofInt 0))) (xI_sf hS.1 (show tb_G 190 = some (.inl (12, _)) from rfl) m1 (f := .inl (-2147483648, 2147483647)) rfl ⟨_, rfl, by decide, by decide⟩) (by decide)
    exact ⟨a, b, c, d, e, by rw [rf_fs m1 (by decide)]; exact hS.2.2.2.2.2.1, by rw [rf_fs m1 (by decide)]; exact hS.2.2.2.2.2.2⟩
  revert S1
  generalize C.set 190 (.inr (12, ms.set 0 (.inl (.inl (Int32.ofInt 0))))) = C1
  intro S1
  obtain ⟨s1, n1, n2, n3⟩ := hI_f S1.1 (show tb_G 190 = some (.inl (12, _)) from rfl)
  have hlen1 : s1.length = 38 := n2
  obtain ⟨_, r18, tp, rfl, t1, t2⟩ := n3 18 (.inl (0, 400)) rfl
  have hT : tp.toInt = T := by rw [← S1.2.2.2.2.2.1]; exact (rf_f n1 r18).symm
  dsimp only at t1 t2
  have no : ¬ (0 ≤ n.toInt ∧ n.toInt ≤ T) → ok_ (tb_P X) 212 17 [(0, .inr (.inl (some 190))), (1, .inl (.inl n))] [] C1 (fun o C' => ∃ y : Int32, o = .inl (some (.inl (.inl y))) ∧ ((0 ≤ n.toInt ∧ n.toInt ≤ T ∧ y = Int32.ofInt 1 ∧ lt_S sz im n.toInt H C') ∨ (¬ (0 ≤ n.toInt ∧ n.toInt ≤ T) ∧ y = Int32.ofInt 0 ∧ lt_S sz im T H C'))) := fun hn => by
    refine ok_p rfl rfl rfl ?_
    exact ok_r rfl rfl rfl rfl rfl ⟨_, rfl, Or.inr ⟨hn, rfl, S1⟩⟩
  refine ok_p rfl rfl rfl ?_
  cases hq : ea_ck .lt n 0 with
  | true =>
    have e1 : n < 0 := of_decide_eq_true hq
    rw [Int32.lt_iff_toInt_lt, show (0 : Int32).toInt = 0 by decide] at e1
    refine ok_if true rfl rfl hq ?_
    exact no (by omega)
  | false =>
    have e1 : ¬ n < 0 := of_decide_eq_false hq
    rw [Int32.lt_iff_toInt_lt, show (0 : Int32).toInt = 0 by decide] at e1
    refine ok_if false rfl rfl hq ?_
    refine ok_p rfl rfl rfl ?_
    refine ok_p rfl rfl rfl ?_
    refine ok_gf rfl rfl n1 r18 ?_
    cases hr : ea_ck .le n tp with
    | false =>
      have e2 : ¬ n ≤ tp := of_decide_eq_false hr
      rw [Int32.le_iff_toInt_le] at e2
      refine ok_ic false rfl rfl hr ?_
      exact no (by omega)
    | true =>
      have e2 : n ≤ tp := of_decide_eq_true hr
      rw [Int32.le_iff_toInt_le] at e2
      refine ok_ic true rfl rfl hr ?_
      refine ok_p rfl rfl rfl ?_
      refine ok_p rfl rfl rfl ?_
      refine ok_pf (v := .inl (.inl n)) rfl rfl n1 rfl (by rw [hlen1]; rfl) ?_
      refine ok_p rfl rfl rfl ?_
      refine ok_r rfl rfl rfl rfl rfl ⟨_, rfl, Or.inl ⟨by omega, by omega, rfl, ?_⟩⟩
      obtain ⟨a, b, c, d, e⟩ := lt_f S1 n1 (k := 18) (v := .inl (.inl n)) (xI_sf S1.1 (show tb_G 190 = some (.inl (12, _)) from rfl) n1 (f := .inl (0, 400)) rfl ⟨_, rfl, by show (0 : Int) ≤ n.toInt; omega, by show n.toInt ≤ (400 : Int); omega⟩) (by decide)
      exact ⟨a, b, c, d, e, rf_f (nt_set_self n1) (nt_set_self r18), by rw [rf_fs n1 (by decide)]; exact S1.2.2.2.2.2.2⟩
/-- image -/
theorem rm_image (hS : lt_S sz im T H C) : ok_ (tb_P X) 193 0 (ea_ar 0 [.inr (.inl (some 190))]) [] C (fun o C' => o = .inl none ∧ lt_S sz im T 1 C') := by
  have e1 : pv (rf_G 0) C 999 0 1 := rf_b_1 hS.2.1
  have e2 : pv (rf_G 0) C 1001 0 1 := rf_b_1 hS.2.2.1
  obtain ⟨ms, m1, m2, m3⟩ := hI_f hS.1 (show tb_G 190 = some (.inl (12, _)) from rfl)
  have hlen : ms.length = 38 := m2
  refine ok_p rfl rfl rfl ?_
  refine ok_p rfl rfl rfl ?_
  refine ok_pf (v := .inl (.inl (Int32.ofInt 0))) rfl rfl m1 rfl (by rw [hlen]; rfl) ?_
  have S1 : lt_S sz im T H (C.set 190 (.inr (12, ms.set 0 (.inl (.inl (Int32.ofInt 0)))))) := by
    obtain ⟨a, b, c, d, e⟩ := lt_f hS m1 (k := 0) (v := .inl (.inl (Int32.ofInt 0))) (xI_sf hS.1 (show tb_G 190 = some (.inl (12, _)) from rfl) m1 (f := .inl (-2147483648, 2147483647)) rfl ⟨_, rfl, by decide, by decide⟩) (by decide)
    exact ⟨a, b, c, d, e, by rw [rf_fs m1 (by decide)]; exact hS.2.2.2.2.2.1, by rw [rf_fs m1 (by decide)]; exact hS.2.2.2.2.2.2⟩
  revert S1
  generalize C.set 190 (.inr (12, ms.set 0 (.inl (.inl (Int32.ofInt 0))))) = C1
  intro S1
  obtain ⟨s1, n1, n2, n3⟩ := hI_f S1.1 (show tb_G 190 = some (.inl (12, _)) from rfl)
  obtain ⟨_, r1, rfl⟩ := n3 1 (.inr 191) rfl
  obtain ⟨_, r2, rfl⟩ := n3 2 (.inr 192) rfl
  obtain ⟨_, r6, rfl⟩ := n3 6 (.inr 196) rfl
  obtain ⟨_, r7, rfl⟩ := n3 7 (.inr 197) rfl
  have z0 : at_g (.inl (0, 0)) (.inl (.inl (Int32.ofInt 0))) := ⟨_, rfl, by decide, by decide⟩
  refine ok_p rfl rfl rfl ?_
  refine ok_gf rfl rfl n1 r1 ?_
  refine ok_p rfl rfl rfl ?_
  refine ok_p rfl rfl rfl ?_
  refine ok_gf rfl rfl n1 r2 ?_
  refine ok_p rfl rfl rfl ?_
  refine ok_cxs (c := trk_5) (show cx_ok (tb_P X) tb_G (rf_G 0) trk_5 from tr_yes X 5 (by decide) 0) (as := [.inr (.inl (some 191)), .inl (.inl (Int32.ofInt 0)), .inr (.inl (some 192)), .inl (.inl (Int32.ofInt 0))]) (T := []) (EV := [1, 1]) rfl rfl rfl rfl ⟨rfl, z0, rfl, z0, trivial⟩ S1.1 ⟨⟨rf_b_1 S1.2.1, by decide, by decide⟩, ⟨rf_b_1 S1.2.2.1, by decide, by decide⟩, trivial⟩ (fun q hq => nomatch hq) (fun w C2 I2 F2 rv P2 => ?_)
  obtain rfl : w = none := rv
  have W2 := rm_of (t := []) P2 rfl
  have N2 : ea_nt C2 190 = some (.inr (12, s1)) := by rw [F2.1 190 rfl]; exact n1
  show ok_ (tb_P X) 193 18 _ [] C2 _
  refine ok_p rfl rfl rfl ?_
  refine ok_gf rfl rfl N2 r6 ?_
  refine ok_p rfl rfl rfl ?_
  refine ok_p rfl rfl rfl ?_
  refine ok_gf rfl rfl N2 r7 ?_
  refine ok_p rfl rfl rfl ?_
  refine ok_cxs (c := trk_47) (show cx_ok (tb_P X) tb_G (rf_G 0) trk_47 from tr_yes X 47 (by decide) 0) (as := [.inr (.inl (some 196)), .inl (.inl (Int32.ofInt 0)), .inr (.inl (some 197)), .inl (.inl (Int32.ofInt 0))]) (T := []) (EV := [1, 1]) rfl rfl rfl rfl ⟨rfl, z0, rfl, z0, trivial⟩ I2 ⟨⟨W2.1, by decide, by decide⟩, ⟨W2.2.1, by decide, by decide⟩, trivial⟩ (fun q hq => nomatch hq) (fun w C3 I3 F3 rv P3 => ?_)
  obtain rfl : w = none := rv
  have W3 := rm_of (t := []) P3 rfl
  show ok_ (tb_P X) 193 31 _ [] C3 _
  refine tr_m0 X 0 [(0, .inr (.inl (some 190)))] [] C3 [1, 1] _ (fun q hq => ?_) I3 ⟨⟨W3.1, by decide, by decide⟩, ⟨W3.2.1, by decide, by decide⟩, trivial⟩ (fun q hq => nomatch hq) (fun C4 I4 F4 P4 => ?_)
  · rcases List.mem_cons.mp hq with rfl | hq
    · exact ⟨_, rfl, rfl⟩
    · exact nomatch hq
  have W4 := rm_of (t := []) P4 rfl
  obtain ⟨s4, k1, k2, k3⟩ := hI_f I4 (show tb_G 190 = some (.inl (12, _)) from rfl)
  have hlen4 : s4.length = 38 := k2
  obtain ⟨_, k11, hh, rfl, -, -⟩ := k3 11 (.inl (0, 1)) rfl
  have S4 : lt_S sz im T (rf_v C4 190 11) C4 := by
    refine ⟨I4, rf_G_W W4.1 (by decide) (by decide), jj_of W4.2.1 (by decide) (by decide), ?_, ?_, ?_, rfl⟩
    · rw [rf_v_eq (cv_eq (F4.1 1 rfl) 1), rf_v_eq (cv_eq (F3.1 1 rfl) 1), rf_v_eq (cv_eq (F2.1 1 rfl) 1)]; exact S1.2.2.2.1
    · rw [rf_v_eq (cv_eq (F4.1 0 rfl) 14), rf_v_eq (cv_eq (F3.1 0 rfl) 14), rf_v_eq (cv_eq (F2.1 0 rfl) 14)]; exact S1.2.2.2.2.1
    · have a1 : rf_G 0 1007 C4 = rf_v C4 190 18 := rfl
      have a2 : rf_G 0 1007 C1 = rf_v C1 190 18 := rfl
      rw [← a1, F4.2 1007 (by decide) rfl, F3.2 1007 (by decide) rfl, F2.2 1007 (by decide) rfl, a2]
      exact S1.2.2.2.2.2.1
  refine ok_p rfl rfl rfl ?_
  refine ok_p rfl rfl rfl ?_
  refine ok_pf (v := .inl (.inl (Int32.ofInt 1))) rfl rfl k1 rfl (by rw [hlen4]; rfl) ?_
  refine ok_r rfl rfl rfl rfl rfl ⟨rfl, ?_⟩
  obtain ⟨a, b, c, d, e⟩ := lt_f S4 k1 (k := 11) (v := .inl (.inl (Int32.ofInt 1))) (xI_sf I4 (show tb_G 190 = some (.inl (12, _)) from rfl) k1 (f := .inl (0, 1)) rfl ⟨_, rfl, by decide, by decide⟩) (by decide)
  exact ⟨a, b, c, d, e, by rw [rf_fs k1 (by decide)]; exact S4.2.2.2.2.2.1, rf_f (nt_set_self k1) (nt_set_self k11)⟩
end RM
end
section
/-! THE LAW: back, whose answer is whether an image was kept -/
section CLS3
variable (X : Option (List AI))
/-- back of the class -/
theorem cm_back {C : List AC} (hI : xI tb_G C) : ok_ (tb_P X) 176 0 (ea_ar 0 [.inr (.inl (some 0))]) [] C (fun o C' => ∃ y : Int32, o = .inl (some (.inl (.inl y))) ∧ ((rf_v C 0 14 = 0 ∧ y = Int32.ofInt 0) ∨ (rf_v C 0 14 ≠ 0 ∧ y = Int32.ofInt 1)) ∧ cm_P (rf_v C 1 1) (rf_v C 0 14) C C') := by
  obtain ⟨xs, x1, x2, x3⟩ := hI_f hI (show tb_G 0 = some (.inl (11, _)) from rfl)
  have hlen : xs.length = 16 := x2
  obtain ⟨_, q2, rfl⟩ := x3 2 (.inr 8) rfl
  obtain ⟨_, q4, rfl⟩ := x3 4 (.inr 18) rfl
  obtain ⟨_, q8, rfl⟩ := x3 8 (.inr 44) rfl
  obtain ⟨_, q12, rfl⟩ := x3 12 (.inr 173) rfl
  obtain ⟨_, q13, rfl⟩ := x3 13 (.inr 178) rfl
  obtain ⟨_, q14, im, rfl, -, -⟩ := x3 14 (.inl (0, 1)) rfl
  have him : rf_v C 0 14 = im.toInt := rf_f x1 q14
  refine ok_p rfl rfl rfl ?_
  refine ok_gf rfl rfl x1 q14 ?_
  cases hb : ea_ck .ne im 0 with
  | false =>
    have e0 : im = 0 := by
      have h1 : (!decide (im = 0)) = false := hb
      simpa using h1
    refine ok_if false rfl rfl hb ?_
    refine ok_p rfl rfl rfl ?_
    exact ok_r rfl rfl rfl rfl rfl ⟨_, rfl, Or.inl ⟨by rw [him, e0]; rfl, rfl⟩, hI, fun b hb => rfl, rfl, rfl⟩
  | true =>
    have e0 : im ≠ 0 := by
      have h1 : (!decide (im = 0)) = true := hb
      simpa using h1
    have e1 : rf_v C 0 14 ≠ 0 := by
      rw [him]
      intro h
      exact e0 (Int32.toInt_inj.mp h)
    refine ok_if true rfl rfl hb ?_
    obtain ⟨ys, y1, -, -⟩ := hI_f hI (show tb_G 8 = some (.inl (1, _)) from rfl)
    refine ok_p rfl rfl rfl ?_
    refine ok_gf rfl rfl x1 q2 ?_
    refine ok_p rfl rfl rfl ?_
    refine ok_gf rfl rfl x1 q12 ?_
    refine ok_cn (tk_yes X 26 (by decide)) (as := [.inr (.inl (some 173))]) (T := []) rfl rfl y1 rfl rfl rfl ⟨rfl, rfl, trivial⟩ hI rfl (fun w C1 I1 F1 rv => ?_) (fun ce C' h => nomatch h)
    obtain rfl : w = none := rv
    show ok_ (tb_P X) 176 20 _ [] C1 _
    have X1 : ea_nt C1 0 = some (.inr (11, xs)) := by rw [F1 0 rfl]; exact x1
    obtain ⟨zs, z1, -, -⟩ := hI_f I1 (show tb_G 18 = some (.inl (10, _)) from rfl)
    refine ok_p rfl rfl rfl ?_
    refine ok_gf rfl rfl X1 q4 ?_
    refine ok_p rfl rfl rfl ?_
    refine ok_gf rfl rfl X1 q13 ?_
    refine ok_cn (tk_yes X 125 (by decide)) (as := [.inr (.inl (some 178))]) (T := []) rfl rfl z1 rfl rfl rfl ⟨rfl, rfl, trivial⟩ I1 rfl (fun w C2 I2 F2 rv => ?_) (fun ce C' h => nomatch h)
    obtain rfl : w = none := rv
    show ok_ (tb_P X) 176 31 _ [] C2 _
    have X2 : ea_nt C2 0 = some (.inr (11, xs)) := by rw [F2 0 rfl]; exact X1
    obtain ⟨fs, f1, f2, -⟩ := hI_f I2 (show tb_G 44 = some (.inl (4, _)) from rfl)
    have hlf : fs.length = 3 := f2
    refine ok_p rfl rfl rfl ?_
    refine ok_gf rfl rfl X2 q8 ?_
    refine ok_cv (mj := 54) (as := []) (T := []) rfl rfl f1 rfl rfl rfl ?_
    refine ok_p rfl rfl rfl ?_
    refine ok_p rfl rfl rfl ?_
    refine ok_pf (v := .inl (.inl (Int32.ofInt 0))) rfl rfl f1 rfl (by rw [hlf]; rfl) ?_
    have I3 := xI_sf I2 (show tb_G 44 = some (.inl (4, _)) from rfl) f1 (k := 2) (v := .inl (.inl (Int32.ofInt 0))) rfl ⟨_, rfl, by decide, by decide⟩
    refine ok_r rfl rfl rfl rfl rfl ?_
    show ok_ (tb_P X) 176 38 _ [] _ _
    refine ok_p rfl rfl rfl ?_
    refine ok_r rfl rfl rfl rfl rfl ⟨_, rfl, Or.inr ⟨e1, rfl⟩, I3, fun b hb => ?_, ?_, ?_⟩
    · rw [nt_set_ne (by omega), F2 b (xm_hi (M := [(18, 30)]) hb (by decide)), F1 b (xm_hi (M := [(8, 13)]) hb (by decide))]
    · rw [rf_fa f1 (fun h => absurd h (by decide)), rf_v_eq (cv_eq (F2 1 rfl) 1), rf_v_eq (cv_eq (F1 1 rfl) 1)]
    · rw [rf_fa f1 (fun h => absurd h (by decide)), rf_v_eq (cv_eq (F2 0 rfl) 14), rf_v_eq (cv_eq (F1 0 rfl) 14)]
end CLS3
section RM3
variable (X : Option (List AI)) {sz im T H : Int} {C : List AC}
/-- back of the reference -/
theorem rm_back (hS : lt_S sz im T H C) : ok_ (tb_P X) 194 0 (ea_ar 0 [.inr (.inl (some 190))]) [] C (fun o C' => ∃ y : Int32, o = .inl (some (.inl (.inl y))) ∧ ((H = 0 ∧ y = Int32.ofInt 0) ∨ (H ≠ 0 ∧ y = Int32.ofInt 1)) ∧ lt_S sz im T H C') := by
  have e1 : pv (rf_G 0) C 999 0 1 := rf_b_1 hS.2.1
  have e2 : pv (rf_G 0) C 1001 0 1 := rf_b_1 hS.2.2.1
  obtain ⟨ms, m1, m2, m3⟩ := hI_f hS.1 (show tb_G 190 = some (.inl (12, _)) from rfl)
  have hlen : ms.length = 38 := m2
  refine ok_p rfl rfl rfl ?_
  refine ok_p rfl rfl rfl ?_
  refine ok_pf (v := .inl (.inl (Int32.ofInt 0))) rfl rfl m1 rfl (by rw [hlen]; rfl) ?_
  have S1 : lt_S sz im T H (C.set 190 (.inr (12, ms.set 0 (.inl (.inl (Int32.ofInt 0)))))) := by
    obtain ⟨a, b, c, d, e⟩ := lt_f hS m1 (k := 0) (v := .inl (.inl (Int32.ofInt 0))) (xI_sf hS.1 (show tb_G 190 = some (.inl (12, _)) from rfl) m1 (f := .inl (-2147483648, 2147483647)) rfl ⟨_, rfl, by decide, by decide⟩) (by decide)
    exact ⟨a, b, c, d, e, by rw [rf_fs m1 (by decide)]; exact hS.2.2.2.2.2.1, by rw [rf_fs m1 (by decide)]; exact hS.2.2.2.2.2.2⟩
  revert S1
  generalize C.set 190 (.inr (12, ms.set 0 (.inl (.inl (Int32.ofInt 0))))) = C1
  intro S1
  obtain ⟨s1, n1, n2, n3⟩ := hI_f S1.1 (show tb_G 190 = some (.inl (12, _)) from rfl)
  obtain ⟨_, r1, rfl⟩ := n3 1 (.inr 191) rfl
  obtain ⟨_, r2, rfl⟩ := n3 2 (.inr 192) rfl
  obtain ⟨_, r6, rfl⟩ := n3 6 (.inr 196) rfl
  obtain ⟨_, r7, rfl⟩ := n3 7 (.inr 197) rfl
  obtain ⟨_, r11, hh, rfl, -, -⟩ := n3 11 (.inl (0, 1)) rfl
  have hH : hh.toInt = H := by rw [← rf_f n1 r11]; exact S1.2.2.2.2.2.2
  have z0 : at_g (.inl (0, 0)) (.inl (.inl (Int32.ofInt 0))) := ⟨_, rfl, by decide, by decide⟩
  refine ok_p rfl rfl rfl ?_
  refine ok_gf rfl rfl n1 r11 ?_
  cases hb : ea_ck .ne hh 0 with
  | false =>
    have e0 : hh = 0 := by
      have h1 : (!decide (hh = 0)) = false := hb
      simpa using h1
    refine ok_if false rfl rfl hb ?_
    refine ok_p rfl rfl rfl ?_
    exact ok_r rfl rfl rfl rfl rfl ⟨_, rfl, Or.inl ⟨by rw [← hH, e0]; rfl, rfl⟩, S1⟩
  | true =>
  have e0 : hh ≠ 0 := by
    have h1 : (!decide (hh = 0)) = true := hb
    simpa using h1
  have e9 : H ≠ 0 := by
    rw [← hH]
    intro h
    exact e0 (Int32.toInt_inj.mp h)
  refine ok_if true rfl rfl hb ?_
  refine ok_p rfl rfl rfl ?_
  refine ok_gf rfl rfl n1 r2 ?_
  refine ok_p rfl rfl rfl ?_
  refine ok_p rfl rfl rfl ?_
  refine ok_gf rfl rfl n1 r1 ?_
  refine ok_p rfl rfl rfl ?_
  refine ok_cxs (c := trk_6) (show cx_ok (tb_P X) tb_G (rf_G 0) trk_6 from tr_yes X 6 (by decide) 0) (as := [.inr (.inl (some 192)), .inl (.inl (Int32.ofInt 0)), .inr (.inl (some 191)), .inl (.inl (Int32.ofInt 0))]) (T := []) (EV := [1, 1]) rfl rfl rfl rfl ⟨rfl, z0, rfl, z0, trivial⟩ S1.1 ⟨⟨rf_b_1 S1.2.1, by decide, by decide⟩, ⟨rf_b_1 S1.2.2.1, by decide, by decide⟩, trivial⟩ (fun q hq => nomatch hq) (fun w C2 I2 F2 rv P2 => ?_)
  obtain rfl : w = none := rv
  have W2 := rm_of (t := []) P2 rfl
  have N2 : ea_nt C2 190 = some (.inr (12, s1)) := by rw [F2.1 190 rfl]; exact n1
  show ok_ (tb_P X) 194 27 _ [] C2 _
  refine ok_p rfl rfl rfl ?_
  refine ok_gf rfl rfl N2 r7 ?_
  refine ok_p rfl rfl rfl ?_
  refine ok_p rfl rfl rfl ?_
  refine ok_gf rfl rfl N2 r6 ?_
  refine ok_p rfl rfl rfl ?_
  refine ok_cxs (c := trk_51) (show cx_ok (tb_P X) tb_G (rf_G 0) trk_51 from tr_yes X 51 (by decide) 0) (as := [.inr (.inl (some 197)), .inl (.inl (Int32.ofInt 0)), .inr (.inl (some 196)), .inl (.inl (Int32.ofInt 0))]) (T := []) (EV := [1, 1]) rfl rfl rfl rfl ⟨rfl, z0, rfl, z0, trivial⟩ I2 ⟨⟨W2.1, by decide, by decide⟩, ⟨W2.2.1, by decide, by decide⟩, trivial⟩ (fun q hq => nomatch hq) (fun w C3 I3 F3 rv P3 => ?_)
  obtain rfl : w = none := rv
  have W3 := rm_of (t := []) P3 rfl
  show ok_ (tb_P X) 194 40 _ [] C3 _
  refine tr_m1 X 0 [(0, .inr (.inl (some 190)))] [] C3 [1, 1] _ (fun q hq => ?_) I3 ⟨⟨W3.1, by decide, by decide⟩, ⟨W3.2.1, by decide, by decide⟩, trivial⟩ (fun q hq => nomatch hq) (fun C4 I4 F4 P4 => ?_)
  · rcases List.mem_cons.mp hq with rfl | hq
    · exact ⟨_, rfl, rfl⟩
    · exact nomatch hq
  have W4 := rm_of (t := []) P4 rfl
  obtain ⟨s4, k1, k2, k3⟩ := hI_f I4 (show tb_G 190 = some (.inl (12, _)) from rfl)
  have hlen4 : s4.length = 38 := k2
  have S4 : lt_S sz im T H C4 := by
    refine ⟨I4, rf_G_W W4.1 (by decide) (by decide), jj_of W4.2.1 (by decide) (by decide), ?_, ?_, ?_, ?_⟩
    · rw [rf_v_eq (cv_eq (F4.1 1 rfl) 1), rf_v_eq (cv_eq (F3.1 1 rfl) 1), rf_v_eq (cv_eq (F2.1 1 rfl) 1)]; exact S1.2.2.2.1
    · rw [rf_v_eq (cv_eq (F4.1 0 rfl) 14), rf_v_eq (cv_eq (F3.1 0 rfl) 14), rf_v_eq (cv_eq (F2.1 0 rfl) 14)]; exact S1.2.2.2.2.1
    · have a1 : rf_G 0 1007 C4 = rf_v C4 190 18 := rfl
      have a2 : rf_G 0 1007 C1 = rf_v C1 190 18 := rfl
      rw [← a1, F4.2 1007 (by decide) rfl, F3.2 1007 (by decide) rfl, F2.2 1007 (by decide) rfl, a2]
      exact S1.2.2.2.2.2.1
    · have a1 : rf_G 0 1008 C4 = rf_v C4 190 11 := rfl
      have a2 : rf_G 0 1008 C1 = rf_v C1 190 11 := rfl
      rw [← a1, F4.2 1008 (by decide) rfl, F3.2 1008 (by decide) rfl, F2.2 1008 (by decide) rfl, a2]
      exact S1.2.2.2.2.2.2
  refine ok_p rfl rfl rfl ?_
  refine ok_p rfl rfl rfl ?_
  refine ok_pf (v := .inl (.inl (Int32.ofInt 0))) rfl rfl k1 rfl (by rw [hlen4]; rfl) ?_
  refine ok_p rfl rfl rfl ?_
  refine ok_r rfl rfl rfl rfl rfl ⟨_, rfl, Or.inr ⟨e9, rfl⟩, ?_⟩
  obtain ⟨a, b, c, d, e⟩ := lt_f S4 k1 (k := 12) (v := .inl (.inl (Int32.ofInt 0))) (xI_sf I4 (show tb_G 190 = some (.inl (12, _)) from rfl) k1 (f := .inl (0, 10)) rfl ⟨_, rfl, by decide, by decide⟩) (by decide)
  exact ⟨a, b, c, d, e, by rw [rf_fs k1 (by decide)]; exact S4.2.2.2.2.2.1, by rw [rf_fs k1 (by decide)]; exact S4.2.2.2.2.2.2⟩
end RM3
end
section
/-! PARTIAL RUNS: whatever a run ends with, K holds of it. That it ends without a throw of the machine's own is known by the contracts, so nothing is asked here: what a step wants is given. -/
def pa (P : EP) (N m pc : Nat) (L : List (Nat × AV)) (S : List AV) (C : List AC) (K : Option AV ⊕ Nat → List AC → Prop) : Prop := ∀ n, n ≤ N → ∀ k w o C' k1 w1, ea_x P n m pc L S C k w = some (o, C', k1, w1) → K o C'
def pb (P : EP) (N m pc : Nat) (L : List (Nat × AV)) (S : List AV) (C : List AC) (K : Option AV ⊕ Nat → List AC → Prop) : Prop := ∀ n, n ≤ N → ∀ k w o C' k1 w1, ea_b P (ea_x P n) m pc L S C k w = some (o, C', k1, w1) → K o C'
section PA
variable {P : EP} {N m pc : Nat} {L : List (Nat × AV)} {S : List AV} {C : List AC} {K : Option AV ⊕ Nat → List AC → Prop}
theorem pa_zero : pa P 0 m pc L S C K := by
  intro n hn k w o C' k1 w1 h
  obtain rfl := Nat.le_zero.mp hn
  cases h
theorem pa_succ (h : pb P N m pc L S C K) : pa P (N + 1) m pc L S C K := by
  intro n hn k w o C' k1 w1 hx
  cases n with
  | zero => cases hx
  | succ n => exact h n (Nat.le_of_succ_le_succ hn) k w o C' k1 w1 hx
theorem pa_le {N' : Nat} (h : pa P N m pc L S C K) (hN : N' ≤ N) : pa P N' m pc L S C K := fun n hn => h n (Nat.le_trans hn hN)
theorem pa_b (h : pb P N m pc L S C K) : pa P N m pc L S C K := pa_le (pa_succ h) (Nat.le_succ N)
theorem pa_post {K' : Option AV ⊕ Nat → List AC → Prop} (h : pa P N m pc L S C K) (hK : ∀ o C', K o C' → K' o C') : pa P N m pc L S C K' := fun n hn k w o C' k1 w1 hx => hK _ _ (h n hn k w o C' k1 w1 hx)
/-- a run that ends, and what is known of all its ends -/
theorem ok_pa {K' : Option AV ⊕ Nat → List AC → Prop} (h : ok_ P m pc L S C K) (h' : ∀ N, pa P N m pc L S C K') : ok_ P m pc L S C (fun o C' => K o C' ∧ K' o C') := by
  obtain ⟨n, o, C', h1, h2⟩ := h
  exact ⟨n, o, C', h1, h2, h' n n (Nat.le_refl n) 0 0 _ _ _ _ (h1 0 0)⟩
/-- and the other way: what is known of a run that ends, where it is deterministic -/
theorem pa_ok (h : ok_ P m pc L S C K) : pa P N m pc L S C K := by
  obtain ⟨n, o, C', h1, h2⟩ := h
  intro n' hn k w o' C2 k1 w1 hx
  have a := ok_x_mono (Nat.le_max_left n n') (h1 k w)
  have b := ok_x_mono (Nat.le_max_right n n') hx
  rw [a] at b
  cases b
  exact h2
theorem pb_step (h : ∀ n, n ≤ N → ∀ k w x, ea_1 P (ea_x P n) m pc L S C k w = some x → match x with
    | .inl (pc', L', S', C', _, _) => pa P N m pc' L' S' C' K
    | .inr (o, C', _, _) => K o C') : pb P N m pc L S C K := by
  intro n hn k w o C' k1 w1 hx
  unfold ea_b at hx
  cases e : ea_1 P (ea_x P n) m pc L S C k w with
  | none => rw [e] at hx; cases hx
  | some x =>
    have h1 := h n hn k w x e
    rw [e] at hx
    match x, h1, hx with
    | .inl (pc', L', S', C2, k', w'), h1, hx => exact h1 n hn _ _ _ _ _ _ hx
    | .inr (o', C2, k', w'), h1, hx => cases hx; exact h1
/-- plain instructions -/
theorem pb_p {i : Instr} {len : Nat} {pc' : Nat} {L' : List (Nat × AV)} {S' : List AV} (hc : ep_cod P m pc = some (i, len)) (hl : (Nat.beq (ea_len i) 0 || Nat.beq (ea_len i) len) = true) (hp : ea_p i pc (ep_nls P m) L S = some (pc', L', S')) (h : pa P N m pc' L' S' C K) : pb P N m pc L S C K := by
  refine pb_step (fun n hn k w x hx => ?_)
  unfold ea_1 at hx
  rw [hc] at hx
  dsimp only at hx
  rw [hl] at hx
  simp only [cond_true] at hx
  rw [hp] at hx
  dsimp only at hx
  rw [ea_fn_eq, ea_fL_eq, ea_fS_eq] at hx
  cases hx
  exact h
theorem pa_p {i : Instr} {len : Nat} {pc' : Nat} {L' : List (Nat × AV)} {S' : List AV} (hc : ep_cod P m pc = some (i, len)) (hl : (Nat.beq (ea_len i) 0 || Nat.beq (ea_len i) len) = true) (hp : ea_p i pc (ep_nls P m) L S = some (pc', L', S')) (h : pa P N m pc' L' S' C K) : pa P N m pc L S C K := pa_b (pb_p hc hl hp h)
/-- instructions on cells, no call: what they come to, if they come to something -/
def pa_nc (i : Instr) : Bool := match i with
  | .invokespecial _ => false
  | .invokestatic _ => false
  | .invokevirtual _ => false
  | .new _ => false
  | _ => true
theorem pb_h {i : Instr} {len : Nat} (hc : ep_cod P m pc = some (i, len)) (hl : (Nat.beq (ea_len i) 0 || Nat.beq (ea_len i) len) = true) (hp : ea_p i pc (ep_nls P m) L S = none) (hr : ea_rt (ep_rtp P m) i S = none) (hi : pa_nc i = true) (h : ∀ pc' S' C' dk dw, ea_h (ep_ini P m) (ep_pl P m) (ep_fty P) (ep_scr P m) i pc S C = some (pc', S', C', dk, dw) → pa P N m pc' L S' (C'.getD C) K) : pb P N m pc L S C K := by
  refine pb_step (fun n hn k w x hx => ?_)
  unfold ea_1 at hx
  rw [hc] at hx
  dsimp only at hx
  rw [hl] at hx
  simp only [cond_true] at hx
  rw [hp] at hx
  dsimp only at hx
  cases hh : ea_h (ep_ini P m) (ep_pl P m) (ep_fty P) (ep_scr P m) i pc S C with
  | some q =>
    obtain ⟨pc', S', C', dk, dw⟩ := q
    have h1 := h _ _ _ _ _ hh
    rw [hh] at hx
    dsimp only at hx
    rw [ea_fn_eq, ea_fS_eq, ea_fn_eq, ea_fn_eq] at hx
    cases C' with
    | none => cases hx; exact h1
    | some C1 =>
      dsimp only at hx
      rw [ea_fL_eq] at hx
      cases hx
      exact h1
  | none =>
    rw [hh] at hx
    dsimp only at hx
    rw [hr] at hx
    dsimp only at hx
    cases i with
    | invokespecial y => exact Bool.noConfusion (show false = true from hi)
    | invokestatic y => exact Bool.noConfusion (show false = true from hi)
    | invokevirtual y => exact Bool.noConfusion (show false = true from hi)
    | new y => exact Bool.noConfusion (show false = true from hi)
    | _ => cases hx
theorem pa_h {i : Instr} {len : Nat} (hc : ep_cod P m pc = some (i, len)) (hl : (Nat.beq (ea_len i) 0 || Nat.beq (ea_len i) len) = true) (hp : ea_p i pc (ep_nls P m) L S = none) (hr : ea_rt (ep_rtp P m) i S = none) (hi : pa_nc i = true) (h : ∀ pc' S' C' dk dw, ea_h (ep_ini P m) (ep_pl P m) (ep_fty P) (ep_scr P m) i pc S C = some (pc', S', C', dk, dw) → pa P N m pc' L S' (C'.getD C) K) : pa P N m pc L S C K := pa_b (pb_h hc hl hp hr hi h)
/-- the end of a method -/
theorem pa_r {i : Instr} {len : Nat} {v : Option AV} (hc : ep_cod P m pc = some (i, len)) (hl : (Nat.beq (ea_len i) 0 || Nat.beq (ea_len i) len) = true) (hp : ea_p i pc (ep_nls P m) L S = none) (hh : ea_h (ep_ini P m) (ep_pl P m) (ep_fty P) (ep_scr P m) i pc S C = none) (hr : ea_rt (ep_rtp P m) i S = some v) (h : K (.inl v) C) : pa P N m pc L S C K := by
  refine pa_b (pb_step (fun n hn k w x hx => ?_))
  unfold ea_1 at hx
  rw [hc] at hx
  dsimp only at hx
  rw [hl] at hx
  simp only [cond_true] at hx
  rw [hp] at hx
  dsimp only at hx
  rw [hh] at hx
  dsimp only at hx
  rw [hr] at hx
  cases hx
  exact h
/-- a test of two ints -/
theorem pa_ic {c : Jvm.ClassFile.Cond} {off : Int} {t : Nat} {x y : Int32} (hc : ep_cod P m pc = some (.if_icmp c off, 3)) (ht : ea_to pc off = some t) (h1 : ea_ck c x y = true → pa P N m t L S C K) (h2 : ea_ck c x y = false → pa P N m (pc + 3) L S C K) : pa P N m pc L (.inl (.inl y) :: .inl (.inl x) :: S) C K := by
  cases hb : ea_ck c x y with
  | true => exact pa_p (pc' := t) (L' := L) (S' := S) hc rfl (by simp only [ea_p, ea_if, hb, ht, cond_true, cond_false]) (h1 hb)
  | false => exact pa_p (pc' := pc + 3) (L' := L) (S' := S) hc rfl (by simp only [ea_p, ea_if, hb, ht, cond_true, cond_false]) (h2 hb)
theorem pa_if {c : Jvm.ClassFile.Cond} {off : Int} {t : Nat} {x : Int32} (hc : ep_cod P m pc = some (.ifCond c off, 3)) (ht : ea_to pc off = some t) (h1 : ea_ck c x 0 = true → pa P N m t L S C K) (h2 : ea_ck c x 0 = false → pa P N m (pc + 3) L S C K) : pa P N m pc L (.inl (.inl x) :: S) C K := by
  cases hb : ea_ck c x 0 with
  | true => exact pa_p (pc' := t) (L' := L) (S' := S) hc rfl (by simp only [ea_p, ea_if, hb, ht, cond_true, cond_false]) (h1 hb)
  | false => exact pa_p (pc' := pc + 3) (L' := L) (S' := S) hc rfl (by simp only [ea_p, ea_if, hb, ht, cond_true, cond_false]) (h2 hb)
/-- a call -/
theorem pa_q {i : Instr} {r : Option (Nat × Nat × Nat)} {mj : Nat} {as T : List AV} {b : Bool} (hc : ep_cod P m pc = some (i, 3)) (hi : ok_iv P m i S = some r) (hq : ea_cl (ep_own P) i r S C = some (mj, as, T, b)) {K1 : Option AV ⊕ Nat → List AC → Prop} (h : pa P N mj 0 (ea_ar 0 as) [] C K1) (hk : ∀ v C', K1 (.inl v) C' → pa P N m (pc + 3) L (v.toList ++ T) C' K) (hx : ∀ ce C', K1 (.inr ce) C' → match ea_hd (ep_sub P) ce pc (ep_hdl P m) with
    | some h => pa P N m h L [.inr (.inr (.inr (.inl false)))] C' K
    | none => K (.inr ce) C') : pa P N m pc L S C K := by
  refine pa_b (pb_step (fun n hn k w x e1 => ?_))
  have key : ea_1 P (ea_x P n) m pc L S C k w = ea_q P (ea_x P n) m pc L S C k w i r := by
    unfold ea_1
    rw [hc]
    unfold ok_iv at hi
    split at hi
    · split at hi
      · cases hi
      · rename_i ho
        cases hi
        show (match ea_oi _ S with | some T => _ | none => _) = _
        rw [ho]
    · split at hi
      · cases hi
      · rename_i ho
        cases h9 : ea_is9 (ep_pl P m _) with
        | true => rw [h9] at hi; cases hi
        | false =>
          rw [h9] at hi
          cases hi
          show (match ea_mm _ S with | some T => _ | none => _) = _
          rw [ho]
          dsimp only
          rw [h9]
          rfl
    · cases hi
      rfl
    · cases hi
  rw [key] at e1
  unfold ea_q at e1
  rw [hq] at e1
  dsimp only at e1
  cases hd : (Nat.blt (ep_dep P mj) (ep_dep P m) && (Nat.ble (ea_wt T) 8 && Nat.ble (ea_wt as) (ep_nls P mj))) with
  | false => rw [hd] at e1; cases e1
  | true =>
    rw [hd] at e1
    simp only [cond_true] at e1
    cases e3 : ea_x P n mj 0 (ea_ar 0 as) [] C 0 0 with
    | none => rw [e3] at e1; cases e1
    | some q =>
      obtain ⟨o, C', dk, dw⟩ := q
      have h1 := h n hn _ _ _ _ _ _ e3
      rw [e3] at e1
      cases o with
      | inl v =>
        dsimp only at e1
        rw [ea_fn_eq, ea_fn_eq, ea_fn_eq] at e1
        cases e1
        exact hk v C' h1
      | inr ce =>
        dsimp only at e1
        cases b with
        | false => cases e1
        | true =>
          simp only [cond_true] at e1
          rw [ea_fn_eq, ea_fn_eq] at e1
          have h2 := hx ce C' h1
          cases e4 : ea_hd (ep_sub P) ce pc (ep_hdl P m) with
          | none => rw [e4] at e1 h2; cases e1; exact h2
          | some hd => rw [e4] at e1 h2; cases e1; exact h2
/-- an end of a method, if it is one -/
theorem pa_rt {i : Instr} {len : Nat} (hc : ep_cod P m pc = some (i, len)) (hl : (Nat.beq (ea_len i) 0 || Nat.beq (ea_len i) len) = true) (hp : ea_p i pc (ep_nls P m) L S = none) (hh : ea_h (ep_ini P m) (ep_pl P m) (ep_fty P) (ep_scr P m) i pc S C = none) (hi : pa_nc i = true) (h : ∀ v, ea_rt (ep_rtp P m) i S = some v → K (.inl v) C) : pa P N m pc L S C K := by
  refine pa_b (pb_step (fun n hn k w x hx => ?_))
  unfold ea_1 at hx
  rw [hc] at hx
  dsimp only at hx
  rw [hl] at hx
  simp only [cond_true] at hx
  rw [hp] at hx
  dsimp only at hx
  rw [hh] at hx
  dsimp only at hx
  cases hr : ea_rt (ep_rtp P m) i S with
  | some v =>
    have h1 := h v hr
    rw [hr] at hx
    cases hx
    exact h1
  | none =>
    rw [hr] at hx
    dsimp only at hx
    cases i with
    | invokespecial y => exact Bool.noConfusion (show false = true from hi)
    | invokestatic y => exact Bool.noConfusion (show false = true from hi)
    | invokevirtual y => exact Bool.noConfusion (show false = true from hi)
    | new y => exact Bool.noConfusion (show false = true from hi)
    | _ => cases hx
/-- Math.max, Math.min -/
theorem pa_mm {x : Nat} {T : List AV} (hc : ep_cod P m pc = some (.invokestatic x, 3)) (hm : ea_mm (ep_pl P m x) S = some T) (h : pa P N m (pc + 3) L T C K) : pa P N m pc L S C K := by
  refine pa_b (pb_step (fun n hn k w y hx => ?_))
  unfold ea_1 at hx
  rw [hc] at hx
  dsimp only at hx
  rw [show (Nat.beq (ea_len (.invokestatic x)) 0 || Nat.beq (ea_len (.invokestatic x)) 3) = true from rfl] at hx
  simp only [cond_true] at hx
  have hp : ea_p (.invokestatic x) pc (ep_nls P m) L S = none := rfl
  have hh : ea_h (ep_ini P m) (ep_pl P m) (ep_fty P) (ep_scr P m) (.invokestatic x) pc S C = none := rfl
  have hr : ea_rt (ep_rtp P m) (.invokestatic x) S = none := rfl
  rw [hp] at hx
  dsimp only at hx
  rw [hh] at hx
  dsimp only at hx
  rw [hr] at hx
  dsimp only at hx
  rw [hm] at hx
  dsimp only at hx
  cases hb : (Nat.ble (ea_wt T) 80 && Nat.ble 1 (ep_dep P m)) with
  | false => rw [hb] at hx; cases hx
  | true =>
    rw [hb] at hx
    simp only [cond_true] at hx
    rw [ea_fn_eq, ea_fS_eq] at hx
    cases hx
    exact h
/-- System.arraycopy -/
theorem pa_cy {x : Nat} (hc : ep_cod P m pc = some (.invokestatic x, 3)) (h9 : ea_is9 (ep_pl P m x) = true) (h : ∀ T C', ea_cy S C = some (T, C') → pa P N m (pc + 3) L T C' K) : pa P N m pc L S C K := by
  refine pa_b (pb_step (fun n hn k w y hx => ?_))
  unfold ea_1 at hx
  rw [hc] at hx
  dsimp only at hx
  rw [show (Nat.beq (ea_len (.invokestatic x)) 0 || Nat.beq (ea_len (.invokestatic x)) 3) = true from rfl] at hx
  simp only [cond_true] at hx
  have hp : ea_p (.invokestatic x) pc (ep_nls P m) L S = none := rfl
  have hh : ea_h (ep_ini P m) (ep_pl P m) (ep_fty P) (ep_scr P m) (.invokestatic x) pc S C = none := rfl
  have hr : ea_rt (ep_rtp P m) (.invokestatic x) S = none := rfl
  rw [hp] at hx
  dsimp only at hx
  rw [hh] at hx
  dsimp only at hx
  rw [hr] at hx
  dsimp only at hx
  have hm : ea_mm (ep_pl P m x) S = none := by
    obtain ⟨u, hu⟩ := ea_is9_ok h9
    rw [hu]
    rfl
  rw [hm] at hx
  dsimp only at hx
  rw [h9] at hx
  simp only [cond_true] at hx
  cases hy : ea_cy S C with
  | none => rw [hy] at hx; cases hx
  | some q =>
    obtain ⟨T, C'⟩ := q
    have h1 := h T C' hy
    rw [hy] at hx
    dsimp only at hx
    cases hb : Nat.ble 1 (ep_dep P m) with
    | false => rw [hb] at hx; cases hx
    | true =>
      rw [hb] at hx
      simp only [cond_true] at hx
      rw [ea_fn_eq, ea_fL_eq] at hx
      cases hx
      exact h1
/-- a call that leads nowhere -/
theorem pa_no {x : Nat} (hc : ep_cod P m pc = some (.invokestatic x, 3)) (hp : ep_pl P m x = none) : pa P N m pc L S C K := by
  refine pa_b (pb_step (fun n hn k w y hx => ?_))
  unfold ea_1 at hx
  rw [hc] at hx
  dsimp only at hx
  rw [show (Nat.beq (ea_len (.invokestatic x)) 0 || Nat.beq (ea_len (.invokestatic x)) 3) = true from rfl] at hx
  simp only [cond_true] at hx
  rw [show ea_p (.invokestatic x) pc (ep_nls P m) L S = none from rfl] at hx
  dsimp only at hx
  rw [show ea_h (ep_ini P m) (ep_pl P m) (ep_fty P) (ep_scr P m) (.invokestatic x) pc S C = none from rfl] at hx
  dsimp only at hx
  rw [show ea_rt (ep_rtp P m) (.invokestatic x) S = none from rfl] at hx
  dsimp only at hx
  rw [hp] at hx
  unfold ea_q at hx
  exact nomatch hx
/-- a throw -/
theorem pa_tw {x ce : Nat} (hc : ep_cod P m pc = some (.new x, 3)) (ht : ea_tw P m pc = some ce) (hh : ea_h (ep_ini P m) (ep_pl P m) (ep_fty P) (ep_scr P m) (.new x) pc S C = none) (h : K (.inr ce) C) : pa P N m pc L S C K := by
  refine pa_b (pb_step (fun n hn k w y hx => ?_))
  unfold ea_1 at hx
  rw [hc] at hx
  dsimp only at hx
  rw [show (Nat.beq (ea_len (.new x)) 0 || Nat.beq (ea_len (.new x)) 3) = true from rfl] at hx
  simp only [cond_true] at hx
  have hp : ea_p (.new x) pc (ep_nls P m) L S = none := rfl
  have hr : ea_rt (ep_rtp P m) (.new x) S = none := rfl
  rw [hp] at hx
  dsimp only at hx
  rw [hh] at hx
  dsimp only at hx
  rw [hr] at hx
  dsimp only at hx
  rw [ht] at hx
  cases hw : Nat.ble (ea_wt S) 100 with
  | false => rw [hw] at hx; cases hx
  | true => rw [hw] at hx; cases hx; exact h
end PA
end
section
/-! THE MEMORY AS TWO FUNCTIONS: every int, every long of the fixed cells -/
def up {A : Type} (f : Nat → Nat → A) (a k : Nat) (x : A) : Nat → Nat → A := fun b j => if b = a ∧ j = k then x else f b j
theorem up_s {A : Type} {f : Nat → Nat → A} {a k : Nat} {x : A} : up f a k x a k = x := if_pos ⟨rfl, rfl⟩
theorem up_n {A : Type} {f : Nat → Nat → A} {a k : Nat} {x : A} {b j : Nat} (h : ¬ (b = a ∧ j = k)) : up f a k x b j = f b j := if_neg h
def mt (I : Nat → Nat → Int32) (a k : Nat) (f : FT) : AV := match f with
  | .inl _ => .inl (.inl (I a k))
  | .inr b => .inr (.inl (some b))
def me (I : Nat → Nat → Int32) (J : Nat → Nat → Int64) (a kd p : Nat) (fs : List FT) (j : Nat) : AV := match kd with
  | 1 => .inr (.inr (.inl (some (J a j))))
  | _ => match ea_nt fs (j % p) with
    | some f => mt I a j f
    | none => .inl (.inl 0)
def mm (G : Nat → Option CT) (I : Nat → Nat → Int32) (J : Nat → Nat → Int64) (C : List AC) : Prop :=
  (∀ a ci fs, G a = some (.inl (ci, fs)) → ∃ vs, ea_nt C a = some (.inr (ci, vs)) ∧ vs.length = fs.length ∧ ∀ k f, ea_nt fs k = some f → ea_nt vs k = some (mt I a k f)) ∧
  (∀ a kd n p fs, G a = some (.inr (kd, n, p, fs)) → ∃ d us, ea_nt C a = some (.inl (kd, n, d, us)) ∧ ∀ j, j < n → ea_al d us j = me I J a kd p fs j)
def mI (C : List AC) (a k : Nat) : Int32 := match cv C a k with
  | some (.inl (.inl x)) => x
  | _ => 0
def mJ (C : List AC) (a k : Nat) : Int64 := match cv C a k with
  | some (.inr (.inr (.inl (some y)))) => y
  | _ => 0
theorem mI_v {C : List AC} {a k : Nat} {x : Int32} (h : cv C a k = some (.inl (.inl x))) : mI C a k = x := by unfold mI; rw [h]
theorem mJ_v {C : List AC} {a k : Nat} {y : Int64} (h : cv C a k = some (.inr (.inr (.inl (some y))))) : mJ C a k = y := by unfold mJ; rw [h]
theorem mt_of {C : List AC} {a k : Nat} {f : FT} {v : AV} (h : cv C a k = some v) (hv : ft_g f v) : v = mt (mI C) a k f := by
  match f, hv with
  | .inl q, ⟨x, e, _, _⟩ =>
    subst e
    show Sum.inl (Sum.inl x) = Sum.inl (Sum.inl (mI C a k))
    rw [mI_v h]
  | .inr b, hv => exact hv
theorem mm_of {G : Nat → Option CT} {C : List AC} (hI : xI G C) : mm G (mI C) (mJ C) C := by
  refine ⟨fun a ci fs hG => ?_, fun a kd n p fs hG => ?_⟩
  · obtain ⟨vs, v1, v2, v3⟩ := hI_f hI hG
    refine ⟨vs, v1, v2, fun k f hf => ?_⟩
    obtain ⟨v, w1, w2⟩ := v3 k f hf
    rw [w1]
    have hc : cv C a k = some v := by unfold cv; rw [v1]; exact w1
    rw [mt_of hc w2]
  · obtain ⟨d, us, v1, v2⟩ := hI_a hI hG
    refine ⟨d, us, v1, fun j hj => ?_⟩
    have hc : cv C a j = some (ea_al d us j) := by
      unfold cv
      rw [v1]
      show (bif Nat.blt j n then some (ea_al d us j) else none) = _
      rw [show Nat.blt j n = true from Nat.ble_eq_true_of_le hj]
      rfl
    have h := v2 j hj
    by_cases h1 : kd = 1
    · subst h1
      obtain ⟨y, hy⟩ := h
      rw [hy] at hc ⊢
      show _ = Sum.inr (Sum.inr (Sum.inl (some (mJ C a j))))
      rw [mJ_v hc]
    · obtain ⟨f, f1, f2⟩ := el_get h1 h
      have : me (mI C) (mJ C) a kd p fs j = mt (mI C) a j f := by
        unfold me
        split
        · exact absurd rfl h1
        · rw [f1]
      rw [this, mt_of hc f2]
section MM
variable {G : Nat → Option CT} {I : Nat → Nat → Int32} {J : Nat → Nat → Int64} {C : List AC} {a : Nat}
theorem mt_n {b k i : Nat} {x : Int32} {f : FT} (h : ¬ (b = a ∧ k = i)) : mt (up I a i x) b k f = mt I b k f := by
  match f with
  | .inl q => show Sum.inl (Sum.inl (up I a i x b k)) = Sum.inl (Sum.inl (I b k)); rw [up_n h]
  | .inr _ => rfl
theorem me_n {b kd p j i : Nat} {x : Int32} {fs : List FT} (h : ¬ (b = a ∧ j = i)) : me (up I a i x) J b kd p fs j = me I J b kd p fs j := by
  unfold me
  split
  · rfl
  · split
    · exact mt_n h
    · rfl
theorem mm_pf (hM : mm G I J C) {ci k : Nat} {fs : List FT} {q : Int × Int} (hG : G a = some (.inl (ci, fs))) (hf : ea_nt fs k = some (.inl q)) {vs : List AV} (hC : ea_nt C a = some (.inr (ci, vs))) (x : Int32) : mm G (up I a k x) J (C.set a (.inr (ci, vs.set k (.inl (.inl x))))) := by
  obtain ⟨vs', v1, v2, v3⟩ := hM.1 a ci fs hG
  rw [hC] at v1
  cases v1
  refine ⟨fun b cj gs hG' => ?_, fun b kd n p gs hG' => ?_⟩
  · by_cases hb : b = a
    · subst hb
      rw [hG] at hG'
      cases hG'
      refine ⟨_, nt_set_self hC, by rw [List.length_set]; exact v2, fun i f hi => ?_⟩
      by_cases hk : i = k
      · subst hk
        rw [hf] at hi
        cases hi
        rw [nt_set_self (v3 i _ hf)]
        show _ = some (Sum.inl (Sum.inl (up I b i x b i)))
        rw [up_s]
      · rw [nt_set_ne (fun h => hk h.symm), mt_n (fun h => hk h.2)]
        exact v3 i f hi
    · obtain ⟨ws, w1, w2, w3⟩ := hM.1 b cj gs hG'
      refine ⟨ws, by rw [nt_set_ne (fun h => hb h.symm)]; exact w1, w2, fun i f hi => ?_⟩
      rw [mt_n (fun h => hb h.1)]
      exact w3 i f hi
  · have hb : b ≠ a := by
      intro h
      rw [h, hG] at hG'
      cases hG'
    obtain ⟨d, us, w1, w2⟩ := hM.2 b kd n p gs hG'
    refine ⟨d, us, by rw [nt_set_ne (fun h => hb h.symm)]; exact w1, fun j hj => ?_⟩
    rw [me_n (fun h => hb h.1)]
    exact w2 j hj
theorem mm_as (hM : mm G I J C) {kd n p j : Nat} {fs : List FT} {q : Int × Int} (hk : kd ≠ 1) (hG : G a = some (.inr (kd, n, p, fs))) (hf : ea_nt fs (j % p) = some (.inl q)) {d : AV} {us : List (Nat × AV)} (hC : ea_nt C a = some (.inl (kd, n, d, us))) (x : Int32) : mm G (up I a j x) J (C.set a (.inl (kd, n, d, (j, .inl (.inl x)) :: us))) := by
  obtain ⟨d', us', v1, v2⟩ := hM.2 a kd n p fs hG
  rw [hC] at v1
  cases v1
  refine ⟨fun b cj gs hG' => ?_, fun b kd' n' p' gs hG' => ?_⟩
  · have hb : b ≠ a := by
      intro h
      rw [h, hG] at hG'
      cases hG'
    obtain ⟨ws, w1, w2, w3⟩ := hM.1 b cj gs hG'
    refine ⟨ws, by rw [nt_set_ne (fun h => hb h.symm)]; exact w1, w2, fun i f hi => ?_⟩
    rw [mt_n (fun h => hb h.1)]
    exact w3 i f hi
  · by_cases hb : b = a
    · subst hb
      rw [hG] at hG'
      cases hG'
      refine ⟨_, _, nt_set_self hC, fun i hi => ?_⟩
      rw [ea_al_at]
      by_cases hij : i = j
      · subst hij
        rw [if_pos rfl]
        unfold me
        split
        · exact absurd rfl hk
        · rw [hf]
          show _ = Sum.inl (Sum.inl (up I b i x b i))
          rw [up_s]
      · rw [if_neg hij, me_n (fun h => hij h.2)]
        exact v2 i hi
    · obtain ⟨d2, us2, w1, w2⟩ := hM.2 b kd' n' p' gs hG'
      refine ⟨d2, us2, by rw [nt_set_ne (fun h => hb h.symm)]; exact w1, fun i hi => ?_⟩
      rw [me_n (fun h => hb h.1)]
      exact w2 i hi
theorem mj_n {b kd p j i : Nat} {y : Int64} {fs : List FT} (h : ¬ (b = a ∧ j = i)) : me I (up J a i y) b kd p fs j = me I J b kd p fs j := by
  unfold me
  split
  · rw [up_n h]
  · rfl
theorem mm_ls (hM : mm G I J C) {n p j : Nat} {fs : List FT} (hG : G a = some (.inr (1, n, p, fs))) {d : AV} {us : List (Nat × AV)} (hC : ea_nt C a = some (.inl (1, n, d, us))) (y : Int64) : mm G I (up J a j y) (C.set a (.inl (1, n, d, (j, .inr (.inr (.inl (some y)))) :: us))) := by
  obtain ⟨d', us', v1, v2⟩ := hM.2 a 1 n p fs hG
  rw [hC] at v1
  cases v1
  refine ⟨fun b cj gs hG' => ?_, fun b kd' n' p' gs hG' => ?_⟩
  · have hb : b ≠ a := by
      intro h
      rw [h, hG] at hG'
      cases hG'
    obtain ⟨ws, w1, w2, w3⟩ := hM.1 b cj gs hG'
    exact ⟨ws, by rw [nt_set_ne (fun h => hb h.symm)]; exact w1, w2, w3⟩
  · by_cases hb : b = a
    · subst hb
      rw [hG] at hG'
      cases hG'
      refine ⟨_, _, nt_set_self hC, fun i hi => ?_⟩
      rw [ea_al_at]
      by_cases hij : i = j
      · subst hij
        rw [if_pos rfl]
        show _ = Sum.inr (Sum.inr (Sum.inl (some (up J b i y b i))))
        rw [up_s]
      · rw [if_neg hij, mj_n (fun h => hij h.2)]
        exact v2 i hi
    · obtain ⟨d2, us2, w1, w2⟩ := hM.2 b kd' n' p' gs hG'
      refine ⟨d2, us2, by rw [nt_set_ne (fun h => hb h.symm)]; exact w1, fun i hi => ?_⟩
      rw [mj_n (fun h => hb h.1)]
      exact w2 i hi
end MM
theorem ix_get {x : Int32} {n j : Nat} (h : ea_ix (.inl x) n = some j) : x.toInt = (j : Int) ∧ j < n := by
  have h1 : (if 0 ≤ x.toInt ∧ x.toInt < n then some x.toNatClampNeg else none) = some j := h
  split at h1
  · rename_i h2
    cases h1
    obtain ⟨-, h3, h4⟩ := ix_ok h2.1 h2.2
    exact ⟨h3.symm, h4⟩
  · cases h1
end
