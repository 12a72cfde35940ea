/-! THE CLASS: the tape's size, whether an image was kept, behind each call -/
def cm_P (sz im : Int) (C C' : List AC) : Prop := xI tb_G C' ∧ (∀ b, 190 ≤ b → ea_nt C' b = ea_nt C b) ∧ rf_v C' 1 1 = sz ∧ rf_v C' 0 14 = im
def en_P (k : Nat) (thr : List Nat) (o : Option AV ⊕ Nat) : Prop := match o with
  | .inl v => match k with
    | 0 => v = none
    | 1 => ∃ y : Int32, v = some (.inl (.inl y))
    | _ + 2 => ∃ y : Int64, v = some (.inr (.inr (.inl (some y))))
  | .inr ce => ce ∈ thr
theorem en_of {c : CN} {o : Option AV ⊕ Nat} (h : cn_end c o) : en_P c.2.2.2.1.1 c.2.2.2.2.1 o := by
  obtain ⟨c1, c2, c3, ⟨k, lo, hi⟩, c5, c6⟩ := c
  cases o with
  | inr ce => exact h
  | inl v =>
    match k, h with
    | 0, h => exact h
    | 1, ⟨x, e, _⟩ => exact ⟨x, e⟩
    | _ + 2, ⟨y, e⟩ => exact ⟨y, e⟩
theorem xm_hi {b k : Nat} (hb : k ≤ b) : ∀ {M : List (Nat × Nat)}, M.all (fun q => Nat.ble q.2 k) = true → xm M b = false
  | [], _ => rfl
  | q :: t, h => by
    simp only [List.all_cons, Bool.and_eq_true] at h
    have h1 := Nat.le_of_ble_eq_true h.1
    unfold xm
    rw [xm_hi hb h.2, Bool.or_false]
    have : Nat.blt b q.2 = false := by
      cases hb2 : Nat.blt b q.2 with
      | false => rfl
      | true => have := blt_lt hb2; omega
    rw [this, Bool.and_false]
section CLS
variable (X : Option (List AI))
/-- a call that leaves tape and image alone -/
theorem cm_norm {c : CN} (hcn : cn_ok (tb_P X) tb_G c) {vs : List AV} {C : List AC} (hv : ea_rl at_g c.2.1 vs) (hI : xI tb_G C) (hF : c.2.2.2.2.2 = []) (h0 : xm c.2.2.1 0 = false) (h1 : xm c.2.2.1 1 = false) (h2 : c.2.2.1.all (fun q => Nat.ble q.2 190) = true) : ok_ (tb_P X) c.1 0 (ea_ar 0 vs) [] C (fun o C' => cm_P (rf_v C 1 1) (rf_v C 0 14) C C' ∧ en_P c.2.2.2.1.1 c.2.2.2.2.1 o) := by
  refine ok_post (hcn vs C hv hI (by rw [hF]; exact fun q hq => nomatch hq)) (fun o C' hq => ?_)
  obtain ⟨o1, o2, o3⟩ := hq
  exact ⟨⟨o1, fun b hb => o2 b (xm_hi hb h2), rf_v_eq (cv_eq (o2 1 h1) 1), rf_v_eq (cv_eq (o2 0 h0) 14)⟩, en_of o3⟩
def fg_c : CX := ((54, [.inr (.inl 44)], [(44, 45)], (0, 0, 0), [], []), [], 0, ([], []), ([], []))
def ad_c : CX := ((84, [.inr (.inl 1), .inl ((-2147483648), 2147483647)], [(1, 3)], (0, 0, 0), [], [(1, 1, 0, 396)]), [], 0, ([], []), ([(1, 1, 4, 400)], [(.inr (.inr (1, 1)), .inr (.inl 0), 4), (.inr (.inl 0), .inr (.inr (1, 1)), (-4))]))
def fe_c : CX := ((131, [.inr (.inl 0), .inl ((-2147483648), 2147483647), .inl ((-2147483648), 2147483647), .inl ((-2147483648), 2147483647), .inl ((-2147483648), 2147483647), .inl ((-2147483648), 2147483647)], [(1, 3)], (1, (-1), 400), [], [(1, 1, 0, 400)]), [], 0, ([(1, 1, 381, 400)], [(.inr (.inr (1, 1)), .inr (.inl 0), 0), (.inr (.inl 0), .inr (.inr (1, 1)), 0)]), ([(1, 1, 20, 400)], [(.inr (.inr (1, 1)), .inr (.inl 0), 20), (.inr (.inl 0), .inr (.inr (1, 1)), (-20)), (.inl 0, .inr (.inl 0), 20), (.inr (.inl 0), .inl 0, (-20))]))
def fe_t (m : Nat) : List CX := bif Nat.beq m 84 then [ad_c] else []
set_option maxRecDepth 100000 in
theorem fg_ck : cx_ck (tb_P none) tb_G tr_gs (fun _ => []) (fun _ _ => none) [] fg_c 400 = true := by decide +kernel
set_option maxRecDepth 100000 in
theorem ad_ck : cx_ck (tb_P none) tb_G tr_gs (fun _ => []) (fun _ _ => none) [] ad_c 1000 = true := by decide +kernel
set_option maxRecDepth 100000 in
theorem fe_ck : cx_ck (tb_P none) tb_G tr_gs fe_t (fun _ _ => none) [] fe_c 1000 = true := by decide +kernel
theorem fg_ok : cx_ok (tb_P X) tb_G (rf_G 0) fg_c := cx_ck_ok tr_G9 (rf_gs 0) no_c no_m (hds := []) (n := 400) (by rw [cx_scr X]; exact fg_ck)
theorem fe_ok : cx_ok (tb_P X) tb_G (rf_G 0) fe_c := cx_ck_ok tr_G9 (rf_gs 0) (fun mj c' hc' => by
  have h : c' ∈ (bif Nat.beq mj 84 then [ad_c] else []) := hc'
  cases hb : Nat.beq mj 84 with
  | true =>
    rw [hb] at h
    rcases List.mem_cons.mp h with rfl | h
    · exact ⟨(Nat.eq_of_beq_eq_true hb).symm, cx_ck_ok tr_G9 (rf_gs 0) no_c no_m (hds := []) (n := 1000) (by rw [cx_scr X]; exact ad_ck)⟩
    · exact nomatch h
  | false => rw [hb] at h; exact nomatch h) no_m (hds := []) (n := 1000) (by rw [cx_scr X]; exact fe_ck)
theorem cm_feed {a b c d e : Int32} {C : List AC} (hI : xI tb_G C) : ok_ (tb_P X) 131 0 (ea_ar 0 [.inr (.inl (some 0)), .inl (.inl a), .inl (.inl b), .inl (.inl c), .inl (.inl d), .inl (.inl e)]) [] C (fun o C' => ∃ y : Int32, o = .inl (some (.inl (.inl y))) ∧ ((rf_v C 1 1 ≤ 380 ∧ y.toInt = rf_v C 1 1 + 20 ∧ cm_P (rf_v C 1 1 + 20) (rf_v C 0 14) C C') ∨ (381 ≤ rf_v C 1 1 ∧ y.toInt = -1 ∧ cm_P (rf_v C 1 1) (rf_v C 0 14) C C'))) := by
  obtain ⟨ts, m1, m2, m3⟩ := hI_f hI (show tb_G 1 = some (.inl (8, [.inr 2, .inl (0, 400)])) from rfl)
  obtain ⟨_, r1, sz, rfl, s1, s2⟩ := m3 1 (.inl (0, 400)) rfl
  have any : ∀ x : Int32, at_g (.inl ((-2147483648), 2147483647)) (.inl (.inl x)) := fun x => ⟨x, rfl, Int32.le_toInt x, Int.le_of_lt_add_one (Int32.toInt_lt x)⟩
  refine ok_post (fe_ok X _ C [sz.toInt] ⟨rfl, any a, any b, any c, any d, any e, trivial⟩ hI ⟨⟨pv_f (a := 1) (by decide) m1 r1, s1, s2⟩, trivial⟩ (fun q hq => nomatch hq)) (fun o C' hq => ?_)
  obtain ⟨v, rfl, I', F', ⟨y, rfl, y1, y2⟩, P'⟩ := hq
  have hs := rf_f m1 r1
  have im : rf_v C' 0 14 = rf_v C 0 14 := rf_v_eq (cv_eq (F'.1 0 rfl) 14)
  have hi : ∀ b, 190 ≤ b → ea_nt C' b = ea_nt C b := fun b hb => F'.1 b (xm_hi hb (by decide))
  refine ⟨y, rfl, ?_⟩
  by_cases hy : y.toInt < 0
  · have e : cx_po fe_c (some (.inl (.inl y))) = fe_c.2.2.2.1 := if_pos hy
    rw [e] at P'
    obtain ⟨⟨NV, hNV⟩, hR⟩ := P'
    obtain ⟨zs, N1, rfl, ⟨zS, zs1, zs2⟩, -⟩ := ea_rl_cons hNV
    have w1 := rl_z hR (.head _) (z1 := zs) (z2 := sz.toInt) zS rfl
    have w2 := rl_z hR (.tail _ (.head _)) (z1 := sz.toInt) (z2 := zs) rfl zS
    have e1 : rf_v C' 1 1 = zs := rf_v_pv (a := 1) (by decide) zS
    dsimp only at zs1
    refine Or.inr ⟨by omega, ?_, I', hi, by omega, im⟩
    have : -1 ≤ y.toInt := y1
    omega
  · have e : cx_po fe_c (some (.inl (.inl y))) = fe_c.2.2.2.2 := if_neg hy
    rw [e] at P'
    obtain ⟨⟨NV, hNV⟩, hR⟩ := P'
    obtain ⟨zs, N1, rfl, ⟨zS, zs1, zs2⟩, -⟩ := ea_rl_cons hNV
    have w1 := rl_z hR (.head _) (z1 := zs) (z2 := sz.toInt) zS rfl
    have w2 := rl_z hR (.tail _ (.head _)) (z1 := sz.toInt) (z2 := zs) rfl zS
    have w3 := rl_z hR (.tail _ (.tail _ (.head _))) (z1 := y.toInt) (z2 := sz.toInt) ⟨y, rfl, rfl⟩ rfl
    have w4 := rl_z hR (.tail _ (.tail _ (.tail _ (.head _)))) (z1 := sz.toInt) (z2 := y.toInt) rfl ⟨y, rfl, rfl⟩
    have e1 : rf_v C' 1 1 = zs := rf_v_pv (a := 1) (by decide) zS
    dsimp only at zs2
    exact Or.inl ⟨by omega, by omega, I', hi, by omega, im⟩
theorem rf_fa {C : List AC} {a ci : Nat} {vs : List AV} (hC : ea_nt C a = some (.inr (ci, vs))) {j b k : Nat} {v : AV} (h : b = a → j ≠ k) : rf_v (C.set a (.inr (ci, vs.set j v))) b k = rf_v C b k := by
  refine rf_v_eq ?_
  unfold cv
  by_cases hab : a = b
  · subst hab
    rw [nt_set_self hC, hC]
    dsimp only
    rw [nt_set_ne (h rfl)]
  · rw [nt_set_ne hab]
/-- end: the size is n, if there are so many -/
theorem cm_end {n : Int32} {C : List AC} (hI : xI tb_G C) : ok_ (tb_P X) 132 0 (ea_ar 0 [.inr (.inl (some 0)), .inl (.inl n)]) [] C (fun o C' => ∃ y : Int32, o = .inl (some (.inl (.inl y))) ∧ ((0 ≤ n.toInt ∧ n.toInt ≤ rf_v C 1 1 ∧ y = Int32.ofInt 1 ∧ cm_P n.toInt (rf_v C 0 14) C C') ∨ (¬ (0 ≤ n.toInt ∧ n.toInt ≤ rf_v C 1 1) ∧ y = Int32.ofInt 0 ∧ cm_P (rf_v C 1 1) (rf_v C 0 14) C C'))) := by
  obtain ⟨xs, x1, x2, x3⟩ := hI_f hI (show tb_G 0 = some (.inl (11, _)) from rfl)
  obtain ⟨_, q0, rfl⟩ := x3 0 (.inr 1) rfl
  obtain ⟨ts, m1, m2, m3⟩ := hI_f hI (show tb_G 1 = some (.inl (8, [.inr 2, .inl (0, 400)])) from rfl)
  have hlen : ts.length = 2 := m2
  obtain ⟨_, r1, sz, rfl, s1, s2⟩ := m3 1 (.inl (0, 400)) rfl
  have hs := rf_f m1 r1
  dsimp only at s1 s2
  have no : ¬ (0 ≤ n.toInt ∧ n.toInt ≤ rf_v C 1 1) → ok_ (tb_P X) 132 15 [(0, .inr (.inl (some 0))), (1, .inl (.inl n))] [] C (fun o C' => ∃ y : Int32, o = .inl (some (.inl (.inl y))) ∧ ((0 ≤ n.toInt ∧ n.toInt ≤ rf_v C 1 1 ∧ y = Int32.ofInt 1 ∧ cm_P n.toInt (rf_v C 0 14) C C') ∨ (¬ (0 ≤ n.toInt ∧ n.toInt ≤ rf_v C 1 1) ∧ y = Int32.ofInt 0 ∧ cm_P (rf_v C 1 1) (rf_v C 0 14) C C'))) := fun hn => by
    refine ok_p rfl rfl rfl ?_
    exact ok_r rfl rfl rfl rfl rfl ⟨_, rfl, Or.inr ⟨hn, rfl, hI, fun _ _ => rfl, rfl, rfl⟩⟩
  refine ok_p rfl rfl rfl ?_
  cases hq : ea_ck .lt n 0 with
  | true =>
    have e1 : n < 0 := of_decide_eq_true hq
    rw [Int32.lt_iff_toInt_lt, show (0 : Int32).toInt = 0 by decide] at e1
    refine ok_if true rfl rfl hq ?_
    exact no (by omega)
  | false =>
    have e1 : ¬ n < 0 := of_decide_eq_false hq
    rw [Int32.lt_iff_toInt_lt, show (0 : Int32).toInt = 0 by decide] at e1
    refine ok_if false rfl rfl hq ?_
    refine ok_p rfl rfl rfl ?_
    refine ok_p rfl rfl rfl ?_
    refine ok_gf rfl rfl x1 q0 ?_
    refine ok_gf rfl rfl m1 r1 ?_
    cases hr : ea_ck .le n sz with
    | false =>
      have e2 : ¬ n ≤ sz := of_decide_eq_false hr
      rw [Int32.le_iff_toInt_le] at e2
      refine ok_ic false rfl rfl hr ?_
      exact no (by omega)
    | true =>
      have e2 : n ≤ sz := of_decide_eq_true hr
      rw [Int32.le_iff_toInt_le] at e2
      refine ok_ic true rfl rfl hr ?_
      refine ok_p rfl rfl rfl ?_
      refine ok_gf rfl rfl x1 q0 ?_
      refine ok_p rfl rfl rfl ?_
      refine ok_pf (v := .inl (.inl n)) rfl rfl m1 rfl (by rw [hlen]; rfl) ?_
      have I2 := xI_sf hI (show tb_G 1 = some (.inl (8, [.inr 2, .inl (0, 400)])) from rfl) m1 (k := 1) (v := .inl (.inl n)) rfl ⟨_, rfl, by show (0 : Int) ≤ n.toInt; omega, by show n.toInt ≤ (400 : Int); omega⟩
      refine ok_p rfl rfl rfl ?_
      exact ok_r rfl rfl rfl rfl rfl ⟨_, rfl, Or.inl ⟨by omega, by omega, rfl, I2, fun b hb => nt_set_ne (by omega), rf_f (nt_set_self m1) (nt_set_self r1), rf_fa m1 (fun h => by cases h)⟩⟩
/-- the tape is used up -/
theorem cm_use {C : List AC} (hI : xI tb_G C) : ∃ ts, ea_nt C 1 = some (.inr (8, ts)) ∧ ts.length = 2 ∧ xI tb_G (C.set 1 (.inr (8, ts.set 1 (.inl (.inl (Int32.ofInt 0)))))) ∧ rf_v (C.set 1 (.inr (8, ts.set 1 (.inl (.inl (Int32.ofInt 0)))))) 1 1 = 0 ∧ ∀ b, b ≠ 1 → ea_nt (C.set 1 (.inr (8, ts.set 1 (.inl (.inl (Int32.ofInt 0)))))) b = ea_nt C b := by
  obtain ⟨ts, m1, m2, m3⟩ := hI_f hI (show tb_G 1 = some (.inl (8, [.inr 2, .inl (0, 400)])) from rfl)
  obtain ⟨_, r1, sz, rfl, s1, s2⟩ := m3 1 (.inl (0, 400)) rfl
  exact ⟨ts, m1, m2, xI_sf hI (show tb_G 1 = some (.inl (8, [.inr 2, .inl (0, 400)])) from rfl) m1 (k := 1) (v := .inl (.inl (Int32.ofInt 0))) rfl ⟨_, rfl, by decide, by decide⟩, rf_f (nt_set_self m1) (nt_set_self r1), fun b hb => nt_set_ne (fun h => hb h.symm)⟩
/-- cells: those from 190 on are the same, and these two fields -/
def us_P (im : Int) (C C' : List AC) : Prop := xI tb_G C' ∧ (∀ b, 190 ≤ b → ea_nt C' b = ea_nt C b) ∧ rf_v C' 1 1 = 0 ∧ rf_v C' 0 14 = im
theorem us_call {im : Int} {C C1 C2 : List AC} (h : us_P im C C1) {M : List (Nat × Nat)} (I2 : xI tb_G C2) (F : ∀ b, xm M b = false → ea_nt C2 b = ea_nt C1 b) (h0 : xm M 0 = false) (h1 : xm M 1 = false) (h2 : M.all (fun q => Nat.ble q.2 190) = true) : us_P im C C2 :=
  ⟨I2, fun b hb => by rw [F b (xm_hi hb h2), h.2.1 b hb], by rw [rf_v_eq (cv_eq (F 1 h1) 1), h.2.2.1], by rw [rf_v_eq (cv_eq (F 0 h0) 14), h.2.2.2]⟩
set_option maxRecDepth 20000 in
set_option maxHeartbeats 4000000 in
theorem cm_code {C : List AC} (hI : xI tb_G C) : ok_ (tb_P X) 133 0 (ea_ar 0 [.inr (.inl (some 0))]) [] C (fun o C' => us_P (rf_v C 0 14) C C' ∧ en_P 1 [0, 1] o) := by
  obtain ⟨xs, x1, x2, x3⟩ := hI_f hI (show tb_G 0 = some (.inl (11, _)) from rfl)
  obtain ⟨_, q1, rfl⟩ := x3 1 (.inr 3) rfl
  obtain ⟨_, q0, rfl⟩ := x3 0 (.inr 1) rfl
  obtain ⟨_, q6, rfl⟩ := x3 6 (.inr 42) rfl
  obtain ⟨ys, y1, -, -⟩ := hI_f hI (show tb_G 3 = some (.inl (9, _)) from rfl)
  refine ok_p rfl rfl rfl ?_
  refine ok_gf rfl rfl x1 q1 ?_
  refine ok_p rfl rfl rfl ?_
  refine ok_gf rfl rfl x1 q0 ?_
  refine ok_cn (tk_yes X 123 (by decide)) (as := [.inr (.inl (some 1))]) (T := []) rfl rfl y1 rfl rfl rfl ⟨rfl, rfl, trivial⟩ hI rfl (fun w C1 I1 F1 rv => ?_) (fun ce C' h => nomatch h)
  obtain rfl : w = none := rv
  show ok_ (tb_P X) 133 11 _ [] C1 _
  have X1 : ea_nt C1 0 = some (.inr (11, xs)) := by rw [F1 0 rfl]; exact x1
  refine ok_p rfl rfl rfl ?_
  refine ok_gf rfl rfl X1 q0 ?_
  refine ok_p rfl rfl rfl ?_
  obtain ⟨ts, m1, m2, I2, Z2, F2⟩ := cm_use I1
  refine ok_pf (v := .inl (.inl (Int32.ofInt 0))) rfl rfl m1 rfl (by rw [m2]; rfl) ?_
  have X2 : ea_nt (C1.set 1 (.inr (8, ts.set 1 (.inl (.inl (Int32.ofInt 0)))))) 0 = some (.inr (11, xs)) := by rw [F2 0 (by decide)]; exact X1
  have U2 : us_P (rf_v C 0 14) C (C1.set 1 (.inr (8, ts.set 1 (.inl (.inl (Int32.ofInt 0)))))) := ⟨I2, fun b hb => by rw [F2 b (by omega), F1 b (xm_hi hb (by decide))], Z2, rf_v_eq (cv_eq (by rw [X2, x1]) 14)⟩
  revert X2 U2
  generalize C1.set 1 (.inr (8, ts.set 1 (.inl (.inl (Int32.ofInt 0))))) = C2
  intro X2 U2
  obtain ⟨zs, z1, -, -⟩ := hI_f U2.1 (show tb_G 42 = some (.inl (2, _)) from rfl)
  refine ok_p rfl rfl rfl ?_
  refine ok_p rfl rfl rfl ?_
  refine ok_gf rfl rfl X2 q6 ?_
  refine ok_cn (tk_yes X 47 (by decide)) (as := []) (T := [.inr (.inl (some 0))]) rfl rfl z1 rfl rfl rfl ⟨rfl, trivial⟩ U2.1 rfl (fun w C3 I3 F3 rv => ?_) (fun ce C' h => nomatch h)
  obtain ⟨v, rfl, v1, v2⟩ := rv
  show ok_ (tb_P X) 133 27 _ [.inl (.inl v), .inr (.inl (some 0))] C3 _
  have U3 := us_call U2 I3 F3 rfl rfl rfl
  have X3 : ea_nt C3 0 = some (.inr (11, xs)) := by rw [F3 0 rfl]; exact X2
  have hlen : xs.length = 16 := x2
  refine ok_pf (v := .inl (.inl v)) rfl rfl X3 rfl (by rw [hlen]; rfl) ?_
  have I4 := xI_sf I3 (show tb_G 0 = some (.inl (11, _)) from rfl) X3 (k := 15) (v := .inl (.inl v)) rfl ⟨_, rfl, Int32.le_toInt v, Int.le_of_lt_add_one (Int32.toInt_lt v)⟩
  have U4 : us_P (rf_v C 0 14) C (C3.set 0 (.inr (11, xs.set 15 (.inl (.inl v))))) := ⟨I4, fun b hb => by rw [nt_set_ne (by omega)]; exact U3.2.1 b hb, by rw [rf_fa X3 (fun h => by cases h)]; exact U3.2.2.1, by rw [rf_fa X3 (fun _ => by decide)]; exact U3.2.2.2⟩
  revert U4
  generalize C3.set 0 (.inr (11, xs.set 15 (.inl (.inl v)))) = C4
  intro U4
  obtain ⟨us, u1, -, u3⟩ := hI_f U4.1 (show tb_G 0 = some (.inl (11, _)) from rfl)
  obtain ⟨_, w15, vv, rfl, -, -⟩ := u3 15 (.inl (-2147483648, 2147483647)) rfl
  obtain ⟨_, w2, rfl⟩ := u3 2 (.inr 8) rfl
  obtain ⟨_, w3, rfl⟩ := u3 3 (.inr 13) rfl
  obtain ⟨_, w4, rfl⟩ := u3 4 (.inr 18) rfl
  obtain ⟨_, w8, rfl⟩ := u3 8 (.inr 44) rfl
  obtain ⟨ls, l1, -, l3⟩ := hI_f U4.1 (show tb_G 8 = some (.inl (1, _)) from rfl)
  obtain ⟨ws, o1, -, o3⟩ := hI_f U4.1 (show tb_G 18 = some (.inl (10, _)) from rfl)
  obtain ⟨_, g0, told, rfl, -, -⟩ := l3 0 (.inl (0, 1)) rfl
  obtain ⟨_, k0, cz, rfl, -, -⟩ := o3 0 (.inl (0, 10)) rfl
  refine ok_p rfl rfl rfl ?_
  refine ok_gf rfl rfl u1 w15 ?_
  refine ok_p rfl rfl rfl ?_
  cases hq : ea_ck .eq vv (Int32.ofInt (Int.negSucc 0)) with
  | false =>
    refine ok_ic false rfl rfl hq ?_
    exact ok_tw rfl ⟨_, rfl⟩ rfl rfl ⟨U4, .head _⟩
  | true =>
    refine ok_ic true rfl rfl hq ?_
    have bad : ok_ (tb_P X) 133 68 [(0, .inr (.inl (some 0)))] [] C4 (fun o C' => us_P (rf_v C 0 14) C C' ∧ en_P 1 [0, 1] o) := ok_tw rfl ⟨_, rfl⟩ rfl rfl ⟨U4, .tail _ (.head _)⟩
    refine ok_p rfl rfl rfl ?_
    refine ok_gf rfl rfl u1 w2 ?_
    refine ok_gf rfl rfl l1 g0 ?_
    cases ht : ea_ck .ne told 0 with
    | true =>
      refine ok_if true rfl rfl ht ?_
      exact bad
    | false =>
      refine ok_if false rfl rfl ht ?_
      refine ok_p rfl rfl rfl ?_
      refine ok_gf rfl rfl u1 w4 ?_
      refine ok_gf rfl rfl o1 k0 ?_
      cases hz : ea_ck .le cz 0 with
      | false =>
        refine ok_if false rfl rfl hz ?_
        exact bad
      | true =>
        refine ok_if true rfl rfl hz ?_
        refine ok_p rfl rfl rfl ?_
        refine ok_gf rfl rfl u1 w2 ?_
        refine ok_p rfl rfl rfl ?_
        refine ok_gf rfl rfl u1 w3 ?_
        refine ok_cn (tk_yes X 25 (by decide)) (as := [.inr (.inl (some 13))]) (T := []) rfl rfl l1 rfl rfl rfl ⟨rfl, rfl, trivial⟩ U4.1 rfl (fun w C5 I5 F5 rv => ?_) (fun ce C' h => nomatch h)
        obtain rfl : w = none := rv
        have U5 := us_call U4 I5 F5 rfl rfl rfl
        show ok_ (tb_P X) 133 89 _ [] C5 _
        have X5 : ea_nt C5 0 = some (.inr (11, us)) := by rw [F5 0 rfl]; exact u1
        obtain ⟨ms, n1, -, -⟩ := hI_f I5 (show tb_G 44 = some (.inl (4, _)) from rfl)
        refine ok_p rfl rfl rfl ?_
        refine ok_gf rfl rfl X5 w8 ?_
        refine ok_cx (c := fg_c) (fg_ok X) (as := []) (T := []) (EV := []) rfl rfl n1 rfl rfl rfl ⟨rfl, trivial⟩ I5 trivial (fun q hq => nomatch hq) (fun w C6 I6 F6 rv P6 => ?_)
        obtain rfl : w = none := rv
        have U6 := us_call U5 I6 F6.1 rfl rfl rfl
        show ok_ (tb_P X) 133 96 _ [] C6 _
        have X6 : ea_nt C6 0 = some (.inr (11, us)) := by rw [F6.1 0 rfl]; exact X5
        obtain ⟨l6, e1, -, e3⟩ := hI_f I6 (show tb_G 8 = some (.inl (1, _)) from rfl)
        obtain ⟨_, g1, cl, rfl, -, -⟩ := e3 1 (.inl (0, 12)) rfl
        refine ok_p rfl rfl rfl ?_
        refine ok_gf rfl rfl X6 w2 ?_
        refine ok_gf rfl rfl e1 g1 ?_
        exact ok_r rfl rfl rfl rfl rfl ⟨U6, _, rfl⟩
set_option maxRecDepth 20000 in
set_option maxHeartbeats 4000000 in
theorem cm_republic {C : List AC} (hI : xI tb_G C) : ok_ (tb_P X) 134 0 (ea_ar 0 [.inr (.inl (some 0))]) [] C (fun o C' => us_P (rf_v C 0 14) C C' ∧ en_P 1 [0, 3] o) := by
  obtain ⟨xs, x1, x2, x3⟩ := hI_f hI (show tb_G 0 = some (.inl (11, _)) from rfl)
  obtain ⟨_, q1, rfl⟩ := x3 1 (.inr 3) rfl
  obtain ⟨_, q0, rfl⟩ := x3 0 (.inr 1) rfl
  obtain ⟨_, q4, rfl⟩ := x3 4 (.inr 18) rfl
  obtain ⟨_, q5, rfl⟩ := x3 5 (.inr 30) rfl
  obtain ⟨_, q7, rfl⟩ := x3 7 (.inr 43) rfl
  obtain ⟨ys, y1, -, -⟩ := hI_f hI (show tb_G 3 = some (.inl (9, _)) from rfl)
  refine ok_p rfl rfl rfl ?_
  refine ok_gf rfl rfl x1 q1 ?_
  refine ok_p rfl rfl rfl ?_
  refine ok_gf rfl rfl x1 q0 ?_
  refine ok_cn (tk_yes X 123 (by decide)) (as := [.inr (.inl (some 1))]) (T := []) rfl rfl y1 rfl rfl rfl ⟨rfl, rfl, trivial⟩ hI rfl (fun w C1 I1 F1 rv => ?_) (fun ce C' h => nomatch h)
  obtain rfl : w = none := rv
  show ok_ (tb_P X) 134 11 _ [] C1 _
  have X1 : ea_nt C1 0 = some (.inr (11, xs)) := by rw [F1 0 rfl]; exact x1
  refine ok_p rfl rfl rfl ?_
  refine ok_gf rfl rfl X1 q0 ?_
  refine ok_p rfl rfl rfl ?_
  obtain ⟨ts, m1, m2, I2, Z2, F2⟩ := cm_use I1
  refine ok_pf (v := .inl (.inl (Int32.ofInt 0))) rfl rfl m1 rfl (by rw [m2]; rfl) ?_
  have X2 : ea_nt (C1.set 1 (.inr (8, ts.set 1 (.inl (.inl (Int32.ofInt 0)))))) 0 = some (.inr (11, xs)) := by rw [F2 0 (by decide)]; exact X1
  have U2 : us_P (rf_v C 0 14) C (C1.set 1 (.inr (8, ts.set 1 (.inl (.inl (Int32.ofInt 0)))))) := ⟨I2, fun b hb => by rw [F2 b (by omega), F1 b (xm_hi hb (by decide))], Z2, rf_v_eq (cv_eq (by rw [X2, x1]) 14)⟩
  revert X2 U2
  generalize C1.set 1 (.inr (8, ts.set 1 (.inl (.inl (Int32.ofInt 0))))) = C2
  intro X2 U2
  obtain ⟨zs, z1, -, -⟩ := hI_f U2.1 (show tb_G 30 = some (.inl (10, _)) from rfl)
  refine ok_p rfl rfl rfl ?_
  refine ok_gf rfl rfl X2 q5 ?_
  refine ok_p rfl rfl rfl ?_
  refine ok_gf rfl rfl X2 q4 ?_
  refine ok_cn (tk_yes X 126 (by decide)) (as := [.inr (.inl (some 18))]) (T := []) rfl rfl z1 rfl rfl rfl ⟨rfl, rfl, trivial⟩ U2.1 rfl (fun w Ca Ia Fa rv => ?_) (fun ce C' h => nomatch h)
  obtain rfl : w = none := rv
  show ok_ (tb_P X) 134 30 _ [] Ca _
  have Ua := us_call U2 Ia Fa rfl rfl rfl
  have Xa : ea_nt Ca 0 = some (.inr (11, xs)) := by rw [Fa 0 rfl]; exact X2
  obtain ⟨zt, z2, -, -⟩ := hI_f Ia (show tb_G 43 = some (.inl (7, _)) from rfl)
  refine ok_p rfl rfl rfl ?_
  refine ok_p rfl rfl rfl ?_
  refine ok_gf rfl rfl Xa q7 ?_
  refine ok_cn (tk_yes X 121 (by decide)) (as := []) (T := [.inr (.inl (some 0))]) rfl rfl z2 rfl rfl rfl ⟨rfl, trivial⟩ Ia rfl (fun w C3 I3 F3 rv => ?_) (fun ce C' h => nomatch h)
  obtain ⟨v, rfl, v1, v2⟩ := rv
  show ok_ (tb_P X) 134 38 _ [.inl (.inl v), .inr (.inl (some 0))] C3 _
  have U3 := us_call Ua I3 F3 rfl rfl rfl
  have X3 : ea_nt C3 0 = some (.inr (11, xs)) := by rw [F3 0 rfl]; exact Xa
  have hlen : xs.length = 16 := x2
  refine ok_pf (v := .inl (.inl v)) rfl rfl X3 rfl (by rw [hlen]; rfl) ?_
  have I4 := xI_sf I3 (show tb_G 0 = some (.inl (11, _)) from rfl) X3 (k := 15) (v := .inl (.inl v)) rfl ⟨_, rfl, Int32.le_toInt v, Int.le_of_lt_add_one (Int32.toInt_lt v)⟩
  have U4 : us_P (rf_v C 0 14) C (C3.set 0 (.inr (11, xs.set 15 (.inl (.inl v))))) := ⟨I4, fun b hb => by rw [nt_set_ne (by omega)]; exact U3.2.1 b hb, by rw [rf_fa X3 (fun h => by cases h)]; exact U3.2.2.1, by rw [rf_fa X3 (fun _ => by decide)]; exact U3.2.2.2⟩
  revert U4
  generalize C3.set 0 (.inr (11, xs.set 15 (.inl (.inl v)))) = C4
  intro U4
  obtain ⟨us, u1, -, u3⟩ := hI_f U4.1 (show tb_G 0 = some (.inl (11, _)) from rfl)
  obtain ⟨_, w15, vv, rfl, -, -⟩ := u3 15 (.inl (-2147483648, 2147483647)) rfl
  obtain ⟨_, w4, rfl⟩ := u3 4 (.inr 18) rfl
  obtain ⟨_, w5, rfl⟩ := u3 5 (.inr 30) rfl
  obtain ⟨_, w8, rfl⟩ := u3 8 (.inr 44) rfl
  obtain ⟨ws, o1, -, o3⟩ := hI_f U4.1 (show tb_G 18 = some (.inl (10, _)) from rfl)
  obtain ⟨_, k15, tz, rfl, -, -⟩ := o3 15 (.inl (-2147483648, 2147483647)) rfl
  refine ok_p rfl rfl rfl ?_
  refine ok_gf rfl rfl u1 w15 ?_
  refine ok_p rfl rfl rfl ?_
  cases hq : ea_ck .eq vv (Int32.ofInt (Int.negSucc 0)) with
  | false =>
    refine ok_ic false rfl rfl hq ?_
    exact ok_tw rfl ⟨_, rfl⟩ rfl rfl ⟨U4, .head _⟩
  | true =>
    refine ok_ic true rfl rfl hq ?_
    refine ok_p rfl rfl rfl ?_
    refine ok_gf rfl rfl u1 w4 ?_
    refine ok_gf rfl rfl o1 k15 ?_
    refine ok_p rfl rfl rfl ?_
    cases ht : ea_ck .lt tz (Int8.ofInt 12).toInt32 with
    | false =>
      refine ok_ic false rfl rfl ht ?_
      exact ok_tw rfl ⟨_, rfl⟩ rfl rfl ⟨U4, .tail _ (.head _)⟩
    | true =>
      refine ok_ic true rfl rfl ht ?_
      refine ok_p rfl rfl rfl ?_
      refine ok_gf rfl rfl u1 w4 ?_
      refine ok_p rfl rfl rfl ?_
      refine ok_gf rfl rfl u1 w5 ?_
      refine ok_cn (tk_yes X 124 (by decide)) (as := [.inr (.inl (some 30))]) (T := []) rfl rfl o1 rfl rfl rfl ⟨rfl, rfl, trivial⟩ U4.1 rfl (fun w C5 I5 F5 rv => ?_) (fun ce C' h => nomatch h)
      obtain rfl : w = none := rv
      have U5 := us_call U4 I5 F5 rfl rfl rfl
      show ok_ (tb_P X) 134 92 _ [] C5 _
      have X5 : ea_nt C5 0 = some (.inr (11, us)) := by rw [F5 0 rfl]; exact u1
      obtain ⟨w5s, e1, e2, e3⟩ := hI_f I5 (show tb_G 18 = some (.inl (10, _)) from rfl)
      obtain ⟨_, h15, ty, rfl, -, -⟩ := e3 15 (.inl (-2147483648, 2147483647)) rfl
      have hl5 : w5s.length = 20 := e2
      refine ok_p rfl rfl rfl ?_
      refine ok_gf rfl rfl X5 w4 ?_
      refine ok_p rfl rfl rfl ?_
      refine ok_gf rfl rfl e1 h15 ?_
      refine ok_p rfl rfl rfl ?_
      refine ok_p rfl rfl rfl ?_
      refine ok_pf (v := .inl (.inl (ty + Int32.ofInt 1))) rfl rfl e1 rfl (by rw [hl5]; rfl) ?_
      have I6 := xI_sf I5 (show tb_G 18 = some (.inl (10, _)) from rfl) e1 (k := 15) (v := .inl (.inl (ty + Int32.ofInt 1))) rfl ⟨_, rfl, Int32.le_toInt _, Int.le_of_lt_add_one (Int32.toInt_lt _)⟩
      have U6 : us_P (rf_v C 0 14) C (C5.set 18 (.inr (10, w5s.set 15 (.inl (.inl (ty + Int32.ofInt 1)))))) := ⟨I6, fun b hb => by rw [nt_set_ne (by omega)]; exact U5.2.1 b hb, by rw [rf_fa e1 (fun h => by cases h)]; exact U5.2.2.1, by rw [rf_fa e1 (fun h => by cases h)]; exact U5.2.2.2⟩
      have X6 : ea_nt (C5.set 18 (.inr (10, w5s.set 15 (.inl (.inl (ty + Int32.ofInt 1)))))) 0 = some (.inr (11, us)) := by rw [nt_set_ne (by decide)]; exact X5
      revert U6 X6
      generalize C5.set 18 (.inr (10, w5s.set 15 (.inl (.inl (ty + Int32.ofInt 1))))) = C6
      intro U6 X6
      obtain ⟨ms, n1, -, -⟩ := hI_f U6.1 (show tb_G 44 = some (.inl (4, _)) from rfl)
      refine ok_p rfl rfl rfl ?_
      refine ok_gf rfl rfl X6 w8 ?_
      refine ok_cx (c := fg_c) (fg_ok X) (as := []) (T := []) (EV := []) rfl rfl n1 rfl rfl rfl ⟨rfl, trivial⟩ U6.1 trivial (fun q hq => nomatch hq) (fun w C7 I7 F7 rv P7 => ?_)
      obtain rfl : w = none := rv
      have U7 := us_call U6 I7 F7.1 rfl rfl rfl
      show ok_ (tb_P X) 134 112 _ [] C7 _
      have X7 : ea_nt C7 0 = some (.inr (11, us)) := by rw [F7.1 0 rfl]; exact X6
      obtain ⟨l7, f1, -, f3⟩ := hI_f I7 (show tb_G 18 = some (.inl (10, _)) from rfl)
      obtain ⟨_, g15, cl, rfl, -, -⟩ := f3 15 (.inl (-2147483648, 2147483647)) rfl
      refine ok_p rfl rfl rfl ?_
      refine ok_gf rfl rfl X7 w4 ?_
      refine ok_gf rfl rfl f1 g15 ?_
      exact ok_r rfl rfl rfl rfl rfl ⟨U7, _, rfl⟩
end CLS
