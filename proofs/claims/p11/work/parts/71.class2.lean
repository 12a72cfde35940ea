/-! THE CLASS: read, next, image -/
section CLS2
variable (X : Option (List AI))
set_option maxRecDepth 20000 in
set_option maxHeartbeats 4000000 in
theorem cm_read {n : Int32} {C : List AC} (hI : xI tb_G C) : ok_ (tb_P X) 149 0 (ea_ar 0 [.inr (.inl (some 0)), .inl (.inl n)]) [] C (fun o C' => us_P (rf_v C 0 14) C C' ∧ en_P 1 [0, 4] o) := by
  obtain ⟨xs, x1, x2, x3⟩ := hI_f hI (show tb_G 0 = some (.inl (11, _)) from rfl)
  obtain ⟨_, q9, rfl⟩ := x3 9 (.inr 166) rfl
  obtain ⟨_, q0, rfl⟩ := x3 0 (.inr 1) rfl
  obtain ⟨ys, y1, -, -⟩ := hI_f hI (show tb_G 166 = some (.inl (6, _)) from rfl)
  refine ok_p rfl rfl rfl ?_
  refine ok_gf rfl rfl x1 q9 ?_
  refine ok_p rfl rfl rfl ?_
  refine ok_gf rfl rfl x1 q0 ?_
  refine ok_cn (tk_yes X 105 (by decide)) (as := [.inr (.inl (some 1))]) (T := []) rfl rfl y1 rfl rfl rfl ⟨rfl, rfl, trivial⟩ hI rfl (fun w C1 I1 F1 rv => ?_) (fun ce C' h => nomatch h)
  obtain ⟨f, rfl, f1, f2⟩ := rv
  show ok_ (tb_P X) 149 11 _ [.inl (.inl f)] C1 _
  have X1 : ea_nt C1 0 = some (.inr (11, xs)) := by rw [F1 0 rfl]; exact x1
  refine ok_p rfl rfl rfl ?_
  refine ok_p rfl rfl rfl ?_
  refine ok_gf rfl rfl X1 q0 ?_
  refine ok_p rfl rfl rfl ?_
  obtain ⟨ts, m1, m2, I2, Z2, F2⟩ := cm_use I1
  refine ok_pf (v := .inl (.inl (Int32.ofInt 0))) rfl rfl m1 rfl (by rw [m2]; rfl) ?_
  have X2 : ea_nt (C1.set 1 (.inr (8, ts.set 1 (.inl (.inl (Int32.ofInt 0)))))) 0 = some (.inr (11, xs)) := by rw [F2 0 (by decide)]; exact X1
  have U2 : us_P (rf_v C 0 14) C (C1.set 1 (.inr (8, ts.set 1 (.inl (.inl (Int32.ofInt 0)))))) := ⟨I2, fun b hb => by rw [F2 b (by omega), F1 b (xm_hi hb (by decide))], Z2, rf_v_eq (cv_eq (by rw [X2, x1]) 14)⟩
  revert X2 U2
  generalize C1.set 1 (.inr (8, ts.set 1 (.inl (.inl (Int32.ofInt 0))))) = C2
  intro X2 U2
  have bad : ok_ (tb_P X) 149 44 [(2, .inl (.inl f)), (0, .inr (.inl (some 0))), (1, .inl (.inl n))] [] C2 (fun o C' => us_P (rf_v C 0 14) C C' ∧ en_P 1 [0, 4] o) := ok_tw rfl ⟨_, rfl⟩ rfl rfl ⟨U2, .tail _ (.head _)⟩
  refine ok_p rfl rfl rfl ?_
  rcases yes_no f1 f2 with rfl | rfl
  · refine ok_p rfl rfl rfl ?_
    exact ok_tw rfl ⟨_, rfl⟩ rfl rfl ⟨U2, .head _⟩
  refine ok_p rfl rfl rfl ?_
  refine ok_p rfl rfl rfl ?_
  cases h1 : ea_ck .lt n 0 with
  | true =>
    refine ok_if true rfl rfl h1 ?_
    exact bad
  | false =>
    refine ok_if false rfl rfl h1 ?_
    refine ok_p rfl rfl rfl ?_
    refine ok_p rfl rfl rfl ?_
    cases h2 : ea_ck .le n (Int32.ofInt 2) with
    | false =>
      refine ok_ic false rfl rfl h2 ?_
      exact bad
    | true =>
      refine ok_ic true rfl rfl h2 ?_
      obtain ⟨ys2, y2, -, -⟩ := hI_f U2.1 (show tb_G 166 = some (.inl (6, _)) from rfl)
      refine ok_p rfl rfl rfl ?_
      refine ok_gf rfl rfl X2 q9 ?_
      refine ok_cn (tk_yes X 107 (by decide)) (as := []) (T := []) rfl rfl y2 rfl rfl rfl ⟨rfl, trivial⟩ U2.1 rfl (fun w C3 I3 F3 rv => ?_) (fun ce C' h => nomatch h)
      obtain rfl : w = none := rv
      have U3 := us_call U2 I3 F3 rfl rfl rfl
      have X3 : ea_nt C3 0 = some (.inr (11, xs)) := by rw [F3 0 rfl]; exact X2
      show ok_ (tb_P X) 149 61 _ [] C3 _
      obtain ⟨ys3, y3, -, e3⟩ := hI_f I3 (show tb_G 166 = some (.inl (6, _)) from rfl)
      have fin : ∀ y : Int32, ok_ (tb_P X) 149 97 [(2, .inl (.inl (Int32.ofInt 1))), (0, .inr (.inl (some 0))), (1, .inl (.inl n))] [.inl (.inl y)] C3 (fun o C' => us_P (rf_v C 0 14) C C' ∧ en_P 1 [0, 4] o) := fun y => ok_r rfl rfl rfl rfl rfl ⟨U3, _, rfl⟩
      obtain ⟨_, g6, a6, rfl, -, -⟩ := e3 6 (.inl (-2147483648, 2147483647)) rfl
      obtain ⟨_, g7, a7, rfl, -, -⟩ := e3 7 (.inl (-2147483648, 2147483647)) rfl
      obtain ⟨_, g8, a8, rfl, -, -⟩ := e3 8 (.inl (-2147483648, 2147483647)) rfl
      refine ok_p rfl rfl rfl ?_
      cases h3 : ea_ck .ne n 0 with
      | false =>
        refine ok_if false rfl rfl h3 ?_
        refine ok_p rfl rfl rfl ?_
        refine ok_gf rfl rfl X3 q9 ?_
        refine ok_gf rfl rfl y3 g6 ?_
        refine ok_p rfl rfl rfl ?_
        exact fin _
      | true =>
        refine ok_if true rfl rfl h3 ?_
        refine ok_p rfl rfl rfl ?_
        refine ok_p rfl rfl rfl ?_
        cases h4 : ea_ck .ne n (Int32.ofInt 1) with
        | false =>
          refine ok_ic false rfl rfl h4 ?_
          refine ok_p rfl rfl rfl ?_
          refine ok_gf rfl rfl X3 q9 ?_
          refine ok_gf rfl rfl y3 g7 ?_
          refine ok_p rfl rfl rfl ?_
          exact fin _
        | true =>
          refine ok_ic true rfl rfl h4 ?_
          refine ok_p rfl rfl rfl ?_
          refine ok_gf rfl rfl X3 q9 ?_
          refine ok_gf rfl rfl y3 g8 ?_
          exact fin _
/-- a citizen is wanted -/
theorem cm_nix {a b : Int32} {C : List AC} {K : Option AV ⊕ Nat → List AC → Prop} (h1 : 0 ≤ a.toInt → a.toInt < b.toInt → K (.inl none) C) (h2 : K (.inr 2) C) : ok_ (tb_P X) 181 0 (ea_ar 0 [.inl (.inl a), .inl (.inl b)]) [] C K := by
  have bad : ok_ (tb_P X) 181 9 [(0, .inl (.inl a)), (1, .inl (.inl b))] [] C K := ok_tw rfl ⟨_, rfl⟩ rfl rfl h2
  refine ok_p rfl rfl rfl ?_
  cases hq : ea_ck .lt a 0 with
  | true =>
    refine ok_if true rfl rfl hq ?_
    exact bad
  | false =>
    have e1 : ¬ a < 0 := of_decide_eq_false hq
    rw [Int32.lt_iff_toInt_lt, show (0 : Int32).toInt = 0 by decide] at e1
    refine ok_if false rfl rfl hq ?_
    refine ok_p rfl rfl rfl ?_
    refine ok_p rfl rfl rfl ?_
    cases hr : ea_ck .lt a b with
    | false =>
      refine ok_ic false rfl rfl hr ?_
      exact bad
    | true =>
      have e2 : a < b := of_decide_eq_true hr
      rw [Int32.lt_iff_toInt_lt] at e2
      refine ok_ic true rfl rfl hr ?_
      exact ok_r rfl rfl rfl rfl rfl (h1 (by omega) e2)
theorem cm_nci {a : Int32} {C : List AC} (hI : xI tb_G C) {K : Option AV ⊕ Nat → List AC → Prop} (h1 : 0 ≤ a.toInt → a.toInt ≤ 9 → K (.inl none) C) (h2 : K (.inr 2) C) : ok_ (tb_P X) 179 0 (ea_ar 0 [.inr (.inl (some 0)), .inl (.inl a)]) [] C K := by
  obtain ⟨xs, x1, x2, x3⟩ := hI_f hI (show tb_G 0 = some (.inl (11, _)) from rfl)
  obtain ⟨_, q4, rfl⟩ := x3 4 (.inr 18) rfl
  obtain ⟨ws, o1, -, o3⟩ := hI_f hI (show tb_G 18 = some (.inl (10, _)) from rfl)
  obtain ⟨_, k0, cz, rfl, c1, c2⟩ := o3 0 (.inl (0, 10)) rfl
  dsimp only at c1 c2
  refine ok_p rfl rfl rfl ?_
  refine ok_p rfl rfl rfl ?_
  refine ok_gf rfl rfl x1 q4 ?_
  refine ok_gf rfl rfl o1 k0 ?_
  refine ok_cs (as := [.inl (.inl a), .inl (.inl cz)]) (T := []) rfl rfl rfl rfl ?_
  refine cm_nix X (fun e1 e2 => ?_) ?_
  · show ok_ (tb_P X) 179 11 _ [] C K
    exact ok_r rfl rfl rfl rfl rfl (h1 e1 (by omega))
  · exact ⟨rfl, rfl, h2⟩
def wa_c : CX := ((108, [.inr (.inl 18), .inl (0, 9)], [], (1, 0, 1), [], []), [], 0, ([], []), ([], []))
set_option maxRecDepth 100000 in
theorem wa_ck : cx_ck (tb_P none) tb_G tr_gs (fun _ => []) (fun _ _ => none) [] wa_c 400 = true := by decide +kernel
theorem wa_ok : cx_ok (tb_P X) tb_G (rf_G 0) wa_c := cx_ck_ok tr_G9 (rf_gs 0) no_c no_m (hds := []) (n := 400) (by rw [cx_scr X]; exact wa_ck)
theorem cm_nal {a : Int32} (a1 : 0 ≤ a.toInt) (a2 : a.toInt ≤ 9) {C : List AC} (hI : xI tb_G C) {K : Option AV ⊕ Nat → List AC → Prop} (h1 : K (.inl none) C) (h2 : K (.inr 1) C) : ok_ (tb_P X) 182 0 (ea_ar 0 [.inr (.inl (some 0)), .inl (.inl a)]) [] C K := by
  obtain ⟨xs, x1, x2, x3⟩ := hI_f hI (show tb_G 0 = some (.inl (11, _)) from rfl)
  obtain ⟨_, q4, rfl⟩ := x3 4 (.inr 18) rfl
  obtain ⟨ws, o1, -, -⟩ := hI_f hI (show tb_G 18 = some (.inl (10, _)) from rfl)
  refine ok_p rfl rfl rfl ?_
  refine ok_gf rfl rfl x1 q4 ?_
  refine ok_p rfl rfl rfl ?_
  refine ok_cx (c := wa_c) (wa_ok X) (as := [.inl (.inl a)]) (T := []) (EV := []) rfl rfl o1 rfl rfl rfl ⟨rfl, ⟨_, rfl, a1, a2⟩, trivial⟩ hI trivial (fun q hq => nomatch hq) (fun w C2 I2 F2 rv P2 => ?_)
  obtain rfl := nt_ext (fun b => F2.1 b rfl)
  obtain ⟨y, rfl, y1, y2⟩ := rv
  show ok_ (tb_P X) 182 8 _ [.inl (.inl y)] C2 K
  rcases yes_no y1 y2 with rfl | rfl
  · refine ok_p rfl rfl rfl ?_
    exact ok_tw rfl ⟨_, rfl⟩ rfl rfl h2
  · refine ok_p rfl rfl rfl ?_
    exact ok_r rfl rfl rfl rfl rfl h1
set_option maxRecDepth 20000 in
set_option maxHeartbeats 4000000 in
theorem cm_next {n : Int32} {C : List AC} (hI : xI tb_G C) : ok_ (tb_P X) 150 0 (ea_ar 0 [.inr (.inl (some 0)), .inl (.inl n)]) [] C (fun o C' => us_P (rf_v C 0 14) C C' ∧ en_P 1 [0, 1, 2] o) := by
  obtain ⟨xs, x1, x2, x3⟩ := hI_f hI (show tb_G 0 = some (.inl (11, _)) from rfl)
  obtain ⟨_, q9, rfl⟩ := x3 9 (.inr 166) rfl
  obtain ⟨_, q0, rfl⟩ := x3 0 (.inr 1) rfl
  obtain ⟨ys, y1, -, -⟩ := hI_f hI (show tb_G 166 = some (.inl (6, _)) from rfl)
  refine ok_p rfl rfl rfl ?_
  refine ok_gf rfl rfl x1 q9 ?_
  refine ok_p rfl rfl rfl ?_
  refine ok_gf rfl rfl x1 q0 ?_
  refine ok_cn (tk_yes X 105 (by decide)) (as := [.inr (.inl (some 1))]) (T := []) rfl rfl y1 rfl rfl rfl ⟨rfl, rfl, trivial⟩ hI rfl (fun w C1 I1 F1 rv => ?_) (fun ce C' h => nomatch h)
  obtain ⟨f, rfl, f1, f2⟩ := rv
  show ok_ (tb_P X) 150 11 _ [.inl (.inl f)] C1 _
  have X1 : ea_nt C1 0 = some (.inr (11, xs)) := by rw [F1 0 rfl]; exact x1
  refine ok_p rfl rfl rfl ?_
  refine ok_p rfl rfl rfl ?_
  refine ok_gf rfl rfl X1 q0 ?_
  refine ok_p rfl rfl rfl ?_
  obtain ⟨ts, m1, m2, I2, Z2, F2⟩ := cm_use I1
  refine ok_pf (v := .inl (.inl (Int32.ofInt 0))) rfl rfl m1 rfl (by rw [m2]; rfl) ?_
  have X2 : ea_nt (C1.set 1 (.inr (8, ts.set 1 (.inl (.inl (Int32.ofInt 0)))))) 0 = some (.inr (11, xs)) := by rw [F2 0 (by decide)]; exact X1
  have U2 : us_P (rf_v C 0 14) C (C1.set 1 (.inr (8, ts.set 1 (.inl (.inl (Int32.ofInt 0)))))) := ⟨I2, fun b hb => by rw [F2 b (by omega), F1 b (xm_hi hb (by decide))], Z2, rf_v_eq (cv_eq (by rw [X2, x1]) 14)⟩
  revert X2 U2
  generalize C1.set 1 (.inr (8, ts.set 1 (.inl (.inl (Int32.ofInt 0))))) = C2
  intro X2 U2
  refine ok_p rfl rfl rfl ?_
  refine ok_p rfl rfl rfl ?_
  refine ok_cv (mj := 179) (as := [.inl (.inl n)]) (T := []) rfl rfl X2 rfl rfl rfl ?_
  refine cm_nci X U2.1 (fun n1 n2 => ?_) ⟨rfl, rfl, U2, .tail _ (.tail _ (.head _))⟩
  show ok_ (tb_P X) 150 25 _ [] C2 _
  refine ok_p rfl rfl rfl ?_
  rcases yes_no f1 f2 with rfl | rfl
  · refine ok_p rfl rfl rfl ?_
    exact ok_tw rfl ⟨_, rfl⟩ rfl rfl ⟨U2, .head _⟩
  refine ok_p rfl rfl rfl ?_
  refine ok_p rfl rfl rfl ?_
  refine ok_p rfl rfl rfl ?_
  refine ok_cv (mj := 182) (as := [.inl (.inl n)]) (T := []) rfl rfl X2 rfl rfl rfl ?_
  refine cm_nal X n1 n2 U2.1 ?_ ⟨rfl, rfl, U2, .tail _ (.head _)⟩
  show ok_ (tb_P X) 150 45 _ [] C2 _
  obtain ⟨ys2, y2, -, -⟩ := hI_f U2.1 (show tb_G 166 = some (.inl (6, _)) from rfl)
  refine ok_p rfl rfl rfl ?_
  refine ok_gf rfl rfl X2 q9 ?_
  refine ok_cn (tk_yes X 107 (by decide)) (as := []) (T := []) rfl rfl y2 rfl rfl rfl ⟨rfl, trivial⟩ U2.1 rfl (fun w C3 I3 F3 rv => ?_) (fun ce C' h => nomatch h)
  obtain rfl : w = none := rv
  have U3 := us_call U2 I3 F3 rfl rfl rfl
  have X3 : ea_nt C3 0 = some (.inr (11, xs)) := by rw [F3 0 rfl]; exact X2
  show ok_ (tb_P X) 150 52 _ [] C3 _
  obtain ⟨ys3, y3, -, e3⟩ := hI_f I3 (show tb_G 166 = some (.inl (6, _)) from rfl)
  obtain ⟨_, g6, a6, rfl, -, -⟩ := e3 6 (.inl (-2147483648, 2147483647)) rfl
  refine ok_p rfl rfl rfl ?_
  refine ok_gf rfl rfl X3 q9 ?_
  refine ok_gf rfl rfl y3 g6 ?_
  refine ok_p rfl rfl rfl ?_
  cases h3 : ea_ck .ge a6 (Int32.ofInt 2) with
  | false =>
    refine ok_ic false rfl rfl h3 ?_
    refine ok_p rfl rfl rfl ?_
    refine ok_p rfl rfl rfl ?_
    exact ok_r rfl rfl rfl rfl rfl ⟨U3, _, rfl⟩
  | true =>
    refine ok_ic true rfl rfl h3 ?_
    refine ok_p rfl rfl rfl ?_
    refine ok_gf rfl rfl X3 q9 ?_
    refine ok_p rfl rfl rfl ?_
    refine ok_cn (tk_yes X 109 (by decide)) (as := [.inl (.inl n)]) (T := []) rfl rfl y3 rfl rfl rfl ⟨rfl, ⟨_, rfl, n1, n2⟩, trivial⟩ I3 rfl (fun w C4 I4 F4 rv => ?_) (fun ce C' h => nomatch h)
    obtain ⟨y, rfl, -, -⟩ := rv
    have U4 := us_call U3 I4 F4 rfl rfl rfl
    show ok_ (tb_P X) 150 75 _ [.inl (.inl y)] C4 _
    exact ok_r rfl rfl rfl rfl rfl ⟨U4, _, rfl⟩
set_option maxRecDepth 20000 in
set_option maxHeartbeats 4000000 in
theorem cm_image {C : List AC} (hI : xI tb_G C) : ok_ (tb_P X) 175 0 (ea_ar 0 [.inr (.inl (some 0))]) [] C (fun o C' => cm_P (rf_v C 1 1) 1 C C' ∧ o = .inl none) := by
  obtain ⟨xs, x1, x2, x3⟩ := hI_f hI (show tb_G 0 = some (.inl (11, _)) from rfl)
  have hlen : xs.length = 16 := x2
  obtain ⟨_, q2, rfl⟩ := x3 2 (.inr 8) rfl
  obtain ⟨_, q4, rfl⟩ := x3 4 (.inr 18) rfl
  obtain ⟨_, q12, rfl⟩ := x3 12 (.inr 173) rfl
  obtain ⟨_, q13, rfl⟩ := x3 13 (.inr 178) rfl
  obtain ⟨_, q14, im, rfl, -, -⟩ := x3 14 (.inl (0, 1)) rfl
  obtain ⟨ys, y1, -, -⟩ := hI_f hI (show tb_G 173 = some (.inl (1, _)) from rfl)
  refine ok_p rfl rfl rfl ?_
  refine ok_gf rfl rfl x1 q12 ?_
  refine ok_p rfl rfl rfl ?_
  refine ok_gf rfl rfl x1 q2 ?_
  refine ok_cn (tk_yes X 27 (by decide)) (as := [.inr (.inl (some 8))]) (T := []) rfl rfl y1 rfl rfl rfl ⟨rfl, rfl, trivial⟩ hI rfl (fun w C1 I1 F1 rv => ?_) (fun ce C' h => nomatch h)
  obtain rfl : w = none := rv
  show ok_ (tb_P X) 175 11 _ [] C1 _
  have X1 : ea_nt C1 0 = some (.inr (11, xs)) := by rw [F1 0 rfl]; exact x1
  obtain ⟨zs, z1, -, -⟩ := hI_f I1 (show tb_G 178 = some (.inl (10, _)) from rfl)
  refine ok_p rfl rfl rfl ?_
  refine ok_gf rfl rfl X1 q13 ?_
  refine ok_p rfl rfl rfl ?_
  refine ok_gf rfl rfl X1 q4 ?_
  refine ok_cn (tk_yes X 127 (by decide)) (as := [.inr (.inl (some 18))]) (T := []) rfl rfl z1 rfl rfl rfl ⟨rfl, rfl, trivial⟩ I1 rfl (fun w C2 I2 F2 rv => ?_) (fun ce C' h => nomatch h)
  obtain rfl : w = none := rv
  show ok_ (tb_P X) 175 22 _ [] C2 _
  have X2 : ea_nt C2 0 = some (.inr (11, xs)) := by rw [F2 0 rfl]; exact X1
  refine ok_p rfl rfl rfl ?_
  refine ok_p rfl rfl rfl ?_
  refine ok_pf (v := .inl (.inl (Int32.ofInt 1))) rfl rfl X2 rfl (by rw [hlen]; rfl) ?_
  have I3 := xI_sf I2 (show tb_G 0 = some (.inl (11, _)) from rfl) X2 (k := 14) (v := .inl (.inl (Int32.ofInt 1))) rfl ⟨_, rfl, by decide, by decide⟩
  refine ok_r rfl rfl rfl rfl rfl ⟨⟨I3, fun b hb => ?_, ?_, ?_⟩, rfl⟩
  · rw [nt_set_ne (by omega), F2 b (xm_hi (M := [(178, 190)]) hb (by decide)), F1 b (xm_hi (M := [(173, 178)]) hb (by decide))]
  · rw [rf_fa X2 (fun h => by cases h), rf_v_eq (cv_eq (F2 1 rfl) 1), rf_v_eq (cv_eq (F1 1 rfl) 1)]
  · exact rf_f (nt_set_self X2) (nt_set_self q14)
end CLS2
