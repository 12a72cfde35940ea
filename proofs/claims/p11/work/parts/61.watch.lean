/-! CONTRACTS BY HAND: what was watched, and codes -/
section WAT
variable (X : Option (List AI)) (u : Nat) {C : List AC} {K : Option AV ⊕ Nat → List AC → Prop}
theorem in_run {x lo hi : Int32} (h : ∀ y : Int32, (y = Int32.ofInt 0 ∨ (y = Int32.ofInt 1 ∧ lo.toInt ≤ x.toInt ∧ x.toInt ≤ hi.toInt)) → K (.inl (some (.inl (.inl y)))) C) : ok_ (tb_P X) 187 0 (ea_ar 0 [.inl (.inl x), .inl (.inl lo), .inl (.inl hi)]) [] C K := by
  refine ok_p rfl rfl rfl ?_
  refine ok_p rfl rfl rfl ?_
  cases h1 : ea_ck .lt x lo with
  | true =>
    refine ok_ic true rfl rfl h1 ?_
    refine ok_p rfl rfl rfl ?_
    exact ok_r rfl rfl rfl rfl rfl (h _ (Or.inl rfl))
  | false =>
    have e1 : ¬ x < lo := of_decide_eq_false h1
    rw [Int32.lt_iff_toInt_lt] at e1
    refine ok_ic false rfl rfl h1 ?_
    refine ok_p rfl rfl rfl ?_
    refine ok_p rfl rfl rfl ?_
    cases h2 : ea_ck .gt x hi with
    | true =>
      refine ok_ic true rfl rfl h2 ?_
      refine ok_p rfl rfl rfl ?_
      exact ok_r rfl rfl rfl rfl rfl (h _ (Or.inl rfl))
    | false =>
      have e2 : ¬ hi < x := of_decide_eq_false h2
      rw [Int32.lt_iff_toInt_lt] at e2
      refine ok_ic false rfl rfl h2 ?_
      refine ok_p rfl rfl rfl ?_
      refine ok_p rfl rfl rfl ?_
      exact ok_r rfl rfl rfl rfl rfl (h _ (Or.inr ⟨rfl, by omega, by omega⟩))
theorem cits_run (hI : xI tb_G C) (h : ∀ N : Int32, 0 ≤ N.toInt → N.toInt ≤ 10 → rf_v C 191 0 = N.toInt → K (.inl (some (.inl (.inl N)))) C) : ok_ (tb_P X) 198 0 (ea_ar 0 [.inr (.inl (some 190))]) [] C K := by
  obtain ⟨ms, m1, m2, m3⟩ := hI_f hI (show tb_G 190 = some (.inl (12, _)) from rfl)
  obtain ⟨_, r1, rfl⟩ := m3 1 (.inr 191) rfl
  obtain ⟨d, us, a1, a2⟩ := hI_a hI (show tb_G 191 = some (.inr (0, 388, 388, tg_row)) from rfl)
  obtain ⟨f, f1, f2⟩ := el_get (by decide) (a2 0 (by decide))
  cases (show some (Sum.inl (0, 10)) = some f from f1)
  obtain ⟨N, f2, f3, f4⟩ := f2
  refine ok_p rfl rfl rfl ?_
  refine ok_gf rfl rfl m1 r1 ?_
  refine ok_p rfl rfl rfl ?_
  refine ok_al rfl a1 (ix_of (x := Int32.ofInt 0) (j := 0) (by decide) (by decide)) f2 ?_
  exact ok_r rfl rfl rfl rfl rfl (h N f3 f4 (rf_el a1 (by decide) f2))
theorem nocit_run (hI : xI tb_G C) {c : Int32} (h : ∀ y : Int32, (y = Int32.ofInt 1 ∨ (y = Int32.ofInt 0 ∧ 0 ≤ c.toInt ∧ c.toInt < rf_v C 191 0 ∧ c.toInt ≤ 9)) → K (.inl (some (.inl (.inl y)))) C) : ok_ (tb_P X) 205 0 (ea_ar 0 [.inr (.inl (some 190)), .inl (.inl c)]) [] C K := by
  obtain ⟨ms, m1, m2, m3⟩ := hI_f hI (show tb_G 190 = some (.inl (12, _)) from rfl)
  refine ok_p rfl rfl rfl ?_
  refine ok_p rfl rfl rfl ?_
  refine ok_p rfl rfl rfl ?_
  refine ok_cv (mj := 198) (as := []) (T := [.inl (.inl (Int32.ofInt 0)), .inl (.inl c)]) rfl rfl m1 rfl rfl rfl ?_
  refine cits_run X hI (fun N n1 n2 n3 => ?_)
  show ok_ (tb_P X) 205 6 _ [.inl (.inl N), .inl (.inl (Int32.ofInt 0)), .inl (.inl c)] C K
  have hs : (N - Int32.ofInt 1).toInt = N.toInt - 1 := by rw [i32_sub (by rw [i_1]; omega) (by rw [i_1]; omega), i_1]
  refine ok_p rfl rfl rfl ?_
  refine ok_p rfl rfl rfl ?_
  refine ok_cs (as := [.inl (.inl c), .inl (.inl (Int32.ofInt 0)), .inl (.inl (N - Int32.ofInt 1))]) (T := []) rfl rfl rfl rfl ?_
  refine in_run X (fun y hy => ?_)
  show ok_ (tb_P X) 205 11 _ [.inl (.inl y)] C K
  rcases hy with rfl | ⟨rfl, y1, y2⟩
  · refine ok_p rfl rfl rfl ?_
    refine ok_p rfl rfl rfl ?_
    refine ok_p rfl rfl rfl ?_
    exact ok_r rfl rfl rfl rfl rfl (h _ (Or.inl rfl))
  · refine ok_p rfl rfl rfl ?_
    refine ok_p rfl rfl rfl ?_
    have z0 : (Int32.ofInt 0).toInt = 0 := by decide
    exact ok_r rfl rfl rfl rfl rfl (h _ (Or.inr ⟨rfl, by omega, by omega, by omega⟩))
theorem nomat_run {c : Int32} (h : ∀ y : Int32, (y = Int32.ofInt 1 ∨ (y = Int32.ofInt 0 ∧ 0 ≤ c.toInt ∧ c.toInt ≤ 63)) → K (.inl (some (.inl (.inl y)))) C) : ok_ (tb_P X) 207 0 (ea_ar 0 [.inl (.inl c)]) [] C K := by
  refine ok_p rfl rfl rfl ?_
  refine ok_p rfl rfl rfl ?_
  refine ok_p rfl rfl rfl ?_
  refine ok_cs (as := [.inl (.inl c), .inl (.inl (Int32.ofInt 0)), .inl (.inl (Int8.ofInt 63).toInt32)]) (T := []) rfl rfl rfl rfl ?_
  refine in_run X (fun y hy => ?_)
  show ok_ (tb_P X) 207 7 _ [.inl (.inl y)] C K
  rcases hy with rfl | ⟨rfl, y1, y2⟩
  · refine ok_p rfl rfl rfl ?_
    refine ok_p rfl rfl rfl ?_
    refine ok_p rfl rfl rfl ?_
    exact ok_r rfl rfl rfl rfl rfl (h _ (Or.inl rfl))
  · refine ok_p rfl rfl rfl ?_
    refine ok_p rfl rfl rfl ?_
    have z0 : (Int32.ofInt 0).toInt = 0 := by decide
    have z1 : ((Int8.ofInt 63).toInt32).toInt = 63 := by decide
    exact ok_r rfl rfl rfl rfl rfl (h _ (Or.inr ⟨rfl, by omega, by omega⟩))
end WAT
def al_c : CX := ((201, [.inr (.inl 190), .inl (0, 9)], [], (1, 0, 1), [], []), [], 0, ([], []), ([], []))
def fo_c : CX := ((245, [.inr (.inl 190), .inl ((-2147483648), 2147483647), .inl ((-2147483648), 2147483647), .inl ((-2147483648), 2147483647), .inl (0, 9), .inl ((-2147483648), 2147483647)], [], (1, (-2147483648), 2147483647), [], []), [], 0, ([], []), ([], []))
def do_c : CX := ((204, [.inr (.inl 190), .inl (0, 11)], [], (1, (-2147483648), 2147483647), [], []), [], 0, ([], []), ([], []))
def sy_c : CX := ((248, [.inr (.inl 190), .inl ((-2147483648), 2147483647), .inl (0, 1), .inl (0, 63), .inl (0, 9), .inl ((-2147483648), 2147483647)], [(207, 208)], (1, 0, 4095), [], [(999, 0, 1, 1), (1001, 0, 1, 1)]), [], 0, ([], []), ([], []))
def sy_h : List (Nat × HX) := [(6, ([(0, .inr (.inl 190)), (1, .inl ((-2147483648), 2147483647)), (2, .inl (0, 1)), (3, .inl (0, 63)), (4, .inl (0, 9)), (5, .inl ((-2147483648), 2147483647)), (6, .inl (0, 4095)), (7, .inl (0, 12))], [(999, 0, 1, 1), (1001, 0, 1, 1)], [], 12, [(1, some (.inl 7))]))]
def fn_ct (m : Nat) : List CX := bif Nat.beq m 248 then [sy_c] else []
def fn_c : CX := ((250, [.inr (.inl 190), .inl ((-2147483648), 2147483647), .inl (0, 63), .inl (0, 9)], [(207, 208)], (1, 0, 4095), [], [(999, 0, 1, 1), (1001, 0, 1, 1)]), [], 0, ([], []), ([], []))
set_option maxRecDepth 100000 in
theorem al_ck : cx_ck (tb_P none) tb_G tr_gs (fun _ => []) (fun _ _ => none) [] al_c 400 = true := by decide +kernel
set_option maxRecDepth 100000 in
theorem fo_ck : cx_ck (tb_P none) tb_G tr_gs (fun _ => []) (fun _ _ => none) [] fo_c 400 = true := by decide +kernel
set_option maxRecDepth 100000 in
theorem do_ck : cx_ck (tb_P none) tb_G tr_gs (fun _ => []) (fun _ _ => none) [] do_c 400 = true := by decide +kernel
set_option maxRecDepth 100000 in
theorem sy_ck : cx_ck (tb_P none) tb_G tr_gs (tr_ct 132) (fun _ _ => none) sy_h sy_c 4000 = true := by decide +kernel
set_option maxRecDepth 100000 in
theorem fn_ck : cx_ck (tb_P none) tb_G tr_gs fn_ct (fun _ _ => none) [] fn_c 400 = true := by decide +kernel
theorem al_ok (X : Option (List AI)) (u : Nat) : cx_ok (tb_P X) tb_G (rf_G u) al_c := cx_ck_ok tr_G9 (rf_gs u) no_c no_m (hds := []) (n := 400) (by rw [cx_scr X]; exact al_ck)
theorem fo_ok (X : Option (List AI)) (u : Nat) : cx_ok (tb_P X) tb_G (rf_G u) fo_c := cx_ck_ok tr_G9 (rf_gs u) no_c no_m (hds := []) (n := 400) (by rw [cx_scr X]; exact fo_ck)
theorem do_ok (X : Option (List AI)) (u : Nat) : cx_ok (tb_P X) tb_G (rf_G u) do_c := cx_ck_ok tr_G9 (rf_gs u) no_c no_m (hds := []) (n := 400) (by rw [cx_scr X]; exact do_ck)
theorem fn_ok (X : Option (List AI)) (u : Nat) (IH : ∀ q, q < 132 → ∀ u, cx_ok (tb_P X) tb_G (rf_G u) (tr_at q)) : cx_ok (tb_P X) tb_G (rf_G u) fn_c := cx_ck_ok tr_G9 (rf_gs u) (fun mj c' hc' => by
  have h : c' ∈ (bif Nat.beq mj 248 then [sy_c] else []) := hc'
  cases hb : Nat.beq mj 248 with
  | true =>
    rw [hb] at h
    rcases List.mem_cons.mp h with rfl | h
    · exact ⟨(Nat.eq_of_beq_eq_true hb).symm, cx_ck_ok tr_G9 (rf_gs u) (tr_hct IH) no_m (hds := sy_h) (n := 4000) (by rw [cx_scr X]; exact sy_ck)⟩
    · exact nomatch h
  | false => rw [hb] at h; exact nomatch h) no_m (hds := []) (n := 400) (by rw [cx_scr X]; exact fn_ck)
theorem i_0 : (Int32.ofInt 0).toInt = 0 := by decide
theorem i_2 : (Int32.ofInt 2).toInt = 2 := by decide
theorem i_3 : (Int32.ofInt 3).toInt = 3 := by decide
section IWA
variable (X : Option (List AI)) (u : Nat) {C : List AC} {K : Option AV ⊕ Nat → List AC → Prop}
def wa_p (C : List AC) (t : Nat) : Prop := (0 ≤ rf_v C 203 (3 * t) ∧ rf_v C 203 (3 * t) ≤ 9) ∧ 0 ≤ rf_v C 203 (3 * t + 1) ∧ rf_v C 203 (3 * t + 1) ≤ 63
set_option maxRecDepth 20000 in
set_option maxHeartbeats 2000000 in
theorem iwa_loop (hI : xI tb_G C) {e : Int32} (he : fd_g C 190 20 e) (e1 : 0 ≤ e.toInt) (e2 : e.toInt ≤ 400) (hK : ∀ v : Int32, (v = Int32.ofInt 0 ∨ (v = Int32.ofInt 1 ∧ rf_wa C)) → K (.inl (some (.inl (.inl v)))) C) : ∀ (r j : Nat) (k v : Int32), r + j = 134 → k.toInt = ((3 * j : Nat) : Int) → (v = Int32.ofInt 0 ∨ (v = Int32.ofInt 1 ∧ e.toInt % 3 = 0 ∧ ∀ t, t < j → wa_p C t)) → ok_ (tb_P X) 274 21 [(2, .inl (.inl k)), (1, .inl (.inl v)), (0, .inr (.inl (some 190)))] [] C K := by
  obtain ⟨ms, m1, m2, m3⟩ := hI_f hI (show tb_G 190 = some (.inl (12, _)) from rfl)
  obtain ⟨_, r17, rfl⟩ := m3 17 (.inr 203) rfl
  obtain ⟨d, us, a1, a2⟩ := hI_a hI (show tb_G 203 = some (.inr (2, 400, 1, [.inl (-128, 127)])) from rfl)
  obtain ⟨ci, vs', f1, r20⟩ := he
  have hev := rf_f f1 r20
  rw [m1] at f1
  cases f1
  have byte : ∀ j : Nat, j < 400 → ∃ w : Int32, ea_al d us j = .inl (.inl w) ∧ -128 ≤ w.toInt ∧ w.toInt ≤ 127 := fun j hj => by
    obtain ⟨f, f1, f2⟩ := el_get (by decide) (a2 j hj)
    rw [Nat.mod_one] at f1
    cases (show some (Sum.inl (-128, 127)) = some f from f1)
    exact f2
  intro r
  induction r with
  | zero =>
    intro j k v hr hk hv
    have k2 : (k + Int32.ofInt 2).toInt = k.toInt + 2 := by rw [i32_add (by rw [i_2]; omega) (by rw [i_2]; omega), i_2]
    refine ok_p rfl rfl rfl ?_
    refine ok_p rfl rfl rfl ?_
    refine ok_p rfl rfl rfl ?_
    refine ok_p rfl rfl rfl ?_
    refine ok_gf rfl rfl m1 r20 ?_
    have hq : ea_ck .ge (k + Int32.ofInt 2) e = true := by
      show decide (e ≤ k + Int32.ofInt 2) = true
      rw [decide_eq_true_eq, Int32.le_iff_toInt_le]
      omega
    refine ok_ic true rfl rfl hq ?_
    rcases hv with rfl | ⟨rfl, v1, v2⟩
    · refine ok_p rfl rfl rfl ?_
      exact ok_r rfl rfl rfl rfl rfl (hK _ (Or.inl rfl))
    · refine ok_p rfl rfl rfl ?_
      exact ok_r rfl rfl rfl rfl rfl (hK _ (Or.inr ⟨rfl, by rw [hev]; exact v1, by rw [hev]; exact e2, fun t ht hl => v2 t (by omega)⟩))
  | succ r IH =>
    intro j k v hr hk hv
    have k1 : (k + Int32.ofInt 1).toInt = ((3 * j + 1 : Nat) : Int) := by
      rw [i32_add (by rw [i_1]; omega) (by rw [i_1]; omega), i_1]
      omega
    have k2 : (k + Int32.ofInt 2).toInt = ((3 * j + 2 : Nat) : Int) := by
      rw [i32_add (by rw [i_2]; omega) (by rw [i_2]; omega), i_2]
      omega
    have k3 : (k + Int32.ofInt 3).toInt = ((3 * (j + 1) : Nat) : Int) := by
      rw [i32_add (by rw [i_3]; omega) (by rw [i_3]; omega), i_3]
      omega
    refine ok_p rfl rfl rfl ?_
    refine ok_p rfl rfl rfl ?_
    refine ok_p rfl rfl rfl ?_
    refine ok_p rfl rfl rfl ?_
    refine ok_gf rfl rfl m1 r20 ?_
    cases hq : ea_ck .ge (k + Int32.ofInt 2) e with
    | true =>
      have hle : e ≤ k + Int32.ofInt 2 := of_decide_eq_true hq
      rw [Int32.le_iff_toInt_le] at hle
      refine ok_ic true rfl rfl hq ?_
      rcases hv with rfl | ⟨rfl, v1, v2⟩
      · refine ok_p rfl rfl rfl ?_
        exact ok_r rfl rfl rfl rfl rfl (hK _ (Or.inl rfl))
      · refine ok_p rfl rfl rfl ?_
        exact ok_r rfl rfl rfl rfl rfl (hK _ (Or.inr ⟨rfl, by rw [hev]; exact v1, by rw [hev]; exact e2, fun t ht hl => v2 t (by omega)⟩))
    | false =>
      have hle : ¬ e ≤ k + Int32.ofInt 2 := of_decide_eq_false hq
      rw [Int32.le_iff_toInt_le] at hle
      refine ok_ic false rfl rfl hq ?_
      rcases hv with rfl | ⟨rfl, v1, v2⟩
      · refine ok_p rfl rfl rfl ?_
        refine ok_p rfl rfl rfl ?_
        refine ok_p rfl rfl rfl ?_
        exact ok_r rfl rfl rfl rfl rfl (hK _ (Or.inl rfl))
      obtain ⟨w0, w01, w02, w03⟩ := byte (3 * j) (by omega)
      obtain ⟨w1, w11, w12, w13⟩ := byte (3 * j + 1) (by omega)
      obtain ⟨w2, w21, w22, w23⟩ := byte (3 * j + 2) (by omega)
      have x0 := rf_el a1 (show 3 * j < 400 by omega) w01
      have x1 := rf_el a1 (show 3 * j + 1 < 400 by omega) w11
      have no : ok_ (tb_P X) 274 95 [(2, .inl (.inl k)), (1, .inl (.inl (Int32.ofInt 1))), (0, .inr (.inl (some 190)))] [] C K := by
        refine ok_p rfl rfl rfl ?_
        refine ok_p rfl rfl rfl ?_
        refine ok_p rfl rfl rfl ?_
        refine ok_p rfl rfl rfl ?_
        exact IH (j + 1) (k + Int32.ofInt 3) (Int32.ofInt 0) (by omega) k3 (Or.inl rfl)
      refine ok_p rfl rfl rfl ?_
      refine ok_p rfl rfl rfl ?_
      refine ok_p rfl rfl rfl ?_
      refine ok_p rfl rfl rfl ?_
      refine ok_gf rfl rfl m1 r17 ?_
      refine ok_p rfl rfl rfl ?_
      refine ok_bl rfl a1 (ix_of hk (by omega)) w01 ?_
      refine ok_cv (mj := 205) (as := [.inl (.inl w0)]) (T := []) rfl rfl m1 rfl rfl rfl ?_
      refine nocit_run X hI (fun y hy => ?_)
      show ok_ (tb_P X) 274 45 _ [.inl (.inl y)] C K
      rcases hy with rfl | ⟨rfl, y1, y2, y3⟩
      · refine ok_p rfl rfl rfl ?_
        exact no
      refine ok_p rfl rfl rfl ?_
      refine ok_p rfl rfl rfl ?_
      refine ok_p rfl rfl rfl ?_
      refine ok_gf rfl rfl m1 r17 ?_
      refine ok_p rfl rfl rfl ?_
      refine ok_bl rfl a1 (ix_of hk (by omega)) w01 ?_
      refine ok_cx (c := al_c) (al_ok X 0) (as := [.inl (.inl w0)]) (T := []) (EV := []) rfl rfl m1 rfl rfl rfl ⟨rfl, ⟨_, rfl, y1, y3⟩, trivial⟩ hI trivial (fun q hq => nomatch hq) (fun w C2 I2 F2 rv P2 => ?_)
      obtain rfl := nt_ext (fun b => F2.1 b rfl)
      obtain ⟨y, rfl, z1, z2⟩ := rv
      have z3 : 0 ≤ y.toInt := z1
      have z4 : y.toInt ≤ 1 := z2
      have hy : y = Int32.ofInt 0 ∨ y = Int32.ofInt 1 := by
        rcases (show y.toInt = 0 ∨ y.toInt = 1 by omega) with h | h
        · exact Or.inl (Int32.toInt_inj.mp (by rw [h]; decide))
        · exact Or.inr (Int32.toInt_inj.mp (by rw [h]; decide))
      show ok_ (tb_P X) 274 58 _ [.inl (.inl y)] C2 K
      rcases hy with rfl | rfl
      · refine ok_p rfl rfl rfl ?_
        exact no
      refine ok_p rfl rfl rfl ?_
      refine ok_p rfl rfl rfl ?_
      refine ok_gf rfl rfl m1 r17 ?_
      refine ok_p rfl rfl rfl ?_
      refine ok_p rfl rfl rfl ?_
      refine ok_p rfl rfl rfl ?_
      refine ok_bl rfl a1 (ix_of k1 (by omega)) w11 ?_
      refine ok_cs (as := [.inl (.inl w1)]) (T := []) rfl rfl rfl rfl ?_
      refine nomat_run X (fun y hy => ?_)
      show ok_ (tb_P X) 274 72 _ [.inl (.inl y)] C2 K
      rcases hy with rfl | ⟨rfl, y4, y5⟩
      · refine ok_p rfl rfl rfl ?_
        exact no
      refine ok_p rfl rfl rfl ?_
      refine ok_p rfl rfl rfl ?_
      refine ok_gf rfl rfl m1 r17 ?_
      refine ok_p rfl rfl rfl ?_
      refine ok_p rfl rfl rfl ?_
      refine ok_p rfl rfl rfl ?_
      refine ok_bl rfl a1 (ix_of k2 (by omega)) w21 ?_
      refine ok_p rfl rfl rfl ?_
      refine ok_p rfl rfl rfl ?_
      refine ok_cs (as := [.inl (.inl w2), .inl (.inl (Int32.ofInt 0)), .inl (.inl (Int32.ofInt 1))]) (T := []) rfl rfl rfl rfl ?_
      refine in_run X (fun y hy => ?_)
      show ok_ (tb_P X) 274 88 _ [.inl (.inl y)] C2 K
      rcases hy with rfl | ⟨rfl, -, -⟩
      · refine ok_p rfl rfl rfl ?_
        exact no
      refine ok_p rfl rfl rfl ?_
      refine ok_p rfl rfl rfl ?_
      refine ok_p rfl rfl rfl ?_
      refine ok_p rfl rfl rfl ?_
      refine ok_p rfl rfl rfl ?_
      refine ok_p rfl rfl rfl ?_
      refine IH (j + 1) (k + Int32.ofInt 3) (Int32.ofInt 1) (by omega) k3 (Or.inr ⟨rfl, v1, fun t ht => ?_⟩)
      by_cases hj : t = j
      · subst hj
        refine ⟨⟨?_, ?_⟩, ?_, ?_⟩
        · rw [x0]; exact y1
        · rw [x0]; exact y3
        · rw [x1]; exact y4
        · rw [x1]; exact y5
      · exact v2 t (by omega)
end IWA
theorem e_rem {x y : Int32} (hx : 0 ≤ x.toInt) (hy : y.toInt = 3) : (x - x / y * y).toInt = x.toInt % 3 := by
  have h2 : x.toInt ≤ 2147483647 := Int.le_of_lt_add_one (Int32.toInt_lt x)
  have hd : (x / y).toInt = x.toInt / 3 := by
    rw [Int32.toInt_div, hy, Int.tdiv_eq_ediv_of_nonneg hx]
    rw [Int.bmod_eq_of_le (by omega) (by omega)]
  have hm : (x / y * y).toInt = x.toInt / 3 * 3 := by
    rw [i32_mul (by rw [hd, hy]; omega) (by rw [hd, hy]; omega), hd, hy]
  rw [i32_sub (by rw [hm]; omega) (by rw [hm]; omega), hm]
  omega
set_option maxRecDepth 20000 in
set_option maxHeartbeats 2000000 in
theorem tr_h132 (X : Option (List AI)) (u : Nat) (IH : ∀ q, q < 132 → ∀ u, cx_ok (tb_P X) tb_G (rf_G u) (tr_at q)) : cx_ok (tb_P X) tb_G (rf_G u) trk_132 := by
  intro vs C EV hvs hI hpre hrel
  obtain ⟨v0, t0, rfl, h0, hvs1⟩ := ea_rl_cons hvs
  obtain rfl := ea_rl_nil hvs1
  obtain rfl : v0 = .inr (.inl (some 190)) := h0
  obtain ⟨zW, E1, rfl, ⟨pW, q1, q2⟩, hp2⟩ := ea_rl_cons hpre
  obtain ⟨zJ, E2, rfl, ⟨pJ, q3, q4⟩, hp3⟩ := ea_rl_cons hp2
  obtain rfl := ea_rl_nil hp3
  dsimp only at q1 q2 q3 q4
  obtain ⟨ms, m1, m2, m3⟩ := hI_f hI (show tb_G 190 = some (.inl (12, _)) from rfl)
  obtain ⟨_, r22, dd, rfl, d1, d2⟩ := m3 22 (.inl (0, 6)) rfl
  refine ok_p rfl rfl rfl ?_
  refine ok_cx (c := trk_71) (show cx_ok (tb_P X) tb_G (rf_G u) trk_71 from IH 71 (by decide) u) (as := []) (T := []) (EV := [dd.toInt]) rfl rfl m1 rfl rfl rfl ⟨rfl, trivial⟩ hI ⟨⟨pv_f (a := 190) (by decide) m1 r22, d1, d2⟩, trivial⟩ (fun q hq => nomatch hq) (fun w C1 I1 F1 rv P1 => ?_)
  obtain rfl : w = none := rv
  obtain ⟨⟨NV, hNV⟩, -⟩ := P1
  obtain ⟨zT, N1, rfl, ⟨pT, t1, t2⟩, -⟩ := ea_rl_cons hNV
  show ok_ (tb_P X) 274 4 _ [] C1 _
  have hW' : pv (rf_G u) C1 999 0 zW := by
    show rf_G u 999 C1 = zW
    rw [F1.2 999 (by decide) (by decide)]
    exact pW
  have hJ' : pv (rf_G u) C1 1001 0 zJ := by
    show rf_G u 1001 C1 = zJ
    rw [F1.2 1001 (by decide) (by decide)]
    exact pJ
  have F1' : fr_c (rf_G u) trk_132.1.2.2.1 C C1 := F1
  obtain ⟨ms1, n1, n2, n3⟩ := hI_f I1 (show tb_G 190 = some (.inl (12, _)) from rfl)
  obtain ⟨_, s20, e, rfl, e1, e2⟩ := n3 20 (.inl (0, 400)) rfl
  dsimp only at e1 e2
  have fin : ∀ v : Int32, (v = Int32.ofInt 0 ∨ (v = Int32.ofInt 1 ∧ rf_wa C1)) → cx_post (rf_G u) tb_G trk_132 [zW, zJ] C (.inl (some (.inl (.inl v)))) C1 := by
    intro v hv
    rcases hv with rfl | ⟨rfl, hwa⟩
    · exact ⟨_, rfl, I1, F1', ⟨_, rfl, by decide, by decide⟩, ⟨[zW, zJ, zT], ⟨⟨hW', q1, q2⟩, ⟨hJ', q3, q4⟩, ⟨pT, t1, t2⟩, trivial⟩⟩, fun q hq => nomatch hq⟩
    · exact ⟨_, rfl, I1, F1', ⟨_, rfl, by decide, by decide⟩, ⟨[zW, zJ, zT, 1], ⟨⟨hW', q1, q2⟩, ⟨hJ', q3, q4⟩, ⟨pT, t1, t2⟩, ⟨rf_b_1 hwa, by decide, by decide⟩, trivial⟩⟩, fun q hq => nomatch hq⟩
  refine ok_p rfl rfl rfl ?_
  refine ok_gf rfl rfl n1 s20 ?_
  refine ok_p rfl rfl rfl ?_
  refine ok_p rfl rfl rfl ?_
  have hrem : (e - e / Int32.ofInt 3 * Int32.ofInt 3).toInt = e.toInt % 3 := e_rem e1 i_3
  cases hq : ea_ck .ne (e - e / Int32.ofInt 3 * Int32.ofInt 3) 0 with
  | true =>
    refine ok_if true rfl rfl hq ?_
    refine ok_p rfl rfl rfl ?_
    refine ok_p rfl rfl rfl ?_
    refine ok_p rfl rfl rfl ?_
    refine ok_p rfl rfl rfl ?_
    exact iwa_loop X I1 ⟨_, _, n1, s20⟩ e1 e2 fin 134 0 (Int32.ofInt 0) (Int32.ofInt 0) rfl (by decide) (Or.inl rfl)
  | false =>
    have h3 : e.toInt % 3 = 0 := by
      have h1 : (!decide (e - e / Int32.ofInt 3 * Int32.ofInt 3 = 0)) = false := hq
      rw [Bool.not_eq_false', decide_eq_true_eq] at h1
      rw [← hrem, h1]
      rfl
    refine ok_if false rfl rfl hq ?_
    refine ok_p rfl rfl rfl ?_
    refine ok_p rfl rfl rfl ?_
    refine ok_p rfl rfl rfl ?_
    refine ok_p rfl rfl rfl ?_
    refine ok_p rfl rfl rfl ?_
    exact iwa_loop X I1 ⟨_, _, n1, s20⟩ e1 e2 fin 134 0 (Int32.ofInt 0) (Int32.ofInt 1) rfl (by decide) (Or.inr ⟨rfl, h3, fun t ht => absurd ht (by omega)⟩)
