section
/-! CONTRACTS BY HAND: what was watched, and codes -/
section WAT
variable (X : Option (List AI)) (u : Nat) {C : List AC} {K : Option AV ⊕ Nat → List AC → Prop}
theorem in_run {x lo hi : Int32} (h : ∀ y : Int32, (y = Int32.ofInt 0 ∨ (y = Int32.ofInt 1 ∧ lo.toInt ≤ x.toInt ∧ x.toInt ≤ hi.toInt)) → K (.inl (some (.inl (.inl y)))) C) : ok_ (tb_P X) 187 0 (ea_ar 0 [.inl (.inl x), .inl (.inl lo), .inl (.inl hi)]) [] C K := by
  refine ok_p rfl rfl rfl ?_
  refine ok_p rfl rfl rfl ?_
  cases h1 : ea_ck .lt x lo with
  | true =>
    refine ok_ic true rfl rfl h1 ?_
    refine ok_p rfl rfl rfl ?_
    exact ok_r rfl rfl rfl rfl rfl (h _ (Or.inl rfl))
  | false =>
    have e1 : ¬ x < lo := of_decide_eq_false h1
    rw [Int32.lt_iff_toInt_lt] at e1
    refine ok_ic false rfl rfl h1 ?_
    refine ok_p rfl rfl rfl ?_
    refine ok_p rfl rfl rfl ?_
    cases h2 : ea_ck .gt x hi with
    | true =>
      refine ok_ic true rfl rfl h2 ?_
      refine ok_p rfl rfl rfl ?_
      exact ok_r rfl rfl rfl rfl rfl (h _ (Or.inl rfl))
    | false =>
      have e2 : ¬ hi < x := of_decide_eq_false h2
      rw [Int32.lt_iff_toInt_lt] at e2
      refine ok_ic false rfl rfl h2 ?_
      refine ok_p rfl rfl rfl ?_
      refine ok_p rfl rfl rfl ?_
      exact ok_r rfl rfl rfl rfl rfl (h _ (Or.inr ⟨rfl, by omega, by omega⟩))
theorem cits_run (hI : xI tb_G C) (h : ∀ N : Int32, 0 ≤ N.toInt → N.toInt ≤ 10 → rf_v C 191 0 = N.toInt → K (.inl (some (.inl (.inl N)))) C) : ok_ (tb_P X) 198 0 (ea_ar 0 [.inr (.inl (some 190))]) [] C K := by
  obtain ⟨ms, m1, m2, m3⟩ := hI_f hI (show tb_G 190 = some (.inl (12, _)) from rfl)
  obtain ⟨_, r1, rfl⟩ := m3 1 (.inr 191) rfl
  obtain ⟨d, us, a1, a2⟩ := hI_a hI (show tb_G 191 = some (.inr (0, 388, 388, tg_row)) from rfl)
  obtain ⟨f, f1, f2⟩ := el_get (by decide) (a2 0 (by decide))
  cases (show some (Sum.inl (0, 10)) = some f from f1)
  obtain ⟨N, f2, f3, f4⟩ := f2
  refine ok_p rfl rfl rfl ?_
  refine ok_gf rfl rfl m1 r1 ?_
  refine ok_p rfl rfl rfl ?_
  refine ok_al rfl a1 (ix_of (x := Int32.ofInt 0) (j := 0) (by decide) (by decide)) f2 ?_
  exact ok_r rfl rfl rfl rfl rfl (h N f3 f4 (rf_el a1 (by decide) f2))
theorem nocit_run (hI : xI tb_G C) {c : Int32} (h : ∀ y : Int32, (y = Int32.ofInt 1 ∨ (y = Int32.ofInt 0 ∧ 0 ≤ c.toInt ∧ c.toInt < rf_v C 191 0 ∧ c.toInt ≤ 9)) → K (.inl (some (.inl (.inl y)))) C) : ok_ (tb_P X) 205 0 (ea_ar 0 [.inr (.inl (some 190)), .inl (.inl c)]) [] C K := by
  obtain ⟨ms, m1, m2, m3⟩ := hI_f hI (show tb_G 190 = some (.inl (12, _)) from rfl)
  refine ok_p rfl rfl rfl ?_
  refine ok_p rfl rfl rfl ?_
  refine ok_p rfl rfl rfl ?_
  refine ok_cv (mj := 198) (as := []) (T := [.inl (.inl (Int32.ofInt 0)), .inl (.inl c)]) rfl rfl m1 rfl rfl rfl ?_
  refine cits_run X hI (fun N n1 n2 n3 => ?_)
  show ok_ (tb_P X) 205 6 _ [.inl (.inl N), .inl (.inl (Int32.ofInt 0)), .inl (.inl c)] C K
  have hs : (N - Int32.ofInt 1).toInt = N.toInt - 1 := by rw [i32_sub (by rw [i_1]; omega) (by rw [i_1]; omega), i_1]
  refine ok_p rfl rfl rfl ?_
  refine ok_p rfl rfl rfl ?_
  refine ok_cs (as := [.inl (.inl c), .inl (.inl (Int32.ofInt 0)), .inl (.inl (N - Int32.ofInt 1))]) (T := []) rfl rfl rfl rfl ?_
  refine in_run X (fun y hy => ?_)
  show ok_ (tb_P X) 205 11 _ [.inl (.inl y)] C K
  rcases hy with rfl | ⟨rfl, y1, y2⟩
  · refine ok_p rfl rfl rfl ?_
    refine ok_p rfl rfl rfl ?_
    refine ok_p rfl rfl rfl ?_
    exact ok_r rfl rfl rfl rfl rfl (h _ (Or.inl rfl))
  · refine ok_p rfl rfl rfl ?_
    refine ok_p rfl rfl rfl ?_
    have z0 : (Int32.ofInt 0).toInt = 0 := by decide
    exact ok_r rfl rfl rfl rfl rfl (h _ (Or.inr ⟨rfl, by omega, by omega, by omega⟩))
theorem nomat_run {c : Int32} (h : ∀ y : Int32, (y = Int32.ofInt 1 ∨ (y = Int32.ofInt 0 ∧ 0 ≤ c.toInt ∧ c.toInt ≤ 63)) → K (.inl (some (.inl (.inl y)))) C) : ok_ (tb_P X) 207 0 (ea_ar 0 [.inl (.inl c)]) [] C K := by
  refine ok_p rfl rfl rfl ?_
  refine ok_p rfl rfl rfl ?_
  refine ok_p rfl rfl rfl ?_
  refine ok_cs (as := [.inl (.inl c), .inl (.inl (Int32.ofInt 0)), .inl (.inl (Int8.ofInt 63).toInt32)]) (T := []) rfl rfl rfl rfl ?_
  refine in_run X (fun y hy => ?_)
  show ok_ (tb_P X) 207 7 _ [.inl (.inl y)] C K
  rcases hy with rfl | ⟨rfl, y1, y2⟩
  · refine ok_p rfl rfl rfl ?_
    refine ok_p rfl rfl rfl ?_
    refine ok_p rfl rfl rfl ?_
    exact ok_r rfl rfl rfl rfl rfl (h _ (Or.inl rfl))
  · refine ok_p rfl rfl rfl ?_
    refine ok_p rfl rfl rfl ?_
    have z0 : (Int32.ofInt 0).toInt = 0 := by decide
    have z1 : ((Int8.ofInt 63).toInt32).toInt = 63 := by decide
    exact ok_r rfl rfl rfl rfl rfl (h _ (Or.inr ⟨rfl, by omega, by omega⟩))
end WAT
def al_c : CX := ((201, [.inr (.inl 190), .inl (0, 9)], [], (1, 0, 1), [], []), [], 0, ([], []), ([], []))
def fo_c : CX := ((245, [.inr (.inl 190), .inl ((-2147483648), 2147483647), .inl ((-2147483648), 2147483647), .inl ((-2147483648), 2147483647), .inl (0, 9), .inl ((-2147483648), 2147483647)], [], (1, (-2147483648), 2147483647), [], []), [], 0, ([], []), ([], []))
def do_c : CX := ((204, [.inr (.inl 190), .inl (0, 11)], [], (1, (-2147483648), 2147483647), [], []), [], 0, ([], []), ([], []))
def sy_c : CX := ((248, [.inr (.inl 190), .inl ((-2147483648), 2147483647), .inl (0, 1), .inl (0, 63), .inl (0, 9), .inl ((-2147483648), 2147483647)], [(207, 208)], (1, 0, 4095), [], [(999, 0, 1, 1), (1001, 0, 1, 1)]), [], 0, ([], []), ([], []))
def sy_h : List (Nat × HX) := [(6, ([(0, .inr (.inl 190)), (1, .inl ((-2147483648), 2147483647)), (2, .inl (0, 1)), (3, .inl (0, 63)), (4, .inl (0, 9)), (5, .inl ((-2147483648), 2147483647)), (6, .inl (0, 4095)), (7, .inl (0, 12))], [(999, 0, 1, 1), (1001, 0, 1, 1)], [], 12, [(1, some (.inl 7))]))]
def fn_ct (m : Nat) : List CX := bif Nat.beq m 248 then [sy_c] else []
def fn_c : CX := ((250, [.inr (.inl 190), .inl ((-2147483648), 2147483647), .inl (0, 63), .inl (0, 9)], [(207, 208)], (1, 0, 4095), [], [(999, 0, 1, 1), (1001, 0, 1, 1)]), [], 0, ([], []), ([], []))
set_option maxRecDepth 100000 in
theorem al_ck : cx_ck (tb_P none) tb_G tr_gs (fun _ => []) (fun _ _ => none) [] al_c 400 = true := by decide +kernel
set_option maxRecDepth 100000 in
theorem fo_ck : cx_ck (tb_P none) tb_G tr_gs (fun _ => []) (fun _ _ => none) [] fo_c 400 = true := by decide +kernel
set_option maxRecDepth 100000 in
theorem do_ck : cx_ck (tb_P none) tb_G tr_gs (fun _ => []) (fun _ _ => none) [] do_c 400 = true := by decide +kernel
set_option maxRecDepth 100000 in
theorem sy_ck : cx_ck (tb_P none) tb_G tr_gs (tr_ct 132) (fun _ _ => none) sy_h sy_c 4000 = true := by decide +kernel
set_option maxRecDepth 100000 in
theorem fn_ck : cx_ck (tb_P none) tb_G tr_gs fn_ct (fun _ _ => none) [] fn_c 400 = true := by decide +kernel
theorem al_ok (X : Option (List AI)) (u : Nat) : cx_ok (tb_P X) tb_G (rf_G u) al_c := cx_ck_ok tr_G9 (rf_gs u) no_c no_m (hds := []) (n := 400) (by rw [cx_scr X]; exact al_ck)
theorem fo_ok (X : Option (List AI)) (u : Nat) : cx_ok (tb_P X) tb_G (rf_G u) fo_c := cx_ck_ok tr_G9 (rf_gs u) no_c no_m (hds := []) (n := 400) (by rw [cx_scr X]; exact fo_ck)
theorem do_ok (X : Option (List AI)) (u : Nat) : cx_ok (tb_P X) tb_G (rf_G u) do_c := cx_ck_ok tr_G9 (rf_gs u) no_c no_m (hds := []) (n := 400) (by rw [cx_scr X]; exact do_ck)
theorem fn_ok (X : Option (List AI)) (u : Nat) (IH : ∀ q, q < 132 → ∀ u, cx_ok (tb_P X) tb_G (rf_G u) (tr_at q)) : cx_ok (tb_P X) tb_G (rf_G u) fn_c := cx_ck_ok tr_G9 (rf_gs u) (fun mj c' hc' => by
  have h : c' ∈ (bif Nat.beq mj 248 then [sy_c] else []) := hc'
  cases hb : Nat.beq mj 248 with
  | true =>
    rw [hb] at h
    rcases List.mem_cons.mp h with rfl | h
    · exact ⟨(Nat.eq_of_beq_eq_true hb).symm, cx_ck_ok tr_G9 (rf_gs u) (tr_hct IH) no_m (hds := sy_h) (n := 4000) (by rw [cx_scr X]; exact sy_ck)⟩
    · exact nomatch h
  | false => rw [hb] at h; exact nomatch h) no_m (hds := []) (n := 400) (by rw [cx_scr X]; exact fn_ck)
theorem i_0 : (Int32.ofInt 0).toInt = 0 := by decide
theorem i_2 : (Int32.ofInt 2).toInt = 2 := by decide
theorem i_3 : (Int32.ofInt 3).toInt = 3 := by decide
section IWA
variable (X : Option (List AI)) (u : Nat) {C : List AC} {K : Option AV ⊕ Nat → List AC → Prop}
def wa_p (C : List AC) (t : Nat) : Prop := (0 ≤ rf_v C 203 (3 * t) ∧ rf_v C 203 (3 * t) ≤ 9) ∧ 0 ≤ rf_v C 203 (3 * t + 1) ∧ rf_v C 203 (3 * t + 1) ≤ 63
set_option maxRecDepth 20000 in
set_option maxHeartbeats 2000000 in
theorem iwa_loop (hI : xI tb_G C) {e : Int32} (he : fd_g C 190 20 e) (e1 : 0 ≤ e.toInt) (e2 : e.toInt ≤ 400) (hK : ∀ v : Int32, (v = Int32.ofInt 0 ∨ (v = Int32.ofInt 1 ∧ rf_wa C)) → K (.inl (some (.inl (.inl v)))) C) : ∀ (r j : Nat) (k v : Int32), r + j = 134 → k.toInt = ((3 * j : Nat) : Int) → (v = Int32.ofInt 0 ∨ (v = Int32.ofInt 1 ∧ e.toInt % 3 = 0 ∧ ∀ t, t < j → wa_p C t)) → ok_ (tb_P X) 274 21 [(2, .inl (.inl k)), (1, .inl (.inl v)), (0, .inr (.inl (some 190)))] [] C K := by
  obtain ⟨ms, m1, m2, m3⟩ := hI_f hI (show tb_G 190 = some (.inl (12, _)) from rfl)
  obtain ⟨_, r17, rfl⟩ := m3 17 (.inr 203) rfl
  obtain ⟨d, us, a1, a2⟩ := hI_a hI (show tb_G 203 = some (.inr (2, 400, 1, [.inl (-128, 127)])) from rfl)
  obtain ⟨ci, vs', f1, r20⟩ := he
  have hev := rf_f f1 r20
  rw [m1] at f1
  cases f1
  have byte : ∀ j : Nat, j < 400 → ∃ w : Int32, ea_al d us j = .inl (.inl w) ∧ -128 ≤ w.toInt ∧ w.toInt ≤ 127 := fun j hj => by
    obtain ⟨f, f1, f2⟩ := el_get (by decide) (a2 j hj)
    rw [Nat.mod_one] at f1
    cases (show some (Sum.inl (-128, 127)) = some f from f1)
    exact f2
  intro r
  induction r with
  | zero =>
    intro j k v hr hk hv
    have k2 : (k + Int32.ofInt 2).toInt = k.toInt + 2 := by rw [i32_add (by rw [i_2]; omega) (by rw [i_2]; omega), i_2]
    refine ok_p rfl rfl rfl ?_
    refine ok_p rfl rfl rfl ?_
    refine ok_p rfl rfl rfl ?_
    refine ok_p rfl rfl rfl ?_
    refine ok_gf rfl rfl m1 r20 ?_
    have hq : ea_ck .ge (k + Int32.ofInt 2) e = true := by
      show decide (e ≤ k + Int32.ofInt 2) = true
      rw [decide_eq_true_eq, Int32.le_iff_toInt_le]
      omega
    refine ok_ic true rfl rfl hq ?_
    rcases hv with rfl | ⟨rfl, v1, v2⟩
    · refine ok_p rfl rfl rfl ?_
      exact ok_r rfl rfl rfl rfl rfl (hK _ (Or.inl rfl))
    · refine ok_p rfl rfl rfl ?_
      exact ok_r rfl rfl rfl rfl rfl (hK _ (Or.inr ⟨rfl, by rw [hev]; exact v1, by rw [hev]; exact e2, fun t ht hl => v2 t (by omega)⟩))
  | succ r IH =>
    intro j k v hr hk hv
    have k1 : (k + Int32.ofInt 1).toInt = ((3 * j + 1 : Nat) : Int) := by
      rw [i32_add (by rw [i_1]; omega) (by rw [i_1]; omega), i_1]
      omega
    have k2 : (k + Int32.ofInt 2).toInt = ((3 * j + 2 : Nat) : Int) := by
      rw [i32_add (by rw [i_2]; omega) (by rw [i_2]; omega), i_2]
      omega
    have k3 : (k + Int32.ofInt 3).toInt = ((3 * (j + 1) : Nat) : Int) := by
      rw [i32_add (by rw [i_3]; omega) (by rw [i_3]; omega), i_3]
      omega
    refine ok_p rfl rfl rfl ?_
    refine ok_p rfl rfl rfl ?_
    refine ok_p rfl rfl rfl ?_
    refine ok_p rfl rfl rfl ?_
    refine ok_gf rfl rfl m1 r20 ?_
    cases hq : ea_ck .ge (k + Int32.ofInt 2) e with
    | true =>
      have hle : e ≤ k + Int32.ofInt 2 := of_decide_eq_true hq
      rw [Int32.le_iff_toInt_le] at hle
      refine ok_ic true rfl rfl hq ?_
      rcases hv with rfl | ⟨rfl, v1, v2⟩
      · refine ok_p rfl rfl rfl ?_
        exact ok_r rfl rfl rfl rfl rfl (hK _ (Or.inl rfl))
      · refine ok_p rfl rfl rfl ?_
        exact ok_r rfl rfl rfl rfl rfl (hK _ (Or.inr ⟨rfl, by rw [hev]; exact v1, by rw [hev]; exact e2, fun t ht hl => v2 t (by omega)⟩))
    | false =>
      have hle : ¬ e ≤ k + Int32.ofInt 2 := of_decide_eq_false hq
      rw [Int32.le_iff_toInt_le] at hle
      refine ok_ic false rfl rfl hq ?_
      rcases hv with rfl | ⟨rfl, v1, v2⟩
      · refine ok_p rfl rfl rfl ?_
        refine ok_p rfl rfl rfl ?_
        refine ok_p rfl rfl rfl ?_
        exact ok_r rfl rfl rfl rfl rfl (hK _ (Or.inl rfl))
      obtain ⟨w0, w01, w02, w03⟩ := byte (3 * j) (by omega)
      obtain ⟨w1, w11, w12, w13⟩ := byte (3 * j + 1) (by omega)
      obtain ⟨w2, w21, w22, w23⟩ := byte (3 * j + 2) (by omega)
      have x0 := rf_el a1 (show 3 * j < 400 by omega) w01
      have x1 := rf_el a1 (show 3 * j + 1 < 400 by omega) w11
      have no : ok_ (tb_P X) 274 95 [(2, .inl (.inl k)), (1, .inl (.inl (Int32.ofInt 1))), (0, .inr (.inl (some 190)))] [] C K := by
        refine ok_p rfl rfl rfl ?_
        refine ok_p rfl rfl rfl ?_
        refine ok_p rfl rfl rfl ?_
        refine ok_p rfl rfl rfl ?_
        exact IH (j + 1) (k + Int32.ofInt 3) (Int32.ofInt 0) (by omega) k3 (Or.inl rfl)
      refine ok_p rfl rfl rfl ?_
      refine ok_p rfl rfl rfl ?_
      refine ok_p rfl rfl rfl ?_
      refine ok_p rfl rfl rfl ?_
      refine ok_gf rfl rfl m1 r17 ?_
      refine ok_p rfl rfl rfl ?_
      refine ok_bl rfl a1 (ix_of hk (by omega)) w01 ?_
      refine ok_cv (mj := 205) (as := [.inl (.inl w0)]) (T := []) rfl rfl m1 rfl rfl rfl ?_
      refine nocit_run X hI (fun y hy => ?_)
      show ok_ (tb_P X) 274 45 _ [.inl (.inl y)] C K
      rcases hy with rfl | ⟨rfl, y1, y2, y3⟩
      · refine ok_p rfl rfl rfl ?_
        exact no
      refine ok_p rfl rfl rfl ?_
      refine ok_p rfl rfl rfl ?_
      refine ok_p rfl rfl rfl ?_
      refine ok_gf rfl rfl m1 r17 ?_
      refine ok_p rfl rfl rfl ?_
      refine ok_bl rfl a1 (ix_of hk (by omega)) w01 ?_
      refine ok_cx (c := al_c) (al_ok X 0) (as := [.inl (.inl w0)]) (T := []) (EV := []) rfl rfl m1 rfl rfl rfl ⟨rfl, ⟨_, rfl, y1, y3⟩, trivial⟩ hI trivial (fun q hq => nomatch hq) (fun w C2 I2 F2 rv P2 => ?_)
      obtain rfl := nt_ext (fun b => F2.1 b rfl)
      obtain ⟨y, rfl, z1, z2⟩ := rv
      have z3 : 0 ≤ y.toInt := z1
      have z4 : y.toInt ≤ 1 := z2
      have hy : y = Int32.ofInt 0 ∨ y = Int32.ofInt 1 := by
        rcases (show y.toInt = 0 ∨ y.toInt = 1 by omega) with h | h
        · exact Or.inl (Int32.toInt_inj.mp (by rw [h]; decide))
        · exact Or.inr (Int32.toInt_inj.mp (by rw [h]; decide))
      show ok_ (tb_P X) 274 58 _ [.inl (.inl y)] C2 K
      rcases hy with rfl | rfl
      · refine ok_p rfl rfl rfl ?_
        exact no
      refine ok_p rfl rfl rfl ?_
      refine ok_p rfl rfl rfl ?_
      refine ok_gf rfl rfl m1 r17 ?_
      refine ok_p rfl rfl rfl ?_
      refine ok_p rfl rfl rfl ?_
      refine ok_p rfl rfl rfl ?_
      refine ok_bl rfl a1 (ix_of k1 (by omega)) w11 ?_
      refine ok_cs (as := [.inl (.inl w1)]) (T := []) rfl rfl rfl rfl ?_
      refine nomat_run X (fun y hy => ?_)
      show ok_ (tb_P X) 274 72 _ [.inl (.inl y)] C2 K
      rcases hy with rfl | ⟨rfl, y4, y5⟩
      · refine ok_p rfl rfl rfl ?_
        exact no
      refine ok_p rfl rfl rfl ?_
      refine ok_p rfl rfl rfl ?_
      refine ok_gf rfl rfl m1 r17 ?_
      refine ok_p rfl rfl rfl ?_
      refine ok_p rfl rfl rfl ?_
      refine ok_p rfl rfl rfl ?_
      refine ok_bl rfl a1 (ix_of k2 (by omega)) w21 ?_
      refine ok_p rfl rfl rfl ?_
      refine ok_p rfl rfl rfl ?_
      refine ok_cs (as := [.inl (.inl w2), .inl (.inl (Int32.ofInt 0)), .inl (.inl (Int32.ofInt 1))]) (T := []) rfl rfl rfl rfl ?_
      refine in_run X (fun y hy => ?_)
      show ok_ (tb_P X) 274 88 _ [.inl (.inl y)] C2 K
      rcases hy with rfl | ⟨rfl, -, -⟩
      · refine ok_p rfl rfl rfl ?_
        exact no
      refine ok_p rfl rfl rfl ?_
      refine ok_p rfl rfl rfl ?_
      refine ok_p rfl rfl rfl ?_
      refine ok_p rfl rfl rfl ?_
      refine ok_p rfl rfl rfl ?_
      refine ok_p rfl rfl rfl ?_
      refine IH (j + 1) (k + Int32.ofInt 3) (Int32.ofInt 1) (by omega) k3 (Or.inr ⟨rfl, v1, fun t ht => ?_⟩)
      by_cases hj : t = j
      · subst hj
        refine ⟨⟨?_, ?_⟩, ?_, ?_⟩
        · rw [x0]; exact y1
        · rw [x0]; exact y3
        · rw [x1]; exact y4
        · rw [x1]; exact y5
      · exact v2 t (by omega)
end IWA
theorem e_rem {x y : Int32} (hx : 0 ≤ x.toInt) (hy : y.toInt = 3) : (x - x / y * y).toInt = x.toInt % 3 := by
  have h2 : x.toInt ≤ 2147483647 := Int.le_of_lt_add_one (Int32.toInt_lt x)
  have hd : (x / y).toInt = x.toInt / 3 := by
    rw [Int32.toInt_div, hy, Int.tdiv_eq_ediv_of_nonneg hx]
    rw [Int.bmod_eq_of_le (by omega) (by omega)]
  have hm : (x / y * y).toInt = x.toInt / 3 * 3 := by
    rw [i32_mul (by rw [hd, hy]; omega) (by rw [hd, hy]; omega), hd, hy]
  rw [i32_sub (by rw [hm]; omega) (by rw [hm]; omega), hm]
  omega
set_option maxRecDepth 20000 in
set_option maxHeartbeats 2000000 in
theorem tr_h132 (X : Option (List AI)) (u : Nat) (IH : ∀ q, q < 132 → ∀ u, cx_ok (tb_P X) tb_G (rf_G u) (tr_at q)) : cx_ok (tb_P X) tb_G (rf_G u) trk_132 := by
  intro vs C EV hvs hI hpre hrel
  obtain ⟨v0, t0, rfl, h0, hvs1⟩ := ea_rl_cons hvs
  obtain rfl := ea_rl_nil hvs1
  obtain rfl : v0 = .inr (.inl (some 190)) := h0
  obtain ⟨zW, E1, rfl, ⟨pW, q1, q2⟩, hp2⟩ := ea_rl_cons hpre
  obtain ⟨zJ, E2, rfl, ⟨pJ, q3, q4⟩, hp3⟩ := ea_rl_cons hp2
  obtain rfl := ea_rl_nil hp3
  dsimp only at q1 q2 q3 q4
  obtain ⟨ms, m1, m2, m3⟩ := hI_f hI (show tb_G 190 = some (.inl (12, _)) from rfl)
  obtain ⟨_, r22, dd, rfl, d1, d2⟩ := m3 22 (.inl (0, 6)) rfl
  refine ok_p rfl rfl rfl ?_
  refine ok_cx (c := trk_71) (show cx_ok (tb_P X) tb_G (rf_G u) trk_71 from IH 71 (by decide) u) (as := []) (T := []) (EV := [dd.toInt]) rfl rfl m1 rfl rfl rfl ⟨rfl, trivial⟩ hI ⟨⟨pv_f (a := 190) (by decide) m1 r22, d1, d2⟩, trivial⟩ (fun q hq => nomatch hq) (fun w C1 I1 F1 rv P1 => ?_)
  obtain rfl : w = none := rv
  obtain ⟨⟨NV, hNV⟩, -⟩ := P1
  obtain ⟨zT, N1, rfl, ⟨pT, t1, t2⟩, -⟩ := ea_rl_cons hNV
  show ok_ (tb_P X) 274 4 _ [] C1 _
  have hW' : pv (rf_G u) C1 999 0 zW := by
    show rf_G u 999 C1 = zW
    rw [F1.2 999 (by decide) (by decide)]
    exact pW
  have hJ' : pv (rf_G u) C1 1001 0 zJ := by
    show rf_G u 1001 C1 = zJ
    rw [F1.2 1001 (by decide) (by decide)]
    exact pJ
  have F1' : fr_c (rf_G u) trk_132.1.2.2.1 C C1 := F1
  obtain ⟨ms1, n1, n2, n3⟩ := hI_f I1 (show tb_G 190 = some (.inl (12, _)) from rfl)
  obtain ⟨_, s20, e, rfl, e1, e2⟩ := n3 20 (.inl (0, 400)) rfl
  dsimp only at e1 e2
  have fin : ∀ v : Int32, (v = Int32.ofInt 0 ∨ (v = Int32.ofInt 1 ∧ rf_wa C1)) → cx_post (rf_G u) tb_G trk_132 [zW, zJ] C (.inl (some (.inl (.inl v)))) C1 := by
    intro v hv
    rcases hv with rfl | ⟨rfl, hwa⟩
    · exact ⟨_, rfl, I1, F1', ⟨_, rfl, by decide, by decide⟩, ⟨[zW, zJ, zT], ⟨⟨hW', q1, q2⟩, ⟨hJ', q3, q4⟩, ⟨pT, t1, t2⟩, trivial⟩⟩, fun q hq => nomatch hq⟩
    · exact ⟨_, rfl, I1, F1', ⟨_, rfl, by decide, by decide⟩, ⟨[zW, zJ, zT, 1], ⟨⟨hW', q1, q2⟩, ⟨hJ', q3, q4⟩, ⟨pT, t1, t2⟩, ⟨rf_b_1 hwa, by decide, by decide⟩, trivial⟩⟩, fun q hq => nomatch hq⟩
  refine ok_p rfl rfl rfl ?_
  refine ok_gf rfl rfl n1 s20 ?_
  refine ok_p rfl rfl rfl ?_
  refine ok_p rfl rfl rfl ?_
  have hrem : (e - e / Int32.ofInt 3 * Int32.ofInt 3).toInt = e.toInt % 3 := e_rem e1 i_3
  cases hq : ea_ck .ne (e - e / Int32.ofInt 3 * Int32.ofInt 3) 0 with
  | true =>
    refine ok_if true rfl rfl hq ?_
    refine ok_p rfl rfl rfl ?_
    refine ok_p rfl rfl rfl ?_
    refine ok_p rfl rfl rfl ?_
    refine ok_p rfl rfl rfl ?_
    exact iwa_loop X I1 ⟨_, _, n1, s20⟩ e1 e2 fin 134 0 (Int32.ofInt 0) (Int32.ofInt 0) rfl (by decide) (Or.inl rfl)
  | false =>
    have h3 : e.toInt % 3 = 0 := by
      have h1 : (!decide (e - e / Int32.ofInt 3 * Int32.ofInt 3 = 0)) = false := hq
      rw [Bool.not_eq_false', decide_eq_true_eq] at h1
      rw [← hrem, h1]
      rfl
    refine ok_if false rfl rfl hq ?_
    refine ok_p rfl rfl rfl ?_
    refine ok_p rfl rfl rfl ?_
    refine ok_p rfl rfl rfl ?_
    refine ok_p rfl rfl rfl ?_
    refine ok_p rfl rfl rfl ?_
    exact iwa_loop X I1 ⟨_, _, n1, s20⟩ e1 e2 fin 134 0 (Int32.ofInt 0) (Int32.ofInt 1) rfl (by decide) (Or.inr ⟨rfl, h3, fun t ht => absurd ht (by omega)⟩)
end
section
/-! CONTRACTS BY HAND: what was watched is laid, codes -/
section LAY
variable (X : Option (List AI)) (u : Nat)
theorem wa_of {u : Nat} {C : List AC} {z : Int} (h : pv (rf_G u) C 1006 0 z) (h1 : 1 ≤ z) (h2 : z ≤ 1) : rf_wa C := rf_b_of (p := rf_wa C) (by
  have h3 : rf_G u 1006 C = z := h
  have h4 : rf_G u 1006 C = rf_b (rf_wa C) := rfl
  omega)
theorem wa_st {u : Nat} {C C' : List AC} (h : rf_G u 1006 C' = rf_G u 1006 C) (hW : rf_wa C) : rf_wa C' := rf_b_of (p := rf_wa C') (by
  have h1 : rf_G u 1006 C' = rf_b (rf_wa C') := rfl
  have h2 : rf_G u 1006 C = rf_b (rf_wa C) := rfl
  have h3 := rf_b_1 hW
  omega)
theorem fr_209 (u : Nat) {C : List AC} {d : AV} {us : List (Nat × AV)} (hC : ea_nt C 209 = some (.inl (0, 400, d, us))) {j : Nat} {v : AV} : fr_c (rf_G u) [(207, 208), (209, 210)] C (C.set 209 (.inl (0, 400, d, (j, v) :: us))) := by
  refine ⟨fun b hb => ?_, fun k hk hm => rf_gs u k C _ (fun a i hq => ?_)⟩
  · have : (209 : Nat) ≠ b := by
      rintro rfl
      exact absurd hb (by decide)
    rw [nt_set_ne this]
  · obtain ⟨q, q1, q2, q3, q4, q5⟩ := hq
    refine cv_eq (nt_set_ne ?_) i
    rintro rfl
    exact absurd q3 ((show ∀ q ∈ tr_gs, q.2.1 ≠ 209 by decide) q q1)
set_option maxRecDepth 20000 in
set_option maxHeartbeats 2000000 in
theorem lay_loop (IH : ∀ q, q < 134 → ∀ u, cx_ok (tb_P X) tb_G (rf_G u) (tr_at q)) {C0 : List AC} {zW zJ : Int} (q1 : 1 ≤ zW) (q2 : zW ≤ 1) (q3 : 1 ≤ zJ) (q4 : zJ ≤ 1) {e : Int32} (e2 : e.toInt ≤ 400) {K : Option AV ⊕ Nat → List AC → Prop} (hK : ∀ C, xI tb_G C → fr_c (rf_G u) [(207, 208), (209, 210)] C0 C → K (.inl none) C) : ∀ (r j : Nat) (k : Int32) (C : List AC), r + j = 134 → k.toInt = ((3 * j : Nat) : Int) → xI tb_G C → fr_c (rf_G u) [(207, 208), (209, 210)] C0 C → fd_g C 190 20 e → pv (rf_G u) C 999 0 zW → pv (rf_G u) C 1001 0 zJ → rf_wa C → ok_ (tb_P X) 276 2 [(1, .inl (.inl k)), (0, .inr (.inl (some 190)))] [] C K := by
  intro r
  induction r with
  | zero =>
    intro j k C hr hk hI hF he pW pJ hwa
    obtain ⟨ms, m1, m2, m3⟩ := hI_f hI (show tb_G 190 = some (.inl (12, _)) from rfl)
    obtain ⟨ci, vs', f1, r20⟩ := he
    rw [m1] at f1
    cases f1
    refine ok_p rfl rfl rfl ?_
    refine ok_p rfl rfl rfl ?_
    refine ok_gf rfl rfl m1 r20 ?_
    have hq : ea_ck .ge k e = true := by
      show decide (e ≤ k) = true
      rw [decide_eq_true_eq, Int32.le_iff_toInt_le]
      omega
    refine ok_ic true rfl rfl hq ?_
    exact ok_r rfl rfl rfl rfl rfl (hK C hI hF)
  | succ r IHr =>
    intro j k C hr hk hI hF he pW pJ hwa
    obtain ⟨ms, m1, m2, m3⟩ := hI_f hI (show tb_G 190 = some (.inl (12, _)) from rfl)
    obtain ⟨ci, vs', f1, r20⟩ := he
    have hev := rf_f f1 r20
    rw [m1] at f1
    cases f1
    obtain ⟨_, r17, rfl⟩ := m3 17 (.inr 203) rfl
    obtain ⟨_, r32, rfl⟩ := m3 32 (.inr 209) rfl
    obtain ⟨d, us, a1, a2⟩ := hI_a hI (show tb_G 203 = some (.inr (2, 400, 1, [.inl (-128, 127)])) from rfl)
    have k1 : (k + Int32.ofInt 1).toInt = ((3 * j + 1 : Nat) : Int) := by
      rw [i32_add (by rw [i_1]; omega) (by rw [i_1]; omega), i_1]
      omega
    have k3 : (k + Int32.ofInt 3).toInt = ((3 * (j + 1) : Nat) : Int) := by
      rw [i32_add (by rw [i_3]; omega) (by rw [i_3]; omega), i_3]
      omega
    refine ok_p rfl rfl rfl ?_
    refine ok_p rfl rfl rfl ?_
    refine ok_gf rfl rfl m1 r20 ?_
    cases hq : ea_ck .ge k e with
    | true =>
      refine ok_ic true rfl rfl hq ?_
      exact ok_r rfl rfl rfl rfl rfl (hK C hI hF)
    | false =>
      have hle : ¬ e ≤ k := of_decide_eq_false hq
      rw [Int32.le_iff_toInt_le] at hle
      refine ok_ic false rfl rfl hq ?_
      have hwt := hwa.2.2 j (by omega) (by rw [hev]; omega)
      have h3 := hwa.1
      rw [hev] at h3
      have byte : ∀ j : Nat, j < 400 → ∃ w : Int32, ea_al d us j = .inl (.inl w) ∧ rf_v C 203 j = w.toInt := fun j hj => by
        obtain ⟨f, f1, f2⟩ := el_get (by decide) (a2 j hj)
        rw [Nat.mod_one] at f1
        cases (show some (Sum.inl (-128, 127)) = some f from f1)
        obtain ⟨w, f2, -, -⟩ := f2
        exact ⟨w, f2, rf_el a1 hj f2⟩
      obtain ⟨w0, w01, w02⟩ := byte (3 * j) (by omega)
      obtain ⟨w1, w11, w12⟩ := byte (3 * j + 1) (by omega)
      rw [w02, w12] at hwt
      refine ok_p rfl rfl rfl ?_
      refine ok_gf rfl rfl m1 r32 ?_
      refine ok_p rfl rfl rfl ?_
      refine ok_p rfl rfl rfl ?_
      refine ok_p rfl rfl rfl ?_
      refine ok_cx (c := trk_133) (show cx_ok (tb_P X) tb_G (rf_G u) trk_133 from IH 133 (by decide) u) (as := []) (T := [.inr (.inl (some 190)), .inl (.inl k), .inr (.inl (some 209))]) (EV := [zW, zJ]) rfl rfl m1 rfl rfl rfl ⟨rfl, trivial⟩ hI ⟨⟨pW, q1, q2⟩, ⟨pJ, q3, q4⟩, trivial⟩ (fun q hq => nomatch hq) (fun w C2 I2 F2 rv P2 => ?_)
      obtain rfl := nt_ext (fun b => F2.1 b rfl)
      obtain ⟨y, rfl, z1, z2⟩ := rv
      show ok_ (tb_P X) 276 20 _ [.inl (.inl y), .inr (.inl (some 190)), .inl (.inl k), .inr (.inl (some 209))] C2 K
      refine ok_p rfl rfl rfl ?_
      refine ok_gf rfl rfl m1 r17 ?_
      refine ok_p rfl rfl rfl ?_
      refine ok_p rfl rfl rfl ?_
      refine ok_p rfl rfl rfl ?_
      refine ok_bl rfl a1 (ix_of k1 (by omega)) w11 ?_
      refine ok_p rfl rfl rfl ?_
      refine ok_gf rfl rfl m1 r17 ?_
      refine ok_p rfl rfl rfl ?_
      refine ok_bl rfl a1 (ix_of hk (by omega)) w01 ?_
      refine ok_cx (c := fn_c) (fn_ok X u (fun q hq u => IH q (Nat.lt_trans hq (by decide)) u)) (as := [.inl (.inl y), .inl (.inl w1), .inl (.inl w0)]) (T := [.inl (.inl k), .inr (.inl (some 209))]) (EV := [zW, zJ]) rfl rfl m1 rfl rfl rfl ⟨rfl, ⟨_, rfl, Int32.le_toInt y, Int.le_of_lt_add_one (Int32.toInt_lt y)⟩, ⟨_, rfl, hwt.2.1, hwt.2.2⟩, ⟨_, rfl, hwt.1.1, hwt.1.2⟩, trivial⟩ I2 ⟨⟨pW, q1, q2⟩, ⟨pJ, q3, q4⟩, trivial⟩ (fun q hq => nomatch hq) (fun w C3 I3 F3 rv P3 => ?_)
      obtain ⟨x, rfl, -, -⟩ := rv
      show ok_ (tb_P X) 276 37 _ [.inl (.inl x), .inl (.inl k), .inr (.inl (some 209))] C3 K
      obtain ⟨dv, uv, b1, b2⟩ := hI_a I3 (show tb_G 209 = some (.inr (0, 400, 1, [.inl ((-2147483648), 2147483647)])) from rfl)
      have n1 : ea_nt C3 190 = some (.inr (12, ms)) := by rw [F3.1 190 rfl]; exact m1
      refine ok_as rfl b1 (ix_of hk (by omega)) ?_
      have I4 := xI_sa I3 (show tb_G 209 = some (.inr (0, 400, 1, [.inl ((-2147483648), 2147483647)])) from rfl) b1 (j := 3 * j) (v := .inl (.inl x)) (el_put (by decide) ⟨.inl ((-2147483648), 2147483647), by rw [Nat.mod_one]; rfl, x, rfl, Int32.le_toInt x, Int.le_of_lt_add_one (Int32.toInt_lt x)⟩)
      have F4 := fr_209 u b1 (j := 3 * j) (v := .inl (.inl x))
      have N4 : ea_nt (C3.set 209 (.inl (0, 400, dv, (3 * j, .inl (.inl x)) :: uv))) 190 = some (.inr (12, ms)) := by rw [nt_set_ne (by decide)]; exact n1
      revert I4 F4 N4
      generalize C3.set 209 (.inl (0, 400, dv, (3 * j, .inl (.inl x)) :: uv)) = C4
      intro I4 F4 N4
      have F34 : fr_c (rf_G u) [(207, 208), (209, 210)] C2 C4 := fr_c_same (fr_c_tr (fr_c_rf _ _ C2) (M' := [(207, 208)]) (by decide) F3) F4
      refine ok_p rfl rfl rfl ?_
      refine ok_p rfl rfl rfl ?_
      refine IHr (j + 1) (k + Int32.ofInt 3) C4 (by omega) k3 I4 (fr_c_same hF F34) ⟨_, _, N4, r20⟩ ?_ ?_ (wa_st (u := u) (F34.2 1006 (by decide) (by decide)) hwa)
      · show rf_G u 999 C4 = zW
        rw [F34.2 999 (by decide) (by decide)]
        exact pW
      · show rf_G u 1001 C4 = zJ
        rw [F34.2 1001 (by decide) (by decide)]
        exact pJ
end LAY
set_option maxRecDepth 20000 in
theorem tr_h134 (X : Option (List AI)) (u : Nat) (IH : ∀ q, q < 134 → ∀ u, cx_ok (tb_P X) tb_G (rf_G u) (tr_at q)) : cx_ok (tb_P X) tb_G (rf_G u) trk_134 := by
  intro vs C EV hvs hI hpre hrel
  obtain ⟨v0, t0, rfl, h0, hvs1⟩ := ea_rl_cons hvs
  obtain rfl := ea_rl_nil hvs1
  obtain rfl : v0 = .inr (.inl (some 190)) := h0
  obtain ⟨zW, E1, rfl, ⟨pW, q1, q2⟩, hp2⟩ := ea_rl_cons hpre
  obtain ⟨zJ, E2, rfl, ⟨pJ, q3, q4⟩, hp3⟩ := ea_rl_cons hp2
  obtain ⟨zA, E3, rfl, ⟨pA, q5, q6⟩, hp4⟩ := ea_rl_cons hp3
  obtain rfl := ea_rl_nil hp4
  dsimp only at q1 q2 q3 q4 q5 q6
  have hwa := wa_of pA q5 q6
  obtain ⟨ms, m1, m2, m3⟩ := hI_f hI (show tb_G 190 = some (.inl (12, _)) from rfl)
  obtain ⟨_, r20, e, rfl, e1, e2⟩ := m3 20 (.inl (0, 400)) rfl
  refine ok_p rfl rfl rfl ?_
  refine ok_p rfl rfl rfl ?_
  exact lay_loop X u IH q1 q2 q3 q4 e2 (fun C' I' F' => ⟨none, rfl, I', F', rfl, po_n rfl rfl⟩) 134 0 (Int32.ofInt 0) C rfl (by decide) hI (fr_c_rf _ _ C) ⟨_, _, m1, r20⟩ pW pJ hwa
section ICO
variable (X : Option (List AI)) (u : Nat) {C : List AC} {K : Option AV ⊕ Nat → List AC → Prop}
set_option maxRecDepth 20000 in
set_option maxHeartbeats 2000000 in
theorem ico_loop (hI : xI tb_G C) (hwa : rf_wa C) {s : Int32} (hK : ∀ v : Int32, (v = Int32.ofInt 0 ∨ v = Int32.ofInt 1) → K (.inl (some (.inl (.inl v)))) C) : ∀ (r j : Nat) (k v : Int32), r + j = 134 → k.toInt = ((3 * j : Nat) : Int) → (v = Int32.ofInt 0 ∨ v = Int32.ofInt 1) → ok_ (tb_P X) 277 19 [(3, .inl (.inl k)), (2, .inl (.inl v)), (0, .inr (.inl (some 190))), (1, .inl (.inl s))] [] C K := by
  obtain ⟨ms, m1, m2, m3⟩ := hI_f hI (show tb_G 190 = some (.inl (12, _)) from rfl)
  obtain ⟨_, r20, e, rfl, e1, e2⟩ := m3 20 (.inl (0, 400)) rfl
  dsimp only at e1 e2
  obtain ⟨_, r17, rfl⟩ := m3 17 (.inr 203) rfl
  obtain ⟨_, r32, rfl⟩ := m3 32 (.inr 209) rfl
  obtain ⟨d, us, a1, a2⟩ := hI_a hI (show tb_G 203 = some (.inr (2, 400, 1, [.inl (-128, 127)])) from rfl)
  obtain ⟨dv, uv, b1, b2⟩ := hI_a hI (show tb_G 209 = some (.inr (0, 400, 1, [.inl ((-2147483648), 2147483647)])) from rfl)
  have hev := rf_f m1 r20
  have h3 := hwa.1
  rw [hev] at h3
  intro r
  induction r with
  | zero =>
    intro j k v hr hk hv
    refine ok_p rfl rfl rfl ?_
    refine ok_p rfl rfl rfl ?_
    refine ok_gf rfl rfl m1 r20 ?_
    have hq : ea_ck .ge k e = true := by
      show decide (e ≤ k) = true
      rw [decide_eq_true_eq, Int32.le_iff_toInt_le]
      omega
    refine ok_ic true rfl rfl hq ?_
    rcases hv with rfl | rfl
    · refine ok_p rfl rfl rfl ?_
      exact ok_r rfl rfl rfl rfl rfl (hK _ (Or.inl rfl))
    · refine ok_p rfl rfl rfl ?_
      exact ok_r rfl rfl rfl rfl rfl (hK _ (Or.inr rfl))
  | succ r IHr =>
    intro j k v hr hk hv
    have k2 : (k + Int32.ofInt 2).toInt = ((3 * j + 2 : Nat) : Int) := by
      rw [i32_add (by rw [i_2]; omega) (by rw [i_2]; omega), i_2]
      omega
    have k3 : (k + Int32.ofInt 3).toInt = ((3 * (j + 1) : Nat) : Int) := by
      rw [i32_add (by rw [i_3]; omega) (by rw [i_3]; omega), i_3]
      omega
    refine ok_p rfl rfl rfl ?_
    refine ok_p rfl rfl rfl ?_
    refine ok_gf rfl rfl m1 r20 ?_
    cases hq : ea_ck .ge k e with
    | true =>
      refine ok_ic true rfl rfl hq ?_
      rcases hv with rfl | rfl
      · refine ok_p rfl rfl rfl ?_
        exact ok_r rfl rfl rfl rfl rfl (hK _ (Or.inl rfl))
      · refine ok_p rfl rfl rfl ?_
        exact ok_r rfl rfl rfl rfl rfl (hK _ (Or.inr rfl))
    | false =>
      have hle : ¬ e ≤ k := of_decide_eq_false hq
      rw [Int32.le_iff_toInt_le] at hle
      refine ok_ic false rfl rfl hq ?_
      rcases hv with rfl | rfl
      · refine ok_p rfl rfl rfl ?_
        refine ok_p rfl rfl rfl ?_
        refine ok_p rfl rfl rfl ?_
        exact ok_r rfl rfl rfl rfl rfl (hK _ (Or.inl rfl))
      have back : ∀ v : Int32, (v = Int32.ofInt 0 ∨ v = Int32.ofInt 1) → ok_ (tb_P X) 277 72 [(3, .inl (.inl k)), (2, .inl (.inl (Int32.ofInt 1))), (0, .inr (.inl (some 190))), (1, .inl (.inl s))] [.inl (.inl v)] C K := by
        intro v hv
        refine ok_p rfl rfl rfl ?_
        refine ok_p rfl rfl rfl ?_
        refine ok_p rfl rfl rfl ?_
        exact IHr (j + 1) (k + Int32.ofInt 3) v (by omega) k3 hv
      obtain ⟨f, f1, f2⟩ := el_get (by decide) (a2 (3 * j + 2) (by omega))
      rw [Nat.mod_one] at f1
      cases (show some (Sum.inl (-128, 127)) = some f from f1)
      obtain ⟨w, w1, -, -⟩ := f2
      obtain ⟨f, g1, g2⟩ := el_get (by decide) (b2 (3 * j) (by omega))
      rw [Nat.mod_one] at g1
      cases (show some (.inl ((-2147483648), 2147483647)) = some f from g1)
      obtain ⟨x, x1, -, -⟩ := g2
      have right : ∀ y : Int32, (y = Int32.ofInt 0 ∨ y = Int32.ofInt 1) → ok_ (tb_P X) 277 47 [(3, .inl (.inl k)), (2, .inl (.inl (Int32.ofInt 1))), (0, .inr (.inl (some 190))), (1, .inl (.inl s))] [.inl (.inl y)] C K := by
        intro y hy
        refine ok_p rfl rfl rfl ?_
        refine ok_gf rfl rfl m1 r17 ?_
        refine ok_p rfl rfl rfl ?_
        refine ok_p rfl rfl rfl ?_
        refine ok_p rfl rfl rfl ?_
        refine ok_bl rfl a1 (ix_of k2 (by omega)) w1 ?_
        refine ok_p rfl rfl rfl ?_
        cases hn : ea_ck .ne w (Int32.ofInt 1) with
        | true =>
          refine ok_ic true rfl rfl hn ?_
          refine ok_p rfl rfl rfl ?_
          rcases hy with rfl | rfl
          · refine ok_p rfl rfl rfl ?_
            refine ok_p rfl rfl rfl ?_
            refine ok_p rfl rfl rfl ?_
            exact back _ (Or.inr rfl)
          · refine ok_p rfl rfl rfl ?_
            refine ok_p rfl rfl rfl ?_
            exact back _ (Or.inl rfl)
        | false =>
          refine ok_ic false rfl rfl hn ?_
          refine ok_p rfl rfl rfl ?_
          refine ok_p rfl rfl rfl ?_
          rcases hy with rfl | rfl
          · refine ok_p rfl rfl rfl ?_
            refine ok_p rfl rfl rfl ?_
            exact back _ (Or.inl rfl)
          · refine ok_p rfl rfl rfl ?_
            refine ok_p rfl rfl rfl ?_
            refine ok_p rfl rfl rfl ?_
            exact back _ (Or.inr rfl)
      refine ok_p rfl rfl rfl ?_
      refine ok_p rfl rfl rfl ?_
      refine ok_p rfl rfl rfl ?_
      refine ok_gf rfl rfl m1 r32 ?_
      refine ok_p rfl rfl rfl ?_
      refine ok_al rfl b1 (ix_of hk (by omega)) x1 ?_
      refine ok_p rfl rfl rfl ?_
      refine ok_p rfl rfl rfl ?_
      cases hn : ea_ck .eq (x &&& s) 0 with
      | true =>
        refine ok_if true rfl rfl hn ?_
        refine ok_p rfl rfl rfl ?_
        exact right _ (Or.inl rfl)
      | false =>
        refine ok_if false rfl rfl hn ?_
        refine ok_p rfl rfl rfl ?_
        refine ok_p rfl rfl rfl ?_
        exact right _ (Or.inr rfl)
end ICO
set_option maxRecDepth 20000 in
set_option maxHeartbeats 1000000 in
theorem tr_h135 (X : Option (List AI)) (u : Nat) (IH : ∀ q, q < 135 → ∀ u, cx_ok (tb_P X) tb_G (rf_G u) (tr_at q)) : cx_ok (tb_P X) tb_G (rf_G u) trk_135 := by
  intro vs C EV hvs hI hpre hrel
  obtain ⟨v0, t0, rfl, h0, hvs1⟩ := ea_rl_cons hvs
  obtain ⟨v1, t1, rfl, ⟨s, rfl, s1, s2⟩, hvs2⟩ := ea_rl_cons hvs1
  obtain rfl := ea_rl_nil hvs2
  obtain rfl : v0 = .inr (.inl (some 190)) := h0
  obtain ⟨zW, E1, rfl, ⟨pW, q1, q2⟩, hp2⟩ := ea_rl_cons hpre
  obtain ⟨zJ, E2, rfl, ⟨pJ, q3, q4⟩, hp3⟩ := ea_rl_cons hp2
  obtain ⟨zA, E3, rfl, ⟨pA, q5, q6⟩, hp4⟩ := ea_rl_cons hp3
  obtain rfl := ea_rl_nil hp4
  dsimp only at q1 q2 q3 q4 q5 q6
  have hwa := wa_of pA q5 q6
  obtain ⟨ms, m1, m2, m3⟩ := hI_f hI (show tb_G 190 = some (.inl (12, _)) from rfl)
  have fin : ∀ v : Int32, (v = Int32.ofInt 0 ∨ v = Int32.ofInt 1) → cx_post (rf_G u) tb_G trk_135 [zW, zJ, zA] C (.inl (some (.inl (.inl v)))) C := by
    intro v hv
    rcases hv with rfl | rfl
    · exact ⟨_, rfl, hI, fr_c_rf _ _ C, ⟨_, rfl, by decide, by decide⟩, po_n rfl rfl⟩
    · exact ⟨_, rfl, hI, fr_c_rf _ _ C, ⟨_, rfl, by decide, by decide⟩, po_n rfl rfl⟩
  refine ok_p rfl rfl rfl ?_
  refine ok_p rfl rfl rfl ?_
  refine ok_cx (c := trk_133) (show cx_ok (tb_P X) tb_G (rf_G u) trk_133 from IH 133 (by decide) u) (as := []) (T := [.inl (.inl s)]) (EV := [zW, zJ]) rfl rfl m1 rfl rfl rfl ⟨rfl, trivial⟩ hI ⟨⟨pW, q1, q2⟩, ⟨pJ, q3, q4⟩, trivial⟩ (fun q hq => nomatch hq) (fun w C2 I2 F2 rv P2 => ?_)
  obtain rfl := nt_ext (fun b => F2.1 b rfl)
  obtain ⟨y, rfl, z1, z2⟩ := rv
  show ok_ (tb_P X) 277 5 _ [.inl (.inl y), .inl (.inl s)] C2 _
  refine ok_p rfl rfl rfl ?_
  refine ok_p rfl rfl rfl ?_
  refine ok_p rfl rfl rfl ?_
  cases hn : ea_ck .ne (s &&& (y ^^^ Int32.ofInt (-1))) 0 with
  | true =>
    refine ok_if true rfl rfl hn ?_
    refine ok_p rfl rfl rfl ?_
    refine ok_p rfl rfl rfl ?_
    refine ok_p rfl rfl rfl ?_
    refine ok_p rfl rfl rfl ?_
    exact ico_loop X I2 hwa fin 134 0 (Int32.ofInt 0) (Int32.ofInt 0) rfl (by decide) (Or.inl rfl)
  | false =>
    refine ok_if false rfl rfl hn ?_
    refine ok_p rfl rfl rfl ?_
    refine ok_p rfl rfl rfl ?_
    refine ok_p rfl rfl rfl ?_
    refine ok_p rfl rfl rfl ?_
    refine ok_p rfl rfl rfl ?_
    exact ico_loop X I2 hwa fin 134 0 (Int32.ofInt 0) (Int32.ofInt 1) rfl (by decide) (Or.inr rfl)
end
section
/-! CONTRACTS BY HAND: a clause's condition -/
def of_L (cl : List (Nat × AV)) (k m c day top i : Int32) : Prop := ea_lk cl 0 = some (.inr (.inl (some 190))) ∧ ea_lk cl 1 = some (.inl (.inl k)) ∧ ea_lk cl 2 = some (.inl (.inl m)) ∧ ea_lk cl 3 = some (.inl (.inl c)) ∧ ea_lk cl 4 = some (.inl (.inl day)) ∧ ea_lk cl 5 = some (.inl (.inl top)) ∧ ea_lk cl 6 = some (.inl (.inl i))
theorem of_L_7 {cl : List (Nat × AV)} {k m c day top i : Int32} (h : of_L cl k m c day top i) {j : Nat} (hj : 7 ≤ j) (a : AV) : of_L (ea_s1 cl j a) k m c day top i := by
  obtain ⟨h0, h1, h2, h3, h4, h5, h6⟩ := h
  exact ⟨lk_s1_n1 h0 rfl (by omega), lk_s1_n1 h1 rfl (by omega), lk_s1_n1 h2 rfl (by omega), lk_s1_n1 h3 rfl (by omega), lk_s1_n1 h4 rfl (by omega), lk_s1_n1 h5 rfl (by omega), lk_s1_n1 h6 rfl (by omega)⟩
theorem of_L_5 {cl : List (Nat × AV)} {k m c day top i : Int32} (h : of_L cl k m c day top i) (t : Int32) : of_L (ea_s1 cl 5 (.inl (.inl t))) k m c day t i := by
  obtain ⟨h0, h1, h2, h3, h4, h5, h6⟩ := h
  exact ⟨lk_s1_n1 h0 rfl (by omega), lk_s1_n1 h1 rfl (by omega), lk_s1_n1 h2 rfl (by omega), lk_s1_n1 h3 rfl (by omega), lk_s1_n1 h4 rfl (by omega), lk_s1 _ _ _, lk_s1_n1 h6 rfl (by omega)⟩
theorem of_L_6 {cl : List (Nat × AV)} {k m c day top i : Int32} (h : of_L cl k m c day top i) (t : Int32) : of_L (ea_s1 cl 6 (.inl (.inl t))) k m c day top t := by
  obtain ⟨h0, h1, h2, h3, h4, h5, h6⟩ := h
  exact ⟨lk_s1_n1 h0 rfl (by omega), lk_s1_n1 h1 rfl (by omega), lk_s1_n1 h2 rfl (by omega), lk_s1_n1 h3 rfl (by omega), lk_s1_n1 h4 rfl (by omega), lk_s1_n1 h5 rfl (by omega), lk_s1 _ _ _⟩
theorem i_4 : (Int32.ofInt 4).toInt = 4 := by decide
theorem i_5 : (Int32.ofInt 5).toInt = 5 := by decide
theorem i_m1 : (Int32.ofInt (-1)).toInt = -1 := by decide
theorem b_9 : ((Int8.ofInt 9).toInt32).toInt = 9 := by decide
section ISOF
variable (X : Option (List AI)) (u : Nat) {C : List AC} {K : Option AV ⊕ Nat → List AC → Prop}
/-- a store into the values -/
theorem xI_207 {C : List AC} (hI : xI tb_G C) {d : AV} {us : List (Nat × AV)} (hC : ea_nt C 207 = some (.inl (0, 400, d, us))) {j : Nat} {v : Int32} : xI tb_G (C.set 207 (.inl (0, 400, d, (j, .inl (.inl v)) :: us))) :=
  xI_sa hI (show tb_G 207 = some (.inr (0, 400, 1, [.inl ((-2147483648), 2147483647)])) from rfl) hC (el_put (by decide) ⟨.inl ((-2147483648), 2147483647), by rw [Nat.mod_one]; rfl, v, rfl, Int32.le_toInt v, Int.le_of_lt_add_one (Int32.toInt_lt v)⟩)
theorem any_el {C : List AC} (hI : xI tb_G C) {a n : Nat} (hG : tb_G a = some (.inr (0, n, 1, [.inl ((-2147483648), 2147483647)]))) {d : AV} {us : List (Nat × AV)} (hC : ea_nt C a = some (.inl (0, n, d, us))) {j : Nat} (hj : j < n) : ∃ y : Int32, ea_al d us j = .inl (.inl y) ∧ rf_v C a j = y.toInt := by
  obtain ⟨d', us', g1, g2⟩ := hI_a hI hG
  rw [hC] at g1
  cases g1
  obtain ⟨f, f1, f2⟩ := el_get (by decide) (g2 j hj)
  rw [Nat.mod_one] at f1
  cases (show some (.inl ((-2147483648), 2147483647)) = some f from f1)
  obtain ⟨y, y1, -, -⟩ := f2
  exact ⟨y, y1, rf_el hC hj y1⟩
set_option maxRecDepth 20000 in
set_option maxHeartbeats 8000000 in
theorem iof_loop (hI : xI tb_G C) {k m c day : Int32} (k1 : 0 ≤ k.toInt) (k2 : k.toInt ≤ 11) (c1 : 0 ≤ c.toInt) (c2 : c.toInt ≤ 9) {E : Nat} (hE : rf_v C 201 (4 * k.toInt.toNat + 3) = (E : Int)) (hE4 : E ≤ 400) (hK : ∀ (C' : List AC) (y : Int32), xI tb_G C' → (∀ x, x ≠ 207 → ea_nt C' x = ea_nt C x) → (y = Int32.ofInt 0 ∨ y = Int32.ofInt 1) → K (.inl (some (.inl (.inl y)))) C') : ∀ (n i t dd : Nat) (tv iv : Int32) (cl : List (Nat × AV)) (C' : List AC), i + n = E → t ≤ i → rf_d (rf_v C 202) i n t = some dd → tv.toInt = (t : Int) → iv.toInt = (i : Int) → of_L cl k m c day tv iv → xI tb_G C' → (∀ x, x ≠ 207 → ea_nt C' x = ea_nt C x) → ok_ (tb_P X) 246 29 cl [] C' K := by
  obtain ⟨ms, m1, m2, m3⟩ := hI_f hI (show tb_G 190 = some (.inl (12, _)) from rfl)
  obtain ⟨_, r13, rfl⟩ := m3 13 (.inr 201) rfl
  obtain ⟨_, r14, rfl⟩ := m3 14 (.inr 202) rfl
  obtain ⟨_, r28, rfl⟩ := m3 28 (.inr 207) rfl
  obtain ⟨da, ua, a1, a2⟩ := hI_a hI (show tb_G 201 = some (.inr (0, 48, 1, [.inl ((-2147483648), 2147483647)])) from rfl)
  obtain ⟨db, ub, b1, b2⟩ := hI_a hI (show tb_G 202 = some (.inr (0, 800, 1, [.inl ((-2147483648), 2147483647)])) from rfl)
  have i4k : (Int32.ofInt 4 * k).toInt = ((4 * k.toInt.toNat : Nat) : Int) := by
    rw [i32_mul (by rw [i_4]; omega) (by rw [i_4]; omega), i_4]
    omega
  have i4k3 : (Int32.ofInt 4 * k + Int32.ofInt 3).toInt = ((4 * k.toInt.toNat + 3 : Nat) : Int) := by
    rw [i32_add (by rw [i4k, i_3]; omega) (by rw [i4k, i_3]; omega), i4k, i_3]
    omega
  obtain ⟨ev, e1, e2⟩ := any_el hI (a := 201) rfl a1 (show 4 * k.toInt.toNat + 3 < 48 by omega)
  rw [hE] at e2
  intro n
  induction n with
  | zero =>
    intro i t dd tv iv cl C' hn ht hd htv hiv hl I' F'
    obtain ⟨h0, h1, h2, h3, h4, h5, h6⟩ := hl
    have M1 : ea_nt C' 190 = some (.inr (12, ms)) := by rw [F' 190 (by decide)]; exact m1
    have A1 : ea_nt C' 201 = some (.inl (0, 48, da, ua)) := by rw [F' 201 (by decide)]; exact a1
    refine ok_il rfl h6 ?_
    refine ok_an rfl h0 rfl ?_
    refine ok_gf rfl rfl M1 r13 ?_
    refine ok_p rfl rfl rfl ?_
    refine ok_in rfl h1 ?_
    refine ok_p rfl rfl rfl ?_
    refine ok_p rfl rfl rfl ?_
    refine ok_p rfl rfl rfl ?_
    refine ok_al rfl A1 (ix_of i4k3 (by omega)) e1 ?_
    have hq : ea_ck .ge iv ev = true := by
      show decide (ev ≤ iv) = true
      rw [decide_eq_true_eq, Int32.le_iff_toInt_le]
      omega
    refine ok_ic true rfl rfl hq ?_
    refine ok_il rfl h5 ?_
    have yes : ok_ (tb_P X) 246 289 cl [] C' K := by
      refine ok_p rfl rfl rfl ?_
      refine ok_p rfl rfl rfl ?_
      exact ok_r rfl rfl rfl rfl rfl (hK C' _ I' F' (Or.inr rfl))
    cases hz : ea_ck .eq tv 0 with
    | true =>
      refine ok_if true rfl rfl hz ?_
      exact yes
    | false =>
      refine ok_if false rfl rfl hz ?_
      obtain ⟨dv, uv, v1, v2⟩ := hI_a I' (show tb_G 207 = some (.inr (0, 400, 1, [.inl ((-2147483648), 2147483647)])) from rfl)
      obtain ⟨y, y1, -⟩ := any_el I' (a := 207) rfl v1 (show 0 < 400 by decide)
      refine ok_an rfl h0 rfl ?_
      refine ok_gf rfl rfl M1 r28 ?_
      refine ok_p rfl rfl rfl ?_
      refine ok_al rfl v1 (ix_of (x := Int32.ofInt 0) (j := 0) (by decide) (by decide)) y1 ?_
      refine ok_p rfl rfl rfl ?_
      cases hy : ea_ck .ne y (Int32.ofInt 1) with
      | true =>
        refine ok_ic true rfl rfl hy ?_
        refine ok_p rfl rfl rfl ?_
        exact ok_r rfl rfl rfl rfl rfl (hK C' _ I' F' (Or.inl rfl))
      | false =>
        refine ok_ic false rfl rfl hy ?_
        exact yes
  | succ n IH =>
    intro i t dd tv iv cl C' hn ht hd htv hiv hl I' F'
    have hl' := hl
    obtain ⟨h0, h1, h2, h3, h4, h5, h6⟩ := hl
    have M1 : ea_nt C' 190 = some (.inr (12, ms)) := by rw [F' 190 (by decide)]; exact m1
    have A1 : ea_nt C' 201 = some (.inl (0, 48, da, ua)) := by rw [F' 201 (by decide)]; exact a1
    have B1 : ea_nt C' 202 = some (.inl (0, 800, db, ub)) := by rw [F' 202 (by decide)]; exact b1
    obtain ⟨dv, uv, v1, v2⟩ := hI_a I' (show tb_G 207 = some (.inr (0, 400, 1, [.inl ((-2147483648), 2147483647)])) from rfl)
    obtain ⟨s, s1, s2⟩ := any_el hI (a := 202) rfl b1 (show 2 * i < 800 by omega)
    obtain ⟨w, w1, -⟩ := any_el hI (a := 202) rfl b1 (show 2 * i + 1 < 800 by omega)
    have i2i : (Int32.ofInt 2 * iv).toInt = ((2 * i : Nat) : Int) := by
      rw [i32_mul (by rw [i_2]; omega) (by rw [i_2]; omega), i_2]
      omega
    have i2i1 : (Int32.ofInt 2 * iv + Int32.ofInt 1).toInt = ((2 * i + 1 : Nat) : Int) := by
      rw [i32_add (by rw [i2i, i_1]; omega) (by rw [i2i, i_1]; omega), i2i, i_1]
      omega
    have ii1 : (iv + Int32.ofInt 1).toInt = ((i + 1 : Nat) : Int) := by
      rw [i32_add (by rw [i_1]; omega) (by rw [i_1]; omega), i_1]
      omega
    have next : ∀ (t' dd' : Nat) (tv' y : Int32) (j : Nat) (cl' : List (Nat × AV)), t' ≤ i + 1 → rf_d (rf_v C 202) (i + 1) n t' = some dd' → tv'.toInt = (t' : Int) → of_L cl' k m c day tv' iv → ok_ (tb_P X) 246 268 cl' [] (C'.set 207 (.inl (0, 400, dv, (j, .inl (.inl y)) :: uv))) K := by
      intro t' dd' tv' y j cl' ht' hd' htv' hl2
      refine ok_ii rfl (show 6 < 11 by decide) hl2.2.2.2.2.2.2 ?_
      refine ok_p rfl rfl rfl ?_
      exact IH (i + 1) t' dd' tv' (iv + Int32.ofInt 1) _ _ (by omega) ht' hd' htv' ii1 (of_L_6 hl2 _) (xI_207 I' v1) (fun x hx => by rw [nt_set_ne (fun h => hx h.symm)]; exact F' x hx)
    refine ok_il rfl h6 ?_
    refine ok_an rfl h0 rfl ?_
    refine ok_gf rfl rfl M1 r13 ?_
    refine ok_p rfl rfl rfl ?_
    refine ok_in rfl h1 ?_
    refine ok_p rfl rfl rfl ?_
    refine ok_p rfl rfl rfl ?_
    refine ok_p rfl rfl rfl ?_
    refine ok_al rfl A1 (ix_of i4k3 (by omega)) e1 ?_
    have hq : ea_ck .ge iv ev = false := by
      show decide (ev ≤ iv) = false
      rw [decide_eq_false_iff_not, Int32.le_iff_toInt_le]
      omega
    refine ok_ic false rfl rfl hq ?_
    refine ok_an rfl h0 rfl ?_
    refine ok_gf rfl rfl M1 r14 ?_
    refine ok_p rfl rfl rfl ?_
    refine ok_il rfl h6 ?_
    refine ok_p rfl rfl rfl ?_
    refine ok_al rfl B1 (ix_of i2i (by omega)) s1 ?_
    refine ok_p rfl rfl rfl ?_
    have hl7 := of_L_7 hl' (j := 7) (by decide) (.inl (.inl s))
    have g7 := lk_s1 cl 7 (.inl (.inl s))
    revert hl7 g7
    generalize ea_s1 cl 7 (.inl (.inl s)) = cl7
    intro hl7 g7
    have hl7' := hl7
    obtain ⟨h0, h1, h2, h3, h4, h5, h6⟩ := hl7
    refine ok_il rfl g7 ?_
    refine ok_p rfl rfl rfl ?_
    rw [rf_d, s2] at hd
    cases hg : ea_ck .gt s (Int32.ofInt 5) with
    | false =>
      have hs : ¬ Int32.ofInt 5 < s := of_decide_eq_false hg
      rw [Int32.lt_iff_toInt_lt, i_5] at hs
      rw [if_pos (by omega)] at hd
      refine ok_ic false rfl rfl hg ?_
      refine ok_an rfl h0 rfl ?_
      refine ok_gf rfl rfl M1 r28 ?_
      refine ok_il rfl h5 ?_
      refine ok_an rfl h0 rfl ?_
      refine ok_il rfl g7 ?_
      refine ok_an rfl h0 rfl ?_
      refine ok_gf rfl rfl M1 r14 ?_
      refine ok_p rfl rfl rfl ?_
      refine ok_il rfl h6 ?_
      refine ok_p rfl rfl rfl ?_
      refine ok_p rfl rfl rfl ?_
      refine ok_p rfl rfl rfl ?_
      refine ok_al rfl B1 (ix_of i2i1 (by omega)) w1 ?_
      refine ok_in rfl h2 ?_
      refine ok_p rfl rfl rfl ?_
      refine ok_p rfl rfl rfl ?_
      refine ok_in rfl h3 ?_
      refine ok_il rfl h4 ?_
      refine ok_cx (c := fo_c) (fo_ok X 0) (as := [.inl (.inl s), .inl (.inl w), .inl (.inl (m - m / (Int8.ofInt 8).toInt32 * (Int8.ofInt 8).toInt32)), .inl (.inl c), .inl (.inl day)]) (T := [.inl (.inl tv), .inr (.inl (some 207))]) (EV := []) rfl rfl M1 rfl rfl rfl ⟨rfl, ⟨_, rfl, Int32.le_toInt _, Int.le_of_lt_add_one (Int32.toInt_lt _)⟩, ⟨_, rfl, Int32.le_toInt _, Int.le_of_lt_add_one (Int32.toInt_lt _)⟩, ⟨_, rfl, Int32.le_toInt _, Int.le_of_lt_add_one (Int32.toInt_lt _)⟩, ⟨_, rfl, c1, c2⟩, ⟨_, rfl, Int32.le_toInt _, Int.le_of_lt_add_one (Int32.toInt_lt _)⟩, trivial⟩ I' trivial (fun q hq => nomatch hq) (fun z C2 I2 F2 rv P2 => ?_)
      obtain rfl := nt_ext (fun b => F2.1 b rfl)
      obtain ⟨y, rfl, -, -⟩ := rv
      show ok_ (tb_P X) 246 91 _ [.inl (.inl y), .inl (.inl tv), .inr (.inl (some 207))] C2 K
      refine ok_as rfl v1 (ix_of htv (by omega)) ?_
      refine ok_ii rfl (show 5 < 11 by decide) h5 ?_
      refine ok_p rfl rfl rfl ?_
      exact next (t + 1) dd (tv + Int32.ofInt 1) y t _ (by omega) hd (by rw [i32_add (by rw [i_1]; omega) (by rw [i_1]; omega), i_1]; omega) (of_L_5 hl7' _)
    | true =>
      have hs : Int32.ofInt 5 < s := of_decide_eq_true hg
      rw [Int32.lt_iff_toInt_lt, i_5] at hs
      rw [if_neg (by omega)] at hd
      refine ok_ic true rfl rfl hg ?_
      refine ok_il rfl g7 ?_
      refine ok_p rfl rfl rfl ?_
      cases h9 : ea_ck .ne s (Int8.ofInt 9).toInt32 with
      | false =>
        have hs9 : s.toInt = 9 := by
          have h1 : (!decide (s = (Int8.ofInt 9).toInt32)) = false := h9
          rw [Bool.not_eq_false', decide_eq_true_eq] at h1
          rw [h1, b_9]
        rw [if_pos hs9] at hd
        split at hd
        · rename_i ht1
          have t1 : (tv - Int32.ofInt 1).toInt = ((t - 1 : Nat) : Int) := by
            rw [i32_sub (by rw [i_1]; omega) (by rw [i_1]; omega), i_1]
            omega
          obtain ⟨y, y1, -⟩ := any_el I' (a := 207) rfl v1 (show t - 1 < 400 by omega)
          refine ok_ic false rfl rfl h9 ?_
          refine ok_an rfl h0 rfl ?_
          refine ok_gf rfl rfl M1 r28 ?_
          refine ok_il rfl h5 ?_
          refine ok_p rfl rfl rfl ?_
          refine ok_p rfl rfl rfl ?_
          refine ok_p rfl rfl rfl ?_
          refine ok_an rfl h0 rfl ?_
          refine ok_gf rfl rfl M1 r28 ?_
          refine ok_il rfl h5 ?_
          refine ok_p rfl rfl rfl ?_
          refine ok_p rfl rfl rfl ?_
          refine ok_al rfl v1 (ix_of t1 (by omega)) y1 ?_
          refine ok_p rfl rfl rfl ?_
          refine ok_as (y := Int32.ofInt 1 - y) rfl v1 (ix_of t1 (by omega)) ?_
          refine ok_p rfl rfl rfl ?_
          exact next t dd tv _ _ _ (by omega) hd htv hl7'
        · cases hd
      | true =>
        have hs9 : s.toInt ≠ 9 := by
          have h1 : (!decide (s = (Int8.ofInt 9).toInt32)) = true := h9
          rw [Bool.not_eq_true', decide_eq_false_iff_not] at h1
          exact fun h => h1 (Int32.toInt_inj.mp (by rw [h, b_9]))
        rw [if_neg hs9] at hd
        split at hd
        · rename_i ht2
          have t1 : (tv + Int32.ofInt (-1)).toInt = ((t - 1 : Nat) : Int) := by
            rw [i32_add (by rw [i_m1]; omega) (by rw [i_m1]; omega), i_m1]
            omega
          have t2 : (tv + Int32.ofInt (-1) - Int32.ofInt 1).toInt = ((t - 2 : Nat) : Int) := by
            rw [i32_sub (by rw [t1, i_1]; omega) (by rw [t1, i_1]; omega), t1, i_1]
            omega
          obtain ⟨a, ya, -⟩ := any_el I' (a := 207) rfl v1 (show t - 2 < 400 by omega)
          obtain ⟨b, yb, -⟩ := any_el I' (a := 207) rfl v1 (show t - 1 < 400 by omega)
          refine ok_ic true rfl rfl h9 ?_
          refine ok_ii rfl (show 5 < 11 by decide) h5 ?_
          have hl5 := of_L_5 hl7' (tv + Int32.ofInt (-1))
          have g7' := lk_s1_n1 (i := 5) (a := .inl (.inl (tv + Int32.ofInt (-1)))) g7 rfl (by decide)
          revert hl5 g7'
          generalize ea_s1 cl7 5 (.inl (.inl (tv + Int32.ofInt (-1)))) = cl5
          intro hl5 g7'
          obtain ⟨h0, h1, h2, h3, h4, h5, h6⟩ := id hl5
          refine ok_an rfl h0 rfl ?_
          refine ok_gf rfl rfl M1 r28 ?_
          refine ok_il rfl h5 ?_
          refine ok_p rfl rfl rfl ?_
          refine ok_p rfl rfl rfl ?_
          refine ok_al rfl v1 (ix_of t2 (by omega)) ya ?_
          refine ok_p rfl rfl rfl ?_
          have hl8 := of_L_7 hl5 (j := 8) (by decide) (.inl (.inl a))
          have k7 := lk_s1_n1 (i := 8) (a := .inl (.inl a)) g7' rfl (by decide)
          have k8 := lk_s1 cl5 8 (.inl (.inl a))
          revert hl8 k7 k8
          generalize ea_s1 cl5 8 (.inl (.inl a)) = cl8
          intro hl8 k7 k8
          obtain ⟨h0, h1, h2, h3, h4, h5, h6⟩ := id hl8
          refine ok_an rfl h0 rfl ?_
          refine ok_gf rfl rfl M1 r28 ?_
          refine ok_il rfl h5 ?_
          refine ok_al rfl v1 (ix_of t1 (by omega)) yb ?_
          refine ok_p rfl rfl rfl ?_
          have hl9 := of_L_7 hl8 (j := 9) (by decide) (.inl (.inl b))
          have j7 := lk_s1_n1 (i := 9) (a := .inl (.inl b)) k7 rfl (by decide)
          have j8 := lk_s1_n1 (i := 9) (a := .inl (.inl b)) k8 rfl (by decide)
          have j9 := lk_s1 cl8 9 (.inl (.inl b))
          revert hl9 j7 j8 j9
          generalize ea_s1 cl8 9 (.inl (.inl b)) = cl9
          intro hl9 j7 j8 j9
          have last : ∀ y : Int32, (y = Int32.ofInt 0 ∨ y = Int32.ofInt 1) → ok_ (tb_P X) 246 232 cl9 [.inl (.inl y)] C' K := by
            intro y hy
            refine ok_p rfl rfl rfl ?_
            have hl10 := of_L_7 hl9 (j := 10) (by decide) (.inl (.inl y))
            have f7 := lk_s1_n1 (i := 10) (a := .inl (.inl y)) j7 rfl (by decide)
            have f8 := lk_s1_n1 (i := 10) (a := .inl (.inl y)) j8 rfl (by decide)
            have f9 := lk_s1_n1 (i := 10) (a := .inl (.inl y)) j9 rfl (by decide)
            have f10 := lk_s1 cl9 10 (.inl (.inl y))
            revert hl10 f7 f8 f9 f10
            generalize ea_s1 cl9 10 (.inl (.inl y)) = cl10
            intro hl10 f7 f8 f9 f10
            obtain ⟨h0, h1, h2, h3, h4, h5, h6⟩ := id hl10
            refine ok_an rfl h0 rfl ?_
            refine ok_gf rfl rfl M1 r28 ?_
            refine ok_il rfl h5 ?_
            refine ok_p rfl rfl rfl ?_
            refine ok_p rfl rfl rfl ?_
            refine ok_il rfl f7 ?_
            refine ok_p rfl rfl rfl ?_
            cases ha : ea_ck .ne s (Int8.ofInt 6).toInt32 with
            | false =>
              refine ok_ic false rfl rfl ha ?_
              refine ok_il rfl f8 ?_
              refine ok_il rfl f9 ?_
              refine ok_p rfl rfl rfl ?_
              refine ok_p rfl rfl rfl ?_
              refine ok_as (y := a + b) rfl v1 (ix_of t2 (by omega)) ?_
              exact next (t - 1) dd _ _ _ _ (by omega) hd t1 hl10
            | true =>
              refine ok_ic true rfl rfl ha ?_
              refine ok_il rfl f10 ?_
              rcases hy with rfl | rfl
              · refine ok_p rfl rfl rfl ?_
                refine ok_p rfl rfl rfl ?_
                refine ok_as (y := Int32.ofInt 0) rfl v1 (ix_of t2 (by omega)) ?_
                exact next (t - 1) dd _ _ _ _ (by omega) hd t1 hl10
              · refine ok_p rfl rfl rfl ?_
                refine ok_p rfl rfl rfl ?_
                refine ok_p rfl rfl rfl ?_
                refine ok_as (y := Int32.ofInt 1) rfl v1 (ix_of t2 (by omega)) ?_
                exact next (t - 1) dd _ _ _ _ (by omega) hd t1 hl10
          refine ok_il rfl j7 ?_
          refine ok_p rfl rfl rfl ?_
          cases e7 : ea_ck .ne s (Int8.ofInt 7).toInt32 with
          | false =>
            refine ok_ic false rfl rfl e7 ?_
            refine ok_il rfl j8 ?_
            refine ok_il rfl j9 ?_
            cases hc : ea_ck .ge a b with
            | true =>
              refine ok_ic true rfl rfl hc ?_
              refine ok_p rfl rfl rfl ?_
              refine ok_p rfl rfl rfl ?_
              exact last _ (Or.inl rfl)
            | false =>
              refine ok_ic false rfl rfl hc ?_
              refine ok_p rfl rfl rfl ?_
              refine ok_p rfl rfl rfl ?_
              exact last _ (Or.inr rfl)
          | true =>
            refine ok_ic true rfl rfl e7 ?_
            refine ok_il rfl j7 ?_
            refine ok_p rfl rfl rfl ?_
            cases e8 : ea_ck .ne s (Int8.ofInt 8).toInt32 with
            | false =>
              refine ok_ic false rfl rfl e8 ?_
              refine ok_il rfl j8 ?_
              refine ok_il rfl j9 ?_
              cases hc : ea_ck .le a b with
              | true =>
                refine ok_ic true rfl rfl hc ?_
                refine ok_p rfl rfl rfl ?_
                refine ok_p rfl rfl rfl ?_
                exact last _ (Or.inl rfl)
              | false =>
                refine ok_ic false rfl rfl hc ?_
                refine ok_p rfl rfl rfl ?_
                refine ok_p rfl rfl rfl ?_
                exact last _ (Or.inr rfl)
            | true =>
              refine ok_ic true rfl rfl e8 ?_
              refine ok_il rfl j7 ?_
              refine ok_p rfl rfl rfl ?_
              cases e10 : ea_ck .ne s (Int8.ofInt 10).toInt32 with
              | false =>
                refine ok_ic false rfl rfl e10 ?_
                refine ok_il rfl j8 ?_
                refine ok_il rfl j9 ?_
                refine ok_p rfl rfl rfl ?_
                refine ok_p rfl rfl rfl ?_
                cases hc : ea_ck .ne (a + b) (Int32.ofInt 2) with
                | true =>
                  refine ok_ic true rfl rfl hc ?_
                  refine ok_p rfl rfl rfl ?_
                  refine ok_p rfl rfl rfl ?_
                  exact last _ (Or.inl rfl)
                | false =>
                  refine ok_ic false rfl rfl hc ?_
                  refine ok_p rfl rfl rfl ?_
                  refine ok_p rfl rfl rfl ?_
                  exact last _ (Or.inr rfl)
              | true =>
                refine ok_ic true rfl rfl e10 ?_
                refine ok_il rfl j8 ?_
                refine ok_il rfl j9 ?_
                refine ok_p rfl rfl rfl ?_
                cases hc : ea_ck .le (a + b) 0 with
                | true =>
                  refine ok_if true rfl rfl hc ?_
                  refine ok_p rfl rfl rfl ?_
                  exact last _ (Or.inl rfl)
                | false =>
                  refine ok_if false rfl rfl hc ?_
                  refine ok_p rfl rfl rfl ?_
                  refine ok_p rfl rfl rfl ?_
                  exact last _ (Or.inr rfl)
        · cases hd
end ISOF
theorem jj_of {u : Nat} {C : List AC} {z : Int} (h : pv (rf_G u) C 1001 0 z) (h1 : 1 ≤ z) (h2 : z ≤ 1) : rf_cls C 201 202 := rf_b_of (p := rf_cls C 201 202) (by
  have h3 : rf_G u 1001 C = z := h
  have h4 : rf_G u 1001 C = rf_b (rf_cls C 201 202) := rfl
  omega)
set_option maxRecDepth 20000 in
set_option maxHeartbeats 2000000 in
theorem tr_h106 (X : Option (List AI)) (u : Nat) : cx_ok (tb_P X) tb_G (rf_G u) trk_106 := by
  intro vs C EV hvs hI hpre hrel
  obtain ⟨v0, t0, rfl, h0, hvs1⟩ := ea_rl_cons hvs
  obtain ⟨v1, t1, rfl, ⟨k, rfl, k1, k2⟩, hvs2⟩ := ea_rl_cons hvs1
  obtain ⟨v2, t2, rfl, ⟨m, rfl, -, -⟩, hvs3⟩ := ea_rl_cons hvs2
  obtain ⟨v3, t3, rfl, ⟨c, rfl, c1, c2⟩, hvs4⟩ := ea_rl_cons hvs3
  obtain ⟨v4, t4, rfl, ⟨day, rfl, -, -⟩, hvs5⟩ := ea_rl_cons hvs4
  obtain rfl := ea_rl_nil hvs5
  obtain rfl : v0 = .inr (.inl (some 190)) := h0
  obtain ⟨zN, E1, rfl, ⟨pN, q1, q2⟩, hp2⟩ := ea_rl_cons hpre
  obtain ⟨zJ, E2, rfl, ⟨pJ, q3, q4⟩, hp3⟩ := ea_rl_cons hp2
  obtain rfl := ea_rl_nil hp3
  dsimp only at k1 k2 c1 c2 q1 q2 q3 q4
  have hJ := jj_of pJ q3 q4
  have hr := rl_z hrel (.head _) (z1 := k.toInt) (z2 := zN) ⟨k, rfl, rfl⟩ rfl
  have hN : rf_v C 190 15 = zN := rf_v_pv (a := 190) (by decide) pN
  obtain ⟨i, n, dd, j1, j2, j3, j4⟩ := hJ.2 k.toInt.toNat (by omega) (by omega)
  obtain ⟨ms, m1, m2, m3⟩ := hI_f hI (show tb_G 190 = some (.inl (12, _)) from rfl)
  obtain ⟨_, r13, rfl⟩ := m3 13 (.inr 201) rfl
  obtain ⟨da, ua, a1, a2⟩ := hI_a hI (show tb_G 201 = some (.inr (0, 48, 1, [.inl ((-2147483648), 2147483647)])) from rfl)
  have i4k : (Int32.ofInt 4 * k).toInt = ((4 * k.toInt.toNat : Nat) : Int) := by
    rw [i32_mul (by rw [i_4]; omega) (by rw [i_4]; omega), i_4]
    omega
  have i4k2 : (Int32.ofInt 4 * k + Int32.ofInt 2).toInt = ((4 * k.toInt.toNat + 2 : Nat) : Int) := by
    rw [i32_add (by rw [i4k, i_2]; omega) (by rw [i4k, i_2]; omega), i4k, i_2]
    omega
  obtain ⟨bv, b1, b2⟩ := any_el hI (a := 201) rfl a1 (show 4 * k.toInt.toNat + 2 < 48 by omega)
  rw [j1] at b2
  have fin : ∀ (C' : List AC) (y : Int32), xI tb_G C' → (∀ x, x ≠ 207 → ea_nt C' x = ea_nt C x) → (y = Int32.ofInt 0 ∨ y = Int32.ofInt 1) → cx_post (rf_G u) tb_G trk_106 [zN, zJ] C (.inl (some (.inl (.inl y)))) C' := by
    intro C' y I' F' hy
    have hF : fr_c (rf_G u) trk_106.1.2.2.1 C C' := by
      refine ⟨fun b hb => F' b ?_, fun g hk hm => rf_gs u g C C' (fun a i hq => cv_eq (F' a ?_) i)⟩
      · rintro rfl
        exact absurd hb (by decide)
      · obtain ⟨q, w1, w2, w3, -⟩ := hq
        rintro rfl
        exact absurd w3 ((show ∀ q ∈ tr_gs, q.2.1 ≠ 207 by decide) q w1)
    rcases hy with rfl | rfl
    · exact ⟨_, rfl, I', hF, ⟨_, rfl, by decide, by decide⟩, po_n rfl rfl⟩
    · exact ⟨_, rfl, I', hF, ⟨_, rfl, by decide, by decide⟩, po_n rfl rfl⟩
  refine ok_p rfl rfl rfl ?_
  refine ok_p rfl rfl rfl ?_
  refine ok_cx (c := do_c) (do_ok X u) (as := [.inl (.inl k)]) (T := []) (EV := []) rfl rfl m1 rfl rfl rfl ⟨rfl, ⟨_, rfl, k1, k2⟩, trivial⟩ hI trivial (fun q hq => nomatch hq) (fun w C2 I2 F2 rv P2 => ?_)
  obtain rfl := nt_ext (fun b => F2.1 b rfl)
  obtain ⟨y, rfl, -, -⟩ := rv
  show ok_ (tb_P X) 246 5 _ [.inl (.inl y)] C2 _
  refine ok_p rfl rfl rfl ?_
  refine ok_p rfl rfl rfl ?_
  refine ok_p rfl rfl rfl ?_
  cases hq : ea_ck .eq y (m / (Int8.ofInt 8).toInt32) with
  | false =>
    refine ok_ic false rfl rfl hq ?_
    refine ok_p rfl rfl rfl ?_
    exact ok_r rfl rfl rfl rfl rfl (fin C2 _ I2 (fun _ _ => rfl) (Or.inl rfl))
  | true =>
    refine ok_ic true rfl rfl hq ?_
    refine ok_p rfl rfl rfl ?_
    refine ok_p rfl rfl rfl ?_
    refine ok_p rfl rfl rfl ?_
    refine ok_gf rfl rfl m1 r13 ?_
    refine ok_p rfl rfl rfl ?_
    refine ok_p rfl rfl rfl ?_
    refine ok_p rfl rfl rfl ?_
    refine ok_p rfl rfl rfl ?_
    refine ok_p rfl rfl rfl ?_
    refine ok_al rfl a1 (ix_of i4k2 (by omega)) b1 ?_
    refine ok_p rfl rfl rfl ?_
    exact iof_loop X I2 k1 k2 c1 c2 (E := i + n) j2 j3 fin n i 0 dd (Int32.ofInt 0) bv _ C2 rfl (by omega) j4 (by decide) (by omega) ⟨rfl, rfl, rfl, rfl, rfl, rfl, rfl⟩ I2 (fun _ _ => rfl)
end
section
/-! CONTRACTS BY HAND: a clause is read -/
section DET
variable {P : EP} {m pc : Nat} {L : List (Nat × AV)} {S : List AV} {C : List AC}
/-- a run comes to one end: what each of several rows says of it holds together -/
theorem ok_all {U : Type} (u0 : U) {K : U → Option AV ⊕ Nat → List AC → Prop} (h : ∀ u, ok_ P m pc L S C (K u)) : ok_ P m pc L S C (fun o C' => ∀ u, K u o C') := by
  obtain ⟨n0, o0, C0, r0, k0⟩ := h u0
  refine ⟨n0, o0, C0, r0, fun u => ?_⟩
  obtain ⟨n1, o1, C1, r1, k1⟩ := h u
  have e0 := ok_x_mono (Nat.le_max_left n0 n1) (r0 0 0)
  have e1 := ok_x_mono (Nat.le_max_right n0 n1) (r1 0 0)
  rw [e0] at e1
  have e2 := Option.some.inj e1
  have e3 : o0 = o1 := congrArg (fun q => q.1) e2
  have e4 : C0 = C1 := congrArg (fun q => q.2.1) e2
  rw [e3, e4]
  exact k1
end DET
theorem rf_G_u {u u' k : Nat} (h4 : k ≠ 1004) (D : List AC) : rf_G u' k D = rf_G u k D := by
  by_cases k0 : k = 999
  · subst k0; rfl
  by_cases k1 : k = 1000
  · subst k1; rfl
  by_cases k2 : k = 1001
  · subst k2; rfl
  by_cases k3 : k = 1002
  · subst k3; rfl
  by_cases k5 : k = 1005
  · subst k5; rfl
  by_cases k6 : k = 1006
  · subst k6; rfl
  by_cases k7 : k = 1007
  · subst k7; rfl
  by_cases k8 : k = 1008
  · subst k8; rfl
  have g0 : ∀ v, rf_G v k D = 0 := by
    intro v
    unfold rf_G
    split <;> first | rfl | (exfalso; omega)
  rw [g0, g0]
theorem fr_u {u u' : Nat} {M : List (Nat × Nat)} {C C' : List AC} (hM : xm M 1004 = true) (h : fr_c (rf_G u) M C C') : fr_c (rf_G u') M C C' := ⟨h.1, fun k hk hm => by
  have hk4 : k ≠ 1004 := by
    rintro rfl
    rw [hM] at hm
    cases hm
  rw [rf_G_u (u := u) (u' := u') hk4 C', rf_G_u (u := u) (u' := u') hk4 C]
  exact h.2 k hk hm⟩
/-- cells that are the same -/
theorem fr_cells (u : Nat) {M : List (Nat × Nat)} {C C' : List AC} (h : ∀ x, xm M x = false → ea_nt C' x = ea_nt C x) (hg : ∀ q ∈ tr_gs, xm M q.2.1 = true → xm M q.1 = true) : fr_c (rf_G u) M C C' := by
  refine ⟨h, fun k hk hm => rf_gs u k C C' (fun a i hq => cv_eq (h a ?_) i)⟩
  obtain ⟨q, q1, q2, q3, -⟩ := hq
  cases hx : xm M a with
  | false => rfl
  | true =>
    have := hg q q1 (by rw [q3]; exact hx)
    rw [q2, hm] at this
    cases this
theorem ga_eq {u : Nat} {C C' : List AC} (h1 : ∀ j, j < 800 → rf_v C' 202 j = rf_v C 202 j) (h2 : rf_v C' 190 25 = rf_v C 190 25) : rf_ga u C' = rf_ga u C := by
  unfold rf_ga
  rw [h2]
  split
  · rename_i hc
    rw [rf_d_eq h1 _ _ _ (by omega)]
  · rfl
theorem ga_some {u : Nat} {C : List AC} (h : 0 ≤ rf_ga u C) : (u : Int) ≤ rf_v C 190 25 ∧ rf_v C 190 25 ≤ 400 ∧ ∃ d : Nat, rf_d (rf_v C 202) u ((rf_v C 190 25).toNat - u) 0 = some d := by
  unfold rf_ga at h
  split at h
  · rename_i hc
    refine ⟨hc.1, hc.2, ?_⟩
    split at h
    · rename_i d hd
      exact ⟨d, hd⟩
    · omega
  · omega
theorem ga_le {u : Nat} {C : List AC} : rf_ga u C ≤ 400 := by
  unfold rf_ga
  split
  · split
    · rename_i d hd
      have := rf_d_le _ _ _ _ hd
      omega
    · omega
  · omega
theorem ga_self {s : Nat} {C : List AC} (h : rf_v C 190 25 = (s : Int)) (hs : s ≤ 400) : rf_ga s C = 0 := by
  unfold rf_ga
  rw [h, if_pos ⟨Int.le_refl _, by omega⟩, show (s : Int).toNat - s = 0 by omega]
  rfl
/-- a run that ends has a beginning that ends -/
theorem rf_d_pre {f : Nat → Int} : ∀ (m r i d e : Nat), rf_d f i (m + r) d = some e → ∃ e', rf_d f i m d = some e'
  | 0, r, i, d, e, h => ⟨d, rfl⟩
  | m + 1, r, i, d, e, h => by
    rw [show m + 1 + r = (m + r) + 1 by omega] at h
    unfold rf_d at h ⊢
    split at h
    · rename_i h1
      rw [if_pos h1]
      exact rf_d_pre m r _ _ _ h
    · rename_i h1
      rw [if_neg h1]
      split at h
      · rename_i h2
        rw [if_pos h2]
        split at h
        · rename_i h3
          rw [if_pos h3]
          exact rf_d_pre m r _ _ _ h
        · cases h
      · rename_i h2
        rw [if_neg h2]
        split at h
        · rename_i h3
          rw [if_pos h3]
          exact rf_d_pre m r _ _ _ h
        · cases h
def cd_M : List (Nat × Nat) := [(190, 191), (201, 203), (1001, 1002), (1003, 1007)]
/-- the first n clauses are told: where their steps are, never too few on the stack -/
def cd_I (C : List AC) (n : Nat) : Prop := ∀ k, k < n → ∃ i m : Nat, rf_v C 201 (4 * k + 2) = (i : Int) ∧ rf_v C 201 (4 * k + 3) = ((i + m : Nat) : Int) ∧ ((i + m : Nat) : Int) ≤ rf_v C 190 25 ∧ 0 ≤ rf_ga i C
def cd_S (C1 C : List AC) (n : Nat) : Prop := xI tb_G C ∧ fr_c (rf_G 0) cd_M C1 C ∧ cd_I C n
theorem cd_I_keep {C C' : List AC} {n : Nat} (h1 : ∀ j, j < 4 * n → rf_v C' 201 j = rf_v C 201 j) (h2 : ∀ j, j < 800 → rf_v C' 202 j = rf_v C 202 j) (h3 : rf_v C' 190 25 = rf_v C 190 25) (h : cd_I C n) : cd_I C' n := by
  intro k hk
  obtain ⟨i, m, g1, g2, g3, g4⟩ := h k hk
  exact ⟨i, m, by rw [h1 _ (by omega)]; exact g1, by rw [h1 _ (by omega)]; exact g2, by rw [h3]; exact g3, by rw [ga_eq h2 h3]; exact g4⟩
theorem cd_st {C1 C : List AC} {n : Nat} (h : cd_S C1 C n) {d : AV} {us : List (Nat × AV)} (hC : ea_nt C 201 = some (.inl (0, 48, d, us))) {j : Nat} (hj : 4 * n ≤ j) {v : Int32} : cd_S C1 (C.set 201 (.inl (0, 48, d, (j, .inl (.inl v)) :: us))) n := by
  refine ⟨xI_sa h.1 (show tb_G 201 = some (.inr (0, 48, 1, [.inl ((-2147483648), 2147483647)])) from rfl) hC (el_put (by decide) ⟨.inl ((-2147483648), 2147483647), by rw [Nat.mod_one]; rfl, v, rfl, Int32.le_toInt v, Int.le_of_lt_add_one (Int32.toInt_lt v)⟩), fr_c_tr h.2.1 (M' := [(201, 202), (1001, 1002), (1003, 1004)]) (by decide) (fr_cells 0 (fun x hx => ?_) (by decide)), cd_I_keep (fun i hi => rf_v_set hC (fun hc => by have := hc.2; omega)) (fun i hi => rf_v_set hC (fun hc => by have := hc.1; omega)) (rf_v_set hC (fun hc => by have := hc.1; omega)) h.2.2⟩
  refine nt_set_ne ?_
  rintro rfl
  exact absurd hx (by decide)
theorem cd_lf {C1 C C' : List AC} {n : Nat} (h : cd_S C1 C n) (I' : xI tb_G C') (F : fr_c (rf_G 0) [(190, 191), (1005, 1006)] C C') (hs : rf_v C' 190 25 = rf_v C 190 25) : cd_S C1 C' n :=
  ⟨I', fr_c_tr h.2.1 (M' := [(190, 191), (1005, 1006)]) (by decide) F, cd_I_keep (fun j _ => rf_v_eq (cv_eq (F.1 201 rfl) j)) (fun j _ => rf_v_eq (cv_eq (F.1 202 rfl) j)) hs h.2.2⟩
theorem rf_fs {C : List AC} {vs : List AV} (hC : ea_nt C 190 = some (.inr (12, vs))) {j k : Nat} {v : AV} (hjk : j ≠ k) : rf_v (C.set 190 (.inr (12, vs.set j v))) 190 k = rf_v C 190 k := by
  refine rf_v_eq ?_
  unfold cv
  rw [nt_set_self hC, hC]
  dsimp only
  rw [nt_set_ne hjk]
/-- what a leaf of the readers leaves -/
theorem lf_out {GF : GH} {po : PO} {v : Option AV} {C' : List AC} {p s d a : Int} (h : po_g GF po v [p, s, d] C') (r0 : ((.inr (.inl 0), .inr (.inr (190, 19)), -a) : RL) ∈ po.2) (r1 : ((.inr (.inr (190, 25)), .inr (.inl 1), 0) : RL) ∈ po.2) (r2 : ((.inr (.inl 1), .inr (.inr (190, 25)), 0) : RL) ∈ po.2) (r3 : ((.inr (.inr (190, 22)), .inr (.inl 2), 0) : RL) ∈ po.2) (r4 : ((.inr (.inl 2), .inr (.inr (190, 22)), 0) : RL) ∈ po.2) : p + a ≤ rf_v C' 190 19 ∧ rf_v C' 190 25 = s ∧ rf_v C' 190 22 = d := by
  have ev : ∀ {j : Nat} {z x : Int}, sp_g GF (rv_l v) [p, s, d] C' (.inr (.inl j)) z → ea_nt [p, s, d] j = some x → z = x := fun {j z x} h1 h2 => by
    have h3 : ea_nt [p, s, d] j = some z := h1
    rw [h2] at h3
    cases h3
    rfl
  have pl : ∀ {k : Nat} {z : Int}, sp_g GF (rv_l v) [p, s, d] C' (.inr (.inr (190, k))) z → rf_v C' 190 k = z := fun {k z} h1 => rf_v_pv (a := 190) (by decide) (show pv GF C' 190 k z from h1)
  obtain ⟨a1, a2, b1, b2, b3⟩ := h.2 _ r0
  obtain ⟨c1, c2, d1, d2, d3⟩ := h.2 _ r1
  obtain ⟨e1, e2, f1, f2, f3⟩ := h.2 _ r2
  obtain ⟨g1, g2, h1, h2, h3⟩ := h.2 _ r3
  obtain ⟨i1, i2, j1, j2, j3⟩ := h.2 _ r4
  have t1 := ev b1 rfl
  have t2 := pl b2
  have t3 := pl d1
  have t4 := ev d2 rfl
  have t5 := ev f1 rfl
  have t6 := pl f2
  have t7 := pl h1
  have t8 := ev h2 rfl
  have t9 := ev j1 rfl
  have t10 := pl j2
  dsimp only at b3 d3 f3 h3 j3
  omega
def pi_c : CX := ((217, [.inr (.inl 190), .inr (.inr 11744409)], [(190, 191), (1005, 1006)], (1, 0, 1), [], [(190, 19, 0, 400), (190, 25, 0, 400), (190, 22, 0, 6)]), [], 1, ([(190, 19, 0, 400), (190, 21, 0, 400), (190, 25, 0, 400), (190, 22, 0, 6)], [(.inr (.inl 0), .inr (.inr (190, 19)), 0), (.inr (.inr (190, 25)), .inr (.inl 1), 0), (.inr (.inl 1), .inr (.inr (190, 25)), 0), (.inr (.inr (190, 22)), .inr (.inl 2), 0), (.inr (.inl 2), .inr (.inr (190, 22)), 0)]), ([(190, 19, 0, 400), (190, 21, 0, 400), (190, 25, 0, 400), (190, 22, 0, 6)], [(.inr (.inl 0), .inr (.inr (190, 19)), (-1)), (.inr (.inr (190, 25)), .inr (.inl 1), 0), (.inr (.inl 1), .inr (.inr (190, 25)), 0), (.inr (.inr (190, 22)), .inr (.inl 2), 0), (.inr (.inl 2), .inr (.inr (190, 22)), 0)]))
set_option maxRecDepth 100000 in
theorem pi_ck : cx_ck (tb_P none) tb_G tr_gs (tr_ct 104) (fun _ _ => none) [] pi_c 400 = true := by decide +kernel
theorem pi_ok (X : Option (List AI)) (u : Nat) (IH : ∀ q, q < 104 → ∀ u, cx_ok (tb_P X) tb_G (rf_G u) (tr_at q)) : cx_ok (tb_P X) tb_G (rf_G u) pi_c := cx_ck_ok tr_G9 (rf_gs u) (tr_hct IH) no_m (hds := []) (n := 400) (by rw [cx_scr X]; exact pi_ck)
theorem yes_no {y : Int32} (h1 : 0 ≤ y.toInt) (h2 : y.toInt ≤ 1) : y = Int32.ofInt 0 ∨ y = Int32.ofInt 1 := by
  rcases (show y.toInt = 0 ∨ y.toInt = 1 by omega) with h | h
  · exact Or.inl (Int32.toInt_inj.mp (by rw [h]; decide))
  · exact Or.inr (Int32.toInt_inj.mp (by rw [h]; decide))
theorem b_12 : ((Int8.ofInt 12).toInt32).toInt = 12 := by decide
theorem el_top {d : AV} {us : List (Nat × AV)} {j : Nat} {v : AV} : ea_al d ((j, v) :: us) j = v := by rw [ea_al_at, if_pos rfl]
section RC
variable (X : Option (List AI)) {C1 : List AC} {K : Option AV ⊕ Nat → List AC → Prop}
set_option maxRecDepth 20000 in
set_option maxHeartbeats 8000000 in
theorem rc_run (IH : ∀ q, q < 104 → ∀ u, cx_ok (tb_P X) tb_G (rf_G u) (tr_at q)) {C : List AC} {n : Nat} {nv : Int32} (hn : n ≤ 12) (hnv : nv.toInt = (n : Int)) (hS : cd_S C1 C n) (hb : rf_v C 190 25 ≤ rf_v C 190 21) (h0 : ∀ C', xI tb_G C' → fr_c (rf_G 0) cd_M C1 C' → K (.inl (some (.inl (.inl (Int32.ofInt 0))))) C') (h1 : ∀ C', n ≤ 11 → cd_S C1 C' (n + 1) → rf_v C' 190 25 ≤ rf_v C' 190 19 → K (.inl (some (.inl (.inl (Int32.ofInt 1))))) C') : ok_ (tb_P X) 230 0 (ea_ar 0 [.inr (.inl (some 190)), .inl (.inl nv)]) [] C K := by
  obtain ⟨ms, m1, m2, m3⟩ := hI_f hS.1 (show tb_G 190 = some (.inl (12, _)) from rfl)
  obtain ⟨_, r13, rfl⟩ := m3 13 (.inr 201) rfl
  obtain ⟨_, r19, p, rfl, p1, p2⟩ := m3 19 (.inl (0, 400)) rfl
  obtain ⟨_, r21, b, rfl, b1, b2⟩ := m3 21 (.inl (0, 400)) rfl
  obtain ⟨_, r25, s, rfl, s1, s2⟩ := m3 25 (.inl (0, 400)) rfl
  dsimp only at p1 p2 b1 b2 s1 s2
  have hp := rf_f m1 r19
  have hs := rf_f m1 r25
  rw [rf_f m1 r21, hs] at hb
  refine ok_p rfl rfl rfl ?_
  refine ok_p rfl rfl rfl ?_
  cases hq : ea_ck .ne nv (Int8.ofInt 12).toInt32 with
  | false =>
    refine ok_ic false rfl rfl hq ?_
    refine ok_p rfl rfl rfl ?_
    exact ok_r rfl rfl rfl rfl rfl (h0 C hS.1 hS.2.1)
  | true =>
  have hn11 : n ≤ 11 := by
    have h1 : (!decide (nv = (Int8.ofInt 12).toInt32)) = true := hq
    rw [Bool.not_eq_true', decide_eq_false_iff_not] at h1
    have : nv.toInt ≠ 12 := fun h => h1 (Int32.toInt_inj.mp (by rw [h, b_12]))
    omega
  refine ok_ic true rfl rfl hq ?_
  have i4n : (Int32.ofInt 4 * nv).toInt = ((4 * n : Nat) : Int) := by
    rw [i32_mul (by rw [i_4]; omega) (by rw [i_4]; omega), i_4]
    omega
  have i4n1 : (Int32.ofInt 4 * nv + Int32.ofInt 1).toInt = ((4 * n + 1 : Nat) : Int) := by
    rw [i32_add (by rw [i4n, i_1]; omega) (by rw [i4n, i_1]; omega), i4n, i_1]
    omega
  have i4n2 : (Int32.ofInt 4 * nv + Int32.ofInt 2).toInt = ((4 * n + 2 : Nat) : Int) := by
    rw [i32_add (by rw [i4n, i_2]; omega) (by rw [i4n, i_2]; omega), i4n, i_2]
    omega
  have i4n3 : (Int32.ofInt 4 * nv + Int32.ofInt 3).toInt = ((4 * n + 3 : Nat) : Int) := by
    rw [i32_add (by rw [i4n, i_3]; omega) (by rw [i4n, i_3]; omega), i4n, i_3]
    omega
  have go : ∀ y : Int32, (y = Int32.ofInt 0 ∨ y = Int32.ofInt 1) → b.toInt + 5 ≤ p.toInt → ok_ (tb_P X) 230 30 [(2, .inl (.inl y)), (0, .inr (.inl (some 190))), (1, .inl (.inl nv))] [] C K := by
    intro y hy hbp
    obtain ⟨d, us, a1, a2⟩ := hI_a hS.1 (show tb_G 201 = some (.inr (0, 48, 1, [.inl ((-2147483648), 2147483647)])) from rfl)
    have st : ∀ c : Int32, ok_ (tb_P X) 230 46 [(2, .inl (.inl y)), (0, .inr (.inl (some 190))), (1, .inl (.inl nv))] [.inl (.inl c), .inl (.inl (Int32.ofInt 4 * nv)), .inr (.inl (some 201))] C K := by
      intro c
      refine ok_as rfl a1 (ix_of i4n (by omega)) ?_
      have S2 := cd_st hS a1 (j := 4 * n) (Nat.le_refl _) (v := c)
      have N2 : ea_nt (C.set 201 (.inl (0, 48, d, (4 * n, .inl (.inl c)) :: us))) 190 = some (.inr (12, ms)) := by rw [nt_set_ne (by decide)]; exact m1
      have A2 := nt_set_self (c := Sum.inl (0, 48, d, (4 * n, Sum.inl (Sum.inl c)) :: us)) a1
      revert S2 N2 A2
      generalize C.set 201 (.inl (0, 48, d, (4 * n, .inl (.inl c)) :: us)) = C2
      intro S2 N2 A2
      obtain ⟨ms', m1', -, m3'⟩ := hI_f S2.1 (show tb_G 190 = some (.inl (12, _)) from rfl)
      rw [N2] at m1'
      cases m1'
      obtain ⟨_, r22, dp, rfl, d1, d2⟩ := m3' 22 (.inl (0, 6)) rfl
      refine ok_p rfl rfl rfl ?_
      refine ok_gf rfl rfl N2 r13 ?_
      refine ok_p rfl rfl rfl ?_
      refine ok_p rfl rfl rfl ?_
      refine ok_p rfl rfl rfl ?_
      refine ok_p rfl rfl rfl ?_
      refine ok_p rfl rfl rfl ?_
      refine ok_p rfl rfl rfl ?_
      refine ok_p rfl rfl rfl ?_
      refine ok_p rfl rfl rfl ?_
      refine ok_cx (c := trk_62) (show cx_ok (tb_P X) tb_G (rf_G 0) trk_62 from IH 62 (by decide) 0) (as := [.inl (.inl (Int32.ofInt 0)), .inl (.inl (Int8.ofInt 7).toInt32)]) (T := [.inl (.inl (Int32.ofInt 4 * nv + Int32.ofInt 1)), .inr (.inl (some 201))]) (EV := [p.toInt, s.toInt, dp.toInt]) rfl rfl N2 rfl rfl rfl ⟨rfl, ⟨_, rfl, by decide, by decide⟩, ⟨_, rfl, by decide, by decide⟩, trivial⟩ S2.1 ⟨⟨pv_f (a := 190) (by decide) N2 r19, p1, p2⟩, ⟨pv_f (a := 190) (by decide) N2 r25, s1, s2⟩, ⟨pv_f (a := 190) (by decide) N2 r22, d1, d2⟩, trivial⟩ (fun q hq => nomatch hq) (fun w C3 I3 F3 rv P3 => ?_)
      obtain ⟨v, rfl, v1, v2⟩ := rv
      have O3 : p.toInt ≤ rf_v C3 190 19 ∧ rf_v C3 190 25 = s.toInt := by
        by_cases hv : v.toInt < 0
        · have e : cx_po trk_62 (some (.inl (.inl v))) = trk_62.2.2.2.1 := if_pos hv
          rw [e] at P3
          have := lf_out (a := 0) P3 (.head _) (.tail _ (.head _)) (.tail _ (.tail _ (.head _))) (.tail _ (.tail _ (.tail _ (.head _)))) (.tail _ (.tail _ (.tail _ (.tail _ (.head _)))))
          omega
        · have e : cx_po trk_62 (some (.inl (.inl v))) = trk_62.2.2.2.2 := if_neg hv
          rw [e] at P3
          have := lf_out (a := 1) P3 (.head _) (.tail _ (.head _)) (.tail _ (.tail _ (.head _))) (.tail _ (.tail _ (.tail _ (.head _)))) (.tail _ (.tail _ (.tail _ (.tail _ (.head _)))))
          omega
      have S3 := cd_lf S2 I3 F3 (by rw [O3.2, rf_f N2 r25])
      have A3 : ea_nt C3 201 = some (.inl (0, 48, d, (4 * n, .inl (.inl c)) :: us)) := by rw [F3.1 201 rfl]; exact A2
      show ok_ (tb_P X) 230 63 _ [.inl (.inl v), .inl (.inl (Int32.ofInt 4 * nv + Int32.ofInt 1)), .inr (.inl (some 201))] C3 K
      clear A2 N2 m3' r22 P3 F3
      obtain ⟨ms3, n1, -, n3⟩ := hI_f I3 (show tb_G 190 = some (.inl (12, _)) from rfl)
      obtain ⟨_, q13, rfl⟩ := n3 13 (.inr 201) rfl
      obtain ⟨_, q25, s', rfl, -, -⟩ := n3 25 (.inl (0, 400)) rfl
      obtain ⟨_, q19, p', rfl, -, p2'⟩ := n3 19 (.inl (0, 400)) rfl
      rw [rf_f n1 q25, rf_f n1 q19] at O3
      obtain rfl : s' = s := Int32.toInt_inj.mp O3.2
      refine ok_as rfl A3 (ix_of i4n1 (by omega)) ?_
      have S4 := cd_st S3 A3 (j := 4 * n + 1) (by omega) (v := v)
      have N4 : ea_nt (C3.set 201 (.inl (0, 48, d, (4 * n + 1, .inl (.inl v)) :: (4 * n, .inl (.inl c)) :: us))) 190 = some (.inr (12, ms3)) := by rw [nt_set_ne (by decide)]; exact n1
      have A4 := nt_set_self (c := Sum.inl (0, 48, d, (4 * n + 1, Sum.inl (Sum.inl v)) :: (4 * n, Sum.inl (Sum.inl c)) :: us)) A3
      revert S4 N4 A4
      generalize C3.set 201 (.inl (0, 48, d, (4 * n + 1, .inl (.inl v)) :: (4 * n, .inl (.inl c)) :: us)) = C4
      intro S4 N4 A4
      refine ok_p rfl rfl rfl ?_
      refine ok_gf rfl rfl N4 q13 ?_
      refine ok_p rfl rfl rfl ?_
      refine ok_p rfl rfl rfl ?_
      refine ok_p rfl rfl rfl ?_
      refine ok_p rfl rfl rfl ?_
      refine ok_p rfl rfl rfl ?_
      refine ok_al rfl A4 (ix_of i4n1 (by omega)) el_top ?_
      cases hv : ea_ck .ge v 0 with
      | false =>
        refine ok_if false rfl rfl hv ?_
        refine ok_p rfl rfl rfl ?_
        exact ok_r rfl rfl rfl rfl rfl (h0 C4 S4.1 S4.2.1)
      | true =>
        refine ok_if true rfl rfl hv ?_
        refine ok_p rfl rfl rfl ?_
        refine ok_gf rfl rfl N4 q13 ?_
        refine ok_p rfl rfl rfl ?_
        refine ok_p rfl rfl rfl ?_
        refine ok_p rfl rfl rfl ?_
        refine ok_p rfl rfl rfl ?_
        refine ok_p rfl rfl rfl ?_
        refine ok_p rfl rfl rfl ?_
        refine ok_gf rfl rfl N4 q25 ?_
        refine ok_as rfl A4 (ix_of i4n2 (by omega)) ?_
        have S5 := cd_st S4 A4 (j := 4 * n + 2) (by omega) (v := s')
        have N5 : ea_nt (C4.set 201 (.inl (0, 48, d, (4 * n + 2, .inl (.inl s')) :: (4 * n + 1, .inl (.inl v)) :: (4 * n, .inl (.inl c)) :: us))) 190 = some (.inr (12, ms3)) := by rw [nt_set_ne (by decide)]; exact N4
        have V5 : rf_v (C4.set 201 (.inl (0, 48, d, (4 * n + 2, .inl (.inl s')) :: (4 * n + 1, .inl (.inl v)) :: (4 * n, .inl (.inl c)) :: us))) 201 (4 * n + 2) = s'.toInt := rf_v_self A4 (by omega)
        revert S5 N5 V5
        generalize C4.set 201 (.inl (0, 48, d, (4 * n + 2, .inl (.inl s')) :: (4 * n + 1, .inl (.inl v)) :: (4 * n, .inl (.inl c)) :: us)) = C5
        intro S5 N5 V5
        clear A4 N4 A3
        obtain ⟨ms5, k1, k2, k3⟩ := hI_f S5.1 (show tb_G 190 = some (.inl (12, _)) from rfl)
        rw [N5] at k1
        cases k1
        have hlen : ms3.length = 38 := k2
        obtain ⟨_, q22, dq, rfl, -, -⟩ := k3 22 (.inl (0, 6)) rfl
        refine ok_p rfl rfl rfl ?_
        refine ok_p rfl rfl rfl ?_
        refine ok_pf rfl rfl N5 rfl (by rw [hlen]; rfl) ?_
        have I6 := xI_sf S5.1 (show tb_G 190 = some (.inl (12, _)) from rfl) N5 (k := 22) (v := .inl (.inl (Int32.ofInt 0))) rfl ⟨_, rfl, by decide, by decide⟩
        have F6 : fr_c (rf_G 0) [(190, 191), (1005, 1006)] C5 (C5.set 190 (.inr (12, ms3.set 22 (.inl (.inl (Int32.ofInt 0)))))) := fr_f 0 N5 (by decide) (by decide)
        have S6 := cd_lf S5 I6 F6 (rf_fs N5 (by decide))
        have V6 : rf_v (C5.set 190 (.inr (12, ms3.set 22 (.inl (.inl (Int32.ofInt 0)))))) 201 (4 * n + 2) = s'.toInt := by rw [rf_v_eq (cv_eq (F6.1 201 rfl) _)]; exact V5
        have N6 := nt_set_self (c := Sum.inr (12, ms3.set 22 (.inl (.inl (Int32.ofInt 0))))) N5
        have t22 : ea_nt (ms3.set 22 (Sum.inl (Sum.inl (Int32.ofInt 0)))) 22 = some (.inl (.inl (Int32.ofInt 0))) := nt_set_self q22
        have t19 : ea_nt (ms3.set 22 (Sum.inl (Sum.inl (Int32.ofInt 0)))) 19 = some (.inl (.inl p')) := by rw [nt_set_ne (by decide)]; exact q19
        have t25 : ea_nt (ms3.set 22 (Sum.inl (Sum.inl (Int32.ofInt 0)))) 25 = some (.inl (.inl s')) := by rw [nt_set_ne (by decide)]; exact q25
        revert S6 V6 N6 t22 t19 t25
        generalize C5.set 190 (.inr (12, ms3.set 22 (.inl (.inl (Int32.ofInt 0))))) = C6
        generalize ms3.set 22 (Sum.inl (Sum.inl (Int32.ofInt 0))) = s6
        intro S6 V6 N6 t22 t19 t25
        clear F6 I6
        refine ok_p rfl rfl rfl ?_
        refine ok_ld (q := 11744405) rfl rfl (by decide) ?_
        refine ok_cx (c := pi_c) (pi_ok X 0 IH) (as := [.inr (.inr (.inr (.inr 11744406)))]) (T := []) (EV := [p'.toInt, s'.toInt, (Int32.ofInt 0).toInt]) rfl rfl N6 rfl rfl rfl ⟨rfl, rfl, trivial⟩ S6.1 ⟨⟨pv_f (a := 190) (by decide) N6 t19, by show (0 : Int) ≤ p'.toInt; omega, p2'⟩, ⟨pv_f (a := 190) (by decide) N6 t25, s1, s2⟩, ⟨pv_f (a := 190) (by decide) N6 t22, by decide, by decide⟩, trivial⟩ (fun q hq => nomatch hq) (fun w C7 I7 F7 rv P7 => ?_)
        obtain ⟨z, rfl, z1, z2⟩ := rv
        have O7 : p'.toInt ≤ rf_v C7 190 19 ∧ rf_v C7 190 25 = s'.toInt ∧ rf_v C7 190 22 = 0 := by
          by_cases hz : z.toInt < 1
          · have e : cx_po pi_c (some (.inl (.inl z))) = pi_c.2.2.2.1 := if_pos hz
            rw [e] at P7
            have := lf_out (a := 0) P7 (.head _) (.tail _ (.head _)) (.tail _ (.tail _ (.head _))) (.tail _ (.tail _ (.tail _ (.head _)))) (.tail _ (.tail _ (.tail _ (.tail _ (.head _)))))
            have := i_0
            omega
          · have e : cx_po pi_c (some (.inl (.inl z))) = pi_c.2.2.2.2 := if_neg hz
            rw [e] at P7
            have := lf_out (a := 1) P7 (.head _) (.tail _ (.head _)) (.tail _ (.tail _ (.head _))) (.tail _ (.tail _ (.tail _ (.head _)))) (.tail _ (.tail _ (.tail _ (.tail _ (.head _)))))
            have := i_0
            omega
        have S7 := cd_lf S6 I7 F7 (by rw [O7.2.1, rf_f N6 t25])
        have V7 : rf_v C7 201 (4 * n + 2) = s'.toInt := by rw [rf_v_eq (cv_eq (F7.1 201 rfl) _)]; exact V6
        show ok_ (tb_P X) 230 104 _ [.inl (.inl z)] C7 K
        clear F7 P7 N6 t22 t19 t25 V6 S6 V5 S5 S4 S3 S2 N5
        have fin : ∀ C8, xI tb_G C8 → fr_c (rf_G 0) cd_M C1 C8 → cd_I C8 n → rf_v C8 201 (4 * n + 2) = s'.toInt → 0 ≤ rf_ga s'.toInt.toNat C8 → rf_v C8 190 25 ≤ rf_v C8 190 19 → ok_ (tb_P X) 230 116 [(2, .inl (.inl y)), (0, .inr (.inl (some 190))), (1, .inl (.inl nv))] [] C8 K := by
          intro C8 I8 F8 J8 V8 G8 L8
          obtain ⟨ms8, w1, -, w3⟩ := hI_f I8 (show tb_G 190 = some (.inl (12, _)) from rfl)
          obtain ⟨_, u13, rfl⟩ := w3 13 (.inr 201) rfl
          obtain ⟨_, u25, t, rfl, t1, t2⟩ := w3 25 (.inl (0, 400)) rfl
          obtain ⟨d8, us8, a81, a82⟩ := hI_a I8 (show tb_G 201 = some (.inr (0, 48, 1, [.inl ((-2147483648), 2147483647)])) from rfl)
          have g8 := ga_some G8
          rw [rf_f w1 u25] at g8
          have S9 := cd_st (C1 := C1) (n := n) ⟨I8, F8, J8⟩ a81 (j := 4 * n + 3) (by omega) (v := t)
          have V9 : rf_v (C8.set 201 (.inl (0, 48, d8, (4 * n + 3, .inl (.inl t)) :: us8))) 201 (4 * n + 2) = s'.toInt := by
            rw [rf_v_set a81 (fun hc => by have := hc.2; omega)]
            exact V8
          have W9 : rf_v (C8.set 201 (.inl (0, 48, d8, (4 * n + 3, .inl (.inl t)) :: us8))) 201 (4 * n + 3) = t.toInt := rf_v_self a81 (by omega)
          have T9 : rf_v (C8.set 201 (.inl (0, 48, d8, (4 * n + 3, .inl (.inl t)) :: us8))) 190 25 = t.toInt := by
            rw [rf_v_set a81 (fun hc => by have := hc.1; omega)]
            exact rf_f w1 u25
          have L9 : rf_v (C8.set 201 (.inl (0, 48, d8, (4 * n + 3, .inl (.inl t)) :: us8))) 190 25 ≤ rf_v (C8.set 201 (.inl (0, 48, d8, (4 * n + 3, .inl (.inl t)) :: us8))) 190 19 := by
            rw [rf_v_set a81 (fun hc => by have := hc.1; omega), rf_v_set a81 (fun hc => by have := hc.1; omega)]
            exact L8
          have G9 : 0 ≤ rf_ga s'.toInt.toNat (C8.set 201 (.inl (0, 48, d8, (4 * n + 3, .inl (.inl t)) :: us8))) := by
            rw [ga_eq (C := C8) (fun j _ => rf_v_set a81 (fun hc => by have := hc.1; omega)) (rf_v_set a81 (fun hc => by have := hc.1; omega))]
            exact G8
          refine ok_p rfl rfl rfl ?_
          refine ok_gf rfl rfl w1 u13 ?_
          refine ok_p rfl rfl rfl ?_
          refine ok_p rfl rfl rfl ?_
          refine ok_p rfl rfl rfl ?_
          refine ok_p rfl rfl rfl ?_
          refine ok_p rfl rfl rfl ?_
          refine ok_p rfl rfl rfl ?_
          refine ok_gf rfl rfl w1 u25 ?_
          refine ok_as rfl a81 (ix_of i4n3 (by omega)) ?_
          refine ok_p rfl rfl rfl ?_
          refine ok_r rfl rfl rfl rfl rfl (h1 _ hn11 ⟨S9.1, S9.2.1, fun k hk => ?_⟩ L9)
          by_cases hkn : k = n
          · subst hkn
            refine ⟨s'.toInt.toNat, t.toInt.toNat - s'.toInt.toNat, ?_, ?_, ?_, G9⟩
            · rw [V9]; omega
            · rw [W9]; omega
            · rw [T9]; omega
          · exact S9.2.2 k (by omega)
        have hga : rf_ga s'.toInt.toNat C7 = 0 := ga_self (by rw [O7.2.1]; omega) (by omega)
        obtain ⟨ms7, e1, -, e3⟩ := hI_f I7 (show tb_G 190 = some (.inl (12, _)) from rfl)
        obtain ⟨_, f19, pp, rfl, pp1, pp2⟩ := e3 19 (.inl (0, 400)) rfl
        obtain ⟨_, f25, ss, rfl, ss1, ss2⟩ := e3 25 (.inl (0, 400)) rfl
        obtain ⟨_, f22, dd, rfl, dd1, dd2⟩ := e3 22 (.inl (0, 6)) rfl
        dsimp only at pp1 pp2 ss1 ss2 dd1 dd2
        rw [rf_f e1 f19, rf_f e1 f25, rf_f e1 f22] at O7
        rcases yes_no z1 z2 with rfl | rfl
        · refine ok_p rfl rfl rfl ?_
          exact fin C7 I7 S7.2.1 S7.2.2 V7 (by omega) (by rw [rf_f e1 f25, rf_f e1 f19]; omega)
        · refine ok_p rfl rfl rfl ?_
          refine ok_p rfl rfl rfl ?_
          refine ok_cv (mj := 229) (as := []) (T := []) rfl rfl e1 rfl rfl rfl ?_
          have all := ok_all (U := { u : Nat // 0 ≤ rf_ga u C7 }) ⟨s'.toInt.toNat, by omega⟩ (fun u => (show cx_ok (tb_P X) tb_G (rf_G u.1) trk_94 from IH 94 (by decide) u.1) [.inr (.inl (some 190))] C7 [pp.toInt, ss.toInt, dd.toInt, pp.toInt - ss.toInt, rf_ga u.1 C7] ⟨rfl, trivial⟩ I7 ⟨⟨pv_f (a := 190) (by decide) e1 f19, pp1, pp2⟩, ⟨pv_f (a := 190) (by decide) e1 f25, ss1, ss2⟩, ⟨pv_f (a := 190) (by decide) e1 f22, by show (0 : Int) ≤ dd.toInt; omega, by show dd.toInt ≤ (0 : Int); omega⟩, ⟨rp_lead (pv_f (a := 190) (by decide) e1 f19) (pv_f (a := 190) (by decide) e1 f25), by show (1 : Int) ≤ pp.toInt - ss.toInt; omega, by show pp.toInt - ss.toInt ≤ (400 : Int); omega⟩, ⟨show rf_G u.1 1004 C7 = rf_ga u.1 C7 from rfl, u.2, ga_le⟩, trivial⟩ (fun q hq => nomatch hq))
          refine ok_post all (fun o C8 hq => ?_)
          have hq0 := hq ⟨s'.toInt.toNat, by omega⟩
          obtain ⟨w, rfl, I8, F8, rv, P8⟩ := hq0
          obtain ⟨x, rfl, x1, x2⟩ := rv
          show ok_ (tb_P X) 230 111 _ [.inl (.inl x)] C8 K
          have F8' : fr_c (rf_G 0) [(190, 191), (202, 203), (1001, 1002), (1003, 1006)] C7 C8 := fr_u (by decide) F8
          have F8c : fr_c (rf_G 0) cd_M C1 C8 := fr_c_tr S7.2.1 (M' := [(190, 191), (202, 203), (1001, 1002), (1003, 1006)]) (by decide) F8'
          rcases yes_no x1 x2 with rfl | rfl
          · refine ok_p rfl rfl rfl ?_
            refine ok_p rfl rfl rfl ?_
            exact ok_r rfl rfl rfl rfl rfl (h0 C8 I8 F8c)
          · refine ok_p rfl rfl rfl ?_
            have key : ∀ u : Nat, 0 ≤ rf_ga u C7 → 0 ≤ rf_ga u C8 := by
              intro u hu
              obtain ⟨w, hw, -, -, -, Pu⟩ := hq ⟨u, hu⟩
              cases hw
              have e : cx_po trk_94 (some (.inl (.inl (Int32.ofInt 1)))) = trk_94.2.2.2.2 := rfl
              rw [e] at Pu
              obtain ⟨⟨NV, hNV⟩, -⟩ := Pu
              obtain ⟨_, N1, rfl, -, hn1⟩ := ea_rl_cons hNV
              obtain ⟨_, N2, rfl, -, hn2⟩ := ea_rl_cons hn1
              obtain ⟨_, N3, rfl, -, hn3⟩ := ea_rl_cons hn2
              obtain ⟨_, N4, rfl, -, hn4⟩ := ea_rl_cons hn3
              obtain ⟨zg, N5, rfl, ⟨zG, zg1, -⟩, -⟩ := ea_rl_cons hn4
              have zG' : rf_ga u C8 = zg := zG
              dsimp only at zg1
              omega
            have lead : rf_v C8 190 25 ≤ rf_v C8 190 19 := by
              have e : cx_po trk_94 (some (.inl (.inl (Int32.ofInt 1)))) = trk_94.2.2.2.2 := rfl
              rw [e] at P8
              obtain ⟨⟨NV, hNV⟩, -⟩ := P8
              obtain ⟨_, N1, rfl, -, hn1⟩ := ea_rl_cons hNV
              obtain ⟨_, N2, rfl, -, hn2⟩ := ea_rl_cons hn1
              obtain ⟨_, N3, rfl, -, hn3⟩ := ea_rl_cons hn2
              obtain ⟨zi, N4, rfl, ⟨zI, zi1, -⟩, -⟩ := ea_rl_cons hn3
              have zI' : rf_v C8 190 19 - rf_v C8 190 25 = zi := zI
              dsimp only at zi1
              omega
            refine fin C8 I8 F8c (fun k hk => ?_) (by rw [rf_v_eq (cv_eq (F8'.1 201 rfl) _)]; exact V7) (key _ (by omega)) lead
            obtain ⟨i, m, g1, g2, g3, g4⟩ := S7.2.2 k hk
            have hs8 := (ga_some (key s'.toInt.toNat (by omega))).1
            refine ⟨i, m, ?_, ?_, ?_, key i g4⟩
            · rw [rf_v_eq (cv_eq (F8'.1 201 rfl) _)]; exact g1
            · rw [rf_v_eq (cv_eq (F8'.1 201 rfl) _)]; exact g2
            · rw [rf_f e1 f25] at g3
              omega
    refine ok_p rfl rfl rfl ?_
    refine ok_gf rfl rfl m1 r13 ?_
    refine ok_p rfl rfl rfl ?_
    refine ok_p rfl rfl rfl ?_
    refine ok_p rfl rfl rfl ?_
    refine ok_p rfl rfl rfl ?_
    rcases hy with rfl | rfl
    · refine ok_p rfl rfl rfl ?_
      refine ok_p rfl rfl rfl ?_
      exact st _
    · refine ok_p rfl rfl rfl ?_
      refine ok_p rfl rfl rfl ?_
      refine ok_p rfl rfl rfl ?_
      exact st _
  have word : ∀ (c : CX) (q pc nn : Nat) (L : List (Nat × AV)), cx_ok (tb_P X) tb_G (rf_G 0) c → c.1.1 = 216 → c.1.2.1 = [.inr (.inl 190), .inr (.inr (q + 4))] → c.1.2.2.1 = [] → c.1.2.2.2.1 = (1, 0, 1) → c.1.2.2.2.2.2 = [(190, 19, 0, 400), (190, 21, 0, 400)] → c.2.1 = [] → c.2.2.1 = 1 → c.2.2.2.2 = ([], [(.inr (.inl 1), .inr (.inl 0), -(nn : Int))]) → 5 ≤ nn → ep_cod (tb_P X) 230 pc = some (.invokevirtual 169, 3) → (∀ y, y = Int32.ofInt 0 ∨ (y = Int32.ofInt 1 ∧ b.toInt + 5 ≤ p.toInt) → ok_ (tb_P X) 230 (pc + 3) L [.inl (.inl y)] C K) → ok_ (tb_P X) 230 pc L [.inr (.inr (.inr (.inr (q + 1)))), .inr (.inl (some 190))] C K := by
    intro c q pc nn L hcx e1 e2 e3 e4 e5 e6 e7 e8 hnn hc hy
    refine ok_cx hcx (as := [.inr (.inr (.inr (.inr (q + 1))))]) (T := []) (EV := [p.toInt, b.toInt]) hc (by rw [e1]; rfl) m1 (by rw [e1]; rfl) rfl (by rw [e1]; rfl) (by rw [e2]; exact ⟨rfl, rfl, trivial⟩) hS.1 (by rw [e5]; exact ⟨⟨pv_f (a := 190) (by decide) m1 r19, p1, p2⟩, ⟨pv_f (a := 190) (by decide) m1 r21, b1, b2⟩, trivial⟩) (by rw [e6]; exact fun q hq => nomatch hq) (fun w C2 I2 F2 rv P2 => ?_)
    rw [e3] at F2
    obtain rfl := nt_ext (fun b => F2.1 b rfl)
    rw [e4] at rv
    obtain ⟨y, rfl, y1, y2⟩ := rv
    show ok_ (tb_P X) 230 (pc + 3) L [.inl (.inl y)] C2 K
    rcases yes_no y1 y2 with rfl | rfl
    · exact hy _ (Or.inl rfl)
    · refine hy _ (Or.inr ⟨rfl, ?_⟩)
      have e : cx_po c (some (.inl (.inl (Int32.ofInt 1)))) = c.2.2.2.2 := by
        show (if (Int32.ofInt 1).toInt < c.2.2.1 then _ else _) = _
        rw [e7, if_neg (by decide)]
      rw [e, e8] at P2
      have := rl_z P2.2 (.head _) (z1 := b.toInt) (z2 := p.toInt) rfl rfl
      omega
  refine ok_p rfl rfl rfl ?_
  refine ok_ld (q := 52280337941016721) rfl rfl (by decide) ?_
  refine word trk_29 52280337941016721 11 6 _ (IH 29 (by decide) 0) rfl rfl rfl rfl rfl rfl rfl rfl (by decide) rfl (fun y hy => ?_)
  refine ok_p rfl rfl rfl ?_
  refine ok_p rfl rfl rfl ?_
  rcases hy with rfl | ⟨rfl, hbp⟩
  · refine ok_p rfl rfl rfl ?_
    refine ok_p rfl rfl rfl ?_
    refine ok_ld (q := 203627540166419) rfl rfl (by decide) ?_
    refine word trk_26 203627540166419 22 5 _ (IH 26 (by decide) 0) rfl rfl rfl rfl rfl rfl rfl rfl (by decide) rfl (fun y hy => ?_)
    rcases hy with rfl | ⟨rfl, hbp⟩
    · refine ok_p rfl rfl rfl ?_
      refine ok_p rfl rfl rfl ?_
      exact ok_r rfl rfl rfl rfl rfl (h0 C hS.1 hS.2.1)
    · refine ok_p rfl rfl rfl ?_
      exact go _ (Or.inl rfl) hbp
  · refine ok_p rfl rfl rfl ?_
    exact go _ (Or.inr rfl) hbp
end RC
end
