/-! THE CLASS BY HAND: Text.split -/
def tx_il : CX := ((85, [.inr (.inl 1), .inl ((-2147483648), 2147483647)], [], (1, 0, 1), [], []), [], 1, ([], []), ([], []))
def tx_pu : CX := ((89, [.inr (.inl 3), .inl ((-2147483648), 2147483647), .inl (0, 400), .inl ((-2147483648), 2147483647), .inl (0, 1000)], [(3, 8)], (0, 0, 0), [], []), [], 0, ([], []), ([], []))
def tx_ew : CX := ((90, [.inr (.inl 1), .inl (0, 399)], [], (1, 1, 400), [], []), [], 0, ([], []), ([], []))
def tx_ewh : List (Nat × HX) := [(4, ([(0, .inr (.inl 1)), (1, .inl (0, 399)), (2, .inl (1, 400))], [], [], 400, [(1, some (.inl 2))]))]
def tx_W : Nat := 63021502816913500094821647077860426288575505828352872431751190254872543940710353612704103794142872447020960573222899747923705051523171944367044331944129487877391232940799216069755921256384304944118173833723336490650189537168881845560507485002053379
def tx_wn : CX := ((93, [.inr (.inl 1), .inl (0, 399), .inl (1, 400)], [], (1, (-2147483648), 2147483647), [], []), [], 0, ([], []), ([], []))
def tx_wnh : List (Nat × HX) := [(11, ([(0, .inr (.inl 1)), (1, .inl (0, 399)), (2, .inl (1, 400)), (3, .inl ((-2147483648), 2147483647)), (4, .inl (0, 600)), (5, .inl (0, 1)), (6, .inl (0, 102))], [], [(.inl 4, .inl 6, 399)], 102, [(1, some (.inl 6))]))]
def tx_wc (m : Nat) : List CX := bif Nat.beq m 319 then [iw_l tx_W 102] else bif Nat.beq m 320 then [iw_c tx_W 102] else []
set_option maxRecDepth 100000 in
theorem tx_ck1 : cx_ck (tb_P none) tb_G tr_gs (fun _ => []) (fun _ _ => none) [] tx_il 400 = true := by decide +kernel
set_option maxRecDepth 100000 in
theorem tx_ck2 : cx_ck (tb_P none) tb_G tr_gs (fun _ => []) (fun _ _ => none) [] tx_pu 400 = true := by decide +kernel
set_option maxRecDepth 100000 in
theorem tx_ck3 : cx_ck (tb_P none) tb_G tr_gs (fun _ => []) (fun _ _ => none) tx_ewh tx_ew 400 = true := by decide +kernel
set_option maxRecDepth 100000 in
theorem tx_ck4 : (cx_ck (tb_P none) tb_G tr_gs (fun _ => []) (fun _ _ => none) [] (iw_l tx_W 102) 400 && (cx_ck (tb_P none) tb_G tr_gs (fun _ => []) (fun _ _ => none) [] (iw_c tx_W 102) 400 && cx_ck (tb_P none) tb_G tr_gs tx_wc (fun _ _ => none) tx_wnh tx_wn 400)) = true := by decide +kernel
section TXT
variable (X : Option (List AI))
theorem tx_il_ok : cx_ok (tb_P X) tb_G (rf_G 0) tx_il := cx_ck_ok tr_G9 (rf_gs 0) no_c no_m (hds := []) (n := 400) (by rw [cx_scr X]; exact tx_ck1)
theorem tx_pu_ok : cx_ok (tb_P X) tb_G (rf_G 0) tx_pu := cx_ck_ok tr_G9 (rf_gs 0) no_c no_m (hds := []) (n := 400) (by rw [cx_scr X]; exact tx_ck2)
theorem tx_ew_ok : cx_ok (tb_P X) tb_G (rf_G 0) tx_ew := cx_ck_ok tr_G9 (rf_gs 0) no_c no_m (hds := tx_ewh) (n := 400) (by rw [cx_scr X]; exact tx_ck3)
theorem tx_wn_ok : cx_ok (tb_P X) tb_G (rf_G 0) tx_wn := by
  have h := tx_ck4
  simp only [Bool.and_eq_true] at h
  refine cx_ck_ok tr_G9 (rf_gs 0) (fun mj c' hc' => ?_) no_m (hds := tx_wnh) (n := 400) (by rw [cx_scr X]; exact h.2.2)
  have hm : c' ∈ (bif Nat.beq mj 319 then [iw_l tx_W 102] else bif Nat.beq mj 320 then [iw_c tx_W 102] else []) := hc'
  cases b1 : Nat.beq mj 319 with
  | true =>
    rw [b1] at hm
    rcases List.mem_cons.mp hm with rfl | hm
    · exact ⟨(Nat.eq_of_beq_eq_true b1).symm, cx_ck_ok tr_G9 (rf_gs 0) no_c no_m (hds := []) (n := 400) (by rw [cx_scr X]; exact h.1)⟩
    · exact nomatch hm
  | false =>
    cases b2 : Nat.beq mj 320 with
    | true =>
      rw [b1, b2] at hm
      rcases List.mem_cons.mp hm with rfl | hm
      · exact ⟨(Nat.eq_of_beq_eq_true b2).symm, cx_ck_ok tr_G9 (rf_gs 0) no_c no_m (hds := []) (n := 400) (by rw [cx_scr X]; exact h.2.1)⟩
      · exact nomatch hm
    | false => rw [b1, b2] at hm; exact nomatch hm
def tx_d (C : List AC) (j : Nat) : Prop := 48 ≤ rf_v C 2 j ∧ rf_v C 2 j ≤ 57
variable {C : List AC} {K : Option AV ⊕ Nat → List AC → Prop}
theorem tx_byte (hI : xI tb_G C) {d : AV} {us : List (Nat × AV)} (hC : ea_nt C 2 = some (.inl (0, 400, d, us))) {j : Nat} (hj : j < 400) : ∃ w : Int32, ea_al d us j = .inl (.inl w) ∧ rf_v C 2 j = w.toInt ∧ 0 ≤ w.toInt ∧ w.toInt ≤ 255 := by
  obtain ⟨d', us', a1, a2⟩ := hI_a hI (show tb_G 2 = some (.inr (0, 400, 1, [.inl (0, 255)])) from rfl)
  rw [hC] at a1
  cases a1
  obtain ⟨f, f1, f2⟩ := el_get (by decide) (a2 j hj)
  rw [Nat.mod_one] at f1
  cases (show some (Sum.inl (0, 255)) = some f from f1)
  obtain ⟨w, w1, w2, w3⟩ := f2
  exact ⟨w, w1, rf_el hC hj w1, w2, w3⟩
theorem b_48 : ((Int8.ofInt 48).toInt32).toInt = 48 := by decide
theorem b_57 : ((Int8.ofInt 57).toInt32).toInt = 57 := by decide
set_option maxRecDepth 20000 in
theorem dig_run (hI : xI tb_G C) {a : Int32} (h0 : K (.inl (some (.inl (.inl (Int32.ofInt 0))))) C) (h1 : 0 ≤ a.toInt → a.toInt ≤ 399 → tx_d C a.toInt.toNat → K (.inl (some (.inl (.inl (Int32.ofInt 1))))) C) : ok_ (tb_P X) 86 0 (ea_ar 0 [.inr (.inl (some 1)), .inl (.inl a)]) [] C K := by
  obtain ⟨ts, m1, m2, m3⟩ := hI_f hI (show tb_G 1 = some (.inl (8, [.inr 2, .inl (0, 400)])) from rfl)
  obtain ⟨_, r0, rfl⟩ := m3 0 (.inr 2) rfl
  obtain ⟨_, r1, sz, rfl, s1, s2⟩ := m3 1 (.inl (0, 400)) rfl
  obtain ⟨d, us, a1, a2⟩ := hI_a hI (show tb_G 2 = some (.inr (0, 400, 1, [.inl (0, 255)])) from rfl)
  dsimp only at s1 s2
  have no : ok_ (tb_P X) 86 38 [(0, .inr (.inl (some 1))), (1, .inl (.inl a))] [] C K := by
    refine ok_p rfl rfl rfl ?_
    exact ok_r rfl rfl rfl rfl rfl h0
  refine ok_p rfl rfl rfl ?_
  cases hq : ea_ck .lt a 0 with
  | true =>
    refine ok_if true rfl rfl hq ?_
    exact no
  | false =>
    have e1 : ¬ a < 0 := of_decide_eq_false hq
    rw [Int32.lt_iff_toInt_lt, show (0 : Int32).toInt = 0 by decide] at e1
    refine ok_if false rfl rfl hq ?_
    refine ok_p rfl rfl rfl ?_
    refine ok_p rfl rfl rfl ?_
    refine ok_gf rfl rfl m1 r1 ?_
    cases hr : ea_ck .ge a sz with
    | true =>
      refine ok_ic true rfl rfl hr ?_
      exact no
    | false =>
      have e2 : ¬ sz ≤ a := of_decide_eq_false hr
      rw [Int32.le_iff_toInt_le] at e2
      refine ok_ic false rfl rfl hr ?_
      have hx : a.toInt = ((a.toInt.toNat : Nat) : Int) := by omega
      obtain ⟨w, w1, w2, w3, w4⟩ := tx_byte hI a1 (j := a.toInt.toNat) (by omega)
      refine ok_p rfl rfl rfl ?_
      refine ok_gf rfl rfl m1 r0 ?_
      refine ok_p rfl rfl rfl ?_
      refine ok_al rfl a1 (ix_of hx (by omega)) w1 ?_
      refine ok_p rfl rfl rfl ?_
      cases hs : ea_ck .lt w (Int8.ofInt 48).toInt32 with
      | true =>
        refine ok_ic true rfl rfl hs ?_
        exact no
      | false =>
        have e3 : ¬ w < (Int8.ofInt 48).toInt32 := of_decide_eq_false hs
        rw [Int32.lt_iff_toInt_lt, b_48] at e3
        refine ok_ic false rfl rfl hs ?_
        refine ok_p rfl rfl rfl ?_
        refine ok_gf rfl rfl m1 r0 ?_
        refine ok_p rfl rfl rfl ?_
        refine ok_al rfl a1 (ix_of hx (by omega)) w1 ?_
        refine ok_p rfl rfl rfl ?_
        cases ht : ea_ck .gt w (Int8.ofInt 57).toInt32 with
        | true =>
          refine ok_ic true rfl rfl ht ?_
          exact no
        | false =>
          have e4 : ¬ (Int8.ofInt 57).toInt32 < w := of_decide_eq_false ht
          rw [Int32.lt_iff_toInt_lt, b_57] at e4
          refine ok_ic false rfl rfl ht ?_
          refine ok_p rfl rfl rfl ?_
          refine ok_p rfl rfl rfl ?_
          exact ok_r rfl rfl rfl rfl rfl (h1 (by omega) (by omega) ⟨by rw [w2]; omega, by rw [w2]; omega⟩)
set_option maxRecDepth 20000 in
theorem eon_loop (hI : xI tb_G C) {f : Int32} (f1 : 0 ≤ f.toInt) (h : ∀ t : Int32, f.toInt < t.toInt → t.toInt ≤ 400 → (∀ j : Nat, f.toInt ≤ (j : Int) → (j : Int) < t.toInt → tx_d C j) → K (.inl (some (.inl (.inl t)))) C) : ∀ (r : Nat) (t : Int32), (r : Int) + t.toInt = 400 → f.toInt < t.toInt → (∀ j : Nat, f.toInt ≤ (j : Int) → (j : Int) < t.toInt → tx_d C j) → ok_ (tb_P X) 91 4 [(2, .inl (.inl t)), (0, .inr (.inl (some 1))), (1, .inl (.inl f))] [] C K := by
  obtain ⟨ts, m1, m2, m3⟩ := hI_f hI (show tb_G 1 = some (.inl (8, [.inr 2, .inl (0, 400)])) from rfl)
  obtain ⟨_, r1, sz, rfl, s1, s2⟩ := m3 1 (.inl (0, 400)) rfl
  dsimp only at s1 s2
  intro r
  induction r with
  | zero =>
    intro t hr hlt hd
    refine ok_p rfl rfl rfl ?_
    refine ok_p rfl rfl rfl ?_
    refine ok_gf rfl rfl m1 r1 ?_
    have hq : ea_ck .ge t sz = true := by
      show decide (sz ≤ t) = true
      rw [decide_eq_true_eq, Int32.le_iff_toInt_le]
      omega
    refine ok_ic true rfl rfl hq ?_
    refine ok_p rfl rfl rfl ?_
    exact ok_r rfl rfl rfl rfl rfl (h t hlt (by omega) hd)
  | succ r IH =>
    intro t hr hlt hd
    refine ok_p rfl rfl rfl ?_
    refine ok_p rfl rfl rfl ?_
    refine ok_gf rfl rfl m1 r1 ?_
    cases hq : ea_ck .ge t sz with
    | true =>
      refine ok_ic true rfl rfl hq ?_
      refine ok_p rfl rfl rfl ?_
      exact ok_r rfl rfl rfl rfl rfl (h t hlt (by omega) hd)
    | false =>
      refine ok_ic false rfl rfl hq ?_
      refine ok_p rfl rfl rfl ?_
      refine ok_p rfl rfl rfl ?_
      refine ok_cv (mj := 86) (as := [.inl (.inl t)]) (T := []) rfl rfl m1 rfl rfl rfl ?_
      refine dig_run X hI ?_ (fun a1 a2 a3 => ?_)
      · show ok_ (tb_P X) 91 17 _ [.inl (.inl (Int32.ofInt 0))] C _
        refine ok_p rfl rfl rfl ?_
        refine ok_p rfl rfl rfl ?_
        exact ok_r rfl rfl rfl rfl rfl (h t hlt (by omega) hd)
      · show ok_ (tb_P X) 91 17 _ [.inl (.inl (Int32.ofInt 1))] C _
        have t1 : (t + Int32.ofInt 1).toInt = t.toInt + 1 := by rw [i32_add (by rw [i_1]; omega) (by rw [i_1]; omega), i_1]
        refine ok_p rfl rfl rfl ?_
        refine ok_p rfl rfl rfl ?_
        refine ok_p rfl rfl rfl ?_
        refine IH (t + Int32.ofInt 1) (by rw [t1]; omega) (by rw [t1]; omega) (fun j j1 j2 => ?_)
        by_cases hj : (j : Int) = t.toInt
        · have : t.toInt.toNat = j := by omega
          rw [this] at a3
          exact a3
        · exact hd j j1 (by omega)
theorem eon_run (hI : xI tb_G C) {f : Int32} (f1 : 0 ≤ f.toInt) (f2 : f.toInt ≤ 399) (hf : tx_d C f.toInt.toNat) (h : ∀ t : Int32, f.toInt < t.toInt → t.toInt ≤ 400 → (∀ j : Nat, f.toInt ≤ (j : Int) → (j : Int) < t.toInt → tx_d C j) → K (.inl (some (.inl (.inl t)))) C) : ok_ (tb_P X) 91 0 (ea_ar 0 [.inr (.inl (some 1)), .inl (.inl f)]) [] C K := by
  have t1 : (f + Int32.ofInt 1).toInt = f.toInt + 1 := by rw [i32_add (by rw [i_1]; omega) (by rw [i_1]; omega), i_1]
  refine ok_p rfl rfl rfl ?_
  refine ok_p rfl rfl rfl ?_
  refine ok_p rfl rfl rfl ?_
  refine ok_p rfl rfl rfl ?_
  refine eon_loop X hI f1 h (399 - f.toInt.toNat) (f + Int32.ofInt 1) (by rw [t1]; omega) (by rw [t1]; omega) (fun j j1 j2 => ?_)
  rw [t1] at j2
  have : f.toInt.toNat = j := by omega
  rw [this] at hf
  exact hf
theorem s_1000 : ((Int16.ofInt 1000).toInt32).toInt = 1000 := by decide
theorem b_10 : ((Int8.ofInt 10).toInt32).toInt = 10 := by decide
/-- ten to that many digits -/
def tx_p (n : Nat) : Int := match n with
  | 0 => 1
  | 1 => 10
  | 2 => 100
  | _ => 1000
set_option maxRecDepth 20000 in
set_option maxHeartbeats 1000000 in
theorem vo_loop (hI : xI tb_G C) {f t : Int32} (f1 : 0 ≤ f.toInt) (t2 : t.toInt ≤ 400) (hd : ∀ j : Nat, f.toInt ≤ (j : Int) → (j : Int) < t.toInt → tx_d C j) (h : ∀ v : Int32, 0 ≤ v.toInt → v.toInt ≤ 1000 → K (.inl (some (.inl (.inl v)))) C) : ∀ (r n : Nat) (i v : Int32), i.toInt = f.toInt + n → (r : Int) + i.toInt = t.toInt → n + r ≤ 3 → 0 ≤ v.toInt → v.toInt < tx_p n → ok_ (tb_P X) 92 16 [(4, .inl (.inl i)), (3, .inl (.inl v)), (0, .inr (.inl (some 1))), (1, .inl (.inl f)), (2, .inl (.inl t))] [] C K := by
  obtain ⟨ts, m1, m2, m3⟩ := hI_f hI (show tb_G 1 = some (.inl (8, [.inr 2, .inl (0, 400)])) from rfl)
  obtain ⟨_, r0, rfl⟩ := m3 0 (.inr 2) rfl
  obtain ⟨d, us, a1, a2⟩ := hI_a hI (show tb_G 2 = some (.inr (0, 400, 1, [.inl (0, 255)])) from rfl)
  intro r
  induction r with
  | zero =>
    intro n i v hi hr hn v1 v2
    refine ok_p rfl rfl rfl ?_
    refine ok_p rfl rfl rfl ?_
    have hq : ea_ck .ge i t = true := by
      show decide (t ≤ i) = true
      rw [decide_eq_true_eq, Int32.le_iff_toInt_le]
      omega
    refine ok_ic true rfl rfl hq ?_
    refine ok_p rfl rfl rfl ?_
    refine ok_r rfl rfl rfl rfl rfl (h v v1 ?_)
    have : tx_p n ≤ 1000 := by
      match n with
      | 0 => decide
      | 1 => decide
      | 2 => decide
      | _ + 3 => exact Int.le_refl _
    omega
  | succ r IH =>
    intro n i v hi hr hn v1 v2
    have hq : ea_ck .ge i t = false := by
      show decide (t ≤ i) = false
      rw [decide_eq_false_iff_not, Int32.le_iff_toInt_le]
      omega
    have hx : i.toInt = ((i.toInt.toNat : Nat) : Int) := by omega
    obtain ⟨w, w1, w2, -, -⟩ := tx_byte hI a1 (j := i.toInt.toNat) (by omega)
    have hw := hd i.toInt.toNat (by omega) (by omega)
    unfold tx_d at hw
    rw [w2] at hw
    have hp : tx_p (n + 1) = 10 * tx_p n ∧ tx_p n ≤ 100 := by
      match n, hn with
      | 0, _ => exact ⟨rfl, by decide⟩
      | 1, _ => exact ⟨rfl, by decide⟩
      | 2, _ => exact ⟨rfl, by decide⟩
      | _ + 3, hn => omega
    have e1 : (v * (Int8.ofInt 10).toInt32).toInt = 10 * v.toInt := by
      rw [i32_mul (by rw [b_10]; omega) (by rw [b_10]; omega), b_10]
      omega
    have e2 : (v * (Int8.ofInt 10).toInt32 + w).toInt = 10 * v.toInt + w.toInt := by rw [i32_add (by rw [e1]; omega) (by rw [e1]; omega), e1]
    have e3 : (v * (Int8.ofInt 10).toInt32 + w - (Int8.ofInt 48).toInt32).toInt = 10 * v.toInt + w.toInt - 48 := by rw [i32_sub (by rw [e2, b_48]; omega) (by rw [e2, b_48]; omega), e2, b_48]
    have ii : (i + Int32.ofInt 1).toInt = i.toInt + 1 := by rw [i32_add (by rw [i_1]; omega) (by rw [i_1]; omega), i_1]
    refine ok_p rfl rfl rfl ?_
    refine ok_p rfl rfl rfl ?_
    refine ok_ic false rfl rfl hq ?_
    refine ok_p rfl rfl rfl ?_
    refine ok_p rfl rfl rfl ?_
    refine ok_p rfl rfl rfl ?_
    refine ok_p rfl rfl rfl ?_
    refine ok_gf rfl rfl m1 r0 ?_
    refine ok_p rfl rfl rfl ?_
    refine ok_al rfl a1 (ix_of hx (by omega)) w1 ?_
    refine ok_p rfl rfl rfl ?_
    refine ok_p rfl rfl rfl ?_
    refine ok_p rfl rfl rfl ?_
    refine ok_p rfl rfl rfl ?_
    refine ok_p rfl rfl rfl ?_
    refine ok_p rfl rfl rfl ?_
    exact IH (n + 1) (i + Int32.ofInt 1) (v * (Int8.ofInt 10).toInt32 + w - (Int8.ofInt 48).toInt32) (by rw [ii]; omega) (by rw [ii]; omega) (by omega) (by rw [e3]; omega) (by rw [e3, hp.1]; omega)
set_option maxRecDepth 20000 in
theorem vo_run (hI : xI tb_G C) {f t : Int32} (f1 : 0 ≤ f.toInt) (ft : f.toInt < t.toInt) (t2 : t.toInt ≤ 400) (hd : ∀ j : Nat, f.toInt ≤ (j : Int) → (j : Int) < t.toInt → tx_d C j) (h : ∀ v : Int32, 0 ≤ v.toInt → v.toInt ≤ 1000 → K (.inl (some (.inl (.inl v)))) C) : ok_ (tb_P X) 92 0 (ea_ar 0 [.inr (.inl (some 1)), .inl (.inl f), .inl (.inl t)]) [] C K := by
  have e1 : (t - f).toInt = t.toInt - f.toInt := i32_sub (by omega) (by omega)
  refine ok_p rfl rfl rfl ?_
  refine ok_p rfl rfl rfl ?_
  refine ok_p rfl rfl rfl ?_
  refine ok_p rfl rfl rfl ?_
  cases hq : ea_ck .le (t - f) (Int32.ofInt 3) with
  | false =>
    refine ok_ic false rfl rfl hq ?_
    refine ok_p rfl rfl rfl ?_
    exact ok_r rfl rfl rfl rfl rfl (h _ (by decide) (by decide))
  | true =>
    have e2 : t - f ≤ Int32.ofInt 3 := of_decide_eq_true hq
    rw [Int32.le_iff_toInt_le, e1, i_3] at e2
    refine ok_ic true rfl rfl hq ?_
    refine ok_p rfl rfl rfl ?_
    refine ok_p rfl rfl rfl ?_
    refine ok_p rfl rfl rfl ?_
    refine ok_p rfl rfl rfl ?_
    exact vo_loop X hI f1 t2 hd h (t.toInt - f.toInt).toNat 0 f (Int32.ofInt 0) (by omega) (by omega) (by omega) (by decide) (by decide)
end TXT
section SPL
variable (X : Option (List AI)) {C : List AC} {K : Option AV ⊕ Nat → List AC → Prop}
def sp_I (C C' : List AC) : Prop := xI tb_G C' ∧ ∀ b, xm [(3, 8)] b = false → ea_nt C' b = ea_nt C b
set_option maxRecDepth 20000 in
set_option maxHeartbeats 4000000 in
theorem spl_loop (hK : ∀ C', sp_I C C' → K (.inl none) C') : ∀ (r : Nat) (i : Int32) (C' : List AC), (r : Int) + i.toInt = 400 → 0 ≤ i.toInt → sp_I C C' → ∀ cl, ea_lk cl 0 = some (.inr (.inl (some 3))) → ea_lk cl 1 = some (.inr (.inl (some 1))) → ea_lk cl 2 = some (.inl (.inl i)) → ok_ (tb_P X) 88 12 cl [] C' K := by
  have last : ∀ C', sp_I C C' → ∀ cl, ea_lk cl 0 = some (.inr (.inl (some 3))) → ea_lk cl 1 = some (.inr (.inl (some 1))) → ok_ (tb_P X) 88 138 cl [] C' K := by
    intro C' hS cl l0 l1
    obtain ⟨ts, m1, m2, m3⟩ := hI_f hS.1 (show tb_G 1 = some (.inl (8, [.inr 2, .inl (0, 400)])) from rfl)
    obtain ⟨xs, x1, -, -⟩ := hI_f hS.1 (show tb_G 3 = some (.inl (9, _)) from rfl)
    obtain ⟨_, r1, sz, rfl, s1, s2⟩ := m3 1 (.inl (0, 400)) rfl
    refine ok_an rfl l0 rfl ?_
    refine ok_p rfl rfl rfl ?_
    refine ok_an rfl l1 rfl ?_
    refine ok_gf rfl rfl m1 r1 ?_
    refine ok_an rfl l1 rfl ?_
    refine ok_gf rfl rfl m1 r1 ?_
    refine ok_p rfl rfl rfl ?_
    refine ok_cx (c := tx_pu) (tx_pu_ok X) (as := [.inl (.inl (Int8.ofInt 21).toInt32), .inl (.inl sz), .inl (.inl sz), .inl (.inl (Int32.ofInt 0))]) (T := []) (EV := []) rfl rfl x1 rfl rfl rfl ⟨rfl, ⟨_, rfl, by decide, by decide⟩, ⟨_, rfl, s1, s2⟩, ⟨_, rfl, Int32.le_toInt sz, Int.le_of_lt_add_one (Int32.toInt_lt sz)⟩, ⟨_, rfl, by decide, by decide⟩, trivial⟩ hS.1 trivial (fun q hq => nomatch hq) (fun w C2 I2 F2 rv P2 => ?_)
    obtain rfl : w = none := rv
    exact ok_r rfl rfl rfl rfl rfl (hK C2 ⟨I2, fun b hb => by rw [F2.1 b hb, hS.2 b hb]⟩)
  intro r
  induction r with
  | zero =>
    intro i C' hr hi hS cl l0 l1 l2
    obtain ⟨ts, m1, m2, m3⟩ := hI_f hS.1 (show tb_G 1 = some (.inl (8, [.inr 2, .inl (0, 400)])) from rfl)
    obtain ⟨_, r1, sz, rfl, s1, s2⟩ := m3 1 (.inl (0, 400)) rfl
    dsimp only at s1 s2
    refine ok_in rfl l2 ?_
    refine ok_an rfl l1 rfl ?_
    refine ok_gf rfl rfl m1 r1 ?_
    have hq : ea_ck .ge i sz = true := by
      show decide (sz ≤ i) = true
      rw [decide_eq_true_eq, Int32.le_iff_toInt_le]
      omega
    refine ok_ic true rfl rfl hq ?_
    exact last C' hS cl l0 l1
  | succ r IH =>
    intro i C' hr hi hS cl l0 l1 l2
    obtain ⟨ts, m1, m2, m3⟩ := hI_f hS.1 (show tb_G 1 = some (.inl (8, [.inr 2, .inl (0, 400)])) from rfl)
    obtain ⟨xs, x1, -, -⟩ := hI_f hS.1 (show tb_G 3 = some (.inl (9, _)) from rfl)
    obtain ⟨_, r0, rfl⟩ := m3 0 (.inr 2) rfl
    obtain ⟨_, r1, sz, rfl, s1, s2⟩ := m3 1 (.inl (0, 400)) rfl
    obtain ⟨d, us, a1, a2⟩ := hI_a hS.1 (show tb_G 2 = some (.inr (0, 400, 1, [.inl (0, 255)])) from rfl)
    dsimp only at s1 s2
    refine ok_in rfl l2 ?_
    refine ok_an rfl l1 rfl ?_
    refine ok_gf rfl rfl m1 r1 ?_
    cases hq : ea_ck .ge i sz with
    | true =>
      refine ok_ic true rfl rfl hq ?_
      exact last C' hS cl l0 l1
    | false =>
      have e1 : ¬ sz ≤ i := of_decide_eq_false hq
      rw [Int32.le_iff_toInt_le] at e1
      refine ok_ic false rfl rfl hq ?_
      have ii : (i + Int32.ofInt 1).toInt = i.toInt + 1 := by rw [i32_add (by rw [i_1]; omega) (by rw [i_1]; omega), i_1]
      have next : ∀ C2, sp_I C C2 → ∀ cl, ea_lk cl 0 = some (.inr (.inl (some 3))) → ea_lk cl 1 = some (.inr (.inl (some 1))) → ea_lk cl 2 = some (.inl (.inl i)) → ok_ (tb_P X) 88 132 cl [] C2 K := by
        intro C2 hS2 cl l0 l1 l2
        refine ok_ii rfl (show 2 < 4 by decide) l2 ?_
        refine ok_p rfl rfl rfl ?_
        exact IH (i + Int32.ofInt 1) C2 (by rw [ii]; omega) (by rw [ii]; omega) hS2 _ (lk_s1_n1 l0 rfl (by decide)) (lk_s1_n1 l1 rfl (by decide)) (lk_s1 _ _ _)
      -- a letter
      refine ok_an rfl l1 rfl ?_
      refine ok_in rfl l2 ?_
      refine ok_cx (c := tx_il) (tx_il_ok X) (as := [.inl (.inl i)]) (T := []) (EV := []) rfl rfl m1 rfl rfl rfl ⟨rfl, ⟨_, rfl, Int32.le_toInt i, Int.le_of_lt_add_one (Int32.toInt_lt i)⟩, trivial⟩ hS.1 trivial (fun q hq => nomatch hq) (fun w C2 I2 F2 rv P2 => ?_)
      obtain rfl := nt_ext (fun b => F2.1 b rfl)
      obtain ⟨y, rfl, y1, y2⟩ := rv
      show ok_ (tb_P X) 88 25 _ [.inl (.inl y)] C2 K
      rcases yes_no y1 y2 with rfl | rfl
      · refine ok_p rfl rfl rfl ?_
        -- a digit
        refine ok_an rfl l1 rfl ?_
        refine ok_in rfl l2 ?_
        refine ok_cv (mj := 86) (as := [.inl (.inl i)]) (T := []) rfl rfl m1 rfl rfl rfl ?_
        refine dig_run X hS.1 ?_ (fun d1 d2 d3 => ?_)
        · show ok_ (tb_P X) 88 65 _ [.inl (.inl (Int32.ofInt 0))] C2 K
          refine ok_p rfl rfl rfl ?_
          have hx : i.toInt = ((i.toInt.toNat : Nat) : Int) := by omega
          obtain ⟨w, w1, w2, w3, w4⟩ := tx_byte hS.1 a1 (j := i.toInt.toNat) (by omega)
          refine ok_an rfl l1 rfl ?_
          refine ok_gf rfl rfl m1 r0 ?_
          refine ok_in rfl l2 ?_
          refine ok_al rfl a1 (ix_of hx (by omega)) w1 ?_
          refine ok_p rfl rfl rfl ?_
          cases hb : ea_ck .eq w (Int8.ofInt 32).toInt32 with
          | true =>
            refine ok_ic true rfl rfl hb ?_
            exact next C2 hS cl l0 l1 l2
          | false =>
            refine ok_ic false rfl rfl hb ?_
            refine ok_an rfl l0 rfl ?_
            refine ok_an rfl l1 rfl ?_
            refine ok_gf rfl rfl m1 r0 ?_
            refine ok_in rfl l2 ?_
            refine ok_al rfl a1 (ix_of hx (by omega)) w1 ?_
            refine ok_p rfl rfl rfl ?_
            refine ok_mm (T := [.inl (.inl (if w < (Int8.ofInt 22).toInt32 then (Int8.ofInt 22).toInt32 else w)), .inr (.inl (some 3))]) rfl rfl rfl ?_
            refine ok_in rfl l2 ?_
            refine ok_in rfl l2 ?_
            refine ok_p rfl rfl rfl ?_
            refine ok_p rfl rfl rfl ?_
            refine ok_p rfl rfl rfl ?_
            refine ok_cx (c := tx_pu) (tx_pu_ok X) (as := [.inl (.inl (if w < (Int8.ofInt 22).toInt32 then (Int8.ofInt 22).toInt32 else w)), .inl (.inl i), .inl (.inl (i + Int32.ofInt 1)), .inl (.inl (Int32.ofInt 0))]) (T := []) (EV := []) rfl rfl x1 rfl rfl rfl ⟨rfl, ⟨_, rfl, Int32.le_toInt _, Int.le_of_lt_add_one (Int32.toInt_lt _)⟩, ⟨_, rfl, hi, by show i.toInt ≤ (400 : Int); omega⟩, ⟨_, rfl, Int32.le_toInt _, Int.le_of_lt_add_one (Int32.toInt_lt _)⟩, ⟨_, rfl, by decide, by decide⟩, trivial⟩ hS.1 trivial (fun q hq => nomatch hq) (fun w C3 I3 F3 rv P3 => ?_)
            obtain rfl : w = none := rv
            exact next C3 ⟨I3, fun b hb => by rw [F3.1 b hb, hS.2 b hb]⟩ cl l0 l1 l2
        · show ok_ (tb_P X) 88 65 _ [.inl (.inl (Int32.ofInt 1))] C2 K
          refine ok_p rfl rfl rfl ?_
          refine ok_an rfl l1 rfl ?_
          refine ok_in rfl l2 ?_
          refine ok_p rfl rfl rfl ?_
          refine ok_p rfl rfl rfl ?_
          refine ok_cv (mj := 86) (as := [.inl (.inl (i - Int32.ofInt 1))]) (T := []) rfl rfl m1 rfl rfl rfl ?_
          refine dig_run X hS.1 ?_ (fun _ _ _ => ?_)
          · show ok_ (tb_P X) 88 75 _ [.inl (.inl (Int32.ofInt 0))] C2 K
            refine ok_p rfl rfl rfl ?_
            refine ok_an rfl l1 rfl ?_
            refine ok_in rfl l2 ?_
            refine ok_cs (as := [.inr (.inl (some 1)), .inl (.inl i)]) (T := []) rfl rfl rfl rfl ?_
            refine eon_run X hS.1 hi (by omega) d3 (fun t t1 t2 t3 => ?_)
            show ok_ (tb_P X) 88 83 _ [.inl (.inl t)] C2 K
            refine ok_p rfl rfl rfl ?_
            have k0 := lk_s1_n1 (i := 3) (a := .inl (.inl t)) l0 rfl (by decide)
            have k1 := lk_s1_n1 (i := 3) (a := .inl (.inl t)) l1 rfl (by decide)
            have k2 := lk_s1_n1 (i := 3) (a := .inl (.inl t)) l2 rfl (by decide)
            have k3 := lk_s1 cl 3 (.inl (.inl t))
            show ok_ (tb_P X) 88 84 (ea_s1 cl 3 (.inl (.inl t))) [] C2 K
            revert k0 k1 k2 k3
            generalize ea_s1 cl 3 (.inl (.inl t)) = cl3
            intro k0 k1 k2 k3
            refine ok_an rfl k0 rfl ?_
            refine ok_p rfl rfl rfl ?_
            refine ok_in rfl k2 ?_
            refine ok_in rfl k3 ?_
            refine ok_an rfl k1 rfl ?_
            refine ok_in rfl k2 ?_
            refine ok_in rfl k3 ?_
            refine ok_cs (as := [.inr (.inl (some 1)), .inl (.inl i), .inl (.inl t)]) (T := [.inl (.inl t), .inl (.inl i), .inl (.inl (Int8.ofInt 20).toInt32), .inr (.inl (some 3))]) rfl rfl rfl rfl ?_
            refine vo_run X hS.1 hi t1 t2 t3 (fun v v1 v2 => ?_)
            show ok_ (tb_P X) 88 95 _ [.inl (.inl v), .inl (.inl t), .inl (.inl i), .inl (.inl (Int8.ofInt 20).toInt32), .inr (.inl (some 3))] C2 K
            refine ok_cx (c := tx_pu) (tx_pu_ok X) (as := [.inl (.inl (Int8.ofInt 20).toInt32), .inl (.inl i), .inl (.inl t), .inl (.inl v)]) (T := []) (EV := []) rfl rfl x1 rfl rfl rfl ⟨rfl, ⟨_, rfl, Int32.le_toInt _, Int.le_of_lt_add_one (Int32.toInt_lt _)⟩, ⟨_, rfl, hi, by show i.toInt ≤ (400 : Int); omega⟩, ⟨_, rfl, Int32.le_toInt _, Int.le_of_lt_add_one (Int32.toInt_lt _)⟩, ⟨_, rfl, v1, v2⟩, trivial⟩ hS.1 trivial (fun q hq => nomatch hq) (fun w C3 I3 F3 rv P3 => ?_)
            obtain rfl : w = none := rv
            show ok_ (tb_P X) 88 98 _ [] C3 K
            refine ok_p rfl rfl rfl ?_
            exact next C3 ⟨I3, fun b hb => by rw [F3.1 b hb, hS.2 b hb]⟩ _ k0 k1 k2
          · show ok_ (tb_P X) 88 75 _ [.inl (.inl (Int32.ofInt 1))] C2 K
            refine ok_p rfl rfl rfl ?_
            exact next C2 hS cl l0 l1 l2
      · refine ok_p rfl rfl rfl ?_
        refine ok_an rfl l1 rfl ?_
        refine ok_in rfl l2 ?_
        refine ok_p rfl rfl rfl ?_
        refine ok_p rfl rfl rfl ?_
        refine ok_cx (c := tx_il) (tx_il_ok X) (as := [.inl (.inl (i - Int32.ofInt 1))]) (T := []) (EV := []) rfl rfl m1 rfl rfl rfl ⟨rfl, ⟨_, rfl, Int32.le_toInt _, Int.le_of_lt_add_one (Int32.toInt_lt _)⟩, trivial⟩ hS.1 trivial (fun q hq => nomatch hq) (fun w C3 I3 F3 rv P3 => ?_)
        obtain rfl := nt_ext (fun b => F3.1 b rfl)
        obtain ⟨y, rfl, y1, y2⟩ := rv
        show ok_ (tb_P X) 88 35 _ [.inl (.inl y)] C3 K
        rcases yes_no y1 y2 with rfl | rfl
        · refine ok_p rfl rfl rfl ?_
          refine ok_an rfl l1 rfl ?_
          refine ok_in rfl l2 ?_
          refine ok_cxs (c := tx_ew) (tx_ew_ok X) (as := [.inr (.inl (some 1)), .inl (.inl i)]) (T := []) (EV := []) rfl rfl rfl rfl ⟨rfl, ⟨_, rfl, hi, by show i.toInt ≤ (399 : Int); omega⟩, trivial⟩ hS.1 trivial (fun q hq => nomatch hq) (fun w C4 I4 F4 rv P4 => ?_)
          obtain rfl := nt_ext (fun b => F4.1 b rfl)
          obtain ⟨t, rfl, t1, t2⟩ := rv
          show ok_ (tb_P X) 88 43 _ [.inl (.inl t)] C4 K
          refine ok_p rfl rfl rfl ?_
          have k0 := lk_s1_n1 (i := 3) (a := .inl (.inl t)) l0 rfl (by decide)
          have k1 := lk_s1_n1 (i := 3) (a := .inl (.inl t)) l1 rfl (by decide)
          have k2 := lk_s1_n1 (i := 3) (a := .inl (.inl t)) l2 rfl (by decide)
          have k3 := lk_s1 cl 3 (.inl (.inl t))
          show ok_ (tb_P X) 88 44 (ea_s1 cl 3 (.inl (.inl t))) [] C4 K
          revert k0 k1 k2 k3
          generalize ea_s1 cl 3 (.inl (.inl t)) = cl3
          intro k0 k1 k2 k3
          refine ok_an rfl k0 rfl ?_
          refine ok_an rfl k1 rfl ?_
          refine ok_in rfl k2 ?_
          refine ok_in rfl k3 ?_
          refine ok_cxs (c := tx_wn) (tx_wn_ok X) (as := [.inr (.inl (some 1)), .inl (.inl i), .inl (.inl t)]) (T := [.inr (.inl (some 3))]) (EV := []) rfl rfl rfl rfl ⟨rfl, ⟨_, rfl, hi, by show i.toInt ≤ (399 : Int); omega⟩, ⟨_, rfl, t1, t2⟩, trivial⟩ hS.1 trivial (fun q hq => nomatch hq) (fun w C5 I5 F5 rv P5 => ?_)
          obtain rfl := nt_ext (fun b => F5.1 b rfl)
          obtain ⟨kd, rfl, -, -⟩ := rv
          show ok_ (tb_P X) 88 51 _ [.inl (.inl kd), .inr (.inl (some 3))] C5 K
          refine ok_in rfl k2 ?_
          refine ok_in rfl k3 ?_
          refine ok_p rfl rfl rfl ?_
          refine ok_cx (c := tx_pu) (tx_pu_ok X) (as := [.inl (.inl kd), .inl (.inl i), .inl (.inl t), .inl (.inl (Int32.ofInt 0))]) (T := []) (EV := []) rfl rfl x1 rfl rfl rfl ⟨rfl, ⟨_, rfl, Int32.le_toInt _, Int.le_of_lt_add_one (Int32.toInt_lt _)⟩, ⟨_, rfl, hi, by show i.toInt ≤ (400 : Int); omega⟩, ⟨_, rfl, Int32.le_toInt _, Int.le_of_lt_add_one (Int32.toInt_lt _)⟩, ⟨_, rfl, by decide, by decide⟩, trivial⟩ hS.1 trivial (fun q hq => nomatch hq) (fun w C6 I6 F6 rv P6 => ?_)
          obtain rfl : w = none := rv
          show ok_ (tb_P X) 88 57 _ [] C6 K
          refine ok_p rfl rfl rfl ?_
          exact next C6 ⟨I6, fun b hb => by rw [F6.1 b hb, hS.2 b hb]⟩ _ k0 k1 k2
        · refine ok_p rfl rfl rfl ?_
          exact next C3 hS cl l0 l1 l2
end SPL
set_option maxRecDepth 20000 in
set_option maxHeartbeats 1000000 in
/-- Text.split -/
theorem tk_h123 (X : Option (List AI)) : cn_ok (tb_P X) tb_G tk_123 := by
  intro vs C hvs hI _
  obtain ⟨v0, t0, rfl, h0, hvs1⟩ := ea_rl_cons hvs
  obtain ⟨v1, t1, rfl, h1, hvs2⟩ := ea_rl_cons hvs1
  obtain rfl := ea_rl_nil hvs2
  obtain rfl : v0 = .inr (.inl (some 3)) := h0
  obtain rfl : v1 = .inr (.inl (some 1)) := h1
  obtain ⟨xs, x1, x2, -⟩ := hI_f hI (show tb_G 3 = some (.inl (9, _)) from rfl)
  have hlen : xs.length = 6 := x2
  refine ok_p rfl rfl rfl ?_
  refine ok_p rfl rfl rfl ?_
  refine ok_pf (v := .inl (.inl (Int32.ofInt 0))) rfl rfl x1 rfl (by rw [hlen]; rfl) ?_
  have I1 := xI_sf hI (show tb_G 3 = some (.inl (9, _)) from rfl) x1 (k := 4) (v := .inl (.inl (Int32.ofInt 0))) rfl ⟨_, rfl, by decide, by decide⟩
  have N1 := nt_set_self (c := Sum.inr (9, xs.set 4 (.inl (.inl (Int32.ofInt 0))))) x1
  have L1 : (xs.set 4 (Sum.inl (Sum.inl (Int32.ofInt 0)))).length = 6 := by rw [nt_len_set]; exact hlen
  have F1 : ∀ b, xm [(3, 8)] b = false → ea_nt (C.set 3 (.inr (9, xs.set 4 (.inl (.inl (Int32.ofInt 0)))))) b = ea_nt C b := fun b hb => nt_set_ne (by rintro rfl; exact absurd hb (by decide))
  revert I1 N1 L1 F1
  generalize C.set 3 (.inr (9, xs.set 4 (.inl (.inl (Int32.ofInt 0))))) = C1
  generalize xs.set 4 (Sum.inl (Sum.inl (Int32.ofInt 0))) = ys
  intro I1 N1 L1 F1
  refine ok_p rfl rfl rfl ?_
  refine ok_p rfl rfl rfl ?_
  refine ok_pf (v := .inl (.inl (Int32.ofInt 0))) rfl rfl N1 rfl (by rw [L1]; rfl) ?_
  have I2 := xI_sf I1 (show tb_G 3 = some (.inl (9, _)) from rfl) N1 (k := 5) (v := .inl (.inl (Int32.ofInt 0))) rfl ⟨_, rfl, by decide, by decide⟩
  have F2 : ∀ b, xm [(3, 8)] b = false → ea_nt (C1.set 3 (.inr (9, ys.set 5 (.inl (.inl (Int32.ofInt 0)))))) b = ea_nt C b := fun b hb => by rw [nt_set_ne (by rintro rfl; exact absurd hb (by decide))]; exact F1 b hb
  revert I2 F2
  generalize C1.set 3 (.inr (9, ys.set 5 (.inl (.inl (Int32.ofInt 0))))) = C2
  intro I2 F2
  refine ok_p rfl rfl rfl ?_
  refine ok_p rfl rfl rfl ?_
  exact spl_loop X (C := C) (fun C' hS => ⟨hS.1, hS.2, rfl⟩) 400 (Int32.ofInt 0) C2 (by decide) (by decide) ⟨I2, F2⟩ _ rfl rfl rfl
/-- every contract of the class holds -/
theorem tk_yes (X : Option (List AI)) : ∀ r, r < 199 → cn_ok (tb_P X) tb_G (tk_at r) := tk_ok X (fun r hr => by
  obtain rfl := List.mem_singleton.mp (show r ∈ [123] from hr)
  exact tk_h123 X)
