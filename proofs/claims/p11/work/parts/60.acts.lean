/-! CONTRACTS BY HAND: acts remembered and undone -/
section OKS4
variable {P : EP} {m pc : Nat} {L : List (Nat × AV)} {S : List AV} {C : List AC} {K : Option AV ⊕ Nat → List AC → Prop}
/-- a static method -/
theorem ok_cs {x mj n : Nat} {as T : List AV} (hc : ep_cod P m pc = some (.invokestatic x, 3)) (hp : ep_pl P m x = some (1, mj, n)) (hn : as.length = n) (hd : (Nat.blt (ep_dep P mj) (ep_dep P m) && (Nat.ble (ea_wt T) 8 && Nat.ble (ea_wt as) (ep_nls P mj))) = true) (h : ok_ P mj 0 (ea_ar 0 as) [] C (ok_back P m pc L T true K)) : ok_ P m pc L (as.reverse ++ T) C K := by
  refine ok_call (r := some (1, mj, n)) (mj := mj) (as := as) (T := T) (b := true) hc (by simp only [ok_iv, hp, ea_mm, ea_is9, cond_false]) ?_ hd h
  have h1 : (as.reverse ++ T).drop n = T := by rw [List.drop_append_of_le_length (by rw [List.length_reverse, hn]; exact Nat.le_refl _), ← hn, ← List.length_reverse, List.drop_length]; rfl
  have h2 : (as.reverse ++ T).take n = as.reverse := by rw [List.take_append_of_le_length (by rw [List.length_reverse, hn]; exact Nat.le_refl _), ← hn, ← List.length_reverse, List.take_length]
  have h3 : Nat.ble n (as.reverse ++ T).length = true := Nat.ble_eq_true_of_le (by rw [List.length_append, List.length_reverse, hn]; omega)
  simp only [ea_cl, h1, h2, h3, cond_true, List.reverse_reverse]
theorem ok_cxs {G : Nat → Option CT} {GF : GH} {c : CX} (hcx : cx_ok P G GF c) {x n : Nat} {as T : List AV} {EV : List Int} (hc : ep_cod P m pc = some (.invokestatic x, 3)) (hp : ep_pl P m x = some (1, c.1.1, n)) (hn : as.length = n) (hd : (Nat.blt (ep_dep P c.1.1) (ep_dep P m) && (Nat.ble (ea_wt T) 8 && Nat.ble (ea_wt as) (ep_nls P c.1.1))) = true) (hv : ea_rl at_g c.1.2.1 as) (hI : xI G C) (hE : pb_g GF C c.1.2.2.2.2.2 EV) (hR : rl_g GF (ea_ar 0 as) EV C c.2.1) (h : ∀ v C', xI G C' → fr_c GF c.1.2.2.1 C C' → rt_g c.1.2.2.2.1 v → po_g GF (cx_po c v) v EV C' → ok_ P m (pc + 3) L (v.toList ++ T) C' K) : ok_ P m pc L (as.reverse ++ T) C K := by
  refine ok_cs hc hp hn hd (ok_post (hcx _ C EV hv hI hE hR) (fun o C' hq => ?_))
  obtain ⟨v, rfl, o1, o2, o3, o4⟩ := hq
  exact h v C' o1 o2 o3 o4
end OKS4
def ls_c (a b : Nat) (lo hi lo' hi' : Int) : CX := ((192, [.inr (.inl a), .inl (lo, hi), .inr (.inl b), .inl (lo', hi')], [(b, b + 1)], (0, 0, 0), [], []), [], 0, ([], []), ([], []))
def ls_h (a b : Nat) (lo hi lo' hi' : Int) : List (Nat × HX) := [(3, ([(0, .inr (.inl a)), (1, .inl (lo, hi)), (2, .inr (.inl b)), (3, .inl (lo', hi')), (4, .inl (0, 10))], [], [], 10, [(1, some (.inl 4))]))]
set_option maxRecDepth 100000 in
theorem ls_ck1 : cx_ck (tb_P none) tb_G tr_gs (fun _ => []) (fun _ _ => none) (ls_h 200 200 10 90 0 80) (ls_c 200 200 10 90 0 80) 400 = true := by decide +kernel
set_option maxRecDepth 100000 in
theorem ls_ck2 : cx_ck (tb_P none) tb_G tr_gs (fun _ => []) (fun _ _ => none) (ls_h 196 200 0 0 0 90) (ls_c 196 200 0 0 0 90) 400 = true := by decide +kernel
set_option maxRecDepth 100000 in
theorem ls_ck3 : cx_ck (tb_P none) tb_G tr_gs (fun _ => []) (fun _ _ => none) (ls_h 200 196 0 90 0 0) (ls_c 200 196 0 90 0 0) 400 = true := by decide +kernel
theorem ls_ok1 (X : Option (List AI)) (u : Nat) : cx_ok (tb_P X) tb_G (rf_G u) (ls_c 200 200 10 90 0 80) := cx_ck_ok tr_G9 (rf_gs u) no_c no_m (hds := ls_h 200 200 10 90 0 80) (n := 400) (by rw [cx_scr X]; exact ls_ck1)
theorem ls_ok2 (X : Option (List AI)) (u : Nat) : cx_ok (tb_P X) tb_G (rf_G u) (ls_c 196 200 0 0 0 90) := cx_ck_ok tr_G9 (rf_gs u) no_c no_m (hds := ls_h 196 200 0 0 0 90) (n := 400) (by rw [cx_scr X]; exact ls_ck2)
theorem ls_ok3 (X : Option (List AI)) (u : Nat) : cx_ok (tb_P X) tb_G (rf_G u) (ls_c 200 196 0 90 0 0) := cx_ck_ok tr_G9 (rf_gs u) no_c no_m (hds := ls_h 200 196 0 90 0 0) (n := 400) (by rw [cx_scr X]; exact ls_ck3)
theorem lk_out {C C' : List AC} {b nb av bv k : Nat} {da db : AV} {usa usb : List (Nat × AV)} (h : lk_I C b nb av bv da db usa usb k C') (hb : ea_nt C b = some (.inl (0, nb, db, usb))) {j : Nat} (hj : j < nb) (ho : ¬ (bv ≤ j ∧ j < bv + k)) : rf_v C' b j = rf_v C b j := by
  obtain ⟨-, -, us', u1, u2⟩ := h
  refine rf_v_eq ?_
  unfold cv
  rw [u1, hb]
  dsimp only
  rw [u2 j hj, if_neg ho]
theorem lk_in {C C' : List AC} {b nb av bv : Nat} {da db : AV} {usa usb : List (Nat × AV)} (h : lk_I C b nb av bv da db usa usb 388 C') {a na : Nat} (ha : ea_nt C a = some (.inl (0, na, da, usa))) (la : av + 388 ≤ na) (lb : bv + 388 ≤ nb) {j : Nat} (hj : j < 388) : rf_v C' b (bv + j) = rf_v C a (av + j) := by
  have := lk_cv h ha la lb hj
  unfold rf_v
  rw [this]
/-- a row copied into the acts -/
theorem lk_W195 {C C' : List AC} {a na av tb : Nat} {da db : AV} {usa usb : List (Nat × AV)} (h : lk_I C 195 3880 av (388 * tb) da db usa usb 388 C') (ha : ea_nt C a = some (.inl (0, na, da, usa))) (la : av + 388 ≤ na) (htb : tb < 10) (hb : ea_nt C 195 = some (.inl (0, 3880, db, usb))) (hW : rf_W C) (hrow : rf_row (fun j => rf_v C a (av + j))) : rf_W C' := by
  refine ⟨lk_same h (by decide) hW.1, lk_same h (by decide) hW.2.1, lk_same h (by decide) hW.2.2.1, lk_same h (by decide) hW.2.2.2.1, fun t ht => ?_⟩
  by_cases e : t = tb
  · subst e
    exact (rf_row_eq (f := fun k => rf_v C' 195 (388 * t + k)) (g := fun k => rf_v C a (av + k)) (lk_in h ha la (by omega) (by decide)) (fun c hc => lk_in h ha la (by omega) (by omega))).mpr hrow
  · exact (rf_row_eq (f := fun k => rf_v C' 195 (388 * t + k)) (g := fun k => rf_v C 195 (388 * t + k)) (lk_out h hb (by omega) (by omega)) (fun c hc => lk_out h hb (by omega) (by omega))).mpr (hW.2.2.2.2 t ht)
theorem rf_W_of {u : Nat} {C C' : List AC} (h : rf_G u 999 C' = rf_G u 999 C) (hW : rf_W C) : rf_W C' := rf_b_of (p := rf_W C') (by
  have h1 : rf_G u 999 C' = rf_b (rf_W C') := rfl
  have h2 : rf_G u 999 C = rf_b (rf_W C) := rfl
  have h3 := rf_b_1 hW
  omega)
theorem i16_388 : ((Int16.ofInt 388).toInt32).toInt = 388 := by decide
theorem i8_10 : ((Int8.ofInt 10).toInt32).toInt = 10 := by decide
theorem i_1 : (Int32.ofInt 1).toInt = 1 := by decide
def rm_M : List (Nat × Nat) := [(190, 191), (195, 196), (200, 201), (999, 1000)]
section RM
variable (X : Option (List AI)) (u : Nat) {C : List AC} {zJ : Int}
def rm_S (u : Nat) (C C' : List AC) : Prop := xI tb_G C' ∧ fr_c (rf_G u) rm_M C C' ∧ rf_W C'
set_option maxRecDepth 20000 in
set_option maxHeartbeats 1000000 in
theorem rm_tail {K : Option AV ⊕ Nat → List AC → Prop} (hK : ∀ C', rm_S u C C' → K (.inl none) C') (C' : List AC) (hS : rm_S u C C') (x : Int32) : ok_ (tb_P X) 195 67 [(1, .inl (.inl x)), (0, .inr (.inl (some 190)))] [] C' K := by
  obtain ⟨I', F', W'⟩ := hS
  obtain ⟨ms, m1, m2, m3⟩ := hI_f I' (show tb_G 190 = some (.inl (12, _)) from rfl)
  have hlen : ms.length = 38 := m2
  obtain ⟨_, r12, y, rfl, y1, y2⟩ := m3 12 (.inl (0, 10)) rfl
  dsimp only at y1 y2
  obtain ⟨v, hv, v1, v2⟩ : ∃ v : Int32, (if (y + Int32.ofInt 1) < (Int8.ofInt 10).toInt32 then (y + Int32.ofInt 1) else (Int8.ofInt 10).toInt32) = v ∧ 1 ≤ v.toInt ∧ v.toInt ≤ 10 := by
    refine ⟨_, rfl, ?_, ?_⟩
    · split
      · rw [i32_add (by rw [i_1]; omega) (by rw [i_1]; omega), i_1]
        omega
      · decide
    · split
      · rename_i h
        rw [Int32.lt_iff_toInt_lt, i8_10] at h
        omega
      · decide
  refine ok_p rfl rfl rfl ?_
  refine ok_p rfl rfl rfl ?_
  refine ok_p rfl rfl rfl ?_
  refine ok_gf rfl rfl m1 r12 ?_
  refine ok_p rfl rfl rfl ?_
  refine ok_p rfl rfl rfl ?_
  refine ok_mm (T := [.inl (.inl v), .inr (.inl (some 190))]) rfl ?_ rfl ?_
  · rw [← hv]
    rfl
  refine ok_pf rfl rfl m1 rfl (by rw [hlen]; rfl) ?_
  have I1 := xI_sf I' (show tb_G 190 = some (.inl (12, _)) from rfl) m1 (k := 12) (v := .inl (.inl v)) rfl ⟨_, rfl, by show (0 : Int) ≤ v.toInt; omega, v2⟩
  have f1 : fr_c (rf_G u) [(190, 191)] C' (C'.set 190 (.inr (12, ms.set 12 (.inl (.inl v))))) := fr_f u m1 (by decide) (by decide)
  have F1 := fr_c_tr F' (M' := [(190, 191)]) (by decide) f1
  have W1 := rf_W_of (f1.2 999 (by decide) (by decide)) W'
  have N1 := nt_set_self (c := Sum.inr (12, ms.set 12 (.inl (.inl v)))) m1
  have q12 : ea_nt (ms.set 12 (Sum.inl (Sum.inl v))) 12 = some (.inl (.inl v)) := nt_set_self r12
  revert I1 F1 W1 N1 q12
  generalize C'.set 190 (.inr (12, ms.set 12 (.inl (.inl v)))) = C1
  generalize ms.set 12 (Sum.inl (Sum.inl v)) = s1
  intro I1 F1 W1 N1 q12
  clear f1
  obtain ⟨s1', n1', -, n3⟩ := hI_f I1 (show tb_G 190 = some (.inl (12, _)) from rfl)
  rw [N1] at n1'
  cases n1'
  obtain ⟨_, q1, rfl⟩ := n3 1 (.inr 191) rfl
  obtain ⟨_, q5, rfl⟩ := n3 5 (.inr 195) rfl
  obtain ⟨_, q6, rfl⟩ := n3 6 (.inr 196) rfl
  obtain ⟨_, q10, rfl⟩ := n3 10 (.inr 200) rfl
  obtain ⟨da, usa, a1, a2⟩ := hI_a I1 (show tb_G 191 = some (.inr (0, 388, 388, tg_row)) from rfl)
  obtain ⟨db, usb, b1, b2⟩ := hI_a I1 (show tb_G 195 = some (.inr (0, 3880, 388, tg_row)) from rfl)
  have hs : (v - Int32.ofInt 1).toInt = v.toInt - 1 := by rw [i32_sub (by rw [i_1]; omega) (by rw [i_1]; omega), i_1]
  have hbe : ((Int16.ofInt 388).toInt32 * (v - Int32.ofInt 1)).toInt = ((388 * (v.toInt.toNat - 1) : Nat) : Int) := by
    rw [i32_mul (by rw [i16_388, hs]; omega) (by rw [i16_388, hs]; omega), i16_388, hs]
    omega
  have hbs : ((Int8.ofInt 10).toInt32 * (v - Int32.ofInt 1)).toInt = 10 * (v.toInt - 1) := by
    rw [i32_mul (by rw [i8_10, hs]; omega) (by rw [i8_10, hs]; omega), i8_10, hs]
  refine ok_p rfl rfl rfl ?_
  refine ok_gf rfl rfl N1 q1 ?_
  refine ok_p rfl rfl rfl ?_
  refine ok_p rfl rfl rfl ?_
  refine ok_gf rfl rfl N1 q5 ?_
  refine ok_p rfl rfl rfl ?_
  refine ok_p rfl rfl rfl ?_
  refine ok_gf rfl rfl N1 q12 ?_
  refine ok_p rfl rfl rfl ?_
  refine ok_p rfl rfl rfl ?_
  refine ok_p rfl rfl rfl ?_
  refine ok_cs (as := [.inr (.inl (some 191)), .inl (.inl (Int32.ofInt 0)), .inr (.inl (some 195)), .inl (.inl ((Int16.ofInt 388).toInt32 * (v - Int32.ofInt 1)))]) (T := []) rfl rfl rfl rfl ?_
  refine lk_run X I1 a1 rfl b1 rfl (av := 0) (bv := 388 * (v.toInt.toNat - 1)) (by decide) hbe (by decide) (by omega) (by decide) (by omega) (by decide) (by decide) (Or.inl (by decide)) (fun C2 h => ?_)
  show ok_ (tb_P X) 195 104 _ [] C2 _
  have W2 := lk_W195 h a1 (by decide) (by omega) b1 W1 (by simpa only [Nat.zero_add] using W1.1)
  have F2 := fr_c_same F1 (lk_fr u h (by decide) (by decide))
  have N2 := h.2.1 190 (by decide)
  rw [N1] at N2
  refine ok_p rfl rfl rfl ?_
  refine ok_gf rfl rfl N2 q6 ?_
  refine ok_p rfl rfl rfl ?_
  refine ok_p rfl rfl rfl ?_
  refine ok_gf rfl rfl N2 q10 ?_
  refine ok_p rfl rfl rfl ?_
  refine ok_p rfl rfl rfl ?_
  refine ok_gf rfl rfl N2 q12 ?_
  refine ok_p rfl rfl rfl ?_
  refine ok_p rfl rfl rfl ?_
  refine ok_p rfl rfl rfl ?_
  refine ok_cxs (c := ls_c 196 200 0 0 0 90) (ls_ok2 X u) (as := [.inr (.inl (some 196)), .inl (.inl (Int32.ofInt 0)), .inr (.inl (some 200)), .inl (.inl ((Int8.ofInt 10).toInt32 * (v - Int32.ofInt 1)))]) (T := []) (EV := []) rfl rfl rfl rfl ⟨rfl, ⟨_, rfl, by decide, by decide⟩, rfl, ⟨_, rfl, by show (0 : Int) ≤ Int32.toInt _; rw [hbs]; omega, by show Int32.toInt _ ≤ (90 : Int); rw [hbs]; omega⟩, trivial⟩ h.1 trivial (fun q hq => nomatch hq) (fun w C3 I3 F3 rv P3 => ?_)
  obtain rfl : w = none := rv
  refine ok_r rfl rfl rfl rfl rfl (hK C3 ⟨I3, fr_c_tr F2 (M' := [(200, 201)]) (by decide) F3, rf_W_of (F3.2 999 (by decide) (by decide)) W2⟩)
set_option maxRecDepth 20000 in
set_option maxHeartbeats 1000000 in
theorem rm_loop {K : Option AV ⊕ Nat → List AC → Prop} (hK : ∀ C', rm_S u C C' → K (.inl none) C') : ∀ (r k : Nat) (x : Int32) (C' : List AC), r + k = 10 → 1 ≤ k → x.toInt = (k : Int) → rm_S u C C' → ok_ (tb_P X) 195 2 [(1, .inl (.inl x)), (0, .inr (.inl (some 190)))] [] C' K := by
  intro r
  induction r with
  | zero =>
    intro k x C' hk h1 hx hS
    refine ok_p rfl rfl rfl ?_
    refine ok_p rfl rfl rfl ?_
    refine ok_ic true rfl rfl ?_ (rm_tail X u hK C' hS x)
    show decide ((Int8.ofInt 10).toInt32 ≤ x) = true
    rw [decide_eq_true_eq, Int32.le_iff_toInt_le, i8_10]
    omega
  | succ r IH =>
    intro k x C' hk h1 hx hS
    have hS' := hS
    obtain ⟨I', F', W'⟩ := hS
    obtain ⟨ms, m1, m2, m3⟩ := hI_f I' (show tb_G 190 = some (.inl (12, _)) from rfl)
    obtain ⟨_, r12, y, rfl, y1, y2⟩ := m3 12 (.inl (0, 10)) rfl
    obtain ⟨_, r5, rfl⟩ := m3 5 (.inr 195) rfl
    obtain ⟨_, r10, rfl⟩ := m3 10 (.inr 200) rfl
    obtain ⟨db, usb, b1, b2⟩ := hI_a I' (show tb_G 195 = some (.inr (0, 3880, 388, tg_row)) from rfl)
    refine ok_p rfl rfl rfl ?_
    refine ok_p rfl rfl rfl ?_
    refine ok_ic false rfl rfl ?_ ?_
    · show decide ((Int8.ofInt 10).toInt32 ≤ x) = false
      rw [decide_eq_false_iff_not, Int32.le_iff_toInt_le, i8_10]
      omega
    refine ok_p rfl rfl rfl ?_
    refine ok_gf rfl rfl m1 r12 ?_
    refine ok_p rfl rfl rfl ?_
    cases hq : ea_ck .ne y (Int8.ofInt 10).toInt32 with
    | true => exact ok_ic true rfl rfl hq (rm_tail X u hK C' hS' x)
    | false =>
      refine ok_ic false rfl rfl hq ?_
      have hs : (x - Int32.ofInt 1).toInt = x.toInt - 1 := by rw [i32_sub (by rw [i_1]; omega) (by rw [i_1]; omega), i_1]
      have hal : ((Int16.ofInt 388).toInt32 * x).toInt = ((388 * k : Nat) : Int) := by
        rw [i32_mul (by rw [i16_388]; omega) (by rw [i16_388]; omega), i16_388]
        omega
      have hbe : ((Int16.ofInt 388).toInt32 * (x - Int32.ofInt 1)).toInt = ((388 * (k - 1) : Nat) : Int) := by
        rw [i32_mul (by rw [i16_388, hs]; omega) (by rw [i16_388, hs]; omega), i16_388, hs]
        omega
      have hls : ((Int8.ofInt 10).toInt32 * x).toInt = 10 * x.toInt := by
        rw [i32_mul (by rw [i8_10]; omega) (by rw [i8_10]; omega), i8_10]
      have hbs : ((Int8.ofInt 10).toInt32 * (x - Int32.ofInt 1)).toInt = 10 * (x.toInt - 1) := by
        rw [i32_mul (by rw [i8_10, hs]; omega) (by rw [i8_10, hs]; omega), i8_10, hs]
      have ix3 : (x + Int32.ofInt 1).toInt = ((k + 1 : Nat) : Int) := by
        rw [i32_add (by rw [i_1]; omega) (by rw [i_1]; omega), i_1]
        omega
      refine ok_p rfl rfl rfl ?_
      refine ok_gf rfl rfl m1 r5 ?_
      refine ok_p rfl rfl rfl ?_
      refine ok_p rfl rfl rfl ?_
      refine ok_p rfl rfl rfl ?_
      refine ok_p rfl rfl rfl ?_
      refine ok_gf rfl rfl m1 r5 ?_
      refine ok_p rfl rfl rfl ?_
      refine ok_p rfl rfl rfl ?_
      refine ok_p rfl rfl rfl ?_
      refine ok_p rfl rfl rfl ?_
      refine ok_p rfl rfl rfl ?_
      refine ok_cs (as := [.inr (.inl (some 195)), .inl (.inl ((Int16.ofInt 388).toInt32 * x)), .inr (.inl (some 195)), .inl (.inl ((Int16.ofInt 388).toInt32 * (x - Int32.ofInt 1)))]) (T := []) rfl rfl rfl rfl ?_
      refine lk_run X I' b1 rfl b1 rfl (av := 388 * k) (bv := 388 * (k - 1)) hal hbe (by omega) (by omega) (by omega) (by omega) (by decide) (by decide) (Or.inr (Or.inr (by omega))) (fun C2 h => ?_)
      show ok_ (tb_P X) 195 40 _ [] C2 _
      have W2 := lk_W195 h b1 (by omega) (by omega) b1 W' (W'.2.2.2.2 k (by omega))
      have F2 := fr_c_same F' (lk_fr u h (by decide) (by decide))
      have N2 := h.2.1 190 (by decide)
      rw [m1] at N2
      refine ok_p rfl rfl rfl ?_
      refine ok_gf rfl rfl N2 r10 ?_
      refine ok_p rfl rfl rfl ?_
      refine ok_p rfl rfl rfl ?_
      refine ok_p rfl rfl rfl ?_
      refine ok_p rfl rfl rfl ?_
      refine ok_gf rfl rfl N2 r10 ?_
      refine ok_p rfl rfl rfl ?_
      refine ok_p rfl rfl rfl ?_
      refine ok_p rfl rfl rfl ?_
      refine ok_p rfl rfl rfl ?_
      refine ok_p rfl rfl rfl ?_
      refine ok_cxs (c := ls_c 200 200 10 90 0 80) (ls_ok1 X u) (as := [.inr (.inl (some 200)), .inl (.inl ((Int8.ofInt 10).toInt32 * x)), .inr (.inl (some 200)), .inl (.inl ((Int8.ofInt 10).toInt32 * (x - Int32.ofInt 1)))]) (T := []) (EV := []) rfl rfl rfl rfl ⟨rfl, ⟨_, rfl, by show (10 : Int) ≤ Int32.toInt _; rw [hls]; omega, by show Int32.toInt _ ≤ (90 : Int); rw [hls]; omega⟩, rfl, ⟨_, rfl, by show (0 : Int) ≤ Int32.toInt _; rw [hbs]; omega, by show Int32.toInt _ ≤ (80 : Int); rw [hbs]; omega⟩, trivial⟩ h.1 trivial (fun q hq => nomatch hq) (fun w C3 I3 F3 rv P3 => ?_)
      obtain rfl : w = none := rv
      refine ok_p rfl rfl rfl ?_
      refine ok_p rfl rfl rfl ?_
      exact IH (k + 1) (x + Int32.ofInt 1) C3 (by omega) (by omega) ix3 ⟨I3, fr_c_tr F2 (M' := [(200, 201)]) (by decide) F3, rf_W_of (F3.2 999 (by decide) (by decide)) W2⟩
end RM
set_option maxRecDepth 20000 in
theorem tr_h57 (X : Option (List AI)) (u : Nat) : cx_ok (tb_P X) tb_G (rf_G u) trk_57 := by
  intro vs C EV hvs hI hpre hrel
  obtain ⟨v0, t0, rfl, h0, hvs1⟩ := ea_rl_cons hvs
  obtain rfl := ea_rl_nil hvs1
  obtain rfl : v0 = .inr (.inl (some 190)) := h0
  obtain ⟨zW, E1, rfl, ⟨pW, q1, q2⟩, hp2⟩ := ea_rl_cons hpre
  obtain ⟨zJ, E2, rfl, ⟨pJ, q3, q4⟩, hp3⟩ := ea_rl_cons hp2
  dsimp only at q1 q2 q3 q4
  refine ok_p rfl rfl rfl ?_
  refine ok_p rfl rfl rfl ?_
  refine rm_loop X u (C := C) (fun C' hS => ?_) 9 1 (Int32.ofInt 1) C rfl (by decide) (by decide) ⟨hI, fr_c_rf _ _ C, rf_G_W pW q1 q2⟩
  obtain ⟨I', F', W'⟩ := hS
  have pJ' : pv (rf_G u) C' 1001 0 zJ := by
    show rf_G u 1001 C' = zJ
    rw [F'.2 1001 (by decide) (by decide)]
    exact pJ
  exact ⟨none, rfl, I', F', rfl, ⟨[1, zJ], ⟨⟨rf_b_1 W', by decide, by decide⟩, ⟨pJ', q3, q4⟩, trivial⟩⟩, fun q hq => nomatch hq⟩
set_option maxRecDepth 20000 in
set_option maxHeartbeats 1000000 in
theorem tr_h58 (X : Option (List AI)) (u : Nat) : cx_ok (tb_P X) tb_G (rf_G u) trk_58 := by
  intro vs C EV hvs hI hpre hrel
  obtain ⟨v0, t0, rfl, h0, hvs1⟩ := ea_rl_cons hvs
  obtain rfl := ea_rl_nil hvs1
  obtain rfl : v0 = .inr (.inl (some 190)) := h0
  obtain ⟨zW, E1, rfl, ⟨pW, q1, q2⟩, hp2⟩ := ea_rl_cons hpre
  obtain ⟨zJ, E2, rfl, ⟨pJ, q3, q4⟩, hp3⟩ := ea_rl_cons hp2
  obtain rfl := ea_rl_nil hp3
  dsimp only at q1 q2 q3 q4
  have hW := rf_G_W pW q1 q2
  obtain ⟨ms, m1, m2, m3⟩ := hI_f hI (show tb_G 190 = some (.inl (12, _)) from rfl)
  have hlen : ms.length = 38 := m2
  obtain ⟨w0, r0, -⟩ := m3 0 (.inl (-2147483648, 2147483647)) rfl
  have hend : ∀ (y : Int32) (C' : List AC), (y = Int32.ofInt 0 ∨ y = Int32.ofInt 1) → xI tb_G C' → fr_c (rf_G u) trk_58.1.2.2.1 C C' → rf_W C' → cx_post (rf_G u) tb_G trk_58 [zW, zJ] C (.inl (some (.inl (.inl y)))) C' := by
    intro y C' hy I' F' W'
    have pJ' : pv (rf_G u) C' 1001 0 zJ := by
      show rf_G u 1001 C' = zJ
      rw [F'.2 1001 (by decide) (by decide)]
      exact pJ
    have e : cx_po trk_58 (some (.inl (.inl y))) = trk_58.2.2.2.2 := by
      show (if _ then _ else _) = _
      split <;> rfl
    refine ⟨_, rfl, I', F', ⟨y, rfl, ?_, ?_⟩, ?_⟩
    · rcases hy with rfl | rfl <;> decide
    · rcases hy with rfl | rfl <;> decide
    · rw [e]
      exact ⟨⟨[1, zJ], ⟨⟨rf_b_1 W', by decide, by decide⟩, ⟨pJ', q3, q4⟩, trivial⟩⟩, fun q hq => nomatch hq⟩
  refine ok_p rfl rfl rfl ?_
  refine ok_p rfl rfl rfl ?_
  refine ok_pf rfl rfl m1 rfl (by rw [hlen]; rfl) ?_
  have I1 := xI_sf hI (show tb_G 190 = some (.inl (12, _)) from rfl) m1 (k := 0) (v := .inl (.inl (Int32.ofInt (Int.ofNat 0)))) rfl ⟨_, rfl, by decide, by decide⟩
  have f1 : fr_c (rf_G u) [(190, 191)] C (C.set 190 (.inr (12, ms.set 0 (.inl (.inl (Int32.ofInt (Int.ofNat 0))))))) := fr_f u m1 (by decide) (by decide)
  have N1 := nt_set_self (c := Sum.inr (12, ms.set 0 (.inl (.inl (Int32.ofInt (Int.ofNat 0)))))) m1
  revert I1 f1 N1
  generalize C.set 190 (.inr (12, ms.set 0 (.inl (.inl (Int32.ofInt (Int.ofNat 0)))))) = C1
  generalize ms.set 0 (Sum.inl (Sum.inl (Int32.ofInt (Int.ofNat 0)))) = s1
  intro I1 f1 N1
  have W1 := rf_W_of (f1.2 999 (by decide) (by decide)) hW
  have F1 := fr_c_tr (fr_c_rf (rf_G u) trk_58.1.2.2.1 C) (M' := [(190, 191)]) (by decide) f1
  obtain ⟨s1', n1', n2, n3⟩ := hI_f I1 (show tb_G 190 = some (.inl (12, _)) from rfl)
  rw [N1] at n1'
  cases n1'
  have hlen1 : s1.length = 38 := n2
  obtain ⟨_, r12, y, rfl, y1, y2⟩ := n3 12 (.inl (0, 10)) rfl
  dsimp only at y1 y2
  refine ok_p rfl rfl rfl ?_
  refine ok_gf rfl rfl N1 r12 ?_
  cases hq : ea_ck .ne y 0 with
  | false =>
    refine ok_if false rfl rfl hq ?_
    refine ok_p rfl rfl rfl ?_
    exact ok_r rfl rfl rfl rfl rfl (hend _ C1 (Or.inl rfl) I1 F1 W1)
  | true =>
    have hy0 : y.toInt ≠ 0 := by
      have h1 : (!decide (y = 0)) = true := hq
      rw [Bool.not_eq_true', decide_eq_false_iff_not] at h1
      exact fun h => h1 (Int32.toInt_inj.mp (by rw [h]; decide))
    refine ok_if true rfl rfl hq ?_
    have hs : (y - Int32.ofInt 1).toInt = y.toInt - 1 := by rw [i32_sub (by rw [i_1]; omega) (by rw [i_1]; omega), i_1]
    refine ok_p rfl rfl rfl ?_
    refine ok_p rfl rfl rfl ?_
    refine ok_gf rfl rfl N1 r12 ?_
    refine ok_p rfl rfl rfl ?_
    refine ok_p rfl rfl rfl ?_
    refine ok_pf (v := .inl (.inl (y - Int32.ofInt 1))) rfl rfl N1 rfl (by rw [hlen1]; rfl) ?_
    have I2 := xI_sf I1 (show tb_G 190 = some (.inl (12, _)) from rfl) N1 (k := 12) (v := .inl (.inl (y - Int32.ofInt 1))) rfl ⟨_, rfl, by show (0 : Int) ≤ Int32.toInt _; rw [hs]; omega, by show Int32.toInt _ ≤ (10 : Int); rw [hs]; omega⟩
    have f2 : fr_c (rf_G u) [(190, 191)] C1 (C1.set 190 (.inr (12, s1.set 12 (.inl (.inl (y - Int32.ofInt 1)))))) := fr_f u N1 (by decide) (by decide)
    have N2 := nt_set_self (c := Sum.inr (12, s1.set 12 (.inl (.inl (y - Int32.ofInt 1))))) N1
    have q12 : ea_nt (s1.set 12 (Sum.inl (Sum.inl (y - Int32.ofInt 1)))) 12 = some (.inl (.inl (y - Int32.ofInt 1))) := nt_set_self r12
    revert I2 f2 N2 q12
    generalize C1.set 190 (.inr (12, s1.set 12 (.inl (.inl (y - Int32.ofInt 1))))) = C2
    generalize s1.set 12 (Sum.inl (Sum.inl (y - Int32.ofInt 1))) = s2
    intro I2 f2 N2 q12
    have W2 := rf_W_of (f2.2 999 (by decide) (by decide)) W1
    have F2 := fr_c_tr F1 (M' := [(190, 191)]) (by decide) f2
    obtain ⟨s2', n2', -, n4⟩ := hI_f I2 (show tb_G 190 = some (.inl (12, _)) from rfl)
    rw [N2] at n2'
    cases n2'
    obtain ⟨_, q1, rfl⟩ := n4 1 (.inr 191) rfl
    obtain ⟨_, q5, rfl⟩ := n4 5 (.inr 195) rfl
    obtain ⟨_, q6, rfl⟩ := n4 6 (.inr 196) rfl
    obtain ⟨_, q10, rfl⟩ := n4 10 (.inr 200) rfl
    obtain ⟨da, usa, a1, a2⟩ := hI_a I2 (show tb_G 195 = some (.inr (0, 3880, 388, tg_row)) from rfl)
    obtain ⟨db, usb, b1, b2⟩ := hI_a I2 (show tb_G 191 = some (.inr (0, 388, 388, tg_row)) from rfl)
    have hal : ((Int16.ofInt 388).toInt32 * (y - Int32.ofInt 1)).toInt = ((388 * (y.toInt.toNat - 1) : Nat) : Int) := by
      rw [i32_mul (by rw [i16_388, hs]; omega) (by rw [i16_388, hs]; omega), i16_388, hs]
      omega
    have hls : ((Int8.ofInt 10).toInt32 * (y - Int32.ofInt 1)).toInt = 10 * (y.toInt - 1) := by
      rw [i32_mul (by rw [i8_10, hs]; omega) (by rw [i8_10, hs]; omega), i8_10, hs]
    refine ok_p rfl rfl rfl ?_
    refine ok_gf rfl rfl N2 q5 ?_
    refine ok_p rfl rfl rfl ?_
    refine ok_p rfl rfl rfl ?_
    refine ok_gf rfl rfl N2 q12 ?_
    refine ok_p rfl rfl rfl ?_
    refine ok_p rfl rfl rfl ?_
    refine ok_gf rfl rfl N2 q1 ?_
    refine ok_p rfl rfl rfl ?_
    refine ok_cs (as := [.inr (.inl (some 195)), .inl (.inl ((Int16.ofInt 388).toInt32 * (y - Int32.ofInt 1))), .inr (.inl (some 191)), .inl (.inl (Int32.ofInt 0))]) (T := []) rfl rfl rfl rfl ?_
    refine lk_run X I2 a1 rfl b1 rfl (av := 388 * (y.toInt.toNat - 1)) (bv := 0) hal (by decide) (by omega) (by decide) (by omega) (by decide) (by decide) (by decide) (Or.inl (by decide)) (fun C3 h => ?_)
    show ok_ (tb_P X) 196 44 _ [] C3 _
    have row3 : rf_row (rf_v C3 191) := (rf_row_eq (f := rf_v C3 191) (g := fun k => rf_v C2 195 (388 * (y.toInt.toNat - 1) + k)) (by have := lk_in h a1 (by omega) (by decide) (j := 0) (by decide); simpa only [Nat.zero_add, Nat.add_zero] using this) (fun c hc => by have := lk_in h a1 (by omega) (by decide) (j := 23 + 13 * c) (by omega); simpa only [Nat.zero_add] using this)).mpr (W2.2.2.2.2 _ (by omega))
    have W3 : rf_W C3 := ⟨row3, lk_same h (by decide) W2.2.1, lk_same h (by decide) W2.2.2.1, lk_same h (by decide) W2.2.2.2.1, lk_acts h (by decide) W2⟩
    have F3 := fr_c_same F2 (lk_fr u h (by decide) (by decide))
    have N3 := h.2.1 190 (by decide)
    rw [N2] at N3
    refine ok_p rfl rfl rfl ?_
    refine ok_gf rfl rfl N3 q10 ?_
    refine ok_p rfl rfl rfl ?_
    refine ok_p rfl rfl rfl ?_
    refine ok_gf rfl rfl N3 q12 ?_
    refine ok_p rfl rfl rfl ?_
    refine ok_p rfl rfl rfl ?_
    refine ok_gf rfl rfl N3 q6 ?_
    refine ok_p rfl rfl rfl ?_
    refine ok_cxs (c := ls_c 200 196 0 90 0 0) (ls_ok3 X u) (as := [.inr (.inl (some 200)), .inl (.inl ((Int8.ofInt 10).toInt32 * (y - Int32.ofInt 1))), .inr (.inl (some 196)), .inl (.inl (Int32.ofInt 0))]) (T := []) (EV := []) rfl rfl rfl rfl ⟨rfl, ⟨_, rfl, by show (0 : Int) ≤ Int32.toInt _; rw [hls]; omega, by show Int32.toInt _ ≤ (90 : Int); rw [hls]; omega⟩, rfl, ⟨_, rfl, by decide, by decide⟩, trivial⟩ h.1 trivial (fun q hq => nomatch hq) (fun w C4 I4 F4 rv P4 => ?_)
    obtain rfl : w = none := rv
    refine ok_p rfl rfl rfl ?_
    exact ok_r rfl rfl rfl rfl rfl (hend _ C4 (Or.inr rfl) I4 (fr_c_tr F3 (M' := [(196, 197)]) (by decide) F4) (rf_W_of (F4.2 999 (by decide) (by decide)) W3))
