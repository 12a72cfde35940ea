section
/-! CONTRACTS BY HAND: rows copied, the contracts -/
theorem lk_cv {C C' : List AC} {b nb av bv : Nat} {da db : AV} {usa usb : List (Nat × AV)} (h : lk_I C b nb av bv da db usa usb 388 C') {a na : Nat} (ha : ea_nt C a = some (.inl (0, na, da, usa))) (la : av + 388 ≤ na) (lb : bv + 388 ≤ nb) {j : Nat} (hj : j < 388) : cv C' b (bv + j) = cv C a (av + j) := by
  obtain ⟨-, -, us', u1, u2⟩ := h
  unfold cv
  rw [u1, ha]
  dsimp only
  rw [show Nat.blt (bv + j) nb = true from Nat.ble_eq_true_of_le (by omega), show Nat.blt (av + j) na = true from Nat.ble_eq_true_of_le (by omega), u2 (bv + j) (by omega), if_pos (by omega), show av + (bv + j - bv) = av + j by omega]
theorem lk_row {C C' : List AC} {b : Nat} {da db : AV} {usa usb : List (Nat × AV)} (h : lk_I C b 388 0 0 da db usa usb 388 C') {a : Nat} (ha : ea_nt C a = some (.inl (0, 388, da, usa))) (hr : rf_row (rf_v C a)) : rf_row (rf_v C' b) := by
  have e : ∀ j, j < 388 → rf_v C' b j = rf_v C a j := fun j hj => by
    have := lk_cv h ha (by decide) (by decide) hj
    simp only [Nat.zero_add] at this
    unfold rf_v
    rw [this]
  exact (rf_row_eq (e 0 (by decide)) (fun c hc => e _ (by omega))).mpr hr
theorem lk_oth {C C' : List AC} {b nb av bv k : Nat} {da db : AV} {usa usb : List (Nat × AV)} (h : lk_I C b nb av bv da db usa usb k C') {x : Nat} (hx : x ≠ b) (j : Nat) : rf_v C' x j = rf_v C x j := rf_v_eq (cv_eq (h.2.1 x hx) j)
theorem lk_fr (u : Nat) {M : List (Nat × Nat)} {C C' : List AC} {b nb av bv k : Nat} {da db : AV} {usa usb : List (Nat × AV)} (h : lk_I C b nb av bv da db usa usb k C') (hb : xm M b = true) (hg : ∀ q ∈ tr_gs, q.2.1 = b → xm M q.1 = true) : fr_c (rf_G u) M C C' := by
  refine ⟨fun x hx => h.2.1 x ?_, fun g hk hm => rf_gs u g C C' (fun a i hq => cv_eq (h.2.1 a ?_) i)⟩
  · rintro rfl
    rw [hb] at hx
    cases hx
  · obtain ⟨q, q1, q2, q3, -⟩ := hq
    rintro rfl
    have := hg q q1 q3
    rw [q2, hm] at this
    cases this
theorem lk_acts {C C' : List AC} {b nb av bv k : Nat} {da db : AV} {usa usb : List (Nat × AV)} (h : lk_I C b nb av bv da db usa usb k C') (hx : 195 ≠ b) (hW : rf_W C) : ∀ t : Nat, t < 10 → rf_row (fun k => rf_v C' 195 (388 * t + k)) := fun t ht => (rf_row_eq (f := fun k => rf_v C' 195 (388 * t + k)) (g := fun k => rf_v C 195 (388 * t + k)) (lk_oth h hx _) (fun c _ => lk_oth h hx _)).mpr (hW.2.2.2.2 t ht)
theorem lk_same {C C' : List AC} {b nb av bv k : Nat} {da db : AV} {usa usb : List (Nat × AV)} (h : lk_I C b nb av bv da db usa usb k C') {x : Nat} (hx : x ≠ b) (hr : rf_row (rf_v C x)) : rf_row (rf_v C' x) := (rf_row_eq (lk_oth h hx _) (fun c _ => lk_oth h hx _)).mpr hr

theorem tr_h5 (X : Option (List AI)) (u : Nat) : cx_ok (tb_P X) tb_G (rf_G u) trk_5 := by
  intro vs C EV hvs hI hpre hrel
  obtain ⟨v0, t0, rfl, h0, hvs1⟩ := ea_rl_cons hvs
  obtain ⟨v1, t1, rfl, ⟨al, rfl, x1, x2⟩, hvs2⟩ := ea_rl_cons hvs1
  obtain ⟨v2, t2, rfl, h2, hvs3⟩ := ea_rl_cons hvs2
  obtain ⟨v3, t3, rfl, ⟨be, rfl, y1, y2⟩, hvs4⟩ := ea_rl_cons hvs3
  obtain rfl := ea_rl_nil hvs4
  obtain rfl : v0 = .inr (.inl (some 191)) := h0
  obtain rfl : v2 = .inr (.inl (some 192)) := h2
  obtain ⟨zW, E1, rfl, ⟨pW, q1, q2⟩, hp2⟩ := ea_rl_cons hpre
  obtain ⟨zJ, E2, rfl, ⟨pJ, q3, q4⟩, hp3⟩ := ea_rl_cons hp2
  dsimp only at x1 x2 y1 y2 q1 q2 q3 q4
  have hW := rf_G_W pW q1 q2
  obtain ⟨da, usa, a1, a2⟩ := hI_a hI (show tb_G 191 = some (.inr (0, 388, 388, tg_row)) from rfl)
  obtain ⟨db, usb, b1, b2⟩ := hI_a hI (show tb_G 192 = some (.inr (0, 388, 388, tg_row)) from rfl)
  refine lk_run X hI a1 rfl b1 rfl (av := 0) (bv := 0) (by omega) (by omega) (by decide) (by decide) (by decide) (by decide) (by decide) (by decide) (Or.inl (by decide)) (fun C' h => ?_)
  have hF : fr_c (rf_G u) trk_5.1.2.2.1 C C' := lk_fr u h (by decide) (by decide)
  have hW' : rf_W C' := ⟨lk_same h (by decide) hW.1, lk_row h a1 hW.1, lk_same h (by decide) hW.2.2.1, lk_same h (by decide) hW.2.2.2.1, lk_acts h (by decide) hW⟩
  have pJ' : pv (rf_G u) C' 1001 0 zJ := by
    show rf_G u 1001 C' = zJ
    rw [hF.2 1001 (by decide) (by decide)]
    exact pJ
  exact ⟨none, rfl, h.1, hF, rfl, ⟨[1, zJ], ⟨⟨rf_b_1 hW', by decide, by decide⟩, ⟨pJ', q3, q4⟩, trivial⟩⟩, fun q hq => nomatch hq⟩

theorem tr_h6 (X : Option (List AI)) (u : Nat) : cx_ok (tb_P X) tb_G (rf_G u) trk_6 := by
  intro vs C EV hvs hI hpre hrel
  obtain ⟨v0, t0, rfl, h0, hvs1⟩ := ea_rl_cons hvs
  obtain ⟨v1, t1, rfl, ⟨al, rfl, x1, x2⟩, hvs2⟩ := ea_rl_cons hvs1
  obtain ⟨v2, t2, rfl, h2, hvs3⟩ := ea_rl_cons hvs2
  obtain ⟨v3, t3, rfl, ⟨be, rfl, y1, y2⟩, hvs4⟩ := ea_rl_cons hvs3
  obtain rfl := ea_rl_nil hvs4
  obtain rfl : v0 = .inr (.inl (some 192)) := h0
  obtain rfl : v2 = .inr (.inl (some 191)) := h2
  obtain ⟨zW, E1, rfl, ⟨pW, q1, q2⟩, hp2⟩ := ea_rl_cons hpre
  obtain ⟨zJ, E2, rfl, ⟨pJ, q3, q4⟩, hp3⟩ := ea_rl_cons hp2
  dsimp only at x1 x2 y1 y2 q1 q2 q3 q4
  have hW := rf_G_W pW q1 q2
  obtain ⟨da, usa, a1, a2⟩ := hI_a hI (show tb_G 192 = some (.inr (0, 388, 388, tg_row)) from rfl)
  obtain ⟨db, usb, b1, b2⟩ := hI_a hI (show tb_G 191 = some (.inr (0, 388, 388, tg_row)) from rfl)
  refine lk_run X hI a1 rfl b1 rfl (av := 0) (bv := 0) (by omega) (by omega) (by decide) (by decide) (by decide) (by decide) (by decide) (by decide) (Or.inl (by decide)) (fun C' h => ?_)
  have hF : fr_c (rf_G u) trk_6.1.2.2.1 C C' := lk_fr u h (by decide) (by decide)
  have hW' : rf_W C' := ⟨lk_row h a1 hW.2.1, lk_same h (by decide) hW.2.1, lk_same h (by decide) hW.2.2.1, lk_same h (by decide) hW.2.2.2.1, lk_acts h (by decide) hW⟩
  have pJ' : pv (rf_G u) C' 1001 0 zJ := by
    show rf_G u 1001 C' = zJ
    rw [hF.2 1001 (by decide) (by decide)]
    exact pJ
  exact ⟨none, rfl, h.1, hF, rfl, ⟨[1, zJ], ⟨⟨rf_b_1 hW', by decide, by decide⟩, ⟨pJ', q3, q4⟩, trivial⟩⟩, fun q hq => nomatch hq⟩

theorem tr_h7 (X : Option (List AI)) (u : Nat) : cx_ok (tb_P X) tb_G (rf_G u) trk_7 := by
  intro vs C EV hvs hI hpre hrel
  obtain ⟨v0, t0, rfl, h0, hvs1⟩ := ea_rl_cons hvs
  obtain ⟨v1, t1, rfl, ⟨al, rfl, x1, x2⟩, hvs2⟩ := ea_rl_cons hvs1
  obtain ⟨v2, t2, rfl, h2, hvs3⟩ := ea_rl_cons hvs2
  obtain ⟨v3, t3, rfl, ⟨be, rfl, y1, y2⟩, hvs4⟩ := ea_rl_cons hvs3
  obtain rfl := ea_rl_nil hvs4
  obtain rfl : v0 = .inr (.inl (some 191)) := h0
  obtain rfl : v2 = .inr (.inl (some 193)) := h2
  obtain ⟨zW, E1, rfl, ⟨pW, q1, q2⟩, hp2⟩ := ea_rl_cons hpre
  obtain ⟨zJ, E2, rfl, ⟨pJ, q3, q4⟩, hp3⟩ := ea_rl_cons hp2
  dsimp only at x1 x2 y1 y2 q1 q2 q3 q4
  have hW := rf_G_W pW q1 q2
  obtain ⟨da, usa, a1, a2⟩ := hI_a hI (show tb_G 191 = some (.inr (0, 388, 388, tg_row)) from rfl)
  obtain ⟨db, usb, b1, b2⟩ := hI_a hI (show tb_G 193 = some (.inr (0, 388, 388, tg_row)) from rfl)
  refine lk_run X hI a1 rfl b1 rfl (av := 0) (bv := 0) (by omega) (by omega) (by decide) (by decide) (by decide) (by decide) (by decide) (by decide) (Or.inl (by decide)) (fun C' h => ?_)
  have hF : fr_c (rf_G u) trk_7.1.2.2.1 C C' := lk_fr u h (by decide) (by decide)
  have hW' : rf_W C' := ⟨lk_same h (by decide) hW.1, lk_same h (by decide) hW.2.1, lk_row h a1 hW.1, lk_same h (by decide) hW.2.2.2.1, lk_acts h (by decide) hW⟩
  have pJ' : pv (rf_G u) C' 1001 0 zJ := by
    show rf_G u 1001 C' = zJ
    rw [hF.2 1001 (by decide) (by decide)]
    exact pJ
  exact ⟨none, rfl, h.1, hF, rfl, ⟨[1, zJ], ⟨⟨rf_b_1 hW', by decide, by decide⟩, ⟨pJ', q3, q4⟩, trivial⟩⟩, fun q hq => nomatch hq⟩

theorem tr_h8 (X : Option (List AI)) (u : Nat) : cx_ok (tb_P X) tb_G (rf_G u) trk_8 := by
  intro vs C EV hvs hI hpre hrel
  obtain ⟨v0, t0, rfl, h0, hvs1⟩ := ea_rl_cons hvs
  obtain ⟨v1, t1, rfl, ⟨al, rfl, x1, x2⟩, hvs2⟩ := ea_rl_cons hvs1
  obtain ⟨v2, t2, rfl, h2, hvs3⟩ := ea_rl_cons hvs2
  obtain ⟨v3, t3, rfl, ⟨be, rfl, y1, y2⟩, hvs4⟩ := ea_rl_cons hvs3
  obtain rfl := ea_rl_nil hvs4
  obtain rfl : v0 = .inr (.inl (some 193)) := h0
  obtain rfl : v2 = .inr (.inl (some 191)) := h2
  obtain ⟨zW, E1, rfl, ⟨pW, q1, q2⟩, hp2⟩ := ea_rl_cons hpre
  obtain ⟨zJ, E2, rfl, ⟨pJ, q3, q4⟩, hp3⟩ := ea_rl_cons hp2
  dsimp only at x1 x2 y1 y2 q1 q2 q3 q4
  have hW := rf_G_W pW q1 q2
  obtain ⟨da, usa, a1, a2⟩ := hI_a hI (show tb_G 193 = some (.inr (0, 388, 388, tg_row)) from rfl)
  obtain ⟨db, usb, b1, b2⟩ := hI_a hI (show tb_G 191 = some (.inr (0, 388, 388, tg_row)) from rfl)
  refine lk_run X hI a1 rfl b1 rfl (av := 0) (bv := 0) (by omega) (by omega) (by decide) (by decide) (by decide) (by decide) (by decide) (by decide) (Or.inl (by decide)) (fun C' h => ?_)
  have hF : fr_c (rf_G u) trk_8.1.2.2.1 C C' := lk_fr u h (by decide) (by decide)
  have hW' : rf_W C' := ⟨lk_row h a1 hW.2.2.1, lk_same h (by decide) hW.2.1, lk_same h (by decide) hW.2.2.1, lk_same h (by decide) hW.2.2.2.1, lk_acts h (by decide) hW⟩
  have pJ' : pv (rf_G u) C' 1001 0 zJ := by
    show rf_G u 1001 C' = zJ
    rw [hF.2 1001 (by decide) (by decide)]
    exact pJ
  exact ⟨none, rfl, h.1, hF, rfl, ⟨[1, zJ], ⟨⟨rf_b_1 hW', by decide, by decide⟩, ⟨pJ', q3, q4⟩, trivial⟩⟩, fun q hq => nomatch hq⟩

theorem tr_h9 (X : Option (List AI)) (u : Nat) : cx_ok (tb_P X) tb_G (rf_G u) trk_9 := by
  intro vs C EV hvs hI hpre hrel
  obtain ⟨v0, t0, rfl, h0, hvs1⟩ := ea_rl_cons hvs
  obtain ⟨v1, t1, rfl, ⟨al, rfl, x1, x2⟩, hvs2⟩ := ea_rl_cons hvs1
  obtain ⟨v2, t2, rfl, h2, hvs3⟩ := ea_rl_cons hvs2
  obtain ⟨v3, t3, rfl, ⟨be, rfl, y1, y2⟩, hvs4⟩ := ea_rl_cons hvs3
  obtain rfl := ea_rl_nil hvs4
  obtain rfl : v0 = .inr (.inl (some 191)) := h0
  obtain rfl : v2 = .inr (.inl (some 194)) := h2
  obtain ⟨zW, E1, rfl, ⟨pW, q1, q2⟩, hp2⟩ := ea_rl_cons hpre
  obtain ⟨zJ, E2, rfl, ⟨pJ, q3, q4⟩, hp3⟩ := ea_rl_cons hp2
  dsimp only at x1 x2 y1 y2 q1 q2 q3 q4
  have hW := rf_G_W pW q1 q2
  obtain ⟨da, usa, a1, a2⟩ := hI_a hI (show tb_G 191 = some (.inr (0, 388, 388, tg_row)) from rfl)
  obtain ⟨db, usb, b1, b2⟩ := hI_a hI (show tb_G 194 = some (.inr (0, 388, 388, tg_row)) from rfl)
  refine lk_run X hI a1 rfl b1 rfl (av := 0) (bv := 0) (by omega) (by omega) (by decide) (by decide) (by decide) (by decide) (by decide) (by decide) (Or.inl (by decide)) (fun C' h => ?_)
  have hF : fr_c (rf_G u) trk_9.1.2.2.1 C C' := lk_fr u h (by decide) (by decide)
  have hW' : rf_W C' := ⟨lk_same h (by decide) hW.1, lk_same h (by decide) hW.2.1, lk_same h (by decide) hW.2.2.1, lk_row h a1 hW.1, lk_acts h (by decide) hW⟩
  have pJ' : pv (rf_G u) C' 1001 0 zJ := by
    show rf_G u 1001 C' = zJ
    rw [hF.2 1001 (by decide) (by decide)]
    exact pJ
  exact ⟨none, rfl, h.1, hF, rfl, ⟨[1, zJ], ⟨⟨rf_b_1 hW', by decide, by decide⟩, ⟨pJ', q3, q4⟩, trivial⟩⟩, fun q hq => nomatch hq⟩

theorem tr_h10 (X : Option (List AI)) (u : Nat) : cx_ok (tb_P X) tb_G (rf_G u) trk_10 := by
  intro vs C EV hvs hI hpre hrel
  obtain ⟨v0, t0, rfl, h0, hvs1⟩ := ea_rl_cons hvs
  obtain ⟨v1, t1, rfl, ⟨al, rfl, x1, x2⟩, hvs2⟩ := ea_rl_cons hvs1
  obtain ⟨v2, t2, rfl, h2, hvs3⟩ := ea_rl_cons hvs2
  obtain ⟨v3, t3, rfl, ⟨be, rfl, y1, y2⟩, hvs4⟩ := ea_rl_cons hvs3
  obtain rfl := ea_rl_nil hvs4
  obtain rfl : v0 = .inr (.inl (some 194)) := h0
  obtain rfl : v2 = .inr (.inl (some 191)) := h2
  obtain ⟨zW, E1, rfl, ⟨pW, q1, q2⟩, hp2⟩ := ea_rl_cons hpre
  obtain ⟨zJ, E2, rfl, ⟨pJ, q3, q4⟩, hp3⟩ := ea_rl_cons hp2
  dsimp only at x1 x2 y1 y2 q1 q2 q3 q4
  have hW := rf_G_W pW q1 q2
  obtain ⟨da, usa, a1, a2⟩ := hI_a hI (show tb_G 194 = some (.inr (0, 388, 388, tg_row)) from rfl)
  obtain ⟨db, usb, b1, b2⟩ := hI_a hI (show tb_G 191 = some (.inr (0, 388, 388, tg_row)) from rfl)
  refine lk_run X hI a1 rfl b1 rfl (av := 0) (bv := 0) (by omega) (by omega) (by decide) (by decide) (by decide) (by decide) (by decide) (by decide) (Or.inl (by decide)) (fun C' h => ?_)
  have hF : fr_c (rf_G u) trk_10.1.2.2.1 C C' := lk_fr u h (by decide) (by decide)
  have hW' : rf_W C' := ⟨lk_row h a1 hW.2.2.2.1, lk_same h (by decide) hW.2.1, lk_same h (by decide) hW.2.2.1, lk_same h (by decide) hW.2.2.2.1, lk_acts h (by decide) hW⟩
  have pJ' : pv (rf_G u) C' 1001 0 zJ := by
    show rf_G u 1001 C' = zJ
    rw [hF.2 1001 (by decide) (by decide)]
    exact pJ
  exact ⟨none, rfl, h.1, hF, rfl, ⟨[1, zJ], ⟨⟨rf_b_1 hW', by decide, by decide⟩, ⟨pJ', q3, q4⟩, trivial⟩⟩, fun q hq => nomatch hq⟩
end
section
/-! CONTRACTS BY HAND: words -/
theorem nt_ext {α : Type} {C C' : List α} (h : ∀ b, ea_nt C' b = ea_nt C b) : C' = C := List.ext_getElem? (fun i => by rw [← ea_nt_eq, ← ea_nt_eq]; exact h i)
theorem i32_sub {x y : Int32} (h1 : -2147483648 ≤ x.toInt - y.toInt) (h2 : x.toInt - y.toInt ≤ 2147483647) : (x - y).toInt = x.toInt - y.toInt := by
  rw [Int32.toInt_sub, Int.bmod_eq_of_le (by omega) (by omega)]
section OKS2
variable {P : EP} {m pc : Nat} {L : List (Nat × AV)} {S : List AV} {C : List AC} {K : Option AV ⊕ Nat → List AC → Prop}
theorem ok_if {c : Jvm.ClassFile.Cond} {off : Int} {t : Nat} {x : Int32} (b : Bool) (hc : ep_cod P m pc = some (.ifCond c off, 3)) (ht : ea_to pc off = some t) (hb : ea_ck c x 0 = b) (h : ok_ P m (bif b then t else pc + 3) L S C K) : ok_ P m pc L (.inl (.inl x) :: S) C K := by
  refine ok_p (pc' := bif b then t else pc + 3) (L' := L) (S' := S) hc rfl ?_ h
  simp only [ea_p, ea_if, hb, ht]
  cases b <;> rfl
theorem ok_bl {a n j : Nat} {d : AV} {us : List (Nat × AV)} {x y : Int32} (hc : ep_cod P m pc = some (.baload, 1)) (hC : ea_nt C a = some (.inl (2, n, d, us))) (hi : ea_ix (.inl x) n = some j) (hv : ea_al d us j = .inl (.inl y)) (h : ok_ P m (pc + 1) L (.inl (.inl y) :: S) C K) : ok_ P m pc L (.inl (.inl x) :: .inr (.inl (some a)) :: S) C K :=
  ok_h (C' := none) hc rfl rfl (by simp only [ea_h, hC, hi, hv]) h
/-- a method of an object -/
theorem ok_cv {x mj n a ci : Nat} {vs : List AV} {as T : List AV} (hc : ep_cod P m pc = some (.invokevirtual x, 3)) (hp : ep_pl P m x = some (2, mj, n)) (hC : ea_nt C a = some (.inr (ci, vs))) (ho : ep_own P mj = ci) (hn : as.length = n) (hd : (Nat.blt (ep_dep P mj) (ep_dep P m) && (Nat.ble (ea_wt T) 8 && Nat.ble (ea_wt (.inr (.inl (some a)) :: as)) (ep_nls P mj))) = true) (h : ok_ P mj 0 (ea_ar 0 (.inr (.inl (some a)) :: as)) [] C (ok_back P m pc L T true K)) : ok_ P m pc L (as.reverse ++ .inr (.inl (some a)) :: T) C K := by
  refine ok_call (r := some (2, mj, n)) (mj := mj) (as := .inr (.inl (some a)) :: as) (T := T) (b := true) hc (by simp only [ok_iv, hp]) ?_ hd h
  have h1 : (as.reverse ++ (.inr (.inl (some a)) : AV) :: T).drop n = .inr (.inl (some a)) :: T := by rw [List.drop_append_of_le_length (by rw [List.length_reverse, hn]; exact Nat.le_refl _), ← hn, ← List.length_reverse, List.drop_length]; rfl
  have h2 : (as.reverse ++ (.inr (.inl (some a)) : AV) :: T).take n = as.reverse := by rw [List.take_append_of_le_length (by rw [List.length_reverse, hn]; exact Nat.le_refl _), ← hn, ← List.length_reverse, List.take_length]
  simp only [ea_cl, h1, h2, hC, ho, Nat.beq_refl, cond_true, List.reverse_reverse]
end OKS2
def iw_l (t n : Nat) : CX := ((319, [.inr (.inr t)], [], (1, (n : Int), (n : Int)), [], []), [], 0, ([], []), ([], []))
def iw_c (t n : Nat) : CX := ((320, [.inr (.inr t), .inl (0, (n : Int) - 1)], [], (1, 0, 65535), [], []), [], 0, ([], []), ([], []))
theorem no_c {P : EP} {G : Nat → Option CT} {GF : GH} : ∀ (mj : Nat) (c' : CX), c' ∈ (fun _ : Nat => ([] : List CX)) mj → c'.1.1 = mj ∧ cx_ok P G GF c' := fun mj c' h => nomatch (show c' ∈ ([] : List CX) from h)
theorem no_m {P : EP} {G : Nat → Option CT} {GF : GH} : ∀ (m pc : Nat) (mc : CX × Nat), (fun _ _ : Nat => (none : Option (CX × Nat))) m pc = some mc → mc_ok P G GF m pc mc.1 mc.2 := fun m pc mc h => nomatch (show (none : Option (CX × Nat)) = some mc from h)
def iw_ts : List (Nat × Nat) := [(11744409, 2), (12138387, 2), (2989669287, 3), (2989961361, 3), (3082042249, 3), (3124213517, 3), (3165696519, 3), (784791024683, 4), (784791157285, 4), (786829588905, 4), (795385967387, 4), (797567332893, 4), (196476243687429, 5), (198125670153123, 5), (201467113190795, 5), (203627540166423, 5), (204215892260255, 5), (204756940403471, 5), (52280337941016725, 6), (13200821491936309665, 7)]
set_option maxRecDepth 100000 in
theorem iw_ck : iw_ts.all (fun q => cx_ck (tb_P none) tb_G tr_gs (fun _ => []) (fun _ _ => none) [] (iw_l q.1 q.2) 200 && cx_ck (tb_P none) tb_G tr_gs (fun _ => []) (fun _ _ => none) [] (iw_c q.1 q.2) 200) = true := by decide +kernel
theorem iw_ok (X : Option (List AI)) (u : Nat) {t n : Nat} (h : (t, n) ∈ iw_ts) : cx_ok (tb_P X) tb_G (rf_G u) (iw_l t n) ∧ cx_ok (tb_P X) tb_G (rf_G u) (iw_c t n) := by
  have h1 := List.all_eq_true.mp iw_ck _ h
  simp only [Bool.and_eq_true] at h1
  exact ⟨cx_ck_ok tr_G9 (rf_gs u) no_c no_m (hds := []) (n := 200) (by rw [cx_scr X]; exact h1.1), cx_ck_ok tr_G9 (rf_gs u) no_c no_m (hds := []) (n := 200) (by rw [cx_scr X]; exact h1.2)⟩
theorem iw_e (q : Nat) (he : (q + 1) % 2 = 0) {own : Nat → Nat} {x mj n : Nat} {as T : List AV} {C : List AC} (hn : as.length = n) : ea_cl own (.invokevirtual x) (some (26, mj, n)) (as.reverse ++ .inr (.inr (.inr (.inr (q + 1)))) :: T) C = some (mj, .inr (.inr (.inr (.inr (q + 1)))) :: as, T, true) := by
  have h1 : (as.reverse ++ (.inr (.inr (.inr (.inr (q + 1)))) : AV) :: T).drop n = .inr (.inr (.inr (.inr (q + 1)))) :: T := by rw [List.drop_append_of_le_length (by rw [List.length_reverse, hn]; exact Nat.le_refl _), ← hn, ← List.length_reverse, List.drop_length]; rfl
  have h2 : (as.reverse ++ (.inr (.inr (.inr (.inr (q + 1)))) : AV) :: T).take n = as.reverse := by rw [List.take_append_of_le_length (by rw [List.length_reverse, hn]; exact Nat.le_refl _), ← hn, ← List.length_reverse, List.take_length]
  simp only [ea_cl, h1, h2, he, Nat.beq_refl, cond_true, List.reverse_reverse]
section IW
variable (X : Option (List AI)) (u : Nat) {q n : Nat} {C : List AC} {p b : Int32} {K : Option AV ⊕ Nat → List AC → Prop}
/-- a String's length -/
theorem iw_len (he : (q + 1) % 2 = 0) (hl : cx_ok (tb_P X) tb_G (rf_G u) (iw_l (q + 4) n)) (hI : xI tb_G C) {pc : Nat} {L : List (Nat × AV)} {T : List AV} (hc : ep_cod (tb_P X) 216 pc = some (.invokevirtual 157, 3)) (hd : Nat.ble (ea_wt T) 8 = true) (h : ∀ y : Int32, y.toInt = n → ok_ (tb_P X) 216 (pc + 3) L (.inl (.inl y) :: T) C K) : ok_ (tb_P X) 216 pc L (.inr (.inr (.inr (.inr (q + 1)))) :: T) C K := by
  refine ok_call (r := some (26, 319, 0)) (mj := 319) (as := [.inr (.inr (.inr (.inr (q + 1))))]) (T := T) (b := true) hc rfl (iw_e q he (as := []) rfl) (by rw [hd]; rfl) ?_
  refine ok_post (hl [.inr (.inr (.inr (.inr (q + 1))))] C [] ⟨rfl, trivial⟩ hI trivial (fun _ hq => nomatch hq)) (fun o C' ho => ?_)
  obtain ⟨v, rfl, -, o2, ⟨y, rfl, y1, y2⟩, -⟩ := ho
  obtain rfl := nt_ext (fun b => o2.1 b rfl)
  dsimp only [iw_l] at y1 y2
  exact h y (by omega)
/-- a String's sign -/
theorem iw_chr (he : (q + 1) % 2 = 0) (hl : cx_ok (tb_P X) tb_G (rf_G u) (iw_c (q + 4) n)) (hI : xI tb_G C) {pc : Nat} {L : List (Nat × AV)} {T : List AV} {k : Int32} (k1 : 0 ≤ k.toInt) (k2 : k.toInt < n) (hc : ep_cod (tb_P X) 216 pc = some (.invokevirtual 162, 3)) (hd : Nat.ble (ea_wt T) 8 = true) (h : ∀ y : Int32, ok_ (tb_P X) 216 (pc + 3) L (.inl (.inl y) :: T) C K) : ok_ (tb_P X) 216 pc L (.inl (.inl k) :: .inr (.inr (.inr (.inr (q + 1)))) :: T) C K := by
  refine ok_call (r := some (26, 320, 1)) (mj := 320) (as := [.inr (.inr (.inr (.inr (q + 1)))), .inl (.inl k)]) (T := T) (b := true) hc rfl (iw_e q he (as := [.inl (.inl k)]) rfl) (by rw [hd]; rfl) ?_
  refine ok_post (hl [.inr (.inr (.inr (.inr (q + 1)))), .inl (.inl k)] C [] ⟨rfl, ⟨k, rfl, k1, by show k.toInt ≤ (n : Int) - 1; omega⟩, trivial⟩ hI trivial (fun _ hq => nomatch hq)) (fun o C' ho => ?_)
  obtain ⟨v, rfl, -, o2, ⟨y, rfl, -, -⟩, -⟩ := ho
  obtain rfl := nt_ext (fun b => o2.1 b rfl)
  exact h y
set_option maxRecDepth 20000 in
theorem iw_loop (he : (q + 1) % 2 = 0) (hn : n ≤ 100) (hl : cx_ok (tb_P X) tb_G (rf_G u) (iw_l (q + 4) n)) (hch : cx_ok (tb_P X) tb_G (rf_G u) (iw_c (q + 4) n)) (hI : xI tb_G C) (hb : fd_g C 190 21 b) (p2 : p.toInt ≤ 400) (b1 : 0 ≤ b.toInt) (hK : ∀ v : Int32, v = Int32.ofInt 0 ∨ v = Int32.ofInt 1 → (v = Int32.ofInt 1 → p.toInt - b.toInt = n) → K (.inl (some (.inl (.inl v)))) C) : ∀ (r k : Nat) (x v : Int32), r + k = n → x.toInt = (k : Int) → (v = Int32.ofInt 0 ∨ v = Int32.ofInt 1) → (v = Int32.ofInt 1 → p.toInt - b.toInt = n) → ok_ (tb_P X) 216 24 [(3, .inl (.inl x)), (2, .inl (.inl v)), (0, .inr (.inl (some 190))), (1, .inr (.inr (.inr (.inr (q + 1)))))] [] C K := by
  obtain ⟨ms, m1, m2, m3⟩ := hI_f hI (show tb_G 190 = some (.inl (12, _)) from rfl)
  obtain ⟨_, r17, rfl⟩ := m3 17 (.inr 203) rfl
  obtain ⟨d, us, a1, a2⟩ := hI_a hI (show tb_G 203 = some (.inr (2, 400, _, _)) from rfl)
  obtain ⟨ci, vs', f1, r21⟩ := hb
  rw [m1] at f1
  cases f1
  intro r
  induction r with
  | zero =>
    intro k x v hk hx hv hpb
    refine ok_p rfl rfl rfl ?_
    rcases hv with rfl | rfl
    · refine ok_p rfl rfl rfl ?_
      refine ok_p rfl rfl rfl ?_
      exact ok_r rfl rfl rfl rfl rfl (hK _ (Or.inl rfl) hpb)
    · refine ok_p rfl rfl rfl ?_
      refine ok_p rfl rfl rfl ?_
      refine ok_p rfl rfl rfl ?_
      refine iw_len X u he hl hI rfl rfl (fun y hy => ?_)
      refine ok_ic true rfl rfl ?_ ?_
      · show decide (y ≤ x) = true
        rw [decide_eq_true_eq, Int32.le_iff_toInt_le]
        omega
      · refine ok_p rfl rfl rfl ?_
        exact ok_r rfl rfl rfl rfl rfl (hK _ (Or.inr rfl) hpb)
  | succ r IH =>
    intro k x v hk hx hv hpb
    refine ok_p rfl rfl rfl ?_
    rcases hv with rfl | rfl
    · refine ok_p rfl rfl rfl ?_
      refine ok_p rfl rfl rfl ?_
      exact ok_r rfl rfl rfl rfl rfl (hK _ (Or.inl rfl) hpb)
    · have hpb1 := hpb rfl
      refine ok_p rfl rfl rfl ?_
      refine ok_p rfl rfl rfl ?_
      refine ok_p rfl rfl rfl ?_
      refine iw_len X u he hl hI rfl rfl (fun y hy => ?_)
      refine ok_ic false rfl rfl ?_ ?_
      · show decide (y ≤ x) = false
        rw [decide_eq_false_iff_not, Int32.le_iff_toInt_le]
        omega
      refine ok_p rfl rfl rfl ?_
      refine ok_gf rfl rfl m1 r17 ?_
      refine ok_p rfl rfl rfl ?_
      refine ok_gf rfl rfl m1 r21 ?_
      refine ok_p rfl rfl rfl ?_
      refine ok_p rfl rfl rfl ?_
      have hix : (b + x).toInt = ((b.toInt.toNat + k : Nat) : Int) := by
        rw [i32_add (by omega) (by omega)]
        omega
      obtain ⟨f, f1, f2⟩ := el_get (by decide) (a2 (b.toInt.toNat + k) (by omega))
      rw [Nat.mod_one] at f1
      cases (show some (Sum.inl (-128, 127)) = some f from f1)
      obtain ⟨w, w1, -, -⟩ := f2
      refine ok_bl rfl a1 (ix_of hix (by omega)) w1 ?_
      refine ok_p rfl rfl rfl ?_
      refine ok_p rfl rfl rfl ?_
      refine iw_chr X u he hch hI (by omega) (by omega) rfl rfl (fun y2 => ?_)
      have ix3 : (x + Int32.ofInt 1).toInt = ((k + 1 : Nat) : Int) := by
        rw [i32_add (by rw [show (Int32.ofInt 1).toInt = 1 by decide]; omega) (by rw [show (Int32.ofInt 1).toInt = 1 by decide]; omega), show (Int32.ofInt 1).toInt = 1 by decide]
        omega
      cases hb : ea_ck .ne w y2 with
      | true =>
        refine ok_ic true rfl rfl hb ?_
        refine ok_p rfl rfl rfl ?_
        refine ok_p rfl rfl rfl ?_
        refine ok_p rfl rfl rfl ?_
        refine ok_p rfl rfl rfl ?_
        exact IH (k + 1) (x + Int32.ofInt 1) (Int32.ofInt 0) (by omega) ix3 (Or.inl rfl) (fun h => absurd h (by decide))
      | false =>
        refine ok_ic false rfl rfl hb ?_
        refine ok_p rfl rfl rfl ?_
        refine ok_p rfl rfl rfl ?_
        refine ok_p rfl rfl rfl ?_
        refine ok_p rfl rfl rfl ?_
        refine ok_p rfl rfl rfl ?_
        exact IH (k + 1) (x + Int32.ofInt 1) (Int32.ofInt 1) (by omega) ix3 (Or.inr rfl) (fun _ => hpb1)
set_option maxRecDepth 20000 in
theorem iw_run (he : (q + 1) % 2 = 0) (hn : n ≤ 100) (hl : cx_ok (tb_P X) tb_G (rf_G u) (iw_l (q + 4) n)) (hch : cx_ok (tb_P X) tb_G (rf_G u) (iw_c (q + 4) n)) (hI : xI tb_G C) (hp : fd_g C 190 19 p) (hb : fd_g C 190 21 b) (p1 : 0 ≤ p.toInt) (p2 : p.toInt ≤ 400) (b1 : 0 ≤ b.toInt) (b2 : b.toInt ≤ 400) (hK : ∀ v : Int32, v = Int32.ofInt 0 ∨ v = Int32.ofInt 1 → (v = Int32.ofInt 1 → p.toInt - b.toInt = n) → K (.inl (some (.inl (.inl v)))) C) : ok_ (tb_P X) 216 0 (ea_ar 0 [.inr (.inl (some 190)), .inr (.inr (.inr (.inr (q + 1))))]) [] C K := by
  have hb' := hb
  obtain ⟨ms, m1, m2, m3⟩ := hI_f hI (show tb_G 190 = some (.inl (12, _)) from rfl)
  obtain ⟨ci, vs', f1, r21⟩ := hb
  rw [m1] at f1
  cases f1
  obtain ⟨ci, vs', f1, r19⟩ := hp
  rw [m1] at f1
  cases f1
  refine ok_p rfl rfl rfl ?_
  refine ok_gf rfl rfl m1 r19 ?_
  refine ok_p rfl rfl rfl ?_
  refine ok_gf rfl rfl m1 r21 ?_
  refine ok_p rfl rfl rfl ?_
  refine ok_p rfl rfl rfl ?_
  refine iw_len X u he hl hI rfl rfl (fun y hy => ?_)
  have hs : (p - b).toInt = p.toInt - b.toInt := i32_sub (by omega) (by omega)
  cases hb : ea_ck .ne (p - b) y with
  | true =>
    refine ok_ic true rfl rfl hb ?_
    refine ok_p rfl rfl rfl ?_
    refine ok_p rfl rfl rfl ?_
    refine ok_p rfl rfl rfl ?_
    refine ok_p rfl rfl rfl ?_
    exact iw_loop X u he hn hl hch hI hb' p2 b1 hK n 0 (Int32.ofInt 0) (Int32.ofInt 0) rfl (by decide) (Or.inl rfl) (fun h => absurd h (by decide))
  | false =>
    refine ok_ic false rfl rfl hb ?_
    refine ok_p rfl rfl rfl ?_
    refine ok_p rfl rfl rfl ?_
    refine ok_p rfl rfl rfl ?_
    refine ok_p rfl rfl rfl ?_
    refine ok_p rfl rfl rfl ?_
    have e : p - b = y := by
      have h1 : (!decide (p - b = y)) = false := hb
      rw [Bool.not_eq_false', decide_eq_true_eq] at h1
      exact h1
    exact iw_loop X u he hn hl hch hI hb' p2 b1 hK n 0 (Int32.ofInt 0) (Int32.ofInt 1) rfl (by decide) (Or.inr rfl) (fun _ => by rw [← hs, e, hy])
end IW
theorem fd_of_pv {GF : GH} {C : List AC} {a k ci : Nat} {vs : List AV} {z : Int} (ha : ¬ 999 ≤ a) (hC : ea_nt C a = some (.inr (ci, vs))) (h : pv GF C a k z) : ∃ x : Int32, fd_g C a k x ∧ x.toInt = z := by
  unfold pv at h
  rw [if_neg ha] at h
  obtain ⟨x, h1, h2⟩ := h
  unfold cv at h1
  rw [hC] at h1
  exact ⟨x, ⟨ci, vs, hC, h1⟩, h2⟩
theorem iw_tr (X : Option (List AI)) (u : Nat) {q n : Nat} (he : (q + 1) % 2 = 0) (hn : n ≤ 100) (hm : (q + 4, n) ∈ iw_ts) : cx_ok (tb_P X) tb_G (rf_G u) ((216, [.inr (.inl 190), .inr (.inr (q + 4))], [], (1, 0, 1), [], [(190, 19, 0, 400), (190, 21, 0, 400)]), [], 1, ([], []), ([], [(.inr (.inl 1), .inr (.inl 0), -(n : Int))])) := by
  intro vs C EV hvs hI hpre hrel
  obtain ⟨v0, t0, rfl, h0, hvs1⟩ := ea_rl_cons hvs
  obtain ⟨v1, t1, rfl, h1, hvs2⟩ := ea_rl_cons hvs1
  obtain rfl := ea_rl_nil hvs2
  obtain rfl : v0 = .inr (.inl (some 190)) := h0
  obtain rfl : v1 = .inr (.inr (.inr (.inr (q + 1)))) := h1
  obtain ⟨zP, E1, rfl, ⟨pP, p1, p2⟩, hp2⟩ := ea_rl_cons hpre
  obtain ⟨zB, E2, rfl, ⟨pB, b1, b2⟩, hp3⟩ := ea_rl_cons hp2
  obtain rfl := ea_rl_nil hp3
  dsimp only at p1 p2 b1 b2
  obtain ⟨ms, m1, m2, m3⟩ := hI_f hI (show tb_G 190 = some (.inl (12, _)) from rfl)
  obtain ⟨p, fp, rfl⟩ := fd_of_pv (a := 190) (by decide) m1 pP
  obtain ⟨b, fb, rfl⟩ := fd_of_pv (a := 190) (by decide) m1 pB
  obtain ⟨hl, hch⟩ := iw_ok X u hm
  refine iw_run X u he hn hl hch hI fp fb p1 p2 b1 b2 (fun v hv hpb => ?_)
  refine ⟨_, rfl, hI, fr_c_rf _ _ C, ⟨v, rfl, ?_, ?_⟩, ?_⟩
  · show (0 : Int) ≤ v.toInt
    rcases hv with rfl | rfl <;> decide
  · show v.toInt ≤ (1 : Int)
    rcases hv with rfl | rfl <;> decide
  · rcases hv with rfl | rfl
    · exact ⟨⟨[], trivial⟩, fun q hq => nomatch hq⟩
    · refine ⟨⟨[], trivial⟩, fun q hq => ?_⟩
      rcases List.mem_cons.mp hq with rfl | hq
      · exact ⟨b.toInt, p.toInt, rfl, rfl, by have := hpb rfl; dsimp only; omega⟩
      · exact nomatch hq
theorem tr_h11 (X : Option (List AI)) (u : Nat) : cx_ok (tb_P X) tb_G (rf_G u) trk_11 := iw_tr X u (q := 11744405) (n := 2) (by decide) (by decide) (by decide)
theorem tr_h12 (X : Option (List AI)) (u : Nat) : cx_ok (tb_P X) tb_G (rf_G u) trk_12 := iw_tr X u (q := 12138383) (n := 2) (by decide) (by decide) (by decide)
theorem tr_h13 (X : Option (List AI)) (u : Nat) : cx_ok (tb_P X) tb_G (rf_G u) trk_13 := iw_tr X u (q := 2989669283) (n := 3) (by decide) (by decide) (by decide)
theorem tr_h14 (X : Option (List AI)) (u : Nat) : cx_ok (tb_P X) tb_G (rf_G u) trk_14 := iw_tr X u (q := 2989961357) (n := 3) (by decide) (by decide) (by decide)
theorem tr_h15 (X : Option (List AI)) (u : Nat) : cx_ok (tb_P X) tb_G (rf_G u) trk_15 := iw_tr X u (q := 3082042245) (n := 3) (by decide) (by decide) (by decide)
theorem tr_h16 (X : Option (List AI)) (u : Nat) : cx_ok (tb_P X) tb_G (rf_G u) trk_16 := iw_tr X u (q := 3124213513) (n := 3) (by decide) (by decide) (by decide)
theorem tr_h17 (X : Option (List AI)) (u : Nat) : cx_ok (tb_P X) tb_G (rf_G u) trk_17 := iw_tr X u (q := 3165696515) (n := 3) (by decide) (by decide) (by decide)
theorem tr_h18 (X : Option (List AI)) (u : Nat) : cx_ok (tb_P X) tb_G (rf_G u) trk_18 := iw_tr X u (q := 784791024679) (n := 4) (by decide) (by decide) (by decide)
theorem tr_h19 (X : Option (List AI)) (u : Nat) : cx_ok (tb_P X) tb_G (rf_G u) trk_19 := iw_tr X u (q := 784791157281) (n := 4) (by decide) (by decide) (by decide)
theorem tr_h20 (X : Option (List AI)) (u : Nat) : cx_ok (tb_P X) tb_G (rf_G u) trk_20 := iw_tr X u (q := 786829588901) (n := 4) (by decide) (by decide) (by decide)
theorem tr_h21 (X : Option (List AI)) (u : Nat) : cx_ok (tb_P X) tb_G (rf_G u) trk_21 := iw_tr X u (q := 795385967383) (n := 4) (by decide) (by decide) (by decide)
theorem tr_h22 (X : Option (List AI)) (u : Nat) : cx_ok (tb_P X) tb_G (rf_G u) trk_22 := iw_tr X u (q := 797567332889) (n := 4) (by decide) (by decide) (by decide)
theorem tr_h23 (X : Option (List AI)) (u : Nat) : cx_ok (tb_P X) tb_G (rf_G u) trk_23 := iw_tr X u (q := 196476243687425) (n := 5) (by decide) (by decide) (by decide)
theorem tr_h24 (X : Option (List AI)) (u : Nat) : cx_ok (tb_P X) tb_G (rf_G u) trk_24 := iw_tr X u (q := 198125670153119) (n := 5) (by decide) (by decide) (by decide)
theorem tr_h25 (X : Option (List AI)) (u : Nat) : cx_ok (tb_P X) tb_G (rf_G u) trk_25 := iw_tr X u (q := 201467113190791) (n := 5) (by decide) (by decide) (by decide)
theorem tr_h26 (X : Option (List AI)) (u : Nat) : cx_ok (tb_P X) tb_G (rf_G u) trk_26 := iw_tr X u (q := 203627540166419) (n := 5) (by decide) (by decide) (by decide)
theorem tr_h27 (X : Option (List AI)) (u : Nat) : cx_ok (tb_P X) tb_G (rf_G u) trk_27 := iw_tr X u (q := 204215892260251) (n := 5) (by decide) (by decide) (by decide)
theorem tr_h28 (X : Option (List AI)) (u : Nat) : cx_ok (tb_P X) tb_G (rf_G u) trk_28 := iw_tr X u (q := 204756940403467) (n := 5) (by decide) (by decide) (by decide)
theorem tr_h29 (X : Option (List AI)) (u : Nat) : cx_ok (tb_P X) tb_G (rf_G u) trk_29 := iw_tr X u (q := 52280337941016721) (n := 6) (by decide) (by decide) (by decide)
theorem tr_h30 (X : Option (List AI)) (u : Nat) : cx_ok (tb_P X) tb_G (rf_G u) trk_30 := iw_tr X u (q := 13200821491936309661) (n := 7) (by decide) (by decide) (by decide)
end
section
/-! HANDS AND CHECKER: heads that are walked by hand, the others by the checker; contracts at calls; locals -/
section HH
variable {P : EP} {G : Nat → Option CT} {GF : GH} {gs : GS} {cts : Nat → List CX} {mac : Nat → Nat → Option (CX × Nat)} {hd : Nat → Option HX} {c : CX}
/-- a head by hand: given that all heads below are right -/
def hh_ok (P : EP) (G : Nat → Option CT) (GF : GH) (hd : Nat → Option HX) (c : CX) (pc : Nat) (h : HX) : Prop := ∀ (C0 : List AC) (EV : List Int) (cl : List (Nat × AV)) (C : List AC) (z : Int), pb_g GF C0 c.1.2.2.2.2.2 EV → hx_g GF G h EV cl C → mt_g GF cl EV C h.2.2.2.2 z → 0 ≤ h.2.2.2.1 - z → fr_c GF c.1.2.2.1 C0 C → (∀ pc' h' cl' C' z', hd pc' = some h' → hx_g GF G h' EV cl' C' → mt_g GF cl' EV C' h'.2.2.2.2 z' → 0 ≤ h'.2.2.2.1 - z' → h'.2.2.2.1 - z' < h.2.2.2.1 - z → fr_c GF c.1.2.2.1 C0 C' → ok_ P c.1.1 pc' cl' [] C' (cx_post GF G c EV C0)) → ok_ P c.1.1 pc cl [] C (cx_post GF G c EV C0)
theorem cx_by_h (h9 : ∀ b, 999 ≤ b → G b = none) (hgs : gs_ok GF gs) (hct : ∀ mj c', c' ∈ cts mj → c'.1.1 = mj ∧ cx_ok P G GF c') (hmc : ∀ m pc mc, mac m pc = some mc → mc_ok P G GF m pc mc.1 mc.2) (n : Nat) (hhd : ∀ pc h, hd pc = some h → hx_ck P G gs cts mac hd c n pc h = true ∨ hh_ok P G GF hd c pc h) (hen : cx_en P G gs cts mac hd c n = true) : cx_ok P G GF c := by
  intro vs C0 EV hvs hI hpre hrel
  have main : ∀ (N : Nat) (pc : Nat) (h : HX), hd pc = some h → ∀ cl C z, hx_g GF G h EV cl C → mt_g GF cl EV C h.2.2.2.2 z → 0 ≤ h.2.2.2.1 - z → (h.2.2.2.1 - z).toNat = N → fr_c GF c.1.2.2.1 C0 C → ok_ P c.1.1 pc cl [] C (cx_post GF G c EV C0) := by
    intro N
    induction N using Nat.strongRecOn with
    | ind N IHN =>
      intro pc h hp cl C z hg hm hz hN hfr
      rcases hhd pc h hp with hck | hand
      · unfold hx_ck at hck
        obtain ⟨r0, o1, o2, o3, o4⟩ := en_i_ok xe_0_g hpre
        have hh0 : xh_g r0 G (en_i c.1.2.2.2.2.2 xe_0).2 C := xh_g_mono o1 o4 (show xh_g rn_0 G xe_0 C from hg.1)
        have hg0 : gh_g r0 GF (en_i c.1.2.2.2.2.2 xe_0).2 C := gh_g_mono o1 o4 (gh_0 C)
        obtain ⟨r1, a1, a2, a3, a4⟩ := hl_in_ok o2 hg.2.1
        obtain ⟨NV, hNV⟩ := hg.2.2.1
        obtain ⟨r2, b1, b2, b3, b4⟩ := pb_i_ok h9 a2 (xh_g_mono a1 a4 hh0) (gh_g_mono a1 a4 hg0) hNV
        have hl2 := xl_g_mono b1 a3
        have hn2 := en_g_mono (rn_le_tr a1 b1) o3
        obtain ⟨e3, d1, d2, d3⟩ := rl_i_ok b2 hl2 hn2 b3 b4 hg.2.2.2
        rw [d1] at hck
        dsimp only at hck
        rw [fEa_eq] at hck
        have hh3 := xh_g_mono (rn_le_rf r2) d3 b3
        have hg3 := gh_g_mono (rn_le_rf r2) d3 b4
        split at hck
        · rename_i l hl
          obtain ⟨k1, k2⟩ := mt_x_ok d2 hl2 hn2 hh3 hg3 hl
          have hz' : z = ln_z r2 l := (k2 z).mp hm
          have hI2 := xw2_ok (P := P) (G := G) (GF := GF) (gs := gs) (cts := cts) (mac := mac) (hd := hd) (c := c) (en := (en_i c.1.2.2.2.2.2 xe_0).1) (EV := EV) (C0 := C0) (st := some (h.2.2.2.1, l)) (Q := fun u => 0 ≤ u ∧ u < h.2.2.2.1 - z) h9 hgs hct hmc (fun pc' h' hp' cl' C' z' hg' hm' hq' hfr' => IHN ((h'.2.2.2.1 - z').toNat) (by omega) pc' h' hp' cl' C' z' hg' hm' hq'.1 rfl hfr') n
          refine xz2_ok h9 hgs hct hmc hI2 hck r2 cl [] C [] ⟨k1, fun u hu hlt => ⟨hu, ?_⟩⟩ hn2 d2 hl2 trivial hh3 hg3 trivial hfr
          rw [hz']
          exact hlt
        · cases hck
      · exact hand C0 EV cl C z hpre hg hm hz hfr (fun pc' h' cl' C' z' hp' hg' hm' h0' hlt' hfr' => IHN ((h'.2.2.2.1 - z').toNat) (by omega) pc' h' hp' cl' C' z' hg' hm' h0' rfl hfr')
  obtain ⟨r0, o1, o2, o3, o4⟩ := en_i_ok xe_0_g hpre
  have hh0 : xh_g r0 G (en_i c.1.2.2.2.2.2 xe_0).2 C0 := xh_g_mono o1 o4 (show xh_g rn_0 G xe_0 C0 from hI)
  have hg0 : gh_g r0 GF (en_i c.1.2.2.2.2.2 xe_0).2 C0 := gh_g_mono o1 o4 (gh_0 C0)
  obtain ⟨r1, a1, a2, a3, a4⟩ := xa_in_ok o2 hvs
  have hn1 := en_g_mono a1 o3
  obtain ⟨b1, b2, b3⟩ := pl_i_ok h9 a2 (xh_g_mono a1 a4 hh0) (gh_g_mono a1 a4 hg0) hpre hn1
  have hl1 := xa_ar_ok 0 a3
  obtain ⟨e3, d1, d2, d3⟩ := rl_i_ok b1 hl1 hn1 b2 b3 hrel
  unfold cx_en at hen
  rw [d1] at hen
  dsimp only at hen
  rw [fEa_eq] at hen
  exact xw2_ok (P := P) (G := G) (GF := GF) (gs := gs) (cts := cts) (mac := mac) (hd := hd) (c := c) (en := (en_i c.1.2.2.2.2.2 xe_0).1) (EV := EV) (C0 := C0) (st := none) (Q := fun u => 0 ≤ u) h9 hgs hct hmc (fun pc' h' hp' cl' C' z' hg' hm' hq' hfr' => main _ pc' h' hp' cl' C' z' hg' hm' hq' rfl hfr') n _ _ _ _ _ _ hen r1 _ [] C0 [] (fun z hz => hz) hn1 d2 hl1 trivial (xh_g_mono (rn_le_rf r1) d3 b2) (gh_g_mono (rn_le_rf r1) d3 b3) trivial (fr_c_rf GF _ C0)
end HH
/-! locals -/
theorem lk_s1 (L : List (Nat × AV)) (i : Nat) (a : AV) : ea_lk (ea_s1 L i a) i = some a := by
  show (bif Nat.beq i i then some a else _) = _
  rw [Nat.beq_refl]
  rfl
theorem lk_filt {f : Nat × AV → Bool} {j : Nat} {v : AV} : ∀ {L : List (Nat × AV)}, ea_lk L j = some v → (∀ q ∈ L, q.1 = j → f q = true) → ea_lk (L.filter f) j = some v
  | [], h, _ => by cases h
  | q :: t, h, hf => by
    unfold ea_lk at h
    cases hb : Nat.beq q.1 j with
    | true =>
      rw [hb] at h
      simp only [cond_true] at h
      rw [List.filter_cons, if_pos (hf q List.mem_cons_self (Nat.eq_of_beq_eq_true hb))]
      unfold ea_lk
      rw [hb]
      exact h
    | false =>
      rw [hb] at h
      simp only [cond_false] at h
      have ih := lk_filt h (fun q' hq' => hf q' (List.mem_cons_of_mem _ hq'))
      rw [List.filter_cons]
      split
      · unfold ea_lk
        rw [hb]
        exact ih
      · exact ih
/-- a store to another local, not behind it -/
theorem lk_s1_ne {L : List (Nat × AV)} {i j : Nat} {a v : AV} (h : ea_lk L j = some v) (hij : j ≠ i) (hj : j + 1 ≠ i) : ea_lk (ea_s1 L i a) j = some v := by
  unfold ea_s1
  show (bif Nat.beq i j then some a else ea_lk (L.filter _) j) = some v
  have hb : Nat.beq i j = false := by
    cases hb : Nat.beq i j with
    | false => rfl
    | true => exact absurd (Nat.eq_of_beq_eq_true hb).symm hij
  rw [hb]
  refine lk_filt h (fun q _ hq => ?_)
  rw [hq]
  simp [hij, hj]
/-- a store to the next local, where an int or a reference stands -/
theorem lk_filt1 {i j : Nat} {v : AV} (hv : ea_cat v = 1) : ∀ {L : List (Nat × AV)}, ea_lk L j = some v → j ≠ i → ea_lk (L.filter (fun q => !(q.1 == i) && !(q.1 + 1 == i && ea_cat q.2 == 2))) j = some v
  | [], h, _ => by cases h
  | q :: t, h, hij => by
    unfold ea_lk at h
    cases hb : Nat.beq q.1 j with
    | true =>
      rw [hb] at h
      simp only [cond_true, Option.some.injEq] at h
      have e := Nat.eq_of_beq_eq_true hb
      rw [List.filter_cons, if_pos (by rw [h, hv, e]; simp [hij])]
      unfold ea_lk
      rw [hb, h]
      rfl
    | false =>
      rw [hb] at h
      simp only [cond_false] at h
      have ih := lk_filt1 hv h hij
      rw [List.filter_cons]
      split
      · unfold ea_lk
        rw [hb]
        exact ih
      · exact ih
theorem lk_s1_n1 {L : List (Nat × AV)} {i j : Nat} {a v : AV} (h : ea_lk L j = some v) (hv : ea_cat v = 1) (hij : j ≠ i) : ea_lk (ea_s1 L i a) j = some v := by
  unfold ea_s1
  show (bif Nat.beq i j then some a else ea_lk (L.filter _) j) = some v
  have hb : Nat.beq i j = false := by
    cases hb : Nat.beq i j with
    | false => rfl
    | true => exact absurd (Nat.eq_of_beq_eq_true hb).symm hij
  rw [hb]
  exact lk_filt1 hv h hij
section OKS3
variable {P : EP} {m pc : Nat} {L : List (Nat × AV)} {S : List AV} {C : List AC} {K : Option AV ⊕ Nat → List AC → Prop}
theorem ok_an {k : Fin 4} {v : AV} (hc : ep_cod P m pc = some (.aload_n k, 1)) (hl : ea_lk L k = some v) (hr : ea_isr v = true) (h : ok_ P m (pc + 1) L (v :: S) C K) : ok_ P m pc L S C K :=
  ok_p hc rfl (show (match ea_lk L k with
    | some a => if ea_isr a = true then some (pc + 1, L, a :: S) else none
    | none => none) = some (pc + 1, L, v :: S) by rw [hl]; dsimp only; rw [if_pos hr]) h
theorem ok_in {k : Fin 4} {x : AI} (hc : ep_cod P m pc = some (.iload_n k, 1)) (hl : ea_lk L k = some (.inl x)) (h : ok_ P m (pc + 1) L (.inl x :: S) C K) : ok_ P m pc L S C K :=
  ok_p hc rfl (show (match ea_lk L k with
    | some (.inl a) => some (pc + 1, L, .inl a :: S)
    | _ => none) = some (pc + 1, L, .inl x :: S) by rw [hl]) h
theorem ok_il {k : Nat} {x : AI} (hc : ep_cod P m pc = some (.iload k, 2)) (hl : ea_lk L k = some (.inl x)) (h : ok_ P m (pc + 2) L (.inl x :: S) C K) : ok_ P m pc L S C K :=
  ok_p hc rfl (show (match ea_lk L k with
    | some (.inl a) => some (pc + 2, L, .inl a :: S)
    | _ => none) = some (pc + 2, L, .inl x :: S) by rw [hl]) h
theorem ok_ii {k : Nat} {n : Int} {x : Int32} (hc : ep_cod P m pc = some (.iinc k n, 3)) (hk : k < ep_nls P m) (hl : ea_lk L k = some (.inl (.inl x))) (h : ok_ P m (pc + 3) (ea_s1 L k (.inl (.inl (x + Int32.ofInt n)))) S C K) : ok_ P m pc L S C K :=
  ok_p hc rfl (show (match ea_lk L k with
    | some (.inl a) => if k < ep_nls P m then some (pc + 3, ea_s1 L k (.inl (iv_2 (fun x y => x + y) iv_addg a (.inl (Int32.ofInt n)))), S) else none
    | _ => none) = some (pc + 3, ea_s1 L k (.inl (.inl (x + Int32.ofInt n))), S) by rw [hl]; dsimp only; rw [if_pos hk]; rfl) h
/-- a call by its contract -/
theorem ok_cx {G : Nat → Option CT} {GF : GH} {c : CX} (hcx : cx_ok P G GF c) {x n a ci : Nat} {vs : List AV} {as T : List AV} {EV : List Int} (hc : ep_cod P m pc = some (.invokevirtual x, 3)) (hp : ep_pl P m x = some (2, c.1.1, n)) (hC : ea_nt C a = some (.inr (ci, vs))) (ho : ep_own P c.1.1 = ci) (hn : as.length = n) (hd : (Nat.blt (ep_dep P c.1.1) (ep_dep P m) && (Nat.ble (ea_wt T) 8 && Nat.ble (ea_wt (.inr (.inl (some a)) :: as)) (ep_nls P c.1.1))) = true) (hv : ea_rl at_g c.1.2.1 (.inr (.inl (some a)) :: as)) (hI : xI G C) (hE : pb_g GF C c.1.2.2.2.2.2 EV) (hR : rl_g GF (ea_ar 0 (.inr (.inl (some a)) :: as)) EV C c.2.1) (h : ∀ v C', xI G C' → fr_c GF c.1.2.2.1 C C' → rt_g c.1.2.2.2.1 v → po_g GF (cx_po c v) v EV C' → ok_ P m (pc + 3) L (v.toList ++ T) C' K) : ok_ P m pc L (as.reverse ++ .inr (.inl (some a)) :: T) C K := by
  refine ok_cv hc hp hC ho hn hd (ok_post (hcx _ C EV hv hI hE hR) (fun o C' hq => ?_))
  obtain ⟨v, rfl, o1, o2, o3, o4⟩ := hq
  exact h v C' o1 o2 o3 o4
end OKS3
theorem sp_cl {GF : GH} {cl cl' : List (Nat × AV)} {EV : List Int} {C : List AC} {s : Nat ⊕ (Nat × Nat)} {z : Int} (h : sp_g GF cl EV C (.inr s) z) : sp_g GF cl' EV C (.inr s) z := by
  match s, h with
  | .inl j, h => exact h
  | .inr q, h => exact h
/-- a relation that names no local -/
def rl_n (q : RL) : Bool := match q.1, q.2.1 with
  | .inr _, .inr _ => true
  | _, _ => false
theorem rl_cl {GF : GH} {cl cl' : List (Nat × AV)} {EV : List Int} {C : List AC} {l l' : List RL} (h : rl_g GF cl EV C l) (hs : ∀ q ∈ l', q ∈ l) (hn : l'.all rl_n = true) : rl_g GF cl' EV C l' := fun q hq => by
  have h1 := List.all_eq_true.mp hn q hq
  obtain ⟨z1, z2, s1, s2, s3⟩ := h q (hs q hq)
  obtain ⟨a, b, k⟩ := q
  match a, b, h1, s1, s2 with
  | .inr a, .inr b, _, s1, s2 => exact ⟨z1, z2, sp_cl s1, sp_cl s2, s3⟩
/-- the n-th place of those known -/
theorem pb_nt {GF : GH} {C : List AC} : ∀ {l : List PB} {EV : List Int}, pb_g GF C l EV → ∀ {k : Nat} {q : PB}, ea_nt l k = some q → ∃ z, ea_nt EV k = some z ∧ pv GF C q.1 q.2.1 z ∧ q.2.2.1 ≤ z ∧ z ≤ q.2.2.2
  | [], _, _, k, q, hq => by cases hq
  | p :: t, EV, h, k, q, hq => by
    obtain ⟨b, t', rfl, h1, h2⟩ := ea_rl_cons h
    cases k with
    | zero => cases hq; exact ⟨b, rfl, h1⟩
    | succ k => exact pb_nt h2 (show ea_nt t k = some q from hq)
/-- a relation as a row of numbers -/
theorem rl_z {GF : GH} {cl : List (Nat × AV)} {EV : List Int} {C : List AC} {l : List RL} (h : rl_g GF cl EV C l) {a b : SP} {k : Int} (hq : (a, b, k) ∈ l) {z1 z2 : Int} (h1 : sp_g GF cl EV C a z1) (h2 : sp_g GF cl EV C b z2) : z1 - z2 ≤ k := by
  obtain ⟨y1, y2, s1, s2, s3⟩ := h _ hq
  rw [sp_one h1 s1, sp_one h2 s2]
  exact s3
theorem pv_f {GF : GH} {C : List AC} {a k ci : Nat} {vs : List AV} {x : Int32} (ha : ¬ 999 ≤ a) (hC : ea_nt C a = some (.inr (ci, vs))) (hx : ea_nt vs k = some (.inl (.inl x))) : pv GF C a k x.toInt := by
  unfold pv
  rw [if_neg ha]
  refine ⟨x, ?_, rfl⟩
  unfold cv
  rw [hC]
  exact hx
end
section
/-! CONTRACTS BY HAND: a matter that is told -/
theorem cx_en_scr (X : Option (List AI)) {G : Nat → Option CT} {gs : GS} {cts : Nat → List CX} {mac : Nat → Nat → Option (CX × Nat)} {hd : Nat → Option HX} {c : CX} (n : Nat) : cx_en (tb_P X) G gs cts mac hd c n = cx_en (tb_P none) G gs cts mac hd c n := by
  unfold cx_en
  simp only [xw2_scr X]
def mt_P : List PB := [(190, 19, 0, 400), (190, 21, 0, 400), (190, 25, 0, 400), (190, 22, 0, 6)]
def mt_R : List RL := [(.inr (.inl 0), .inr (.inr (190, 19)), 0), (.inr (.inr (190, 25)), .inr (.inl 1), 0), (.inr (.inl 1), .inr (.inr (190, 25)), 0), (.inr (.inr (190, 22)), .inr (.inl 2), 0), (.inr (.inl 2), .inr (.inr (190, 22)), 0), (.inr (.inr (190, 21)), .inr (.inr (190, 19)), 0)]
def mt_h4 : HX := ([(0, .inr (.inl 190))], mt_P, mt_R, 401, [(1, some (.inr (.inr (190, 19))))])
def mt_h28 : HX := ([(0, .inr (.inl 190))], mt_P, mt_R, 0, [(1, none)])
def mt_hs : List (Nat × HX) := [(4, mt_h4), (28, mt_h28)]
set_option maxRecDepth 100000 in
theorem mt_ck : (cx_en (tb_P none) tb_G tr_gs (tr_ct 69) (fun _ _ => none) (hx_k mt_hs) trk_69 400 && hx_ck (tb_P none) tb_G tr_gs (tr_ct 69) (fun _ _ => none) (hx_k mt_hs) trk_69 400 4 mt_h4) = true := by decide +kernel
theorem tr_hct {X : Option (List AI)} {u r : Nat} (IH : ∀ q, q < r → ∀ u, cx_ok (tb_P X) tb_G (rf_G u) (tr_at q)) : ∀ mj c', c' ∈ tr_ct r mj → c'.1.1 = mj ∧ cx_ok (tb_P X) tb_G (rf_G u) c' := fun mj c' hc' => by
  obtain ⟨q, h1, h2, rfl⟩ := tr_f_mem (show c' ∈ tr_f r (tr_K mj) from hc')
  exact ⟨(tr_Kk h1).1, IH q h2 u⟩
theorem i32_48 : ((Int8.ofInt 48).toInt32).toInt = 48 := by decide
theorem i32_8 : ((Int8.ofInt 8).toInt32).toInt = 8 := by decide
set_option maxRecDepth 20000 in
set_option maxHeartbeats 1000000 in
theorem mt_hand (X : Option (List AI)) (u : Nat) : hh_ok (tb_P X) tb_G (rf_G u) (hx_k mt_hs) trk_69 28 mt_h28 := by
  intro C0 EV cl C z hE hg hm hz hfr _
  obtain ⟨hI, hloc, ⟨NV, hNV⟩, hrl⟩ := hg
  obtain ⟨l0, hl0, rfl⟩ := hloc _ List.mem_cons_self
  have hNV' := hNV
  obtain ⟨zP, E1, rfl, ⟨pP, p1, p2⟩, hp1⟩ := ea_rl_cons hNV'
  obtain ⟨zB, E2, rfl, ⟨pB, b1, b2⟩, hp2⟩ := ea_rl_cons hp1
  dsimp only at p1 p2 b1 b2
  obtain ⟨ms, m1, m2, m3⟩ := hI_f hI (show tb_G 190 = some (.inl (12, _)) from rfl)
  obtain ⟨_, r17, rfl⟩ := m3 17 (.inr 203) rfl
  obtain ⟨d, us, a1, a2⟩ := hI_a hI (show tb_G 203 = some (.inr (2, 400, _, _)) from rfl)
  obtain ⟨p, ⟨ci, vs', f1, r19⟩, rfl⟩ := fd_of_pv (a := 190) (by decide) m1 pP
  rw [m1] at f1
  cases f1
  obtain ⟨b, ⟨ci, vs', f1, r21⟩, rfl⟩ := fd_of_pv (a := 190) (by decide) m1 pB
  rw [m1] at f1
  cases f1
  have e69 : ∀ y : Int32, cx_po trk_69 (some (.inl (.inl y))) = trk_69.2.2.2.2 := fun y => by
    show (if _ then _ else _) = _
    split <;> rfl
  have hend : ∀ y : Int32, -1584 ≤ y.toInt → y.toInt ≤ 63 → cx_post (rf_G u) tb_G trk_69 EV C0 (.inl (some (.inl (.inl y)))) C := fun y y1 y2 => by
    refine ⟨_, rfl, hI, hfr, ⟨y, rfl, y1, y2⟩, ?_⟩
    rw [e69]
    exact ⟨⟨_, hNV⟩, rl_cl hrl (fun q hq => by
      rcases List.mem_cons.mp hq with rfl | hq
      · exact .head _
      rcases List.mem_cons.mp hq with rfl | hq
      · exact .tail _ (.head _)
      rcases List.mem_cons.mp hq with rfl | hq
      · exact .tail _ (.tail _ (.head _))
      rcases List.mem_cons.mp hq with rfl | hq
      · exact .tail _ (.tail _ (.tail _ (.head _)))
      rcases List.mem_cons.mp hq with rfl | hq
      · exact .tail _ (.tail _ (.tail _ (.tail _ (.head _))))
      · exact nomatch hq) rfl⟩
  have byte : ∀ {x : Int32} {j : Nat}, x.toInt = (j : Int) → j < 400 → ∃ w : Int32, ea_al d us j = .inl (.inl w) ∧ -128 ≤ w.toInt ∧ w.toInt ≤ 127 := fun {x j} _ hj => by
    obtain ⟨f, f1, f2⟩ := el_get (by decide) (a2 j hj)
    rw [Nat.mod_one] at f1
    cases (show some (Sum.inl (-128, 127)) = some f from f1)
    exact f2
  have hs : (p - b).toInt = p.toInt - b.toInt := i32_sub (by omega) (by omega)
  refine ok_an rfl hl0 rfl ?_
  refine ok_gf rfl rfl m1 r19 ?_
  refine ok_an rfl hl0 rfl ?_
  refine ok_gf rfl rfl m1 r21 ?_
  refine ok_p rfl rfl rfl ?_
  refine ok_p rfl rfl rfl ?_
  cases hq : ea_ck .eq (p - b) (Int32.ofInt 2) with
  | false =>
    refine ok_ic false rfl rfl hq ?_
    refine ok_p rfl rfl rfl ?_
    exact ok_r rfl rfl rfl rfl rfl (hend _ (by decide) (by decide))
  | true =>
    have h2 : (p - b).toInt = 2 := by
      have h1 : decide (p - b = Int32.ofInt 2) = true := hq
      rw [decide_eq_true_eq] at h1
      rw [h1]
      decide
    refine ok_ic true rfl rfl hq ?_
    have ixb : b.toInt = ((b.toInt.toNat : Nat) : Int) := by omega
    obtain ⟨w, w1, w2, w3⟩ := byte ixb (by omega)
    have ixc : (b + Int32.ofInt 1).toInt = ((b.toInt.toNat + 1 : Nat) : Int) := by
      rw [i32_add (by rw [show (Int32.ofInt 1).toInt = 1 by decide]; omega) (by rw [show (Int32.ofInt 1).toInt = 1 by decide]; omega), show (Int32.ofInt 1).toInt = 1 by decide]
      omega
    obtain ⟨y, y1, y2, y3⟩ := byte ixc (by omega)
    have s1 : (w - (Int8.ofInt 48).toInt32).toInt = w.toInt - 48 := by rw [i32_sub (by rw [i32_48]; omega) (by rw [i32_48]; omega), i32_48]
    have s2 : (y - (Int8.ofInt 48).toInt32).toInt = y.toInt - 48 := by rw [i32_sub (by rw [i32_48]; omega) (by rw [i32_48]; omega), i32_48]
    have l0 := lk_s1_n1 (a := .inl (.inl (w - (Int8.ofInt 48).toInt32))) hl0 rfl (show 0 ≠ 1 by decide)
    have l1 := lk_s1 cl 1 (.inl (.inl (w - (Int8.ofInt 48).toInt32)))
    refine ok_an rfl hl0 rfl ?_
    refine ok_gf rfl rfl m1 r17 ?_
    refine ok_an rfl hl0 rfl ?_
    refine ok_gf rfl rfl m1 r21 ?_
    refine ok_bl rfl a1 (ix_of ixb (by omega)) w1 ?_
    refine ok_p rfl rfl rfl ?_
    refine ok_p rfl rfl rfl ?_
    refine ok_p rfl rfl rfl ?_
    refine ok_an rfl l0 rfl ?_
    refine ok_gf rfl rfl m1 r17 ?_
    refine ok_an rfl l0 rfl ?_
    refine ok_gf rfl rfl m1 r21 ?_
    refine ok_p rfl rfl rfl ?_
    refine ok_p rfl rfl rfl ?_
    refine ok_bl rfl a1 (ix_of ixc (by omega)) y1 ?_
    refine ok_p rfl rfl rfl ?_
    refine ok_p rfl rfl rfl ?_
    refine ok_p rfl rfl rfl ?_
    have k1 := lk_s1_n1 (a := .inl (.inl (y - (Int8.ofInt 48).toInt32))) l1 rfl (show 1 ≠ 2 by decide)
    have k2 := lk_s1 (ea_s1 cl 1 (.inl (.inl (w - (Int8.ofInt 48).toInt32)))) 2 (.inl (.inl (y - (Int8.ofInt 48).toInt32)))
    refine ok_in rfl k1 ?_
    refine ok_p rfl rfl rfl ?_
    cases hd : ea_ck .ge (w - (Int8.ofInt 48).toInt32) (Int8.ofInt 8).toInt32 with
    | true =>
      refine ok_ic true rfl rfl hd ?_
      refine ok_p rfl rfl rfl ?_
      exact ok_r rfl rfl rfl rfl rfl (hend _ (by decide) (by decide))
    | false =>
      refine ok_ic false rfl rfl hd ?_
      have d1 : ¬ (Int8.ofInt 8).toInt32 ≤ (w - (Int8.ofInt 48).toInt32) := of_decide_eq_false hd
      rw [Int32.le_iff_toInt_le, s1, i32_8] at d1
      refine ok_in rfl k2 ?_
      refine ok_p rfl rfl rfl ?_
      cases he : ea_ck .ge (y - (Int8.ofInt 48).toInt32) (Int8.ofInt 8).toInt32 with
      | true =>
        refine ok_ic true rfl rfl he ?_
        refine ok_p rfl rfl rfl ?_
        exact ok_r rfl rfl rfl rfl rfl (hend _ (by decide) (by decide))
      | false =>
        refine ok_ic false rfl rfl he ?_
        have d2 : ¬ (Int8.ofInt 8).toInt32 ≤ (y - (Int8.ofInt 48).toInt32) := of_decide_eq_false he
        rw [Int32.le_iff_toInt_le, s2, i32_8] at d2
        refine ok_p rfl rfl rfl ?_
        refine ok_in rfl k1 ?_
        refine ok_p rfl rfl rfl ?_
        refine ok_in rfl k2 ?_
        refine ok_p rfl rfl rfl ?_
        refine ok_p rfl rfl rfl ?_
        have t1 : ((Int8.ofInt 8).toInt32 * (w - (Int8.ofInt 48).toInt32)).toInt = 8 * (w.toInt - 48) := by
          rw [i32_mul (by rw [i32_8, s1]; omega) (by rw [i32_8, s1]; omega), i32_8, s1]
        have t2 : ((Int8.ofInt 8).toInt32 * (w - (Int8.ofInt 48).toInt32) + (y - (Int8.ofInt 48).toInt32)).toInt = 8 * (w.toInt - 48) + (y.toInt - 48) := by
          rw [i32_add (by rw [t1, s2]; omega) (by rw [t1, s2]; omega), t1, s2]
        exact ok_r rfl rfl rfl rfl rfl (hend ((Int8.ofInt 8).toInt32 * (w - (Int8.ofInt 48).toInt32) + (y - (Int8.ofInt 48).toInt32)) (by rw [t2]; omega) (by rw [t2]; omega))
theorem tr_h69 (X : Option (List AI)) (u : Nat) (IH : ∀ q, q < 69 → ∀ u, cx_ok (tb_P X) tb_G (rf_G u) (tr_at q)) : cx_ok (tb_P X) tb_G (rf_G u) trk_69 := by
  have h := mt_ck
  simp only [Bool.and_eq_true] at h
  refine cx_by_h tr_G9 (rf_gs u) (tr_hct IH) no_m (hd := hx_k mt_hs) 400 (fun pc a ha => ?_) (by rw [cx_en_scr X]; exact h.1)
  have hmem := hx_k_mem ha
  rcases List.mem_cons.mp hmem with e | hmem
  · cases e
    left
    rw [hx_ck_scr X]
    exact h.2
  · rcases List.mem_cons.mp hmem with e | hmem
    · cases e
      exact Or.inr (mt_hand X u)
    · exact nomatch hmem
end
section
/-! CONTRACTS BY HAND: a part of a sum is read -/
def trk_n9 : CX := ((219, [.inr (.inl 190), .inl (0, 0), .inl (999, 999)], [(190, 191), (1005, 1006)], (1, (-1), 999), [], [(190, 19, 0, 400), (190, 25, 0, 400), (190, 22, 0, 6)]), [], 0, ([(190, 19, 0, 400), (190, 21, 0, 400), (190, 25, 0, 400), (190, 22, 0, 6)], [(.inr (.inl 0), .inr (.inr (190, 19)), 0), (.inr (.inr (190, 25)), .inr (.inl 1), 0), (.inr (.inl 1), .inr (.inr (190, 25)), 0), (.inr (.inr (190, 22)), .inr (.inl 2), 0), (.inr (.inl 2), .inr (.inr (190, 22)), 0)]), ([(190, 19, 0, 400), (190, 21, 0, 400), (190, 25, 0, 400), (190, 22, 0, 6)], [(.inr (.inl 0), .inr (.inr (190, 19)), (-1)), (.inr (.inr (190, 25)), .inr (.inl 1), 0), (.inr (.inl 1), .inr (.inr (190, 25)), 0), (.inr (.inr (190, 22)), .inr (.inl 2), 0), (.inr (.inl 2), .inr (.inr (190, 22)), 0)]))
def trh_n9 : List (Nat × HX) := [(6, ([(0, .inr (.inl 190)), (1, .inl (0, 0)), (2, .inl (999, 999)), (3, .inl ((-2147483648), 2147483647))], [(190, 19, 0, 400), (190, 21, 0, 400), (190, 25, 0, 400), (190, 22, 0, 6)], [(.inr (.inl 0), .inr (.inr (190, 19)), 0), (.inr (.inr (190, 25)), .inr (.inl 1), 0), (.inr (.inl 1), .inr (.inr (190, 25)), 0), (.inr (.inr (190, 22)), .inr (.inl 2), 0), (.inr (.inl 2), .inr (.inr (190, 22)), 0), (.inr (.inr (190, 21)), .inr (.inr (190, 19)), 0), (.inr (.inl 0), .inr (.inr (190, 21)), 0)], 400, [(1, some (.inr (.inr (190, 19))))]))]
set_option maxRecDepth 100000 in
theorem n9_ck : cx_ck (tb_P none) tb_G tr_gs (tr_ct 62) (fun _ _ => none) trh_n9 trk_n9 4000 = true := by decide +kernel
theorem n9_ok (X : Option (List AI)) (u : Nat) (IH : ∀ q, q < 62 → ∀ u, cx_ok (tb_P X) tb_G (rf_G u) (tr_at q)) : cx_ok (tb_P X) tb_G (rf_G u) trk_n9 := cx_ck_ok tr_G9 (rf_gs u) (tr_hct IH) no_m (hds := trh_n9) (n := 4000) (by rw [cx_scr X]; exact n9_ck)
def rp_M : List (Nat × Nat) := [(190, 191), (202, 203), (1001, 1002), (1003, 1006)]
theorem rp_lead {u : Nat} {C : List AC} {p s : Int} (hp : pv (rf_G u) C 190 19 p) (hs : pv (rf_G u) C 190 25 s) : pv (rf_G u) C 1005 0 (p - s) := by
  show rf_v C 190 19 - rf_v C 190 25 = p - s
  rw [rf_v_pv (a := 190) (by decide) hp, rf_v_pv (a := 190) (by decide) hs]
theorem ok_ld {P : EP} {m pc x q : Nat} {u : Nat} {L : List (Nat × AV)} {S : List AV} {C : List AC} {K : Option AV ⊕ Nat → List AC → Prop} (hc : ep_cod P m pc = some (.ldc x, 2)) (hp : ep_pl P m x = some (23, q + 1, u)) (he : Nat.beq ((q + 1) % 2) 0 = true) (h : ok_ P m (pc + 2) L (.inr (.inr (.inr (.inr (q + 1)))) :: S) C K) : ok_ P m pc L S C K :=
  ok_h (C' := none) hc rfl rfl (by simp only [ea_h, hp, he, cond_true]) h
set_option maxRecDepth 20000 in
set_option maxHeartbeats 2000000 in
theorem tr_h72 (X : Option (List AI)) (u : Nat) (IH : ∀ q, q < 72 → ∀ u, cx_ok (tb_P X) tb_G (rf_G u) (tr_at q)) : cx_ok (tb_P X) tb_G (rf_G u) trk_72 := by
  intro vs C EV hvs hI hpre hrel
  obtain ⟨v0, t0, rfl, h0, hvs1⟩ := ea_rl_cons hvs
  obtain rfl := ea_rl_nil hvs1
  obtain rfl : v0 = .inr (.inl (some 190)) := h0
  obtain ⟨p0, E1, rfl, ⟨pP, p1, p2⟩, hp1⟩ := ea_rl_cons hpre
  obtain ⟨s0, E2, rfl, ⟨pS, s1, s2⟩, hp2⟩ := ea_rl_cons hp1
  obtain ⟨d0, E3, rfl, ⟨pD, d1, d2⟩, hp3⟩ := ea_rl_cons hp2
  obtain ⟨i0, E4, rfl, ⟨pI, i1, i2⟩, hp4⟩ := ea_rl_cons hp3
  obtain ⟨g0, E5, rfl, ⟨pG, g1, g2⟩, hp5⟩ := ea_rl_cons hp4
  obtain rfl := ea_rl_nil hp5
  dsimp only at p1 p2 s1 s2 d1 d2 i1 i2 g1 g2
  have hlead : i0 = p0 - s0 := by
    have h1 := rp_lead pP pS
    have h2 : rf_G u 1005 C = i0 := pI
    have h3 : rf_G u 1005 C = p0 - s0 := h1
    omega
  obtain ⟨ms, m1, m2, m3⟩ := hI_f hI (show tb_G 190 = some (.inl (12, _)) from rfl)
  have last : ∀ (v : Int32) (C3 : List AC) (zp zs zd zi zg : Int), xI tb_G C3 → fr_c (rf_G u) rp_M C C3 → pv (rf_G u) C3 190 19 zp → pv (rf_G u) C3 190 25 zs → pv (rf_G u) C3 190 22 zd → pv (rf_G u) C3 1005 0 zi → pv (rf_G u) C3 1004 0 zg → p0 ≤ zp → zp ≤ 400 → 0 ≤ zs → zs ≤ 400 → zd = d0 → (0 ≤ v.toInt → i0 ≤ zi) → zi ≤ 400 → zg = g0 + 1 → zg ≤ 400 → ok_ (tb_P X) 225 93 [(1, .inl (.inl v)), (0, .inr (.inl (some 190)))] [] C3 (cx_post (rf_G u) tb_G trk_72 [p0, s0, d0, i0, g0] C) := by
    intro v C3 zp zs zd zi zg I3 F3 qP qS qD qI qG a1 a2 a3 a4 a5 a6 a7 a8 a9
    refine ok_p rfl rfl rfl ?_
    cases hv : ea_ck .lt v 0 with
    | true =>
      refine ok_if true rfl rfl hv ?_
      refine ok_p rfl rfl rfl ?_
      refine ok_r rfl rfl rfl rfl rfl ?_
      refine ⟨_, rfl, I3, F3, ⟨_, rfl, by decide, by decide⟩, ⟨[zp, zs, zd], ⟨⟨qP, by show (0 : Int) ≤ zp; omega, a2⟩, ⟨qS, a3, a4⟩, ⟨qD, by show (0 : Int) ≤ zd; omega, by show zd ≤ (6 : Int); omega⟩, trivial⟩⟩, fun q hq => ?_⟩
      rcases List.mem_cons.mp hq with rfl | hq
      · exact ⟨p0, zp, rfl, qP, by dsimp only; omega⟩
      · exact nomatch hq
    | false =>
      have hv0 : ¬ v < 0 := of_decide_eq_false hv
      rw [Int32.lt_iff_toInt_lt, show (0 : Int32).toInt = 0 by decide] at hv0
      have a6' := a6 (by omega)
      refine ok_if false rfl rfl hv ?_
      refine ok_p rfl rfl rfl ?_
      refine ok_p rfl rfl rfl ?_
      refine ok_r rfl rfl rfl rfl rfl ?_
      refine ⟨_, rfl, I3, F3, ⟨_, rfl, by decide, by decide⟩, ⟨[zp, zs, zd, zi, zg], ⟨⟨qP, by show (0 : Int) ≤ zp; omega, a2⟩, ⟨qS, a3, a4⟩, ⟨qD, by show (0 : Int) ≤ zd; omega, by show zd ≤ (6 : Int); omega⟩, ⟨qI, by show (1 : Int) ≤ zi; omega, a7⟩, ⟨qG, by show (1 : Int) ≤ zg; omega, a9⟩, trivial⟩⟩, fun q hq => ?_⟩
      rcases List.mem_cons.mp hq with rfl | hq
      · exact ⟨p0, zp, rfl, qP, by dsimp only; omega⟩
      rcases List.mem_cons.mp hq with rfl | hq
      · exact ⟨zd, d0, qD, rfl, by dsimp only; omega⟩
      rcases List.mem_cons.mp hq with rfl | hq
      · exact ⟨d0, zd, rfl, qD, by dsimp only; omega⟩
      rcases List.mem_cons.mp hq with rfl | hq
      · exact ⟨i0, zi, rfl, qI, by dsimp only; omega⟩
      rcases List.mem_cons.mp hq with rfl | hq
      · exact ⟨zg, g0, qG, rfl, by dsimp only; omega⟩
      rcases List.mem_cons.mp hq with rfl | hq
      · exact ⟨g0, zg, rfl, qG, by dsimp only; omega⟩
      · exact nomatch hq
  have emit : ∀ (st n v : Int32) (C2 : List AC) (zp zs zd : Int) (pc : Nat), ep_cod (tb_P X) 225 pc = some (.invokevirtual 179, 3) → (∀ C3, ok_ (tb_P X) 225 93 [(1, .inl (.inl v)), (0, .inr (.inl (some 190)))] [] C3 (cx_post (rf_G u) tb_G trk_72 [p0, s0, d0, i0, g0] C) → ok_ (tb_P X) 225 (pc + 3) [(1, .inl (.inl v)), (0, .inr (.inl (some 190)))] [] C3 (cx_post (rf_G u) tb_G trk_72 [p0, s0, d0, i0, g0] C)) → xI tb_G C2 → fr_c (rf_G u) [(190, 191), (1005, 1006)] C C2 → pv (rf_G u) C2 190 19 zp → pv (rf_G u) C2 190 25 zs → pv (rf_G u) C2 190 22 zd → p0 ≤ zp → zp ≤ 400 → zs = s0 → zd = d0 → (0 ≤ v.toInt → p0 + 1 ≤ zp) → -1 ≤ st.toInt → st.toInt ≤ 5 → ok_ (tb_P X) 225 pc [(1, .inl (.inl v)), (0, .inr (.inl (some 190)))] [.inl (.inl n), .inl (.inl st), .inr (.inl (some 190))] C2 (cx_post (rf_G u) tb_G trk_72 [p0, s0, d0, i0, g0] C) := by
    intro st n v C2 zp zs zd pc hc hk I2 F2 qP qS qD a1 a2 a3 a4 a5 a6 a7
    obtain ⟨ms', m1', -, -⟩ := hI_f I2 (show tb_G 190 = some (.inl (12, _)) from rfl)
    have qI := rp_lead qP qS
    have qG : pv (rf_G u) C2 1004 0 g0 := by
      show rf_G u 1004 C2 = g0
      rw [F2.2 1004 (by decide) (by decide)]
      exact pG
    refine ok_cx (c := trk_31) (show cx_ok (tb_P X) tb_G (rf_G u) trk_31 from IH 31 (by decide) u) (as := [.inl (.inl st), .inl (.inl n)]) (T := []) (EV := [zp, zs, zd, zp - zs, g0]) hc rfl m1' rfl rfl rfl ⟨rfl, ⟨st, rfl, a6, a7⟩, ⟨n, rfl, Int32.le_toInt n, Int.le_of_lt_add_one (Int32.toInt_lt n)⟩, trivial⟩ I2 ⟨⟨qP, by show (0 : Int) ≤ zp; omega, a2⟩, ⟨qS, by show (0 : Int) ≤ zs; omega, by show zs ≤ (400 : Int); omega⟩, ⟨qD, by show (0 : Int) ≤ zd; omega, by show zd ≤ (6 : Int); omega⟩, ⟨qI, by show (1 : Int) ≤ zp - zs; omega, by show zp - zs ≤ (400 : Int); omega⟩, ⟨qG, g1, g2⟩, trivial⟩ (fun q hq => nomatch hq) (fun w C3 I3 F3 rv P3 => ?_)
    obtain rfl : w = none := rv
    obtain ⟨⟨NV, hNV⟩, hR⟩ := P3
    obtain ⟨yp, N1, rfl, ⟨rP, -, -⟩, hn1⟩ := ea_rl_cons hNV
    obtain ⟨ys, N2, rfl, ⟨rS, ys1, ys2⟩, hn2⟩ := ea_rl_cons hn1
    obtain ⟨yd, N3, rfl, ⟨rD, -, -⟩, hn3⟩ := ea_rl_cons hn2
    obtain ⟨yi, N4, rfl, ⟨rI, yi1, yi2⟩, hn4⟩ := ea_rl_cons hn3
    obtain ⟨yg, N5, rfl, ⟨rG, yg1, yg2⟩, hn5⟩ := ea_rl_cons hn4
    have t1 := rl_z hR (.head _) (z1 := yp) (z2 := zp) rP rfl
    have t2 := rl_z hR (.tail _ (.head _)) (z1 := zp) (z2 := yp) rfl rP
    have t3 := rl_z hR (.tail _ (.tail _ (.head _))) (z1 := yd) (z2 := zd) rD rfl
    have t4 := rl_z hR (.tail _ (.tail _ (.tail _ (.head _)))) (z1 := zd) (z2 := yd) rfl rD
    have t5 := rl_z hR (.tail _ (.tail _ (.tail _ (.tail _ (.head _))))) (z1 := yi) (z2 := zp - zs) rI rfl
    have t6 := rl_z hR (.tail _ (.tail _ (.tail _ (.tail _ (.tail _ (.head _)))))) (z1 := zp - zs) (z2 := yi) rfl rI
    have t7 := rl_z hR (.tail _ (.tail _ (.tail _ (.tail _ (.tail _ (.tail _ (.head _))))))) (z1 := yg) (z2 := g0) rG rfl
    have t8 := rl_z hR (.tail _ (.tail _ (.tail _ (.tail _ (.tail _ (.tail _ (.tail _ (.head _)))))))) (z1 := g0) (z2 := yg) rfl rG
    dsimp only at ys1 ys2 yi1 yi2 yg1 yg2
    exact hk C3 (last v C3 yp ys yd yi yg I3 (fr_c_tr (fr_c_tr (fr_c_rf _ rp_M C) (by decide) F2) (by decide) F3) rP rS rD rI rG (by omega) (by omega) (by omega) (by omega) (by omega) (fun h => by have := a5 h; omega) (by omega) (by omega) (by omega))
  refine ok_p rfl rfl rfl ?_
  refine ok_cx (c := trk_36) (show cx_ok (tb_P X) tb_G (rf_G u) trk_36 from IH 36 (by decide) u) (as := []) (T := []) (EV := [p0, s0, d0]) rfl rfl m1 rfl rfl rfl ⟨rfl, trivial⟩ hI ⟨⟨pP, p1, p2⟩, ⟨pS, s1, s2⟩, ⟨pD, d1, d2⟩, trivial⟩ (fun q hq => nomatch hq) (fun w C1 I1 F1 rv P1 => ?_)
  obtain rfl : w = none := rv
  obtain ⟨⟨NV, hNV⟩, hR⟩ := P1
  obtain ⟨yp, N1, rfl, ⟨rP, yp1, yp2⟩, hn1⟩ := ea_rl_cons hNV
  obtain ⟨yb, N2, rfl, ⟨rB, yb1, yb2⟩, hn2⟩ := ea_rl_cons hn1
  obtain ⟨ys, N3, rfl, ⟨rS, ys1, ys2⟩, hn3⟩ := ea_rl_cons hn2
  obtain ⟨yd, N4, rfl, ⟨rD, yd1, yd2⟩, hn4⟩ := ea_rl_cons hn3
  have t1 := rl_z hR (.head _) (z1 := p0) (z2 := yp) rfl rP
  have t2 := rl_z hR (.tail _ (.head _)) (z1 := ys) (z2 := s0) rS rfl
  have t3 := rl_z hR (.tail _ (.tail _ (.head _))) (z1 := s0) (z2 := ys) rfl rS
  have t4 := rl_z hR (.tail _ (.tail _ (.tail _ (.head _)))) (z1 := yd) (z2 := d0) rD rfl
  have t5 := rl_z hR (.tail _ (.tail _ (.tail _ (.tail _ (.head _))))) (z1 := d0) (z2 := yd) rfl rD
  have t6 := rl_z hR (.tail _ (.tail _ (.tail _ (.tail _ (.tail _ (.head _)))))) (z1 := yb) (z2 := yp) rB rP
  have t7 := rl_z hR (.tail _ (.tail _ (.tail _ (.tail _ (.tail _ (.tail _ (.head _))))))) (z1 := p0) (z2 := yb) rfl rB
  dsimp only at yp1 yp2 yb1 yb2 ys1 ys2 yd1 yd2
  clear hR hNV hn1 hn2 hn3 hn4
  obtain ⟨ms1, k1, k2, k3⟩ := hI_f I1 (show tb_G 190 = some (.inl (12, _)) from rfl)
  obtain ⟨p, ⟨ci, vs', f1, r19⟩, rfl⟩ := fd_of_pv (a := 190) (by decide) k1 rP
  rw [k1] at f1
  cases f1
  obtain ⟨b, ⟨ci, vs', f1, r21⟩, rfl⟩ := fd_of_pv (a := 190) (by decide) k1 rB
  rw [k1] at f1
  cases f1
  refine ok_p rfl rfl rfl ?_
  refine ok_gf rfl rfl k1 r19 ?_
  refine ok_p rfl rfl rfl ?_
  refine ok_gf rfl rfl k1 r21 ?_
  cases hq : ea_ck .ne p b with
  | false =>
    refine ok_ic false rfl rfl hq ?_
    refine ok_p rfl rfl rfl ?_
    refine ok_p rfl rfl rfl ?_
    refine ok_p rfl rfl rfl ?_
    refine ok_cx (c := trk_n9) (n9_ok X u (fun q hq u => IH q (Nat.lt_trans hq (by decide)) u)) (as := [.inl (.inl (Int32.ofInt 0)), .inl (.inl (Int16.ofInt 999).toInt32)]) (T := []) (EV := [p.toInt, ys, yd]) rfl rfl k1 rfl rfl rfl ⟨rfl, ⟨_, rfl, by decide, by decide⟩, ⟨_, rfl, by decide, by decide⟩, trivial⟩ I1 ⟨⟨rP, yp1, yp2⟩, ⟨rS, ys1, ys2⟩, ⟨rD, yd1, yd2⟩, trivial⟩ (fun q hq => nomatch hq) (fun w C2 I2 F2 rv P2 => ?_)
    obtain ⟨v, rfl, v1, v2⟩ := rv
    have F12 : fr_c (rf_G u) [(190, 191), (1005, 1006)] C C2 := fr_c_same F1 F2
    have key : ∃ zp zs zd, pv (rf_G u) C2 190 19 zp ∧ pv (rf_G u) C2 190 25 zs ∧ pv (rf_G u) C2 190 22 zd ∧ p0 ≤ zp ∧ zp ≤ 400 ∧ zs = s0 ∧ zd = d0 ∧ (0 ≤ v.toInt → p0 + 1 ≤ zp) := by
      by_cases hv : v.toInt < 0
      · have e : cx_po trk_n9 (some (.inl (.inl v))) = trk_n9.2.2.2.1 := if_pos hv
        rw [e] at P2
        obtain ⟨⟨NV, hNV⟩, hR⟩ := P2
        obtain ⟨zp, N1, rfl, ⟨zP, zp1, zp2⟩, hn1⟩ := ea_rl_cons hNV
        obtain ⟨zb, N2, rfl, -, hn2⟩ := ea_rl_cons hn1
        obtain ⟨zs, N3, rfl, ⟨zS, -, -⟩, hn3⟩ := ea_rl_cons hn2
        obtain ⟨zd, N4, rfl, ⟨zD, -, -⟩, hn4⟩ := ea_rl_cons hn3
        have w1 := rl_z hR (.head _) (z1 := p.toInt) (z2 := zp) rfl zP
        have w2 := rl_z hR (.tail _ (.head _)) (z1 := zs) (z2 := ys) zS rfl
        have w3 := rl_z hR (.tail _ (.tail _ (.head _))) (z1 := ys) (z2 := zs) rfl zS
        have w4 := rl_z hR (.tail _ (.tail _ (.tail _ (.head _)))) (z1 := zd) (z2 := yd) zD rfl
        have w5 := rl_z hR (.tail _ (.tail _ (.tail _ (.tail _ (.head _))))) (z1 := yd) (z2 := zd) rfl zD
        dsimp only at zp1 zp2
        exact ⟨zp, zs, zd, zP, zS, zD, by omega, zp2, by omega, by omega, fun h => by omega⟩
      · have e : cx_po trk_n9 (some (.inl (.inl v))) = trk_n9.2.2.2.2 := if_neg hv
        rw [e] at P2
        obtain ⟨⟨NV, hNV⟩, hR⟩ := P2
        obtain ⟨zp, N1, rfl, ⟨zP, zp1, zp2⟩, hn1⟩ := ea_rl_cons hNV
        obtain ⟨zb, N2, rfl, -, hn2⟩ := ea_rl_cons hn1
        obtain ⟨zs, N3, rfl, ⟨zS, -, -⟩, hn3⟩ := ea_rl_cons hn2
        obtain ⟨zd, N4, rfl, ⟨zD, -, -⟩, hn4⟩ := ea_rl_cons hn3
        have w1 := rl_z hR (.head _) (z1 := p.toInt) (z2 := zp) rfl zP
        have w2 := rl_z hR (.tail _ (.head _)) (z1 := zs) (z2 := ys) zS rfl
        have w3 := rl_z hR (.tail _ (.tail _ (.head _))) (z1 := ys) (z2 := zs) rfl zS
        have w4 := rl_z hR (.tail _ (.tail _ (.tail _ (.head _)))) (z1 := zd) (z2 := yd) zD rfl
        have w5 := rl_z hR (.tail _ (.tail _ (.tail _ (.tail _ (.head _))))) (z1 := yd) (z2 := zd) rfl zD
        dsimp only at zp1 zp2
        exact ⟨zp, zs, zd, zP, zS, zD, by omega, zp2, by omega, by omega, fun h => by omega⟩
    obtain ⟨zp, zs, zd, zP, zS, zD, c1, c2, c3, c4, c5⟩ := key
    refine ok_p rfl rfl rfl ?_
    refine ok_p rfl rfl rfl ?_
    refine ok_p rfl rfl rfl ?_
    refine ok_p rfl rfl rfl ?_
    exact emit (Int32.ofInt 5) v v C2 zp zs zd 27 rfl (fun C3 h => ok_p rfl rfl rfl h) I2 F12 zP zS zD c1 c2 c3 c4 c5 (by decide) (by decide)
  | true =>
    have hne : ¬ p = b := by
      have h1 : (!decide (p = b)) = true := hq
      rw [Bool.not_eq_true', decide_eq_false_iff_not] at h1
      exact h1
    have hne' : p.toInt ≠ b.toInt := fun h => hne (Int32.toInt_inj.mp h)
    refine ok_ic true rfl rfl hq ?_
    have fin : ∀ v : Int32, -1 ≤ v.toInt → v.toInt ≤ 5 → ok_ (tb_P X) 225 86 [(0, .inr (.inl (some 190)))] [.inl (.inl v)] C1 (cx_post (rf_G u) tb_G trk_72 [p0, s0, d0, i0, g0] C) := by
      intro v v1 v2
      refine ok_p rfl rfl rfl ?_
      refine ok_p rfl rfl rfl ?_
      refine ok_p rfl rfl rfl ?_
      refine ok_p rfl rfl rfl ?_
      exact emit v (Int32.ofInt 0) v C1 p.toInt ys yd 90 rfl (fun C3 h => h) I1 F1 rP rS rD (by omega) (by omega) (by omega) (by omega) (fun _ => by omega) v1 v2
    have word : ∀ (c : CX) (q pc : Nat), cx_ok (tb_P X) tb_G (rf_G u) c → c.1.1 = 216 → c.1.2.1 = [.inr (.inl 190), .inr (.inr (q + 4))] → c.1.2.2.1 = [] → c.1.2.2.2.1 = (1, 0, 1) → c.1.2.2.2.2.2 = [(190, 19, 0, 400), (190, 21, 0, 400)] → c.2.1 = [] → ep_cod (tb_P X) 225 pc = some (.invokevirtual 169, 3) → ok_ (tb_P X) 225 (pc + 3) [(0, .inr (.inl (some 190)))] [.inl (.inl (Int32.ofInt 0))] C1 (cx_post (rf_G u) tb_G trk_72 [p0, s0, d0, i0, g0] C) → ok_ (tb_P X) 225 (pc + 3) [(0, .inr (.inl (some 190)))] [.inl (.inl (Int32.ofInt 1))] C1 (cx_post (rf_G u) tb_G trk_72 [p0, s0, d0, i0, g0] C) → ok_ (tb_P X) 225 pc [(0, .inr (.inl (some 190)))] [.inr (.inr (.inr (.inr (q + 1)))), .inr (.inl (some 190))] C1 (cx_post (rf_G u) tb_G trk_72 [p0, s0, d0, i0, g0] C) := by
      intro c q pc hcx e1 e2 e3 e4 e5 e6 hc g0 g1
      refine ok_cx hcx (as := [.inr (.inr (.inr (.inr (q + 1))))]) (T := []) (EV := [p.toInt, b.toInt]) hc (by rw [e1]; rfl) k1 (by rw [e1]; rfl) rfl (by rw [e1]; rfl) (by rw [e2]; exact ⟨rfl, rfl, trivial⟩) I1 (by rw [e5]; exact ⟨⟨rP, yp1, yp2⟩, ⟨rB, yb1, yb2⟩, trivial⟩) (by rw [e6]; exact fun q hq => nomatch hq) (fun w C2 I2 F2 rv P2 => ?_)
      rw [e3] at F2
      obtain rfl := nt_ext (fun b => F2.1 b rfl)
      rw [e4] at rv
      obtain ⟨y, rfl, y1, y2⟩ := rv
      dsimp only at y1 y2
      have hy : y = Int32.ofInt 0 ∨ y = Int32.ofInt 1 := by
        rcases (show y.toInt = 0 ∨ y.toInt = 1 by omega) with h | h
        · exact Or.inl (Int32.toInt_inj.mp (by rw [h]; decide))
        · exact Or.inr (Int32.toInt_inj.mp (by rw [h]; decide))
      rcases hy with rfl | rfl
      · exact g0
      · exact g1
    refine ok_p rfl rfl rfl ?_
    refine ok_ld (q := 196476243687425) rfl rfl (by decide) ?_
    refine word trk_23 196476243687425 36 (IH 23 (by decide) u) rfl rfl rfl rfl rfl rfl rfl ?_ (ok_p rfl rfl rfl (ok_p rfl rfl rfl (ok_p rfl rfl rfl (fin _ (by decide) (by decide)))))
    refine ok_p rfl rfl rfl ?_
    refine ok_p rfl rfl rfl ?_
    refine ok_ld (q := 3165696515) rfl rfl (by decide) ?_
    refine word trk_17 3165696515 49 (IH 17 (by decide) u) rfl rfl rfl rfl rfl rfl rfl ?_ (ok_p rfl rfl rfl (ok_p rfl rfl rfl (ok_p rfl rfl rfl (fin _ (by decide) (by decide)))))
    refine ok_p rfl rfl rfl ?_
    refine ok_p rfl rfl rfl ?_
    refine ok_ld (q := 3082042245) rfl rfl (by decide) ?_
    refine word trk_15 3082042245 62 (IH 15 (by decide) u) rfl rfl rfl rfl rfl rfl rfl ?_ (ok_p rfl rfl rfl (ok_p rfl rfl rfl (ok_p rfl rfl rfl (fin _ (by decide) (by decide)))))
    refine ok_p rfl rfl rfl ?_
    refine ok_p rfl rfl rfl ?_
    refine ok_ld (q := 201467113190791) rfl rfl (by decide) ?_
    refine word trk_25 201467113190791 75 (IH 25 (by decide) u) rfl rfl rfl rfl rfl rfl rfl ?_ (ok_p rfl rfl rfl (ok_p rfl rfl rfl (ok_p rfl rfl rfl (fin _ (by decide) (by decide)))))
    refine ok_p rfl rfl rfl ?_
    refine ok_p rfl rfl rfl ?_
    exact fin _ (by decide) (by decide)
end
section
/-! CONTRACTS BY HAND: acts remembered and undone -/
section OKS4
variable {P : EP} {m pc : Nat} {L : List (Nat × AV)} {S : List AV} {C : List AC} {K : Option AV ⊕ Nat → List AC → Prop}
/-- a static method -/
theorem ok_cs {x mj n : Nat} {as T : List AV} (hc : ep_cod P m pc = some (.invokestatic x, 3)) (hp : ep_pl P m x = some (1, mj, n)) (hn : as.length = n) (hd : (Nat.blt (ep_dep P mj) (ep_dep P m) && (Nat.ble (ea_wt T) 8 && Nat.ble (ea_wt as) (ep_nls P mj))) = true) (h : ok_ P mj 0 (ea_ar 0 as) [] C (ok_back P m pc L T true K)) : ok_ P m pc L (as.reverse ++ T) C K := by
  refine ok_call (r := some (1, mj, n)) (mj := mj) (as := as) (T := T) (b := true) hc (by simp only [ok_iv, hp, ea_mm, ea_is9, cond_false]) ?_ hd h
  have h1 : (as.reverse ++ T).drop n = T := by rw [List.drop_append_of_le_length (by rw [List.length_reverse, hn]; exact Nat.le_refl _), ← hn, ← List.length_reverse, List.drop_length]; rfl
  have h2 : (as.reverse ++ T).take n = as.reverse := by rw [List.take_append_of_le_length (by rw [List.length_reverse, hn]; exact Nat.le_refl _), ← hn, ← List.length_reverse, List.take_length]
  have h3 : Nat.ble n (as.reverse ++ T).length = true := Nat.ble_eq_true_of_le (by rw [List.length_append, List.length_reverse, hn]; omega)
  simp only [ea_cl, h1, h2, h3, cond_true, List.reverse_reverse]
theorem ok_cxs {G : Nat → Option CT} {GF : GH} {c : CX} (hcx : cx_ok P G GF c) {x n : Nat} {as T : List AV} {EV : List Int} (hc : ep_cod P m pc = some (.invokestatic x, 3)) (hp : ep_pl P m x = some (1, c.1.1, n)) (hn : as.length = n) (hd : (Nat.blt (ep_dep P c.1.1) (ep_dep P m) && (Nat.ble (ea_wt T) 8 && Nat.ble (ea_wt as) (ep_nls P c.1.1))) = true) (hv : ea_rl at_g c.1.2.1 as) (hI : xI G C) (hE : pb_g GF C c.1.2.2.2.2.2 EV) (hR : rl_g GF (ea_ar 0 as) EV C c.2.1) (h : ∀ v C', xI G C' → fr_c GF c.1.2.2.1 C C' → rt_g c.1.2.2.2.1 v → po_g GF (cx_po c v) v EV C' → ok_ P m (pc + 3) L (v.toList ++ T) C' K) : ok_ P m pc L (as.reverse ++ T) C K := by
  refine ok_cs hc hp hn hd (ok_post (hcx _ C EV hv hI hE hR) (fun o C' hq => ?_))
  obtain ⟨v, rfl, o1, o2, o3, o4⟩ := hq
  exact h v C' o1 o2 o3 o4
end OKS4
def ls_c (a b : Nat) (lo hi lo' hi' : Int) : CX := ((192, [.inr (.inl a), .inl (lo, hi), .inr (.inl b), .inl (lo', hi')], [(b, b + 1)], (0, 0, 0), [], []), [], 0, ([], []), ([], []))
def ls_h (a b : Nat) (lo hi lo' hi' : Int) : List (Nat × HX) := [(3, ([(0, .inr (.inl a)), (1, .inl (lo, hi)), (2, .inr (.inl b)), (3, .inl (lo', hi')), (4, .inl (0, 10))], [], [], 10, [(1, some (.inl 4))]))]
set_option maxRecDepth 100000 in
theorem ls_ck1 : cx_ck (tb_P none) tb_G tr_gs (fun _ => []) (fun _ _ => none) (ls_h 200 200 10 90 0 80) (ls_c 200 200 10 90 0 80) 400 = true := by decide +kernel
set_option maxRecDepth 100000 in
theorem ls_ck2 : cx_ck (tb_P none) tb_G tr_gs (fun _ => []) (fun _ _ => none) (ls_h 196 200 0 0 0 90) (ls_c 196 200 0 0 0 90) 400 = true := by decide +kernel
set_option maxRecDepth 100000 in
theorem ls_ck3 : cx_ck (tb_P none) tb_G tr_gs (fun _ => []) (fun _ _ => none) (ls_h 200 196 0 90 0 0) (ls_c 200 196 0 90 0 0) 400 = true := by decide +kernel
theorem ls_ok1 (X : Option (List AI)) (u : Nat) : cx_ok (tb_P X) tb_G (rf_G u) (ls_c 200 200 10 90 0 80) := cx_ck_ok tr_G9 (rf_gs u) no_c no_m (hds := ls_h 200 200 10 90 0 80) (n := 400) (by rw [cx_scr X]; exact ls_ck1)
theorem ls_ok2 (X : Option (List AI)) (u : Nat) : cx_ok (tb_P X) tb_G (rf_G u) (ls_c 196 200 0 0 0 90) := cx_ck_ok tr_G9 (rf_gs u) no_c no_m (hds := ls_h 196 200 0 0 0 90) (n := 400) (by rw [cx_scr X]; exact ls_ck2)
theorem ls_ok3 (X : Option (List AI)) (u : Nat) : cx_ok (tb_P X) tb_G (rf_G u) (ls_c 200 196 0 90 0 0) := cx_ck_ok tr_G9 (rf_gs u) no_c no_m (hds := ls_h 200 196 0 90 0 0) (n := 400) (by rw [cx_scr X]; exact ls_ck3)
theorem lk_out {C C' : List AC} {b nb av bv k : Nat} {da db : AV} {usa usb : List (Nat × AV)} (h : lk_I C b nb av bv da db usa usb k C') (hb : ea_nt C b = some (.inl (0, nb, db, usb))) {j : Nat} (hj : j < nb) (ho : ¬ (bv ≤ j ∧ j < bv + k)) : rf_v C' b j = rf_v C b j := by
  obtain ⟨-, -, us', u1, u2⟩ := h
  refine rf_v_eq ?_
  unfold cv
  rw [u1, hb]
  dsimp only
  rw [u2 j hj, if_neg ho]
theorem lk_in {C C' : List AC} {b nb av bv : Nat} {da db : AV} {usa usb : List (Nat × AV)} (h : lk_I C b nb av bv da db usa usb 388 C') {a na : Nat} (ha : ea_nt C a = some (.inl (0, na, da, usa))) (la : av + 388 ≤ na) (lb : bv + 388 ≤ nb) {j : Nat} (hj : j < 388) : rf_v C' b (bv + j) = rf_v C a (av + j) := by
  have := lk_cv h ha la lb hj
  unfold rf_v
  rw [this]
/-- a row copied into the acts -/
theorem lk_W195 {C C' : List AC} {a na av tb : Nat} {da db : AV} {usa usb : List (Nat × AV)} (h : lk_I C 195 3880 av (388 * tb) da db usa usb 388 C') (ha : ea_nt C a = some (.inl (0, na, da, usa))) (la : av + 388 ≤ na) (htb : tb < 10) (hb : ea_nt C 195 = some (.inl (0, 3880, db, usb))) (hW : rf_W C) (hrow : rf_row (fun j => rf_v C a (av + j))) : rf_W C' := by
  refine ⟨lk_same h (by decide) hW.1, lk_same h (by decide) hW.2.1, lk_same h (by decide) hW.2.2.1, lk_same h (by decide) hW.2.2.2.1, fun t ht => ?_⟩
  by_cases e : t = tb
  · subst e
    exact (rf_row_eq (f := fun k => rf_v C' 195 (388 * t + k)) (g := fun k => rf_v C a (av + k)) (lk_in h ha la (by omega) (by decide)) (fun c hc => lk_in h ha la (by omega) (by omega))).mpr hrow
  · exact (rf_row_eq (f := fun k => rf_v C' 195 (388 * t + k)) (g := fun k => rf_v C 195 (388 * t + k)) (lk_out h hb (by omega) (by omega)) (fun c hc => lk_out h hb (by omega) (by omega))).mpr (hW.2.2.2.2 t ht)
theorem rf_W_of {u : Nat} {C C' : List AC} (h : rf_G u 999 C' = rf_G u 999 C) (hW : rf_W C) : rf_W C' := rf_b_of (p := rf_W C') (by
  have h1 : rf_G u 999 C' = rf_b (rf_W C') := rfl
  have h2 : rf_G u 999 C = rf_b (rf_W C) := rfl
  have h3 := rf_b_1 hW
  omega)
theorem i16_388 : ((Int16.ofInt 388).toInt32).toInt = 388 := by decide
theorem i8_10 : ((Int8.ofInt 10).toInt32).toInt = 10 := by decide
theorem i_1 : (Int32.ofInt 1).toInt = 1 := by decide
def rm_M : List (Nat × Nat) := [(190, 191), (195, 196), (200, 201), (999, 1000)]
section RM
variable (X : Option (List AI)) (u : Nat) {C : List AC} {zJ : Int}
def rm_S (u : Nat) (C C' : List AC) : Prop := xI tb_G C' ∧ fr_c (rf_G u) rm_M C C' ∧ rf_W C'
set_option maxRecDepth 20000 in
set_option maxHeartbeats 1000000 in
theorem rm_tail {K : Option AV ⊕ Nat → List AC → Prop} (hK : ∀ C', rm_S u C C' → K (.inl none) C') (C' : List AC) (hS : rm_S u C C') (x : Int32) : ok_ (tb_P X) 195 67 [(1, .inl (.inl x)), (0, .inr (.inl (some 190)))] [] C' K := by
  obtain ⟨I', F', W'⟩ := hS
  obtain ⟨ms, m1, m2, m3⟩ := hI_f I' (show tb_G 190 = some (.inl (12, _)) from rfl)
  have hlen : ms.length = 38 := m2
  obtain ⟨_, r12, y, rfl, y1, y2⟩ := m3 12 (.inl (0, 10)) rfl
  dsimp only at y1 y2
  obtain ⟨v, hv, v1, v2⟩ : ∃ v : Int32, (if (y + Int32.ofInt 1) < (Int8.ofInt 10).toInt32 then (y + Int32.ofInt 1) else (Int8.ofInt 10).toInt32) = v ∧ 1 ≤ v.toInt ∧ v.toInt ≤ 10 := by
    refine ⟨_, rfl, ?_, ?_⟩
    · split
      · rw [i32_add (by rw [i_1]; omega) (by rw [i_1]; omega), i_1]
        omega
      · decide
    · split
      · rename_i h
        rw [Int32.lt_iff_toInt_lt, i8_10] at h
        omega
      · decide
  refine ok_p rfl rfl rfl ?_
  refine ok_p rfl rfl rfl ?_
  refine ok_p rfl rfl rfl ?_
  refine ok_gf rfl rfl m1 r12 ?_
  refine ok_p rfl rfl rfl ?_
  refine ok_p rfl rfl rfl ?_
  refine ok_mm (T := [.inl (.inl v), .inr (.inl (some 190))]) rfl ?_ rfl ?_
  · rw [← hv]
    rfl
  refine ok_pf rfl rfl m1 rfl (by rw [hlen]; rfl) ?_
  have I1 := xI_sf I' (show tb_G 190 = some (.inl (12, _)) from rfl) m1 (k := 12) (v := .inl (.inl v)) rfl ⟨_, rfl, by show (0 : Int) ≤ v.toInt; omega, v2⟩
  have f1 : fr_c (rf_G u) [(190, 191)] C' (C'.set 190 (.inr (12, ms.set 12 (.inl (.inl v))))) := fr_f u m1 (by decide) (by decide)
  have F1 := fr_c_tr F' (M' := [(190, 191)]) (by decide) f1
  have W1 := rf_W_of (f1.2 999 (by decide) (by decide)) W'
  have N1 := nt_set_self (c := Sum.inr (12, ms.set 12 (.inl (.inl v)))) m1
  have q12 : ea_nt (ms.set 12 (Sum.inl (Sum.inl v))) 12 = some (.inl (.inl v)) := nt_set_self r12
  revert I1 F1 W1 N1 q12
  generalize C'.set 190 (.inr (12, ms.set 12 (.inl (.inl v)))) = C1
  generalize ms.set 12 (Sum.inl (Sum.inl v)) = s1
  intro I1 F1 W1 N1 q12
  clear f1
  obtain ⟨s1', n1', -, n3⟩ := hI_f I1 (show tb_G 190 = some (.inl (12, _)) from rfl)
  rw [N1] at n1'
  cases n1'
  obtain ⟨_, q1, rfl⟩ := n3 1 (.inr 191) rfl
  obtain ⟨_, q5, rfl⟩ := n3 5 (.inr 195) rfl
  obtain ⟨_, q6, rfl⟩ := n3 6 (.inr 196) rfl
  obtain ⟨_, q10, rfl⟩ := n3 10 (.inr 200) rfl
  obtain ⟨da, usa, a1, a2⟩ := hI_a I1 (show tb_G 191 = some (.inr (0, 388, 388, tg_row)) from rfl)
  obtain ⟨db, usb, b1, b2⟩ := hI_a I1 (show tb_G 195 = some (.inr (0, 3880, 388, tg_row)) from rfl)
  have hs : (v - Int32.ofInt 1).toInt = v.toInt - 1 := by rw [i32_sub (by rw [i_1]; omega) (by rw [i_1]; omega), i_1]
  have hbe : ((Int16.ofInt 388).toInt32 * (v - Int32.ofInt 1)).toInt = ((388 * (v.toInt.toNat - 1) : Nat) : Int) := by
    rw [i32_mul (by rw [i16_388, hs]; omega) (by rw [i16_388, hs]; omega), i16_388, hs]
    omega
  have hbs : ((Int8.ofInt 10).toInt32 * (v - Int32.ofInt 1)).toInt = 10 * (v.toInt - 1) := by
    rw [i32_mul (by rw [i8_10, hs]; omega) (by rw [i8_10, hs]; omega), i8_10, hs]
  refine ok_p rfl rfl rfl ?_
  refine ok_gf rfl rfl N1 q1 ?_
  refine ok_p rfl rfl rfl ?_
  refine ok_p rfl rfl rfl ?_
  refine ok_gf rfl rfl N1 q5 ?_
  refine ok_p rfl rfl rfl ?_
  refine ok_p rfl rfl rfl ?_
  refine ok_gf rfl rfl N1 q12 ?_
  refine ok_p rfl rfl rfl ?_
  refine ok_p rfl rfl rfl ?_
  refine ok_p rfl rfl rfl ?_
  refine ok_cs (as := [.inr (.inl (some 191)), .inl (.inl (Int32.ofInt 0)), .inr (.inl (some 195)), .inl (.inl ((Int16.ofInt 388).toInt32 * (v - Int32.ofInt 1)))]) (T := []) rfl rfl rfl rfl ?_
  refine lk_run X I1 a1 rfl b1 rfl (av := 0) (bv := 388 * (v.toInt.toNat - 1)) (by decide) hbe (by decide) (by omega) (by decide) (by omega) (by decide) (by decide) (Or.inl (by decide)) (fun C2 h => ?_)
  show ok_ (tb_P X) 195 104 _ [] C2 _
  have W2 := lk_W195 h a1 (by decide) (by omega) b1 W1 (by simpa only [Nat.zero_add] using W1.1)
  have F2 := fr_c_same F1 (lk_fr u h (by decide) (by decide))
  have N2 := h.2.1 190 (by decide)
  rw [N1] at N2
  refine ok_p rfl rfl rfl ?_
  refine ok_gf rfl rfl N2 q6 ?_
  refine ok_p rfl rfl rfl ?_
  refine ok_p rfl rfl rfl ?_
  refine ok_gf rfl rfl N2 q10 ?_
  refine ok_p rfl rfl rfl ?_
  refine ok_p rfl rfl rfl ?_
  refine ok_gf rfl rfl N2 q12 ?_
  refine ok_p rfl rfl rfl ?_
  refine ok_p rfl rfl rfl ?_
  refine ok_p rfl rfl rfl ?_
  refine ok_cxs (c := ls_c 196 200 0 0 0 90) (ls_ok2 X u) (as := [.inr (.inl (some 196)), .inl (.inl (Int32.ofInt 0)), .inr (.inl (some 200)), .inl (.inl ((Int8.ofInt 10).toInt32 * (v - Int32.ofInt 1)))]) (T := []) (EV := []) rfl rfl rfl rfl ⟨rfl, ⟨_, rfl, by decide, by decide⟩, rfl, ⟨_, rfl, by show (0 : Int) ≤ Int32.toInt _; rw [hbs]; omega, by show Int32.toInt _ ≤ (90 : Int); rw [hbs]; omega⟩, trivial⟩ h.1 trivial (fun q hq => nomatch hq) (fun w C3 I3 F3 rv P3 => ?_)
  obtain rfl : w = none := rv
  refine ok_r rfl rfl rfl rfl rfl (hK C3 ⟨I3, fr_c_tr F2 (M' := [(200, 201)]) (by decide) F3, rf_W_of (F3.2 999 (by decide) (by decide)) W2⟩)
set_option maxRecDepth 20000 in
set_option maxHeartbeats 1000000 in
theorem rm_loop {K : Option AV ⊕ Nat → List AC → Prop} (hK : ∀ C', rm_S u C C' → K (.inl none) C') : ∀ (r k : Nat) (x : Int32) (C' : List AC), r + k = 10 → 1 ≤ k → x.toInt = (k : Int) → rm_S u C C' → ok_ (tb_P X) 195 2 [(1, .inl (.inl x)), (0, .inr (.inl (some 190)))] [] C' K := by
  intro r
  induction r with
  | zero =>
    intro k x C' hk h1 hx hS
    refine ok_p rfl rfl rfl ?_
    refine ok_p rfl rfl rfl ?_
    refine ok_ic true rfl rfl ?_ (rm_tail X u hK C' hS x)
    show decide ((Int8.ofInt 10).toInt32 ≤ x) = true
    rw [decide_eq_true_eq, Int32.le_iff_toInt_le, i8_10]
    omega
  | succ r IH =>
    intro k x C' hk h1 hx hS
    have hS' := hS
    obtain ⟨I', F', W'⟩ := hS
    obtain ⟨ms, m1, m2, m3⟩ := hI_f I' (show tb_G 190 = some (.inl (12, _)) from rfl)
    obtain ⟨_, r12, y, rfl, y1, y2⟩ := m3 12 (.inl (0, 10)) rfl
    obtain ⟨_, r5, rfl⟩ := m3 5 (.inr 195) rfl
    obtain ⟨_, r10, rfl⟩ := m3 10 (.inr 200) rfl
    obtain ⟨db, usb, b1, b2⟩ := hI_a I' (show tb_G 195 = some (.inr (0, 3880, 388, tg_row)) from rfl)
    refine ok_p rfl rfl rfl ?_
    refine ok_p rfl rfl rfl ?_
    refine ok_ic false rfl rfl ?_ ?_
    · show decide ((Int8.ofInt 10).toInt32 ≤ x) = false
      rw [decide_eq_false_iff_not, Int32.le_iff_toInt_le, i8_10]
      omega
    refine ok_p rfl rfl rfl ?_
    refine ok_gf rfl rfl m1 r12 ?_
    refine ok_p rfl rfl rfl ?_
    cases hq : ea_ck .ne y (Int8.ofInt 10).toInt32 with
    | true => exact ok_ic true rfl rfl hq (rm_tail X u hK C' hS' x)
    | false =>
      refine ok_ic false rfl rfl hq ?_
      have hs : (x - Int32.ofInt 1).toInt = x.toInt - 1 := by rw [i32_sub (by rw [i_1]; omega) (by rw [i_1]; omega), i_1]
      have hal : ((Int16.ofInt 388).toInt32 * x).toInt = ((388 * k : Nat) : Int) := by
        rw [i32_mul (by rw [i16_388]; omega) (by rw [i16_388]; omega), i16_388]
        omega
      have hbe : ((Int16.ofInt 388).toInt32 * (x - Int32.ofInt 1)).toInt = ((388 * (k - 1) : Nat) : Int) := by
        rw [i32_mul (by rw [i16_388, hs]; omega) (by rw [i16_388, hs]; omega), i16_388, hs]
        omega
      have hls : ((Int8.ofInt 10).toInt32 * x).toInt = 10 * x.toInt := by
        rw [i32_mul (by rw [i8_10]; omega) (by rw [i8_10]; omega), i8_10]
      have hbs : ((Int8.ofInt 10).toInt32 * (x - Int32.ofInt 1)).toInt = 10 * (x.toInt - 1) := by
        rw [i32_mul (by rw [i8_10, hs]; omega) (by rw [i8_10, hs]; omega), i8_10, hs]
      have ix3 : (x + Int32.ofInt 1).toInt = ((k + 1 : Nat) : Int) := by
        rw [i32_add (by rw [i_1]; omega) (by rw [i_1]; omega), i_1]
        omega
      refine ok_p rfl rfl rfl ?_
      refine ok_gf rfl rfl m1 r5 ?_
      refine ok_p rfl rfl rfl ?_
      refine ok_p rfl rfl rfl ?_
      refine ok_p rfl rfl rfl ?_
      refine ok_p rfl rfl rfl ?_
      refine ok_gf rfl rfl m1 r5 ?_
      refine ok_p rfl rfl rfl ?_
      refine ok_p rfl rfl rfl ?_
      refine ok_p rfl rfl rfl ?_
      refine ok_p rfl rfl rfl ?_
      refine ok_p rfl rfl rfl ?_
      refine ok_cs (as := [.inr (.inl (some 195)), .inl (.inl ((Int16.ofInt 388).toInt32 * x)), .inr (.inl (some 195)), .inl (.inl ((Int16.ofInt 388).toInt32 * (x - Int32.ofInt 1)))]) (T := []) rfl rfl rfl rfl ?_
      refine lk_run X I' b1 rfl b1 rfl (av := 388 * k) (bv := 388 * (k - 1)) hal hbe (by omega) (by omega) (by omega) (by omega) (by decide) (by decide) (Or.inr (Or.inr (by omega))) (fun C2 h => ?_)
      show ok_ (tb_P X) 195 40 _ [] C2 _
      have W2 := lk_W195 h b1 (by omega) (by omega) b1 W' (W'.2.2.2.2 k (by omega))
      have F2 := fr_c_same F' (lk_fr u h (by decide) (by decide))
      have N2 := h.2.1 190 (by decide)
      rw [m1] at N2
      refine ok_p rfl rfl rfl ?_
      refine ok_gf rfl rfl N2 r10 ?_
      refine ok_p rfl rfl rfl ?_
      refine ok_p rfl rfl rfl ?_
      refine ok_p rfl rfl rfl ?_
      refine ok_p rfl rfl rfl ?_
      refine ok_gf rfl rfl N2 r10 ?_
      refine ok_p rfl rfl rfl ?_
      refine ok_p rfl rfl rfl ?_
      refine ok_p rfl rfl rfl ?_
      refine ok_p rfl rfl rfl ?_
      refine ok_p rfl rfl rfl ?_
      refine ok_cxs (c := ls_c 200 200 10 90 0 80) (ls_ok1 X u) (as := [.inr (.inl (some 200)), .inl (.inl ((Int8.ofInt 10).toInt32 * x)), .inr (.inl (some 200)), .inl (.inl ((Int8.ofInt 10).toInt32 * (x - Int32.ofInt 1)))]) (T := []) (EV := []) rfl rfl rfl rfl ⟨rfl, ⟨_, rfl, by show (10 : Int) ≤ Int32.toInt _; rw [hls]; omega, by show Int32.toInt _ ≤ (90 : Int); rw [hls]; omega⟩, rfl, ⟨_, rfl, by show (0 : Int) ≤ Int32.toInt _; rw [hbs]; omega, by show Int32.toInt _ ≤ (80 : Int); rw [hbs]; omega⟩, trivial⟩ h.1 trivial (fun q hq => nomatch hq) (fun w C3 I3 F3 rv P3 => ?_)
      obtain rfl : w = none := rv
      refine ok_p rfl rfl rfl ?_
      refine ok_p rfl rfl rfl ?_
      exact IH (k + 1) (x + Int32.ofInt 1) C3 (by omega) (by omega) ix3 ⟨I3, fr_c_tr F2 (M' := [(200, 201)]) (by decide) F3, rf_W_of (F3.2 999 (by decide) (by decide)) W2⟩
end RM
set_option maxRecDepth 20000 in
theorem tr_h57 (X : Option (List AI)) (u : Nat) : cx_ok (tb_P X) tb_G (rf_G u) trk_57 := by
  intro vs C EV hvs hI hpre hrel
  obtain ⟨v0, t0, rfl, h0, hvs1⟩ := ea_rl_cons hvs
  obtain rfl := ea_rl_nil hvs1
  obtain rfl : v0 = .inr (.inl (some 190)) := h0
  obtain ⟨zW, E1, rfl, ⟨pW, q1, q2⟩, hp2⟩ := ea_rl_cons hpre
  obtain ⟨zJ, E2, rfl, ⟨pJ, q3, q4⟩, hp3⟩ := ea_rl_cons hp2
  dsimp only at q1 q2 q3 q4
  refine ok_p rfl rfl rfl ?_
  refine ok_p rfl rfl rfl ?_
  refine rm_loop X u (C := C) (fun C' hS => ?_) 9 1 (Int32.ofInt 1) C rfl (by decide) (by decide) ⟨hI, fr_c_rf _ _ C, rf_G_W pW q1 q2⟩
  obtain ⟨I', F', W'⟩ := hS
  have pJ' : pv (rf_G u) C' 1001 0 zJ := by
    show rf_G u 1001 C' = zJ
    rw [F'.2 1001 (by decide) (by decide)]
    exact pJ
  exact ⟨none, rfl, I', F', rfl, ⟨[1, zJ], ⟨⟨rf_b_1 W', by decide, by decide⟩, ⟨pJ', q3, q4⟩, trivial⟩⟩, fun q hq => nomatch hq⟩
set_option maxRecDepth 20000 in
set_option maxHeartbeats 1000000 in
theorem tr_h58 (X : Option (List AI)) (u : Nat) : cx_ok (tb_P X) tb_G (rf_G u) trk_58 := by
  intro vs C EV hvs hI hpre hrel
  obtain ⟨v0, t0, rfl, h0, hvs1⟩ := ea_rl_cons hvs
  obtain rfl := ea_rl_nil hvs1
  obtain rfl : v0 = .inr (.inl (some 190)) := h0
  obtain ⟨zW, E1, rfl, ⟨pW, q1, q2⟩, hp2⟩ := ea_rl_cons hpre
  obtain ⟨zJ, E2, rfl, ⟨pJ, q3, q4⟩, hp3⟩ := ea_rl_cons hp2
  obtain rfl := ea_rl_nil hp3
  dsimp only at q1 q2 q3 q4
  have hW := rf_G_W pW q1 q2
  obtain ⟨ms, m1, m2, m3⟩ := hI_f hI (show tb_G 190 = some (.inl (12, _)) from rfl)
  have hlen : ms.length = 38 := m2
  obtain ⟨w0, r0, -⟩ := m3 0 (.inl (-2147483648, 2147483647)) rfl
  have hend : ∀ (y : Int32) (C' : List AC), (y = Int32.ofInt 0 ∨ y = Int32.ofInt 1) → xI tb_G C' → fr_c (rf_G u) trk_58.1.2.2.1 C C' → rf_W C' → cx_post (rf_G u) tb_G trk_58 [zW, zJ] C (.inl (some (.inl (.inl y)))) C' := by
    intro y C' hy I' F' W'
    have pJ' : pv (rf_G u) C' 1001 0 zJ := by
      show rf_G u 1001 C' = zJ
      rw [F'.2 1001 (by decide) (by decide)]
      exact pJ
    have e : cx_po trk_58 (some (.inl (.inl y))) = trk_58.2.2.2.2 := by
      show (if _ then _ else _) = _
      split <;> rfl
    refine ⟨_, rfl, I', F', ⟨y, rfl, ?_, ?_⟩, ?_⟩
    · rcases hy with rfl | rfl <;> decide
    · rcases hy with rfl | rfl <;> decide
    · rw [e]
      exact ⟨⟨[1, zJ], ⟨⟨rf_b_1 W', by decide, by decide⟩, ⟨pJ', q3, q4⟩, trivial⟩⟩, fun q hq => nomatch hq⟩
  refine ok_p rfl rfl rfl ?_
  refine ok_p rfl rfl rfl ?_
  refine ok_pf rfl rfl m1 rfl (by rw [hlen]; rfl) ?_
  have I1 := xI_sf hI (show tb_G 190 = some (.inl (12, _)) from rfl) m1 (k := 0) (v := .inl (.inl (Int32.ofInt (Int.ofNat 0)))) rfl ⟨_, rfl, by decide, by decide⟩
  have f1 : fr_c (rf_G u) [(190, 191)] C (C.set 190 (.inr (12, ms.set 0 (.inl (.inl (Int32.ofInt (Int.ofNat 0))))))) := fr_f u m1 (by decide) (by decide)
  have N1 := nt_set_self (c := Sum.inr (12, ms.set 0 (.inl (.inl (Int32.ofInt (Int.ofNat 0)))))) m1
  revert I1 f1 N1
  generalize C.set 190 (.inr (12, ms.set 0 (.inl (.inl (Int32.ofInt (Int.ofNat 0)))))) = C1
  generalize ms.set 0 (Sum.inl (Sum.inl (Int32.ofInt (Int.ofNat 0)))) = s1
  intro I1 f1 N1
  have W1 := rf_W_of (f1.2 999 (by decide) (by decide)) hW
  have F1 := fr_c_tr (fr_c_rf (rf_G u) trk_58.1.2.2.1 C) (M' := [(190, 191)]) (by decide) f1
  obtain ⟨s1', n1', n2, n3⟩ := hI_f I1 (show tb_G 190 = some (.inl (12, _)) from rfl)
  rw [N1] at n1'
  cases n1'
  have hlen1 : s1.length = 38 := n2
  obtain ⟨_, r12, y, rfl, y1, y2⟩ := n3 12 (.inl (0, 10)) rfl
  dsimp only at y1 y2
  refine ok_p rfl rfl rfl ?_
  refine ok_gf rfl rfl N1 r12 ?_
  cases hq : ea_ck .ne y 0 with
  | false =>
    refine ok_if false rfl rfl hq ?_
    refine ok_p rfl rfl rfl ?_
    exact ok_r rfl rfl rfl rfl rfl (hend _ C1 (Or.inl rfl) I1 F1 W1)
  | true =>
    have hy0 : y.toInt ≠ 0 := by
      have h1 : (!decide (y = 0)) = true := hq
      rw [Bool.not_eq_true', decide_eq_false_iff_not] at h1
      exact fun h => h1 (Int32.toInt_inj.mp (by rw [h]; decide))
    refine ok_if true rfl rfl hq ?_
    have hs : (y - Int32.ofInt 1).toInt = y.toInt - 1 := by rw [i32_sub (by rw [i_1]; omega) (by rw [i_1]; omega), i_1]
    refine ok_p rfl rfl rfl ?_
    refine ok_p rfl rfl rfl ?_
    refine ok_gf rfl rfl N1 r12 ?_
    refine ok_p rfl rfl rfl ?_
    refine ok_p rfl rfl rfl ?_
    refine ok_pf (v := .inl (.inl (y - Int32.ofInt 1))) rfl rfl N1 rfl (by rw [hlen1]; rfl) ?_
    have I2 := xI_sf I1 (show tb_G 190 = some (.inl (12, _)) from rfl) N1 (k := 12) (v := .inl (.inl (y - Int32.ofInt 1))) rfl ⟨_, rfl, by show (0 : Int) ≤ Int32.toInt _; rw [hs]; omega, by show Int32.toInt _ ≤ (10 : Int); rw [hs]; omega⟩
    have f2 : fr_c (rf_G u) [(190, 191)] C1 (C1.set 190 (.inr (12, s1.set 12 (.inl (.inl (y - Int32.ofInt 1)))))) := fr_f u N1 (by decide) (by decide)
    have N2 := nt_set_self (c := Sum.inr (12, s1.set 12 (.inl (.inl (y - Int32.ofInt 1))))) N1
    have q12 : ea_nt (s1.set 12 (Sum.inl (Sum.inl (y - Int32.ofInt 1)))) 12 = some (.inl (.inl (y - Int32.ofInt 1))) := nt_set_self r12
    revert I2 f2 N2 q12
    generalize C1.set 190 (.inr (12, s1.set 12 (.inl (.inl (y - Int32.ofInt 1))))) = C2
    generalize s1.set 12 (Sum.inl (Sum.inl (y - Int32.ofInt 1))) = s2
    intro I2 f2 N2 q12
    have W2 := rf_W_of (f2.2 999 (by decide) (by decide)) W1
    have F2 := fr_c_tr F1 (M' := [(190, 191)]) (by decide) f2
    obtain ⟨s2', n2', -, n4⟩ := hI_f I2 (show tb_G 190 = some (.inl (12, _)) from rfl)
    rw [N2] at n2'
    cases n2'
    obtain ⟨_, q1, rfl⟩ := n4 1 (.inr 191) rfl
    obtain ⟨_, q5, rfl⟩ := n4 5 (.inr 195) rfl
    obtain ⟨_, q6, rfl⟩ := n4 6 (.inr 196) rfl
    obtain ⟨_, q10, rfl⟩ := n4 10 (.inr 200) rfl
    obtain ⟨da, usa, a1, a2⟩ := hI_a I2 (show tb_G 195 = some (.inr (0, 3880, 388, tg_row)) from rfl)
    obtain ⟨db, usb, b1, b2⟩ := hI_a I2 (show tb_G 191 = some (.inr (0, 388, 388, tg_row)) from rfl)
    have hal : ((Int16.ofInt 388).toInt32 * (y - Int32.ofInt 1)).toInt = ((388 * (y.toInt.toNat - 1) : Nat) : Int) := by
      rw [i32_mul (by rw [i16_388, hs]; omega) (by rw [i16_388, hs]; omega), i16_388, hs]
      omega
    have hls : ((Int8.ofInt 10).toInt32 * (y - Int32.ofInt 1)).toInt = 10 * (y.toInt - 1) := by
      rw [i32_mul (by rw [i8_10, hs]; omega) (by rw [i8_10, hs]; omega), i8_10, hs]
    refine ok_p rfl rfl rfl ?_
    refine ok_gf rfl rfl N2 q5 ?_
    refine ok_p rfl rfl rfl ?_
    refine ok_p rfl rfl rfl ?_
    refine ok_gf rfl rfl N2 q12 ?_
    refine ok_p rfl rfl rfl ?_
    refine ok_p rfl rfl rfl ?_
    refine ok_gf rfl rfl N2 q1 ?_
    refine ok_p rfl rfl rfl ?_
    refine ok_cs (as := [.inr (.inl (some 195)), .inl (.inl ((Int16.ofInt 388).toInt32 * (y - Int32.ofInt 1))), .inr (.inl (some 191)), .inl (.inl (Int32.ofInt 0))]) (T := []) rfl rfl rfl rfl ?_
    refine lk_run X I2 a1 rfl b1 rfl (av := 388 * (y.toInt.toNat - 1)) (bv := 0) hal (by decide) (by omega) (by decide) (by omega) (by decide) (by decide) (by decide) (Or.inl (by decide)) (fun C3 h => ?_)
    show ok_ (tb_P X) 196 44 _ [] C3 _
    have row3 : rf_row (rf_v C3 191) := (rf_row_eq (f := rf_v C3 191) (g := fun k => rf_v C2 195 (388 * (y.toInt.toNat - 1) + k)) (by have := lk_in h a1 (by omega) (by decide) (j := 0) (by decide); simpa only [Nat.zero_add, Nat.add_zero] using this) (fun c hc => by have := lk_in h a1 (by omega) (by decide) (j := 23 + 13 * c) (by omega); simpa only [Nat.zero_add] using this)).mpr (W2.2.2.2.2 _ (by omega))
    have W3 : rf_W C3 := ⟨row3, lk_same h (by decide) W2.2.1, lk_same h (by decide) W2.2.2.1, lk_same h (by decide) W2.2.2.2.1, lk_acts h (by decide) W2⟩
    have F3 := fr_c_same F2 (lk_fr u h (by decide) (by decide))
    have N3 := h.2.1 190 (by decide)
    rw [N2] at N3
    refine ok_p rfl rfl rfl ?_
    refine ok_gf rfl rfl N3 q10 ?_
    refine ok_p rfl rfl rfl ?_
    refine ok_p rfl rfl rfl ?_
    refine ok_gf rfl rfl N3 q12 ?_
    refine ok_p rfl rfl rfl ?_
    refine ok_p rfl rfl rfl ?_
    refine ok_gf rfl rfl N3 q6 ?_
    refine ok_p rfl rfl rfl ?_
    refine ok_cxs (c := ls_c 200 196 0 90 0 0) (ls_ok3 X u) (as := [.inr (.inl (some 200)), .inl (.inl ((Int8.ofInt 10).toInt32 * (y - Int32.ofInt 1))), .inr (.inl (some 196)), .inl (.inl (Int32.ofInt 0))]) (T := []) (EV := []) rfl rfl rfl rfl ⟨rfl, ⟨_, rfl, by show (0 : Int) ≤ Int32.toInt _; rw [hls]; omega, by show Int32.toInt _ ≤ (90 : Int); rw [hls]; omega⟩, rfl, ⟨_, rfl, by decide, by decide⟩, trivial⟩ h.1 trivial (fun q hq => nomatch hq) (fun w C4 I4 F4 rv P4 => ?_)
    obtain rfl : w = none := rv
    refine ok_p rfl rfl rfl ?_
    exact ok_r rfl rfl rfl rfl rfl (hend _ C4 (Or.inr rfl) I4 (fr_c_tr F3 (M' := [(196, 197)]) (by decide) F4) (rf_W_of (F4.2 999 (by decide) (by decide)) W3))
end
