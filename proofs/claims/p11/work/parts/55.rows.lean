/-! CONTRACTS BY HAND: rows copied, the contracts -/
theorem lk_cv {C C' : List AC} {b nb av bv : Nat} {da db : AV} {usa usb : List (Nat × AV)} (h : lk_I C b nb av bv da db usa usb 388 C') {a na : Nat} (ha : ea_nt C a = some (.inl (0, na, da, usa))) (la : av + 388 ≤ na) (lb : bv + 388 ≤ nb) {j : Nat} (hj : j < 388) : cv C' b (bv + j) = cv C a (av + j) := by
  obtain ⟨-, -, us', u1, u2⟩ := h
  unfold cv
  rw [u1, ha]
  dsimp only
  rw [show Nat.blt (bv + j) nb = true from Nat.ble_eq_true_of_le (by omega), show Nat.blt (av + j) na = true from Nat.ble_eq_true_of_le (by omega), u2 (bv + j) (by omega), if_pos (by omega), show av + (bv + j - bv) = av + j by omega]
theorem lk_row {C C' : List AC} {b : Nat} {da db : AV} {usa usb : List (Nat × AV)} (h : lk_I C b 388 0 0 da db usa usb 388 C') {a : Nat} (ha : ea_nt C a = some (.inl (0, 388, da, usa))) (hr : rf_row (rf_v C a)) : rf_row (rf_v C' b) := by
  have e : ∀ j, j < 388 → rf_v C' b j = rf_v C a j := fun j hj => by
    have := lk_cv h ha (by decide) (by decide) hj
    simp only [Nat.zero_add] at this
    unfold rf_v
    rw [this]
  exact (rf_row_eq (e 0 (by decide)) (fun c hc => e _ (by omega))).mpr hr
theorem lk_oth {C C' : List AC} {b nb av bv k : Nat} {da db : AV} {usa usb : List (Nat × AV)} (h : lk_I C b nb av bv da db usa usb k C') {x : Nat} (hx : x ≠ b) (j : Nat) : rf_v C' x j = rf_v C x j := rf_v_eq (cv_eq (h.2.1 x hx) j)
theorem lk_fr (u : Nat) {M : List (Nat × Nat)} {C C' : List AC} {b nb av bv k : Nat} {da db : AV} {usa usb : List (Nat × AV)} (h : lk_I C b nb av bv da db usa usb k C') (hb : xm M b = true) (hg : ∀ q ∈ tr_gs, q.2.1 = b → xm M q.1 = true) : fr_c (rf_G u) M C C' := by
  refine ⟨fun x hx => h.2.1 x ?_, fun g hk hm => rf_gs u g C C' (fun a i hq => cv_eq (h.2.1 a ?_) i)⟩
  · rintro rfl
    rw [hb] at hx
    cases hx
  · obtain ⟨q, q1, q2, q3, -⟩ := hq
    rintro rfl
    have := hg q q1 q3
    rw [q2, hm] at this
    cases this
theorem lk_acts {C C' : List AC} {b nb av bv k : Nat} {da db : AV} {usa usb : List (Nat × AV)} (h : lk_I C b nb av bv da db usa usb k C') (hx : 195 ≠ b) (hW : rf_W C) : ∀ t : Nat, t < 10 → rf_row (fun k => rf_v C' 195 (388 * t + k)) := fun t ht => (rf_row_eq (f := fun k => rf_v C' 195 (388 * t + k)) (g := fun k => rf_v C 195 (388 * t + k)) (lk_oth h hx _) (fun c _ => lk_oth h hx _)).mpr (hW.2.2.2.2 t ht)
theorem lk_same {C C' : List AC} {b nb av bv k : Nat} {da db : AV} {usa usb : List (Nat × AV)} (h : lk_I C b nb av bv da db usa usb k C') {x : Nat} (hx : x ≠ b) (hr : rf_row (rf_v C x)) : rf_row (rf_v C' x) := (rf_row_eq (lk_oth h hx _) (fun c _ => lk_oth h hx _)).mpr hr

theorem tr_h5 (X : Option (List AI)) (u : Nat) : cx_ok (tb_P X) tb_G (rf_G u) trk_5 := by
  intro vs C EV hvs hI hpre hrel
  obtain ⟨v0, t0, rfl, h0, hvs1⟩ := ea_rl_cons hvs
  obtain ⟨v1, t1, rfl, ⟨al, rfl, x1, x2⟩, hvs2⟩ := ea_rl_cons hvs1
  obtain ⟨v2, t2, rfl, h2, hvs3⟩ := ea_rl_cons hvs2
  obtain ⟨v3, t3, rfl, ⟨be, rfl, y1, y2⟩, hvs4⟩ := ea_rl_cons hvs3
  obtain rfl := ea_rl_nil hvs4
  obtain rfl : v0 = .inr (.inl (some 191)) := h0
  obtain rfl : v2 = .inr (.inl (some 192)) := h2
  obtain ⟨zW, E1, rfl, ⟨pW, q1, q2⟩, hp2⟩ := ea_rl_cons hpre
  obtain ⟨zJ, E2, rfl, ⟨pJ, q3, q4⟩, hp3⟩ := ea_rl_cons hp2
  dsimp only at x1 x2 y1 y2 q1 q2 q3 q4
  have hW := rf_G_W pW q1 q2
  obtain ⟨da, usa, a1, a2⟩ := hI_a hI (show tb_G 191 = some (.inr (0, 388, 388, tg_row)) from rfl)
  obtain ⟨db, usb, b1, b2⟩ := hI_a hI (show tb_G 192 = some (.inr (0, 388, 388, tg_row)) from rfl)
  refine lk_run X hI a1 rfl b1 rfl (av := 0) (bv := 0) (by omega) (by omega) (by decide) (by decide) (by decide) (by decide) (by decide) (by decide) (Or.inl (by decide)) (fun C' h => ?_)
  have hF : fr_c (rf_G u) trk_5.1.2.2.1 C C' := lk_fr u h (by decide) (by decide)
  have hW' : rf_W C' := ⟨lk_same h (by decide) hW.1, lk_row h a1 hW.1, lk_same h (by decide) hW.2.2.1, lk_same h (by decide) hW.2.2.2.1, lk_acts h (by decide) hW⟩
  have pJ' : pv (rf_G u) C' 1001 0 zJ := by
    show rf_G u 1001 C' = zJ
    rw [hF.2 1001 (by decide) (by decide)]
    exact pJ
  exact ⟨none, rfl, h.1, hF, rfl, ⟨[1, zJ], ⟨⟨rf_b_1 hW', by decide, by decide⟩, ⟨pJ', q3, q4⟩, trivial⟩⟩, fun q hq => nomatch hq⟩

theorem tr_h6 (X : Option (List AI)) (u : Nat) : cx_ok (tb_P X) tb_G (rf_G u) trk_6 := by
  intro vs C EV hvs hI hpre hrel
  obtain ⟨v0, t0, rfl, h0, hvs1⟩ := ea_rl_cons hvs
  obtain ⟨v1, t1, rfl, ⟨al, rfl, x1, x2⟩, hvs2⟩ := ea_rl_cons hvs1
  obtain ⟨v2, t2, rfl, h2, hvs3⟩ := ea_rl_cons hvs2
  obtain ⟨v3, t3, rfl, ⟨be, rfl, y1, y2⟩, hvs4⟩ := ea_rl_cons hvs3
  obtain rfl := ea_rl_nil hvs4
  obtain rfl : v0 = .inr (.inl (some 192)) := h0
  obtain rfl : v2 = .inr (.inl (some 191)) := h2
  obtain ⟨zW, E1, rfl, ⟨pW, q1, q2⟩, hp2⟩ := ea_rl_cons hpre
  obtain ⟨zJ, E2, rfl, ⟨pJ, q3, q4⟩, hp3⟩ := ea_rl_cons hp2
  dsimp only at x1 x2 y1 y2 q1 q2 q3 q4
  have hW := rf_G_W pW q1 q2
  obtain ⟨da, usa, a1, a2⟩ := hI_a hI (show tb_G 192 = some (.inr (0, 388, 388, tg_row)) from rfl)
  obtain ⟨db, usb, b1, b2⟩ := hI_a hI (show tb_G 191 = some (.inr (0, 388, 388, tg_row)) from rfl)
  refine lk_run X hI a1 rfl b1 rfl (av := 0) (bv := 0) (by omega) (by omega) (by decide) (by decide) (by decide) (by decide) (by decide) (by decide) (Or.inl (by decide)) (fun C' h => ?_)
  have hF : fr_c (rf_G u) trk_6.1.2.2.1 C C' := lk_fr u h (by decide) (by decide)
  have hW' : rf_W C' := ⟨lk_row h a1 hW.2.1, lk_same h (by decide) hW.2.1, lk_same h (by decide) hW.2.2.1, lk_same h (by decide) hW.2.2.2.1, lk_acts h (by decide) hW⟩
  have pJ' : pv (rf_G u) C' 1001 0 zJ := by
    show rf_G u 1001 C' = zJ
    rw [hF.2 1001 (by decide) (by decide)]
    exact pJ
  exact ⟨none, rfl, h.1, hF, rfl, ⟨[1, zJ], ⟨⟨rf_b_1 hW', by decide, by decide⟩, ⟨pJ', q3, q4⟩, trivial⟩⟩, fun q hq => nomatch hq⟩

theorem tr_h7 (X : Option (List AI)) (u : Nat) : cx_ok (tb_P X) tb_G (rf_G u) trk_7 := by
  intro vs C EV hvs hI hpre hrel
  obtain ⟨v0, t0, rfl, h0, hvs1⟩ := ea_rl_cons hvs
  obtain ⟨v1, t1, rfl, ⟨al, rfl, x1, x2⟩, hvs2⟩ := ea_rl_cons hvs1
  obtain ⟨v2, t2, rfl, h2, hvs3⟩ := ea_rl_cons hvs2
  obtain ⟨v3, t3, rfl, ⟨be, rfl, y1, y2⟩, hvs4⟩ := ea_rl_cons hvs3
  obtain rfl := ea_rl_nil hvs4
  obtain rfl : v0 = .inr (.inl (some 191)) := h0
  obtain rfl : v2 = .inr (.inl (some 193)) := h2
  obtain ⟨zW, E1, rfl, ⟨pW, q1, q2⟩, hp2⟩ := ea_rl_cons hpre
  obtain ⟨zJ, E2, rfl, ⟨pJ, q3, q4⟩, hp3⟩ := ea_rl_cons hp2
  dsimp only at x1 x2 y1 y2 q1 q2 q3 q4
  have hW := rf_G_W pW q1 q2
  obtain ⟨da, usa, a1, a2⟩ := hI_a hI (show tb_G 191 = some (.inr (0, 388, 388, tg_row)) from rfl)
  obtain ⟨db, usb, b1, b2⟩ := hI_a hI (show tb_G 193 = some (.inr (0, 388, 388, tg_row)) from rfl)
  refine lk_run X hI a1 rfl b1 rfl (av := 0) (bv := 0) (by omega) (by omega) (by decide) (by decide) (by decide) (by decide) (by decide) (by decide) (Or.inl (by decide)) (fun C' h => ?_)
  have hF : fr_c (rf_G u) trk_7.1.2.2.1 C C' := lk_fr u h (by decide) (by decide)
  have hW' : rf_W C' := ⟨lk_same h (by decide) hW.1, lk_same h (by decide) hW.2.1, lk_row h a1 hW.1, lk_same h (by decide) hW.2.2.2.1, lk_acts h (by decide) hW⟩
  have pJ' : pv (rf_G u) C' 1001 0 zJ := by
    show rf_G u 1001 C' = zJ
    rw [hF.2 1001 (by decide) (by decide)]
    exact pJ
  exact ⟨none, rfl, h.1, hF, rfl, ⟨[1, zJ], ⟨⟨rf_b_1 hW', by decide, by decide⟩, ⟨pJ', q3, q4⟩, trivial⟩⟩, fun q hq => nomatch hq⟩

theorem tr_h8 (X : Option (List AI)) (u : Nat) : cx_ok (tb_P X) tb_G (rf_G u) trk_8 := by
  intro vs C EV hvs hI hpre hrel
  obtain ⟨v0, t0, rfl, h0, hvs1⟩ := ea_rl_cons hvs
  obtain ⟨v1, t1, rfl, ⟨al, rfl, x1, x2⟩, hvs2⟩ := ea_rl_cons hvs1
  obtain ⟨v2, t2, rfl, h2, hvs3⟩ := ea_rl_cons hvs2
  obtain ⟨v3, t3, rfl, ⟨be, rfl, y1, y2⟩, hvs4⟩ := ea_rl_cons hvs3
  obtain rfl := ea_rl_nil hvs4
  obtain rfl : v0 = .inr (.inl (some 193)) := h0
  obtain rfl : v2 = .inr (.inl (some 191)) := h2
  obtain ⟨zW, E1, rfl, ⟨pW, q1, q2⟩, hp2⟩ := ea_rl_cons hpre
  obtain ⟨zJ, E2, rfl, ⟨pJ, q3, q4⟩, hp3⟩ := ea_rl_cons hp2
  dsimp only at x1 x2 y1 y2 q1 q2 q3 q4
  have hW := rf_G_W pW q1 q2
  obtain ⟨da, usa, a1, a2⟩ := hI_a hI (show tb_G 193 = some (.inr (0, 388, 388, tg_row)) from rfl)
  obtain ⟨db, usb, b1, b2⟩ := hI_a hI (show tb_G 191 = some (.inr (0, 388, 388, tg_row)) from rfl)
  refine lk_run X hI a1 rfl b1 rfl (av := 0) (bv := 0) (by omega) (by omega) (by decide) (by decide) (by decide) (by decide) (by decide) (by decide) (Or.inl (by decide)) (fun C' h => ?_)
  have hF : fr_c (rf_G u) trk_8.1.2.2.1 C C' := lk_fr u h (by decide) (by decide)
  have hW' : rf_W C' := ⟨lk_row h a1 hW.2.2.1, lk_same h (by decide) hW.2.1, lk_same h (by decide) hW.2.2.1, lk_same h (by decide) hW.2.2.2.1, lk_acts h (by decide) hW⟩
  have pJ' : pv (rf_G u) C' 1001 0 zJ := by
    show rf_G u 1001 C' = zJ
    rw [hF.2 1001 (by decide) (by decide)]
    exact pJ
  exact ⟨none, rfl, h.1, hF, rfl, ⟨[1, zJ], ⟨⟨rf_b_1 hW', by decide, by decide⟩, ⟨pJ', q3, q4⟩, trivial⟩⟩, fun q hq => nomatch hq⟩

theorem tr_h9 (X : Option (List AI)) (u : Nat) : cx_ok (tb_P X) tb_G (rf_G u) trk_9 := by
  intro vs C EV hvs hI hpre hrel
  obtain ⟨v0, t0, rfl, h0, hvs1⟩ := ea_rl_cons hvs
  obtain ⟨v1, t1, rfl, ⟨al, rfl, x1, x2⟩, hvs2⟩ := ea_rl_cons hvs1
  obtain ⟨v2, t2, rfl, h2, hvs3⟩ := ea_rl_cons hvs2
  obtain ⟨v3, t3, rfl, ⟨be, rfl, y1, y2⟩, hvs4⟩ := ea_rl_cons hvs3
  obtain rfl := ea_rl_nil hvs4
  obtain rfl : v0 = .inr (.inl (some 191)) := h0
  obtain rfl : v2 = .inr (.inl (some 194)) := h2
  obtain ⟨zW, E1, rfl, ⟨pW, q1, q2⟩, hp2⟩ := ea_rl_cons hpre
  obtain ⟨zJ, E2, rfl, ⟨pJ, q3, q4⟩, hp3⟩ := ea_rl_cons hp2
  dsimp only at x1 x2 y1 y2 q1 q2 q3 q4
  have hW := rf_G_W pW q1 q2
  obtain ⟨da, usa, a1, a2⟩ := hI_a hI (show tb_G 191 = some (.inr (0, 388, 388, tg_row)) from rfl)
  obtain ⟨db, usb, b1, b2⟩ := hI_a hI (show tb_G 194 = some (.inr (0, 388, 388, tg_row)) from rfl)
  refine lk_run X hI a1 rfl b1 rfl (av := 0) (bv := 0) (by omega) (by omega) (by decide) (by decide) (by decide) (by decide) (by decide) (by decide) (Or.inl (by decide)) (fun C' h => ?_)
  have hF : fr_c (rf_G u) trk_9.1.2.2.1 C C' := lk_fr u h (by decide) (by decide)
  have hW' : rf_W C' := ⟨lk_same h (by decide) hW.1, lk_same h (by decide) hW.2.1, lk_same h (by decide) hW.2.2.1, lk_row h a1 hW.1, lk_acts h (by decide) hW⟩
  have pJ' : pv (rf_G u) C' 1001 0 zJ := by
    show rf_G u 1001 C' = zJ
    rw [hF.2 1001 (by decide) (by decide)]
    exact pJ
  exact ⟨none, rfl, h.1, hF, rfl, ⟨[1, zJ], ⟨⟨rf_b_1 hW', by decide, by decide⟩, ⟨pJ', q3, q4⟩, trivial⟩⟩, fun q hq => nomatch hq⟩

theorem tr_h10 (X : Option (List AI)) (u : Nat) : cx_ok (tb_P X) tb_G (rf_G u) trk_10 := by
  intro vs C EV hvs hI hpre hrel
  obtain ⟨v0, t0, rfl, h0, hvs1⟩ := ea_rl_cons hvs
  obtain ⟨v1, t1, rfl, ⟨al, rfl, x1, x2⟩, hvs2⟩ := ea_rl_cons hvs1
  obtain ⟨v2, t2, rfl, h2, hvs3⟩ := ea_rl_cons hvs2
  obtain ⟨v3, t3, rfl, ⟨be, rfl, y1, y2⟩, hvs4⟩ := ea_rl_cons hvs3
  obtain rfl := ea_rl_nil hvs4
  obtain rfl : v0 = .inr (.inl (some 194)) := h0
  obtain rfl : v2 = .inr (.inl (some 191)) := h2
  obtain ⟨zW, E1, rfl, ⟨pW, q1, q2⟩, hp2⟩ := ea_rl_cons hpre
  obtain ⟨zJ, E2, rfl, ⟨pJ, q3, q4⟩, hp3⟩ := ea_rl_cons hp2
  dsimp only at x1 x2 y1 y2 q1 q2 q3 q4
  have hW := rf_G_W pW q1 q2
  obtain ⟨da, usa, a1, a2⟩ := hI_a hI (show tb_G 194 = some (.inr (0, 388, 388, tg_row)) from rfl)
  obtain ⟨db, usb, b1, b2⟩ := hI_a hI (show tb_G 191 = some (.inr (0, 388, 388, tg_row)) from rfl)
  refine lk_run X hI a1 rfl b1 rfl (av := 0) (bv := 0) (by omega) (by omega) (by decide) (by decide) (by decide) (by decide) (by decide) (by decide) (Or.inl (by decide)) (fun C' h => ?_)
  have hF : fr_c (rf_G u) trk_10.1.2.2.1 C C' := lk_fr u h (by decide) (by decide)
  have hW' : rf_W C' := ⟨lk_row h a1 hW.2.2.2.1, lk_same h (by decide) hW.2.1, lk_same h (by decide) hW.2.2.1, lk_same h (by decide) hW.2.2.2.1, lk_acts h (by decide) hW⟩
  have pJ' : pv (rf_G u) C' 1001 0 zJ := by
    show rf_G u 1001 C' = zJ
    rw [hF.2 1001 (by decide) (by decide)]
    exact pJ
  exact ⟨none, rfl, h.1, hF, rfl, ⟨[1, zJ], ⟨⟨rf_b_1 hW', by decide, by decide⟩, ⟨pJ', q3, q4⟩, trivial⟩⟩, fun q hq => nomatch hq⟩
