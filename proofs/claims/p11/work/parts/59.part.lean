/-! CONTRACTS BY HAND: a part of a sum is read -/
def trk_n9 : CX := ((219, [.inr (.inl 190), .inl (0, 0), .inl (999, 999)], [(190, 191), (1005, 1006)], (1, (-1), 999), [], [(190, 19, 0, 400), (190, 25, 0, 400), (190, 22, 0, 6)]), [], 0, ([(190, 19, 0, 400), (190, 21, 0, 400), (190, 25, 0, 400), (190, 22, 0, 6)], [(.inr (.inl 0), .inr (.inr (190, 19)), 0), (.inr (.inr (190, 25)), .inr (.inl 1), 0), (.inr (.inl 1), .inr (.inr (190, 25)), 0), (.inr (.inr (190, 22)), .inr (.inl 2), 0), (.inr (.inl 2), .inr (.inr (190, 22)), 0)]), ([(190, 19, 0, 400), (190, 21, 0, 400), (190, 25, 0, 400), (190, 22, 0, 6)], [(.inr (.inl 0), .inr (.inr (190, 19)), (-1)), (.inr (.inr (190, 25)), .inr (.inl 1), 0), (.inr (.inl 1), .inr (.inr (190, 25)), 0), (.inr (.inr (190, 22)), .inr (.inl 2), 0), (.inr (.inl 2), .inr (.inr (190, 22)), 0)]))
def trh_n9 : List (Nat × HX) := [(6, ([(0, .inr (.inl 190)), (1, .inl (0, 0)), (2, .inl (999, 999)), (3, .inl ((-2147483648), 2147483647))], [(190, 19, 0, 400), (190, 21, 0, 400), (190, 25, 0, 400), (190, 22, 0, 6)], [(.inr (.inl 0), .inr (.inr (190, 19)), 0), (.inr (.inr (190, 25)), .inr (.inl 1), 0), (.inr (.inl 1), .inr (.inr (190, 25)), 0), (.inr (.inr (190, 22)), .inr (.inl 2), 0), (.inr (.inl 2), .inr (.inr (190, 22)), 0), (.inr (.inr (190, 21)), .inr (.inr (190, 19)), 0), (.inr (.inl 0), .inr (.inr (190, 21)), 0)], 400, [(1, some (.inr (.inr (190, 19))))]))]
set_option maxRecDepth 100000 in
theorem n9_ck : cx_ck (tb_P none) tb_G tr_gs (tr_ct 62) (fun _ _ => none) trh_n9 trk_n9 4000 = true := by decide +kernel
theorem n9_ok (X : Option (List AI)) (u : Nat) (IH : ∀ q, q < 62 → ∀ u, cx_ok (tb_P X) tb_G (rf_G u) (tr_at q)) : cx_ok (tb_P X) tb_G (rf_G u) trk_n9 := cx_ck_ok tr_G9 (rf_gs u) (tr_hct IH) no_m (hds := trh_n9) (n := 4000) (by rw [cx_scr X]; exact n9_ck)
def rp_M : List (Nat × Nat) := [(190, 191), (202, 203), (1001, 1002), (1003, 1006)]
theorem rp_lead {u : Nat} {C : List AC} {p s : Int} (hp : pv (rf_G u) C 190 19 p) (hs : pv (rf_G u) C 190 25 s) : pv (rf_G u) C 1005 0 (p - s) := by
  show rf_v C 190 19 - rf_v C 190 25 = p - s
  rw [rf_v_pv (a := 190) (by decide) hp, rf_v_pv (a := 190) (by decide) hs]
theorem ok_ld {P : EP} {m pc x q : Nat} {u : Nat} {L : List (Nat × AV)} {S : List AV} {C : List AC} {K : Option AV ⊕ Nat → List AC → Prop} (hc : ep_cod P m pc = some (.ldc x, 2)) (hp : ep_pl P m x = some (23, q + 1, u)) (he : Nat.beq ((q + 1) % 2) 0 = true) (h : ok_ P m (pc + 2) L (.inr (.inr (.inr (.inr (q + 1)))) :: S) C K) : ok_ P m pc L S C K :=
  ok_h (C' := none) hc rfl rfl (by simp only [ea_h, hp, he, cond_true]) h
set_option maxRecDepth 20000 in
set_option maxHeartbeats 2000000 in
theorem tr_h72 (X : Option (List AI)) (u : Nat) (IH : ∀ q, q < 72 → ∀ u, cx_ok (tb_P X) tb_G (rf_G u) (tr_at q)) : cx_ok (tb_P X) tb_G (rf_G u) trk_72 := by
  intro vs C EV hvs hI hpre hrel
  obtain ⟨v0, t0, rfl, h0, hvs1⟩ := ea_rl_cons hvs
  obtain rfl := ea_rl_nil hvs1
  obtain rfl : v0 = .inr (.inl (some 190)) := h0
  obtain ⟨p0, E1, rfl, ⟨pP, p1, p2⟩, hp1⟩ := ea_rl_cons hpre
  obtain ⟨s0, E2, rfl, ⟨pS, s1, s2⟩, hp2⟩ := ea_rl_cons hp1
  obtain ⟨d0, E3, rfl, ⟨pD, d1, d2⟩, hp3⟩ := ea_rl_cons hp2
  obtain ⟨i0, E4, rfl, ⟨pI, i1, i2⟩, hp4⟩ := ea_rl_cons hp3
  obtain ⟨g0, E5, rfl, ⟨pG, g1, g2⟩, hp5⟩ := ea_rl_cons hp4
  obtain rfl := ea_rl_nil hp5
  dsimp only at p1 p2 s1 s2 d1 d2 i1 i2 g1 g2
  have hlead : i0 = p0 - s0 := by
    have h1 := rp_lead pP pS
    have h2 : rf_G u 1005 C = i0 := pI
    have h3 : rf_G u 1005 C = p0 - s0 := h1
    omega
  obtain ⟨ms, m1, m2, m3⟩ := hI_f hI (show tb_G 190 = some (.inl (12, _)) from rfl)
  have last : ∀ (v : Int32) (C3 : List AC) (zp zs zd zi zg : Int), xI tb_G C3 → fr_c (rf_G u) rp_M C C3 → pv (rf_G u) C3 190 19 zp → pv (rf_G u) C3 190 25 zs → pv (rf_G u) C3 190 22 zd → pv (rf_G u) C3 1005 0 zi → pv (rf_G u) C3 1004 0 zg → p0 ≤ zp → zp ≤ 400 → 0 ≤ zs → zs ≤ 400 → zd = d0 → (0 ≤ v.toInt → i0 ≤ zi) → zi ≤ 400 → zg = g0 + 1 → zg ≤ 400 → ok_ (tb_P X) 225 93 [(1, .inl (.inl v)), (0, .inr (.inl (some 190)))] [] C3 (cx_post (rf_G u) tb_G trk_72 [p0, s0, d0, i0, g0] C) := by
    intro v C3 zp zs zd zi zg I3 F3 qP qS qD qI qG a1 a2 a3 a4 a5 a6 a7 a8 a9
    refine ok_p rfl rfl rfl ?_
    cases hv : ea_ck .lt v 0 with
    | true =>
      refine ok_if true rfl rfl hv ?_
      refine ok_p rfl rfl rfl ?_
      refine ok_r rfl rfl rfl rfl rfl ?_
      refine ⟨_, rfl, I3, F3, ⟨_, rfl, by decide, by decide⟩, ⟨[zp, zs, zd], ⟨⟨qP, by show (0 : Int) ≤ zp; omega, a2⟩, ⟨qS, a3, a4⟩, ⟨qD, by show (0 : Int) ≤ zd; omega, by show zd ≤ (6 : Int); omega⟩, trivial⟩⟩, fun q hq => ?_⟩
      rcases List.mem_cons.mp hq with rfl | hq
      · exact ⟨p0, zp, rfl, qP, by dsimp only; omega⟩
      · exact nomatch hq
    | false =>
      have hv0 : ¬ v < 0 := of_decide_eq_false hv
      rw [Int32.lt_iff_toInt_lt, show (0 : Int32).toInt = 0 by decide] at hv0
      have a6' := a6 (by omega)
      refine ok_if false rfl rfl hv ?_
      refine ok_p rfl rfl rfl ?_
      refine ok_p rfl rfl rfl ?_
      refine ok_r rfl rfl rfl rfl rfl ?_
      refine ⟨_, rfl, I3, F3, ⟨_, rfl, by decide, by decide⟩, ⟨[zp, zs, zd, zi, zg], ⟨⟨qP, by show (0 : Int) ≤ zp; omega, a2⟩, ⟨qS, a3, a4⟩, ⟨qD, by show (0 : Int) ≤ zd; omega, by show zd ≤ (6 : Int); omega⟩, ⟨qI, by show (1 : Int) ≤ zi; omega, a7⟩, ⟨qG, by show (1 : Int) ≤ zg; omega, a9⟩, trivial⟩⟩, fun q hq => ?_⟩
      rcases List.mem_cons.mp hq with rfl | hq
      · exact ⟨p0, zp, rfl, qP, by dsimp only; omega⟩
      rcases List.mem_cons.mp hq with rfl | hq
      · exact ⟨zd, d0, qD, rfl, by dsimp only; omega⟩
      rcases List.mem_cons.mp hq with rfl | hq
      · exact ⟨d0, zd, rfl, qD, by dsimp only; omega⟩
      rcases List.mem_cons.mp hq with rfl | hq
      · exact ⟨i0, zi, rfl, qI, by dsimp only; omega⟩
      rcases List.mem_cons.mp hq with rfl | hq
      · exact ⟨zg, g0, qG, rfl, by dsimp only; omega⟩
      rcases List.mem_cons.mp hq with rfl | hq
      · exact ⟨g0, zg, rfl, qG, by dsimp only; omega⟩
      · exact nomatch hq
  have emit : ∀ (st n v : Int32) (C2 : List AC) (zp zs zd : Int) (pc : Nat), ep_cod (tb_P X) 225 pc = some (.invokevirtual 179, 3) → (∀ C3, ok_ (tb_P X) 225 93 [(1, .inl (.inl v)), (0, .inr (.inl (some 190)))] [] C3 (cx_post (rf_G u) tb_G trk_72 [p0, s0, d0, i0, g0] C) → ok_ (tb_P X) 225 (pc + 3) [(1, .inl (.inl v)), (0, .inr (.inl (some 190)))] [] C3 (cx_post (rf_G u) tb_G trk_72 [p0, s0, d0, i0, g0] C)) → xI tb_G C2 → fr_c (rf_G u) [(190, 191), (1005, 1006)] C C2 → pv (rf_G u) C2 190 19 zp → pv (rf_G u) C2 190 25 zs → pv (rf_G u) C2 190 22 zd → p0 ≤ zp → zp ≤ 400 → zs = s0 → zd = d0 → (0 ≤ v.toInt → p0 + 1 ≤ zp) → -1 ≤ st.toInt → st.toInt ≤ 5 → ok_ (tb_P X) 225 pc [(1, .inl (.inl v)), (0, .inr (.inl (some 190)))] [.inl (.inl n), .inl (.inl st), .inr (.inl (some 190))] C2 (cx_post (rf_G u) tb_G trk_72 [p0, s0, d0, i0, g0] C) := by
    intro st n v C2 zp zs zd pc hc hk I2 F2 qP qS qD a1 a2 a3 a4 a5 a6 a7
    obtain ⟨ms', m1', -, -⟩ := hI_f I2 (show tb_G 190 = some (.inl (12, _)) from rfl)
    have qI := rp_lead qP qS
    have qG : pv (rf_G u) C2 1004 0 g0 := by
      show rf_G u 1004 C2 = g0
      rw [F2.2 1004 (by decide) (by decide)]
      exact pG
    refine ok_cx (c := trk_31) (show cx_ok (tb_P X) tb_G (rf_G u) trk_31 from IH 31 (by decide) u) (as := [.inl (.inl st), .inl (.inl n)]) (T := []) (EV := [zp, zs, zd, zp - zs, g0]) hc rfl m1' rfl rfl rfl ⟨rfl, ⟨st, rfl, a6, a7⟩, ⟨n, rfl, Int32.le_toInt n, Int.le_of_lt_add_one (Int32.toInt_lt n)⟩, trivial⟩ I2 ⟨⟨qP, by show (0 : Int) ≤ zp; omega, a2⟩, ⟨qS, by show (0 : Int) ≤ zs; omega, by show zs ≤ (400 : Int); omega⟩, ⟨qD, by show (0 : Int) ≤ zd; omega, by show zd ≤ (6 : Int); omega⟩, ⟨qI, by show (1 : Int) ≤ zp - zs; omega, by show zp - zs ≤ (400 : Int); omega⟩, ⟨qG, g1, g2⟩, trivial⟩ (fun q hq => nomatch hq) (fun w C3 I3 F3 rv P3 => ?_)
    obtain rfl : w = none := rv
    obtain ⟨⟨NV, hNV⟩, hR⟩ := P3
    obtain ⟨yp, N1, rfl, ⟨rP, -, -⟩, hn1⟩ := ea_rl_cons hNV
    obtain ⟨ys, N2, rfl, ⟨rS, ys1, ys2⟩, hn2⟩ := ea_rl_cons hn1
    obtain ⟨yd, N3, rfl, ⟨rD, -, -⟩, hn3⟩ := ea_rl_cons hn2
    obtain ⟨yi, N4, rfl, ⟨rI, yi1, yi2⟩, hn4⟩ := ea_rl_cons hn3
    obtain ⟨yg, N5, rfl, ⟨rG, yg1, yg2⟩, hn5⟩ := ea_rl_cons hn4
    have t1 := rl_z hR (.head _) (z1 := yp) (z2 := zp) rP rfl
    have t2 := rl_z hR (.tail _ (.head _)) (z1 := zp) (z2 := yp) rfl rP
    have t3 := rl_z hR (.tail _ (.tail _ (.head _))) (z1 := yd) (z2 := zd) rD rfl
    have t4 := rl_z hR (.tail _ (.tail _ (.tail _ (.head _)))) (z1 := zd) (z2 := yd) rfl rD
    have t5 := rl_z hR (.tail _ (.tail _ (.tail _ (.tail _ (.head _))))) (z1 := yi) (z2 := zp - zs) rI rfl
    have t6 := rl_z hR (.tail _ (.tail _ (.tail _ (.tail _ (.tail _ (.head _)))))) (z1 := zp - zs) (z2 := yi) rfl rI
    have t7 := rl_z hR (.tail _ (.tail _ (.tail _ (.tail _ (.tail _ (.tail _ (.head _))))))) (z1 := yg) (z2 := g0) rG rfl
    have t8 := rl_z hR (.tail _ (.tail _ (.tail _ (.tail _ (.tail _ (.tail _ (.tail _ (.head _)))))))) (z1 := g0) (z2 := yg) rfl rG
    dsimp only at ys1 ys2 yi1 yi2 yg1 yg2
    exact hk C3 (last v C3 yp ys yd yi yg I3 (fr_c_tr (fr_c_tr (fr_c_rf _ rp_M C) (by decide) F2) (by decide) F3) rP rS rD rI rG (by omega) (by omega) (by omega) (by omega) (by omega) (fun h => by have := a5 h; omega) (by omega) (by omega) (by omega))
  refine ok_p rfl rfl rfl ?_
  refine ok_cx (c := trk_36) (show cx_ok (tb_P X) tb_G (rf_G u) trk_36 from IH 36 (by decide) u) (as := []) (T := []) (EV := [p0, s0, d0]) rfl rfl m1 rfl rfl rfl ⟨rfl, trivial⟩ hI ⟨⟨pP, p1, p2⟩, ⟨pS, s1, s2⟩, ⟨pD, d1, d2⟩, trivial⟩ (fun q hq => nomatch hq) (fun w C1 I1 F1 rv P1 => ?_)
  obtain rfl : w = none := rv
  obtain ⟨⟨NV, hNV⟩, hR⟩ := P1
  obtain ⟨yp, N1, rfl, ⟨rP, yp1, yp2⟩, hn1⟩ := ea_rl_cons hNV
  obtain ⟨yb, N2, rfl, ⟨rB, yb1, yb2⟩, hn2⟩ := ea_rl_cons hn1
  obtain ⟨ys, N3, rfl, ⟨rS, ys1, ys2⟩, hn3⟩ := ea_rl_cons hn2
  obtain ⟨yd, N4, rfl, ⟨rD, yd1, yd2⟩, hn4⟩ := ea_rl_cons hn3
  have t1 := rl_z hR (.head _) (z1 := p0) (z2 := yp) rfl rP
  have t2 := rl_z hR (.tail _ (.head _)) (z1 := ys) (z2 := s0) rS rfl
  have t3 := rl_z hR (.tail _ (.tail _ (.head _))) (z1 := s0) (z2 := ys) rfl rS
  have t4 := rl_z hR (.tail _ (.tail _ (.tail _ (.head _)))) (z1 := yd) (z2 := d0) rD rfl
  have t5 := rl_z hR (.tail _ (.tail _ (.tail _ (.tail _ (.head _))))) (z1 := d0) (z2 := yd) rfl rD
  have t6 := rl_z hR (.tail _ (.tail _ (.tail _ (.tail _ (.tail _ (.head _)))))) (z1 := yb) (z2 := yp) rB rP
  have t7 := rl_z hR (.tail _ (.tail _ (.tail _ (.tail _ (.tail _ (.tail _ (.head _))))))) (z1 := p0) (z2 := yb) rfl rB
  dsimp only at yp1 yp2 yb1 yb2 ys1 ys2 yd1 yd2
  clear hR hNV hn1 hn2 hn3 hn4
  obtain ⟨ms1, k1, k2, k3⟩ := hI_f I1 (show tb_G 190 = some (.inl (12, _)) from rfl)
  obtain ⟨p, ⟨ci, vs', f1, r19⟩, rfl⟩ := fd_of_pv (a := 190) (by decide) k1 rP
  rw [k1] at f1
  cases f1
  obtain ⟨b, ⟨ci, vs', f1, r21⟩, rfl⟩ := fd_of_pv (a := 190) (by decide) k1 rB
  rw [k1] at f1
  cases f1
  refine ok_p rfl rfl rfl ?_
  refine ok_gf rfl rfl k1 r19 ?_
  refine ok_p rfl rfl rfl ?_
  refine ok_gf rfl rfl k1 r21 ?_
  cases hq : ea_ck .ne p b with
  | false =>
    refine ok_ic false rfl rfl hq ?_
    refine ok_p rfl rfl rfl ?_
    refine ok_p rfl rfl rfl ?_
    refine ok_p rfl rfl rfl ?_
    refine ok_cx (c := trk_n9) (n9_ok X u (fun q hq u => IH q (Nat.lt_trans hq (by decide)) u)) (as := [.inl (.inl (Int32.ofInt 0)), .inl (.inl (Int16.ofInt 999).toInt32)]) (T := []) (EV := [p.toInt, ys, yd]) rfl rfl k1 rfl rfl rfl ⟨rfl, ⟨_, rfl, by decide, by decide⟩, ⟨_, rfl, by decide, by decide⟩, trivial⟩ I1 ⟨⟨rP, yp1, yp2⟩, ⟨rS, ys1, ys2⟩, ⟨rD, yd1, yd2⟩, trivial⟩ (fun q hq => nomatch hq) (fun w C2 I2 F2 rv P2 => ?_)
    obtain ⟨v, rfl, v1, v2⟩ := rv
    have F12 : fr_c (rf_G u) [(190, 191), (1005, 1006)] C C2 := fr_c_same F1 F2
    have key : ∃ zp zs zd, pv (rf_G u) C2 190 19 zp ∧ pv (rf_G u) C2 190 25 zs ∧ pv (rf_G u) C2 190 22 zd ∧ p0 ≤ zp ∧ zp ≤ 400 ∧ zs = s0 ∧ zd = d0 ∧ (0 ≤ v.toInt → p0 + 1 ≤ zp) := by
      by_cases hv : v.toInt < 0
      · have e : cx_po trk_n9 (some (.inl (.inl v))) = trk_n9.2.2.2.1 := if_pos hv
        rw [e] at P2
        obtain ⟨⟨NV, hNV⟩, hR⟩ := P2
        obtain ⟨zp, N1, rfl, ⟨zP, zp1, zp2⟩, hn1⟩ := ea_rl_cons hNV
        obtain ⟨zb, N2, rfl, -, hn2⟩ := ea_rl_cons hn1
        obtain ⟨zs, N3, rfl, ⟨zS, -, -⟩, hn3⟩ := ea_rl_cons hn2
        obtain ⟨zd, N4, rfl, ⟨zD, -, -⟩, hn4⟩ := ea_rl_cons hn3
        have w1 := rl_z hR (.head _) (z1 := p.toInt) (z2 := zp) rfl zP
        have w2 := rl_z hR (.tail _ (.head _)) (z1 := zs) (z2 := ys) zS rfl
        have w3 := rl_z hR (.tail _ (.tail _ (.head _))) (z1 := ys) (z2 := zs) rfl zS
        have w4 := rl_z hR (.tail _ (.tail _ (.tail _ (.head _)))) (z1 := zd) (z2 := yd) zD rfl
        have w5 := rl_z hR (.tail _ (.tail _ (.tail _ (.tail _ (.head _))))) (z1 := yd) (z2 := zd) rfl zD
        dsimp only at zp1 zp2
        exact ⟨zp, zs, zd, zP, zS, zD, by omega, zp2, by omega, by omega, fun h => by omega⟩
      · have e : cx_po trk_n9 (some (.inl (.inl v))) = trk_n9.2.2.2.2 := if_neg hv
        rw [e] at P2
        obtain ⟨⟨NV, hNV⟩, hR⟩ := P2
        obtain ⟨zp, N1, rfl, ⟨zP, zp1, zp2⟩, hn1⟩ := ea_rl_cons hNV
        obtain ⟨zb, N2, rfl, -, hn2⟩ := ea_rl_cons hn1
        obtain ⟨zs, N3, rfl, ⟨zS, -, -⟩, hn3⟩ := ea_rl_cons hn2
        obtain ⟨zd, N4, rfl, ⟨zD, -, -⟩, hn4⟩ := ea_rl_cons hn3
        have w1 := rl_z hR (.head _) (z1 := p.toInt) (z2 := zp) rfl zP
        have w2 := rl_z hR (.tail _ (.head _)) (z1 := zs) (z2 := ys) zS rfl
        have w3 := rl_z hR (.tail _ (.tail _ (.head _))) (z1 := ys) (z2 := zs) rfl zS
        have w4 := rl_z hR (.tail _ (.tail _ (.tail _ (.head _)))) (z1 := zd) (z2 := yd) zD rfl
        have w5 := rl_z hR (.tail _ (.tail _ (.tail _ (.tail _ (.head _))))) (z1 := yd) (z2 := zd) rfl zD
        dsimp only at zp1 zp2
        exact ⟨zp, zs, zd, zP, zS, zD, by omega, zp2, by omega, by omega, fun h => by omega⟩
    obtain ⟨zp, zs, zd, zP, zS, zD, c1, c2, c3, c4, c5⟩ := key
    refine ok_p rfl rfl rfl ?_
    refine ok_p rfl rfl rfl ?_
    refine ok_p rfl rfl rfl ?_
    refine ok_p rfl rfl rfl ?_
    exact emit (Int32.ofInt 5) v v C2 zp zs zd 27 rfl (fun C3 h => ok_p rfl rfl rfl h) I2 F12 zP zS zD c1 c2 c3 c4 c5 (by decide) (by decide)
  | true =>
    have hne : ¬ p = b := by
      have h1 : (!decide (p = b)) = true := hq
      rw [Bool.not_eq_true', decide_eq_false_iff_not] at h1
      exact h1
    have hne' : p.toInt ≠ b.toInt := fun h => hne (Int32.toInt_inj.mp h)
    refine ok_ic true rfl rfl hq ?_
    have fin : ∀ v : Int32, -1 ≤ v.toInt → v.toInt ≤ 5 → ok_ (tb_P X) 225 86 [(0, .inr (.inl (some 190)))] [.inl (.inl v)] C1 (cx_post (rf_G u) tb_G trk_72 [p0, s0, d0, i0, g0] C) := by
      intro v v1 v2
      refine ok_p rfl rfl rfl ?_
      refine ok_p rfl rfl rfl ?_
      refine ok_p rfl rfl rfl ?_
      refine ok_p rfl rfl rfl ?_
      exact emit v (Int32.ofInt 0) v C1 p.toInt ys yd 90 rfl (fun C3 h => h) I1 F1 rP rS rD (by omega) (by omega) (by omega) (by omega) (fun _ => by omega) v1 v2
    have word : ∀ (c : CX) (q pc : Nat), cx_ok (tb_P X) tb_G (rf_G u) c → c.1.1 = 216 → c.1.2.1 = [.inr (.inl 190), .inr (.inr (q + 4))] → c.1.2.2.1 = [] → c.1.2.2.2.1 = (1, 0, 1) → c.1.2.2.2.2.2 = [(190, 19, 0, 400), (190, 21, 0, 400)] → c.2.1 = [] → ep_cod (tb_P X) 225 pc = some (.invokevirtual 169, 3) → ok_ (tb_P X) 225 (pc + 3) [(0, .inr (.inl (some 190)))] [.inl (.inl (Int32.ofInt 0))] C1 (cx_post (rf_G u) tb_G trk_72 [p0, s0, d0, i0, g0] C) → ok_ (tb_P X) 225 (pc + 3) [(0, .inr (.inl (some 190)))] [.inl (.inl (Int32.ofInt 1))] C1 (cx_post (rf_G u) tb_G trk_72 [p0, s0, d0, i0, g0] C) → ok_ (tb_P X) 225 pc [(0, .inr (.inl (some 190)))] [.inr (.inr (.inr (.inr (q + 1)))), .inr (.inl (some 190))] C1 (cx_post (rf_G u) tb_G trk_72 [p0, s0, d0, i0, g0] C) := by
      intro c q pc hcx e1 e2 e3 e4 e5 e6 hc g0 g1
      refine ok_cx hcx (as := [.inr (.inr (.inr (.inr (q + 1))))]) (T := []) (EV := [p.toInt, b.toInt]) hc (by rw [e1]; rfl) k1 (by rw [e1]; rfl) rfl (by rw [e1]; rfl) (by rw [e2]; exact ⟨rfl, rfl, trivial⟩) I1 (by rw [e5]; exact ⟨⟨rP, yp1, yp2⟩, ⟨rB, yb1, yb2⟩, trivial⟩) (by rw [e6]; exact fun q hq => nomatch hq) (fun w C2 I2 F2 rv P2 => ?_)
      rw [e3] at F2
      obtain rfl := nt_ext (fun b => F2.1 b rfl)
      rw [e4] at rv
      obtain ⟨y, rfl, y1, y2⟩ := rv
      dsimp only at y1 y2
      have hy : y = Int32.ofInt 0 ∨ y = Int32.ofInt 1 := by
        rcases (show y.toInt = 0 ∨ y.toInt = 1 by omega) with h | h
        · exact Or.inl (Int32.toInt_inj.mp (by rw [h]; decide))
        · exact Or.inr (Int32.toInt_inj.mp (by rw [h]; decide))
      rcases hy with rfl | rfl
      · exact g0
      · exact g1
    refine ok_p rfl rfl rfl ?_
    refine ok_ld (q := 196476243687425) rfl rfl (by decide) ?_
    refine word trk_23 196476243687425 36 (IH 23 (by decide) u) rfl rfl rfl rfl rfl rfl rfl ?_ (ok_p rfl rfl rfl (ok_p rfl rfl rfl (ok_p rfl rfl rfl (fin _ (by decide) (by decide)))))
    refine ok_p rfl rfl rfl ?_
    refine ok_p rfl rfl rfl ?_
    refine ok_ld (q := 3165696515) rfl rfl (by decide) ?_
    refine word trk_17 3165696515 49 (IH 17 (by decide) u) rfl rfl rfl rfl rfl rfl rfl ?_ (ok_p rfl rfl rfl (ok_p rfl rfl rfl (ok_p rfl rfl rfl (fin _ (by decide) (by decide)))))
    refine ok_p rfl rfl rfl ?_
    refine ok_p rfl rfl rfl ?_
    refine ok_ld (q := 3082042245) rfl rfl (by decide) ?_
    refine word trk_15 3082042245 62 (IH 15 (by decide) u) rfl rfl rfl rfl rfl rfl rfl ?_ (ok_p rfl rfl rfl (ok_p rfl rfl rfl (ok_p rfl rfl rfl (fin _ (by decide) (by decide)))))
    refine ok_p rfl rfl rfl ?_
    refine ok_p rfl rfl rfl ?_
    refine ok_ld (q := 201467113190791) rfl rfl (by decide) ?_
    refine word trk_25 201467113190791 75 (IH 25 (by decide) u) rfl rfl rfl rfl rfl rfl rfl ?_ (ok_p rfl rfl rfl (ok_p rfl rfl rfl (ok_p rfl rfl rfl (fin _ (by decide) (by decide)))))
    refine ok_p rfl rfl rfl ?_
    refine ok_p rfl rfl rfl ?_
    exact fin _ (by decide) (by decide)
