/-! CONTRACTS BY HAND: the tape is used up -/
theorem fr_c_same {GF : GH} {M : List (Nat × Nat)} {C0 C C' : List AC} (h : fr_c GF M C0 C) (h' : fr_c GF M C C') : fr_c GF M C0 C' := ⟨fun b hb => by rw [h'.1 b hb, h.1 b hb], fun k hk hm => by rw [h'.2 k hk hm, h.2 k hk hm]⟩
set_option maxRecDepth 20000 in
theorem tr_h71 (X : Option (List AI)) (u : Nat) : cx_ok (tb_P X) tb_G (rf_G u) trk_71 := by
  intro vs C EV hvs hI hpre hrel
  obtain ⟨v0, t0, rfl, h0, hvs1⟩ := ea_rl_cons hvs
  obtain rfl := ea_rl_nil hvs1
  obtain rfl : v0 = .inr (.inl (some 190)) := h0
  obtain ⟨zD, e1, rfl, ⟨pD, n1, n2⟩, hp3⟩ := ea_rl_cons hpre
  dsimp only at n1 n2
  obtain ⟨ms, m1, m2, m3⟩ := hI_f hI (show tb_G 190 = some (.inl (12, _)) from rfl)
  have hlen : ms.length = 38 := m2
  obtain ⟨_, r18, t, rfl, t1, t2⟩ := m3 18 (.inl (0, 400)) rfl
  obtain ⟨w0, r0, -⟩ := m3 0 (.inl (-2147483648, 2147483647)) rfl
  obtain ⟨w20, r20, -⟩ := m3 20 (.inl (0, 400)) rfl
  obtain ⟨w19, r19, -⟩ := m3 19 (.inl (0, 400)) rfl
  obtain ⟨_, r22, dd, rfl, d1, d2⟩ := m3 22 (.inl (0, 6)) rfl
  have z0 : (Int32.ofInt (Int.ofNat 0)).toInt = 0 := by decide
  have hD : zD = dd.toInt := by
    have h1 : rf_v C 190 22 = zD := rf_v_pv (a := 190) (by decide) pD
    have h2 := rf_f m1 r22
    omega
  refine ok_p rfl rfl rfl ?_
  refine ok_p rfl rfl rfl ?_
  refine ok_pf rfl rfl m1 rfl (by rw [hlen]; rfl) ?_
  have I1 := xI_sf hI (show tb_G 190 = some (.inl (12, _)) from rfl) m1 (k := 0) (v := .inl (.inl (Int32.ofInt (Int.ofNat 0)))) rfl ⟨_, rfl, by rw [z0]; decide, by rw [z0]; decide⟩
  have F1 : fr_c (rf_G u) [(190, 191), (1005, 1008)] C (C.set 190 (.inr (12, ms.set 0 (.inl (.inl (Int32.ofInt (Int.ofNat 0))))))) := fr_f u m1 (by decide) (by decide)
  have N1 := nt_set_self (c := Sum.inr (12, ms.set 0 (.inl (.inl (Int32.ofInt (Int.ofNat 0)))))) m1
  have L1 : (ms.set 0 (Sum.inl (Sum.inl (Int32.ofInt (Int.ofNat 0))))).length = 38 := by rw [nt_len_set]; exact hlen
  have q18 : ea_nt (ms.set 0 (Sum.inl (Sum.inl (Int32.ofInt (Int.ofNat 0))))) 18 = some (.inl (.inl t)) := by rw [nt_set_ne (by decide)]; exact r18
  have q20 : ea_nt (ms.set 0 (Sum.inl (Sum.inl (Int32.ofInt (Int.ofNat 0))))) 20 = some w20 := by rw [nt_set_ne (by decide)]; exact r20
  have q19 : ea_nt (ms.set 0 (Sum.inl (Sum.inl (Int32.ofInt (Int.ofNat 0))))) 19 = some w19 := by rw [nt_set_ne (by decide)]; exact r19
  have q22 : ea_nt (ms.set 0 (Sum.inl (Sum.inl (Int32.ofInt (Int.ofNat 0))))) 22 = some (.inl (.inl dd)) := by rw [nt_set_ne (by decide)]; exact r22
  revert I1 F1 N1 L1 q18 q20 q19 q22
  generalize C.set 190 (.inr (12, ms.set 0 (.inl (.inl (Int32.ofInt (Int.ofNat 0)))))) = C1
  generalize ms.set 0 (Sum.inl (Sum.inl (Int32.ofInt (Int.ofNat 0)))) = s1
  intro I1 F1 N1 L1 q18 q20 q19 q22
  refine ok_p rfl rfl rfl ?_
  refine ok_p rfl rfl rfl ?_
  refine ok_gf rfl rfl N1 q18 ?_
  refine ok_pf rfl rfl N1 rfl (by rw [L1]; rfl) ?_
  have I2 := xI_sf I1 (show tb_G 190 = some (.inl (12, _)) from rfl) N1 (k := 20) (v := .inl (.inl t)) rfl ⟨_, rfl, t1, t2⟩
  have F2 : fr_c (rf_G u) [(190, 191), (1005, 1008)] C (C1.set 190 (.inr (12, s1.set 20 (.inl (.inl t))))) := fr_c_same F1 (fr_f u N1 (by decide) (by decide))
  have N2 := nt_set_self (c := Sum.inr (12, s1.set 20 (.inl (.inl t)))) N1
  have L2 : (s1.set 20 (Sum.inl (Sum.inl t))).length = 38 := by rw [nt_len_set]; exact L1
  have p18 : ea_nt (s1.set 20 (Sum.inl (Sum.inl t))) 18 = some (.inl (.inl t)) := by rw [nt_set_ne (by decide)]; exact q18
  have p19 : ea_nt (s1.set 20 (Sum.inl (Sum.inl t))) 19 = some w19 := by rw [nt_set_ne (by decide)]; exact q19
  have p22 : ea_nt (s1.set 20 (Sum.inl (Sum.inl t))) 22 = some (.inl (.inl dd)) := by rw [nt_set_ne (by decide)]; exact q22
  revert I2 F2 N2 L2 p18 p19 p22
  generalize C1.set 190 (.inr (12, s1.set 20 (.inl (.inl t)))) = C2
  generalize s1.set 20 (Sum.inl (Sum.inl t)) = s2
  intro I2 F2 N2 L2 p18 p19 p22
  refine ok_p rfl rfl rfl ?_
  refine ok_p rfl rfl rfl ?_
  refine ok_pf rfl rfl N2 rfl (by rw [L2]; rfl) ?_
  have I3 := xI_sf I2 (show tb_G 190 = some (.inl (12, _)) from rfl) N2 (k := 18) (v := .inl (.inl (Int32.ofInt (Int.ofNat 0)))) rfl ⟨_, rfl, by rw [z0]; decide, by rw [z0]; decide⟩
  have F3 : fr_c (rf_G u) [(190, 191), (1005, 1008)] C (C2.set 190 (.inr (12, s2.set 18 (.inl (.inl (Int32.ofInt (Int.ofNat 0))))))) := fr_c_same F2 (fr_f u N2 (by decide) (by decide))
  have N3 := nt_set_self (c := Sum.inr (12, s2.set 18 (.inl (.inl (Int32.ofInt (Int.ofNat 0)))))) N2
  have L3 : (s2.set 18 (Sum.inl (Sum.inl (Int32.ofInt (Int.ofNat 0))))).length = 38 := by rw [nt_len_set]; exact L2
  have o18 : ea_nt (s2.set 18 (Sum.inl (Sum.inl (Int32.ofInt (Int.ofNat 0))))) 18 = some (.inl (.inl (Int32.ofInt (Int.ofNat 0)))) := nt_set_self p18
  have o19 : ea_nt (s2.set 18 (Sum.inl (Sum.inl (Int32.ofInt (Int.ofNat 0))))) 19 = some w19 := by rw [nt_set_ne (by decide)]; exact p19
  have o22 : ea_nt (s2.set 18 (Sum.inl (Sum.inl (Int32.ofInt (Int.ofNat 0))))) 22 = some (.inl (.inl dd)) := by rw [nt_set_ne (by decide)]; exact p22
  revert I3 F3 N3 L3 o18 o19 o22
  generalize C2.set 190 (.inr (12, s2.set 18 (.inl (.inl (Int32.ofInt (Int.ofNat 0)))))) = C3
  generalize s2.set 18 (Sum.inl (Sum.inl (Int32.ofInt (Int.ofNat 0)))) = s3
  intro I3 F3 N3 L3 o18 o19 o22
  refine ok_p rfl rfl rfl ?_
  refine ok_p rfl rfl rfl ?_
  refine ok_pf rfl rfl N3 rfl (by rw [L3]; rfl) ?_
  have I4 := xI_sf I3 (show tb_G 190 = some (.inl (12, _)) from rfl) N3 (k := 19) (v := .inl (.inl (Int32.ofInt (Int.ofNat 0)))) rfl ⟨_, rfl, by rw [z0]; decide, by rw [z0]; decide⟩
  have F4 : fr_c (rf_G u) [(190, 191), (1005, 1008)] C (C3.set 190 (.inr (12, s3.set 19 (.inl (.inl (Int32.ofInt (Int.ofNat 0))))))) := fr_c_same F3 (fr_f u N3 (by decide) (by decide))
  have N4 := nt_set_self (c := Sum.inr (12, s3.set 19 (.inl (.inl (Int32.ofInt (Int.ofNat 0)))))) N3
  have u18 : ea_nt (s3.set 19 (Sum.inl (Sum.inl (Int32.ofInt (Int.ofNat 0))))) 18 = some (.inl (.inl (Int32.ofInt (Int.ofNat 0)))) := by rw [nt_set_ne (by decide)]; exact o18
  have u19 : ea_nt (s3.set 19 (Sum.inl (Sum.inl (Int32.ofInt (Int.ofNat 0))))) 19 = some (.inl (.inl (Int32.ofInt (Int.ofNat 0)))) := nt_set_self o19
  have u22 : ea_nt (s3.set 19 (Sum.inl (Sum.inl (Int32.ofInt (Int.ofNat 0))))) 22 = some (.inl (.inl dd)) := by rw [nt_set_ne (by decide)]; exact o22
  refine ok_r rfl rfl rfl rfl rfl ?_
  have v18 := rf_f N4 u18
  have pvf : ∀ {k : Nat} {y : Int32}, ea_nt (s3.set 19 (Sum.inl (Sum.inl (Int32.ofInt (Int.ofNat 0))))) k = some (.inl (.inl y)) → pv (rf_G u) (C3.set 190 (.inr (12, s3.set 19 (.inl (.inl (Int32.ofInt (Int.ofNat 0))))))) 190 k y.toInt := by
    intro k y hy
    unfold pv
    rw [if_neg (by decide)]
    refine ⟨y, ?_, rfl⟩
    unfold cv
    rw [N4]
    exact hy
  have w22 := pvf u22
  rw [← hD] at w22
  have w19' := pvf u19
  rw [z0] at w19'
  have wT : pv (rf_G u) (C3.set 190 (.inr (12, s3.set 19 (.inl (.inl (Int32.ofInt (Int.ofNat 0))))))) 1007 0 0 := by
    show rf_v _ 190 18 = 0
    rw [v18, z0]
  refine ⟨none, rfl, I4, F4, rfl, ⟨[0, 0, zD], ⟨⟨wT, by decide, by decide⟩, ⟨w19', by decide, by decide⟩, ⟨w22, n1, n2⟩, trivial⟩⟩, fun q hq => ?_⟩
  rcases List.mem_cons.mp hq with rfl | hq
  · exact ⟨zD, zD, w22, rfl, by dsimp only; omega⟩
  · rcases List.mem_cons.mp hq with rfl | hq
    · exact ⟨zD, zD, rfl, w22, by dsimp only; omega⟩
    · exact nomatch hq
