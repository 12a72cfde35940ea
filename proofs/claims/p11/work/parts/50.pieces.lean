/-! PIECES BY HAND: a citizen more; the count of clauses kept and brought back; what is used up -/
theorem fr_f (u : Nat) {M : List (Nat × Nat)} {p : Nat} {v : AV} {vs : List AV} {C : List AC} (hC : ea_nt C 190 = some (.inr (12, vs))) (h190 : xm M 190 = true) (hall : gs_all tr_gs M (190, (p : Int), (p : Int), 1, 0) = true) : fr_c (rf_G u) M C (C.set 190 (.inr (12, vs.set p v))) := by
  refine ⟨fun b hb => ?_, fun k hk hm => gs_same (rf_gs u) (gs_all_hit hm hall) (cv_fld hC ⟨rfl, Int.le_refl _, Int.le_refl _, Int.emod_one _⟩)⟩
  have : (190 : Nat) ≠ b := by
    rintro rfl
    rw [h190] at hb
    cases hb
  rw [nt_set_ne this]
theorem rf_f {C : List AC} {a ci : Nat} {vs : List AV} {k : Nat} {y : Int32} (hC : ea_nt C a = some (.inr (ci, vs))) (hy : ea_nt vs k = some (.inl (.inl y))) : rf_v C a k = y.toInt := by
  unfold rf_v cv
  rw [hC]
  dsimp only
  rw [hy]
theorem ok_a0 {P : EP} {m pc : Nat} {L : List (Nat × AV)} {S : List AV} {C : List AC} {K : Option AV ⊕ Nat → List AC → Prop} {v : AV} (hc : ep_cod P m pc = some (.aload_n 0, 1)) (hl : ea_lk L 0 = some v) (hr : ea_isr v = true) (h : ok_ P m (pc + 1) L (v :: S) C K) : ok_ P m pc L S C K :=
  ok_p hc rfl (show (match ea_lk L 0 with
    | some a => if ea_isr a = true then some (pc + 1, L, a :: S) else none
    | none => none) = some (pc + 1, L, v :: S) by rw [hl]; dsimp only; rw [if_pos hr]) h

set_option maxRecDepth 20000 in
theorem tr_m2 (X : Option (List AI)) (u : Nat) : mc_ok (tb_P X) tb_G (rf_G u) 233 136 tr_mc2 146 := by
  intro cl cs C EV K hloc hI hpre hrel hk
  obtain ⟨l0, hl0, rfl⟩ := hloc _ List.mem_cons_self
  obtain ⟨zW, e0, rfl, ⟨pW, q1, q2⟩, hp2⟩ := ea_rl_cons hpre
  obtain ⟨zV, e1, rfl, ⟨pV, q3, q4⟩, hp3⟩ := ea_rl_cons hp2
  obtain ⟨zN, e2, rfl, ⟨pN, n1, n2⟩, hp4⟩ := ea_rl_cons hp3
  dsimp only at q1 q2 q3 q4 n1 n2
  have hW := rf_G_W pW q1 q2
  have hV := rf_G_W2 pV q3 q4
  have hN : rf_v C 191 0 = zN := rf_v_pv (a := 191) (by decide) pN
  obtain ⟨ms, m1, m2, m3⟩ := hI_f hI (show tb_G 190 = some (.inl (_, _)) from rfl)
  obtain ⟨d, us, a1, a2⟩ := hI_a hI (show tb_G 191 = some (.inr (_, _, _, _)) from rfl)
  obtain ⟨_, r1, rfl⟩ := m3 1 (.inr 191) rfl
  obtain ⟨f, f1, f2⟩ := el_get (by decide) (a2 0 (by decide))
  cases (show some (Sum.inl (0, 10)) = some f from f1)
  obtain ⟨y, y1, y2, y3⟩ := f2
  have hy := rf_el a1 (by decide) y1
  have hy1 : (y + Int32.ofInt 1).toInt = y.toInt + 1 := by
    have e : (Int32.ofInt 1).toInt = 1 := by decide
    rw [i32_add (by rw [e]; omega) (by rw [e]; omega), e]
  refine ok_a0 rfl hl0 rfl ?_
  refine ok_gf rfl rfl m1 r1 ?_
  refine ok_p rfl rfl rfl ?_
  refine ok_p rfl rfl rfl ?_
  refine ok_al rfl a1 (ix_of (j := 0) (by decide) (by decide)) y1 ?_
  refine ok_p rfl rfl rfl ?_
  refine ok_p rfl rfl rfl ?_
  refine ok_as rfl a1 (ix_of (j := 0) (by decide) (by decide)) ?_
  have row1 : rf_row (rf_v (C.set 191 (.inl (0, 388, d, (0, .inl (.inl (y + Int32.ofInt 1))) :: us))) 191) := by
    intro k hk' hl
    rw [rf_v_self a1 (by decide)] at hl
    rw [rf_v_set a1 (fun hc => by have := hc.2; omega)]
    exact hV k hk' (by omega)
  refine hk _ (xI_sa hI (show tb_G 191 = some (.inr (0, 388, 388, tg_row)) from rfl) a1 (rf_kd (f := .inl (0, 10)) rfl ⟨_, rfl, by show (0 : Int) ≤ (y + Int32.ofInt 1).toInt; omega, by show (y + Int32.ofInt 1).toInt ≤ (10 : Int); omega⟩)) (fr_191w u a1) ⟨⟨[1], ⟨⟨rf_b_1 (rf_W_191 a1 hW row1), by decide, by decide⟩, trivial⟩⟩, fun q hq => nomatch hq⟩

set_option maxRecDepth 20000 in
theorem tr_m3 (X : Option (List AI)) (u : Nat) : mc_ok (tb_P X) tb_G (rf_G u) 265 134 tr_mc3 144 := by
  intro cl cs C EV K hloc hI hpre hrel hk
  obtain ⟨l0, hl0, rfl⟩ := hloc _ List.mem_cons_self
  obtain ⟨zW, e0, rfl, ⟨pW, q1, q2⟩, hp2⟩ := ea_rl_cons hpre
  obtain ⟨zV, e1, rfl, ⟨pV, q3, q4⟩, hp3⟩ := ea_rl_cons hp2
  obtain ⟨zN, e2, rfl, ⟨pN, n1, n2⟩, hp4⟩ := ea_rl_cons hp3
  dsimp only at q1 q2 q3 q4 n1 n2
  have hW := rf_G_W pW q1 q2
  have hV := rf_G_W2 pV q3 q4
  have hN : rf_v C 191 0 = zN := rf_v_pv (a := 191) (by decide) pN
  obtain ⟨ms, m1, m2, m3⟩ := hI_f hI (show tb_G 190 = some (.inl (_, _)) from rfl)
  obtain ⟨d, us, a1, a2⟩ := hI_a hI (show tb_G 191 = some (.inr (_, _, _, _)) from rfl)
  obtain ⟨_, r1, rfl⟩ := m3 1 (.inr 191) rfl
  obtain ⟨f, f1, f2⟩ := el_get (by decide) (a2 0 (by decide))
  cases (show some (Sum.inl (0, 10)) = some f from f1)
  obtain ⟨y, y1, y2, y3⟩ := f2
  have hy := rf_el a1 (by decide) y1
  have hy1 : (y + Int32.ofInt 1).toInt = y.toInt + 1 := by
    have e : (Int32.ofInt 1).toInt = 1 := by decide
    rw [i32_add (by rw [e]; omega) (by rw [e]; omega), e]
  refine ok_a0 rfl hl0 rfl ?_
  refine ok_gf rfl rfl m1 r1 ?_
  refine ok_p rfl rfl rfl ?_
  refine ok_p rfl rfl rfl ?_
  refine ok_al rfl a1 (ix_of (j := 0) (by decide) (by decide)) y1 ?_
  refine ok_p rfl rfl rfl ?_
  refine ok_p rfl rfl rfl ?_
  refine ok_as rfl a1 (ix_of (j := 0) (by decide) (by decide)) ?_
  have row1 : rf_row (rf_v (C.set 191 (.inl (0, 388, d, (0, .inl (.inl (y + Int32.ofInt 1))) :: us))) 191) := by
    intro k hk' hl
    rw [rf_v_self a1 (by decide)] at hl
    rw [rf_v_set a1 (fun hc => by have := hc.2; omega)]
    exact hV k hk' (by omega)
  refine hk _ (xI_sa hI (show tb_G 191 = some (.inr (0, 388, 388, tg_row)) from rfl) a1 (rf_kd (f := .inl (0, 10)) rfl ⟨_, rfl, by show (0 : Int) ≤ (y + Int32.ofInt 1).toInt; omega, by show (y + Int32.ofInt 1).toInt ≤ (10 : Int); omega⟩)) (fr_191w u a1) ⟨⟨[1], ⟨⟨rf_b_1 (rf_W_191 a1 hW row1), by decide, by decide⟩, trivial⟩⟩, fun q hq => nomatch hq⟩

set_option maxRecDepth 20000 in
theorem tr_m0 (X : Option (List AI)) (u : Nat) : mc_ok (tb_P X) tb_G (rf_G u) 193 31 tr_mc0 39 := by
  intro cl cs C EV K hloc hI hpre hrel hk
  obtain ⟨l0, hl0, rfl⟩ := hloc _ List.mem_cons_self
  obtain ⟨zW, e0, rfl, ⟨pW, q1, q2⟩, hp2⟩ := ea_rl_cons hpre
  obtain ⟨zJ, e1, rfl, ⟨pJ, q3, q4⟩, hp3⟩ := ea_rl_cons hp2
  dsimp only at q1 q2 q3 q4
  have hJ : rf_cls C 201 202 := rf_b_of (p := rf_cls C 201 202) (by
    have h3 : rf_G u 1001 C = zJ := pJ
    have h4 : rf_G u 1001 C = rf_b (rf_cls C 201 202) := rfl
    omega)
  obtain ⟨ms, m1, m2, m3⟩ := hI_f hI (show tb_G 190 = some (.inl (12, _)) from rfl)
  obtain ⟨_, r1, y, rfl, y2, y3⟩ := m3 15 (.inl (-1, 12)) rfl
  have hlen : ms.length = 38 := m2
  refine ok_a0 rfl hl0 rfl ?_
  refine ok_a0 rfl hl0 rfl ?_
  refine ok_gf rfl rfl m1 r1 ?_
  refine ok_pf rfl rfl m1 rfl (by rw [hlen]; rfl) ?_
  have same : ∀ b k, ¬ (b = 190 ∧ k = 16) → rf_v (C.set 190 (.inr (12, ms.set 16 (.inl (.inl y))))) b k = rf_v C b k := by
    intro b k hn
    refine rf_v_eq (cv_fld (t := (190, 16, 16, 1, 0)) m1 ⟨rfl, Int.le_refl _, Int.le_refl _, Int.emod_one _⟩ b k ?_)
    rintro ⟨h1, w1, w2, -⟩
    dsimp only at h1 w1 w2
    exact hn ⟨h1, by omega⟩
  have hself : rf_v (C.set 190 (.inr (12, ms.set 16 (.inl (.inl y))))) 190 16 = y.toInt := by
    obtain ⟨w, hw, -⟩ := m3 16 (.inl (-1, 12)) rfl
    exact rf_f (nt_set_self m1) (nt_set_self hw)
  have hsrc : rf_v C 190 15 = y.toInt := rf_f m1 r1
  have hfr : fr_c (rf_G u) [(190, 191), (1001, 1003)] C (C.set 190 (.inr (12, ms.set 16 (.inl (.inl y))))) := fr_f u m1 (by decide) (by decide)
  have pW' : pv (rf_G u) (C.set 190 (.inr (12, ms.set 16 (.inl (.inl y))))) 999 0 zW := by
    show rf_G u 999 _ = zW
    rw [hfr.2 999 (by decide) (by decide)]
    exact pW
  have pJ' : pv (rf_G u) (C.set 190 (.inr (12, ms.set 16 (.inl (.inl y))))) 1001 0 1 := by
    refine rf_b_1 ?_
    unfold rf_cls
    rw [hself, same 190 15 (by decide), hsrc]
    refine ⟨Or.inr rfl, fun k hk' hl => ?_⟩
    refine (rf_cl_eq (fun j hj => same 202 j (fun hc => absurd hc.1 (by decide))) (fun j hj => same 201 j (fun hc => absurd hc.1 (by decide))) hk').mpr (hJ.2 k hk' (by rw [hsrc]; exact hl))
  refine hk _ (xI_sf hI (show tb_G 190 = some (.inl (12, _)) from rfl) m1 (k := 16) (f := .inl (-1, 12)) rfl ⟨y, rfl, y2, y3⟩) hfr ⟨⟨[zW, 1], ⟨⟨pW', q1, q2⟩, ⟨pJ', by decide, by decide⟩, trivial⟩⟩, fun q hq => nomatch hq⟩

set_option maxRecDepth 20000 in
theorem tr_m1 (X : Option (List AI)) (u : Nat) : mc_ok (tb_P X) tb_G (rf_G u) 194 40 tr_mc1 48 := by
  intro cl cs C EV K hloc hI hpre hrel hk
  obtain ⟨l0, hl0, rfl⟩ := hloc _ List.mem_cons_self
  obtain ⟨zW, e0, rfl, ⟨pW, q1, q2⟩, hp2⟩ := ea_rl_cons hpre
  obtain ⟨zJ, e1, rfl, ⟨pJ, q3, q4⟩, hp3⟩ := ea_rl_cons hp2
  dsimp only at q1 q2 q3 q4
  have hJ : rf_cls C 201 202 := rf_b_of (p := rf_cls C 201 202) (by
    have h3 : rf_G u 1001 C = zJ := pJ
    have h4 : rf_G u 1001 C = rf_b (rf_cls C 201 202) := rfl
    omega)
  obtain ⟨ms, m1, m2, m3⟩ := hI_f hI (show tb_G 190 = some (.inl (12, _)) from rfl)
  obtain ⟨_, r1, y, rfl, y2, y3⟩ := m3 16 (.inl (-1, 12)) rfl
  have hlen : ms.length = 38 := m2
  refine ok_a0 rfl hl0 rfl ?_
  refine ok_a0 rfl hl0 rfl ?_
  refine ok_gf rfl rfl m1 r1 ?_
  refine ok_pf rfl rfl m1 rfl (by rw [hlen]; rfl) ?_
  have same : ∀ b k, ¬ (b = 190 ∧ k = 15) → rf_v (C.set 190 (.inr (12, ms.set 15 (.inl (.inl y))))) b k = rf_v C b k := by
    intro b k hn
    refine rf_v_eq (cv_fld (t := (190, 15, 15, 1, 0)) m1 ⟨rfl, Int.le_refl _, Int.le_refl _, Int.emod_one _⟩ b k ?_)
    rintro ⟨h1, w1, w2, -⟩
    dsimp only at h1 w1 w2
    exact hn ⟨h1, by omega⟩
  have hself : rf_v (C.set 190 (.inr (12, ms.set 15 (.inl (.inl y))))) 190 15 = y.toInt := by
    obtain ⟨w, hw, -⟩ := m3 15 (.inl (-1, 12)) rfl
    exact rf_f (nt_set_self m1) (nt_set_self hw)
  have hsrc : rf_v C 190 16 = y.toInt := rf_f m1 r1
  have hfr : fr_c (rf_G u) [(190, 191), (1001, 1003)] C (C.set 190 (.inr (12, ms.set 15 (.inl (.inl y))))) := fr_f u m1 (by decide) (by decide)
  have pW' : pv (rf_G u) (C.set 190 (.inr (12, ms.set 15 (.inl (.inl y))))) 999 0 zW := by
    show rf_G u 999 _ = zW
    rw [hfr.2 999 (by decide) (by decide)]
    exact pW
  have pJ' : pv (rf_G u) (C.set 190 (.inr (12, ms.set 15 (.inl (.inl y))))) 1001 0 1 := by
    refine rf_b_1 ?_
    unfold rf_cls
    rw [hself, same 190 16 (by decide), hsrc]
    refine ⟨Or.inr rfl, fun k hk' hl => ?_⟩
    refine (rf_cl_eq (fun j hj => same 202 j (fun hc => absurd hc.1 (by decide))) (fun j hj => same 201 j (fun hc => absurd hc.1 (by decide))) hk').mpr (hJ.2 k hk' ?_)
    rcases hJ.1 with h1 | h1
    · omega
    · omega
  refine hk _ (xI_sf hI (show tb_G 190 = some (.inl (12, _)) from rfl) m1 (k := 15) (f := .inl (-1, 12)) rfl ⟨y, rfl, y2, y3⟩) hfr ⟨⟨[zW, 1], ⟨⟨pW', q1, q2⟩, ⟨pJ', by decide, by decide⟩, trivial⟩⟩, fun q hq => nomatch hq⟩
