/-! CONTRACTS BY HAND: a clause is read -/
section DET
variable {P : EP} {m pc : Nat} {L : List (Nat × AV)} {S : List AV} {C : List AC}
/-- a run comes to one end: what each of several rows says of it holds together -/
theorem ok_all {U : Type} (u0 : U) {K : U → Option AV ⊕ Nat → List AC → Prop} (h : ∀ u, ok_ P m pc L S C (K u)) : ok_ P m pc L S C (fun o C' => ∀ u, K u o C') := by
  obtain ⟨n0, o0, C0, r0, k0⟩ := h u0
  refine ⟨n0, o0, C0, r0, fun u => ?_⟩
  obtain ⟨n1, o1, C1, r1, k1⟩ := h u
  have e0 := ok_x_mono (Nat.le_max_left n0 n1) (r0 0 0)
  have e1 := ok_x_mono (Nat.le_max_right n0 n1) (r1 0 0)
  rw [e0] at e1
  have e2 := Option.some.inj e1
  have e3 : o0 = o1 := congrArg (fun q => q.1) e2
  have e4 : C0 = C1 := congrArg (fun q => q.2.1) e2
  rw [e3, e4]
  exact k1
end DET
theorem rf_G_u {u u' k : Nat} (h4 : k ≠ 1004) (D : List AC) : rf_G u' k D = rf_G u k D := by
  by_cases k0 : k = 999
  · subst k0; rfl
  by_cases k1 : k = 1000
  · subst k1; rfl
  by_cases k2 : k = 1001
  · subst k2; rfl
  by_cases k3 : k = 1002
  · subst k3; rfl
  by_cases k5 : k = 1005
  · subst k5; rfl
  by_cases k6 : k = 1006
  · subst k6; rfl
  by_cases k7 : k = 1007
  · subst k7; rfl
  by_cases k8 : k = 1008
  · subst k8; rfl
  have g0 : ∀ v, rf_G v k D = 0 := by
    intro v
    unfold rf_G
    split <;> first | rfl | (exfalso; omega)
  rw [g0, g0]
theorem fr_u {u u' : Nat} {M : List (Nat × Nat)} {C C' : List AC} (hM : xm M 1004 = true) (h : fr_c (rf_G u) M C C') : fr_c (rf_G u') M C C' := ⟨h.1, fun k hk hm => by
  have hk4 : k ≠ 1004 := by
    rintro rfl
    rw [hM] at hm
    cases hm
  rw [rf_G_u (u := u) (u' := u') hk4 C', rf_G_u (u := u) (u' := u') hk4 C]
  exact h.2 k hk hm⟩
/-- cells that are the same -/
theorem fr_cells (u : Nat) {M : List (Nat × Nat)} {C C' : List AC} (h : ∀ x, xm M x = false → ea_nt C' x = ea_nt C x) (hg : ∀ q ∈ tr_gs, xm M q.2.1 = true → xm M q.1 = true) : fr_c (rf_G u) M C C' := by
  refine ⟨h, fun k hk hm => rf_gs u k C C' (fun a i hq => cv_eq (h a ?_) i)⟩
  obtain ⟨q, q1, q2, q3, -⟩ := hq
  cases hx : xm M a with
  | false => rfl
  | true =>
    have := hg q q1 (by rw [q3]; exact hx)
    rw [q2, hm] at this
    cases this
theorem ga_eq {u : Nat} {C C' : List AC} (h1 : ∀ j, j < 800 → rf_v C' 202 j = rf_v C 202 j) (h2 : rf_v C' 190 25 = rf_v C 190 25) : rf_ga u C' = rf_ga u C := by
  unfold rf_ga
  rw [h2]
  split
  · rename_i hc
    rw [rf_d_eq h1 _ _ _ (by omega)]
  · rfl
theorem ga_some {u : Nat} {C : List AC} (h : 0 ≤ rf_ga u C) : (u : Int) ≤ rf_v C 190 25 ∧ rf_v C 190 25 ≤ 400 ∧ ∃ d : Nat, rf_d (rf_v C 202) u ((rf_v C 190 25).toNat - u) 0 = some d := by
  unfold rf_ga at h
  split at h
  · rename_i hc
    refine ⟨hc.1, hc.2, ?_⟩
    split at h
    · rename_i d hd
      exact ⟨d, hd⟩
    · omega
  · omega
theorem ga_le {u : Nat} {C : List AC} : rf_ga u C ≤ 400 := by
  unfold rf_ga
  split
  · split
    · rename_i d hd
      have := rf_d_le _ _ _ _ hd
      omega
    · omega
  · omega
theorem ga_self {s : Nat} {C : List AC} (h : rf_v C 190 25 = (s : Int)) (hs : s ≤ 400) : rf_ga s C = 0 := by
  unfold rf_ga
  rw [h, if_pos ⟨Int.le_refl _, by omega⟩, show (s : Int).toNat - s = 0 by omega]
  rfl
/-- a run that ends has a beginning that ends -/
theorem rf_d_pre {f : Nat → Int} : ∀ (m r i d e : Nat), rf_d f i (m + r) d = some e → ∃ e', rf_d f i m d = some e'
  | 0, r, i, d, e, h => ⟨d, rfl⟩
  | m + 1, r, i, d, e, h => by
    rw [show m + 1 + r = (m + r) + 1 by omega] at h
    unfold rf_d at h ⊢
    split at h
    · rename_i h1
      rw [if_pos h1]
      exact rf_d_pre m r _ _ _ h
    · rename_i h1
      rw [if_neg h1]
      split at h
      · rename_i h2
        rw [if_pos h2]
        split at h
        · rename_i h3
          rw [if_pos h3]
          exact rf_d_pre m r _ _ _ h
        · cases h
      · rename_i h2
        rw [if_neg h2]
        split at h
        · rename_i h3
          rw [if_pos h3]
          exact rf_d_pre m r _ _ _ h
        · cases h
def cd_M : List (Nat × Nat) := [(190, 191), (201, 203), (1001, 1002), (1003, 1007)]
/-- the first n clauses are told: where their steps are, never too few on the stack -/
def cd_I (C : List AC) (n : Nat) : Prop := ∀ k, k < n → ∃ i m : Nat, rf_v C 201 (4 * k + 2) = (i : Int) ∧ rf_v C 201 (4 * k + 3) = ((i + m : Nat) : Int) ∧ ((i + m : Nat) : Int) ≤ rf_v C 190 25 ∧ 0 ≤ rf_ga i C
def cd_S (C1 C : List AC) (n : Nat) : Prop := xI tb_G C ∧ fr_c (rf_G 0) cd_M C1 C ∧ cd_I C n
theorem cd_I_keep {C C' : List AC} {n : Nat} (h1 : ∀ j, j < 4 * n → rf_v C' 201 j = rf_v C 201 j) (h2 : ∀ j, j < 800 → rf_v C' 202 j = rf_v C 202 j) (h3 : rf_v C' 190 25 = rf_v C 190 25) (h : cd_I C n) : cd_I C' n := by
  intro k hk
  obtain ⟨i, m, g1, g2, g3, g4⟩ := h k hk
  exact ⟨i, m, by rw [h1 _ (by omega)]; exact g1, by rw [h1 _ (by omega)]; exact g2, by rw [h3]; exact g3, by rw [ga_eq h2 h3]; exact g4⟩
theorem cd_st {C1 C : List AC} {n : Nat} (h : cd_S C1 C n) {d : AV} {us : List (Nat × AV)} (hC : ea_nt C 201 = some (.inl (0, 48, d, us))) {j : Nat} (hj : 4 * n ≤ j) {v : Int32} : cd_S C1 (C.set 201 (.inl (0, 48, d, (j, .inl (.inl v)) :: us))) n := by
  refine ⟨xI_sa h.1 (show tb_G 201 = some (.inr (0, 48, 1, [.inl ((-2147483648), 2147483647)])) from rfl) hC (el_put (by decide) ⟨.inl ((-2147483648), 2147483647), by rw [Nat.mod_one]; rfl, v, rfl, Int32.le_toInt v, Int.le_of_lt_add_one (Int32.toInt_lt v)⟩), fr_c_tr h.2.1 (M' := [(201, 202), (1001, 1002), (1003, 1004)]) (by decide) (fr_cells 0 (fun x hx => ?_) (by decide)), cd_I_keep (fun i hi => rf_v_set hC (fun hc => by have := hc.2; omega)) (fun i hi => rf_v_set hC (fun hc => by have := hc.1; omega)) (rf_v_set hC (fun hc => by have := hc.1; omega)) h.2.2⟩
  refine nt_set_ne ?_
  rintro rfl
  exact absurd hx (by decide)
theorem cd_lf {C1 C C' : List AC} {n : Nat} (h : cd_S C1 C n) (I' : xI tb_G C') (F : fr_c (rf_G 0) [(190, 191), (1005, 1006)] C C') (hs : rf_v C' 190 25 = rf_v C 190 25) : cd_S C1 C' n :=
  ⟨I', fr_c_tr h.2.1 (M' := [(190, 191), (1005, 1006)]) (by decide) F, cd_I_keep (fun j _ => rf_v_eq (cv_eq (F.1 201 rfl) j)) (fun j _ => rf_v_eq (cv_eq (F.1 202 rfl) j)) hs h.2.2⟩
theorem rf_fs {C : List AC} {vs : List AV} (hC : ea_nt C 190 = some (.inr (12, vs))) {j k : Nat} {v : AV} (hjk : j ≠ k) : rf_v (C.set 190 (.inr (12, vs.set j v))) 190 k = rf_v C 190 k := by
  refine rf_v_eq ?_
  unfold cv
  rw [nt_set_self hC, hC]
  dsimp only
  rw [nt_set_ne hjk]
/-- what a leaf of the readers leaves -/
theorem lf_out {GF : GH} {po : PO} {v : Option AV} {C' : List AC} {p s d a : Int} (h : po_g GF po v [p, s, d] C') (r0 : ((.inr (.inl 0), .inr (.inr (190, 19)), -a) : RL) ∈ po.2) (r1 : ((.inr (.inr (190, 25)), .inr (.inl 1), 0) : RL) ∈ po.2) (r2 : ((.inr (.inl 1), .inr (.inr (190, 25)), 0) : RL) ∈ po.2) (r3 : ((.inr (.inr (190, 22)), .inr (.inl 2), 0) : RL) ∈ po.2) (r4 : ((.inr (.inl 2), .inr (.inr (190, 22)), 0) : RL) ∈ po.2) : p + a ≤ rf_v C' 190 19 ∧ rf_v C' 190 25 = s ∧ rf_v C' 190 22 = d := by
  have ev : ∀ {j : Nat} {z x : Int}, sp_g GF (rv_l v) [p, s, d] C' (.inr (.inl j)) z → ea_nt [p, s, d] j = some x → z = x := fun {j z x} h1 h2 => by
    have h3 : ea_nt [p, s, d] j = some z := h1
    rw [h2] at h3
    cases h3
    rfl
  have pl : ∀ {k : Nat} {z : Int}, sp_g GF (rv_l v) [p, s, d] C' (.inr (.inr (190, k))) z → rf_v C' 190 k = z := fun {k z} h1 => rf_v_pv (a := 190) (by decide) (show pv GF C' 190 k z from h1)
  obtain ⟨a1, a2, b1, b2, b3⟩ := h.2 _ r0
  obtain ⟨c1, c2, d1, d2, d3⟩ := h.2 _ r1
  obtain ⟨e1, e2, f1, f2, f3⟩ := h.2 _ r2
  obtain ⟨g1, g2, h1, h2, h3⟩ := h.2 _ r3
  obtain ⟨i1, i2, j1, j2, j3⟩ := h.2 _ r4
  have t1 := ev b1 rfl
  have t2 := pl b2
  have t3 := pl d1
  have t4 := ev d2 rfl
  have t5 := ev f1 rfl
  have t6 := pl f2
  have t7 := pl h1
  have t8 := ev h2 rfl
  have t9 := ev j1 rfl
  have t10 := pl j2
  dsimp only at b3 d3 f3 h3 j3
  omega
def pi_c : CX := ((217, [.inr (.inl 190), .inr (.inr 11744409)], [(190, 191), (1005, 1006)], (1, 0, 1), [], [(190, 19, 0, 400), (190, 25, 0, 400), (190, 22, 0, 6)]), [], 1, ([(190, 19, 0, 400), (190, 21, 0, 400), (190, 25, 0, 400), (190, 22, 0, 6)], [(.inr (.inl 0), .inr (.inr (190, 19)), 0), (.inr (.inr (190, 25)), .inr (.inl 1), 0), (.inr (.inl 1), .inr (.inr (190, 25)), 0), (.inr (.inr (190, 22)), .inr (.inl 2), 0), (.inr (.inl 2), .inr (.inr (190, 22)), 0)]), ([(190, 19, 0, 400), (190, 21, 0, 400), (190, 25, 0, 400), (190, 22, 0, 6)], [(.inr (.inl 0), .inr (.inr (190, 19)), (-1)), (.inr (.inr (190, 25)), .inr (.inl 1), 0), (.inr (.inl 1), .inr (.inr (190, 25)), 0), (.inr (.inr (190, 22)), .inr (.inl 2), 0), (.inr (.inl 2), .inr (.inr (190, 22)), 0)]))
set_option maxRecDepth 100000 in
theorem pi_ck : cx_ck (tb_P none) tb_G tr_gs (tr_ct 104) (fun _ _ => none) [] pi_c 400 = true := by decide +kernel
theorem pi_ok (X : Option (List AI)) (u : Nat) (IH : ∀ q, q < 104 → ∀ u, cx_ok (tb_P X) tb_G (rf_G u) (tr_at q)) : cx_ok (tb_P X) tb_G (rf_G u) pi_c := cx_ck_ok tr_G9 (rf_gs u) (tr_hct IH) no_m (hds := []) (n := 400) (by rw [cx_scr X]; exact pi_ck)
theorem yes_no {y : Int32} (h1 : 0 ≤ y.toInt) (h2 : y.toInt ≤ 1) : y = Int32.ofInt 0 ∨ y = Int32.ofInt 1 := by
  rcases (show y.toInt = 0 ∨ y.toInt = 1 by omega) with h | h
  · exact Or.inl (Int32.toInt_inj.mp (by rw [h]; decide))
  · exact Or.inr (Int32.toInt_inj.mp (by rw [h]; decide))
theorem b_12 : ((Int8.ofInt 12).toInt32).toInt = 12 := by decide
theorem el_top {d : AV} {us : List (Nat × AV)} {j : Nat} {v : AV} : ea_al d ((j, v) :: us) j = v := by rw [ea_al_at, if_pos rfl]
section RC
variable (X : Option (List AI)) {C1 : List AC} {K : Option AV ⊕ Nat → List AC → Prop}
set_option maxRecDepth 20000 in
set_option maxHeartbeats 8000000 in
theorem rc_run (IH : ∀ q, q < 104 → ∀ u, cx_ok (tb_P X) tb_G (rf_G u) (tr_at q)) {C : List AC} {n : Nat} {nv : Int32} (hn : n ≤ 12) (hnv : nv.toInt = (n : Int)) (hS : cd_S C1 C n) (hb : rf_v C 190 25 ≤ rf_v C 190 21) (h0 : ∀ C', xI tb_G C' → fr_c (rf_G 0) cd_M C1 C' → K (.inl (some (.inl (.inl (Int32.ofInt 0))))) C') (h1 : ∀ C', n ≤ 11 → cd_S C1 C' (n + 1) → rf_v C' 190 25 ≤ rf_v C' 190 19 → K (.inl (some (.inl (.inl (Int32.ofInt 1))))) C') : ok_ (tb_P X) 230 0 (ea_ar 0 [.inr (.inl (some 190)), .inl (.inl nv)]) [] C K := by
  obtain ⟨ms, m1, m2, m3⟩ := hI_f hS.1 (show tb_G 190 = some (.inl (12, _)) from rfl)
  obtain ⟨_, r13, rfl⟩ := m3 13 (.inr 201) rfl
  obtain ⟨_, r19, p, rfl, p1, p2⟩ := m3 19 (.inl (0, 400)) rfl
  obtain ⟨_, r21, b, rfl, b1, b2⟩ := m3 21 (.inl (0, 400)) rfl
  obtain ⟨_, r25, s, rfl, s1, s2⟩ := m3 25 (.inl (0, 400)) rfl
  dsimp only at p1 p2 b1 b2 s1 s2
  have hp := rf_f m1 r19
  have hs := rf_f m1 r25
  rw [rf_f m1 r21, hs] at hb
  refine ok_p rfl rfl rfl ?_
  refine ok_p rfl rfl rfl ?_
  cases hq : ea_ck .ne nv (Int8.ofInt 12).toInt32 with
  | false =>
    refine ok_ic false rfl rfl hq ?_
    refine ok_p rfl rfl rfl ?_
    exact ok_r rfl rfl rfl rfl rfl (h0 C hS.1 hS.2.1)
  | true =>
  have hn11 : n ≤ 11 := by
    have h1 : (!decide (nv = (Int8.ofInt 12).toInt32)) = true := hq
    rw [Bool.not_eq_true', decide_eq_false_iff_not] at h1
    have : nv.toInt ≠ 12 := fun h => h1 (Int32.toInt_inj.mp (by rw [h, b_12]))
    omega
  refine ok_ic true rfl rfl hq ?_
  have i4n : (Int32.ofInt 4 * nv).toInt = ((4 * n : Nat) : Int) := by
    rw [i32_mul (by rw [i_4]; omega) (by rw [i_4]; omega), i_4]
    omega
  have i4n1 : (Int32.ofInt 4 * nv + Int32.ofInt 1).toInt = ((4 * n + 1 : Nat) : Int) := by
    rw [i32_add (by rw [i4n, i_1]; omega) (by rw [i4n, i_1]; omega), i4n, i_1]
    omega
  have i4n2 : (Int32.ofInt 4 * nv + Int32.ofInt 2).toInt = ((4 * n + 2 : Nat) : Int) := by
    rw [i32_add (by rw [i4n, i_2]; omega) (by rw [i4n, i_2]; omega), i4n, i_2]
    omega
  have i4n3 : (Int32.ofInt 4 * nv + Int32.ofInt 3).toInt = ((4 * n + 3 : Nat) : Int) := by
    rw [i32_add (by rw [i4n, i_3]; omega) (by rw [i4n, i_3]; omega), i4n, i_3]
    omega
  have go : ∀ y : Int32, (y = Int32.ofInt 0 ∨ y = Int32.ofInt 1) → b.toInt + 5 ≤ p.toInt → ok_ (tb_P X) 230 30 [(2, .inl (.inl y)), (0, .inr (.inl (some 190))), (1, .inl (.inl nv))] [] C K := by
    intro y hy hbp
    obtain ⟨d, us, a1, a2⟩ := hI_a hS.1 (show tb_G 201 = some (.inr (0, 48, 1, [.inl ((-2147483648), 2147483647)])) from rfl)
    have st : ∀ c : Int32, ok_ (tb_P X) 230 46 [(2, .inl (.inl y)), (0, .inr (.inl (some 190))), (1, .inl (.inl nv))] [.inl (.inl c), .inl (.inl (Int32.ofInt 4 * nv)), .inr (.inl (some 201))] C K := by
      intro c
      refine ok_as rfl a1 (ix_of i4n (by omega)) ?_
      have S2 := cd_st hS a1 (j := 4 * n) (Nat.le_refl _) (v := c)
      have N2 : ea_nt (C.set 201 (.inl (0, 48, d, (4 * n, .inl (.inl c)) :: us))) 190 = some (.inr (12, ms)) := by rw [nt_set_ne (by decide)]; exact m1
      have A2 := nt_set_self (c := Sum.inl (0, 48, d, (4 * n, Sum.inl (Sum.inl c)) :: us)) a1
      revert S2 N2 A2
      generalize C.set 201 (.inl (0, 48, d, (4 * n, .inl (.inl c)) :: us)) = C2
      intro S2 N2 A2
      obtain ⟨ms', m1', -, m3'⟩ := hI_f S2.1 (show tb_G 190 = some (.inl (12, _)) from rfl)
      rw [N2] at m1'
      cases m1'
      obtain ⟨_, r22, dp, rfl, d1, d2⟩ := m3' 22 (.inl (0, 6)) rfl
      refine ok_p rfl rfl rfl ?_
      refine ok_gf rfl rfl N2 r13 ?_
      refine ok_p rfl rfl rfl ?_
      refine ok_p rfl rfl rfl ?_
      refine ok_p rfl rfl rfl ?_
      refine ok_p rfl rfl rfl ?_
      refine ok_p rfl rfl rfl ?_
      refine ok_p rfl rfl rfl ?_
      refine ok_p rfl rfl rfl ?_
      refine ok_p rfl rfl rfl ?_
      refine ok_cx (c := trk_62) (show cx_ok (tb_P X) tb_G (rf_G 0) trk_62 from IH 62 (by decide) 0) (as := [.inl (.inl (Int32.ofInt 0)), .inl (.inl (Int8.ofInt 7).toInt32)]) (T := [.inl (.inl (Int32.ofInt 4 * nv + Int32.ofInt 1)), .inr (.inl (some 201))]) (EV := [p.toInt, s.toInt, dp.toInt]) rfl rfl N2 rfl rfl rfl ⟨rfl, ⟨_, rfl, by decide, by decide⟩, ⟨_, rfl, by decide, by decide⟩, trivial⟩ S2.1 ⟨⟨pv_f (a := 190) (by decide) N2 r19, p1, p2⟩, ⟨pv_f (a := 190) (by decide) N2 r25, s1, s2⟩, ⟨pv_f (a := 190) (by decide) N2 r22, d1, d2⟩, trivial⟩ (fun q hq => nomatch hq) (fun w C3 I3 F3 rv P3 => ?_)
      obtain ⟨v, rfl, v1, v2⟩ := rv
      have O3 : p.toInt ≤ rf_v C3 190 19 ∧ rf_v C3 190 25 = s.toInt := by
        by_cases hv : v.toInt < 0
        · have e : cx_po trk_62 (some (.inl (.inl v))) = trk_62.2.2.2.1 := if_pos hv
          rw [e] at P3
          have := lf_out (a := 0) P3 (.head _) (.tail _ (.head _)) (.tail _ (.tail _ (.head _))) (.tail _ (.tail _ (.tail _ (.head _)))) (.tail _ (.tail _ (.tail _ (.tail _ (.head _)))))
          omega
        · have e : cx_po trk_62 (some (.inl (.inl v))) = trk_62.2.2.2.2 := if_neg hv
          rw [e] at P3
          have := lf_out (a := 1) P3 (.head _) (.tail _ (.head _)) (.tail _ (.tail _ (.head _))) (.tail _ (.tail _ (.tail _ (.head _)))) (.tail _ (.tail _ (.tail _ (.tail _ (.head _)))))
          omega
      have S3 := cd_lf S2 I3 F3 (by rw [O3.2, rf_f N2 r25])
      have A3 : ea_nt C3 201 = some (.inl (0, 48, d, (4 * n, .inl (.inl c)) :: us)) := by rw [F3.1 201 rfl]; exact A2
      show ok_ (tb_P X) 230 63 _ [.inl (.inl v), .inl (.inl (Int32.ofInt 4 * nv + Int32.ofInt 1)), .inr (.inl (some 201))] C3 K
      clear A2 N2 m3' r22 P3 F3
      obtain ⟨ms3, n1, -, n3⟩ := hI_f I3 (show tb_G 190 = some (.inl (12, _)) from rfl)
      obtain ⟨_, q13, rfl⟩ := n3 13 (.inr 201) rfl
      obtain ⟨_, q25, s', rfl, -, -⟩ := n3 25 (.inl (0, 400)) rfl
      obtain ⟨_, q19, p', rfl, -, p2'⟩ := n3 19 (.inl (0, 400)) rfl
      rw [rf_f n1 q25, rf_f n1 q19] at O3
      obtain rfl : s' = s := Int32.toInt_inj.mp O3.2
      refine ok_as rfl A3 (ix_of i4n1 (by omega)) ?_
      have S4 := cd_st S3 A3 (j := 4 * n + 1) (by omega) (v := v)
      have N4 : ea_nt (C3.set 201 (.inl (0, 48, d, (4 * n + 1, .inl (.inl v)) :: (4 * n, .inl (.inl c)) :: us))) 190 = some (.inr (12, ms3)) := by rw [nt_set_ne (by decide)]; exact n1
      have A4 := nt_set_self (c := Sum.inl (0, 48, d, (4 * n + 1, Sum.inl (Sum.inl v)) :: (4 * n, Sum.inl (Sum.inl c)) :: us)) A3
      revert S4 N4 A4
      generalize C3.set 201 (.inl (0, 48, d, (4 * n + 1, .inl (.inl v)) :: (4 * n, .inl (.inl c)) :: us)) = C4
      intro S4 N4 A4
      refine ok_p rfl rfl rfl ?_
      refine ok_gf rfl rfl N4 q13 ?_
      refine ok_p rfl rfl rfl ?_
      refine ok_p rfl rfl rfl ?_
      refine ok_p rfl rfl rfl ?_
      refine ok_p rfl rfl rfl ?_
      refine ok_p rfl rfl rfl ?_
      refine ok_al rfl A4 (ix_of i4n1 (by omega)) el_top ?_
      cases hv : ea_ck .ge v 0 with
      | false =>
        refine ok_if false rfl rfl hv ?_
        refine ok_p rfl rfl rfl ?_
        exact ok_r rfl rfl rfl rfl rfl (h0 C4 S4.1 S4.2.1)
      | true =>
        refine ok_if true rfl rfl hv ?_
        refine ok_p rfl rfl rfl ?_
        refine ok_gf rfl rfl N4 q13 ?_
        refine ok_p rfl rfl rfl ?_
        refine ok_p rfl rfl rfl ?_
        refine ok_p rfl rfl rfl ?_
        refine ok_p rfl rfl rfl ?_
        refine ok_p rfl rfl rfl ?_
        refine ok_p rfl rfl rfl ?_
        refine ok_gf rfl rfl N4 q25 ?_
        refine ok_as rfl A4 (ix_of i4n2 (by omega)) ?_
        have S5 := cd_st S4 A4 (j := 4 * n + 2) (by omega) (v := s')
        have N5 : ea_nt (C4.set 201 (.inl (0, 48, d, (4 * n + 2, .inl (.inl s')) :: (4 * n + 1, .inl (.inl v)) :: (4 * n, .inl (.inl c)) :: us))) 190 = some (.inr (12, ms3)) := by rw [nt_set_ne (by decide)]; exact N4
        have V5 : rf_v (C4.set 201 (.inl (0, 48, d, (4 * n + 2, .inl (.inl s')) :: (4 * n + 1, .inl (.inl v)) :: (4 * n, .inl (.inl c)) :: us))) 201 (4 * n + 2) = s'.toInt := rf_v_self A4 (by omega)
        revert S5 N5 V5
        generalize C4.set 201 (.inl (0, 48, d, (4 * n + 2, .inl (.inl s')) :: (4 * n + 1, .inl (.inl v)) :: (4 * n, .inl (.inl c)) :: us)) = C5
        intro S5 N5 V5
        clear A4 N4 A3
        obtain ⟨ms5, k1, k2, k3⟩ := hI_f S5.1 (show tb_G 190 = some (.inl (12, _)) from rfl)
        rw [N5] at k1
        cases k1
        have hlen : ms3.length = 38 := k2
        obtain ⟨_, q22, dq, rfl, -, -⟩ := k3 22 (.inl (0, 6)) rfl
        refine ok_p rfl rfl rfl ?_
        refine ok_p rfl rfl rfl ?_
        refine ok_pf rfl rfl N5 rfl (by rw [hlen]; rfl) ?_
        have I6 := xI_sf S5.1 (show tb_G 190 = some (.inl (12, _)) from rfl) N5 (k := 22) (v := .inl (.inl (Int32.ofInt 0))) rfl ⟨_, rfl, by decide, by decide⟩
        have F6 : fr_c (rf_G 0) [(190, 191), (1005, 1006)] C5 (C5.set 190 (.inr (12, ms3.set 22 (.inl (.inl (Int32.ofInt 0)))))) := fr_f 0 N5 (by decide) (by decide)
        have S6 := cd_lf S5 I6 F6 (rf_fs N5 (by decide))
        have V6 : rf_v (C5.set 190 (.inr (12, ms3.set 22 (.inl (.inl (Int32.ofInt 0)))))) 201 (4 * n + 2) = s'.toInt := by rw [rf_v_eq (cv_eq (F6.1 201 rfl) _)]; exact V5
        have N6 := nt_set_self (c := Sum.inr (12, ms3.set 22 (.inl (.inl (Int32.ofInt 0))))) N5
        have t22 : ea_nt (ms3.set 22 (Sum.inl (Sum.inl (Int32.ofInt 0)))) 22 = some (.inl (.inl (Int32.ofInt 0))) := nt_set_self q22
        have t19 : ea_nt (ms3.set 22 (Sum.inl (Sum.inl (Int32.ofInt 0)))) 19 = some (.inl (.inl p')) := by rw [nt_set_ne (by decide)]; exact q19
        have t25 : ea_nt (ms3.set 22 (Sum.inl (Sum.inl (Int32.ofInt 0)))) 25 = some (.inl (.inl s')) := by rw [nt_set_ne (by decide)]; exact q25
        revert S6 V6 N6 t22 t19 t25
        generalize C5.set 190 (.inr (12, ms3.set 22 (.inl (.inl (Int32.ofInt 0))))) = C6
        generalize ms3.set 22 (Sum.inl (Sum.inl (Int32.ofInt 0))) = s6
        intro S6 V6 N6 t22 t19 t25
        clear F6 I6
        refine ok_p rfl rfl rfl ?_
        refine ok_ld (q := 11744405) rfl rfl (by decide) ?_
        refine ok_cx (c := pi_c) (pi_ok X 0 IH) (as := [.inr (.inr (.inr (.inr 11744406)))]) (T := []) (EV := [p'.toInt, s'.toInt, (Int32.ofInt 0).toInt]) rfl rfl N6 rfl rfl rfl ⟨rfl, rfl, trivial⟩ S6.1 ⟨⟨pv_f (a := 190) (by decide) N6 t19, by show (0 : Int) ≤ p'.toInt; omega, p2'⟩, ⟨pv_f (a := 190) (by decide) N6 t25, s1, s2⟩, ⟨pv_f (a := 190) (by decide) N6 t22, by decide, by decide⟩, trivial⟩ (fun q hq => nomatch hq) (fun w C7 I7 F7 rv P7 => ?_)
        obtain ⟨z, rfl, z1, z2⟩ := rv
        have O7 : p'.toInt ≤ rf_v C7 190 19 ∧ rf_v C7 190 25 = s'.toInt ∧ rf_v C7 190 22 = 0 := by
          by_cases hz : z.toInt < 1
          · have e : cx_po pi_c (some (.inl (.inl z))) = pi_c.2.2.2.1 := if_pos hz
            rw [e] at P7
            have := lf_out (a := 0) P7 (.head _) (.tail _ (.head _)) (.tail _ (.tail _ (.head _))) (.tail _ (.tail _ (.tail _ (.head _)))) (.tail _ (.tail _ (.tail _ (.tail _ (.head _)))))
            have := i_0
            omega
          · have e : cx_po pi_c (some (.inl (.inl z))) = pi_c.2.2.2.2 := if_neg hz
            rw [e] at P7
            have := lf_out (a := 1) P7 (.head _) (.tail _ (.head _)) (.tail _ (.tail _ (.head _))) (.tail _ (.tail _ (.tail _ (.head _)))) (.tail _ (.tail _ (.tail _ (.tail _ (.head _)))))
            have := i_0
            omega
        have S7 := cd_lf S6 I7 F7 (by rw [O7.2.1, rf_f N6 t25])
        have V7 : rf_v C7 201 (4 * n + 2) = s'.toInt := by rw [rf_v_eq (cv_eq (F7.1 201 rfl) _)]; exact V6
        show ok_ (tb_P X) 230 104 _ [.inl (.inl z)] C7 K
        clear F7 P7 N6 t22 t19 t25 V6 S6 V5 S5 S4 S3 S2 N5
        have fin : ∀ C8, xI tb_G C8 → fr_c (rf_G 0) cd_M C1 C8 → cd_I C8 n → rf_v C8 201 (4 * n + 2) = s'.toInt → 0 ≤ rf_ga s'.toInt.toNat C8 → rf_v C8 190 25 ≤ rf_v C8 190 19 → ok_ (tb_P X) 230 116 [(2, .inl (.inl y)), (0, .inr (.inl (some 190))), (1, .inl (.inl nv))] [] C8 K := by
          intro C8 I8 F8 J8 V8 G8 L8
          obtain ⟨ms8, w1, -, w3⟩ := hI_f I8 (show tb_G 190 = some (.inl (12, _)) from rfl)
          obtain ⟨_, u13, rfl⟩ := w3 13 (.inr 201) rfl
          obtain ⟨_, u25, t, rfl, t1, t2⟩ := w3 25 (.inl (0, 400)) rfl
          obtain ⟨d8, us8, a81, a82⟩ := hI_a I8 (show tb_G 201 = some (.inr (0, 48, 1, [.inl ((-2147483648), 2147483647)])) from rfl)
          have g8 := ga_some G8
          rw [rf_f w1 u25] at g8
          have S9 := cd_st (C1 := C1) (n := n) ⟨I8, F8, J8⟩ a81 (j := 4 * n + 3) (by omega) (v := t)
          have V9 : rf_v (C8.set 201 (.inl (0, 48, d8, (4 * n + 3, .inl (.inl t)) :: us8))) 201 (4 * n + 2) = s'.toInt := by
            rw [rf_v_set a81 (fun hc => by have := hc.2; omega)]
            exact V8
          have W9 : rf_v (C8.set 201 (.inl (0, 48, d8, (4 * n + 3, .inl (.inl t)) :: us8))) 201 (4 * n + 3) = t.toInt := rf_v_self a81 (by omega)
          have T9 : rf_v (C8.set 201 (.inl (0, 48, d8, (4 * n + 3, .inl (.inl t)) :: us8))) 190 25 = t.toInt := by
            rw [rf_v_set a81 (fun hc => by have := hc.1; omega)]
            exact rf_f w1 u25
          have L9 : rf_v (C8.set 201 (.inl (0, 48, d8, (4 * n + 3, .inl (.inl t)) :: us8))) 190 25 ≤ rf_v (C8.set 201 (.inl (0, 48, d8, (4 * n + 3, .inl (.inl t)) :: us8))) 190 19 := by
            rw [rf_v_set a81 (fun hc => by have := hc.1; omega), rf_v_set a81 (fun hc => by have := hc.1; omega)]
            exact L8
          have G9 : 0 ≤ rf_ga s'.toInt.toNat (C8.set 201 (.inl (0, 48, d8, (4 * n + 3, .inl (.inl t)) :: us8))) := by
            rw [ga_eq (C := C8) (fun j _ => rf_v_set a81 (fun hc => by have := hc.1; omega)) (rf_v_set a81 (fun hc => by have := hc.1; omega))]
            exact G8
          refine ok_p rfl rfl rfl ?_
          refine ok_gf rfl rfl w1 u13 ?_
          refine ok_p rfl rfl rfl ?_
          refine ok_p rfl rfl rfl ?_
          refine ok_p rfl rfl rfl ?_
          refine ok_p rfl rfl rfl ?_
          refine ok_p rfl rfl rfl ?_
          refine ok_p rfl rfl rfl ?_
          refine ok_gf rfl rfl w1 u25 ?_
          refine ok_as rfl a81 (ix_of i4n3 (by omega)) ?_
          refine ok_p rfl rfl rfl ?_
          refine ok_r rfl rfl rfl rfl rfl (h1 _ hn11 ⟨S9.1, S9.2.1, fun k hk => ?_⟩ L9)
          by_cases hkn : k = n
          · subst hkn
            refine ⟨s'.toInt.toNat, t.toInt.toNat - s'.toInt.toNat, ?_, ?_, ?_, G9⟩
            · rw [V9]; omega
            · rw [W9]; omega
            · rw [T9]; omega
          · exact S9.2.2 k (by omega)
        have hga : rf_ga s'.toInt.toNat C7 = 0 := ga_self (by rw [O7.2.1]; omega) (by omega)
        obtain ⟨ms7, e1, -, e3⟩ := hI_f I7 (show tb_G 190 = some (.inl (12, _)) from rfl)
        obtain ⟨_, f19, pp, rfl, pp1, pp2⟩ := e3 19 (.inl (0, 400)) rfl
        obtain ⟨_, f25, ss, rfl, ss1, ss2⟩ := e3 25 (.inl (0, 400)) rfl
        obtain ⟨_, f22, dd, rfl, dd1, dd2⟩ := e3 22 (.inl (0, 6)) rfl
        dsimp only at pp1 pp2 ss1 ss2 dd1 dd2
        rw [rf_f e1 f19, rf_f e1 f25, rf_f e1 f22] at O7
        rcases yes_no z1 z2 with rfl | rfl
        · refine ok_p rfl rfl rfl ?_
          exact fin C7 I7 S7.2.1 S7.2.2 V7 (by omega) (by rw [rf_f e1 f25, rf_f e1 f19]; omega)
        · refine ok_p rfl rfl rfl ?_
          refine ok_p rfl rfl rfl ?_
          refine ok_cv (mj := 229) (as := []) (T := []) rfl rfl e1 rfl rfl rfl ?_
          have all := ok_all (U := { u : Nat // 0 ≤ rf_ga u C7 }) ⟨s'.toInt.toNat, by omega⟩ (fun u => (show cx_ok (tb_P X) tb_G (rf_G u.1) trk_94 from IH 94 (by decide) u.1) [.inr (.inl (some 190))] C7 [pp.toInt, ss.toInt, dd.toInt, pp.toInt - ss.toInt, rf_ga u.1 C7] ⟨rfl, trivial⟩ I7 ⟨⟨pv_f (a := 190) (by decide) e1 f19, pp1, pp2⟩, ⟨pv_f (a := 190) (by decide) e1 f25, ss1, ss2⟩, ⟨pv_f (a := 190) (by decide) e1 f22, by show (0 : Int) ≤ dd.toInt; omega, by show dd.toInt ≤ (0 : Int); omega⟩, ⟨rp_lead (pv_f (a := 190) (by decide) e1 f19) (pv_f (a := 190) (by decide) e1 f25), by show (1 : Int) ≤ pp.toInt - ss.toInt; omega, by show pp.toInt - ss.toInt ≤ (400 : Int); omega⟩, ⟨show rf_G u.1 1004 C7 = rf_ga u.1 C7 from rfl, u.2, ga_le⟩, trivial⟩ (fun q hq => nomatch hq))
          refine ok_post all (fun o C8 hq => ?_)
          have hq0 := hq ⟨s'.toInt.toNat, by omega⟩
          obtain ⟨w, rfl, I8, F8, rv, P8⟩ := hq0
          obtain ⟨x, rfl, x1, x2⟩ := rv
          show ok_ (tb_P X) 230 111 _ [.inl (.inl x)] C8 K
          have F8' : fr_c (rf_G 0) [(190, 191), (202, 203), (1001, 1002), (1003, 1006)] C7 C8 := fr_u (by decide) F8
          have F8c : fr_c (rf_G 0) cd_M C1 C8 := fr_c_tr S7.2.1 (M' := [(190, 191), (202, 203), (1001, 1002), (1003, 1006)]) (by decide) F8'
          rcases yes_no x1 x2 with rfl | rfl
          · refine ok_p rfl rfl rfl ?_
            refine ok_p rfl rfl rfl ?_
            exact ok_r rfl rfl rfl rfl rfl (h0 C8 I8 F8c)
          · refine ok_p rfl rfl rfl ?_
            have key : ∀ u : Nat, 0 ≤ rf_ga u C7 → 0 ≤ rf_ga u C8 := by
              intro u hu
              obtain ⟨w, hw, -, -, -, Pu⟩ := hq ⟨u, hu⟩
              cases hw
              have e : cx_po trk_94 (some (.inl (.inl (Int32.ofInt 1)))) = trk_94.2.2.2.2 := rfl
              rw [e] at Pu
              obtain ⟨⟨NV, hNV⟩, -⟩ := Pu
              obtain ⟨_, N1, rfl, -, hn1⟩ := ea_rl_cons hNV
              obtain ⟨_, N2, rfl, -, hn2⟩ := ea_rl_cons hn1
              obtain ⟨_, N3, rfl, -, hn3⟩ := ea_rl_cons hn2
              obtain ⟨_, N4, rfl, -, hn4⟩ := ea_rl_cons hn3
              obtain ⟨zg, N5, rfl, ⟨zG, zg1, -⟩, -⟩ := ea_rl_cons hn4
              have zG' : rf_ga u C8 = zg := zG
              dsimp only at zg1
              omega
            have lead : rf_v C8 190 25 ≤ rf_v C8 190 19 := by
              have e : cx_po trk_94 (some (.inl (.inl (Int32.ofInt 1)))) = trk_94.2.2.2.2 := rfl
              rw [e] at P8
              obtain ⟨⟨NV, hNV⟩, -⟩ := P8
              obtain ⟨_, N1, rfl, -, hn1⟩ := ea_rl_cons hNV
              obtain ⟨_, N2, rfl, -, hn2⟩ := ea_rl_cons hn1
              obtain ⟨_, N3, rfl, -, hn3⟩ := ea_rl_cons hn2
              obtain ⟨zi, N4, rfl, ⟨zI, zi1, -⟩, -⟩ := ea_rl_cons hn3
              have zI' : rf_v C8 190 19 - rf_v C8 190 25 = zi := zI
              dsimp only at zi1
              omega
            refine fin C8 I8 F8c (fun k hk => ?_) (by rw [rf_v_eq (cv_eq (F8'.1 201 rfl) _)]; exact V7) (key _ (by omega)) lead
            obtain ⟨i, m, g1, g2, g3, g4⟩ := S7.2.2 k hk
            have hs8 := (ga_some (key s'.toInt.toNat (by omega))).1
            refine ⟨i, m, ?_, ?_, ?_, key i g4⟩
            · rw [rf_v_eq (cv_eq (F8'.1 201 rfl) _)]; exact g1
            · rw [rf_v_eq (cv_eq (F8'.1 201 rfl) _)]; exact g2
            · rw [rf_f e1 f25] at g3
              omega
    refine ok_p rfl rfl rfl ?_
    refine ok_gf rfl rfl m1 r13 ?_
    refine ok_p rfl rfl rfl ?_
    refine ok_p rfl rfl rfl ?_
    refine ok_p rfl rfl rfl ?_
    refine ok_p rfl rfl rfl ?_
    rcases hy with rfl | rfl
    · refine ok_p rfl rfl rfl ?_
      refine ok_p rfl rfl rfl ?_
      exact st _
    · refine ok_p rfl rfl rfl ?_
      refine ok_p rfl rfl rfl ?_
      refine ok_p rfl rfl rfl ?_
      exact st _
  have word : ∀ (c : CX) (q pc nn : Nat) (L : List (Nat × AV)), cx_ok (tb_P X) tb_G (rf_G 0) c → c.1.1 = 216 → c.1.2.1 = [.inr (.inl 190), .inr (.inr (q + 4))] → c.1.2.2.1 = [] → c.1.2.2.2.1 = (1, 0, 1) → c.1.2.2.2.2.2 = [(190, 19, 0, 400), (190, 21, 0, 400)] → c.2.1 = [] → c.2.2.1 = 1 → c.2.2.2.2 = ([], [(.inr (.inl 1), .inr (.inl 0), -(nn : Int))]) → 5 ≤ nn → ep_cod (tb_P X) 230 pc = some (.invokevirtual 169, 3) → (∀ y, y = Int32.ofInt 0 ∨ (y = Int32.ofInt 1 ∧ b.toInt + 5 ≤ p.toInt) → ok_ (tb_P X) 230 (pc + 3) L [.inl (.inl y)] C K) → ok_ (tb_P X) 230 pc L [.inr (.inr (.inr (.inr (q + 1)))), .inr (.inl (some 190))] C K := by
    intro c q pc nn L hcx e1 e2 e3 e4 e5 e6 e7 e8 hnn hc hy
    refine ok_cx hcx (as := [.inr (.inr (.inr (.inr (q + 1))))]) (T := []) (EV := [p.toInt, b.toInt]) hc (by rw [e1]; rfl) m1 (by rw [e1]; rfl) rfl (by rw [e1]; rfl) (by rw [e2]; exact ⟨rfl, rfl, trivial⟩) hS.1 (by rw [e5]; exact ⟨⟨pv_f (a := 190) (by decide) m1 r19, p1, p2⟩, ⟨pv_f (a := 190) (by decide) m1 r21, b1, b2⟩, trivial⟩) (by rw [e6]; exact fun q hq => nomatch hq) (fun w C2 I2 F2 rv P2 => ?_)
    rw [e3] at F2
    obtain rfl := nt_ext (fun b => F2.1 b rfl)
    rw [e4] at rv
    obtain ⟨y, rfl, y1, y2⟩ := rv
    show ok_ (tb_P X) 230 (pc + 3) L [.inl (.inl y)] C2 K
    rcases yes_no y1 y2 with rfl | rfl
    · exact hy _ (Or.inl rfl)
    · refine hy _ (Or.inr ⟨rfl, ?_⟩)
      have e : cx_po c (some (.inl (.inl (Int32.ofInt 1)))) = c.2.2.2.2 := by
        show (if (Int32.ofInt 1).toInt < c.2.2.1 then _ else _) = _
        rw [e7, if_neg (by decide)]
      rw [e, e8] at P2
      have := rl_z P2.2 (.head _) (z1 := b.toInt) (z2 := p.toInt) rfl rfl
      omega
  refine ok_p rfl rfl rfl ?_
  refine ok_ld (q := 52280337941016721) rfl rfl (by decide) ?_
  refine word trk_29 52280337941016721 11 6 _ (IH 29 (by decide) 0) rfl rfl rfl rfl rfl rfl rfl rfl (by decide) rfl (fun y hy => ?_)
  refine ok_p rfl rfl rfl ?_
  refine ok_p rfl rfl rfl ?_
  rcases hy with rfl | ⟨rfl, hbp⟩
  · refine ok_p rfl rfl rfl ?_
    refine ok_p rfl rfl rfl ?_
    refine ok_ld (q := 203627540166419) rfl rfl (by decide) ?_
    refine word trk_26 203627540166419 22 5 _ (IH 26 (by decide) 0) rfl rfl rfl rfl rfl rfl rfl rfl (by decide) rfl (fun y hy => ?_)
    rcases hy with rfl | ⟨rfl, hbp⟩
    · refine ok_p rfl rfl rfl ?_
      refine ok_p rfl rfl rfl ?_
      exact ok_r rfl rfl rfl rfl rfl (h0 C hS.1 hS.2.1)
    · refine ok_p rfl rfl rfl ?_
      exact go _ (Or.inl rfl) hbp
  · refine ok_p rfl rfl rfl ?_
    exact go _ (Or.inr rfl) hbp
end RC
