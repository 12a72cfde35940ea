/-! CONTRACTS BY HAND: the lengths of habits; the counts -/
theorem rf_v_set {C : List AC} {a kd n : Nat} {d : AV} {us : List (Nat × AV)} {j : Nat} {v : AV} (hC : ea_nt C a = some (.inl (kd, n, d, us))) {b k : Nat} (h : ¬ (b = a ∧ k = j)) : rf_v (C.set a (.inl (kd, n, d, (j, v) :: us))) b k = rf_v C b k := by
  refine rf_v_eq (cv_arr (t := (a, (j : Int), (j : Int), 1, 0)) hC ⟨rfl, Int.le_refl _, Int.le_refl _, Int.emod_one _⟩ b k ?_)
  rintro ⟨h1, w1, w2, -⟩
  dsimp only at h1 w1 w2
  exact h ⟨h1, by omega⟩
theorem rf_v_self {C : List AC} {a kd n : Nat} {d : AV} {us : List (Nat × AV)} {j : Nat} {x : Int32} (hC : ea_nt C a = some (.inl (kd, n, d, us))) (hj : j < n) : rf_v (C.set a (.inl (kd, n, d, (j, .inl (.inl x)) :: us))) a j = x.toInt :=
  rf_el (nt_set_self hC) hj (by rw [ea_al_at, if_pos rfl])
/-- the rows of the world's copies are as they were -/
theorem rf_W_191 {C : List AC} {d : AV} {us : List (Nat × AV)} {j : Nat} {v : AV} (hC : ea_nt C 191 = some (.inl (0, 388, d, us))) (hW : rf_W C) (h : rf_row (rf_v (C.set 191 (.inl (0, 388, d, (j, v) :: us))) 191)) : rf_W (C.set 191 (.inl (0, 388, d, (j, v) :: us))) := by
  have e : ∀ b k, b ≠ 191 → rf_v (C.set 191 (.inl (0, 388, d, (j, v) :: us))) b k = rf_v C b k := fun b k hb => rf_v_set hC (fun hc => hb hc.1)
  refine ⟨h, (rf_row_eq (e 192 _ (by decide)) (fun c _ => e 192 _ (by decide))).mpr hW.2.1, (rf_row_eq (e 193 _ (by decide)) (fun c _ => e 193 _ (by decide))).mpr hW.2.2.1, (rf_row_eq (e 194 _ (by decide)) (fun c _ => e 194 _ (by decide))).mpr hW.2.2.2.1, fun t ht => ?_⟩
  exact (rf_row_eq (f := fun k => rf_v (C.set 191 (.inl (0, 388, d, (j, v) :: us))) 195 (388 * t + k)) (g := fun k => rf_v C 195 (388 * t + k)) (e 195 _ (by decide)) (fun c _ => e 195 _ (by decide))).mpr (hW.2.2.2.2 t ht)
theorem gs_191w : ∀ q ∈ tr_gs, q.2.1 = 191 → q.1 = 999 ∨ q.1 = 1000 := by decide
/-- a store into the world at any place: the other ghosts stay -/
theorem fr_191w (u : Nat) {C : List AC} {d : AV} {us : List (Nat × AV)} (hC : ea_nt C 191 = some (.inl (0, 388, d, us))) {j : Nat} {v : AV} : fr_c (rf_G u) [(191, 192), (999, 1001)] C (C.set 191 (.inl (0, 388, d, (j, v) :: us))) := by
  refine ⟨fun b hb => ?_, fun k hk hm => rf_gs u k C _ (fun a i hq => ?_)⟩
  · have : (191 : Nat) ≠ b := by
      rintro rfl
      exact absurd hb (by decide)
    rw [nt_set_ne this]
  · obtain ⟨q, q1, q2, q3, q4, q5⟩ := hq
    refine cv_eq (nt_set_ne ?_) i
    rintro rfl
    rcases gs_191w q q1 q3 with h | h
    · rw [← q2, h] at hm
      exact absurd hm (by decide)
    · rw [← q2, h] at hm
      exact absurd hm (by decide)
theorem rf_G_W {u : Nat} {C : List AC} {z : Int} (h : pv (rf_G u) C 999 0 z) (h1 : 1 ≤ z) (h2 : z ≤ 1) : rf_W C := rf_b_of (p := rf_W C) (by
  have h3 : rf_G u 999 C = z := h
  have h4 : rf_G u 999 C = rf_b (rf_W C) := rfl
  omega)
theorem rf_G_W2 {u : Nat} {C : List AC} {z : Int} (h : pv (rf_G u) C 1000 0 z) (h1 : 1 ≤ z) (h2 : z ≤ 1) : rf_row2 (rf_v C 191) := rf_b_of (p := rf_row2 (rf_v C 191)) (by
  have h3 : rf_G u 1000 C = z := h
  have h4 : rf_G u 1000 C = rf_b (rf_row2 (rf_v C 191)) := rfl
  omega)
/-- sets: the habit of the citizen that is being made has a length -/
theorem tr_h3 (X : Option (List AI)) (u : Nat) : cx_ok (tb_P X) tb_G (rf_G u) trk_3 := by
  intro vs C EV hvs hI hpre hrel
  obtain ⟨v0, t0, rfl, h0, hvs1⟩ := ea_rl_cons hvs
  obtain ⟨v1, t1, rfl, ⟨c, rfl, c1, c2⟩, hvs2⟩ := ea_rl_cons hvs1
  obtain ⟨v2, t2, rfl, ⟨w, rfl, w1, w2⟩, hvs3⟩ := ea_rl_cons hvs2
  obtain ⟨v3, t3, rfl, ⟨v, rfl, x1, x2⟩, hvs4⟩ := ea_rl_cons hvs3
  obtain rfl := ea_rl_nil hvs4
  obtain rfl : v0 = .inr (.inl (some 190)) := h0
  dsimp only at c1 c2 w1 w2 x1 x2
  obtain ⟨zW, e0, rfl, ⟨pW, q1, q2⟩, hp2⟩ := ea_rl_cons hpre
  obtain ⟨zN, e1, rfl, ⟨pN, n1, n2⟩, hp3⟩ := ea_rl_cons hp2
  dsimp only at q1 q2 n1 n2
  have hW := rf_G_W pW q1 q2
  have hN : rf_v C 191 0 = zN := rf_v_pv (a := 191) (by decide) pN
  obtain ⟨z1, z2, s1, s2, hz⟩ := hrel _ List.mem_cons_self
  obtain ⟨z3, z4, s3, s4, hz'⟩ := hrel _ (List.mem_cons_of_mem _ List.mem_cons_self)
  have r1 : z1 = c.toInt := sp_one s1 ⟨c, rfl, rfl⟩
  have r2 : z2 = zN := sp_one s2 rfl
  have r3 : z3 = zN := sp_one s3 rfl
  have r4 : z4 = c.toInt := sp_one s4 ⟨c, rfl, rfl⟩
  dsimp only at hz hz'
  refine sets_run X hI c1 c2 (by omega) (by omega) (fun d us hC => ?_)
  have hj : 18 + 13 * c.toInt.toNat + w.toInt.toNat = 23 + 13 * c.toInt.toNat := by omega
  rw [hj]
  have hlen := rf_len c.toInt.toNat (by omega)
  rw [Nat.mod_eq_of_lt (by omega)] at hlen
  have hp : pv (rf_G u) (C.set 191 (.inl (0, 388, d, (23 + 13 * c.toInt.toNat, .inl (.inl v)) :: us))) 191 0 zN := pv_el (by decide) hC (by omega) pN
  have h0' : rf_v (C.set 191 (.inl (0, 388, d, (23 + 13 * c.toInt.toNat, .inl (.inl v)) :: us))) 191 0 = rf_v C 191 0 := rf_v_set hC (fun hc => by have := hc.2; omega)
  have row2 : rf_row2 (rf_v (C.set 191 (.inl (0, 388, d, (23 + 13 * c.toInt.toNat, .inl (.inl v)) :: us))) 191) := by
    intro k hk hle
    rw [h0'] at hle
    by_cases hkc : k = c.toInt.toNat
    · rw [hkc, rf_v_self hC (by omega)]
      exact x1
    · rw [rf_v_set hC (fun hc => hkc (by have := hc.2; omega))]
      exact hW.1 k hk (by omega)
  have row1 : rf_row (rf_v (C.set 191 (.inl (0, 388, d, (23 + 13 * c.toInt.toNat, .inl (.inl v)) :: us))) 191) := fun k hk hl => row2 k hk (by omega)
  have hW' := rf_W_191 hC hW row1
  have pW' : pv (rf_G u) (C.set 191 (.inl (0, 388, d, (23 + 13 * c.toInt.toNat, .inl (.inl v)) :: us))) 999 0 1 := rf_b_1 hW'
  have pW2 : pv (rf_G u) (C.set 191 (.inl (0, 388, d, (23 + 13 * c.toInt.toNat, .inl (.inl v)) :: us))) 1000 0 1 := rf_b_1 row2
  refine ⟨none, rfl, xI_sa hI (show tb_G 191 = some (.inr (0, 388, 388, tg_row)) from rfl) hC (rf_kd hlen ⟨v, rfl, by omega, by omega⟩), fr_191w u hC, rfl, ⟨[1, 1, zN], ⟨⟨pW', by decide, by decide⟩, ⟨pW2, by decide, by decide⟩, ⟨hp, n1, n2⟩, trivial⟩⟩, fun q hq => ?_⟩
  rcases List.mem_cons.mp hq with rfl | hq
  · exact ⟨zN, zN, hp, rfl, by dsimp only; omega⟩
  · rcases List.mem_cons.mp hq with rfl | hq
    · exact ⟨zN, zN, rfl, hp, by dsimp only; omega⟩
    · exact nomatch hq
/-- sets: no length yet of the citizen that is being made -/
theorem tr_h4 (X : Option (List AI)) (u : Nat) : cx_ok (tb_P X) tb_G (rf_G u) trk_4 := by
  intro vs C EV hvs hI hpre hrel
  obtain ⟨v0, t0, rfl, h0, hvs1⟩ := ea_rl_cons hvs
  obtain ⟨v1, t1, rfl, ⟨c, rfl, c1, c2⟩, hvs2⟩ := ea_rl_cons hvs1
  obtain ⟨v2, t2, rfl, ⟨w, rfl, w1, w2⟩, hvs3⟩ := ea_rl_cons hvs2
  obtain ⟨v3, t3, rfl, ⟨v, rfl, x1, x2⟩, hvs4⟩ := ea_rl_cons hvs3
  obtain rfl := ea_rl_nil hvs4
  obtain rfl : v0 = .inr (.inl (some 190)) := h0
  dsimp only at c1 c2 w1 w2 x1 x2
  obtain ⟨zW, e0, rfl, ⟨pW, q1, q2⟩, hp2⟩ := ea_rl_cons hpre
  obtain ⟨zN, e1, rfl, ⟨pN, n1, n2⟩, hp3⟩ := ea_rl_cons hp2
  dsimp only at q1 q2 n1 n2
  have hW := rf_G_W pW q1 q2
  have hN : rf_v C 191 0 = zN := rf_v_pv (a := 191) (by decide) pN
  obtain ⟨z3, z4, s3, s4, hz'⟩ := hrel _ List.mem_cons_self
  have r3 : z3 = zN := sp_one s3 rfl
  have r4 : z4 = c.toInt := sp_one s4 ⟨c, rfl, rfl⟩
  dsimp only at hz'
  refine sets_run X hI c1 c2 (by omega) (by omega) (fun d us hC => ?_)
  have hj : 18 + 13 * c.toInt.toNat + w.toInt.toNat = 23 + 13 * c.toInt.toNat := by omega
  rw [hj]
  have hlen := rf_len c.toInt.toNat (by omega)
  rw [Nat.mod_eq_of_lt (by omega)] at hlen
  have hp : pv (rf_G u) (C.set 191 (.inl (0, 388, d, (23 + 13 * c.toInt.toNat, .inl (.inl v)) :: us))) 191 0 zN := pv_el (by decide) hC (by omega) pN
  have h0' : rf_v (C.set 191 (.inl (0, 388, d, (23 + 13 * c.toInt.toNat, .inl (.inl v)) :: us))) 191 0 = rf_v C 191 0 := rf_v_set hC (fun hc => by have := hc.2; omega)
  have row1 : rf_row (rf_v (C.set 191 (.inl (0, 388, d, (23 + 13 * c.toInt.toNat, .inl (.inl v)) :: us))) 191) := by
    intro k hk hl
    rw [h0'] at hl
    rw [rf_v_set hC (fun hc => by have := hc.2; omega)]
    exact hW.1 k hk hl
  have pW' : pv (rf_G u) (C.set 191 (.inl (0, 388, d, (23 + 13 * c.toInt.toNat, .inl (.inl v)) :: us))) 999 0 1 := rf_b_1 (rf_W_191 hC hW row1)
  refine ⟨none, rfl, xI_sa hI (show tb_G 191 = some (.inr (0, 388, 388, tg_row)) from rfl) hC (rf_kd hlen ⟨v, rfl, by omega, by omega⟩), fr_191w u hC, rfl, ⟨[1, zN], ⟨⟨pW', by decide, by decide⟩, ⟨hp, n1, n2⟩, trivial⟩⟩, fun q hq => ?_⟩
  rcases List.mem_cons.mp hq with rfl | hq
  · exact ⟨zN, zN, hp, rfl, by dsimp only; omega⟩
  · rcases List.mem_cons.mp hq with rfl | hq
    · exact ⟨zN, zN, rfl, hp, by dsimp only; omega⟩
    · exact nomatch hq
