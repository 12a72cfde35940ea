/-! CONTRACTS BY HAND: a step is told -/
/-- what a step does to the depth -/
def rf_st (s : Int) (e : Nat) : Option Nat := if s ≤ 5 then some (e + 1) else if s = 9 then (if 1 ≤ e then some e else none) else (if 2 ≤ e then some (e - 1) else none)
theorem rf_d_snoc {f : Nat → Int} : ∀ (n i d e : Nat), rf_d f i n d = some e → rf_d f i (n + 1) d = rf_st (f (2 * (i + n))) e
  | 0, i, d, e, h => by
    cases h
    show (if f (2 * i) ≤ 5 then some (d + 1) else if f (2 * i) = 9 then (if 1 ≤ d then some d else none) else (if 2 ≤ d then some (d - 1) else none)) = rf_st (f (2 * (i + 0))) d
    rfl
  | n + 1, i, d, e, h => by
    unfold rf_d at h
    rw [rf_d]
    have hi : i + (n + 1) = (i + 1) + n := by omega
    split at h
    · rename_i h1
      rw [if_pos h1, rf_d_snoc n (i + 1) (d + 1) e h, hi]
    · rename_i h1
      rw [if_neg h1]
      split at h
      · rename_i h2
        rw [if_pos h2]
        split at h
        · rename_i h3
          rw [if_pos h3, rf_d_snoc n (i + 1) d e h, hi]
        · cases h
      · rename_i h2
        rw [if_neg h2]
        split at h
        · rename_i h3
          rw [if_pos h3, rf_d_snoc n (i + 1) (d - 1) e h, hi]
        · cases h
theorem rf_d_low {f g : Nat → Int} : ∀ (n i d : Nat), (∀ j, j < 2 * (i + n) → f j = g j) → rf_d f i n d = rf_d g i n d
  | 0, i, d, _ => rfl
  | n + 1, i, d, h => by
    unfold rf_d
    rw [h (2 * i) (by omega), rf_d_low n (i + 1) (d + 1) (fun j hj => h j (by omega)), rf_d_low n (i + 1) d (fun j hj => h j (by omega)), rf_d_low n (i + 1) (d - 1) (fun j hj => h j (by omega))]
/-- never deeper than steps were told -/
theorem rf_d_le {f : Nat → Int} : ∀ (n i d e : Nat), rf_d f i n d = some e → e ≤ d + n
  | 0, i, d, e, h => by cases h; omega
  | n + 1, i, d, e, h => by
    unfold rf_d at h
    split at h
    · have := rf_d_le n (i + 1) (d + 1) e h; omega
    · split at h
      · split at h
        · have := rf_d_le n (i + 1) d e h; omega
        · cases h
      · split at h
        · have := rf_d_le n (i + 1) (d - 1) e h; omega
        · cases h
theorem gs_202 (M : List (Nat × Nat)) (hM : M = [(190, 191), (202, 203), (1001, 1002), (1003, 1006)]) : ∀ q ∈ tr_gs, q.2.1 = 202 → xm M q.1 = true := by
  subst hM
  decide
theorem fr_202 (u : Nat) {C : List AC} {d : AV} {us : List (Nat × AV)} (hC : ea_nt C 202 = some (.inl (0, 800, d, us))) {j : Nat} {v : AV} : fr_c (rf_G u) [(190, 191), (202, 203), (1001, 1002), (1003, 1006)] C (C.set 202 (.inl (0, 800, d, (j, v) :: us))) := by
  refine ⟨fun b hb => ?_, fun k hk hm => rf_gs u k C _ (fun a i hq => ?_)⟩
  · have : (202 : Nat) ≠ b := by
      rintro rfl
      exact absurd hb (by decide)
    rw [nt_set_ne this]
  · obtain ⟨q, q1, q2, q3, q4, q5⟩ := hq
    refine cv_eq (nt_set_ne ?_) i
    rintro rfl
    have := gs_202 _ rfl q q1 q3
    rw [q2, hm] at this
    cases this
theorem i32_2 : (Int32.ofInt (Int.ofNat 2)).toInt = 2 := by decide
theorem i32_1 : (Int32.ofInt (Int.ofNat 1)).toInt = 1 := by decide
set_option maxRecDepth 20000 in
set_option maxHeartbeats 1000000 in
/-- emits, as it runs: two elements of told, and the steps -/
theorem emits_run (X : Option (List AI)) (u : Nat) {C : List AC} (hI : xI tb_G C) {st n s : Int32} (hs : fd_g C 190 25 s) (s1 : 0 ≤ s.toInt) (s2 : s.toInt ≤ 399) {K : Option AV ⊕ Nat → List AC → Prop}
    (h : ∀ C', xI tb_G C' → fr_c (rf_G u) [(190, 191), (202, 203), (1001, 1002), (1003, 1006)] C C' → (∀ k, k ≠ 25 → rf_v C' 190 k = rf_v C 190 k) → (∀ k, k ≠ 25 → cv C' 190 k = cv C 190 k) → rf_v C' 190 25 = s.toInt + 1 → cv C' 190 25 = some (.inl (.inl (s + Int32.ofInt (Int.ofNat 1)))) → rf_v C' 202 (2 * s.toInt.toNat) = st.toInt → (∀ j, j < 2 * s.toInt.toNat → rf_v C' 202 j = rf_v C 202 j) → K (.inl none) C') :
    ok_ (tb_P X) 224 0 (ea_ar 0 [.inr (.inl (some 190)), .inl (.inl st), .inl (.inl n)]) [] C K := by
  obtain ⟨ms, m1, m2, m3⟩ := hI_f hI (show tb_G 190 = some (.inl (12, _)) from rfl)
  obtain ⟨d, us, a1, a2⟩ := hI_a hI (show tb_G 202 = some (.inr (0, 800, _, _)) from rfl)
  have hlen : ms.length = 38 := m2
  obtain ⟨_, r14, rfl⟩ := m3 14 (.inr 202) rfl
  obtain ⟨ci, vs', f1, f2⟩ := hs
  rw [m1] at f1
  cases f1
  have e2 : (Int32.ofInt (Int.ofNat 2) * s).toInt = ((2 * s.toInt.toNat : Nat) : Int) := by
    rw [i32_mul (by rw [i32_2]; omega) (by rw [i32_2]; omega), i32_2]
    omega
  have e3 : (Int32.ofInt (Int.ofNat 2) * s + Int32.ofInt (Int.ofNat 1)).toInt = ((2 * s.toInt.toNat + 1 : Nat) : Int) := by
    rw [i32_add (by rw [e2, i32_1]; omega) (by rw [e2, i32_1]; omega), e2, i32_1]
    omega
  have e4 : (s + Int32.ofInt (Int.ofNat 1)).toInt = s.toInt + 1 := by
    rw [i32_add (by rw [i32_1]; omega) (by rw [i32_1]; omega), i32_1]
  refine ok_p rfl rfl rfl ?_
  refine ok_gf rfl rfl m1 r14 ?_
  refine ok_p rfl rfl rfl ?_
  refine ok_p rfl rfl rfl ?_
  refine ok_gf rfl rfl m1 f2 ?_
  refine ok_p rfl rfl rfl ?_
  refine ok_p rfl rfl rfl ?_
  refine ok_as rfl a1 (ix_of e2 (by omega)) ?_
  have I1 := xI_sa hI (show tb_G 202 = some (.inr (0, 800, 1, [.inl (-2147483648, 2147483647)])) from rfl) a1 (j := 2 * s.toInt.toNat) (v := .inl (.inl st)) (el_put (by decide) ⟨.inl (-2147483648, 2147483647), by rw [Nat.mod_one]; rfl, st, rfl, Int32.le_toInt st, Int.le_of_lt_add_one (Int32.toInt_lt st)⟩)
  have F1 := fr_202 u a1 (j := 2 * s.toInt.toNat) (v := .inl (.inl st))
  have N1 := nt_set_self (c := Sum.inl (0, 800, d, (2 * s.toInt.toNat, Sum.inl (Sum.inl st)) :: us)) a1
  have M1 : ea_nt (C.set 202 (.inl (0, 800, d, (2 * s.toInt.toNat, .inl (.inl st)) :: us))) 190 = some (.inr (12, ms)) := by rw [nt_set_ne (by decide)]; exact m1
  refine ok_p rfl rfl rfl ?_
  refine ok_gf rfl rfl M1 r14 ?_
  refine ok_p rfl rfl rfl ?_
  refine ok_p rfl rfl rfl ?_
  refine ok_gf rfl rfl M1 f2 ?_
  refine ok_p rfl rfl rfl ?_
  refine ok_p rfl rfl rfl ?_
  refine ok_p rfl rfl rfl ?_
  refine ok_p rfl rfl rfl ?_
  refine ok_as rfl N1 (ix_of e3 (by omega)) ?_
  have I2 := xI_sa I1 (show tb_G 202 = some (.inr (0, 800, 1, [.inl (-2147483648, 2147483647)])) from rfl) N1 (j := 2 * s.toInt.toNat + 1) (v := .inl (.inl n)) (el_put (by decide) ⟨.inl (-2147483648, 2147483647), by rw [Nat.mod_one]; rfl, n, rfl, Int32.le_toInt n, Int.le_of_lt_add_one (Int32.toInt_lt n)⟩)
  have F2 := fr_c_same F1 (fr_202 u N1 (j := 2 * s.toInt.toNat + 1) (v := .inl (.inl n)))
  have V2 : rf_v ((C.set 202 (.inl (0, 800, d, (2 * s.toInt.toNat, .inl (.inl st)) :: us))).set 202 (.inl (0, 800, d, (2 * s.toInt.toNat + 1, .inl (.inl n)) :: (2 * s.toInt.toNat, .inl (.inl st)) :: us))) 202 (2 * s.toInt.toNat) = st.toInt := by
    rw [rf_v_set N1 (fun hc => by have := hc.2; omega)]
    exact rf_v_self a1 (by omega)
  have W2 : ∀ j, j < 2 * s.toInt.toNat → rf_v ((C.set 202 (.inl (0, 800, d, (2 * s.toInt.toNat, .inl (.inl st)) :: us))).set 202 (.inl (0, 800, d, (2 * s.toInt.toNat + 1, .inl (.inl n)) :: (2 * s.toInt.toNat, .inl (.inl st)) :: us))) 202 j = rf_v C 202 j := by
    intro j hj
    rw [rf_v_set N1 (fun hc => by have := hc.2; omega), rf_v_set a1 (fun hc => by have := hc.2; omega)]
  have M2 : ea_nt ((C.set 202 (.inl (0, 800, d, (2 * s.toInt.toNat, .inl (.inl st)) :: us))).set 202 (.inl (0, 800, d, (2 * s.toInt.toNat + 1, .inl (.inl n)) :: (2 * s.toInt.toNat, .inl (.inl st)) :: us))) 190 = some (.inr (12, ms)) := by rw [nt_set_ne (by decide)]; exact M1
  revert I2 F2 V2 W2 M2
  generalize (C.set 202 (.inl (0, 800, d, (2 * s.toInt.toNat, .inl (.inl st)) :: us))).set 202 (.inl (0, 800, d, (2 * s.toInt.toNat + 1, .inl (.inl n)) :: (2 * s.toInt.toNat, .inl (.inl st)) :: us)) = C2
  intro I2 F2 V2 W2 M2
  refine ok_p rfl rfl rfl ?_
  refine ok_p rfl rfl rfl ?_
  refine ok_gf rfl rfl M2 f2 ?_
  refine ok_p rfl rfl rfl ?_
  refine ok_p rfl rfl rfl ?_
  refine ok_pf rfl rfl M2 rfl (by rw [hlen]; rfl) ?_
  refine ok_r rfl rfl rfl rfl rfl ?_
  have but : cv_but (190, 25, 25, 1, 0) C2 (C2.set 190 (.inr (12, ms.set 25 (.inl (.inl (s + Int32.ofInt (Int.ofNat 1))))))) := cv_fld M2 ⟨rfl, Int.le_refl _, Int.le_refl _, Int.emod_one _⟩
  have cvo : ∀ a k, ¬ (a = 190 ∧ k = 25) → cv (C2.set 190 (.inr (12, ms.set 25 (.inl (.inl (s + Int32.ofInt (Int.ofNat 1))))))) a k = cv C2 a k := by
    intro a k hn
    refine but a k ?_
    rintro ⟨h1, w1, w2, -⟩
    dsimp only at h1 w1 w2
    exact hn ⟨h1, by omega⟩
  have cv2 : ∀ k, cv C2 190 k = cv C 190 k := by
    intro k
    unfold cv
    rw [M2, m1]
  have cself : cv (C2.set 190 (.inr (12, ms.set 25 (.inl (.inl (s + Int32.ofInt (Int.ofNat 1))))))) 190 25 = some (.inl (.inl (s + Int32.ofInt (Int.ofNat 1)))) := by
    unfold cv
    rw [nt_set_self M2]
    exact nt_set_self f2
  refine h (C2.set 190 (.inr (12, ms.set 25 (.inl (.inl (s + Int32.ofInt (Int.ofNat 1))))))) (xI_sf I2 (show tb_G 190 = some (.inl (12, _)) from rfl) M2 (k := 25) (f := .inl (0, 400)) rfl ⟨_, rfl, by show (0 : Int) ≤ (s + Int32.ofInt (Int.ofNat 1)).toInt; omega, by show (s + Int32.ofInt (Int.ofNat 1)).toInt ≤ (400 : Int); omega⟩) (fr_c_same F2 (fr_f u M2 (by decide) (by decide))) (fun k hk => ?_) (fun k hk => ?_) ?_ cself ?_ (fun j hj => ?_)
  · exact rf_v_eq ((cvo 190 k (fun hc => hk hc.2)).trans (cv2 k))
  · exact (cvo 190 k (fun hc => hk hc.2)).trans (cv2 k)
  · unfold rf_v
    rw [cself]
    exact e4
  · rw [rf_v_eq (cvo 202 _ (fun hc => absurd hc.1 (by decide)))]
    exact V2
  · rw [rf_v_eq (cvo 202 j (fun hc => absurd hc.1 (by decide)))]
    exact W2 j hj

theorem tr_h31 (X : Option (List AI)) (u : Nat) : cx_ok (tb_P X) tb_G (rf_G u) trk_31 := by
  intro vs C EV hvs hI hpre hrel
  obtain ⟨v0, t0, rfl, h0, hvs1⟩ := ea_rl_cons hvs
  obtain ⟨v1, t1, rfl, ⟨st, rfl, x1, x2⟩, hvs2⟩ := ea_rl_cons hvs1
  obtain ⟨v2, t2, rfl, ⟨n, rfl, -, -⟩, hvs3⟩ := ea_rl_cons hvs2
  obtain rfl := ea_rl_nil hvs3
  obtain rfl : v0 = .inr (.inl (some 190)) := h0
  obtain ⟨p, E1, rfl, ⟨pP, p1, p2⟩, hp1⟩ := ea_rl_cons hpre
  obtain ⟨sz, E2, rfl, ⟨pS, s1, s2⟩, hp2⟩ := ea_rl_cons hp1
  obtain ⟨dd, E3, rfl, ⟨pD, d1, d2⟩, hp3⟩ := ea_rl_cons hp2
  obtain ⟨si, E4, rfl, ⟨pI, i1, i2⟩, hp4⟩ := ea_rl_cons hp3
  obtain ⟨ga, E5, rfl, ⟨pG, g1, g2⟩, hp5⟩ := ea_rl_cons hp4
  obtain rfl := ea_rl_nil hp5
  dsimp only at x1 x2 p1 p2 s1 s2 d1 d2 i1 i2 g1 g2
  have vP : rf_v C 190 19 = p := rf_v_pv (a := 190) (by decide) pP
  have vS : rf_v C 190 25 = sz := rf_v_pv (a := 190) (by decide) pS
  have vI : rf_v C 190 19 - rf_v C 190 25 = si := pI
  have vG : rf_ga u C = ga := pG
  obtain ⟨ms, m1, m2, m3⟩ := hI_f hI (show tb_G 190 = some (.inl (12, _)) from rfl)
  obtain ⟨s, hs, hsz⟩ : ∃ x : Int32, cv C 190 25 = some (.inl (.inl x)) ∧ x.toInt = sz := by
    have h := pS
    unfold pv at h
    rw [if_neg (by decide)] at h
    exact h
  have hfd : fd_g C 190 25 s := by
    unfold cv at hs
    rw [m1] at hs
    exact ⟨12, ms, m1, hs⟩
  have hgad : (u : Int) ≤ sz ∧ ∃ d : Nat, rf_d (rf_v C 202) u (sz.toNat - u) 0 = some d ∧ ga = (d : Int) := by
    unfold rf_ga at vG
    rw [vS] at vG
    split at vG
    · rename_i hc
      refine ⟨hc.1, ?_⟩
      split at vG
      · rename_i d hd
        exact ⟨d, hd, vG.symm⟩
      · omega
    · omega
  obtain ⟨hu, d, hd, hga⟩ := hgad
  refine emits_run X u hI hfd (by omega) (by omega) (fun C' I' F' vo co vs' cs' vt vl => ?_)
  have hpt : pv (rf_G u) C' 190 19 p := by
    have h := pP
    unfold pv at h ⊢
    rw [if_neg (by decide)] at h ⊢
    rw [co 19 (by decide)]
    exact h
  have hdp : pv (rf_G u) C' 190 22 dd := by
    have h := pD
    unfold pv at h ⊢
    rw [if_neg (by decide)] at h ⊢
    rw [co 22 (by decide)]
    exact h
  have hst : pv (rf_G u) C' 190 25 (sz + 1) := by
    unfold pv
    rw [if_neg (by decide)]
    refine ⟨_, cs', ?_⟩
    rw [i32_add (by rw [i32_1]; omega) (by rw [i32_1]; omega), i32_1, hsz]
  have hsi : pv (rf_G u) C' 1005 0 (si - 1) := by
    show rf_v C' 190 19 - rf_v C' 190 25 = si - 1
    rw [vo 19 (by decide), vs']
    omega
  have hsn : s.toInt.toNat = sz.toNat := by rw [hsz]
  rw [hsn] at vt vl
  have hlow : rf_d (rf_v C' 202) u (sz.toNat - u) 0 = some d := by
    rw [rf_d_low (f := rf_v C' 202) (g := rf_v C 202) _ _ _ (fun j hj => vl j (by omega))]
    exact hd
  have hsnoc := rf_d_snoc (f := rf_v C' 202) (sz.toNat - u) u 0 d hlow
  rw [show u + (sz.toNat - u) = sz.toNat by omega, vt] at hsnoc
  have hdl := rf_d_le (f := rf_v C' 202) (sz.toNat - u) u 0 d hlow
  have hst2 : rf_st st.toInt d = some (d + 1) := by
    unfold rf_st
    rw [if_pos (by omega)]
  rw [hst2] at hsnoc
  have hgan : pv (rf_G u) C' 1004 0 (ga + (1)) := by
    show rf_ga u C' = ga + (1)
    unfold rf_ga
    rw [vs', if_pos (by omega), show (s.toInt + 1).toNat - u = sz.toNat - u + 1 by omega, hsnoc]
    dsimp only
    omega
  refine ⟨none, rfl, I', F', rfl, ⟨[p, sz + 1, dd, si - 1, ga + (1)], ⟨⟨hpt, p1, p2⟩, ⟨hst, by dsimp only; omega, by dsimp only; omega⟩, ⟨hdp, d1, d2⟩, ⟨hsi, by dsimp only; omega, by dsimp only; omega⟩, ⟨hgan, by dsimp only; omega, by dsimp only; omega⟩, trivial⟩⟩, fun q hq => ?_⟩
  rcases List.mem_cons.mp hq with rfl | hq
  · exact ⟨p, p, hpt, rfl, by dsimp only; omega⟩
  rcases List.mem_cons.mp hq with rfl | hq
  · exact ⟨p, p, rfl, hpt, by dsimp only; omega⟩
  rcases List.mem_cons.mp hq with rfl | hq
  · exact ⟨dd, dd, hdp, rfl, by dsimp only; omega⟩
  rcases List.mem_cons.mp hq with rfl | hq
  · exact ⟨dd, dd, rfl, hdp, by dsimp only; omega⟩
  rcases List.mem_cons.mp hq with rfl | hq
  · exact ⟨si - 1, si, hsi, rfl, by dsimp only; omega⟩
  rcases List.mem_cons.mp hq with rfl | hq
  · exact ⟨si, si - 1, rfl, hsi, by dsimp only; omega⟩
  rcases List.mem_cons.mp hq with rfl | hq
  · exact ⟨ga + (1), ga, hgan, rfl, by dsimp only; omega⟩
  rcases List.mem_cons.mp hq with rfl | hq
  · exact ⟨ga, ga + (1), rfl, hgan, by dsimp only; omega⟩
  · exact nomatch hq

theorem tr_h32 (X : Option (List AI)) (u : Nat) : cx_ok (tb_P X) tb_G (rf_G u) trk_32 := by
  intro vs C EV hvs hI hpre hrel
  obtain ⟨v0, t0, rfl, h0, hvs1⟩ := ea_rl_cons hvs
  obtain ⟨v1, t1, rfl, ⟨st, rfl, x1, x2⟩, hvs2⟩ := ea_rl_cons hvs1
  obtain ⟨v2, t2, rfl, ⟨n, rfl, -, -⟩, hvs3⟩ := ea_rl_cons hvs2
  obtain rfl := ea_rl_nil hvs3
  obtain rfl : v0 = .inr (.inl (some 190)) := h0
  obtain ⟨p, E1, rfl, ⟨pP, p1, p2⟩, hp1⟩ := ea_rl_cons hpre
  obtain ⟨sz, E2, rfl, ⟨pS, s1, s2⟩, hp2⟩ := ea_rl_cons hp1
  obtain ⟨dd, E3, rfl, ⟨pD, d1, d2⟩, hp3⟩ := ea_rl_cons hp2
  obtain ⟨si, E4, rfl, ⟨pI, i1, i2⟩, hp4⟩ := ea_rl_cons hp3
  obtain ⟨ga, E5, rfl, ⟨pG, g1, g2⟩, hp5⟩ := ea_rl_cons hp4
  obtain rfl := ea_rl_nil hp5
  dsimp only at x1 x2 p1 p2 s1 s2 d1 d2 i1 i2 g1 g2
  have vP : rf_v C 190 19 = p := rf_v_pv (a := 190) (by decide) pP
  have vS : rf_v C 190 25 = sz := rf_v_pv (a := 190) (by decide) pS
  have vI : rf_v C 190 19 - rf_v C 190 25 = si := pI
  have vG : rf_ga u C = ga := pG
  obtain ⟨ms, m1, m2, m3⟩ := hI_f hI (show tb_G 190 = some (.inl (12, _)) from rfl)
  obtain ⟨s, hs, hsz⟩ : ∃ x : Int32, cv C 190 25 = some (.inl (.inl x)) ∧ x.toInt = sz := by
    have h := pS
    unfold pv at h
    rw [if_neg (by decide)] at h
    exact h
  have hfd : fd_g C 190 25 s := by
    unfold cv at hs
    rw [m1] at hs
    exact ⟨12, ms, m1, hs⟩
  have hgad : (u : Int) ≤ sz ∧ ∃ d : Nat, rf_d (rf_v C 202) u (sz.toNat - u) 0 = some d ∧ ga = (d : Int) := by
    unfold rf_ga at vG
    rw [vS] at vG
    split at vG
    · rename_i hc
      refine ⟨hc.1, ?_⟩
      split at vG
      · rename_i d hd
        exact ⟨d, hd, vG.symm⟩
      · omega
    · omega
  obtain ⟨hu, d, hd, hga⟩ := hgad
  refine emits_run X u hI hfd (by omega) (by omega) (fun C' I' F' vo co vs' cs' vt vl => ?_)
  have hpt : pv (rf_G u) C' 190 19 p := by
    have h := pP
    unfold pv at h ⊢
    rw [if_neg (by decide)] at h ⊢
    rw [co 19 (by decide)]
    exact h
  have hdp : pv (rf_G u) C' 190 22 dd := by
    have h := pD
    unfold pv at h ⊢
    rw [if_neg (by decide)] at h ⊢
    rw [co 22 (by decide)]
    exact h
  have hst : pv (rf_G u) C' 190 25 (sz + 1) := by
    unfold pv
    rw [if_neg (by decide)]
    refine ⟨_, cs', ?_⟩
    rw [i32_add (by rw [i32_1]; omega) (by rw [i32_1]; omega), i32_1, hsz]
  have hsi : pv (rf_G u) C' 1005 0 (si - 1) := by
    show rf_v C' 190 19 - rf_v C' 190 25 = si - 1
    rw [vo 19 (by decide), vs']
    omega
  have hsn : s.toInt.toNat = sz.toNat := by rw [hsz]
  rw [hsn] at vt vl
  have hlow : rf_d (rf_v C' 202) u (sz.toNat - u) 0 = some d := by
    rw [rf_d_low (f := rf_v C' 202) (g := rf_v C 202) _ _ _ (fun j hj => vl j (by omega))]
    exact hd
  have hsnoc := rf_d_snoc (f := rf_v C' 202) (sz.toNat - u) u 0 d hlow
  rw [show u + (sz.toNat - u) = sz.toNat by omega, vt] at hsnoc
  have hdl := rf_d_le (f := rf_v C' 202) (sz.toNat - u) u 0 d hlow
  have hst2 : rf_st st.toInt d = some (d) := by
    unfold rf_st
    rw [if_neg (by omega), if_pos (by omega), if_pos (by omega)]
  rw [hst2] at hsnoc
  have hgan : pv (rf_G u) C' 1004 0 (ga + (0)) := by
    show rf_ga u C' = ga + (0)
    unfold rf_ga
    rw [vs', if_pos (by omega), show (s.toInt + 1).toNat - u = sz.toNat - u + 1 by omega, hsnoc]
    dsimp only
    omega
  refine ⟨none, rfl, I', F', rfl, ⟨[p, sz + 1, dd, si - 1, ga + (0)], ⟨⟨hpt, p1, p2⟩, ⟨hst, by dsimp only; omega, by dsimp only; omega⟩, ⟨hdp, d1, d2⟩, ⟨hsi, by dsimp only; omega, by dsimp only; omega⟩, ⟨hgan, by dsimp only; omega, by dsimp only; omega⟩, trivial⟩⟩, fun q hq => ?_⟩
  rcases List.mem_cons.mp hq with rfl | hq
  · exact ⟨p, p, hpt, rfl, by dsimp only; omega⟩
  rcases List.mem_cons.mp hq with rfl | hq
  · exact ⟨p, p, rfl, hpt, by dsimp only; omega⟩
  rcases List.mem_cons.mp hq with rfl | hq
  · exact ⟨dd, dd, hdp, rfl, by dsimp only; omega⟩
  rcases List.mem_cons.mp hq with rfl | hq
  · exact ⟨dd, dd, rfl, hdp, by dsimp only; omega⟩
  rcases List.mem_cons.mp hq with rfl | hq
  · exact ⟨si - 1, si, hsi, rfl, by dsimp only; omega⟩
  rcases List.mem_cons.mp hq with rfl | hq
  · exact ⟨si, si - 1, rfl, hsi, by dsimp only; omega⟩
  rcases List.mem_cons.mp hq with rfl | hq
  · exact ⟨ga + (0), ga, hgan, rfl, by dsimp only; omega⟩
  rcases List.mem_cons.mp hq with rfl | hq
  · exact ⟨ga, ga + (0), rfl, hgan, by dsimp only; omega⟩
  · exact nomatch hq

theorem tr_h33 (X : Option (List AI)) (u : Nat) : cx_ok (tb_P X) tb_G (rf_G u) trk_33 := by
  intro vs C EV hvs hI hpre hrel
  obtain ⟨v0, t0, rfl, h0, hvs1⟩ := ea_rl_cons hvs
  obtain ⟨v1, t1, rfl, ⟨st, rfl, x1, x2⟩, hvs2⟩ := ea_rl_cons hvs1
  obtain ⟨v2, t2, rfl, ⟨n, rfl, -, -⟩, hvs3⟩ := ea_rl_cons hvs2
  obtain rfl := ea_rl_nil hvs3
  obtain rfl : v0 = .inr (.inl (some 190)) := h0
  obtain ⟨p, E1, rfl, ⟨pP, p1, p2⟩, hp1⟩ := ea_rl_cons hpre
  obtain ⟨sz, E2, rfl, ⟨pS, s1, s2⟩, hp2⟩ := ea_rl_cons hp1
  obtain ⟨dd, E3, rfl, ⟨pD, d1, d2⟩, hp3⟩ := ea_rl_cons hp2
  obtain ⟨si, E4, rfl, ⟨pI, i1, i2⟩, hp4⟩ := ea_rl_cons hp3
  obtain ⟨ga, E5, rfl, ⟨pG, g1, g2⟩, hp5⟩ := ea_rl_cons hp4
  obtain rfl := ea_rl_nil hp5
  dsimp only at x1 x2 p1 p2 s1 s2 d1 d2 i1 i2 g1 g2
  have vP : rf_v C 190 19 = p := rf_v_pv (a := 190) (by decide) pP
  have vS : rf_v C 190 25 = sz := rf_v_pv (a := 190) (by decide) pS
  have vI : rf_v C 190 19 - rf_v C 190 25 = si := pI
  have vG : rf_ga u C = ga := pG
  obtain ⟨ms, m1, m2, m3⟩ := hI_f hI (show tb_G 190 = some (.inl (12, _)) from rfl)
  obtain ⟨s, hs, hsz⟩ : ∃ x : Int32, cv C 190 25 = some (.inl (.inl x)) ∧ x.toInt = sz := by
    have h := pS
    unfold pv at h
    rw [if_neg (by decide)] at h
    exact h
  have hfd : fd_g C 190 25 s := by
    unfold cv at hs
    rw [m1] at hs
    exact ⟨12, ms, m1, hs⟩
  have hgad : (u : Int) ≤ sz ∧ ∃ d : Nat, rf_d (rf_v C 202) u (sz.toNat - u) 0 = some d ∧ ga = (d : Int) := by
    unfold rf_ga at vG
    rw [vS] at vG
    split at vG
    · rename_i hc
      refine ⟨hc.1, ?_⟩
      split at vG
      · rename_i d hd
        exact ⟨d, hd, vG.symm⟩
      · omega
    · omega
  obtain ⟨hu, d, hd, hga⟩ := hgad
  refine emits_run X u hI hfd (by omega) (by omega) (fun C' I' F' vo co vs' cs' vt vl => ?_)
  have hpt : pv (rf_G u) C' 190 19 p := by
    have h := pP
    unfold pv at h ⊢
    rw [if_neg (by decide)] at h ⊢
    rw [co 19 (by decide)]
    exact h
  have hdp : pv (rf_G u) C' 190 22 dd := by
    have h := pD
    unfold pv at h ⊢
    rw [if_neg (by decide)] at h ⊢
    rw [co 22 (by decide)]
    exact h
  have hst : pv (rf_G u) C' 190 25 (sz + 1) := by
    unfold pv
    rw [if_neg (by decide)]
    refine ⟨_, cs', ?_⟩
    rw [i32_add (by rw [i32_1]; omega) (by rw [i32_1]; omega), i32_1, hsz]
  have hsi : pv (rf_G u) C' 1005 0 (si - 1) := by
    show rf_v C' 190 19 - rf_v C' 190 25 = si - 1
    rw [vo 19 (by decide), vs']
    omega
  have hsn : s.toInt.toNat = sz.toNat := by rw [hsz]
  rw [hsn] at vt vl
  have hlow : rf_d (rf_v C' 202) u (sz.toNat - u) 0 = some d := by
    rw [rf_d_low (f := rf_v C' 202) (g := rf_v C 202) _ _ _ (fun j hj => vl j (by omega))]
    exact hd
  have hsnoc := rf_d_snoc (f := rf_v C' 202) (sz.toNat - u) u 0 d hlow
  rw [show u + (sz.toNat - u) = sz.toNat by omega, vt] at hsnoc
  have hdl := rf_d_le (f := rf_v C' 202) (sz.toNat - u) u 0 d hlow
  have hst2 : rf_st st.toInt d = some (d - 1) := by
    unfold rf_st
    rw [if_neg (by omega), if_neg (by omega), if_pos (by omega)]
  rw [hst2] at hsnoc
  have hgan : pv (rf_G u) C' 1004 0 (ga + (-1)) := by
    show rf_ga u C' = ga + (-1)
    unfold rf_ga
    rw [vs', if_pos (by omega), show (s.toInt + 1).toNat - u = sz.toNat - u + 1 by omega, hsnoc]
    dsimp only
    omega
  refine ⟨none, rfl, I', F', rfl, ⟨[p, sz + 1, dd, si - 1, ga + (-1)], ⟨⟨hpt, p1, p2⟩, ⟨hst, by dsimp only; omega, by dsimp only; omega⟩, ⟨hdp, d1, d2⟩, ⟨hsi, by dsimp only; omega, by dsimp only; omega⟩, ⟨hgan, by dsimp only; omega, by dsimp only; omega⟩, trivial⟩⟩, fun q hq => ?_⟩
  rcases List.mem_cons.mp hq with rfl | hq
  · exact ⟨p, p, hpt, rfl, by dsimp only; omega⟩
  rcases List.mem_cons.mp hq with rfl | hq
  · exact ⟨p, p, rfl, hpt, by dsimp only; omega⟩
  rcases List.mem_cons.mp hq with rfl | hq
  · exact ⟨dd, dd, hdp, rfl, by dsimp only; omega⟩
  rcases List.mem_cons.mp hq with rfl | hq
  · exact ⟨dd, dd, rfl, hdp, by dsimp only; omega⟩
  rcases List.mem_cons.mp hq with rfl | hq
  · exact ⟨si - 1, si, hsi, rfl, by dsimp only; omega⟩
  rcases List.mem_cons.mp hq with rfl | hq
  · exact ⟨si, si - 1, rfl, hsi, by dsimp only; omega⟩
  rcases List.mem_cons.mp hq with rfl | hq
  · exact ⟨ga + (-1), ga, hgan, rfl, by dsimp only; omega⟩
  rcases List.mem_cons.mp hq with rfl | hq
  · exact ⟨ga, ga + (-1), rfl, hgan, by dsimp only; omega⟩
  · exact nomatch hq

theorem tr_h34 (X : Option (List AI)) (u : Nat) : cx_ok (tb_P X) tb_G (rf_G u) trk_34 := by
  intro vs C EV hvs hI hpre hrel
  obtain ⟨v0, t0, rfl, h0, hvs1⟩ := ea_rl_cons hvs
  obtain ⟨v1, t1, rfl, ⟨st, rfl, x1, x2⟩, hvs2⟩ := ea_rl_cons hvs1
  obtain ⟨v2, t2, rfl, ⟨n, rfl, -, -⟩, hvs3⟩ := ea_rl_cons hvs2
  obtain rfl := ea_rl_nil hvs3
  obtain rfl : v0 = .inr (.inl (some 190)) := h0
  obtain ⟨p, E1, rfl, ⟨pP, p1, p2⟩, hp1⟩ := ea_rl_cons hpre
  obtain ⟨sz, E2, rfl, ⟨pS, s1, s2⟩, hp2⟩ := ea_rl_cons hp1
  obtain ⟨dd, E3, rfl, ⟨pD, d1, d2⟩, hp3⟩ := ea_rl_cons hp2
  obtain ⟨si, E4, rfl, ⟨pI, i1, i2⟩, hp4⟩ := ea_rl_cons hp3
  obtain ⟨ga, E5, rfl, ⟨pG, g1, g2⟩, hp5⟩ := ea_rl_cons hp4
  obtain rfl := ea_rl_nil hp5
  dsimp only at x1 x2 p1 p2 s1 s2 d1 d2 i1 i2 g1 g2
  have vP : rf_v C 190 19 = p := rf_v_pv (a := 190) (by decide) pP
  have vS : rf_v C 190 25 = sz := rf_v_pv (a := 190) (by decide) pS
  have vI : rf_v C 190 19 - rf_v C 190 25 = si := pI
  have vG : rf_ga u C = ga := pG
  obtain ⟨ms, m1, m2, m3⟩ := hI_f hI (show tb_G 190 = some (.inl (12, _)) from rfl)
  obtain ⟨s, hs, hsz⟩ : ∃ x : Int32, cv C 190 25 = some (.inl (.inl x)) ∧ x.toInt = sz := by
    have h := pS
    unfold pv at h
    rw [if_neg (by decide)] at h
    exact h
  have hfd : fd_g C 190 25 s := by
    unfold cv at hs
    rw [m1] at hs
    exact ⟨12, ms, m1, hs⟩
  have hgad : (u : Int) ≤ sz ∧ ∃ d : Nat, rf_d (rf_v C 202) u (sz.toNat - u) 0 = some d ∧ ga = (d : Int) := by
    unfold rf_ga at vG
    rw [vS] at vG
    split at vG
    · rename_i hc
      refine ⟨hc.1, ?_⟩
      split at vG
      · rename_i d hd
        exact ⟨d, hd, vG.symm⟩
      · omega
    · omega
  obtain ⟨hu, d, hd, hga⟩ := hgad
  refine emits_run X u hI hfd (by omega) (by omega) (fun C' I' F' vo co vs' cs' vt vl => ?_)
  have hpt : pv (rf_G u) C' 190 19 p := by
    have h := pP
    unfold pv at h ⊢
    rw [if_neg (by decide)] at h ⊢
    rw [co 19 (by decide)]
    exact h
  have hdp : pv (rf_G u) C' 190 22 dd := by
    have h := pD
    unfold pv at h ⊢
    rw [if_neg (by decide)] at h ⊢
    rw [co 22 (by decide)]
    exact h
  have hst : pv (rf_G u) C' 190 25 (sz + 1) := by
    unfold pv
    rw [if_neg (by decide)]
    refine ⟨_, cs', ?_⟩
    rw [i32_add (by rw [i32_1]; omega) (by rw [i32_1]; omega), i32_1, hsz]
  have hsi : pv (rf_G u) C' 1005 0 (si - 1) := by
    show rf_v C' 190 19 - rf_v C' 190 25 = si - 1
    rw [vo 19 (by decide), vs']
    omega
  have hsn : s.toInt.toNat = sz.toNat := by rw [hsz]
  rw [hsn] at vt vl
  have hlow : rf_d (rf_v C' 202) u (sz.toNat - u) 0 = some d := by
    rw [rf_d_low (f := rf_v C' 202) (g := rf_v C 202) _ _ _ (fun j hj => vl j (by omega))]
    exact hd
  have hsnoc := rf_d_snoc (f := rf_v C' 202) (sz.toNat - u) u 0 d hlow
  rw [show u + (sz.toNat - u) = sz.toNat by omega, vt] at hsnoc
  have hdl := rf_d_le (f := rf_v C' 202) (sz.toNat - u) u 0 d hlow
  have hst2 : rf_st st.toInt d = some (d - 1) := by
    unfold rf_st
    rw [if_neg (by omega), if_neg (by omega), if_pos (by omega)]
  rw [hst2] at hsnoc
  have hgan : pv (rf_G u) C' 1004 0 (ga + (-1)) := by
    show rf_ga u C' = ga + (-1)
    unfold rf_ga
    rw [vs', if_pos (by omega), show (s.toInt + 1).toNat - u = sz.toNat - u + 1 by omega, hsnoc]
    dsimp only
    omega
  refine ⟨none, rfl, I', F', rfl, ⟨[p, sz + 1, dd, si - 1, ga + (-1)], ⟨⟨hpt, p1, p2⟩, ⟨hst, by dsimp only; omega, by dsimp only; omega⟩, ⟨hdp, d1, d2⟩, ⟨hsi, by dsimp only; omega, by dsimp only; omega⟩, ⟨hgan, by dsimp only; omega, by dsimp only; omega⟩, trivial⟩⟩, fun q hq => ?_⟩
  rcases List.mem_cons.mp hq with rfl | hq
  · exact ⟨p, p, hpt, rfl, by dsimp only; omega⟩
  rcases List.mem_cons.mp hq with rfl | hq
  · exact ⟨p, p, rfl, hpt, by dsimp only; omega⟩
  rcases List.mem_cons.mp hq with rfl | hq
  · exact ⟨dd, dd, hdp, rfl, by dsimp only; omega⟩
  rcases List.mem_cons.mp hq with rfl | hq
  · exact ⟨dd, dd, rfl, hdp, by dsimp only; omega⟩
  rcases List.mem_cons.mp hq with rfl | hq
  · exact ⟨si - 1, si, hsi, rfl, by dsimp only; omega⟩
  rcases List.mem_cons.mp hq with rfl | hq
  · exact ⟨si, si - 1, rfl, hsi, by dsimp only; omega⟩
  rcases List.mem_cons.mp hq with rfl | hq
  · exact ⟨ga + (-1), ga, hgan, rfl, by dsimp only; omega⟩
  rcases List.mem_cons.mp hq with rfl | hq
  · exact ⟨ga, ga + (-1), rfl, hgan, by dsimp only; omega⟩
  · exact nomatch hq
