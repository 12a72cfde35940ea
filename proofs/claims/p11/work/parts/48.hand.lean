/-! CONTRACTS BY HAND: rows for it -/
theorem hI_f {G : Nat → Option CT} {C : List AC} (hI : xI G C) {a ci : Nat} {fs : List FT} (hG : G a = some (.inl (ci, fs))) : ∃ vs, ea_nt C a = some (.inr (ci, vs)) ∧ vs.length = fs.length ∧ ∀ k f, ea_nt fs k = some f → ∃ v, ea_nt vs k = some v ∧ ft_g f v := hI.1 a ci fs hG
theorem hI_a {G : Nat → Option CT} {C : List AC} (hI : xI G C) {a kd n p : Nat} {fs : List FT} (hG : G a = some (.inr (kd, n, p, fs))) : ∃ d us, ea_nt C a = some (.inl (kd, n, d, us)) ∧ ∀ j, j < n → el_g kd p fs j (ea_al d us j) := by
  obtain ⟨d, us, g1, g2⟩ := hI.2.1 a kd n p fs hG
  exact ⟨d, us, g1, fun j hj => (g2 j hj).elim id (fun ⟨q, q1, _⟩ => nomatch q1)⟩
/-- a store into an array keeps the kinds -/
theorem xI_sa {G : Nat → Option CT} {C : List AC} (hI : xI G C) {a kd n p : Nat} {fs : List FT} {d : AV} {us : List (Nat × AV)} (hG : G a = some (.inr (kd, n, p, fs))) (hC : ea_nt C a = some (.inl (kd, n, d, us))) {j : Nat} {v : AV} (hv : el_g kd p fs j v) : xI G (C.set a (.inl (kd, n, d, (j, v) :: us))) := by
  refine xh_seta (e' := (1, [], [], [], [])) hI hG hC (fun i hi => Or.inl ?_) (fun q hq => nomatch hq) rfl (fun q hq => nomatch hq)
  rw [ea_al_at]
  split
  · rename_i h
    rw [h]
    exact hv
  · obtain ⟨d', us', g1, g2⟩ := hI_a hI hG
    rw [hC] at g1
    cases g1
    exact g2 i hi
/-- a store into a field keeps the kinds -/
theorem xI_sf {G : Nat → Option CT} {C : List AC} (hI : xI G C) {a ci : Nat} {fs : List FT} {vs : List AV} (hG : G a = some (.inl (ci, fs))) (hC : ea_nt C a = some (.inr (ci, vs))) {k : Nat} {f : FT} (hf : ea_nt fs k = some f) {v : AV} (hv : ft_g f v) : xI G (C.set a (.inr (ci, vs.set k v))) := by
  obtain ⟨vs', g1, g2, g3⟩ := hI_f hI hG
  rw [hC] at g1
  cases g1
  refine ⟨fun b cj fs' hG' => ?_, fun b kd n p fs' hG' => ?_, fun q hq => nomatch hq⟩
  · by_cases hab : a = b
    · subst hab
      rw [hG] at hG'
      cases hG'
      refine ⟨_, nt_set_self hC, by rw [nt_len_set]; exact g2, fun k' f' hf' => ?_⟩
      by_cases hk : k = k'
      · subst hk
        rw [hf] at hf'
        cases hf'
        obtain ⟨w, hw, -⟩ := g3 k f hf
        exact ⟨v, nt_set_self hw, hv⟩
      · obtain ⟨v', o1, o2⟩ := g3 k' f' hf'
        exact ⟨v', by rw [nt_set_ne hk]; exact o1, o2⟩
    · obtain ⟨vs', n1, n2⟩ := hI.1 b cj fs' hG'
      exact ⟨vs', by rw [nt_set_ne hab]; exact n1, n2⟩
  · have hab : a ≠ b := by rintro rfl; rw [hG] at hG'; cases hG'
    obtain ⟨d, us, n1, n2⟩ := hI.2.1 b kd n p fs' hG'
    exact ⟨d, us, by rw [nt_set_ne hab]; exact n1, n2⟩
section OKS
variable {P : EP} {m pc : Nat} {L : List (Nat × AV)} {S : List AV} {C : List AC} {K : Option AV ⊕ Nat → List AC → Prop}
theorem ok_gf {x ci k a : Nat} {vs : List AV} {v : AV} (hc : ep_cod P m pc = some (.getfield x, 3)) (hr : ea_rd (ep_pl P m x) = some (ci, k)) (hC : ea_nt C a = some (.inr (ci, vs))) (hv : ea_nt vs k = some v) (h : ok_ P m (pc + 3) L (v :: S) C K) : ok_ P m pc L (.inr (.inl (some a)) :: S) C K :=
  ok_h (C' := none) hc rfl rfl (by simp only [ea_h, hr, hC, Nat.beq_refl, cond_true, hv]) h
theorem ok_pf {x ci k a : Nat} {vs : List AV} {v : AV} (hc : ep_cod P m pc = some (.putfield x, 3)) (hr : ea_wr (ep_ini P m) (ep_pl P m x) = some (ci, k)) (hC : ea_nt C a = some (.inr (ci, vs))) (hf : ea_fit (ep_fty P ci k) v = true) (hk : Nat.blt k vs.length = true) (h : ok_ P m (pc + 3) L S (C.set a (.inr (ci, vs.set k v))) K) : ok_ P m pc L (v :: .inr (.inl (some a)) :: S) C K :=
  ok_h (C' := some _) hc rfl rfl (by simp only [ea_h, hr, hC, Nat.beq_refl, hf, hk, Bool.and_self, cond_true]) h
theorem ok_al {a n j : Nat} {d : AV} {us : List (Nat × AV)} {x y : Int32} (hc : ep_cod P m pc = some (.iaload, 1)) (hC : ea_nt C a = some (.inl (0, n, d, us))) (hi : ea_ix (.inl x) n = some j) (hv : ea_al d us j = .inl (.inl y)) (h : ok_ P m (pc + 1) L (.inl (.inl y) :: S) C K) : ok_ P m pc L (.inl (.inl x) :: .inr (.inl (some a)) :: S) C K :=
  ok_h (C' := none) hc rfl rfl (by simp only [ea_h, hC, hi, hv]) h
theorem ok_as {a n j : Nat} {d : AV} {us : List (Nat × AV)} {x y : Int32} (hc : ep_cod P m pc = some (.iastore, 1)) (hC : ea_nt C a = some (.inl (0, n, d, us))) (hi : ea_ix (.inl x) n = some j) (h : ok_ P m (pc + 1) L S (C.set a (.inl (0, n, d, (j, .inl (.inl y)) :: us))) K) : ok_ P m pc L (.inl (.inl y) :: .inl (.inl x) :: .inr (.inl (some a)) :: S) C K :=
  ok_h (C' := some _) hc rfl rfl (by simp only [ea_h, hC, hi]) h
end OKS
theorem i32_add {x y : Int32} (h1 : -2147483648 ≤ x.toInt + y.toInt) (h2 : x.toInt + y.toInt ≤ 2147483647) : (x + y).toInt = x.toInt + y.toInt := by
  rw [Int32.toInt_add, Int.bmod_eq_of_le (by omega) (by omega)]
theorem i32_mul {x y : Int32} (h1 : -2147483648 ≤ x.toInt * y.toInt) (h2 : x.toInt * y.toInt ≤ 2147483647) : (x * y).toInt = x.toInt * y.toInt := by
  rw [Int32.toInt_mul, Int.bmod_eq_of_le (by omega) (by omega)]
theorem ix_of {x : Int32} {n j : Nat} (h : x.toInt = (j : Int)) (hj : j < n) : ea_ix (.inl x) n = some j := by
  obtain ⟨h1, h2, h3⟩ := ix_ok (x := x) (n := n) (by omega) (by omega)
  have : x.toNatClampNeg = j := by omega
  rw [h1, this]
/-- the place of a citizen's row -/
theorem rf_ix {c w : Int32} (c1 : 0 ≤ c.toInt) (c2 : c.toInt ≤ 9) (w1 : 0 ≤ w.toInt) (w2 : w.toInt ≤ 12) : ((Int8.ofInt 18).toInt32 + (Int8.ofInt 13).toInt32 * c + w).toInt = ((18 + 13 * c.toInt.toNat + w.toInt.toNat : Nat) : Int) := by
  have e1 : ((Int8.ofInt 18).toInt32).toInt = 18 := by decide
  have e2 : ((Int8.ofInt 13).toInt32).toInt = 13 := by decide
  have m1 := i32_mul (x := (Int8.ofInt 13).toInt32) (y := c) (by rw [e2]; omega) (by rw [e2]; omega)
  rw [e2] at m1
  have m2 := i32_add (x := (Int8.ofInt 18).toInt32) (y := (Int8.ofInt 13).toInt32 * c) (by rw [e1, m1]; omega) (by rw [e1, m1]; omega)
  have m3 := i32_add (x := (Int8.ofInt 18).toInt32 + (Int8.ofInt 13).toInt32 * c) (y := w) (by rw [m2, e1, m1]; omega) (by rw [m2, e1, m1]; omega)
  rw [m3, m2, e1, m1]
  omega
theorem rf_way : ∀ c, c < 10 → ∀ w, w < 6 → ea_nt tg_row ((18 + 13 * c + (w + 7)) % 388) = some (.inl (0, 63)) := by decide +kernel
theorem rf_len : ∀ c, c < 10 → ea_nt tg_row ((23 + 13 * c) % 388) = some (.inl (0, 6)) := by decide +kernel
theorem po_n {GF : GH} {C : List AC} {EV : List Int} {v : Option AV} {c : CX} (h0 : c.2.2.2.1 = ([], [])) (h1 : c.2.2.2.2 = ([], [])) : po_g GF (cx_po c v) v EV C := by
  have : cx_po c v = ([], []) := by
    unfold cx_po
    split
    · split
      · exact h0
      · exact h1
    · exact h1
  rw [this]
  exact ⟨⟨[], trivial⟩, fun q hq => nomatch hq⟩
theorem rf_el {C : List AC} {a kd n : Nat} {d : AV} {us : List (Nat × AV)} {j : Nat} {y : Int32} (hC : ea_nt C a = some (.inl (kd, n, d, us))) (hj : j < n) (hy : ea_al d us j = .inl (.inl y)) : rf_v C a j = y.toInt := by
  have hb : Nat.blt j n = true := Nat.ble_eq_true_of_le hj
  unfold rf_v cv
  rw [hC]
  dsimp only
  rw [hb, hy]
  rfl
set_option maxRecDepth 20000 in
/-- of, as it runs -/
theorem of_run (X : Option (List AI)) {C : List AC} (hI : xI tb_G C) {c w : Int32} (c1 : 0 ≤ c.toInt) (c2 : c.toInt ≤ 9) (w1 : 0 ≤ w.toInt) (w2 : w.toInt ≤ 12) {K : Option AV ⊕ Nat → List AC → Prop} (h : ∀ (y : Int32) (f : FT), ea_nt tg_row ((18 + 13 * c.toInt.toNat + w.toInt.toNat) % 388) = some f → ft_g f (.inl (.inl y)) → rf_v C 191 (18 + 13 * c.toInt.toNat + w.toInt.toNat) = y.toInt → K (.inl (some (.inl (.inl y)))) C) : ok_ (tb_P X) 199 0 (ea_ar 0 [.inr (.inl (some 190)), .inl (.inl c), .inl (.inl w)]) [] C K := by
  obtain ⟨ms, m1, m2, m3⟩ := hI_f hI (show tb_G 190 = some (.inl (_, _)) from rfl)
  obtain ⟨d, us, a1, a2⟩ := hI_a hI (show tb_G 191 = some (.inr (_, _, _, _)) from rfl)
  obtain ⟨_, r1, rfl⟩ := m3 1 (.inr 191) rfl
  have hix := rf_ix (c := c) (w := w) c1 c2 w1 w2
  have hlt : 18 + 13 * c.toInt.toNat + w.toInt.toNat < 388 := by omega
  obtain ⟨f, f1, f2⟩ := el_get (by decide) (a2 _ hlt)
  have hint : ∃ y : Int32, ea_al d us (18 + 13 * c.toInt.toNat + w.toInt.toNat) = .inl (.inl y) := by
    match f, f1, f2 with
    | .inl q, _, ⟨y, y1, _⟩ => exact ⟨y, y1⟩
    | .inr k, f1, _ =>
      exfalso
      have hall : tg_row.all (fun f => match f with
        | .inl _ => true
        | .inr _ => false) = true := by decide +kernel
      have := List.all_eq_true.mp hall _ (nt_mem f1)
      cases this
  obtain ⟨y, hy⟩ := hint
  rw [hy] at f2
  refine ok_p rfl rfl rfl ?_
  refine ok_gf rfl rfl m1 r1 ?_
  refine ok_p rfl rfl rfl ?_
  refine ok_p rfl rfl rfl ?_
  refine ok_p rfl rfl rfl ?_
  refine ok_p rfl rfl rfl ?_
  refine ok_p rfl rfl rfl ?_
  refine ok_p rfl rfl rfl ?_
  refine ok_p rfl rfl rfl ?_
  refine ok_al rfl a1 (ix_of hix hlt) hy ?_
  refine ok_r rfl rfl rfl rfl rfl ?_
  exact h y f f1 f2 (rf_el a1 hlt hy)
set_option maxRecDepth 20000 in
/-- sets, as it runs -/
theorem sets_run (X : Option (List AI)) {C : List AC} (hI : xI tb_G C) {c w v : Int32} (c1 : 0 ≤ c.toInt) (c2 : c.toInt ≤ 9) (w1 : 0 ≤ w.toInt) (w2 : w.toInt ≤ 12) {K : Option AV ⊕ Nat → List AC → Prop} (h : ∀ (d : AV) (us : List (Nat × AV)), ea_nt C 191 = some (.inl (0, 388, d, us)) → K (.inl none) (C.set 191 (.inl (0, 388, d, (18 + 13 * c.toInt.toNat + w.toInt.toNat, .inl (.inl v)) :: us)))) : ok_ (tb_P X) 200 0 (ea_ar 0 [.inr (.inl (some 190)), .inl (.inl c), .inl (.inl w), .inl (.inl v)]) [] C K := by
  obtain ⟨ms, m1, m2, m3⟩ := hI_f hI (show tb_G 190 = some (.inl (_, _)) from rfl)
  obtain ⟨d, us, a1, a2⟩ := hI_a hI (show tb_G 191 = some (.inr (_, _, _, _)) from rfl)
  obtain ⟨_, r1, rfl⟩ := m3 1 (.inr 191) rfl
  have hix := rf_ix (c := c) (w := w) c1 c2 w1 w2
  have hlt : 18 + 13 * c.toInt.toNat + w.toInt.toNat < 388 := by omega
  refine ok_p rfl rfl rfl ?_
  refine ok_gf rfl rfl m1 r1 ?_
  refine ok_p rfl rfl rfl ?_
  refine ok_p rfl rfl rfl ?_
  refine ok_p rfl rfl rfl ?_
  refine ok_p rfl rfl rfl ?_
  refine ok_p rfl rfl rfl ?_
  refine ok_p rfl rfl rfl ?_
  refine ok_p rfl rfl rfl ?_
  refine ok_p rfl rfl rfl ?_
  refine ok_as rfl a1 (ix_of hix hlt) ?_
  refine ok_r rfl rfl rfl rfl rfl ?_
  exact h d us a1
/-- of: what is done -/
theorem tr_h1 (X : Option (List AI)) (GF : GH) : cx_ok (tb_P X) tb_G GF trk_1 := by
  intro vs C EV hvs hI hpre hrel
  obtain ⟨v0, t0, rfl, h0, hvs1⟩ := ea_rl_cons hvs
  obtain ⟨v1, t1, rfl, ⟨c, rfl, c1, c2⟩, hvs2⟩ := ea_rl_cons hvs1
  obtain ⟨v2, t2, rfl, ⟨w, rfl, w1, w2⟩, hvs3⟩ := ea_rl_cons hvs2
  obtain rfl := ea_rl_nil hvs3
  obtain rfl : v0 = .inr (.inl (some 190)) := h0
  dsimp only at c1 c2 w1 w2
  refine of_run X hI c1 c2 (by omega) (by omega) (fun y f f1 f2 hy => ?_)
  have hw := rf_way c.toInt.toNat (by omega) (w.toInt.toNat - 7) (by omega)
  rw [show w.toInt.toNat - 7 + 7 = w.toInt.toNat by omega] at hw
  rw [hw] at f1
  cases f1
  obtain ⟨y', y1, y2, y3⟩ := f2
  cases y1
  exact ⟨_, rfl, hI, fr_c_rf GF _ C, ⟨y, rfl, y2, y3⟩, po_n rfl rfl⟩
/-- of: how long the habit of a citizen is -/
theorem tr_h0 (X : Option (List AI)) (u : Nat) : cx_ok (tb_P X) tb_G (rf_G u) trk_0 := by
  intro vs C EV hvs hI hpre hrel
  obtain ⟨v0, t0, rfl, h0, hvs1⟩ := ea_rl_cons hvs
  obtain ⟨v1, t1, rfl, ⟨c, rfl, c1, c2⟩, hvs2⟩ := ea_rl_cons hvs1
  obtain ⟨v2, t2, rfl, ⟨w, rfl, w1, w2⟩, hvs3⟩ := ea_rl_cons hvs2
  obtain rfl := ea_rl_nil hvs3
  obtain rfl : v0 = .inr (.inl (some 190)) := h0
  dsimp only at c1 c2 w1 w2
  obtain ⟨zW, e0, rfl, ⟨pW, q1, q2⟩, hp2⟩ := ea_rl_cons hpre
  obtain ⟨zN, e1, rfl, ⟨pN, n1, n2⟩, hp3⟩ := ea_rl_cons hp2
  obtain ⟨z1, z2, s1, s2, hz⟩ := hrel _ List.mem_cons_self
  obtain ⟨x1, hx1, hx2⟩ : ∃ x : Int32, ea_lk (ea_ar 0 [.inr (.inl (some 190)), .inl (.inl c), .inl (.inl w)]) 1 = some (.inl (.inl x)) ∧ x.toInt = z1 := s1
  obtain rfl : c = x1 := by
    have : some (Sum.inl (Sum.inl c)) = some (Sum.inl (Sum.inl x1)) := hx1
    cases this
    rfl
  have hs2 : zN = z2 := by
    have : some zN = some z2 := s2
    cases this
    rfl
  have hN : rf_v C 191 0 = zN := rf_v_pv (a := 191) (by decide) pN
  have hW : rf_W C := rf_b_of (p := rf_W C) (by
    have h1 : rf_G u 999 C = zW := pW
    have h2 : rf_G u 999 C = rf_b (rf_W C) := rfl
    dsimp only at q1 q2
    omega)
  have hlen := hW.1 c.toInt.toNat (by omega) (by dsimp only at hz; omega)
  refine of_run X hI c1 c2 (by omega) (by omega) (fun y f f1 f2 hy => ?_)
  have hwn : w.toInt.toNat = 5 := by omega
  rw [hwn, show 18 + 13 * c.toInt.toNat + 5 = 23 + 13 * c.toInt.toNat by omega] at f1 hy
  rw [rf_len c.toInt.toNat (by omega)] at f1
  cases f1
  obtain ⟨y', y1, y2, y3⟩ := f2
  cases y1
  exact ⟨_, rfl, hI, fr_c_rf _ _ C, ⟨y, rfl, by show (1 : Int) ≤ _; omega, y3⟩, po_n rfl rfl⟩
theorem gs_191 : ∀ q ∈ tr_gs, q.2.1 = 191 → q.2.2.1 = q.2.2.2 ∧ (q.2.2.1 = 0 ∨ (q.2.2.1 - 23) % 13 = 0) := by decide
/-- a store into the world, at no count and no length -/
theorem fr_191 (u : Nat) {C : List AC} {d : AV} {us : List (Nat × AV)} (hC : ea_nt C 191 = some (.inl (0, 388, d, us))) {j : Nat} {v : AV} (h0 : j ≠ 0) (h1 : ¬ ((j : Int) - 23) % 13 = 0) : fr_c (rf_G u) [(191, 192)] C (C.set 191 (.inl (0, 388, d, (j, v) :: us))) := by
  refine ⟨fun b hb => ?_, fun k _ _ => rf_gs u k C _ (fun a i hq => ?_)⟩
  · have : (191 : Nat) ≠ b := by
      rintro rfl
      exact absurd hb (by decide)
    rw [nt_set_ne this]
  · obtain ⟨q, q1, q2, q3, q4, q5⟩ := hq
    refine cv_arr (t := (191, (j : Int), (j : Int), 1, 0)) hC ⟨rfl, Int.le_refl _, Int.le_refl _, Int.emod_one _⟩ a i ?_
    rintro ⟨rfl, w1, w2, -⟩
    dsimp only at w1 w2
    obtain ⟨g1, g2⟩ := gs_191 q q1 q3
    have hij : (i : Int) = (j : Int) := by omega
    have hiq : (i : Int) = q.2.2.1 := by omega
    rcases g2 with g2 | g2
    · omega
    · rw [← hiq, hij] at g2
      exact h1 g2
theorem rf_kd {w : Nat} {f : FT} {y : Int32} (hf : ea_nt tg_row w = some f) (hy : ft_g f (.inl (.inl y))) : el_g 0 388 tg_row w (.inl (.inl y)) := by
  refine el_put (by decide) ⟨f, ?_, hy⟩
  have hl : w < 388 := by
    have := nt_lt hf
    have e : tg_row.length = 388 := by decide +kernel
    omega
  rw [Nat.mod_eq_of_lt hl]
  exact hf
theorem pv_el {GF : GH} {C : List AC} {a kd n : Nat} {d : AV} {us : List (Nat × AV)} {j k : Nat} {v : AV} {z : Int} (ha : ¬ 999 ≤ a) (hC : ea_nt C a = some (.inl (kd, n, d, us))) (hjk : j ≠ k) (h : pv GF C a k z) : pv GF (C.set a (.inl (kd, n, d, (j, v) :: us))) a k z := by
  unfold pv at h ⊢
  rw [if_neg ha] at h ⊢
  obtain ⟨x, h1, h2⟩ := h
  refine ⟨x, ?_, h2⟩
  rw [cv_arr (t := (a, (j : Int), (j : Int), 1, 0)) hC ⟨rfl, Int.le_refl _, Int.le_refl _, Int.emod_one _⟩ a k]
  · exact h1
  · rintro ⟨-, w1, w2, -⟩
    dsimp only at w1 w2
    exact hjk (by omega)
/-- sets: what is done -/
theorem tr_h2 (X : Option (List AI)) (u : Nat) : cx_ok (tb_P X) tb_G (rf_G u) trk_2 := by
  intro vs C EV hvs hI hpre hrel
  obtain ⟨v0, t0, rfl, h0, hvs1⟩ := ea_rl_cons hvs
  obtain ⟨v1, t1, rfl, ⟨c, rfl, c1, c2⟩, hvs2⟩ := ea_rl_cons hvs1
  obtain ⟨v2, t2, rfl, ⟨w, rfl, w1, w2⟩, hvs3⟩ := ea_rl_cons hvs2
  obtain ⟨v3, t3, rfl, ⟨v, rfl, x1, x2⟩, hvs4⟩ := ea_rl_cons hvs3
  obtain rfl := ea_rl_nil hvs4
  obtain rfl : v0 = .inr (.inl (some 190)) := h0
  dsimp only at c1 c2 w1 w2 x1 x2
  obtain ⟨zN, e1, rfl, ⟨pN, n1, n2⟩, hp3⟩ := ea_rl_cons hpre
  refine sets_run X hI c1 c2 (by omega) (by omega) (fun d us hC => ?_)
  have hw := rf_way c.toInt.toNat (by omega) (w.toInt.toNat - 7) (by omega)
  rw [show w.toInt.toNat - 7 + 7 = w.toInt.toNat by omega, Nat.mod_eq_of_lt (by omega)] at hw
  have hp : pv (rf_G u) (C.set 191 (.inl (0, 388, d, (18 + 13 * c.toInt.toNat + w.toInt.toNat, .inl (.inl v)) :: us))) 191 0 zN := pv_el (by decide) hC (by omega) pN
  refine ⟨none, rfl, xI_sa hI (show tb_G 191 = some (.inr (0, 388, 388, tg_row)) from rfl) hC (rf_kd hw ⟨v, rfl, x1, x2⟩), fr_191 u hC (by omega) (by omega), rfl, ⟨[zN], ⟨⟨hp, n1, n2⟩, trivial⟩⟩, fun q hq => ?_⟩
  rcases List.mem_cons.mp hq with rfl | hq
  · exact ⟨zN, zN, hp, rfl, by dsimp only; omega⟩
  · rcases List.mem_cons.mp hq with rfl | hq
    · exact ⟨zN, zN, rfl, hp, by dsimp only; omega⟩
    · exact nomatch hq
