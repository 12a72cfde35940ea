/-! CONTRACTS BY HAND: rows for it -/
theorem hI_f {G : Nat → Option CT} {C : List AC} (hI : xI G C) {a ci : Nat} {fs : List FT} (hG : G a = some (.inl (ci, fs))) : ∃ vs, ea_nt C a = some (.inr (ci, vs)) ∧ vs.length = fs.length ∧ ∀ k f, ea_nt fs k = some f → ∃ v, ea_nt vs k = some v ∧ ft_g f v := hI.1 a ci fs hG
theorem hI_a {G : Nat → Option CT} {C : List AC} (hI : xI G C) {a kd n p : Nat} {fs : List FT} (hG : G a = some (.inr (kd, n, p, fs))) : ∃ d us, ea_nt C a = some (.inl (kd, n, d, us)) ∧ ∀ j, j < n → el_g kd p fs j (ea_al d us j) := by
  obtain ⟨d, us, g1, g2⟩ := hI.2.1 a kd n p fs hG
  exact ⟨d, us, g1, fun j hj => (g2 j hj).elim id (fun ⟨q, q1, _⟩ => nomatch q1)⟩
/-- a store into an array keeps the kinds -/
theorem xI_sa {G : Nat → Option CT} {C : List AC} (hI : xI G C) {a kd n p : Nat} {fs : List FT} {d : AV} {us : List (Nat × AV)} (hG : G a = some (.inr (kd, n, p, fs))) (hC : ea_nt C a = some (.inl (kd, n, d, us))) {j : Nat} {v : AV} (hv : el_g kd p fs j v) : xI G (C.set a (.inl (kd, n, d, (j, v) :: us))) := by
  refine xh_seta (e' := (1, [], [], [], [])) hI hG hC (fun i hi => Or.inl ?_) (fun q hq => nomatch hq) rfl (fun q hq => nomatch hq)
  rw [ea_al_at]
  split
  · rename_i h
    rw [h]
    exact hv
  · obtain ⟨d', us', g1, g2⟩ := hI_a hI hG
    rw [hC] at g1
    cases g1
    exact g2 i hi
/-- a store into a field keeps the kinds -/
theorem xI_sf {G : Nat → Option CT} {C : List AC} (hI : xI G C) {a ci : Nat} {fs : List FT} {vs : List AV} (hG : G a = some (.inl (ci, fs))) (hC : ea_nt C a = some (.inr (ci, vs))) {k : Nat} {f : FT} (hf : ea_nt fs k = some f) {v : AV} (hv : ft_g f v) : xI G (C.set a (.inr (ci, vs.set k v))) := by
  obtain ⟨vs', g1, g2, g3⟩ := hI_f hI hG
  rw [hC] at g1
  cases g1
  refine ⟨fun b cj fs' hG' => ?_, fun b kd n p fs' hG' => ?_, fun q hq => nomatch hq⟩
  · by_cases hab : a = b
    · subst hab
      rw [hG] at hG'
      cases hG'
      refine ⟨_, nt_set_self hC, by rw [nt_len_set]; exact g2, fun k' f' hf' => ?_⟩
      by_cases hk : k = k'
      · subst hk
        rw [hf] at hf'
        cases hf'
        obtain ⟨w, hw, -⟩ := g3 k f hf
        exact ⟨v, nt_set_self hw, hv⟩
      · obtain ⟨v', o1, o2⟩ := g3 k' f' hf'
        exact ⟨v', by rw [nt_set_ne hk]; exact o1, o2⟩
    · obtain ⟨vs', n1, n2⟩ := hI.1 b cj fs' hG'
      exact ⟨vs', by rw [nt_set_ne hab]; exact n1, n2⟩
  · have hab : a ≠ b := by rintro rfl; rw [hG] at hG'; cases hG'
    obtain ⟨d, us, n1, n2⟩ := hI.2.1 b kd n p fs' hG'
    exact ⟨d, us, by rw [nt_set_ne hab]; exact n1, n2⟩
section OKS
variable {P : EP} {m pc : Nat} {L : List (Nat × AV)} {S : List AV} {C : List AC} {K : Option AV ⊕ Nat → List AC → Prop}
theorem ok_gf {x ci k a : Nat} {vs : List AV} {v : AV} (hc : ep_cod P m pc = some (.getfield x, 3)) (hr : ea_rd (ep_pl P m x) = some (ci, k)) (hC : ea_nt C a = some (.inr (ci, vs))) (hv : ea_nt vs k = some v) (h : ok_ P m (pc + 3) L (v :: S) C K) : ok_ P m pc L (.inr (.inl (some a)) :: S) C K :=
  ok_h hc rfl rfl (by simp only [ea_h, hr, hC, Nat.beq_refl, cond_true, hv]) h
theorem ok_pf {x ci k a : Nat} {vs : List AV} {v : AV} (hc : ep_cod P m pc = some (.putfield x, 3)) (hr : ea_wr (ep_ini P m) (ep_pl P m x) = some (ci, k)) (hC : ea_nt C a = some (.inr (ci, vs))) (hf : ea_fit (ep_fty P ci k) v = true) (hk : Nat.blt k vs.length = true) (h : ok_ P m (pc + 3) L S (C.set a (.inr (ci, vs.set k v))) K) : ok_ P m pc L (v :: .inr (.inl (some a)) :: S) C K :=
  ok_h (C' := some _) hc rfl rfl (by simp only [ea_h, hr, hC, Nat.beq_refl, hf, hk, Bool.and_self, cond_true]) h
theorem ok_al {a n j : Nat} {d : AV} {us : List (Nat × AV)} {x y : Int32} (hc : ep_cod P m pc = some (.iaload, 1)) (hC : ea_nt C a = some (.inl (0, n, d, us))) (hi : ea_ix (.inl x) n = some j) (hv : ea_al d us j = .inl (.inl y)) (h : ok_ P m (pc + 1) L (.inl (.inl y) :: S) C K) : ok_ P m pc L (.inl (.inl x) :: .inr (.inl (some a)) :: S) C K :=
  ok_h (C' := none) hc rfl rfl (by simp only [ea_h, hC, hi, hv]) h
theorem ok_as {a n j : Nat} {d : AV} {us : List (Nat × AV)} {x y : Int32} (hc : ep_cod P m pc = some (.iastore, 1)) (hC : ea_nt C a = some (.inl (0, n, d, us))) (hi : ea_ix (.inl x) n = some j) (h : ok_ P m (pc + 1) L S (C.set a (.inl (0, n, d, (j, .inl (.inl y)) :: us))) K) : ok_ P m pc L (.inl (.inl y) :: .inl (.inl x) :: .inr (.inl (some a)) :: S) C K :=
  ok_h (C' := some _) hc rfl rfl (by simp only [ea_h, hC, hi]) h
end OKS
theorem i32_add {x y : Int32} (h1 : -2147483648 ≤ x.toInt + y.toInt) (h2 : x.toInt + y.toInt ≤ 2147483647) : (x + y).toInt = x.toInt + y.toInt := by
  rw [Int32.toInt_add, Int.bmod_eq_of_le (by omega) (by omega)]
theorem i32_mul {x y : Int32} (h1 : -2147483648 ≤ x.toInt * y.toInt) (h2 : x.toInt * y.toInt ≤ 2147483647) : (x * y).toInt = x.toInt * y.toInt := by
  rw [Int32.toInt_mul, Int.bmod_eq_of_le (by omega) (by omega)]
theorem ix_of {x : Int32} {n j : Nat} (h : x.toInt = (j : Int)) (hj : j < n) : ea_ix (.inl x) n = some j := by
  obtain ⟨h1, h2, h3⟩ := ix_ok (x := x) (n := n) (by omega) (by omega)
  have : x.toNatClampNeg = j := by omega
  rw [h1, this]
/-- the place of a citizen's row -/
theorem rf_ix {c w : Int32} (c1 : 0 ≤ c.toInt) (c2 : c.toInt ≤ 9) (w1 : 0 ≤ w.toInt) (w2 : w.toInt ≤ 12) : ((Int8.ofInt 18).toInt32 + (Int8.ofInt 13).toInt32 * c + w).toInt = ((18 + 13 * c.toInt.toNat + w.toInt.toNat : Nat) : Int) := by
  have e1 : ((Int8.ofInt 18).toInt32).toInt = 18 := by decide
  have e2 : ((Int8.ofInt 13).toInt32).toInt = 13 := by decide
  have m1 := i32_mul (x := (Int8.ofInt 13).toInt32) (y := c) (by rw [e2]; omega) (by rw [e2]; omega)
  rw [e2] at m1
  have m2 := i32_add (x := (Int8.ofInt 18).toInt32) (y := (Int8.ofInt 13).toInt32 * c) (by rw [e1, m1]; omega) (by rw [e1, m1]; omega)
  have m3 := i32_add (x := (Int8.ofInt 18).toInt32 + (Int8.ofInt 13).toInt32 * c) (y := w) (by rw [m2, e1, m1]; omega) (by rw [m2, e1, m1]; omega)
  rw [m3, m2, e1, m1]
  omega
theorem rf_way : ∀ c, c < 10 → ∀ w, w < 6 → ea_nt tg_row ((18 + 13 * c + (w + 7)) % 388) = some (.inl (0, 63)) := by decide +kernel
theorem rf_len : ∀ c, c < 10 → ea_nt tg_row ((23 + 13 * c) % 388) = some (.inl (0, 6)) := by decide +kernel
set_option maxRecDepth 20000 in
/-- of: what is done -/
theorem tr_h1 (X : Option (List AI)) (GF : GH) : cx_ok (tb_P X) tb_G GF trk_1 := by
  intro vs C EV hvs hI hpre hrel
  obtain ⟨v0, t0, rfl, h0, hvs⟩ := ea_rl_cons hvs
  obtain ⟨v1, t1, rfl, ⟨c, rfl, c1, c2⟩, hvs⟩ := ea_rl_cons hvs
  obtain ⟨v2, t2, rfl, ⟨w, rfl, w1, w2⟩, hvs⟩ := ea_rl_cons hvs
  obtain rfl := ea_rl_nil hvs
  obtain rfl : v0 = .inr (.inl (some 190)) := h0
  dsimp only at c1 c2 w1 w2
  obtain ⟨ms, m1, m2, m3⟩ := hI_f hI (show tb_G 190 = some (.inl (_, _)) from rfl)
  obtain ⟨d, us, a1, a2⟩ := hI_a hI (show tb_G 191 = some (.inr (_, _, _, _)) from rfl)
  obtain ⟨_, r1, rfl⟩ := m3 1 (.inr 191) rfl
  have hix := rf_ix (c := c) (w := w) c1 c2 (by omega) (by omega)
  have hlt : 18 + 13 * c.toInt.toNat + w.toInt.toNat < 388 := by omega
  have hel := el_get (by decide) (a2 _ hlt)
  obtain ⟨f, f1, f2⟩ := hel
  have hw := rf_way c.toInt.toNat (by omega) (w.toInt.toNat - 7) (by omega)
  rw [show w.toInt.toNat - 7 + 7 = w.toInt.toNat by omega] at hw
  rw [hw] at f1
  cases f1
  obtain ⟨y, y1, y2, y3⟩ := f2
  show ok_ (tb_P X) 199 0 _ [] C _
  refine ok_p rfl rfl rfl ?_
  refine ok_gf rfl rfl m1 r1 ?_
  refine ok_p rfl rfl rfl ?_
  refine ok_p rfl rfl rfl ?_
  refine ok_p rfl rfl rfl ?_
  refine ok_p rfl rfl rfl ?_
  refine ok_p rfl rfl rfl ?_
  refine ok_p rfl rfl rfl ?_
  refine ok_p rfl rfl rfl ?_
  refine ok_al rfl a1 (ix_of hix hlt) y1 ?_
  refine ok_r rfl rfl rfl rfl rfl ?_
  exact ⟨_, rfl, hI, fr_c_rf GF _ C, ⟨y, rfl, y2, y3⟩, ⟨[], trivial⟩, fun q hq => nomatch hq⟩
