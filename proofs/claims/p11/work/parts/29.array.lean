/-! THE CHECKER, arrays -/
/-- which of the elements' kinds an index may have -/
def xt_c (E : List (Nat × Int × Int)) (i : XI) (p : Nat) : Option (List Nat) := if p = 1 then some [0] else if i.1 = 0 then some [i.2.2.toNat % p] else match xe_k E i.2.1 with
  | some q => if q.2 - q.1 ≤ 16 then some ((List.range ((q.2 - q.1).toNat + 1)).map (fun t : Nat => (i.1 * (q.1 + (t : Int)) + i.2.2).toNat % p)) else none
  | none => none
theorem xt_c_ok {r : RN} {e : XE} (he : xe_g r e) {i : XI} {p : Nat} {ks : List Nat} (h : xt_c e.2.1 i p = some ks) {j : Nat} (hj : (j : Int) = xi_z r i) : j % p ∈ ks := by
  unfold xt_c at h
  split at h
  · rename_i h1
    cases h
    rw [h1, Nat.mod_one]
    exact List.mem_cons_self
  · split at h
    · rename_i h1
      cases h
      have : j = i.2.2.toNat := by
        unfold xi_z at hj
        rw [h1] at hj
        omega
      rw [this]
      exact List.mem_cons_self
    · split at h
      · rename_i q hq
        split at h
        · cases h
          obtain ⟨-, h1, h2⟩ := he.2.2.1 _ (xe_k_mem hq)
          dsimp only at h1 h2
          refine List.mem_map.mpr ⟨(r.1 i.2.1 - q.1).toNat, List.mem_range.mpr (by omega), ?_⟩
          have : q.1 + ((r.1 i.2.1 - q.1).toNat : Int) = r.1 i.2.1 := by omega
          rw [this]
          unfold xi_z at hj
          rw [← hj]
          rfl
        · cases h
      · cases h
def xt_m (fs : List FT) (ks : List Nat) : Option (List FT) := match ks with
  | [] => some []
  | k :: t => match ea_nt fs k, xt_m fs t with
    | some f, some l => some (f :: l)
    | _, _ => none
theorem xt_m_ok {fs : List FT} : ∀ {ks : List Nat} {l : List FT}, xt_m fs ks = some l → ∀ {k : Nat} {f : FT}, k ∈ ks → ea_nt fs k = some f → f ∈ l
  | [], l, h, k, f, hk, hf => nomatch hk
  | k0 :: t, l, h, k, f, hk, hf => by
    unfold xt_m at h
    split at h
    · rename_i f0 l0 h1 h2
      cases h
      rcases List.mem_cons.mp hk with rfl | hk
      · rw [h1] at hf
        cases hf
        exact List.mem_cons_self
      · exact List.mem_cons_of_mem _ (xt_m_ok h2 hk hf)
    · cases h
def xt_l (E : List (Nat × Int × Int)) (i : XI) (p : Nat) (fs : List FT) : Option (List FT) := match xt_c E i p with
  | some ks => xt_m fs ks
  | none => match xi_bo E i with
    | some q => if 0 ≤ q.1 ∧ q.2 < (p : Int) then some ((fs.drop q.1.toNat).take ((q.2 - q.1).toNat + 1)) else some fs
    | none => some fs
theorem nt_mem {α : Type} {l : List α} {k : Nat} {a : α} (h : ea_nt l k = some a) : a ∈ l := by
  rw [ea_nt_eq] at h
  exact List.mem_of_getElem? h
theorem xt_l_ok {r : RN} {e : XE} (he : xe_g r e) {i : XI} {p : Nat} {fs l : List FT} (h : xt_l e.2.1 i p fs = some l) {j : Nat} (hj : (j : Int) = xi_z r i) {f : FT} (hf : ea_nt fs (j % p) = some f) : f ∈ l := by
  unfold xt_l at h
  split at h
  · rename_i ks hk
    exact xt_m_ok h (xt_c_ok he hk hj) hf
  · split at h
    · rename_i q hq
      split at h
      · rename_i hb
        cases h
        have b := xi_bo_ok he hq
        have hm : j % p = j := Nat.mod_eq_of_lt (by omega)
        rw [hm, ea_nt_eq] at hf
        have hx : ((fs.drop q.1.toNat).take ((q.2 - q.1).toNat + 1))[j - q.1.toNat]? = some f := by
          rw [List.getElem?_take, if_pos (by omega), List.getElem?_drop, show q.1.toNat + (j - q.1.toNat) = j by omega]
          exact hf
        exact List.mem_of_getElem? hx
      · cases h
        exact nt_mem hf
    · cases h
      exact nt_mem hf
/-- bounds of all of them -/
def xt_j (l : List FT) : Option (Int × Int) := match l with
  | [] => none
  | .inr _ :: _ => none
  | .inl q :: t => match t with
    | [] => some q
    | _ :: _ => match xt_j t with
      | some p => some (min q.1 p.1, max q.2 p.2)
      | none => none
theorem xt_j_ok : ∀ {l : List FT} {q : Int × Int}, xt_j l = some q → ∀ {f : FT} {v : AV}, f ∈ l → ft_g f v → ∃ x : Int32, v = .inl (.inl x) ∧ q.1 ≤ x.toInt ∧ x.toInt ≤ q.2
  | [], q, h, f, v, hf, hv => nomatch hf
  | .inr k :: t, q, h, f, v, hf, hv => by cases h
  | .inl p :: [], q, h, f, v, hf, hv => by
    cases h
    rcases List.mem_cons.mp hf with rfl | hf
    · exact hv
    · nomatch hf
  | .inl p :: b :: t, q, h, f, v, hf, hv => by
    unfold xt_j at h
    dsimp only at h
    split at h
    · rename_i p' hp'
      cases h
      rcases List.mem_cons.mp hf with rfl | hf
      · obtain ⟨x, h1, h2, h3⟩ := hv
        dsimp only
        exact ⟨x, h1, by omega, by omega⟩
      · obtain ⟨x, h1, h2, h3⟩ := xt_j_ok hp' hf hv
        dsimp only
        exact ⟨x, h1, by omega, by omega⟩
    · cases h
/-- all of them take such ints -/
def xt_in (l : List FT) (lo hi : Int) : Bool := match l with
  | [] => true
  | .inr _ :: _ => false
  | .inl q :: t => decide (q.1 ≤ lo) && (decide (hi ≤ q.2) && xt_in t lo hi)
theorem xt_in_ok : ∀ {l : List FT} {lo hi : Int}, xt_in l lo hi = true → ∀ {f : FT} {x : Int32}, f ∈ l → lo ≤ x.toInt → x.toInt ≤ hi → ft_g f (.inl (.inl x))
  | [], lo, hi, h, f, x, hf, _, _ => nomatch hf
  | .inr k :: t, lo, hi, h, f, x, hf, _, _ => by cases h
  | .inl q :: t, lo, hi, h, f, x, hf, h1, h2 => by
    unfold xt_in at h
    simp only [Bool.and_eq_true, decide_eq_true_eq] at h
    rcases List.mem_cons.mp hf with rfl | hf
    · exact ⟨x, rfl, by omega, by omega⟩
    · exact xt_in_ok h.2.2 hf h1 h2
def xR_k (R : List (Nat × XI × XI)) (a : Nat) (i : XI) : Option XI := match R with
  | [] => none
  | q :: t => if q.1 = a ∧ q.2.1.2.1 = i.2.1 ∧ q.2.1.1 = i.1 ∧ q.2.1.2.2 = i.2.2 then some q.2.2 else xR_k t a i
theorem xR_k_mem : ∀ {R : List (Nat × XI × XI)} {a : Nat} {i x : XI}, xR_k R a i = some x → (a, i, x) ∈ R
  | [], a, i, x, h => by cases h
  | q :: t, a, i, x, h => by
    unfold xR_k at h
    split at h
    · rename_i hc
      cases h
      obtain ⟨h1, h2, h3, h4⟩ := hc
      have : q = (a, i, q.2.2) := by
        obtain ⟨qa, ⟨q1, q2, q3⟩, qx⟩ := q
        obtain ⟨i1, i2, i3⟩ := i
        dsimp only at h1 h2 h3 h4
        subst h1 h2 h3 h4
        rfl
      rw [this]
      exact List.mem_cons_self
    · exact List.mem_cons_of_mem _ (xR_k_mem h)
def xe_r (e : XE) (a : Nat) (i x : XI) : XE := (e.1, e.2.1, e.2.2.1, (a, i, x) :: e.2.2.2.1, e.2.2.2.2)
/-- what is known of the elements of an array is known no more -/
def xe_rf (e : XE) (a : Nat) : XE := (e.1, e.2.1, e.2.2.1, e.2.2.2.1.filter (fun q => !(Nat.beq q.1 a)), e.2.2.2.2)
theorem el_get {kd p : Nat} {fs : List FT} {j : Nat} {v : AV} (hk : kd ≠ 1) (h : el_g kd p fs j v) : ∃ f, ea_nt fs (j % p) = some f ∧ ft_g f v := by
  match kd, hk, h with
  | 0, _, h => exact h
  | 1, hk, _ => exact absurd rfl hk
  | _ + 2, _, h => exact h
theorem el_put {kd p : Nat} {fs : List FT} {j : Nat} {v : AV} (hk : kd ≠ 1) (h : ∃ f, ea_nt fs (j % p) = some f ∧ ft_g f v) : el_g kd p fs j v := by
  match kd, hk with
  | 0, _ => exact h
  | 1, hk => exact absurd rfl hk
  | _ + 2, _ => exact h
theorem ix_ok {x : Int32} {n : Nat} (h1 : 0 ≤ x.toInt) (h2 : x.toInt < n) : ea_ix (.inl x) n = some x.toNatClampNeg ∧ (x.toNatClampNeg : Int) = x.toInt ∧ x.toNatClampNeg < n := by
  have hc : (x.toNatClampNeg : Int) = x.toInt := by
    show ((x.toInt.toNat : Nat) : Int) = _
    omega
  refine ⟨?_, hc, by omega⟩
  show (if 0 ≤ x.toInt ∧ x.toInt < n then some x.toNatClampNeg else none) = _
  rw [if_pos ⟨h1, h2⟩]
/-- the index is within -/
def xs_ix (E : List (Nat × Int × Int)) (i : XI) (n : Nat) : Bool := decide (0 ≤ (xi_b E i).1) && decide ((xi_b E i).2 < (n : Int))
theorem xs_ix_ok {r : RN} {e : XE} (he : xe_g r e) {i : XI} {n : Nat} (h : xs_ix e.2.1 i n = true) {x : Int32} (hx : xi_g r i x) : ea_ix (.inl x) n = some x.toNatClampNeg ∧ (x.toNatClampNeg : Int) = xi_z r i ∧ x.toNatClampNeg < n := by
  have b := xi_b_ok he hx
  unfold xs_ix at h
  simp only [Bool.and_eq_true, decide_eq_true_eq] at h
  obtain ⟨h1, h2, h3⟩ := ix_ok (x := x) (n := n) (by omega) (by omega)
  exact ⟨h1, by rw [h2, hx.2], h3⟩
theorem xi_c {r : RN} {e : XE} (he : xe_g r e) (x : Int32) : xi_g r (0, 0, x.toInt) x := ⟨he.1, by rw [xi_z]; dsimp only; omega⟩
/-- no element of this array is known by itself -/
def xR_n (R : List (Nat × XI × XI)) (a : Nat) : Bool := match R with
  | [] => true
  | q :: t => !(Nat.beq q.1 a) && xR_n t a
theorem xR_n_ok {a : Nat} : ∀ {R : List (Nat × XI × XI)}, xR_n R a = true → ∀ q ∈ R, q.1 ≠ a
  | [], _, q, hq => nomatch hq
  | p :: t, h, q, hq => by
    unfold xR_n at h
    simp only [Bool.and_eq_true] at h
    rcases List.mem_cons.mp hq with rfl | hq
    · rintro rfl
      have := h.1
      rw [Nat.beq_refl] at this
      cases this
    · exact xR_n_ok h.2 q hq
def xR_1 (E : List (Nat × Int × Int)) (p : Nat) (fs : List FT) (q : Nat × XI × XI) : Bool := match xt_l E q.2.1 p fs with
  | some l => Nat.blt 0 p && (Nat.ble p fs.length && xt_in l (xi_b E q.2.2).1 (xi_b E q.2.2).2)
  | none => false
/-- the elements of this array that are known by themselves are of their kinds -/
def xR_c (E : List (Nat × Int × Int)) (R : List (Nat × XI × XI)) (a p : Nat) (fs : List FT) : Bool := match R with
  | [] => true
  | q :: t => (bif Nat.beq q.1 a then xR_1 E p fs q else true) && xR_c E t a p fs
theorem xR_c_mem {E : List (Nat × Int × Int)} {a p : Nat} {fs : List FT} : ∀ {R : List (Nat × XI × XI)}, xR_c E R a p fs = true → ∀ q ∈ R, q.1 = a → xR_1 E p fs q = true
  | [], _, q, hq, _ => nomatch hq
  | p0 :: t, h, q, hq, ha => by
    unfold xR_c at h
    simp only [Bool.and_eq_true] at h
    rcases List.mem_cons.mp hq with rfl | hq
    · have h1 := h.1
      rw [ha, Nat.beq_refl] at h1
      exact h1
    · exact xR_c_mem h.2 q hq ha
theorem xR_1_ok {r : RN} {e : XE} {C : List AC} (he : xe_g r e) {kd n p : Nat} {fs : List FT} {d : AV} {us : List (Nat × AV)} {q : Nat × XI × XI} (hk : kd ≠ 1) (hq : xh_R r C q) (hC : ea_nt C q.1 = some (.inl (kd, n, d, us))) {j : Nat} (hj : (j : Int) = xi_z r q.2.1) (h : xR_1 e.2.1 p fs q = true) : el_g kd p fs j (ea_al d us j) := by
  unfold xR_1 at h
  split at h
  · rename_i l hl
    simp only [Bool.and_eq_true] at h
    obtain ⟨h1, h2, h3⟩ := h
    obtain ⟨kd', n', d', us', j', x, g1, g2, g3, g4, g5⟩ := hq
    rw [hC] at g1
    cases g1
    have ej : j' = j := by omega
    subst ej
    have hp : j' % p < fs.length := Nat.lt_of_lt_of_le (Nat.mod_lt _ (blt_lt h1)) (Nat.le_of_ble_eq_true h2)
    obtain ⟨f0, hf0⟩ := nt_some hp
    have b := xi_b_ok he g5
    rw [g4]
    exact el_put hk ⟨f0, hf0, xt_in_ok h3 (xt_l_ok he hl hj hf0) b.1 b.2⟩
  · cases h
section XA
variable {r : RN} {M : Nat → Bool} {G : Nat → Option CT} {ini : Bool} {pl : Nat → Option (Nat × Nat × Nat)} {fty : Nat → Nat → Nat} {scr : Option (List AI)} {pc : Nat} {cs : List AV} {C : List AC} {e : XE} {S : List XV} {i : Instr}
def xs_al (kd : Nat) (G : Nat → Option CT) (pc : Nat) (S : List XV) (e : XE) : Option (Nat × List XV × XE) := match S with
  | .inl i :: .inr (.inl a) :: S => match G a with
    | some (.inr (kd', n, p, fs)) => bif Nat.beq kd' kd && xs_ix e.2.1 i n then match xR_k e.2.2.2.1 a i with
        | some x => some (pc + 1, .inl x :: S, e)
        | none => bif xR_c e.2.1 e.2.2.2.1 a p fs then match xt_l e.2.1 i p fs with
          | some l => match xt_j l with
            | some q => some (pc + 1, .inl (xo_new e q.1 q.2).1 :: S, bif xt_in l q.1 q.2 && Nat.blt e.2.2.2.1.length 10 then xe_r (xo_new e q.1 q.2).2 a i (xo_new e q.1 q.2).1 else (xo_new e q.1 q.2).2)
            | none => none
          | none => none
          else none
      else none
    | _ => none
  | _ => none
theorem xs_al_ok {kd : Nat} {f : Nat × List XV × XE} (hkd : kd ≠ 1) (he : xe_g r e) (hs : xs_g r S cs) (hh : xh_g r G e C) (h : xs_al kd G pc S e = some f)
    (hp : ∀ (x y : Int32) (a n : Nat) (d : AV) (us : List (Nat × AV)) (t : List AV), ea_nt C a = some (.inl (kd, n, d, us)) → ea_ix (.inl x) n = some x.toNatClampNeg → ea_al d us x.toNatClampNeg = .inl (.inl y) → ea_h ini pl fty scr i pc (.inl (.inl x) :: .inr (.inl (some a)) :: t) C = some (pc + 1, .inl (.inl y) :: t, none, 0, 0)) : xh_r r M G ini pl fty scr i pc cs C f := by
  unfold xs_al at h
  split at h
  · rename_i ii a S0
    split at h
    · rename_i kd' n p fs hG
      cases hb : (Nat.beq kd' kd && xs_ix e.2.1 ii n) with
      | false => rw [hb] at h; cases h
      | true =>
        rw [hb] at h
        simp only [cond_true] at h
        simp only [Bool.and_eq_true] at hb
        obtain ⟨hb, hix⟩ := hb
        obtain rfl : kd' = kd := Nat.eq_of_beq_eq_true hb
        obtain ⟨_, _, rfl, ⟨x, rfl, hx⟩, hs1⟩ := xs_pop hs
        obtain ⟨v0, cs0, rfl, hv0, hs0⟩ := xs_pop hs1
        obtain rfl : v0 = .inr (.inl (some a)) := hv0
        obtain ⟨d, us, g1, g2⟩ := hh.2.1 a kd' n p fs hG
        obtain ⟨i1, i2, i3⟩ := xs_ix_ok he hix hx
        split at h
        · rename_i x0 hx0
          cases h
          obtain ⟨kd2, n2, d2, us2, j, y, j1, j2, j3, j4, j5⟩ := hh.2.2 _ (xR_k_mem hx0)
          dsimp only at j1 j2 j3 j4 j5
          rw [g1] at j1
          cases j1
          have hj : j = x.toNatClampNeg := by omega
          subst hj
          exact ⟨r, _, none, rn_le_rf r, he, xs_cons (xv_gi j5) hs0, hh, fun _ _ => rfl, hp _ _ _ _ _ _ _ g1 i1 j4⟩
        · cases hrc : xR_c e.2.1 e.2.2.2.1 a p fs with
          | false => rw [hrc] at h; cases h
          | true =>
          rw [hrc] at h
          simp only [cond_true] at h
          split at h
          · rename_i l hl
            split at h
            · rename_i q hq
              cases h
              have gel : el_g kd' p fs x.toNatClampNeg (ea_al d us x.toNatClampNeg) := by
                rcases g2 _ i3 with g | ⟨q, q1, q2, q3⟩
                · exact g
                · exact xR_1_ok he hkd (hh.2.2 q q1) (by rw [q2]; exact g1) q3 (xR_c_mem hrc q q1 q2)
              obtain ⟨f0, f1, f2⟩ := el_get hkd gel
              obtain ⟨y, y1, y2, y3⟩ := xt_j_ok hq (xt_l_ok he hl i2 f1) f2
              obtain ⟨r', k1, k2, k3, k4⟩ := xo_new_ok he y2 y3
              cases hu : (xt_in l q.1 q.2 && Nat.blt e.2.2.2.1.length 10) with
              | false => exact ⟨r', _, none, k1, k2, xs_cons (xv_gi k3) (xs_g_mono k1 hs0), xh_g_mono k1 k4 hh, fun _ _ => rfl, hp _ _ _ _ _ _ _ g1 i1 y1⟩
              | true =>
              refine ⟨r', _, none, k1, k2, xs_cons (xv_gi k3) (xs_g_mono k1 hs0), ?_, fun _ _ => rfl, hp _ _ _ _ _ _ _ g1 i1 y1⟩
              obtain ⟨m1, m2, m3⟩ := xh_g_mono k1 k4 hh
              refine ⟨m1, fun b kd2 n2 p2 fs2 hG2 => ?_, fun z hz => ?_⟩
              · obtain ⟨d2, us2, w1, w2⟩ := m2 b kd2 n2 p2 fs2 hG2
                refine ⟨d2, us2, w1, fun j hj => ?_⟩
                rcases w2 j hj with w | ⟨q', q1, q2⟩
                · exact Or.inl w
                · exact Or.inr ⟨q', List.mem_cons_of_mem _ q1, q2⟩
              rcases List.mem_cons.mp hz with rfl | hz
              · refine ⟨kd', n, d, us, x.toNatClampNeg, y, g1, Nat.lt_of_lt_of_le hx.1 k1.1, ?_, y1, k3⟩
                rw [i2]
                show xi_z r ii = xi_z r' ii
                rw [xi_z, xi_z, k1.2 _ hx.1]
              · exact m3 z hz
            · cases h
          · cases h
    · cases h
  · cases h
/-- the cells behind a store into an array -/
theorem xh_seta (hh : xh_g r G e C) {a kd n p : Nat} {fs : List FT} {d : AV} {us us' : List (Nat × AV)} (hG : G a = some (.inr (kd, n, p, fs))) (hC : ea_nt C a = some (.inl (kd, n, d, us))) {e' : XE} (hel : ∀ j, j < n → el_g kd p fs j (ea_al d us' j) ∨ ∃ q ∈ e'.2.2.2.1, q.1 = a ∧ (j : Int) = xi_z r q.2.1) (hK : ∀ q ∈ e.2.2.2.1, q.1 ≠ a → q ∈ e'.2.2.2.1) (hO : e'.2.2.2.2 = e.2.2.2.2) (hR : ∀ q ∈ e'.2.2.2.1, (q ∈ e.2.2.2.1 ∧ q.1 ≠ a) ∨ xh_R r (C.set a (.inl (kd, n, d, us'))) q) : xh_g r G e' (C.set a (.inl (kd, n, d, us'))) := by
  refine ⟨fun b cj fs' hG' => ?_, fun b kd' n' p' fs' hG' => ?_, fun q hq => ?_⟩
  · obtain ⟨vs', n1, n2⟩ := hh.1 b cj fs' hG'
    have hab : a ≠ b := by rintro rfl; rw [hG] at hG'; cases hG'
    rw [hO]
    exact ⟨vs', by rw [nt_set_ne hab]; exact n1, n2⟩
  · by_cases hab : a = b
    · subst hab
      rw [hG] at hG'
      cases hG'
      exact ⟨d, us', nt_set_self hC, hel⟩
    · obtain ⟨d', us2, n1, n2⟩ := hh.2.1 b kd' n' p' fs' hG'
      refine ⟨d', us2, by rw [nt_set_ne hab]; exact n1, fun j hj => ?_⟩
      rcases n2 j hj with w | ⟨q, q1, q2, q3⟩
      · exact Or.inl w
      · exact Or.inr ⟨q, hK q q1 (by rw [q2]; exact fun h => hab h.symm), q2, q3⟩
  · rcases hR q hq with ⟨h1, h2⟩ | h1
    · obtain ⟨kd', n', d', us2, j, x, n1, n2⟩ := hh.2.2 q h1
      exact ⟨kd', n', d', us2, j, x, by rw [nt_set_ne (fun h => h2 h.symm)]; exact n1, n2⟩
    · exact h1
theorem xe_rf_mem {a : Nat} {q : Nat × XI × XI} (h : q ∈ (xe_rf e a).2.2.2.1) : q ∈ e.2.2.2.1 ∧ q.1 ≠ a := by
  have h' : q ∈ e.2.2.2.1.filter (fun q => !(Nat.beq q.1 a)) := h
  rw [List.mem_filter] at h'
  refine ⟨h'.1, ?_⟩
  rintro rfl
  have := h'.2
  rw [Nat.beq_refl] at this
  cases this
theorem xe_rf_in {a : Nat} {q : Nat × XI × XI} (h : q ∈ e.2.2.2.1) (hn : q.1 ≠ a) : q ∈ (xe_rf e a).2.2.2.1 := by
  show q ∈ e.2.2.2.1.filter (fun q => !(Nat.beq q.1 a))
  rw [List.mem_filter]
  refine ⟨h, ?_⟩
  cases hb : Nat.beq q.1 a with
  | false => rfl
  | true => exact absurd (Nat.eq_of_beq_eq_true hb) hn
/-- the same index -/
def xi_same (i j : XI) : Bool := Nat.beq i.2.1 j.2.1 && (decide (i.1 = j.1) && decide (i.2.2 = j.2.2))
theorem xi_same_ok {i j : XI} (h : xi_same i j = true) : i = j := by
  unfold xi_same at h
  simp only [Bool.and_eq_true, decide_eq_true_eq] at h
  obtain ⟨a1, a2, a3⟩ := i
  obtain ⟨b1, b2, b3⟩ := j
  obtain ⟨h1, h2, h3⟩ := h
  have h1' := Nat.eq_of_beq_eq_true h1
  dsimp only at h1' h2 h3
  subst h1' h2 h3
  rfl
/-- two indices that differ -/
def xi_dj (E : List (Nat × Int × Int)) (i j : XI) : Bool := match xi_bo E i, xi_bo E j with
  | some a, some b => decide (a.2 < b.1) || decide (b.2 < a.1)
  | _, _ => false
theorem xi_dj_ok (he : xe_g r e) {i j : XI} (h : xi_dj e.2.1 i j = true) : xi_z r i ≠ xi_z r j := by
  unfold xi_dj at h
  split at h
  · rename_i a b ha hb
    have h1 := xi_bo_ok he ha
    have h2 := xi_bo_ok he hb
    simp only [Bool.or_eq_true, decide_eq_true_eq] at h
    omega
  · cases h
/-- what is known of the elements that a store at i does not reach -/
def xe_rk (e : XE) (a : Nat) (i : XI) : XE := (e.1, e.2.1, e.2.2.1, e.2.2.2.1.filter (fun q => !(Nat.beq q.1 a) || xi_dj e.2.1 q.2.1 i), e.2.2.2.2)
theorem xe_rk_mem {a : Nat} {i : XI} {q : Nat × XI × XI} (h : q ∈ (xe_rk e a i).2.2.2.1) : q ∈ e.2.2.2.1 ∧ (q.1 ≠ a ∨ xi_dj e.2.1 q.2.1 i = true) := by
  have h' : q ∈ e.2.2.2.1.filter (fun q => !(Nat.beq q.1 a) || xi_dj e.2.1 q.2.1 i) := h
  rw [List.mem_filter] at h'
  refine ⟨h'.1, ?_⟩
  have h2 := h'.2
  simp only [Bool.or_eq_true] at h2
  rcases h2 with h2 | h2
  · left
    rintro rfl
    rw [Nat.beq_refl] at h2
    cases h2
  · exact Or.inr h2
theorem xe_rk_in {a : Nat} {i : XI} {q : Nat × XI × XI} (h : q ∈ e.2.2.2.1) (hn : q.1 ≠ a) : q ∈ (xe_rk e a i).2.2.2.1 := by
  show q ∈ e.2.2.2.1.filter (fun q => !(Nat.beq q.1 a) || xi_dj e.2.1 q.2.1 i)
  rw [List.mem_filter]
  refine ⟨h, ?_⟩
  cases hb : Nat.beq q.1 a with
  | false => rfl
  | true => exact absurd (Nat.eq_of_beq_eq_true hb) hn
/-- an int is stored -/
def xs_as (M : Nat → Bool) (G : Nat → Option CT) (pc : Nat) (S : List XV) (e : XE) : Option (Nat × List XV × XE) := match S with
  | .inl v :: .inl i :: .inr (.inl a) :: S => match G a with
    | some (.inr (0, n, p, fs)) => bif M a && (xs_ix e.2.1 i n && xR_c e.2.1 (e.2.2.2.1.filter (fun q => !xi_same q.2.1 i)) a p fs) then some (pc + 1, S, xe_r (xe_rk e a i) a i v) else none
    | _ => none
  | _ => none
theorem xs_as_ok {f : Nat × List XV × XE} (he : xe_g r e) (hs : xs_g r S cs) (hh : xh_g r G e C) (h : xs_as M G pc S e = some f) : xh_r r M G ini pl fty scr .iastore pc cs C f := by
  unfold xs_as at h
  split at h
  · rename_i v ii a S0
    split at h
    · rename_i n p fs hG
      cases hb : (M a && (xs_ix e.2.1 ii n && xR_c e.2.1 (e.2.2.2.1.filter (fun q => !xi_same q.2.1 ii)) a p fs)) with
      | false => rw [hb] at h; cases h
      | true =>
        rw [hb] at h
        cases h
        simp only [Bool.and_eq_true] at hb
        obtain ⟨hM, hix, hrc⟩ := hb
        obtain ⟨_, _, rfl, ⟨y, rfl, hy⟩, hs1⟩ := xs_pop hs
        obtain ⟨_, _, rfl, ⟨x, rfl, hx⟩, hs2⟩ := xs_pop hs1
        obtain ⟨v0, cs0, rfl, hv0, hs0⟩ := xs_pop hs2
        obtain rfl : v0 = .inr (.inl (some a)) := hv0
        obtain ⟨d, us, g1, g2⟩ := hh.2.1 a 0 n p fs hG
        obtain ⟨i1, i2, i3⟩ := xs_ix_ok he hix hx
        refine ⟨r, cs0, some (C.set a (.inl (0, n, d, (x.toNatClampNeg, .inl (.inl y)) :: us))), rn_le_rf r, he, hs0, ?_, fun b hb' => ?_, by simp only [ea_h, g1, i1]⟩
        · refine xh_seta hh hG g1 (fun j hj => ?_) (fun q q1 q2 => List.mem_cons_of_mem _ (xe_rk_in q1 q2)) rfl (fun q hq => ?_)
          · rw [ea_al_at]
            split
            · rename_i hjx
              subst hjx
              exact Or.inr ⟨_, List.mem_cons_self, rfl, i2⟩
            · rename_i hjx
              left
              rcases g2 j hj with w | ⟨q, q1, q2, q3⟩
              · exact w
              · have hns : xi_same q.2.1 ii = false := by
                  cases hsm : xi_same q.2.1 ii with
                  | false => rfl
                  | true =>
                    rw [xi_same_ok hsm] at q3
                    exact absurd (by omega) hjx
                have hm : q ∈ e.2.2.2.1.filter (fun q => !xi_same q.2.1 ii) := by
                  rw [List.mem_filter]
                  exact ⟨q1, by rw [hns]; rfl⟩
                exact xR_1_ok he (by decide) (hh.2.2 q q1) (by rw [q2]; exact g1) q3 (xR_c_mem hrc q hm q2)
          · rcases List.mem_cons.mp hq with rfl | hq
            · right
              refine ⟨0, n, d, _, x.toNatClampNeg, y, nt_set_self g1, hx.1, i2, ?_, hy⟩
              rw [ea_al_at, if_pos rfl]
            · obtain ⟨w1, w2⟩ := xe_rk_mem hq
              by_cases hqa : q.1 = a
              · right
                rcases w2 with w2 | w2
                · exact absurd hqa w2
                · obtain ⟨kd9, n9, d9, us9, j9, x9, z1, z2, z3, z4, z5⟩ := hh.2.2 q w1
                  rw [hqa, g1] at z1
                  cases z1
                  refine ⟨0, n, d, _, j9, x9, by rw [hqa]; exact nt_set_self g1, z2, z3, ?_, z5⟩
                  rw [ea_al_at, if_neg]
                  · exact z4
                  · intro hj9
                    exact xi_dj_ok he w2 (by rw [← z3, ← i2, hj9])
              · exact Or.inl ⟨w1, hqa⟩
        · show ea_nt (C.set a _) b = _
          have hab : a ≠ b := by rintro rfl; rw [hM] at hb'; cases hb'
          rw [nt_set_ne hab]
    · cases h
  · cases h
/-- a byte is stored -/
def xs_bs (M : Nat → Bool) (G : Nat → Option CT) (pc : Nat) (S : List XV) (e : XE) : Option (Nat × List XV × XE) := match S with
  | .inl _ :: .inl i :: .inr (.inl a) :: S => match G a with
    | some (.inr (2, n, p, fs)) => bif M a && xs_ix e.2.1 i n then bif xt_in fs (-128) 127 && (Nat.blt 0 p && (Nat.ble p fs.length && xR_c e.2.1 e.2.2.2.1 a p fs)) then some (pc + 1, S, xe_rf e a) else none
      else none
    | _ => none
  | _ => none
theorem xs_bs_ok {f : Nat × List XV × XE} (hny : ∀ x : Int32, -128 ≤ (vp_nar .byte x).toInt ∧ (vp_nar .byte x).toInt ≤ 127) (he : xe_g r e) (hs : xs_g r S cs) (hh : xh_g r G e C) (h : xs_bs M G pc S e = some f) : xh_r r M G ini pl fty scr .bastore pc cs C f := by
  unfold xs_bs at h
  split at h
  · rename_i v ii a S0
    split at h
    · rename_i n p fs hG
      cases hb : (M a && xs_ix e.2.1 ii n) with
      | false => rw [hb] at h; cases h
      | true =>
        rw [hb] at h
        simp only [cond_true] at h
        simp only [Bool.and_eq_true] at hb
        obtain ⟨hM, hix⟩ := hb
        cases hin' : (xt_in fs (-128) 127 && (Nat.blt 0 p && (Nat.ble p fs.length && xR_c e.2.1 e.2.2.2.1 a p fs))) with
        | false => rw [hin'] at h; cases h
        | true =>
          rw [hin'] at h
          cases h
          simp only [Bool.and_eq_true] at hin'
          obtain ⟨hin, hp0, hpl, hrc⟩ := hin'
          obtain ⟨_, _, rfl, ⟨y, rfl, hy⟩, hs1⟩ := xs_pop hs
          obtain ⟨_, _, rfl, ⟨x, rfl, hx⟩, hs2⟩ := xs_pop hs1
          obtain ⟨v0, cs0, rfl, hv0, hs0⟩ := xs_pop hs2
          obtain rfl : v0 = .inr (.inl (some a)) := hv0
          obtain ⟨d, us, g1, g2⟩ := hh.2.1 a 2 n p fs hG
          obtain ⟨i1, i2, i3⟩ := xs_ix_ok he hix hx
          refine ⟨r, cs0, some (C.set a (.inl (2, n, d, (x.toNatClampNeg, .inl (.inl (vp_nar .byte y))) :: us))), rn_le_rf r, he, hs0, ?_, fun b hb' => ?_, by simp only [ea_h, g1, i1, ea_i1]⟩
          · refine xh_seta hh hG g1 (fun j hj => Or.inl ?_) (fun q q1 q2 => xe_rf_in q1 q2) rfl (fun q hq => Or.inl (xe_rf_mem hq))
            rw [ea_al_at]
            split
            · rename_i hjx
              subst hjx
              obtain ⟨f0, f1⟩ := nt_some (l := fs) (k := x.toNatClampNeg % p) (Nat.lt_of_lt_of_le (Nat.mod_lt _ (blt_lt hp0)) (Nat.le_of_ble_eq_true hpl))
              exact el_put (by decide) ⟨f0, f1, xt_in_ok hin (nt_mem f1) (hny y).1 (hny y).2⟩
            · rcases g2 j hj with w | ⟨q, q1, q2, q3⟩
              · exact w
              · exact xR_1_ok he (by decide) (hh.2.2 q q1) (by rw [q2]; exact g1) q3 (xR_c_mem hrc q q1 q2)
          · show ea_nt (C.set a _) b = _
            have hab : a ≠ b := by rintro rfl; rw [hM] at hb'; cases hb'
            rw [nt_set_ne hab]
    · cases h
  · cases h
/-- longs -/
def xs_ll (G : Nat → Option CT) (pc : Nat) (S : List XV) (e : XE) : Option (Nat × List XV × XE) := match S with
  | .inl i :: .inr (.inl a) :: S => match G a with
    | some (.inr (1, n, _, _)) => bif xs_ix e.2.1 i n && xR_n e.2.2.2.1 a then some (pc + 1, .inr (.inr 0) :: S, e) else none
    | _ => none
  | _ => none
theorem xs_ll_ok {f : Nat × List XV × XE} (he : xe_g r e) (hs : xs_g r S cs) (hh : xh_g r G e C) (h : xs_ll G pc S e = some f) : xh_r r M G ini pl fty scr .laload pc cs C f := by
  unfold xs_ll at h
  split at h
  · rename_i ii a S0
    split at h
    · rename_i n p fs hG
      cases hix' : (xs_ix e.2.1 ii n && xR_n e.2.2.2.1 a) with
      | false => rw [hix'] at h; cases h
      | true =>
        rw [hix'] at h
        cases h
        simp only [Bool.and_eq_true] at hix'
        obtain ⟨hix, hrn⟩ := hix'
        obtain ⟨_, _, rfl, ⟨x, rfl, hx⟩, hs1⟩ := xs_pop hs
        obtain ⟨v0, cs0, rfl, hv0, hs0⟩ := xs_pop hs1
        obtain rfl : v0 = .inr (.inl (some a)) := hv0
        obtain ⟨d, us, g1, g2⟩ := hh.2.1 a 1 n p fs hG
        obtain ⟨i1, i2, i3⟩ := xs_ix_ok he hix hx
        obtain ⟨y, hy⟩ : ∃ y : Int64, ea_al d us x.toNatClampNeg = .inr (.inr (.inl (some y))) := (g2 _ i3).elim id (fun ⟨q, q1, q2, _⟩ => absurd q2 (xR_n_ok hrn q q1))
        exact ⟨r, _, none, rn_le_rf r, he, xs_cons (xv_gl r y) hs0, hh, fun _ _ => rfl, by simp only [ea_h, g1, i1, hy]⟩
    · cases h
  · cases h
def xs_lst (M : Nat → Bool) (G : Nat → Option CT) (pc : Nat) (S : List XV) (e : XE) : Option (Nat × List XV × XE) := match S with
  | .inr (.inr 0) :: .inl i :: .inr (.inl a) :: S => match G a with
    | some (.inr (1, n, _, _)) => bif M a && (xs_ix e.2.1 i n && xR_n e.2.2.2.1 a) then some (pc + 1, S, xe_rf e a) else none
    | _ => none
  | _ => none
theorem xs_lst_ok {f : Nat × List XV × XE} (he : xe_g r e) (hs : xs_g r S cs) (hh : xh_g r G e C) (h : xs_lst M G pc S e = some f) : xh_r r M G ini pl fty scr .lastore pc cs C f := by
  unfold xs_lst at h
  split at h
  · rename_i ii a S0
    split at h
    · rename_i n p fs hG
      cases hb : (M a && (xs_ix e.2.1 ii n && xR_n e.2.2.2.1 a)) with
      | false => rw [hb] at h; cases h
      | true =>
        rw [hb] at h
        cases h
        simp only [Bool.and_eq_true] at hb
        obtain ⟨hM, hix, hrn⟩ := hb
        obtain ⟨_, _, rfl, ⟨y, rfl⟩, hs1⟩ := xs_pop hs
        obtain ⟨_, _, rfl, ⟨x, rfl, hx⟩, hs2⟩ := xs_pop hs1
        obtain ⟨v0, cs0, rfl, hv0, hs0⟩ := xs_pop hs2
        obtain rfl : v0 = .inr (.inl (some a)) := hv0
        obtain ⟨d, us, g1, g2⟩ := hh.2.1 a 1 n p fs hG
        obtain ⟨i1, i2, i3⟩ := xs_ix_ok he hix hx
        refine ⟨r, cs0, some (C.set a (.inl (1, n, d, (x.toNatClampNeg, .inr (.inr (.inl (some y)))) :: us))), rn_le_rf r, he, hs0, ?_, fun b hb' => ?_, by simp only [ea_h, g1, i1]⟩
        · refine xh_seta hh hG g1 (fun j hj => Or.inl ?_) (fun q q1 q2 => xe_rf_in q1 q2) rfl (fun q hq => Or.inl (xe_rf_mem hq))
          rw [ea_al_at]
          split
          · exact ⟨y, rfl⟩
          · exact (g2 j hj).elim id (fun ⟨q, q1, q2, _⟩ => absurd q2 (xR_n_ok hrn q q1))
        · show ea_nt (C.set a _) b = _
          have hab : a ≠ b := by rintro rfl; rw [hM] at hb'; cases hb'
          rw [nt_set_ne hab]
    · cases h
  · cases h
/-- references: by a known index -/
def xs_aa (G : Nat → Option CT) (pc : Nat) (S : List XV) (e : XE) : Option (Nat × List XV × XE) := match S with
  | .inl i :: .inr (.inl a) :: S => match G a with
    | some (.inr (_ + 3, n, p, fs)) => if i.1 = 0 ∧ 0 ≤ i.2.2 ∧ i.2.2 < n ∧ xR_n e.2.2.2.1 a = true then match ea_nt fs (i.2.2.toNat % p) with
        | some (.inr k) => some (pc + 1, .inr (.inl k) :: S, e)
        | _ => none
      else none
    | _ => none
  | _ => none
theorem xs_aa_ok {f : Nat × List XV × XE} (he : xe_g r e) (hs : xs_g r S cs) (hh : xh_g r G e C) (h : xs_aa G pc S e = some f) : xh_r r M G ini pl fty scr .aaload pc cs C f := by
  unfold xs_aa at h
  split at h
  · rename_i ii a S0
    split at h
    · rename_i kd n p fs hG
      split at h
      · rename_i hc
        split at h
        · rename_i k hk
          cases h
          obtain ⟨_, _, rfl, ⟨x, rfl, hx⟩, hs1⟩ := xs_pop hs
          obtain ⟨v0, cs0, rfl, hv0, hs0⟩ := xs_pop hs1
          obtain rfl : v0 = .inr (.inl (some a)) := hv0
          obtain ⟨d, us, g1, g2⟩ := hh.2.1 a (kd + 3) n p fs hG
          have hz : x.toInt = ii.2.2 := by
            rw [hx.2, xi_z, hc.1]
            omega
          obtain ⟨i1, i2, i3⟩ := ix_ok (x := x) (n := n) (by omega) (by omega)
          obtain ⟨f0, f1, f2⟩ := el_get (by omega) ((g2 _ i3).elim id (fun ⟨q, q1, q2, _⟩ => absurd q2 (xR_n_ok hc.2.2.2 q q1)))
          have : x.toNatClampNeg = ii.2.2.toNat := by omega
          rw [← this, f1] at hk
          cases hk
          exact ⟨r, _, none, rn_le_rf r, he, xs_cons (a := .inr (.inl k)) rfl hs0, hh, fun _ _ => rfl, by simp only [ea_h, g1, i1, show ea_al d us x.toNatClampNeg = .inr (.inl (some k)) from f2]⟩
        · cases h
      · cases h
    · cases h
  · cases h
def xs_len (G : Nat → Option CT) (pc : Nat) (S : List XV) (e : XE) : Option (Nat × List XV × XE) := match S with
  | .inr (.inl a) :: S => match G a with
    | some (.inr (_, n, _, _)) => some (pc + 1, .inl (0, 0, (Int32.ofNat n).toInt) :: S, e)
    | _ => none
  | _ => none
theorem xs_len_ok {f : Nat × List XV × XE} (he : xe_g r e) (hs : xs_g r S cs) (hh : xh_g r G e C) (h : xs_len G pc S e = some f) : xh_r r M G ini pl fty scr .arraylength pc cs C f := by
  unfold xs_len at h
  split at h
  · rename_i a S0
    split at h
    · rename_i kd n p fs hG
      cases h
      obtain ⟨v0, cs0, rfl, hv0, hs0⟩ := xs_pop hs
      obtain rfl : v0 = .inr (.inl (some a)) := hv0
      obtain ⟨d, us, g1, g2⟩ := hh.2.1 a kd n p fs hG
      exact ⟨r, _, none, rn_le_rf r, he, xs_cons (xv_gi (xi_c he (Int32.ofNat n))) hs0, hh, fun _ _ => rfl, by simp only [ea_h, g1]⟩
    · cases h
  · cases h
end XA
