section
/-! THE CHECKER WITH RELATIONS: places of cells, and ghosts (numbers that the cells give: the cells from 999 on) -/
/-- what stands at a place of a cell -/
def cv (C : List AC) (a k : Nat) : Option AV := match ea_nt C a with
  | some (.inr o) => ea_nt o.2 k
  | some (.inl q) => bif Nat.blt k q.2.1 then some (ea_al q.2.2.1 q.2.2.2 k) else none
  | none => none
abbrev GH : Type := Nat → List AC → Int
def pv (GF : GH) (C : List AC) (a k : Nat) (z : Int) : Prop := if 999 ≤ a then GF a C = z else ∃ x : Int32, cv C a k = some (.inl (.inl x)) ∧ x.toInt = z
theorem pv_one {GF : GH} {C : List AC} {a k : Nat} {z z' : Int} (h : pv GF C a k z) (h' : pv GF C a k z') : z = z' := by
  unfold pv at h h'
  split at h
  · rw [if_pos (by assumption)] at h'
    rw [← h, ← h']
  · rw [if_neg (by assumption)] at h'
    obtain ⟨x, h1, h2⟩ := h
    obtain ⟨y, h3, h4⟩ := h'
    rw [h1] at h3
    cases h3
    rw [← h2, ← h4]
theorem cv_eq {C C' : List AC} {a : Nat} (h : ea_nt C' a = ea_nt C a) (k : Nat) : cv C' a k = cv C a k := by
  unfold cv
  rw [h]
/-- bounds without an int32 -/
def xi_w (E : List (Nat × Int × Int)) (x : XI) (lo hi : Int) : Bool := match xi_bo E x with
  | some q => decide (lo ≤ q.1) && decide (q.2 ≤ hi)
  | none => false
theorem xi_w_ok {r : RN} {e : XE} (he : xe_g r e) {x : XI} {lo hi : Int} (h : xi_w e.2.1 x lo hi = true) : lo ≤ xi_z r x ∧ xi_z r x ≤ hi := by
  unfold xi_w at h
  split at h
  · rename_i q hq
    have b := xi_bo_ok he hq
    simp only [Bool.and_eq_true, decide_eq_true_eq] at h
    omega
  · cases h
def om (a b : Option Int) : Option Int := match a with
  | some x => match b with
    | some y => some (if x ≤ y then x else y)
    | none => some x
  | none => b
theorem om_ok {a b : Option Int} {z d : Int} (ha : ∀ d, a = some d → z ≤ d) (hb : ∀ d, b = some d → z ≤ d) (h : om a b = some d) : z ≤ d := by
  unfold om at h
  split at h
  · rename_i x
    split at h
    · rename_i y
      have h1 := ha x rfl
      have h2 := hb y rfl
      cases h
      split <;> omega
    · cases h
      exact ha _ rfl
  · exact hb _ h
/-- the least of the differences that are known -/
def xe_m (D : List (Nat × Nat × Int)) (a b : Nat) : Option Int := match D with
  | [] => none
  | q :: t => bif Nat.beq q.1 a && Nat.beq q.2.1 b then om (some q.2.2) (xe_m t a b) else xe_m t a b
theorem xe_m_ok {r : RN} {e : XE} (he : xe_g r e) {a b : Nat} : ∀ {D : List (Nat × Nat × Int)} {d : Int}, (∀ q ∈ D, q ∈ e.2.2.1) → xe_m D a b = some d → r.1 a - r.1 b ≤ d
  | [], d, _, h => by cases h
  | q :: t, d, hs, h => by
    unfold xe_m at h
    cases hb : (Nat.beq q.1 a && Nat.beq q.2.1 b) with
    | false =>
      rw [hb] at h
      exact xe_m_ok he (fun p hp => hs p (List.mem_cons_of_mem _ hp)) h
    | true =>
      rw [hb] at h
      simp only [Bool.and_eq_true] at hb
      have e1 := Nat.eq_of_beq_eq_true hb.1
      have e2 := Nat.eq_of_beq_eq_true hb.2
      refine om_ok (a := some q.2.2) (b := xe_m t a b) (fun d' hd' => ?_) (fun d' hd' => xe_m_ok he (fun p hp => hs p (List.mem_cons_of_mem _ hp)) hd') h
      cases hd'
      have h3 := (he.2.2.2 q (hs q List.mem_cons_self)).2.2
      rw [← e1, ← e2]
      exact h3
def xd_b (E : List (Nat × Int × Int)) (i j : XI) : Option Int := match xi_bo E i, xi_bo E j with
  | some a, some b => some (a.2 - b.1)
  | _, _ => none
/-- at most so much is i above j -/
def xd_u (e : XE) (i j : XI) : Option Int :=
  if i.2.1 = j.2.1 then om (xd_b e.2.1 i j) (match xi_bo e.2.1 (i.1 - j.1, i.2.1, i.2.2 - j.2.2) with
    | some b => some b.2
    | none => none)
  else if i.1 = 1 ∧ j.1 = 1 then om (xd_b e.2.1 i j) (match xe_m e.2.2.1 i.2.1 j.2.1 with
    | some k => some (k + i.2.2 - j.2.2)
    | none => none) else xd_b e.2.1 i j
theorem xd_b_ok {r : RN} {e : XE} (he : xe_g r e) {i j : XI} {d : Int} (h : xd_b e.2.1 i j = some d) : xi_z r i - xi_z r j ≤ d := by
  unfold xd_b at h
  split at h
  · rename_i a b ha hb
    cases h
    have h1 := xi_bo_ok he ha
    have h2 := xi_bo_ok he hb
    omega
  · cases h
theorem xd_u_ok {r : RN} {e : XE} (he : xe_g r e) {i j : XI} {d : Int} (h : xd_u e i j = some d) : xi_z r i - xi_z r j ≤ d := by
  unfold xd_u at h
  split at h
  · rename_i hs
    refine om_ok (fun d' hd' => xd_b_ok he hd') (fun d' hd' => ?_) h
    split at hd'
    · rename_i b hb
      cases hd'
      have h1 := (xi_bo_ok he hb).2
      unfold xi_z at h1 ⊢
      dsimp only at h1
      rw [Int.sub_mul] at h1
      rw [← hs]
      omega
    · cases hd'
  · split at h
    · rename_i hc
      refine om_ok (fun d' hd' => xd_b_ok he hd') (fun d' hd' => ?_) h
      split at hd'
      · rename_i k hk
        cases hd'
        have h1 := xe_m_ok he (fun _ hq => hq) hk
        unfold xi_z
        rw [hc.1, hc.2]
        omega
      · cases hd'
    · exact xd_b_ok he h
/-- what a relation tells -/
def xq_hi (e : XE) (i : XI) (h : Option (Int × Int)) (k : Int) : XE := if i.1 = 1 then match xe_k e.2.1 i.2.1, h with
  | some q, some p => if p.2 + k - i.2.2 < q.2 then (e.1, (i.2.1, q.1, p.2 + k - i.2.2) :: e.2.1, e.2.2) else e
  | _, _ => e
  else e
def xq_lo (e : XE) (i : XI) (h : Option (Int × Int)) (k : Int) : XE := if i.1 = 1 then match xe_k e.2.1 i.2.1, h with
  | some q, some p => if q.1 < p.1 - k - i.2.2 then (e.1, (i.2.1, p.1 - k - i.2.2, q.2) :: e.2.1, e.2.2) else e
  | _, _ => e
  else e
theorem xq_hi_ok {r : RN} {e : XE} (he : xe_g r e) {i : XI} {h : Option (Int × Int)} {k : Int} (hh : ∀ p, h = some p → xi_z r i ≤ p.2 + k) : xe_g r (xq_hi e i h k) ∧ (xq_hi e i h k).2.2 = e.2.2 := by
  unfold xq_hi
  split
  · rename_i h1
    split
    · rename_i q p hq
      split
      · refine ⟨⟨he.1, he.2.1, fun z hz => ?_, he.2.2.2⟩, rfl⟩
        rcases List.mem_cons.mp hz with rfl | hz
        · obtain ⟨a1, a2, a3⟩ := he.2.2.1 _ (xe_k_mem hq)
          have h2 := hh p rfl
          unfold xi_z at h2
          rw [h1] at h2
          dsimp only at a1 a2 a3 ⊢
          exact ⟨a1, a2, by omega⟩
        · exact he.2.2.1 z hz
      · exact ⟨he, rfl⟩
    · exact ⟨he, rfl⟩
  · exact ⟨he, rfl⟩
theorem xq_lo_ok {r : RN} {e : XE} (he : xe_g r e) {i : XI} {h : Option (Int × Int)} {k : Int} (hh : ∀ p, h = some p → p.1 - k ≤ xi_z r i) : xe_g r (xq_lo e i h k) ∧ (xq_lo e i h k).2.2 = e.2.2 := by
  unfold xq_lo
  split
  · rename_i h1
    split
    · rename_i q p hq
      split
      · refine ⟨⟨he.1, he.2.1, fun z hz => ?_, he.2.2.2⟩, rfl⟩
        rcases List.mem_cons.mp hz with rfl | hz
        · obtain ⟨a1, a2, a3⟩ := he.2.2.1 _ (xe_k_mem hq)
          have h2 := hh p rfl
          unfold xi_z at h2
          rw [h1] at h2
          dsimp only at a1 a2 a3 ⊢
          exact ⟨a1, by omega, a3⟩
        · exact he.2.2.1 z hz
      · exact ⟨he, rfl⟩
    · exact ⟨he, rfl⟩
  · exact ⟨he, rfl⟩
/-- a difference, and what follows with those that are known -/
def xq_l (D : List (Nat × Nat × Int)) (a b : Nat) (k : Int) : List (Nat × Nat × Int) := match D with
  | [] => []
  | q :: t => bif Nat.beq q.2.1 a then (q.1, b, q.2.2 + k) :: xq_l t a b k else bif Nat.beq q.1 b then (a, q.2.1, k + q.2.2) :: xq_l t a b k else xq_l t a b k
theorem xq_l_ok {r : RN} {a b : Nat} {k : Int} (ha : a < r.2) (hb : b < r.2) (hk : r.1 a - r.1 b ≤ k) : ∀ {D : List (Nat × Nat × Int)}, (∀ q ∈ D, q.1 < r.2 ∧ q.2.1 < r.2 ∧ r.1 q.1 - r.1 q.2.1 ≤ q.2.2) → ∀ q ∈ xq_l D a b k, q.1 < r.2 ∧ q.2.1 < r.2 ∧ r.1 q.1 - r.1 q.2.1 ≤ q.2.2
  | [], _, q, hq => nomatch hq
  | p :: t, hD, q, hq => by
    have ih := xq_l_ok ha hb hk (D := t) (fun z hz => hD z (List.mem_cons_of_mem _ hz))
    obtain ⟨p1, p2, p3⟩ := hD p List.mem_cons_self
    unfold xq_l at hq
    cases h1 : Nat.beq p.2.1 a with
    | true =>
      rw [h1] at hq
      simp only [cond_true] at hq
      have e1 := Nat.eq_of_beq_eq_true h1
      rcases List.mem_cons.mp hq with rfl | hq
      · dsimp only
        rw [e1] at p3
        exact ⟨p1, hb, by omega⟩
      · exact ih q hq
    | false =>
      rw [h1] at hq
      simp only [cond_false] at hq
      cases h2 : Nat.beq p.1 b with
      | true =>
        rw [h2] at hq
        simp only [cond_true] at hq
        have e1 := Nat.eq_of_beq_eq_true h2
        rcases List.mem_cons.mp hq with rfl | hq
        · dsimp only
          rw [e1] at p3
          exact ⟨ha, p2, by omega⟩
        · exact ih q hq
      | false =>
        rw [h2] at hq
        exact ih q hq
def xq_d (e : XE) (i j : XI) (k : Int) : XE := if i.1 = 1 ∧ j.1 = 1 ∧ i.2.1 ≠ j.2.1 then (e.1, e.2.1, (i.2.1, j.2.1, k + j.2.2 - i.2.2) :: (xq_l e.2.2.1 i.2.1 j.2.1 (k + j.2.2 - i.2.2) ++ e.2.2.1), e.2.2.2) else e
theorem xq_d_ok {r : RN} {e : XE} (he : xe_g r e) {i j : XI} (hi : i.2.1 < r.2) (hj : j.2.1 < r.2) {k : Int} (hh : xi_z r i - xi_z r j ≤ k) : xe_g r (xq_d e i j k) ∧ (xq_d e i j k).2.2.2 = e.2.2.2 := by
  unfold xq_d
  split
  · rename_i hc
    have hk : r.1 i.2.1 - r.1 j.2.1 ≤ k + j.2.2 - i.2.2 := by
      unfold xi_z at hh
      rw [hc.1, hc.2.1] at hh
      omega
    refine ⟨⟨he.1, he.2.1, he.2.2.1, fun q hq => ?_⟩, rfl⟩
    rcases List.mem_cons.mp hq with rfl | hq
    · exact ⟨hi, hj, hk⟩
    · rcases List.mem_append.mp hq with hq | hq
      · exact xq_l_ok hi hj hk he.2.2.2 q hq
      · exact he.2.2.2 q hq
  · exact ⟨he, rfl⟩
def xq_no (d : Option Int) (k : Int) : Bool := match d with
  | some d => decide (k < -d)
  | none => false
/-- i is above j by k at most; none: it cannot be -/
def xq_le (e : XE) (i j : XI) (k : Int) : Option XE := bif xq_no (xd_u e j i) k then none else some (xq_d (xq_lo (xq_hi e i (xi_bo e.2.1 j) k) j (xi_bo e.2.1 i) k) i j k)
theorem xq_le_ok {r : RN} {e : XE} (he : xe_g r e) {i j : XI} (hi : i.2.1 < r.2) (hj : j.2.1 < r.2) {k : Int} (hh : xi_z r i - xi_z r j ≤ k) : ∃ e', xq_le e i j k = some e' ∧ xe_g r e' ∧ e'.2.2.2 = e.2.2.2 := by
  unfold xq_le
  cases hn : xq_no (xd_u e j i) k with
  | true =>
    exfalso
    unfold xq_no at hn
    split at hn
    · rename_i d hd
      have h1 := xd_u_ok he hd
      simp only [decide_eq_true_eq] at hn
      omega
    · cases hn
  | false =>
    obtain ⟨a1, a2⟩ := xq_hi_ok (h := xi_bo e.2.1 j) (k := k) he (i := i) (fun p hp => by have := xi_bo_ok he hp; omega)
    obtain ⟨b1, b2⟩ := xq_lo_ok (h := xi_bo e.2.1 i) (k := k) a1 (i := j) (fun p hp => by have := xi_bo_ok he hp; omega)
    obtain ⟨c1, c2⟩ := xq_d_ok b1 hi hj hh
    exact ⟨_, rfl, c1, by rw [c2, b2, a2]⟩
/-- the ghosts that are known -/
def gh_g (r : RN) (GF : GH) (e : XE) (C : List AC) : Prop := ∀ a k x, 999 ≤ a → xo_k e.2.2.2.2 a k = some x → x.2.1 < r.2 ∧ xi_z r x = GF a C
theorem gh_g_mono {r r' : RN} (h : rn_le r r') {GF : GH} {e e' : XE} (he : e'.2.2.2 = e.2.2.2) {C : List AC} (hg : gh_g r GF e C) : gh_g r' GF e' C := by
  intro a k x ha hx
  rw [he] at hx
  obtain ⟨h1, h2⟩ := hg a k x ha hx
  refine ⟨Nat.lt_of_lt_of_le h1 h.1, ?_⟩
  rw [← h2, xi_z, xi_z, h.2 _ h1]
/-- a place that is known -/
def xp_k (G : Nat → Option CT) (e : XE) (a k : Nat) : Option XI := bif Nat.ble 999 a then xo_k e.2.2.2.2 a k else match G a with
  | some (.inl (_, fs)) => bif Nat.blt k fs.length then xo_k e.2.2.2.2 a k else none
  | some (.inr (_, n, _, _)) => bif Nat.blt k n then xR_k e.2.2.2.1 a (0, 0, (k : Int)) else none
  | none => none
theorem xp_k_ok {r : RN} {GF : GH} {G : Nat → Option CT} {e : XE} {C : List AC} (hh : xh_g r G e C) (hg : gh_g r GF e C) {a k : Nat} {x : XI} (h : xp_k G e a k = some x) : x.2.1 < r.2 ∧ pv GF C a k (xi_z r x) := by
  unfold xp_k at h
  cases h9 : Nat.ble 999 a with
  | true =>
    rw [h9] at h
    obtain ⟨h1, h2⟩ := hg a k x (Nat.le_of_ble_eq_true h9) h
    refine ⟨h1, ?_⟩
    unfold pv
    rw [if_pos (Nat.le_of_ble_eq_true h9), h2]
  | false =>
    rw [h9] at h
    simp only [cond_false] at h
    have hne : ¬ 999 ≤ a := fun hc => by
      rw [Nat.ble_eq_true_of_le hc] at h9
      cases h9
    unfold pv
    rw [if_neg hne]
    split at h
    · rename_i ci fs hG
      cases hb : Nat.blt k fs.length with
      | false => rw [hb] at h; cases h
      | true =>
        rw [hb] at h
        simp only [cond_true] at h
        obtain ⟨vs, g1, g2, g3⟩ := hh.1 a ci fs hG
        obtain ⟨f0, hf0⟩ := nt_some (blt_lt hb)
        obtain ⟨v, j1, j2⟩ := g3 k f0 hf0
        rw [h] at j2
        obtain ⟨y, rfl, hy⟩ : ∃ y : Int32, v = .inl (.inl y) ∧ xi_g r x y := j2
        refine ⟨hy.1, y, ?_, hy.2⟩
        unfold cv
        rw [g1]
        exact j1
    · rename_i kd n p fs hG
      cases hb : Nat.blt k n with
      | false => rw [hb] at h; cases h
      | true =>
        rw [hb] at h
        simp only [cond_true] at h
        obtain ⟨d, us, g1, -⟩ := hh.2.1 a kd n p fs hG
        obtain ⟨kd2, n2, d2, us2, j, y, j1, j2, j3, j4, j5⟩ := hh.2.2 _ (xR_k_mem h)
        dsimp only at j1 j2 j3 j4 j5
        rw [g1] at j1
        cases j1
        have hj : j = k := by
          unfold xi_z at j3
          dsimp only at j3
          omega
        subst hj
        refine ⟨j5.1, y, ?_, j5.2⟩
        unfold cv
        rw [g1]
        dsimp only
        rw [hb, j4]
        rfl
    · cases h
/-- a place becomes known -/
def xp_i (G : Nat → Option CT) (e : XE) (a k : Nat) (x : XI) : XE := bif Nat.ble 999 a then xe_o e a k x else match G a with
  | some (.inl _) => xe_o e a k x
  | some (.inr _) => xe_r e a (0, 0, (k : Int)) x
  | none => e
theorem xp_i_ok {r : RN} {GF : GH} {G : Nat → Option CT} (h9 : ∀ b, 999 ≤ b → G b = none) {e : XE} {C : List AC} (he : xe_g r e) (hh : xh_g r G e C) (hg : gh_g r GF e C) {a k : Nat} {x : XI} (hx : x.2.1 < r.2) (hp : pv GF C a k (xi_z r x)) : xe_g r (xp_i G e a k x) ∧ xh_g r G (xp_i G e a k x) C ∧ gh_g r GF (xp_i G e a k x) C := by
  unfold xp_i
  unfold pv at hp
  cases hb : Nat.ble 999 a with
  | true =>
    have hge := Nat.le_of_ble_eq_true hb
    simp only [cond_true]
    rw [if_pos hge] at hp
    refine ⟨he, ⟨fun b cj fs' hG' => ?_, hh.2.1, hh.2.2⟩, fun a' k' x' ha' hx' => ?_⟩
    · obtain ⟨vs', n1, n2, n3⟩ := hh.1 b cj fs' hG'
      refine ⟨vs', n1, n2, fun k' f' hf' => ?_⟩
      obtain ⟨v', o1, o2⟩ := n3 k' f' hf'
      refine ⟨v', o1, ?_⟩
      show xh_f r (xo_k ((a, k, x) :: e.2.2.2.2) b k') f' v'
      rw [xo_k_cons, if_neg]
      · exact o2
      · rintro ⟨rfl, -⟩
        rw [h9 _ hge] at hG'
        cases hG'
    · have hx2 : xo_k ((a, k, x) :: e.2.2.2.2) a' k' = some x' := hx'
      rw [xo_k_cons] at hx2
      split at hx2
      · rename_i hc
        cases hx2
        rw [← hc.1]
        exact ⟨hx, hp.symm⟩
      · exact hg a' k' x' ha' hx2
  | false =>
    simp only [cond_false]
    have hne : ¬ 999 ≤ a := fun hc => by
      rw [Nat.ble_eq_true_of_le hc] at hb
      cases hb
    rw [if_neg hne] at hp
    obtain ⟨y, hy1, hy2⟩ := hp
    split
    · rename_i q hG
      obtain ⟨ci, fs⟩ := q
      obtain ⟨vs, g1, g2, g3⟩ := hh.1 a ci fs hG
      have hfd : fd_g C a k y := by
        unfold cv at hy1
        rw [g1] at hy1
        exact ⟨ci, vs, g1, hy1⟩
      refine ⟨he, xe_o_h hh hfd ⟨hx, hy2⟩, fun a' k' x' ha' hx' => ?_⟩
      have hx2 : xo_k ((a, k, x) :: e.2.2.2.2) a' k' = some x' := hx'
      rw [xo_k_cons, if_neg (fun hc => hne (by rw [hc.1]; exact ha'))] at hx2
      exact hg a' k' x' ha' hx2
    · rename_i q hG
      obtain ⟨kd, n, p, fs⟩ := q
      obtain ⟨d, us, g1, g2⟩ := hh.2.1 a kd n p fs hG
      unfold cv at hy1
      rw [g1] at hy1
      dsimp only at hy1
      cases hbl : Nat.blt k n with
      | false => rw [hbl] at hy1; cases hy1
      | true =>
        rw [hbl] at hy1
        simp only [cond_true, Option.some.injEq] at hy1
        refine ⟨he, ⟨hh.1, fun b kd2 n2 p2 fs2 hG2 => ?_, fun z hz => ?_⟩, hg⟩
        · obtain ⟨d2, us2, w1, w2⟩ := hh.2.1 b kd2 n2 p2 fs2 hG2
          refine ⟨d2, us2, w1, fun j hj => ?_⟩
          rcases w2 j hj with w | ⟨q', q1, q2⟩
          · exact Or.inl w
          · exact Or.inr ⟨q', List.mem_cons_of_mem _ q1, q2⟩
        · rcases List.mem_cons.mp hz with rfl | hz
          · refine ⟨kd, n, d, us, k, y, g1, he.1, ?_, hy1, hx, hy2⟩
            unfold xi_z
            dsimp only
            omega
          · exact hh.2.2 z hz
    · exact ⟨he, hh, hg⟩
end
section
/-! THE CHECKER WITH RELATIONS: sources (a local, the n-th place at the entry, a place now), relations between them -/
abbrev SP : Type := Nat ⊕ (Nat ⊕ (Nat × Nat))
abbrev RL : Type := SP × SP × Int
abbrev PB : Type := Nat × Nat × Int × Int
def sp_g (GF : GH) (cl : List (Nat × AV)) (EV : List Int) (C : List AC) (s : SP) (z : Int) : Prop := match s with
  | .inl k => ∃ x : Int32, ea_lk cl k = some (.inl (.inl x)) ∧ x.toInt = z
  | .inr (.inl j) => ea_nt EV j = some z
  | .inr (.inr q) => pv GF C q.1 q.2 z
theorem sp_one {GF : GH} {cl : List (Nat × AV)} {EV : List Int} {C : List AC} {s : SP} {z z' : Int} (h : sp_g GF cl EV C s z) (h' : sp_g GF cl EV C s z') : z = z' := by
  match s, h, h' with
  | .inl k, ⟨x, h1, h2⟩, ⟨y, h3, h4⟩ =>
    rw [h1] at h3
    cases h3
    rw [← h2, ← h4]
  | .inr (.inl j), h, h' =>
    have h1 : ea_nt EV j = some z := h
    have h2 : ea_nt EV j = some z' := h'
    rw [h1] at h2
    cases h2
    rfl
  | .inr (.inr q), h, h' => exact pv_one (show pv GF C q.1 q.2 z from h) h'
/-- the places at the entry: what stands for them -/
def en_g (r : RN) (en : List XI) (EV : List Int) : Prop := ea_rl (fun (x : XI) (z : Int) => x.2.1 < r.2 ∧ xi_z r x = z) en EV
theorem en_g_mono {r r' : RN} (h : rn_le r r') {en : List XI} {EV : List Int} (he : en_g r en EV) : en_g r' en EV := ea_rl_mono (fun x z hq => ⟨Nat.lt_of_lt_of_le hq.1 h.1, by rw [← hq.2, xi_z, xi_z, h.2 _ hq.1]⟩) he
def sp_x (G : Nat → Option CT) (L : List (Nat × XV)) (en : List XI) (e : XE) (s : SP) : Option XI := match s with
  | .inl k => match xl_k L k with
    | some (.inl x) => some x
    | _ => none
  | .inr (.inl j) => ea_nt en j
  | .inr (.inr q) => xp_k G e q.1 q.2
theorem sp_x_ok {r : RN} {GF : GH} {G : Nat → Option CT} {L : List (Nat × XV)} {cl : List (Nat × AV)} {en : List XI} {EV : List Int} {e : XE} {C : List AC} (hl : xl_g r L cl) (hn : en_g r en EV) (hh : xh_g r G e C) (hg : gh_g r GF e C) {s : SP} {x : XI} (h : sp_x G L en e s = some x) : x.2.1 < r.2 ∧ sp_g GF cl EV C s (xi_z r x) := by
  match s, h with
  | .inl k, h =>
    unfold sp_x at h
    dsimp only at h
    split at h
    · rename_i a ha
      cases h
      obtain ⟨v, h1, y, rfl, hy⟩ := xl_k_ok hl ha
      exact ⟨hy.1, y, h1, hy.2⟩
    · cases h
  | .inr (.inl j), h =>
    have h' : ea_nt en j = some x := h
    rw [ea_nt_eq] at h'
    obtain ⟨z, h1, h2, h3⟩ := ea_rl_get hn h'
    refine ⟨h2, ?_⟩
    show ea_nt EV j = some _
    rw [ea_nt_eq, h1, h3]
  | .inr (.inr q), h => exact xp_k_ok hh hg (show xp_k G e q.1 q.2 = some x from h)
def rl_g (GF : GH) (cl : List (Nat × AV)) (EV : List Int) (C : List AC) (l : List RL) : Prop := ∀ q ∈ l, ∃ z1 z2, sp_g GF cl EV C q.1 z1 ∧ sp_g GF cl EV C q.2.1 z2 ∧ z1 - z2 ≤ q.2.2
/-- a difference by two that are known -/
def xd_t (D : List (Nat × Nat × Int)) (a b : Nat) (k : Int) (l : List (Nat × Nat × Int)) : Bool := match l with
  | [] => false
  | q :: t => (Nat.beq q.1 a && (match xe_m D q.2.1 b with
    | some d => decide (q.2.2 + d ≤ k)
    | none => false)) || xd_t D a b k t
theorem xd_t_ok {r : RN} {e : XE} (he : xe_g r e) {a b : Nat} {k : Int} : ∀ {l : List (Nat × Nat × Int)}, (∀ q ∈ l, q ∈ e.2.2.1) → xd_t e.2.2.1 a b k l = true → r.1 a - r.1 b ≤ k
  | [], _, h => by cases h
  | q :: t, hs, h => by
    unfold xd_t at h
    simp only [Bool.or_eq_true, Bool.and_eq_true] at h
    rcases h with ⟨h1, h2⟩ | h
    · split at h2
      · rename_i d hd
        simp only [decide_eq_true_eq] at h2
        have e1 := Nat.eq_of_beq_eq_true h1
        have g1 := (he.2.2.2 q (hs q List.mem_cons_self)).2.2
        have g2 := xe_m_ok he (fun _ hq => hq) hd
        rw [e1] at g1
        omega
      · cases h2
    · exact xd_t_ok he (fun p hp => hs p (List.mem_cons_of_mem _ hp)) h
def rl_c1 (G : Nat → Option CT) (L : List (Nat × XV)) (en : List XI) (e : XE) (q : RL) : Bool := match sp_x G L en e q.1, sp_x G L en e q.2.1 with
  | some x, some y => (match xd_u e x y with
    | some d => decide (d ≤ q.2.2)
    | none => false) || (decide (x.1 = 1) && (decide (y.1 = 1) && xd_t e.2.2.1 x.2.1 y.2.1 (q.2.2 + y.2.2 - x.2.2) e.2.2.1))
  | _, _ => false
/-- relations are checked -/
def rl_c (G : Nat → Option CT) (L : List (Nat × XV)) (en : List XI) (e : XE) (l : List RL) : Bool := match l with
  | [] => true
  | q :: t => rl_c1 G L en e q && rl_c G L en e t
section RL
variable {r : RN} {GF : GH} {G : Nat → Option CT} {L : List (Nat × XV)} {cl : List (Nat × AV)} {en : List XI} {EV : List Int} {e : XE} {C : List AC}
theorem rl_c_ok (he : xe_g r e) (hl : xl_g r L cl) (hn : en_g r en EV) (hh : xh_g r G e C) (hg : gh_g r GF e C) : ∀ {l : List RL}, rl_c G L en e l = true → rl_g GF cl EV C l
  | [], _ => fun q hq => nomatch hq
  | p :: t, h => by
    unfold rl_c at h
    simp only [Bool.and_eq_true] at h
    intro q hq
    rcases List.mem_cons.mp hq with rfl | hq
    · have h1 := h.1
      unfold rl_c1 at h1
      split at h1
      · rename_i x y hx hy
        obtain ⟨a1, a2⟩ := sp_x_ok hl hn hh hg hx
        obtain ⟨b1, b2⟩ := sp_x_ok hl hn hh hg hy
        simp only [Bool.or_eq_true, Bool.and_eq_true, decide_eq_true_eq] at h1
        rcases h1 with h1 | ⟨u1, u2, u3⟩
        · split at h1
          · rename_i d hd
            simp only [decide_eq_true_eq] at h1
            have := xd_u_ok he hd
            exact ⟨_, _, a2, b2, by omega⟩
          · cases h1
        · have w := xd_t_ok he (fun _ hq => hq) u3
          refine ⟨_, _, a2, b2, ?_⟩
          unfold xi_z
          rw [u1, u2]
          omega
      · cases h1
    · exact rl_c_ok he hl hn hh hg h.2 q hq
/-- relations that hold are used; none: they cannot hold -/
def rl_i (G : Nat → Option CT) (L : List (Nat × XV)) (en : List XI) (e : XE) (l : List RL) : Option XE := match l with
  | [] => some e
  | q :: t => match sp_x G L en e q.1, sp_x G L en e q.2.1 with
    | some x, some y => match xq_le e x y q.2.2 with
      | some e' => fE e' fun e' => rl_i G L en e' t
      | none => none
    | _, _ => rl_i G L en e t
theorem rl_i_ok : ∀ {l : List RL} {e : XE}, xe_g r e → xl_g r L cl → en_g r en EV → xh_g r G e C → gh_g r GF e C → rl_g GF cl EV C l → ∃ e', rl_i G L en e l = some e' ∧ xe_g r e' ∧ e'.2.2.2 = e.2.2.2
  | [], e, he, _, _, _, _, _ => ⟨e, rfl, he, rfl⟩
  | q :: t, e, he, hl, hn, hh, hg, hr => by
    have hrt : rl_g GF cl EV C t := fun p hp => hr p (List.mem_cons_of_mem _ hp)
    unfold rl_i
    split
    · rename_i x y hx hy
      obtain ⟨z1, z2, s1, s2, hz⟩ := hr q List.mem_cons_self
      obtain ⟨a1, a2⟩ := sp_x_ok hl hn hh hg hx
      obtain ⟨b1, b2⟩ := sp_x_ok hl hn hh hg hy
      rw [sp_one s1 a2, sp_one s2 b2] at hz
      obtain ⟨e', k1, k2, k3⟩ := xq_le_ok he a1 b1 hz
      rw [k1]
      dsimp only
      rw [fE_eq]
      obtain ⟨e2, j1, j2, j3⟩ := rl_i_ok (l := t) k2 hl hn (xh_g_mono (rn_le_rf r) k3 hh) (gh_g_mono (rn_le_rf r) k3 hg) hrt
      exact ⟨e2, j1, j2, j3.trans k3⟩
    · exact rl_i_ok he hl hn hh hg hrt
/-- places between bounds -/
def pb_g (GF : GH) (C : List AC) (l : List PB) (EV : List Int) : Prop := ea_rl (fun (q : PB) (z : Int) => pv GF C q.1 q.2.1 z ∧ q.2.2.1 ≤ z ∧ z ≤ q.2.2.2) l EV
def pb_x (G : Nat → Option CT) (e : XE) (l : List PB) : Option (List XI) := match l with
  | [] => some []
  | q :: t => match xp_k G e q.1 q.2.1, pb_x G e t with
    | some x, some u => bif xi_w e.2.1 x q.2.2.1 q.2.2.2 then some (x :: u) else none
    | _, _ => none
theorem pb_x_ok (he : xe_g r e) (hh : xh_g r G e C) (hg : gh_g r GF e C) : ∀ {l : List PB} {u : List XI}, pb_x G e l = some u → ∃ EV, pb_g GF C l EV ∧ en_g r u EV
  | [], u, h => by cases h; exact ⟨[], trivial, trivial⟩
  | q :: t, u, h => by
    unfold pb_x at h
    split at h
    · rename_i x v hx hv
      cases hb : xi_w e.2.1 x q.2.2.1 q.2.2.2 with
      | false => rw [hb] at h; cases h
      | true =>
        rw [hb] at h
        cases h
        obtain ⟨EV, h1, h2⟩ := pb_x_ok he hh hg hv
        obtain ⟨a1, a2⟩ := xp_k_ok hh hg hx
        exact ⟨xi_z r x :: EV, ⟨⟨a2, xi_w_ok he hb⟩, h1⟩, ⟨⟨a1, rfl⟩, h2⟩⟩
    · cases h
/-- symbols for the places at the entry -/
def en_i (l : List PB) (e : XE) : List XI × XE := match l with
  | [] => ([], e)
  | q :: t => ((xo_new e q.2.2.1 q.2.2.2).1 :: (en_i t (xo_new e q.2.2.1 q.2.2.2).2).1, (en_i t (xo_new e q.2.2.1 q.2.2.2).2).2)
/-- a number gets a symbol -/
theorem xo_newz {r : RN} {e : XE} (he : xe_g r e) {lo hi z : Int} (h1 : lo ≤ z) (h2 : z ≤ hi) : ∃ r', rn_le r r' ∧ xe_g r' (xo_new e lo hi).2 ∧ (xo_new e lo hi).1.2.1 < r'.2 ∧ xi_z r' (xo_new e lo hi).1 = z ∧ (xo_new e lo hi).2.2.2.2 = e.2.2.2 := by
  unfold xo_new
  split
  · rename_i hl
    refine ⟨r, rn_le_rf r, he, he.1, ?_, rfl⟩
    unfold xi_z
    dsimp only
    omega
  · refine ⟨rn_put r z, rn_put_le r z, xe_g_put he h1 h2, ?_, ?_, rfl⟩
    · show e.1 < r.2 + 1
      rw [← he.2.1]
      exact Nat.lt_succ_self _
    · unfold xi_z
      dsimp only
      rw [← he.2.1, rn_put_at]
      omega
theorem en_i_ok {GF : GH} {C : List AC} : ∀ {l : List PB} {EV : List Int} {r : RN} {e : XE}, xe_g r e → pb_g GF C l EV → ∃ r', rn_le r r' ∧ xe_g r' (en_i l e).2 ∧ en_g r' (en_i l e).1 EV ∧ (en_i l e).2.2.2.2 = e.2.2.2
  | [], [], r, e, he, _ => ⟨r, rn_le_rf r, he, trivial, rfl⟩
  | q :: t, z :: EV, r, e, he, h => by
    obtain ⟨⟨h0, h1, h2⟩, h3⟩ := h
    obtain ⟨r1, k1, k2, k3, k4, k5⟩ := xo_newz he h1 h2
    obtain ⟨r2, j1, j2, j3, j4⟩ := en_i_ok k2 h3
    refine ⟨r2, rn_le_tr k1 j1, j2, ⟨⟨Nat.lt_of_lt_of_le k3 j1.1, ?_⟩, j3⟩, j4.trans k5⟩
    rw [← k4, xi_z, xi_z, j1.2 _ k3]
  | [], _ :: _, _, _, _, h => h.elim
  | _ :: _, [], _, _, _, h => h.elim
/-- the places are those -/
def pl_i (G : Nat → Option CT) (l : List PB) (en : List XI) (e : XE) : XE := match l, en with
  | q :: t, x :: u => pl_i G t u (xp_i G e q.1 q.2.1 x)
  | _, _ => e
theorem pl_i_ok (h9 : ∀ b, 999 ≤ b → G b = none) : ∀ {l : List PB} {en : List XI} {EV : List Int} {e : XE}, xe_g r e → xh_g r G e C → gh_g r GF e C → pb_g GF C l EV → en_g r en EV → xe_g r (pl_i G l en e) ∧ xh_g r G (pl_i G l en e) C ∧ gh_g r GF (pl_i G l en e) C
  | [], en, EV, e, he, hh, hg, _, _ => by
    unfold pl_i
    exact ⟨he, hh, hg⟩
  | q :: t, [], EV, e, he, hh, hg, _, _ => ⟨he, hh, hg⟩
  | q :: t, x :: u, z :: EV, e, he, hh, hg, h1, h2 => by
    obtain ⟨⟨a1, a2, a3⟩, a4⟩ := h1
    obtain ⟨⟨b1, b2⟩, b3⟩ := h2
    obtain ⟨c1, c2, c3⟩ := xp_i_ok (k := q.2.1) h9 he hh hg b1 (by rw [b2]; exact a1)
    have w := pl_i_ok h9 c1 c2 c3 a4 b3
    exact w
  | _ :: _, _ :: _, [], _, _, _, _, h, _ => h.elim
/-- new places: each gets a symbol -/
def pb_i (G : Nat → Option CT) (l : List PB) (e : XE) : XE := match l with
  | [] => e
  | q :: t => pb_i G t (xp_i G (xo_new e q.2.2.1 q.2.2.2).2 q.1 q.2.1 (xo_new e q.2.2.1 q.2.2.2).1)
theorem pb_i_ok (h9 : ∀ b, 999 ≤ b → G b = none) : ∀ {l : List PB} {EV : List Int} {r : RN} {e : XE}, xe_g r e → xh_g r G e C → gh_g r GF e C → pb_g GF C l EV → ∃ r', rn_le r r' ∧ xe_g r' (pb_i G l e) ∧ xh_g r' G (pb_i G l e) C ∧ gh_g r' GF (pb_i G l e) C
  | [], _, r, e, he, hh, hg, _ => ⟨r, rn_le_rf r, he, hh, hg⟩
  | q :: t, z :: EV, r, e, he, hh, hg, h => by
    obtain ⟨⟨h0, h1, h2⟩, h3⟩ := h
    obtain ⟨r1, k1, k2, k3, k4, k5⟩ := xo_newz he h1 h2
    obtain ⟨c1, c2, c3⟩ := xp_i_ok (k := q.2.1) h9 k2 (xh_g_mono k1 k5 hh) (gh_g_mono k1 k5 hg) k3 (by rw [k4]; exact h0)
    obtain ⟨r2, j1, j2, j3, j4⟩ := pb_i_ok h9 c1 c2 c3 h3
    exact ⟨r2, rn_le_tr k1 j1, j2, j3, j4⟩
  | _ :: _, [], _, _, _, _, _, h => h.elim
/-- places are checked -/
def pb_c (G : Nat → Option CT) (e : XE) (l : List PB) : Bool := match pb_x G e l with
  | some _ => true
  | none => false
theorem pb_c_ok (he : xe_g r e) (hh : xh_g r G e C) (hg : gh_g r GF e C) {l : List PB} (h : pb_c G e l = true) : ∃ EV, pb_g GF C l EV := by
  unfold pb_c at h
  split at h
  · rename_i u hu
    obtain ⟨EV, h1, -⟩ := pb_x_ok he hh hg hu
    exact ⟨EV, h1⟩
  · cases h
end RL
/-- without the ghosts -/
theorem xh_9 {r : RN} {G : Nat → Option CT} (h9 : ∀ b, 999 ≤ b → G b = none) {e : XE} {C : List AC} (hh : xh_g r G e C) : xh_g r G (xe_fr e [(999, 2000)]) C := by
  have hx : ∀ a, ¬ 999 ≤ a → xm [(999, 2000)] a = false := by
    intro a ha
    unfold xm
    unfold xm
    rw [Bool.or_false]
    cases hb : (Nat.ble 999 a && Nat.blt a 2000) with
    | false => rfl
    | true =>
      simp only [Bool.and_eq_true] at hb
      exact absurd (Nat.le_of_ble_eq_true hb.1) ha
  refine ⟨fun a ci fs hG => ?_, fun a kd n p fs hG => ?_, fun q hq => ?_⟩
  · have ha : ¬ 999 ≤ a := fun hc => by rw [h9 a hc] at hG; cases hG
    obtain ⟨vs, g1, g2, g3⟩ := hh.1 a ci fs hG
    refine ⟨vs, g1, g2, fun k f hf => ?_⟩
    show ∃ v, _ ∧ xh_f r (xo_k (e.2.2.2.2.filter (fun q => !xm [(999, 2000)] q.1)) a k) f v
    rw [xo_k_filter, if_neg (by rw [hx a ha]; exact Bool.false_ne_true)]
    exact g3 k f hf
  · have ha : ¬ 999 ≤ a := fun hc => by rw [h9 a hc] at hG; cases hG
    obtain ⟨d, us, g1, g2⟩ := hh.2.1 a kd n p fs hG
    refine ⟨d, us, g1, fun j hj => ?_⟩
    rcases g2 j hj with w | ⟨q, q1, q2, q3⟩
    · exact Or.inl w
    · refine Or.inr ⟨q, ?_, q2, q3⟩
      show q ∈ e.2.2.2.1.filter (fun q => !xm [(999, 2000)] q.1)
      rw [List.mem_filter]
      exact ⟨q1, by rw [q2, hx a ha]; rfl⟩
  · have hq' : q ∈ e.2.2.2.1.filter (fun q => !xm [(999, 2000)] q.1) := hq
    rw [List.mem_filter] at hq'
    exact hh.2.2 q hq'.1
def xi_al2 (G : Nat → Option CT) (e : XE) : Bool := xi_all G (xe_fr e [(999, 2000)])
theorem xI_of2 {r : RN} {G : Nat → Option CT} (h9 : ∀ b, 999 ≤ b → G b = none) {e : XE} {C : List AC} (he : xe_g r e) (hh : xh_g r G e C) (h : xi_al2 G e = true) : xI G C := xI_of (e := xe_fr e [(999, 2000)]) he (xh_9 h9 hh) h
/-! where an instruction stores -/
/-- a range of places of a cell, so far from one another -/
abbrev TC : Type := Nat × Int × Int × Int × Int
def tc_x (a : Nat) (E : List (Nat × Int × Int)) (j : XI) : TC := (a, (xi_b E j).1, (xi_b E j).2, if 1 < j.1 then j.1 else 1, j.2.2)
def xs_tc (pl : Nat → Option (Nat × Nat × Nat)) (i : Instr) (S : List XV) (E : List (Nat × Int × Int)) : Option TC := match i with
  | .putfield x => match pl x, S with
    | some (_, _, k), _ :: .inr (.inl a) :: _ => some (a, (k : Int), (k : Int), 1, 0)
    | _, _ => none
  | .iastore => match S with
    | _ :: .inl j :: .inr (.inl a) :: _ => some (tc_x a E j)
    | _ => none
  | .bastore => match S with
    | _ :: .inl j :: .inr (.inl a) :: _ => some (tc_x a E j)
    | _ => none
  | .lastore => match S with
    | _ :: .inl j :: .inr (.inl a) :: _ => some (tc_x a E j)
    | _ => none
  | _ => none
/-- C' is C but for this range of places -/
def cv_in (t : TC) (a k : Nat) : Prop := a = t.1 ∧ t.2.1 ≤ (k : Int) ∧ (k : Int) ≤ t.2.2.1 ∧ ((k : Int) - t.2.2.2.2) % t.2.2.2.1 = 0
def cv_but (t : TC) (C C' : List AC) : Prop := ∀ a k : Nat, ¬ cv_in t a k → cv C' a k = cv C a k
theorem cv_arr {C : List AC} {a kd n : Nat} {d : AV} {us : List (Nat × AV)} (h : ea_nt C a = some (.inl (kd, n, d, us))) {j : Nat} {v : AV} {t : TC} (ht : cv_in t a j) : cv_but t C (C.set a (.inl (kd, n, d, (j, v) :: us))) := by
  intro b k hn
  by_cases hab : a = b
  · subst hab
    unfold cv
    rw [nt_set_self h, h]
    dsimp only
    rw [ea_al_at, if_neg]
    rintro rfl
    exact hn ht
  · exact cv_eq (nt_set_ne hab) k
theorem cv_fld {C : List AC} {a ci : Nat} {vs : List AV} (h : ea_nt C a = some (.inr (ci, vs))) {j : Nat} {v : AV} {t : TC} (ht : cv_in t a j) {cj : Nat} : cv_but t C (C.set a (.inr (cj, vs.set j v))) := by
  intro b k hn
  by_cases hab : a = b
  · subst hab
    unfold cv
    rw [nt_set_self h, h]
    dsimp only
    rw [nt_set_ne]
    rintro rfl
    exact hn ht
  · exact cv_eq (nt_set_ne hab) k
theorem ix_in {r : RN} {e : XE} (he : xe_g r e) {j : XI} {x : Int32} (hx : xi_g r j x) {n k : Nat} (h : ea_ix (.inl x) n = some k) (a : Nat) : cv_in (tc_x a e.2.1 j) a k := by
  have b := xi_b_ok he hx
  unfold ea_ix at h
  dsimp only at h
  split at h
  · rename_i hin
    cases h
    have h2 := (ix_ok (x := x) (n := n) hin.1 hin.2).2.1
    refine ⟨rfl, by show (xi_b e.2.1 j).1 ≤ _; omega, by show _ ≤ (xi_b e.2.1 j).2; omega, ?_⟩
    show ((x.toNatClampNeg : Int) - j.2.2) % (if 1 < j.1 then j.1 else 1) = 0
    rw [h2, hx.2, xi_z]
    split
    · rw [Int.add_sub_cancel, Int.mul_emod_right]
    · exact Int.emod_one _
  · cases h
theorem bif_n {α : Type} {b : Bool} {x : Option α} {y : α} (h : (bif b then x else none) = some y) : b = true ∧ x = some y := by
  cases b with
  | false => cases h
  | true => exact ⟨rfl, h⟩
def xs_sto (i : Instr) : Bool := match i with
  | .putfield _ | .iastore | .bastore | .lastore => true
  | _ => false
theorem xs_yes {r : RN} {e : XE} (he : xe_g r e) {ini : Bool} {pl : Nat → Option (Nat × Nat × Nat)} {fty : Nat → Nat → Nat} {scr : Option (List AI)} {i : Instr} {pc : Nat} {S : List XV} {cs : List AV} {C : List AC} {q : Nat × List AV × Option (List AC) × Nat × Nat} {t : TC} (hs : xs_g r S cs) (hh : ea_h ini pl fty scr i pc cs C = some q) (ht : xs_tc pl i S e.2.1 = some t) : cv_but t C (q.2.2.1.getD C) := by
  cases i with
  | putfield x =>
    unfold xs_tc at ht
    dsimp only at ht
    split at ht
    · rename_i u1 k w9 a S0 hp
      cases ht
      obtain ⟨v, _, rfl, hv, hs1⟩ := xs_pop hs
      obtain ⟨v0, cs0, rfl, hv0, hs0⟩ := xs_pop hs1
      obtain rfl : v0 = .inr (.inl (some a)) := hv0
      unfold ea_h at hh
      dsimp only at hh
      split at hh
      · rename_i ci k' w a' cs1 hw heq
        cases heq
        have hk : k' = k := by
          unfold ea_wr at hw
          rw [hp] at hw
          split at hw
          · rename_i q' he1
            cases he1
            cases hw
            rfl
          · rename_i q' he1
            cases he1
            cases ini with
            | false => cases hw
            | true => cases hw; rfl
          · cases hw
        split at hh
        · rename_i o ho
          cases hb : (Nat.beq o.1 ci && (ea_fit (fty ci k') v && Nat.blt k' o.2.length)) with
          | false => rw [hb] at hh; cases hh
          | true =>
            rw [hb] at hh
            cases hh
            exact cv_fld (t := (_, _, _, _, _)) (vs := o.2) (ci := o.1) ho (by rw [hk]; exact ⟨rfl, Int.le_refl _, Int.le_refl _, Int.emod_one _⟩)
        · cases hh
      · cases hh
    · cases ht
  | iastore =>
    unfold xs_tc at ht
    dsimp only at ht
    split at ht
    · rename_i u1 j a S0
      cases ht
      obtain ⟨v, _, rfl, hv, hs1⟩ := xs_pop hs
      obtain ⟨_, _, rfl, ⟨x, rfl, hx⟩, hs2⟩ := xs_pop hs1
      obtain ⟨v0, cs0, rfl, hv0, hs0⟩ := xs_pop hs2
      obtain rfl : v0 = .inr (.inl (some a)) := hv0
      unfold ea_h at hh
      dsimp only at hh
      split at hh
      · rename_i v' i' a' cs1 heq
        cases heq
        split at hh
        · rename_i n d us ho
          split at hh
          · rename_i k hk
            cases hh
            exact cv_arr ho (ix_in he hx hk _)
          · cases hh
        · cases hh
      · cases hh
    · cases ht
  | bastore =>
    unfold xs_tc at ht
    dsimp only at ht
    split at ht
    · rename_i u1 j a S0
      cases ht
      obtain ⟨v, _, rfl, hv, hs1⟩ := xs_pop hs
      obtain ⟨_, _, rfl, ⟨x, rfl, hx⟩, hs2⟩ := xs_pop hs1
      obtain ⟨v0, cs0, rfl, hv0, hs0⟩ := xs_pop hs2
      obtain rfl : v0 = .inr (.inl (some a)) := hv0
      unfold ea_h at hh
      dsimp only at hh
      split at hh
      · rename_i v' i' a' cs1 heq
        cases heq
        split at hh
        · rename_i n d us ho
          split at hh
          · rename_i k hk
            cases hh
            exact cv_arr ho (ix_in he hx hk _)
          · cases hh
        · cases hh
      · cases hh
    · cases ht
  | lastore =>
    unfold xs_tc at ht
    dsimp only at ht
    split at ht
    · rename_i u1 j a S0
      cases ht
      obtain ⟨v, _, rfl, hv, hs1⟩ := xs_pop hs
      obtain ⟨_, _, rfl, ⟨x, rfl, hx⟩, hs2⟩ := xs_pop hs1
      obtain ⟨v0, cs0, rfl, hv0, hs0⟩ := xs_pop hs2
      obtain rfl : v0 = .inr (.inl (some a)) := hv0
      unfold ea_h at hh
      dsimp only at hh
      split at hh
      · rename_i v' i' a' cs1 heq
        cases heq
        split at hh
        · rename_i n d us ho
          split at hh
          · rename_i k hk
            cases hh
            exact cv_arr ho (ix_in he hx hk _)
          · cases hh
        · cases hh
      · cases hh
    · cases ht
  | _ => cases ht
theorem xs_no {M : Nat → Bool} {G : Nat → Option CT} {ini : Bool} {pl : Nat → Option (Nat × Nat × Nat)} {fty : Nat → Nat → Nat} {scr : Option (List AI)} {i : Instr} {pc : Nat} {S : List XV} {e : XE} {f : Nat × List XV × XE} {cs : List AV} {C : List AC} {q : Nat × List AV × Option (List AC) × Nat × Nat} (h : xs_h M G ini pl fty i pc S e = some f) (hst : xs_sto i = false) (hh : ea_h ini pl fty scr i pc cs C = some q) : q.2.2.1 = none := by
  cases i with
  | putfield x => cases hst
  | iastore => cases hst
  | bastore => cases hst
  | lastore => cases hst
  | getfield x =>
    unfold ea_h at hh
    dsimp only at hh
    split at hh
    · split at hh
      · rename_i ci k a t h1 h3 o h2
        cases hb : Nat.beq o.1 ci with
        | false => rw [hb] at hh; cases hh
        | true =>
          rw [hb] at hh
          simp only [cond_true] at hh
          split at hh
          · cases hh; rfl
          · cases hh
      · cases hh
    · split at hh
      · cases hh; rfl
      · cases hh
    · cases hh
  | getstatic x =>
    unfold ea_h at hh
    dsimp only at hh
    repeat' (split at hh)
    all_goals first | (cases hh; rfl) | cases hh
  | iaload =>
    unfold ea_h at hh
    dsimp only at hh
    repeat' (split at hh)
    all_goals first | (cases hh; rfl) | cases hh
  | baload =>
    unfold ea_h at hh
    dsimp only at hh
    split at hh
    · repeat' (split at hh)
      all_goals first | (cases hh; rfl) | cases hh
    · obtain ⟨-, hh⟩ := bif_n hh
      repeat' (split at hh)
      all_goals first | (cases hh; rfl) | cases hh
    · cases hh
  | laload =>
    unfold ea_h at hh
    dsimp only at hh
    repeat' (split at hh)
    all_goals first | (cases hh; rfl) | cases hh
  | aaload =>
    unfold ea_h at hh
    dsimp only at hh
    repeat' (split at hh)
    all_goals first | (cases hh; rfl) | cases hh
  | arraylength =>
    unfold ea_h at hh
    dsimp only at hh
    split at hh
    · repeat' (split at hh)
      all_goals first | (cases hh; rfl) | cases hh
    · repeat' (split at hh)
      all_goals first | (cases hh; rfl) | cases hh
    · obtain ⟨-, hh⟩ := bif_n hh
      cases hh
      rfl
    · cases hh
  | ldc x =>
    unfold ea_h at hh
    dsimp only at hh
    split at hh
    · cases hh; rfl
    · obtain ⟨-, hh⟩ := bif_n hh
      cases hh
      rfl
    · cases hh
  | ldc_w x =>
    unfold ea_h at hh
    dsimp only at hh
    split at hh
    · cases hh; rfl
    · obtain ⟨-, hh⟩ := bif_n hh
      cases hh
      rfl
    · cases hh
  | ldc2_w x =>
    unfold ea_h at hh
    dsimp only at hh
    repeat' (split at hh)
    all_goals first | (cases hh; rfl) | cases hh
  | _ => cases h
end
section
/-! THE CHECKER WITH RELATIONS: contracts, its walk -/
abbrev PO : Type := List PB × List RL
/-- a contract: as before (its fields asked for: places at the entry, with bounds); relations that it asks for (arguments as locals); a number: what holds behind it if less is given; what holds if not -/
abbrev CX : Type := CN × List RL × Int × PO × PO
def rv_l (v : Option AV) : List (Nat × AV) := match v with
  | some u => [(0, u)]
  | none => []
def po_g (GF : GH) (po : PO) (v : Option AV) (EV : List Int) (C : List AC) : Prop := (∃ NV, pb_g GF C po.1 NV) ∧ rl_g GF (rv_l v) EV C po.2
def cx_po (c : CX) (v : Option AV) : PO := match v with
  | some (.inl (.inl x)) => if x.toInt < c.2.2.1 then c.2.2.2.1 else c.2.2.2.2
  | _ => c.2.2.2.2
/-- what is not written stays -/
def fr_c (GF : GH) (M : List (Nat × Nat)) (C0 C : List AC) : Prop := (∀ b, xm M b = false → ea_nt C b = ea_nt C0 b) ∧ ∀ k, 999 ≤ k → xm M k = false → GF k C = GF k C0
theorem fr_c_rf (GF : GH) (M : List (Nat × Nat)) (C : List AC) : fr_c GF M C C := ⟨fun _ _ => rfl, fun _ _ _ => rfl⟩
theorem fr_c_tr {GF : GH} {M M' : List (Nat × Nat)} {C0 C C' : List AC} (h : fr_c GF M C0 C) (hs : xm_sub M' M = true) (h' : fr_c GF M' C C') : fr_c GF M C0 C' := by
  have key : ∀ b, xm M b = false → xm M' b = false := fun b hb => by
    cases hx : xm M' b with
    | false => rfl
    | true => rw [xm_sub_ok hs hx] at hb; cases hb
  exact ⟨fun b hb => by rw [h'.1 b (key b hb), h.1 b hb], fun k hk hm => by rw [h'.2 k hk (key k hm), h.2 k hk hm]⟩
def cx_post (GF : GH) (G : Nat → Option CT) (c : CX) (EV : List Int) (C0 : List AC) : Option AV ⊕ Nat → List AC → Prop := fun o C' => ∃ v, o = .inl v ∧ xI G C' ∧ fr_c GF c.1.2.2.1 C0 C' ∧ rt_g c.1.2.2.2.1 v ∧ po_g GF (cx_po c v) v EV C'
def cx_ok (P : EP) (G : Nat → Option CT) (GF : GH) (c : CX) : Prop := ∀ (vs : List AV) (C : List AC) (EV : List Int), ea_rl at_g c.1.2.1 vs → xI G C → pb_g GF C c.1.2.2.2.2.2 EV → rl_g GF (ea_ar 0 vs) EV C c.2.1 → ok_ P c.1.1 0 (ea_ar 0 vs) [] C (cx_post GF G c EV C)
/-- kinds of locals that a piece asks for: the first -/
def mc_l (ts : List AT) : List (Nat × AT) := match ts with
  | t :: _ => [(0, t)]
  | [] => []
/-- a piece of a method, proved otherwise: from pc to pc', locals and stack as they are -/
def mc_ok (P : EP) (G : Nat → Option CT) (GF : GH) (m pc : Nat) (c : CX) (pc' : Nat) : Prop := ∀ (cl : List (Nat × AV)) (cs : List AV) (C : List AC) (EV : List Int) (K : Option AV ⊕ Nat → List AC → Prop), (∀ q ∈ mc_l c.1.2.1, ∃ v, ea_lk cl q.1 = some v ∧ at_g q.2 v) → xI G C → pb_g GF C c.1.2.2.2.2.2 EV → rl_g GF cl EV C c.2.1 → (∀ C', xI G C' → fr_c GF c.1.2.2.1 C C' → po_g GF c.2.2.2.2 none EV C' → ok_ P m pc' cl cs C' K) → ok_ P m pc cl cs C K
/-! ghosts and stores -/
abbrev GS : Type := List (Nat × Nat × Int × Int)
def gs_ok (GF : GH) (gs : GS) : Prop := ∀ (k : Nat) (C C' : List AC), (∀ a i : Nat, (∃ q ∈ gs, q.1 = k ∧ q.2.1 = a ∧ q.2.2.1 ≤ (i : Int) ∧ (i : Int) ≤ q.2.2.2) → cv C' a i = cv C a i) → GF k C' = GF k C
def gs_ov (t : TC) (q : Nat × Nat × Int × Int) : Bool := Nat.beq q.2.1 t.1 && (decide (q.2.2.1 ≤ t.2.2.1) && (decide (t.2.1 ≤ q.2.2.2) && (bif decide (q.2.2.1 = q.2.2.2) then decide ((q.2.2.1 - t.2.2.2.2) % t.2.2.2.1 = 0) else true)))
def gs_hit (gs : GS) (t : TC) (k : Nat) : Bool := match gs with
  | [] => false
  | q :: u => (Nat.beq q.1 k && gs_ov t q) || gs_hit u t k
/-- all ghosts that are reached are among those that may change -/
def gs_all (gs : GS) (M : List (Nat × Nat)) (t : TC) : Bool := match gs with
  | [] => true
  | q :: u => (!gs_ov t q || xm M q.1) && gs_all u M t
theorem gs_all_hit {M : List (Nat × Nat)} {t : TC} {k : Nat} (hm : xm M k = false) : ∀ {gs : GS}, gs_all gs M t = true → gs_hit gs t k = false
  | [], _ => rfl
  | q :: u, h => by
    unfold gs_all at h
    simp only [Bool.and_eq_true] at h
    unfold gs_hit
    rw [gs_all_hit hm h.2, Bool.or_false]
    cases hk : Nat.beq q.1 k with
    | false => rfl
    | true =>
      have h1 := h.1
      rw [Nat.eq_of_beq_eq_true hk, hm, Bool.or_false] at h1
      cases ho : gs_ov t q with
      | false => rfl
      | true => rw [ho] at h1; cases h1
theorem gs_hit_mem {t : TC} {k : Nat} : ∀ {gs : GS}, gs_hit gs t k = false → ∀ q ∈ gs, q.1 = k → gs_ov t q = false
  | [], _, q, hq, _ => nomatch hq
  | p :: u, h, q, hq, hk => by
    unfold gs_hit at h
    rw [Bool.or_eq_false_iff] at h
    rcases List.mem_cons.mp hq with rfl | hq
    · have h1 := h.1
      rw [hk, Nat.beq_refl, Bool.true_and] at h1
      exact h1
    · exact gs_hit_mem h.2 q hq hk
theorem gs_same {GF : GH} {gs : GS} (hg : gs_ok GF gs) {t : TC} {k : Nat} (h : gs_hit gs t k = false) {C C' : List AC} (hb : cv_but t C C') : GF k C' = GF k C := by
  refine hg k C C' (fun a i hq => hb a i ?_)
  rintro ⟨rfl, h1, h2, h4⟩
  obtain ⟨q, q1, q2, q3, q4, q5⟩ := hq
  have h3 := gs_hit_mem h q q1 q2
  unfold gs_ov at h3
  rw [q3, Nat.beq_refl, Bool.true_and, Bool.and_eq_false_iff, decide_eq_false_iff_not, Bool.and_eq_false_iff, decide_eq_false_iff_not] at h3
  rcases h3 with h3 | h3 | h3
  · omega
  · omega
  · cases hb : decide (q.2.2.1 = q.2.2.2) with
    | false => rw [hb] at h3; cases h3
    | true =>
      rw [hb] at h3
      simp only [cond_true, decide_eq_false_iff_not] at h3
      rw [decide_eq_true_eq] at hb
      have hi : (i : Int) = q.2.2.1 := by omega
      rw [hi] at h4
      exact h3 h4
/-- ghosts that the store reaches are known no more -/
def xe_gd (gs : GS) (t : TC) (e : XE) : XE := (e.1, e.2.1, e.2.2.1, e.2.2.2.1, e.2.2.2.2.filter (fun q => !(Nat.ble 999 q.1 && gs_hit gs t q.1)))
theorem xo_k_filt (f : Nat → Nat → Bool) {a k : Nat} : ∀ {O : List (Nat × Nat × XI)}, xo_k (O.filter (fun q => f q.1 q.2.1)) a k = if f a k = true then xo_k O a k else none
  | [] => by simp [xo_k]
  | q :: t => by
    obtain ⟨qa, qk, qx⟩ := q
    rw [List.filter_cons]
    have ih := xo_k_filt f (a := a) (k := k) (O := t)
    rw [xo_k_cons]
    cases hq : f qa qk with
    | true =>
      simp only [if_true]
      rw [xo_k_cons, ih]
      by_cases hc : qa = a ∧ qk = k
      · rw [if_pos hc, if_pos hc, ← hc.1, ← hc.2, if_pos hq]
      · rw [if_neg hc, if_neg hc]
    | false =>
      simp only [Bool.false_eq_true, if_false]
      rw [ih]
      by_cases hc : qa = a ∧ qk = k
      · rw [← hc.1, ← hc.2, hq]
        simp
      · rw [if_neg hc]
theorem xe_gd_h {r : RN} {G : Nat → Option CT} (h9 : ∀ b, 999 ≤ b → G b = none) {gs : GS} {t : TC} {e : XE} {C : List AC} (hh : xh_g r G e C) : xh_g r G (xe_gd gs t e) C := by
  refine ⟨fun a ci fs hG => ?_, hh.2.1, hh.2.2⟩
  have ha : Nat.ble 999 a = false := by
    cases hb : Nat.ble 999 a with
    | false => rfl
    | true => rw [h9 a (Nat.le_of_ble_eq_true hb)] at hG; cases hG
  obtain ⟨vs, g1, g2, g3⟩ := hh.1 a ci fs hG
  refine ⟨vs, g1, g2, fun k f hf => ?_⟩
  show ∃ v, _ ∧ xh_f r (xo_k (e.2.2.2.2.filter (fun q => (fun x _ => !(Nat.ble 999 x && gs_hit gs t x)) q.1 q.2.1)) a k) f v
  rw [xo_k_filt (fun x _ => !(Nat.ble 999 x && gs_hit gs t x)), if_pos (by rw [ha]; rfl)]
  exact g3 k f hf
theorem xe_gd_g {r : RN} {GF : GH} {gs : GS} (hgs : gs_ok GF gs) {t : TC} {e : XE} {C C' : List AC} (hg : gh_g r GF e C) (hb : cv_but t C C') : gh_g r GF (xe_gd gs t e) C' := by
  intro a k x hk hx
  have hx2 : xo_k (e.2.2.2.2.filter (fun q => (fun x _ => !(Nat.ble 999 x && gs_hit gs t x)) q.1 q.2.1)) a k = some x := hx
  rw [xo_k_filt (fun x _ => !(Nat.ble 999 x && gs_hit gs t x))] at hx2
  split at hx2
  · rename_i hc
    have hn : gs_hit gs t a = false := by
      cases hh : gs_hit gs t a with
      | false => rfl
      | true => rw [hh, Nat.ble_eq_true_of_le hk] at hc; cases hc
    rw [gs_same hgs hn hb]
    exact hg a k x hk hx2
  · cases hx2
/-! evaluated first -/
def fBa {α : Type} (E : List (Nat × Int × Int)) (k : List (Nat × Int × Int) → α) : α := match E with
  | [] => k []
  | q :: t => ea_fn q.1 fun a => fZ q.2.1 fun lo => fZ q.2.2 fun hi => fBa t fun t => k ((a, lo, hi) :: t)
theorem fBa_eq {α : Type} : ∀ (E : List (Nat × Int × Int)) (k : List (Nat × Int × Int) → α), fBa E k = k E
  | [], k => rfl
  | q :: t, k => by unfold fBa; rw [ea_fn_eq, fZ_eq, fZ_eq, fBa_eq t]
def fDa {α : Type} (E : List (Nat × Nat × Int)) (k : List (Nat × Nat × Int) → α) : α := match E with
  | [] => k []
  | q :: t => ea_fn q.1 fun a => ea_fn q.2.1 fun lo => fZ q.2.2 fun hi => fDa t fun t => k ((a, lo, hi) :: t)
theorem fDa_eq {α : Type} : ∀ (E : List (Nat × Nat × Int)) (k : List (Nat × Nat × Int) → α), fDa E k = k E
  | [], k => rfl
  | q :: t, k => by unfold fDa; rw [ea_fn_eq, ea_fn_eq, fZ_eq, fDa_eq t]
def fRa {α : Type} (R : List (Nat × XI × XI)) (k : List (Nat × XI × XI) → α) : α := match R with
  | [] => k []
  | q :: t => ea_fn q.1 fun a => fX q.2.1 fun i => fX q.2.2 fun x => fRa t fun t => k ((a, i, x) :: t)
theorem fRa_eq {α : Type} : ∀ (E : List (Nat × XI × XI)) (k : List (Nat × XI × XI) → α), fRa E k = k E
  | [], k => rfl
  | q :: t, k => by unfold fRa; rw [ea_fn_eq, fX_eq, fX_eq, fRa_eq t]
def fOa {α : Type} (R : List (Nat × Nat × XI)) (k : List (Nat × Nat × XI) → α) : α := match R with
  | [] => k []
  | q :: t => ea_fn q.1 fun a => ea_fn q.2.1 fun i => fX q.2.2 fun x => fOa t fun t => k ((a, i, x) :: t)
theorem fOa_eq {α : Type} : ∀ (E : List (Nat × Nat × XI)) (k : List (Nat × Nat × XI) → α), fOa E k = k E
  | [], k => rfl
  | q :: t, k => by unfold fOa; rw [ea_fn_eq, ea_fn_eq, fX_eq, fOa_eq t]
def fEa {α : Type} (e : XE) (k : XE → α) : α := ea_fn e.1 fun n => fBa e.2.1 fun E => fDa e.2.2.1 fun D => fRa e.2.2.2.1 fun R => fOa e.2.2.2.2 fun O => k (n, E, D, R, O)
theorem fEa_eq {α : Type} (e : XE) (k : XE → α) : fEa e k = k e := by rw [fEa, ea_fn_eq, fBa_eq, fDa_eq, fRa_eq, fOa_eq]
/-! numbers that go down -/
abbrev MT : Type := List (Int × Option SP)
def mo_g (GF : GH) (cl : List (Nat × AV)) (EV : List Int) (C : List AC) (s : Option SP) (z : Int) : Prop := match s with
  | none => z = 0
  | some s => sp_g GF cl EV C s z
def mt_g (GF : GH) (cl : List (Nat × AV)) (EV : List Int) (C : List AC) (l : MT) (z : Int) : Prop := match l with
  | [] => z = 0
  | q :: t => ∃ z1 z2, mo_g GF cl EV C q.2 z1 ∧ mt_g GF cl EV C t z2 ∧ z = q.1 * z1 + z2
def mo_x (G : Nat → Option CT) (L : List (Nat × XV)) (en : List XI) (e : XE) (s : Option SP) : Option XI := match s with
  | none => some (0, 0, 0)
  | some s => sp_x G L en e s
def mt_x (G : Nat → Option CT) (L : List (Nat × XV)) (en : List XI) (e : XE) (l : MT) : Option (List (Int × XI)) := match l with
  | [] => some []
  | q :: t => match mo_x G L en e q.2, mt_x G L en e t with
    | some x, some u => some ((q.1, x) :: u)
    | _, _ => none
def lm_g (r : RN) (l : List (Int × XI)) : Prop := ∀ q ∈ l, q.2.2.1 < r.2
theorem lm_g_mono {r r' : RN} (h : rn_le r r') {l : List (Int × XI)} (hl : lm_g r l) : lm_g r' l := fun q hq => Nat.lt_of_lt_of_le (hl q hq) h.1
theorem lm_z_mono {r r' : RN} (h : rn_le r r') : ∀ {l : List (Int × XI)}, lm_g r l → ln_z r' l = ln_z r l
  | [], _ => rfl
  | q :: t, hl => by
    show q.1 * xi_z r' q.2 + ln_z r' t = q.1 * xi_z r q.2 + ln_z r t
    rw [lm_z_mono h (fun p hp => hl p (List.mem_cons_of_mem _ hp)), xi_z, xi_z, h.2 _ (hl q List.mem_cons_self)]
section MT
variable {r : RN} {GF : GH} {G : Nat → Option CT} {L : List (Nat × XV)} {cl : List (Nat × AV)} {en : List XI} {EV : List Int} {e : XE} {C : List AC}
theorem mt_x_ok (he : xe_g r e) (hl : xl_g r L cl) (hn : en_g r en EV) (hh : xh_g r G e C) (hg : gh_g r GF e C) : ∀ {l : MT} {u : List (Int × XI)}, mt_x G L en e l = some u → lm_g r u ∧ ∀ z, mt_g GF cl EV C l z ↔ z = ln_z r u
  | [], u, h => by cases h; exact ⟨(fun q hq => nomatch hq), (fun z => Iff.rfl)⟩
  | q :: t, u, h => by
    unfold mt_x at h
    split at h
    · rename_i x u' h1 h2
      cases h
      obtain ⟨b1, b2⟩ := mt_x_ok he hl hn hh hg h2
      have key : x.2.1 < r.2 ∧ ∀ z, mo_g GF cl EV C q.2 z ↔ z = xi_z r x := by
        cases hq : q.2 with
        | none =>
          rw [hq] at h1
          cases h1
          refine ⟨he.1, fun z => ?_⟩
          have h0 : xi_z r (0, 0, 0) = 0 := by rw [xi_z]; dsimp only; omega
          rw [h0]
          exact Iff.rfl
        | some s =>
          rw [hq] at h1
          obtain ⟨a1, a2⟩ := sp_x_ok hl hn hh hg (show sp_x G L en e s = some x from h1)
          exact ⟨a1, fun z => ⟨fun hz => sp_one (show sp_g GF cl EV C s z from hz) a2, fun hz => by rw [hz]; exact a2⟩⟩
      refine ⟨fun p hp => ?_, fun z => ⟨fun ⟨z1, z2, g1, g2, g3⟩ => ?_, fun hz => ⟨_, _, (key.2 _).mpr rfl, (b2 _).mpr rfl, hz⟩⟩⟩
      · rcases List.mem_cons.mp hp with rfl | hp
        · exact key.1
        · exact b1 p hp
      · show z = q.1 * xi_z r x + ln_z r u'
        rw [← (key.2 _).mp g1, ← (b2 _).mp g2]
        exact g3
    · cases h
def lm_d (e : XE) (l l' : List (Int × XI)) : Option Int := match l, l' with
  | [], [] => some 0
  | q :: t, q' :: t' => if q.1 = q'.1 then (match (if 0 ≤ q.1 then xd_u e q.2 q'.2 else xd_u e q'.2 q.2), lm_d e t t' with
      | some u, some d => some ((if 0 ≤ q.1 then q.1 * u else (-q.1) * u) + d)
      | _, _ => none)
    else none
  | _, _ => none
theorem lm_d_ok (he : xe_g r e) : ∀ {l l' : List (Int × XI)} {d : Int}, lm_d e l l' = some d → ln_z r l - ln_z r l' ≤ d
  | [], [], d, h => by cases h; exact Int.le_refl _
  | q :: t, q' :: t', d, h => by
    unfold lm_d at h
    split at h
    · rename_i hc
      split at h
      · rename_i u d0 hu h0
        cases h
        have ih := lm_d_ok he h0
        show q.1 * xi_z r q.2 + ln_z r t - (q'.1 * xi_z r q'.2 + ln_z r t') ≤ _
        rw [← hc]
        by_cases hp : 0 ≤ q.1
        · rw [if_pos hp] at hu ⊢
          have m := Int.mul_le_mul_of_nonneg_left (xd_u_ok he hu) hp
          rw [Int.mul_sub] at m
          omega
        · rw [if_neg hp] at hu ⊢
          have m := Int.mul_le_mul_of_nonneg_left (xd_u_ok he hu) (show 0 ≤ -q.1 by omega)
          rw [Int.mul_sub, Int.neg_mul, Int.neg_mul] at m
          omega
      · cases h
    · cases h
  | [], _ :: _, d, h => by cases h
  | _ :: _, [], d, h => by cases h
def lm_h (e : XE) (l : List (Int × XI)) : Option Int := match l with
  | [] => some 0
  | q :: t => match xi_bo e.2.1 q.2, lm_h e t with
    | some b, some d => some ((if 0 ≤ q.1 then q.1 * b.2 else q.1 * b.1) + d)
    | _, _ => none
theorem lm_h_ok (he : xe_g r e) : ∀ {l : List (Int × XI)} {d : Int}, lm_h e l = some d → ln_z r l ≤ d
  | [], d, h => by cases h; exact Int.le_refl _
  | q :: t, d, h => by
    unfold lm_h at h
    split at h
    · rename_i b d0 hb h0
      cases h
      have ih := lm_h_ok he h0
      have w := xi_bo_ok he hb
      show q.1 * xi_z r q.2 + ln_z r t ≤ _
      split
      · rename_i hp
        have m := Int.mul_le_mul_of_nonneg_left w.2 hp
        omega
      · rename_i hp
        have m := Int.mul_le_mul_of_nonneg_left w.1 (show 0 ≤ -q.1 by omega)
        rw [Int.neg_mul, Int.neg_mul] at m
        omega
    · cases h
def st2_g (r : RN) (st : Option (Int × List (Int × XI))) (Q : Int → Prop) : Prop := match st with
  | none => ∀ z, 0 ≤ z → Q z
  | some q => lm_g r q.2 ∧ ∀ z, 0 ≤ z → z < q.1 - ln_z r q.2 → Q z
theorem st2_g_mono {r r' : RN} (h : rn_le r r') {st : Option (Int × List (Int × XI))} {Q : Int → Prop} (hs : st2_g r st Q) : st2_g r' st Q := by
  cases st with
  | none => exact hs
  | some q =>
    obtain ⟨h1, h2⟩ := hs
    refine ⟨lm_g_mono h h1, fun z hz hlt => h2 z hz ?_⟩
    rw [lm_z_mono h h1] at hlt
    exact hlt
def mt_ok (e : XE) (c : Int) (l : List (Int × XI)) (st : Option (Int × List (Int × XI))) : Bool := (match lm_h e l with
  | some d => decide (d ≤ c)
  | none => false) && match st with
  | none => true
  | some q => match lm_d e q.2 l with
    | some d => decide (c - q.1 + d ≤ -1)
    | none => false
theorem mt_ok_ok (he : xe_g r e) {c : Int} {l : List (Int × XI)} {st : Option (Int × List (Int × XI))} {Q : Int → Prop} (hs : st2_g r st Q) (h : mt_ok e c l st = true) : Q (c - ln_z r l) := by
  unfold mt_ok at h
  simp only [Bool.and_eq_true] at h
  obtain ⟨h1, h2⟩ := h
  have low : 0 ≤ c - ln_z r l := by
    split at h1
    · rename_i d hd
      have := lm_h_ok he hd
      simp only [decide_eq_true_eq] at h1
      omega
    · cases h1
  cases st with
  | none => exact hs _ low
  | some q =>
    dsimp only at h2
    split at h2
    · rename_i d hd
      have := lm_d_ok he hd
      simp only [decide_eq_true_eq] at h2
      exact hs.2 _ low (by omega)
    · cases h2
/-- heads of loops: kinds of locals, places, relations, a number that goes down -/
abbrev HX : Type := List (Nat × AT) × List PB × List RL × Int × MT
def hx_g (GF : GH) (G : Nat → Option CT) (h : HX) (EV : List Int) (cl : List (Nat × AV)) (C : List AC) : Prop := xI G C ∧ (∀ q ∈ h.1, ∃ v, ea_lk cl q.1 = some v ∧ at_g q.2 v) ∧ (∃ NV, pb_g GF C h.2.1 NV) ∧ rl_g GF cl EV C h.2.2.1
def hx_at (G : Nat → Option CT) (en : List XI) (h : HX) (st : Option (Int × List (Int × XI))) (L : List (Nat × XV)) (S : List XV) (e : XE) : Bool := match S with
  | [] => xi_al2 G e && (ha_l L e h.1 && (pb_c G e h.2.1 && (rl_c G L en e h.2.2.1 && match mt_x G L en e h.2.2.2.2 with
    | some l => mt_ok e h.2.2.2.1 l st
    | none => false)))
  | _ => false
theorem hx_at_ok (h9 : ∀ b, 999 ≤ b → G b = none) {h : HX} {st : Option (Int × List (Int × XI))} {S : List XV} {cs : List AV} {Q : Int → Prop} (he : xe_g r e) (hl : xl_g r L cl) (hs : xs_g r S cs) (hn : en_g r en EV) (hh : xh_g r G e C) (hg : gh_g r GF e C) (hst : st2_g r st Q) (h1 : hx_at G en h st L S e = true) : cs = [] ∧ hx_g GF G h EV cl C ∧ ∃ z, mt_g GF cl EV C h.2.2.2.2 z ∧ Q (h.2.2.2.1 - z) := by
  unfold hx_at at h1
  split at h1
  · simp only [Bool.and_eq_true] at h1
    obtain ⟨g1, g2, g3, g4, g5⟩ := h1
    refine ⟨ea_rl_nil hs, ⟨xI_of2 h9 he hh g1, ha_l_ok he hl g2, pb_c_ok he hh hg g3, rl_c_ok he hl hn hh hg g4⟩, ?_⟩
    split at g5
    · rename_i l hm
      obtain ⟨k1, k2⟩ := mt_x_ok he hl hn hh hg hm
      exact ⟨_, (k2 _).mpr rfl, mt_ok_ok he hst g5⟩
    · cases g5
  · cases h1
end MT
end
section
/-! THE CHECKER WITH RELATIONS: its step -/
def cx_pick (G : Nat → Option CT) (e : XE) (L1 : List (Nat × XV)) (as : List XV) (l : List CX) : Option (CX × List XI) := match l with
  | [] => none
  | c :: t => bif xa_fits e as c.1.2.1 then (match pb_x G e c.1.2.2.2.2.2 with
      | some en => bif rl_c G L1 en e c.2.1 then some (c, en) else cx_pick G e L1 as t
      | none => cx_pick G e L1 as t) else cx_pick G e L1 as t
theorem cx_pick_ok {G : Nat → Option CT} {e : XE} {L1 : List (Nat × XV)} {as : List XV} : ∀ {l : List CX} {c : CX} {en : List XI}, cx_pick G e L1 as l = some (c, en) → c ∈ l ∧ xa_fits e as c.1.2.1 = true ∧ pb_x G e c.1.2.2.2.2.2 = some en ∧ rl_c G L1 en e c.2.1 = true
  | [], c, en, h => by cases h
  | d :: t, c, en, h => by
    have rec' : cx_pick G e L1 as t = some (c, en) → c ∈ d :: t ∧ xa_fits e as c.1.2.1 = true ∧ pb_x G e c.1.2.2.2.2.2 = some en ∧ rl_c G L1 en e c.2.1 = true := fun h => by
      obtain ⟨h1, h2⟩ := cx_pick_ok h
      exact ⟨List.mem_cons_of_mem _ h1, h2⟩
    unfold cx_pick at h
    cases hb : xa_fits e as d.1.2.1 with
    | false => rw [hb] at h; exact rec' h
    | true =>
      rw [hb] at h
      simp only [cond_true] at h
      split at h
      · rename_i en' hen
        cases hr : rl_c G L1 en' e d.2.1 with
        | false => rw [hr] at h; exact rec' h
        | true =>
          rw [hr] at h
          cases h
          exact ⟨List.mem_cons_self, hb, hen, hr⟩
      · exact rec' h
/-- behind a call, in one of its two ways -/
def xk_w (G : Nat → Option CT) (en : List XI) (rt : Nat × Int × Int) (po : PO) (T : List XV) (e : XE) (k : List XV → XE → Bool) : Bool :=
  match rl_i G (match rt.1 with
    | 1 => [(0, .inl (xo_new e rt.2.1 rt.2.2).1)]
    | _ => []) en (pb_i G po.1 (xc_ret rt T e).2) po.2 with
  | some e' => fS (xc_ret rt T e).1 fun S => fEa e' fun e' => k S e'
  | none => true
def xk_c (G : Nat → Option CT) (c : CX) (en : List XI) (T : List XV) (e : XE) (k : List XV → XE → Bool) : Bool := match c.1.2.2.2.1.1 with
  | 1 => bif decide (c.2.2.1 ≤ c.1.2.2.2.1.2.1) then xk_w G en c.1.2.2.2.1 c.2.2.2.2 T e k
    else xk_w G en (1, c.1.2.2.2.1.2.1, c.2.2.1 - 1) c.2.2.2.1 T e k && xk_w G en (1, c.2.2.1, c.1.2.2.2.1.2.2) c.2.2.2.2 T e k
  | _ => xk_w G en c.1.2.2.2.1 c.2.2.2.2 T e k
section XK
variable {r : RN} {GF : GH} {G : Nat → Option CT} {en : List XI} {EV : List Int} {e : XE} {C : List AC} {T : List XV} {ct : List AV} {k : List XV → XE → Bool}
theorem xk_w_ok (h9 : ∀ b, 999 ≤ b → G b = none) {rt : Nat × Int × Int} {po : PO} (he : xe_g r e) (hT : xs_g r T ct) (hn : en_g r en EV) (hh : xh_g r G e C) (hg : gh_g r GF e C) {v : Option AV} (hv : rt_g rt v) (hp : po_g GF po v EV C) (h : xk_w G en rt po T e k = true) : ∃ r' S e', rn_le r r' ∧ xe_g r' e' ∧ xs_g r' S (v.toList ++ ct) ∧ xh_g r' G e' C ∧ gh_g r' GF e' C ∧ k S e' = true := by
  unfold xk_w at h
  obtain ⟨r1, a1, a2, a3, a4⟩ := xc_ret_ok he hv hT
  obtain ⟨⟨NV, hNV⟩, hrl⟩ := hp
  obtain ⟨r2, b1, b2, b3, b4⟩ := pb_i_ok h9 a2 (xh_g_mono a1 a4 hh) (gh_g_mono a1 a4 hg) hNV
  have hL : xl_g r2 (match rt.1 with
    | 1 => [(0, .inl (xo_new e rt.2.1 rt.2.2).1)]
    | _ => []) (rv_l v) := by
    obtain ⟨t1, lo, hi⟩ := rt
    match t1, hv, a3 with
    | 0, hv, a3 => exact fun q hq => nomatch hq
    | 1, ⟨x, hx, h1, h2⟩, a3 =>
      subst hx
      intro q hq
      rcases List.mem_cons.mp hq with rfl | hq
      · exact ⟨_, rfl, xv_g_mono b1 a3.1⟩
      · exact nomatch hq
    | _ + 2, hv, a3 => exact fun q hq => nomatch hq
  obtain ⟨e2, c1, c2, c3⟩ := rl_i_ok b2 hL (en_g_mono (rn_le_tr a1 b1) hn) b3 b4 hrl
  rw [c1] at h
  dsimp only at h
  rw [fS_eq, fEa_eq] at h
  exact ⟨r2, _, e2, rn_le_tr a1 b1, c2, xs_g_mono b1 a3, xh_g_mono (rn_le_rf r2) c3 b3, gh_g_mono (rn_le_rf r2) c3 b4, h⟩
theorem xk_c_ok (h9 : ∀ b, 999 ≤ b → G b = none) {c : CX} (he : xe_g r e) (hT : xs_g r T ct) (hn : en_g r en EV) (hh : xh_g r G e C) (hg : gh_g r GF e C) {v : Option AV} (hv : rt_g c.1.2.2.2.1 v) (hp : po_g GF (cx_po c v) v EV C) (h : xk_c G c en T e k = true) : ∃ r' S e', rn_le r r' ∧ xe_g r' e' ∧ xs_g r' S (v.toList ++ ct) ∧ xh_g r' G e' C ∧ gh_g r' GF e' C ∧ k S e' = true := by
  unfold xk_c at h
  split at h
  · rename_i h1
    have hv0 := hv
    unfold rt_g at hv
    rw [h1] at hv
    obtain ⟨x, rfl, x1, x2⟩ := hv
    unfold cx_po at hp
    dsimp only at hp
    cases hb : decide (c.2.2.1 ≤ c.1.2.2.2.1.2.1) with
    | true =>
      rw [hb] at h
      simp only [cond_true, decide_eq_true_eq] at h hb
      rw [if_neg (by omega)] at hp
      exact xk_w_ok h9 he hT hn hh hg hv0 hp h
    | false =>
      rw [hb] at h
      simp only [cond_false, Bool.and_eq_true] at h
      split at hp
      · exact xk_w_ok h9 he hT hn hh hg (rt := (1, c.1.2.2.2.1.2.1, c.2.2.1 - 1)) ⟨x, rfl, x1, by dsimp only; omega⟩ hp h.1
      · exact xk_w_ok h9 he hT hn hh hg (rt := (1, c.2.2.1, c.1.2.2.2.1.2.2)) ⟨x, rfl, by dsimp only; omega, x2⟩ hp h.2
  · rename_i h1
    have hp2 : po_g GF c.2.2.2.2 v EV C := by
      unfold cx_po at hp
      split at hp
      · rename_i x
        exfalso
        unfold rt_g at hv
        split at hv
        · cases hv
        · rename_i h2
          exact h1 h2
        · obtain ⟨y, hy⟩ := hv
          cases hy
      · exact hp
    exact xk_w_ok h9 he hT hn hh hg hv hp2 h
end XK
/-- what holds at a method's end -/
def po_c (G : Nat → Option CT) (en : List XI) (v : Option XV) (po : PO) (e : XE) : Bool := pb_c G e po.1 && rl_c G (match v with
  | some x => [(0, x)]
  | none => []) en e po.2
def xr_po (G : Nat → Option CT) (c : CX) (en : List XI) (v : Option XV) (e : XE) : Bool := match v with
  | some (.inl i) => xz_o (xq_le e (0, 0, c.2.2.1) i 0) (fun e => po_c G en v c.2.2.2.2 e) && xz_o (xq_le e i (0, 0, c.2.2.1) (-1)) (fun e => po_c G en v c.2.2.2.1 e)
  | _ => po_c G en v c.2.2.2.2 e
theorem po_c_ok {r : RN} {GF : GH} {G : Nat → Option CT} {en : List XI} {EV : List Int} {e : XE} {C : List AC} (he : xe_g r e) (hn : en_g r en EV) (hh : xh_g r G e C) (hg : gh_g r GF e C) {a : Option XV} {v : Option AV} (hv : xs_ov r a v) {po : PO} (h : po_c G en a po e = true) : po_g GF po v EV C := by
  unfold po_c at h
  simp only [Bool.and_eq_true] at h
  refine ⟨pb_c_ok he hh hg h.1, rl_c_ok he ?_ hn hh hg h.2⟩
  cases a with
  | none => rw [show v = none from hv]; exact fun q hq => nomatch hq
  | some x =>
    obtain ⟨u, rfl, hu⟩ := hv
    intro q hq
    rcases List.mem_cons.mp hq with rfl | hq
    · exact ⟨u, rfl, hu⟩
    · exact nomatch hq
theorem xr_po_ok {r : RN} {GF : GH} {G : Nat → Option CT} {c : CX} {en : List XI} {EV : List Int} {e : XE} {C : List AC} (he : xe_g r e) (hn : en_g r en EV) (hh : xh_g r G e C) (hg : gh_g r GF e C) {a : Option XV} {v : Option AV} (hv : xs_ov r a v) (h : xr_po G c en a e = true) : po_g GF (cx_po c v) v EV C := by
  unfold xr_po at h
  split at h
  · rename_i i
    simp only [Bool.and_eq_true] at h
    have hv0 := hv
    obtain ⟨u, rfl, x, rfl, hx⟩ := hv
    unfold cx_po
    dsimp only
    have hk : xi_z r (0, 0, c.2.2.1) = c.2.2.1 := by unfold xi_z; dsimp only; omega
    split
    · obtain ⟨e', k1, k2, k3⟩ := xq_le_ok (k := -1) he hx.1 (j := (0, 0, c.2.2.1)) he.1 (by rw [hk, ← hx.2]; omega)
      exact po_c_ok k2 hn (xh_g_mono (rn_le_rf r) k3 hh) (gh_g_mono (rn_le_rf r) k3 hg) hv0 (xz_o_ok h.2 k1)
    · obtain ⟨e', k1, k2, k3⟩ := xq_le_ok (k := 0) he (i := (0, 0, c.2.2.1)) he.1 hx.1 (by rw [hk, ← hx.2]; omega)
      exact po_c_ok k2 hn (xh_g_mono (rn_le_rf r) k3 hh) (gh_g_mono (rn_le_rf r) k3 hg) hv0 (xz_o_ok h.1 k1)
  · rename_i hne
    have : cx_po c v = c.2.2.2.2 := by
      unfold cx_po
      split
      · rename_i x
        exfalso
        cases a with
        | none => cases (show some _ = none from hv)
        | some b =>
          obtain ⟨u, hu, hb⟩ := hv
          cases hu
          match b, hb, hne with
          | .inl i, _, hne => exact hne i rfl
          | .inr (.inl k), hb, _ => cases (show Sum.inl _ = Sum.inr _ from hb)
          | .inr (.inr 0), hb, _ => obtain ⟨y, hy⟩ := hb; cases hy
          | .inr (.inr 1), hb, _ => cases (show Sum.inl _ = Sum.inr _ from hb)
          | .inr (.inr 2), hb, _ => cases (show Sum.inl _ = Sum.inr _ from hb)
          | .inr (.inr (_ + 3)), hb, _ => cases (show Sum.inl _ = Sum.inr _ from hb)
      · rfl
    rw [this]
    exact po_c_ok he hn hh hg hv h
/-- a method's end -/
def xz2_r (G : Nat → Option CT) (c : CX) (en : List XI) (ih : IH) (v : Option XV) (e : XE) (F : List FR) : Bool := match F with
  | [] => xs_fit e c.1.2.2.2.1 v && (xi_al2 G e && xr_po G c en v e)
  | f :: t => ea_fn (f.2.1 + 3) fun pc => ih f.1 pc f.2.2.1 (v.toList ++ f.2.2.2.1) e t
/-- a call -/
def xz2_c (P : EP) (G : Nat → Option CT) (cts : Nat → List CX) (c : CX) (ih : IH) (i : Instr) (m pc : Nat) (L : List (Nat × XV)) (S : List XV) (e : XE) (F : List FR) : Bool := match xs_cl (ep_own P) G i (ep_pl P m) S with
  | some (mj, as, T, b) => bif Nat.blt (ep_dep P mj) (ep_dep P m) && (Nat.ble (xs_wt T) 8 && Nat.ble (xs_wt as) (ep_nls P mj)) then ea_fL (xa_ar 0 as) fun L1 => ea_fL T fun T => match cx_pick G e L1 as (cts mj) with
      | some (c', en') => bif xi_al2 G e && xm_sub c'.1.2.2.1 c.1.2.2.1 then
          ea_fn (pc + 3) fun pc => fEa (xe_fr e c'.1.2.2.1) fun e => xk_c G c' en' T e (fun S e => ih m pc L S e F)
        else false
      | none => ih mj 0 L1 [] e ((m, pc, L, T, b) :: F)
    else false
  | none => false
def xs_mm2 (i : Instr) (pl : Nat → Option (Nat × Nat × Nat)) (S : List XV) : Option (Bool × XI × XI × List XV) := match i with
  | .invokestatic x => match pl x, S with
    | some (16, _), .inl b :: .inl a :: T => some (true, a, b, T)
    | some (17, _), .inl b :: .inl a :: T => some (false, a, b, T)
    | _, _ => none
  | _ => none
def xz2_i (P : EP) (G : Nat → Option CT) (cts : Nat → List CX) (c : CX) (ih : IH) (i : Instr) (m pc : Nat) (L : List (Nat × XV)) (S : List XV) (e : XE) (F : List FR) : Bool := match i with
  | .invokestatic x => match xs_mm2 i (ep_pl P m) S with
    | some (mx, a, b, T) => bif Nat.ble (xs_wt T + 1) 80 && Nat.ble 1 (ep_dep P m) then ea_fn (pc + 3) fun pc =>
        bif mx then xz_o (xr_le e a b (-1)) (fun e => ih m pc L (.inl b :: T) e F) && xz_o (xr_le e b a 0) (fun e => ih m pc L (.inl a :: T) e F)
        else xz_o (xr_le e b a (-1)) (fun e => ih m pc L (.inl b :: T) e F) && xz_o (xr_le e a b 0) (fun e => ih m pc L (.inl a :: T) e F)
      else false
    | none => bif ea_is9 (ep_pl P m x) then false else xz2_c P G cts c ih i m pc L S e F
  | .invokevirtual _ => xz2_c P G cts c ih i m pc L S e F
  | .tableswitch _ lo hi _ => if -2147483648 ≤ lo ∧ lo ≤ 2147483647 ∧ -2147483648 ≤ hi ∧ hi ≤ 2147483647 then match xs_sw i pc S e with
      | some (l, S) => xz_l l (fun t e => ih m t L S e F)
      | none => false
    else false
  | _ => false
/-- an instruction on cells: ghosts that it reaches -/
def xz2_s (gs : GS) (c : CX) (pl : Nat → Option (Nat × Nat × Nat)) (i : Instr) (S : List XV) (e e' : XE) : Option XE := bif xs_sto i then match xs_tc pl i S e.2.1 with
  | some t => bif gs_all gs c.1.2.2.1 t then some (xe_gd gs t e') else none
  | none => none
  else some e'
/-- a piece that is proved otherwise -/
def xz2_m (G : Nat → Option CT) (c : CX) (mc : CX × Nat) (L : List (Nat × XV)) (e : XE) (k : XE → Bool) : Bool := match pb_x G e mc.1.1.2.2.2.2.2 with
  | some en' => bif rl_c G L en' e mc.1.2.1 && (xi_al2 G e && (xm_sub mc.1.1.2.2.1 c.1.2.2.1 && ha_l L e (mc_l mc.1.1.2.1))) then fEa (xe_fr e mc.1.1.2.2.1) fun e => match rl_i G [] en' (pb_i G mc.1.2.2.2.2.1 e) mc.1.2.2.2.2.2 with
      | some e' => fEa e' fun e' => k e'
      | none => true
    else false
  | none => false
/-- a step -/
def xz2 (P : EP) (G : Nat → Option CT) (gs : GS) (cts : Nat → List CX) (mac : Nat → Nat → Option (CX × Nat)) (c : CX) (en : List XI) (ih : IH) (m pc : Nat) (L : List (Nat × XV)) (S : List XV) (e : XE) (F : List FR) : Bool := match mac m pc with
  | some mc => xz2_m G c mc L e (fun e => ih m mc.2 L S e F)
  | none => match ep_cod P m pc with
    | none => false
    | some (i, len) => bif Nat.beq (ea_len i) 0 || Nat.beq (ea_len i) len then match xs_p i pc (ep_nls P m) L S e with
      | some f => ea_fn f.1 fun pc => fL f.2.1 fun L => fS f.2.2.1 fun S => fE f.2.2.2 fun e => ih m pc L S e F
      | none => match xs_h (xm c.1.2.2.1) G (ep_ini P m) (ep_pl P m) (ep_fty P) i pc S e with
        | some f => (match xz2_s gs c (ep_pl P m) i S e f.2.2 with
          | some e' => ea_fn f.1 fun pc => fS f.2.1 fun S => fE e' fun e => ih m pc L S e F
          | none => false)
        | none => match xs_br i pc S with
          | some (cd, a, b, t, S) => xz_o (xr_c cd e a b) (fun e => ih m t L S e F) && xz_o (xr_c (xr_not cd) e a b) (fun e => ea_fn (pc + 3) fun pc => ih m pc L S e F)
          | none => match xs_rt (ep_rtp P m) i S e with
            | some v => xz2_r G c en ih v e F
            | none => xz2_i P G cts c ih i m pc L S e F
    else false
def xw2_s (P : EP) (G : Nat → Option CT) (GF : GH) (c : CX) (en : List XI) (EV : List Int) (C0 : List AC) (st : Option (Int × List (Int × XI))) (Q : Int → Prop) (m pc : Nat) (L : List (Nat × XV)) (S : List XV) (e : XE) (F : List FR) : Prop := ∀ (r : RN) (cl : List (Nat × AV)) (cs : List AV) (C : List AC) (cf : List FC), st2_g r st Q → en_g r en EV → xe_g r e → xl_g r L cl → xs_g r S cs → xh_g r G e C → gh_g r GF e C → ea_rl (fr_g r) F cf → fr_c GF c.1.2.2.1 C0 C → ok_ P m pc cl cs C (fr_K P (cx_post GF G c EV C0) cf)
section XW2
variable {P : EP} {G : Nat → Option CT} {GF : GH} {gs : GS} {cts : Nat → List CX} {mac : Nat → Nat → Option (CX × Nat)} {c : CX} {en : List XI} {EV : List Int} {C0 : List AC} {st : Option (Int × List (Int × XI))} {Q : Int → Prop} {ih : IH}
theorem xe_fr_gh {r : RN} {e : XE} {C C' : List AC} {M : List (Nat × Nat)} (hg : gh_g r GF e C) (hM : ∀ k, 999 ≤ k → xm M k = false → GF k C' = GF k C) : gh_g r GF (xe_fr e M) C' := by
  intro a k x hk hx
  have hx2 : xo_k (e.2.2.2.2.filter (fun q => !xm M q.1)) a k = some x := hx
  rw [xo_k_filter] at hx2
  split at hx2
  · cases hx2
  · rename_i hn
    have h0 : xm M a = false := by
      cases h : xm M a with
      | false => rfl
      | true => exact absurd h hn
    rw [hM a hk h0]
    exact hg a k x hk hx2
set_option maxHeartbeats 2000000 in
theorem xz2_c_ok (h9 : ∀ b, 999 ≤ b → G b = none) (hct : ∀ mj c', c' ∈ cts mj → c'.1.1 = mj ∧ cx_ok P G GF c') (hI : ∀ m pc L S e F, ih m pc L S e F = true → xw2_s P G GF c en EV C0 st Q m pc L S e F) {i : Instr} {m pc : Nat} {L : List (Nat × XV)} {S : List XV} {e : XE} {F : List FR} (hc : ep_cod P m pc = some (i, 3)) (h : xz2_c P G cts c ih i m pc L S e F = true) : xw2_s P G GF c en EV C0 st Q m pc L S e F := by
  intro r cl cs C cf hst hn he hl hs hh hg hf hfr
  unfold xz2_c at h
  split at h
  · rename_i mj as T b hcl
    obtain ⟨q, vs, ct, k1, k2, k3, k4, k5⟩ := xs_cl_ok hs hh hcl
    cases hd : (Nat.blt (ep_dep P mj) (ep_dep P m) && (Nat.ble (xs_wt T) 8 && Nat.ble (xs_wt as) (ep_nls P mj))) with
    | false => rw [hd] at h; cases h
    | true =>
      rw [hd] at h
      simp only [cond_true] at h
      rw [ea_fL_eq, ea_fL_eq] at h
      rw [← xs_wt_ok k3, ← xs_wt_ok k4] at hd
      refine ok_call hc k1 k2 hd ?_
      split at h
      · rename_i c' en' hpick
        obtain ⟨p1, p2, p3, p4⟩ := cx_pick_ok hpick
        obtain ⟨q1, q2⟩ := hct mj c' p1
        cases hb : (xi_al2 G e && xm_sub c'.1.2.2.1 c.1.2.2.1) with
        | false => rw [hb] at h; cases h
        | true =>
          rw [hb] at h
          simp only [cond_true] at h
          rw [ea_fn_eq, fEa_eq] at h
          simp only [Bool.and_eq_true] at hb
          obtain ⟨i1, i2⟩ := hb
          have hx : xI G C := xI_of2 h9 he hh i1
          obtain ⟨EV', v1, v2⟩ := pb_x_ok he hh hg p3
          have run := q2 vs C EV' (xa_fits_ok he p2 k3) hx v1 (rl_c_ok he (xa_ar_ok 0 k3) v2 hh hg p4)
          rw [q1] at run
          refine ok_post run (fun o C' ho => ?_)
          obtain ⟨v, rfl, o1, o2, o3, o4⟩ := ho
          have he' : xe_g r (xe_fr e c'.1.2.2.1) := he
          obtain ⟨r', S', e', j1, j2, j3, j4, j5, j6⟩ := xk_c_ok h9 he' k4 v2 (xI_to hh o1 o2.1) (xe_fr_gh hg o2.2) o3 o4 h
          exact hI _ _ _ _ _ _ j6 r' cl (v.toList ++ ct) C' cf (st2_g_mono j1 hst) (en_g_mono j1 hn) j2 (xl_g_mono j1 hl) j3 j4 j5 (fr_g_mono j1 hf) (fr_c_tr hfr i2 o2)
      · exact hI _ _ _ _ _ _ h r _ [] C ((m, pc, cl, ct, b) :: cf) hst hn he (xa_ar_ok 0 k3) trivial hh hg ⟨⟨rfl, rfl, hl, k4, rfl⟩, hf⟩ hfr
  · cases h
theorem xs_mm2_ok {r : RN} {i : Instr} {pl : Nat → Option (Nat × Nat × Nat)} {S T : List XV} {cs : List AV} {mx : Bool} {a b : XI} (hs : xs_g r S cs) (h : xs_mm2 i pl S = some (mx, a, b, T)) : ∃ x y z ct, i = .invokestatic z ∧ xi_g r a x ∧ xi_g r b y ∧ xs_g r T ct ∧ ea_mm (pl z) cs = some (.inl (.inl (bif mx then (if x < y then y else x) else (if y < x then y else x))) :: ct) := by
  cases i with
  | invokestatic z =>
    unfold xs_mm2 at h
    dsimp only at h
    split at h
    · rename_i u b' a' T' hp
      cases h
      obtain ⟨_, _, rfl, ⟨y, rfl, hy⟩, hs1⟩ := xs_pop hs
      obtain ⟨_, _, rfl, ⟨x, rfl, hx⟩, hs2⟩ := xs_pop hs1
      exact ⟨x, y, z, _, rfl, hx, hy, hs2, by rw [hp]; rfl⟩
    · rename_i u b' a' T' hp
      cases h
      obtain ⟨_, _, rfl, ⟨y, rfl, hy⟩, hs1⟩ := xs_pop hs
      obtain ⟨_, _, rfl, ⟨x, rfl, hx⟩, hs2⟩ := xs_pop hs1
      exact ⟨x, y, z, _, rfl, hx, hy, hs2, by rw [hp]; rfl⟩
    · cases h
  | _ => cases h
set_option maxHeartbeats 2000000 in
theorem xz2_i_ok (h9 : ∀ b, 999 ≤ b → G b = none) (hct : ∀ mj c', c' ∈ cts mj → c'.1.1 = mj ∧ cx_ok P G GF c') (hI : ∀ m pc L S e F, ih m pc L S e F = true → xw2_s P G GF c en EV C0 st Q m pc L S e F) {i : Instr} {len m pc : Nat} {L : List (Nat × XV)} {S : List XV} {e : XE} {F : List FR} (hc : ep_cod P m pc = some (i, len)) (hlen : (Nat.beq (ea_len i) 0 || Nat.beq (ea_len i) len) = true) (h : xz2_i P G cts c ih i m pc L S e F = true) : xw2_s P G GF c en EV C0 st Q m pc L S e F := by
  cases i with
  | invokestatic x =>
    obtain rfl := len3 hlen rfl
    unfold xz2_i at h
    dsimp only at h
    split at h
    · rename_i mx a b T hq
      cases hb : (Nat.ble (xs_wt T + 1) 80 && Nat.ble 1 (ep_dep P m)) with
      | false => rw [hb] at h; cases h
      | true =>
        rw [hb] at h
        simp only [cond_true] at h
        rw [ea_fn_eq] at h
        intro r cl cs C cf hst hn he hl hs hh hg hf hfr
        obtain ⟨u, v, z, ct, e1, hu, hv, hT, hm⟩ := xs_mm2_ok hs hq
        cases e1
        refine ok_mm hc hm (by rw [show ea_wt (.inl (.inl (bif mx then (if u < v then v else u) else (if v < u then v else u))) :: ct) = xs_wt T + 1 from by rw [← xs_wt_ok hT]; exact Nat.add_comm _ _]; exact hb) ?_
        cases mx with
        | true =>
          simp only [cond_true, Bool.and_eq_true] at h ⊢
          split
          · rename_i hlt
            obtain ⟨e', j1, j2, j3⟩ := xr_le_ok (k := -1) he hu hv (by have := Int32.lt_iff_toInt_lt.mp hlt; omega)
            exact hI _ _ _ _ _ _ (xz_o_ok h.1 j1) r cl _ C cf hst hn j2 hl (xs_cons (xv_gi hv) hT) (xh_g_mono (rn_le_rf r) j3 hh) (gh_g_mono (rn_le_rf r) j3 hg) hf hfr
          · rename_i hlt
            obtain ⟨e', j1, j2, j3⟩ := xr_le_ok (k := 0) he hv hu (by have := mt Int32.lt_iff_toInt_lt.mpr hlt; omega)
            exact hI _ _ _ _ _ _ (xz_o_ok h.2 j1) r cl _ C cf hst hn j2 hl (xs_cons (xv_gi hu) hT) (xh_g_mono (rn_le_rf r) j3 hh) (gh_g_mono (rn_le_rf r) j3 hg) hf hfr
        | false =>
          simp only [cond_false, Bool.and_eq_true] at h ⊢
          split
          · rename_i hlt
            obtain ⟨e', j1, j2, j3⟩ := xr_le_ok (k := -1) he hv hu (by have := Int32.lt_iff_toInt_lt.mp hlt; omega)
            exact hI _ _ _ _ _ _ (xz_o_ok h.1 j1) r cl _ C cf hst hn j2 hl (xs_cons (xv_gi hv) hT) (xh_g_mono (rn_le_rf r) j3 hh) (gh_g_mono (rn_le_rf r) j3 hg) hf hfr
          · rename_i hlt
            obtain ⟨e', j1, j2, j3⟩ := xr_le_ok (k := 0) he hu hv (by have := mt Int32.lt_iff_toInt_lt.mpr hlt; omega)
            exact hI _ _ _ _ _ _ (xz_o_ok h.2 j1) r cl _ C cf hst hn j2 hl (xs_cons (xv_gi hu) hT) (xh_g_mono (rn_le_rf r) j3 hh) (gh_g_mono (rn_le_rf r) j3 hg) hf hfr
    · cases h9' : ea_is9 (ep_pl P m x) with
      | true => rw [h9'] at h; cases h
      | false =>
        rw [h9'] at h
        exact xz2_c_ok h9 hct hI hc h
  | invokevirtual x =>
    obtain rfl := len3 hlen rfl
    exact xz2_c_ok h9 hct hI hc h
  | tableswitch d lo hi offs =>
    unfold xz2_i at h
    dsimp only at h
    split at h
    · rename_i hb
      split at h
      · rename_i l S' hsw
        intro r cl cs C cf hst hn he hl hs hh hg hf hfr
        obtain ⟨t, e', cs', k1, k2, k3, k4, k5⟩ := xs_sw_ok (nL := ep_nls P m) (cl := cl) (fun _ _ _ _ heq => by cases heq; exact hb) he hs hsw
        refine ok_p hc hlen k5 ?_
        exact hI _ _ _ _ _ _ (xz_l_ok h k1) r cl cs' C cf hst hn k2 hl k4 (xh_g_mono (rn_le_rf r) k3 hh) (gh_g_mono (rn_le_rf r) k3 hg) hf hfr
      · cases h
    · cases h
  | _ => cases h
theorem xo_new_O (e : XE) (lo hi : Int) : (xo_new e lo hi).2.2.2.2 = e.2.2.2 := by
  unfold xo_new
  split <;> rfl
/-- what a step on cells does to the ghosts -/
theorem xs_h_O {M : Nat → Bool} {ini : Bool} {pl : Nat → Option (Nat × Nat × Nat)} {fty : Nat → Nat → Nat} {i : Instr} {pc : Nat} {S : List XV} {e : XE} {f : Nat × List XV × XE} (h9 : ∀ b, 999 ≤ b → G b = none) (h : xs_h M G ini pl fty i pc S e = some f) {g : Nat} (hg9 : 999 ≤ g) (k : Nat) : xo_k f.2.2.2.2.2.2 g k = xo_k e.2.2.2.2 g k := by
  have put : ∀ (a : Nat) (q : CT) (j : Nat) (x : XI) (O : List (Nat × Nat × XI)), G a = some q → xo_k ((a, j, x) :: O) g k = xo_k O g k := by
    intro a q j x O hG
    rw [xo_k_cons, if_neg]
    rintro ⟨rfl, -⟩
    rw [h9 _ hg9] at hG
    cases hG
  cases i with
  | getfield x =>
    unfold xs_h at h
    dsimp only at h
    split at h
    · rename_i ci j hp
      unfold xs_gf at h
      split at h
      · rename_i a S0
        split at h
        · rename_i ci' fs hG
          obtain ⟨-, h⟩ := bif_n h
          split at h
          · obtain ⟨-, h⟩ := bif_n h
            cases h
            rfl
          · split at h
            · cases h
              rfl
            · cases h
              show xo_k ((a, j, _) :: (xo_new e _ _).2.2.2.2.2) g k = _
              rw [put a _ _ _ _ hG, xo_new_O]
            · cases h
        · cases h
      · cases h
    · unfold xs_sf at h
      split at h
      · split at h
        · obtain ⟨-, h⟩ := bif_n h
          cases h
          rfl
        · obtain ⟨-, h⟩ := bif_n h
          cases h
          rfl
        · cases h
      · cases h
  | getstatic x =>
    unfold xs_h at h
    dsimp only at h
    split at h
    · cases h
      rfl
    · cases h
      rfl
    · cases h
  | putfield x =>
    unfold xs_h at h
    dsimp only at h
    split at h
    · rename_i ci j hp
      unfold xs_pf at h
      split at h
      · rename_i v a S0
        split at h
        · rename_i ci' fs hG
          obtain ⟨-, h⟩ := bif_n h
          split at h
          · split at h
            · cases h
              exact put a _ _ _ _ hG
            · split at h
              · cases h
                exact put a _ _ _ _ hG
              · cases h
            · cases h
          · cases h
        · cases h
      · cases h
    · cases h
  | iaload =>
    unfold xs_h xs_al at h
    dsimp only at h
    split at h
    · split at h
      · obtain ⟨-, h⟩ := bif_n h
        split at h
        · cases h; rfl
        · obtain ⟨-, h⟩ := bif_n h
          split at h
          · split at h
            · rename_i q hq
              cases h
              cases hb : (xt_in _ q.1 q.2 && Nat.blt e.2.2.2.1.length 10) with
              | true => show xo_k (xo_new e _ _).2.2.2.2.2 g k = _; rw [xo_new_O]
              | false => show xo_k (xo_new e _ _).2.2.2.2.2 g k = _; rw [xo_new_O]
            · cases h
          · cases h
      · cases h
    · cases h
  | baload =>
    unfold xs_h at h
    dsimp only at h
    split at h
    · rename_i f' hf
      cases h
      unfold xs_al at hf
      split at hf
      · split at hf
        · obtain ⟨-, hf⟩ := bif_n hf
          split at hf
          · cases hf; rfl
          · obtain ⟨-, hf⟩ := bif_n hf
            split at hf
            · split at hf
              · rename_i q hq
                cases hf
                cases hb : (xt_in _ q.1 q.2 && Nat.blt e.2.2.2.1.length 10) with
                | true => show xo_k (xo_new e _ _).2.2.2.2.2 g k = _; rw [xo_new_O]
                | false => show xo_k (xo_new e _ _).2.2.2.2.2 g k = _; rw [xo_new_O]
              · cases hf
            · cases hf
        · cases hf
      · cases hf
    · unfold xs_sb at h
      split at h
      · rename_i i q S0 hx9
        obtain ⟨-, h⟩ := bif_n h
        cases h0 : decide (i.1 = 0) with
        | true =>
          rw [h0] at h
          cases h
          rfl
        | false =>
          rw [h0] at h
          cases h
          show xo_k (xo_new e _ _).2.2.2.2.2 g k = _
          rw [xo_new_O]
      · cases h
  | iastore =>
    unfold xs_h xs_as at h
    dsimp only at h
    split at h
    · split at h
      · obtain ⟨-, h⟩ := bif_n h
        cases h
        rfl
      · cases h
    · cases h
  | bastore =>
    unfold xs_h xs_bs at h
    dsimp only at h
    split at h
    · split at h
      · obtain ⟨-, h⟩ := bif_n h
        obtain ⟨-, h⟩ := bif_n h
        cases h
        rfl
      · cases h
    · cases h
  | laload =>
    unfold xs_h xs_ll at h
    dsimp only at h
    split at h
    · split at h
      · obtain ⟨-, h⟩ := bif_n h
        cases h
        rfl
      · cases h
    · cases h
  | lastore =>
    unfold xs_h xs_lst at h
    dsimp only at h
    split at h
    · split at h
      · obtain ⟨-, h⟩ := bif_n h
        cases h
        rfl
      · cases h
    · cases h
  | aaload =>
    unfold xs_h xs_aa at h
    dsimp only at h
    repeat' (split at h)
    all_goals first | (cases h; rfl) | cases h
  | arraylength =>
    unfold xs_h at h
    dsimp only at h
    split at h
    · rename_i f' hf
      cases h
      unfold xs_len at hf
      repeat' (split at hf)
      all_goals first | (cases hf; rfl) | cases hf
    · unfold xs_sl at h
      split at h
      · obtain ⟨-, h⟩ := bif_n h
        cases h
        rfl
      · cases h
  | ldc x =>
    unfold xs_h at h
    dsimp only at h
    split at h
    · cases h; rfl
    · obtain ⟨-, h⟩ := bif_n h
      cases h
      rfl
    · cases h
  | ldc_w x =>
    unfold xs_h at h
    dsimp only at h
    split at h
    · cases h; rfl
    · obtain ⟨-, h⟩ := bif_n h
      cases h
      rfl
    · cases h
  | ldc2_w x =>
    unfold xs_h at h
    dsimp only at h
    repeat' (split at h)
    all_goals first | (cases h; rfl) | cases h
  | _ => cases h
set_option maxHeartbeats 2000000 in
theorem xz2_ok (h9 : ∀ b, 999 ≤ b → G b = none) (hgs : gs_ok GF gs) (hct : ∀ mj c', c' ∈ cts mj → c'.1.1 = mj ∧ cx_ok P G GF c') (hmc : ∀ m pc mc, mac m pc = some mc → mc_ok P G GF m pc mc.1 mc.2) (hI : ∀ m pc L S e F, ih m pc L S e F = true → xw2_s P G GF c en EV C0 st Q m pc L S e F) {m pc : Nat} {L : List (Nat × XV)} {S : List XV} {e : XE} {F : List FR} (h : xz2 P G gs cts mac c en ih m pc L S e F = true) : xw2_s P G GF c en EV C0 st Q m pc L S e F := by
  unfold xz2 at h
  split at h
  · rename_i mc hmac
    intro r cl cs C cf hst hn he hl hs hh hg hf hfr
    unfold xz2_m at h
    split at h
    · rename_i en' hen
      cases hb : (rl_c G L en' e mc.1.2.1 && (xi_al2 G e && (xm_sub mc.1.1.2.2.1 c.1.2.2.1 && ha_l L e (mc_l mc.1.1.2.1)))) with
      | false => rw [hb] at h; cases h
      | true =>
        rw [hb] at h
        simp only [cond_true] at h
        rw [fEa_eq] at h
        simp only [Bool.and_eq_true] at hb
        obtain ⟨p4, i1, i2, i4⟩ := hb
        obtain ⟨EV', v1, v2⟩ := pb_x_ok he hh hg hen
        refine hmc m pc mc hmac cl cs C EV' _ (ha_l_ok he hl i4) (xI_of2 h9 he hh i1) v1 (rl_c_ok he hl v2 hh hg p4) (fun C' o1 o2 o4 => ?_)
        obtain ⟨⟨NV, hNV⟩, hrl⟩ := o4
        have he' : xe_g r (xe_fr e mc.1.1.2.2.1) := he
        obtain ⟨r2, b1, b2, b3, b4⟩ := pb_i_ok h9 he' (xI_to hh o1 o2.1) (xe_fr_gh hg o2.2) hNV
        obtain ⟨e2, c1, c2, c3⟩ := rl_i_ok (L := []) b2 (fun q hq => nomatch hq) (en_g_mono b1 v2) b3 b4 hrl
        rw [c1] at h
        dsimp only at h
        rw [fEa_eq] at h
        exact hI _ _ _ _ _ _ h r2 cl cs C' cf (st2_g_mono b1 hst) (en_g_mono b1 hn) c2 (xl_g_mono b1 hl) (xs_g_mono b1 hs) (xh_g_mono (rn_le_rf r2) c3 b3) (gh_g_mono (rn_le_rf r2) c3 b4) (fr_g_mono b1 hf) (fr_c_tr hfr i2 o2)
    · cases h
  · split at h
    · cases h
    · rename_i i len hc
      cases hlen : (Nat.beq (ea_len i) 0 || Nat.beq (ea_len i) len) with
      | false => rw [hlen] at h; cases h
      | true =>
        rw [hlen] at h
        simp only [cond_true] at h
        split at h
        · rename_i f hp
          rw [ea_fn_eq, fL_eq, fS_eq, fE_eq] at h
          intro r cl cs C cf hst hn he hl hs hh hg hf hfr
          obtain ⟨r', cl', cs', k1, k2, k3, k4, k5, k6⟩ := xs_p_ok he hl hs hp
          refine ok_p hc hlen k6 ?_
          exact hI _ _ _ _ _ _ h r' cl' cs' C cf (st2_g_mono k1 hst) (en_g_mono k1 hn) k2 k3 k4 (xh_g_mono k1 k5 hh) (gh_g_mono k1 k5 hg) (fr_g_mono k1 hf) hfr
        · split at h
          · rename_i f hp
            split at h
            · rename_i e' he'
              rw [ea_fn_eq, fS_eq, fE_eq] at h
              intro r cl cs C cf hst hn he hl hs hh hg hf hfr
              obtain ⟨⟨r', cs', C', k1, k2, k3, k4, k5, k6⟩, k7⟩ := xs_h_ok (nL := ep_nls P m) (cl := cl) (scr := ep_scr P m) he hs hh hp
              refine ok_h hc hlen k7 k6 ?_
              have hg1 : gh_g r' GF f.2.2 C := by
                intro a9 k x ha9 hx
                rw [xs_h_O h9 hp ha9] at hx
                obtain ⟨w1, w2⟩ := hg a9 k x ha9 hx
                exact ⟨Nat.lt_of_lt_of_le w1 k1.1, by rw [← w2, xi_z, xi_z, k1.2 _ w1]⟩
              have key : xe_g r' e' ∧ xh_g r' G e' (C'.getD C) ∧ gh_g r' GF e' (C'.getD C) ∧ fr_c GF c.1.2.2.1 C0 (C'.getD C) := by
                unfold xz2_s at he'
                cases hsto : xs_sto i with
                | false =>
                  rw [hsto] at he'
                  cases he'
                  obtain rfl : C' = none := xs_no hp hsto k6
                  exact ⟨k2, k4, hg1, hfr⟩
                | true =>
                  rw [hsto] at he'
                  simp only [cond_true] at he'
                  split at he'
                  · rename_i t ht
                    have hbut := xs_yes he hs k6 ht
                    have hM : ∀ b, xm c.1.2.2.1 b = false → ea_nt (C'.getD C) b = ea_nt C0 b := fun b hb => by rw [k5 b hb, hfr.1 b hb]
                    cases ha : gs_all gs c.1.2.2.1 t with
                    | false => rw [ha] at he'; cases he'
                    | true =>
                      rw [ha] at he'
                      cases he'
                      exact ⟨k2, xe_gd_h h9 k4, xe_gd_g hgs hg1 hbut, hM, fun k hk hm => by rw [gs_same hgs (gs_all_hit hm ha) hbut, hfr.2 k hk hm]⟩
                  · cases he'
              exact hI _ _ _ _ _ _ h r' cl cs' _ cf (st2_g_mono k1 hst) (en_g_mono k1 hn) key.1 (xl_g_mono k1 hl) k3 key.2.1 key.2.2.1 (fr_g_mono k1 hf) key.2.2.2
            · cases h
          · split at h
            · rename_i cd a b t S' hp
              simp only [Bool.and_eq_true] at h
              intro r cl cs C cf hst hn he hl hs hh hg hf hfr
              obtain ⟨x, y, cs', k1, k2, k3, k4⟩ := xs_br_ok (nL := ep_nls P m) (cl := cl) he hs hp
              rcases k4 with ⟨k4, k5⟩ | ⟨k4, k5⟩
              · obtain ⟨e', j1, j2, j3⟩ := xr_c_ok he k1 k2 k4
                refine ok_p hc hlen k5 ?_
                exact hI _ _ _ _ _ _ (xz_o_ok h.1 j1) r cl cs' C cf hst hn j2 hl k3 (xh_g_mono (rn_le_rf r) j3 hh) (gh_g_mono (rn_le_rf r) j3 hg) hf hfr
              · obtain ⟨e', j1, j2, j3⟩ := xr_c_ok he k1 k2 (xr_not_ok k4)
                refine ok_p hc hlen k5 ?_
                have h2 := xz_o_ok h.2 j1
                rw [ea_fn_eq] at h2
                exact hI _ _ _ _ _ _ h2 r cl cs' C cf hst hn j2 hl k3 (xh_g_mono (rn_le_rf r) j3 hh) (gh_g_mono (rn_le_rf r) j3 hg) hf hfr
            · split at h
              · rename_i v hv
                intro r cl cs C cf hst hn he hl hs hh hg hf hfr
                obtain ⟨w, k1, k2, k3, k4⟩ := xs_rt_ok he hs hv
                refine ok_r hc hlen (k3 _ _ _) (k4 _ _ _ _ _ _) k1 ?_
                unfold xz2_r at h
                split at h
                · obtain rfl := ea_rl_nil hf
                  simp only [Bool.and_eq_true] at h
                  exact ⟨w, rfl, xI_of2 h9 he hh h.2.1, hfr, xs_fit_ok he h.1 k2, xr_po_ok he hn hh hg k2 h.2.2⟩
                · rename_i f t
                  obtain ⟨g, u, rfl, ⟨g1, g2, g3, g4, g5⟩, hf2⟩ := ea_rl_cons hf
                  rw [ea_fn_eq] at h
                  show ok_ P g.1 (g.2.1 + 3) g.2.2.1 (w.toList ++ g.2.2.2.1) C _
                  rw [← g1, ← g2]
                  exact hI _ _ _ _ _ _ h r _ _ C u hst hn he g3 (xs_ov_list k2 g4) hh hg hf2 hfr
              · exact xz2_i_ok h9 hct hI hc hlen h
end XW2
end
section
/-! THE CHECKER WITH RELATIONS: a contract that it checks holds -/
def xw2_h (hd : Nat → Option HX) (c : CX) (m pc : Nat) (F : List FR) : Option HX := match F with
  | [] => bif Nat.beq m c.1.1 then hd pc else none
  | _ => none
theorem xw2_h_ok {hd : Nat → Option HX} {c : CX} {m pc : Nat} {F : List FR} {h : HX} (hx : xw2_h hd c m pc F = some h) : F = [] ∧ m = c.1.1 ∧ hd pc = some h := by
  unfold xw2_h at hx
  split at hx
  · cases hb : Nat.beq m c.1.1 with
    | false => rw [hb] at hx; cases hx
    | true => rw [hb] at hx; exact ⟨rfl, Nat.eq_of_beq_eq_true hb, hx⟩
  · cases hx
def xw2 (P : EP) (G : Nat → Option CT) (gs : GS) (cts : Nat → List CX) (mac : Nat → Nat → Option (CX × Nat)) (hd : Nat → Option HX) (c : CX) (en : List XI) (st : Option (Int × List (Int × XI))) (n : Nat) : IH := Nat.rec (fun _ _ _ _ _ _ => false) (fun _ ih m pc L S e F => match xw2_h hd c m pc F with
  | some h => hx_at G en h st L S e
  | none => xz2 P G gs cts mac c en ih m pc L S e F) n
section XC2
variable {P : EP} {G : Nat → Option CT} {GF : GH} {gs : GS} {cts : Nat → List CX} {mac : Nat → Nat → Option (CX × Nat)} {hd : Nat → Option HX} {c : CX} {en : List XI} {EV : List Int} {C0 : List AC} {st : Option (Int × List (Int × XI))} {Q : Int → Prop}
theorem xw2_ok (h9 : ∀ b, 999 ≤ b → G b = none) (hgs : gs_ok GF gs) (hct : ∀ mj c', c' ∈ cts mj → c'.1.1 = mj ∧ cx_ok P G GF c') (hmc : ∀ m pc mc, mac m pc = some mc → mc_ok P G GF m pc mc.1 mc.2)
    (hQ : ∀ pc h, hd pc = some h → ∀ cl C z, hx_g GF G h EV cl C → mt_g GF cl EV C h.2.2.2.2 z → Q (h.2.2.2.1 - z) → fr_c GF c.1.2.2.1 C0 C → ok_ P c.1.1 pc cl [] C (cx_post GF G c EV C0)) (n : Nat) : ∀ m pc L S e F, xw2 P G gs cts mac hd c en st n m pc L S e F = true → xw2_s P G GF c en EV C0 st Q m pc L S e F := by
  induction n with
  | zero => intro m pc L S e F h; cases h
  | succ n IHn =>
    intro m pc L S e F hx
    have h : (match xw2_h hd c m pc F with
      | some h => hx_at G en h st L S e
      | none => xz2 P G gs cts mac c en (xw2 P G gs cts mac hd c en st n) m pc L S e F) = true := hx
    clear hx
    split at h
    · rename_i a ha
      obtain ⟨rfl, rfl, h1⟩ := xw2_h_ok ha
      intro r cl cs C cf hst hn he hl hs hh hg hf hfr
      obtain ⟨rfl, k1, z, k2, k3⟩ := hx_at_ok h9 he hl hs hn hh hg hst h
      obtain rfl := ea_rl_nil hf
      exact hQ _ _ h1 cl C z k1 k2 k3 hfr
    · exact xz2_ok h9 hgs hct hmc IHn h
/-- the start -/
def cx_en (P : EP) (G : Nat → Option CT) (gs : GS) (cts : Nat → List CX) (mac : Nat → Nat → Option (CX × Nat)) (hd : Nat → Option HX) (c : CX) (n : Nat) : Bool :=
  match rl_i G (xa_ar 0 (xa_in c.1.2.1 (en_i c.1.2.2.2.2.2 xe_0).2).1) (en_i c.1.2.2.2.2.2 xe_0).1 (pl_i G c.1.2.2.2.2.2 (en_i c.1.2.2.2.2.2 xe_0).1 (xa_in c.1.2.1 (en_i c.1.2.2.2.2.2 xe_0).2).2) c.2.1 with
  | some e => fEa e fun e => xw2 P G gs cts mac hd c (en_i c.1.2.2.2.2.2 xe_0).1 none n c.1.1 0 (xa_ar 0 (xa_in c.1.2.1 (en_i c.1.2.2.2.2.2 xe_0).2).1) [] e []
  | none => true
/-- a head is checked -/
def hx_ck (P : EP) (G : Nat → Option CT) (gs : GS) (cts : Nat → List CX) (mac : Nat → Nat → Option (CX × Nat)) (hd : Nat → Option HX) (c : CX) (n pc : Nat) (h : HX) : Bool :=
  match rl_i G (hl_in h.1 (en_i c.1.2.2.2.2.2 xe_0).2).1 (en_i c.1.2.2.2.2.2 xe_0).1 (pb_i G h.2.1 (hl_in h.1 (en_i c.1.2.2.2.2.2 xe_0).2).2) h.2.2.1 with
  | some e => fEa e fun e => (match mt_x G (hl_in h.1 (en_i c.1.2.2.2.2.2 xe_0).2).1 (en_i c.1.2.2.2.2.2 xe_0).1 e h.2.2.2.2 with
    | some l => xz2 P G gs cts mac c (en_i c.1.2.2.2.2.2 xe_0).1 (xw2 P G gs cts mac hd c (en_i c.1.2.2.2.2.2 xe_0).1 (some (h.2.2.2.1, l)) n) c.1.1 pc (hl_in h.1 (en_i c.1.2.2.2.2.2 xe_0).2).1 [] e []
    | none => false)
  | none => true
theorem gh_0 (C : List AC) : gh_g rn_0 GF xe_0 C := fun a k x _ hx => by cases hx
theorem cx_by (h9 : ∀ b, 999 ≤ b → G b = none) (hgs : gs_ok GF gs) (hct : ∀ mj c', c' ∈ cts mj → c'.1.1 = mj ∧ cx_ok P G GF c') (hmc : ∀ m pc mc, mac m pc = some mc → mc_ok P G GF m pc mc.1 mc.2) (n : Nat) (hhd : ∀ pc h, hd pc = some h → hx_ck P G gs cts mac hd c n pc h = true) (hen : cx_en P G gs cts mac hd c n = true) : cx_ok P G GF c := by
  intro vs C0 EV hvs hI hpre hrel
  have main : ∀ (N : Nat) (pc : Nat) (h : HX), hd pc = some h → ∀ cl C z, hx_g GF G h EV cl C → mt_g GF cl EV C h.2.2.2.2 z → 0 ≤ h.2.2.2.1 - z → (h.2.2.2.1 - z).toNat = N → fr_c GF c.1.2.2.1 C0 C → ok_ P c.1.1 pc cl [] C (cx_post GF G c EV C0) := by
    intro N
    induction N using Nat.strongRecOn with
    | ind N IHN =>
      intro pc h hp cl C z hg hm hz hN hfr
      have hck := hhd pc h hp
      unfold hx_ck at hck
      obtain ⟨r0, o1, o2, o3, o4⟩ := en_i_ok xe_0_g hpre
      have hh0 : xh_g r0 G (en_i c.1.2.2.2.2.2 xe_0).2 C := xh_g_mono o1 o4 (show xh_g rn_0 G xe_0 C from hg.1)
      have hg0 : gh_g r0 GF (en_i c.1.2.2.2.2.2 xe_0).2 C := gh_g_mono o1 o4 (gh_0 C)
      obtain ⟨r1, a1, a2, a3, a4⟩ := hl_in_ok o2 hg.2.1
      obtain ⟨NV, hNV⟩ := hg.2.2.1
      obtain ⟨r2, b1, b2, b3, b4⟩ := pb_i_ok h9 a2 (xh_g_mono a1 a4 hh0) (gh_g_mono a1 a4 hg0) hNV
      have hl2 := xl_g_mono b1 a3
      have hn2 := en_g_mono (rn_le_tr a1 b1) o3
      obtain ⟨e3, d1, d2, d3⟩ := rl_i_ok b2 hl2 hn2 b3 b4 hg.2.2.2
      rw [d1] at hck
      dsimp only at hck
      rw [fEa_eq] at hck
      have hh3 := xh_g_mono (rn_le_rf r2) d3 b3
      have hg3 := gh_g_mono (rn_le_rf r2) d3 b4
      split at hck
      · rename_i l hl
        obtain ⟨k1, k2⟩ := mt_x_ok d2 hl2 hn2 hh3 hg3 hl
        have hz' : z = ln_z r2 l := (k2 z).mp hm
        have hI2 := xw2_ok (P := P) (G := G) (GF := GF) (gs := gs) (cts := cts) (mac := mac) (hd := hd) (c := c) (en := (en_i c.1.2.2.2.2.2 xe_0).1) (EV := EV) (C0 := C0) (st := some (h.2.2.2.1, l)) (Q := fun u => 0 ≤ u ∧ u < h.2.2.2.1 - z) h9 hgs hct hmc (fun pc' h' hp' cl' C' z' hg' hm' hq' hfr' => IHN ((h'.2.2.2.1 - z').toNat) (by omega) pc' h' hp' cl' C' z' hg' hm' hq'.1 rfl hfr') n
        refine xz2_ok h9 hgs hct hmc hI2 hck r2 cl [] C [] ⟨k1, fun u hu hlt => ⟨hu, ?_⟩⟩ hn2 d2 hl2 trivial hh3 hg3 trivial hfr
        rw [hz']
        exact hlt
      · cases hck
  obtain ⟨r0, o1, o2, o3, o4⟩ := en_i_ok xe_0_g hpre
  have hh0 : xh_g r0 G (en_i c.1.2.2.2.2.2 xe_0).2 C0 := xh_g_mono o1 o4 (show xh_g rn_0 G xe_0 C0 from hI)
  have hg0 : gh_g r0 GF (en_i c.1.2.2.2.2.2 xe_0).2 C0 := gh_g_mono o1 o4 (gh_0 C0)
  obtain ⟨r1, a1, a2, a3, a4⟩ := xa_in_ok o2 hvs
  have hn1 := en_g_mono a1 o3
  obtain ⟨b1, b2, b3⟩ := pl_i_ok h9 a2 (xh_g_mono a1 a4 hh0) (gh_g_mono a1 a4 hg0) hpre hn1
  have hl1 := xa_ar_ok 0 a3
  obtain ⟨e3, d1, d2, d3⟩ := rl_i_ok b1 hl1 hn1 b2 b3 hrel
  unfold cx_en at hen
  rw [d1] at hen
  dsimp only at hen
  rw [fEa_eq] at hen
  exact xw2_ok (P := P) (G := G) (GF := GF) (gs := gs) (cts := cts) (mac := mac) (hd := hd) (c := c) (en := (en_i c.1.2.2.2.2.2 xe_0).1) (EV := EV) (C0 := C0) (st := none) (Q := fun u => 0 ≤ u) h9 hgs hct hmc (fun pc' h' hp' cl' C' z' hg' hm' hq' hfr' => main _ pc' h' hp' cl' C' z' hg' hm' hq' rfl hfr') n _ _ _ _ _ _ hen r1 _ [] C0 [] (fun z hz => hz) hn1 d2 hl1 trivial (xh_g_mono (rn_le_rf r1) d3 b2) (gh_g_mono (rn_le_rf r1) d3 b3) trivial (fr_c_rf GF _ C0)
def hx_all (P : EP) (G : Nat → Option CT) (gs : GS) (cts : Nat → List CX) (mac : Nat → Nat → Option (CX × Nat)) (hd : Nat → Option HX) (c : CX) (n : Nat) (l : List (Nat × HX)) : Bool := match l with
  | [] => true
  | q :: t => hx_ck P G gs cts mac hd c n q.1 q.2 && hx_all P G gs cts mac hd c n t
theorem hx_all_ok {n : Nat} : ∀ {l : List (Nat × HX)}, hx_all P G gs cts mac hd c n l = true → ∀ q ∈ l, hx_ck P G gs cts mac hd c n q.1 q.2 = true
  | [], _, q, hq => nomatch hq
  | p :: t, h, q, hq => by
    unfold hx_all at h
    simp only [Bool.and_eq_true] at h
    rcases List.mem_cons.mp hq with rfl | hq
    · exact h.1
    · exact hx_all_ok h.2 q hq
def hx_k (l : List (Nat × HX)) (k : Nat) : Option HX := match l with
  | [] => none
  | q :: t => bif Nat.beq q.1 k then some q.2 else hx_k t k
theorem hx_k_mem : ∀ {l : List (Nat × HX)} {k : Nat} {a : HX}, hx_k l k = some a → (k, a) ∈ l
  | [], k, a, h => by cases h
  | q :: t, k, a, h => by
    unfold hx_k at h
    cases hb : Nat.beq q.1 k with
    | true =>
      rw [hb] at h
      cases h
      have e : q.1 = k := Nat.eq_of_beq_eq_true hb
      subst e
      exact List.mem_cons_self
    | false => rw [hb] at h; exact List.mem_cons_of_mem _ (hx_k_mem h)
def cx_ck (P : EP) (G : Nat → Option CT) (gs : GS) (cts : Nat → List CX) (mac : Nat → Nat → Option (CX × Nat)) (hds : List (Nat × HX)) (c : CX) (n : Nat) : Bool := cx_en P G gs cts mac (hx_k hds) c n && hx_all P G gs cts mac (hx_k hds) c n hds
theorem cx_ck_ok (h9 : ∀ b, 999 ≤ b → G b = none) (hgs : gs_ok GF gs) (hct : ∀ mj c', c' ∈ cts mj → c'.1.1 = mj ∧ cx_ok P G GF c') (hmc : ∀ m pc mc, mac m pc = some mc → mc_ok P G GF m pc mc.1 mc.2) {hds : List (Nat × HX)} {n : Nat} (h : cx_ck P G gs cts mac hds c n = true) : cx_ok P G GF c := by
  unfold cx_ck at h
  simp only [Bool.and_eq_true] at h
  exact cx_by h9 hgs hct hmc n (fun pc a ha => hx_all_ok h.2 _ (hx_k_mem ha)) h.1
end XC2
end
