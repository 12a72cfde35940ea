/-! THE CHECKER WITH RELATIONS: places of cells, and ghosts (numbers that the cells give: the cells from 999 on) -/
/-- what stands at a place of a cell -/
def cv (C : List AC) (a k : Nat) : Option AV := match ea_nt C a with
  | some (.inr o) => ea_nt o.2 k
  | some (.inl q) => bif Nat.blt k q.2.1 then some (ea_al q.2.2.1 q.2.2.2 k) else none
  | none => none
abbrev GH : Type := Nat → List AC → Int
def pv (GF : GH) (C : List AC) (a k : Nat) (z : Int) : Prop := if 999 ≤ a then GF a C = z else ∃ x : Int32, cv C a k = some (.inl (.inl x)) ∧ x.toInt = z
theorem pv_one {GF : GH} {C : List AC} {a k : Nat} {z z' : Int} (h : pv GF C a k z) (h' : pv GF C a k z') : z = z' := by
  unfold pv at h h'
  split at h
  · rw [if_pos (by assumption)] at h'
    rw [← h, ← h']
  · rw [if_neg (by assumption)] at h'
    obtain ⟨x, h1, h2⟩ := h
    obtain ⟨y, h3, h4⟩ := h'
    rw [h1] at h3
    cases h3
    rw [← h2, ← h4]
theorem cv_eq {C C' : List AC} {a : Nat} (h : ea_nt C' a = ea_nt C a) (k : Nat) : cv C' a k = cv C a k := by
  unfold cv
  rw [h]
/-- bounds without an int32 -/
def xi_w (E : List (Nat × Int × Int)) (x : XI) (lo hi : Int) : Bool := match xi_bo E x with
  | some q => decide (lo ≤ q.1) && decide (q.2 ≤ hi)
  | none => false
theorem xi_w_ok {r : RN} {e : XE} (he : xe_g r e) {x : XI} {lo hi : Int} (h : xi_w e.2.1 x lo hi = true) : lo ≤ xi_z r x ∧ xi_z r x ≤ hi := by
  unfold xi_w at h
  split at h
  · rename_i q hq
    have b := xi_bo_ok he hq
    simp only [Bool.and_eq_true, decide_eq_true_eq] at h
    omega
  · cases h
def om (a b : Option Int) : Option Int := match a with
  | some x => match b with
    | some y => some (if x ≤ y then x else y)
    | none => some x
  | none => b
theorem om_ok {a b : Option Int} {z d : Int} (ha : ∀ d, a = some d → z ≤ d) (hb : ∀ d, b = some d → z ≤ d) (h : om a b = some d) : z ≤ d := by
  unfold om at h
  split at h
  · rename_i x
    split at h
    · rename_i y
      have h1 := ha x rfl
      have h2 := hb y rfl
      cases h
      split <;> omega
    · cases h
      exact ha _ rfl
  · exact hb _ h
/-- the least of the differences that are known -/
def xe_m (D : List (Nat × Nat × Int)) (a b : Nat) : Option Int := match D with
  | [] => none
  | q :: t => bif Nat.beq q.1 a && Nat.beq q.2.1 b then om (some q.2.2) (xe_m t a b) else xe_m t a b
theorem xe_m_ok {r : RN} {e : XE} (he : xe_g r e) {a b : Nat} : ∀ {D : List (Nat × Nat × Int)} {d : Int}, (∀ q ∈ D, q ∈ e.2.2.1) → xe_m D a b = some d → r.1 a - r.1 b ≤ d
  | [], d, _, h => by cases h
  | q :: t, d, hs, h => by
    unfold xe_m at h
    cases hb : (Nat.beq q.1 a && Nat.beq q.2.1 b) with
    | false =>
      rw [hb] at h
      exact xe_m_ok he (fun p hp => hs p (List.mem_cons_of_mem _ hp)) h
    | true =>
      rw [hb] at h
      simp only [Bool.and_eq_true] at hb
      have e1 := Nat.eq_of_beq_eq_true hb.1
      have e2 := Nat.eq_of_beq_eq_true hb.2
      refine om_ok (a := some q.2.2) (b := xe_m t a b) (fun d' hd' => ?_) (fun d' hd' => xe_m_ok he (fun p hp => hs p (List.mem_cons_of_mem _ hp)) hd') h
      cases hd'
      have h3 := (he.2.2.2 q (hs q List.mem_cons_self)).2.2
      rw [← e1, ← e2]
      exact h3
def xd_b (E : List (Nat × Int × Int)) (i j : XI) : Option Int := match xi_bo E i, xi_bo E j with
  | some a, some b => some (a.2 - b.1)
  | _, _ => none
/-- at most so much is i above j -/
def xd_u (e : XE) (i j : XI) : Option Int :=
  if i.2.1 = j.2.1 then om (xd_b e.2.1 i j) (match xi_bo e.2.1 (i.1 - j.1, i.2.1, i.2.2 - j.2.2) with
    | some b => some b.2
    | none => none)
  else if i.1 = 1 ∧ j.1 = 1 then om (xd_b e.2.1 i j) (match xe_m e.2.2.1 i.2.1 j.2.1 with
    | some k => some (k + i.2.2 - j.2.2)
    | none => none) else xd_b e.2.1 i j
theorem xd_b_ok {r : RN} {e : XE} (he : xe_g r e) {i j : XI} {d : Int} (h : xd_b e.2.1 i j = some d) : xi_z r i - xi_z r j ≤ d := by
  unfold xd_b at h
  split at h
  · rename_i a b ha hb
    cases h
    have h1 := xi_bo_ok he ha
    have h2 := xi_bo_ok he hb
    omega
  · cases h
theorem xd_u_ok {r : RN} {e : XE} (he : xe_g r e) {i j : XI} {d : Int} (h : xd_u e i j = some d) : xi_z r i - xi_z r j ≤ d := by
  unfold xd_u at h
  split at h
  · rename_i hs
    refine om_ok (fun d' hd' => xd_b_ok he hd') (fun d' hd' => ?_) h
    split at hd'
    · rename_i b hb
      cases hd'
      have h1 := (xi_bo_ok he hb).2
      unfold xi_z at h1 ⊢
      dsimp only at h1
      rw [Int.sub_mul] at h1
      rw [← hs]
      omega
    · cases hd'
  · split at h
    · rename_i hc
      refine om_ok (fun d' hd' => xd_b_ok he hd') (fun d' hd' => ?_) h
      split at hd'
      · rename_i k hk
        cases hd'
        have h1 := xe_m_ok he (fun _ hq => hq) hk
        unfold xi_z
        rw [hc.1, hc.2]
        omega
      · cases hd'
    · exact xd_b_ok he h
/-- what a relation tells -/
def xq_hi (e : XE) (i : XI) (h : Option (Int × Int)) (k : Int) : XE := if i.1 = 1 then match xe_k e.2.1 i.2.1, h with
  | some q, some p => if p.2 + k - i.2.2 < q.2 then (e.1, (i.2.1, q.1, p.2 + k - i.2.2) :: e.2.1, e.2.2) else e
  | _, _ => e
  else e
def xq_lo (e : XE) (i : XI) (h : Option (Int × Int)) (k : Int) : XE := if i.1 = 1 then match xe_k e.2.1 i.2.1, h with
  | some q, some p => if q.1 < p.1 - k - i.2.2 then (e.1, (i.2.1, p.1 - k - i.2.2, q.2) :: e.2.1, e.2.2) else e
  | _, _ => e
  else e
theorem xq_hi_ok {r : RN} {e : XE} (he : xe_g r e) {i : XI} {h : Option (Int × Int)} {k : Int} (hh : ∀ p, h = some p → xi_z r i ≤ p.2 + k) : xe_g r (xq_hi e i h k) ∧ (xq_hi e i h k).2.2 = e.2.2 := by
  unfold xq_hi
  split
  · rename_i h1
    split
    · rename_i q p hq
      split
      · refine ⟨⟨he.1, he.2.1, fun z hz => ?_, he.2.2.2⟩, rfl⟩
        rcases List.mem_cons.mp hz with rfl | hz
        · obtain ⟨a1, a2, a3⟩ := he.2.2.1 _ (xe_k_mem hq)
          have h2 := hh p rfl
          unfold xi_z at h2
          rw [h1] at h2
          dsimp only at a1 a2 a3 ⊢
          exact ⟨a1, a2, by omega⟩
        · exact he.2.2.1 z hz
      · exact ⟨he, rfl⟩
    · exact ⟨he, rfl⟩
  · exact ⟨he, rfl⟩
theorem xq_lo_ok {r : RN} {e : XE} (he : xe_g r e) {i : XI} {h : Option (Int × Int)} {k : Int} (hh : ∀ p, h = some p → p.1 - k ≤ xi_z r i) : xe_g r (xq_lo e i h k) ∧ (xq_lo e i h k).2.2 = e.2.2 := by
  unfold xq_lo
  split
  · rename_i h1
    split
    · rename_i q p hq
      split
      · refine ⟨⟨he.1, he.2.1, fun z hz => ?_, he.2.2.2⟩, rfl⟩
        rcases List.mem_cons.mp hz with rfl | hz
        · obtain ⟨a1, a2, a3⟩ := he.2.2.1 _ (xe_k_mem hq)
          have h2 := hh p rfl
          unfold xi_z at h2
          rw [h1] at h2
          dsimp only at a1 a2 a3 ⊢
          exact ⟨a1, by omega, a3⟩
        · exact he.2.2.1 z hz
      · exact ⟨he, rfl⟩
    · exact ⟨he, rfl⟩
  · exact ⟨he, rfl⟩
/-- a difference, and what follows with those that are known -/
def xq_l (D : List (Nat × Nat × Int)) (a b : Nat) (k : Int) : List (Nat × Nat × Int) := match D with
  | [] => []
  | q :: t => bif Nat.beq q.2.1 a then (q.1, b, q.2.2 + k) :: xq_l t a b k else bif Nat.beq q.1 b then (a, q.2.1, k + q.2.2) :: xq_l t a b k else xq_l t a b k
theorem xq_l_ok {r : RN} {a b : Nat} {k : Int} (ha : a < r.2) (hb : b < r.2) (hk : r.1 a - r.1 b ≤ k) : ∀ {D : List (Nat × Nat × Int)}, (∀ q ∈ D, q.1 < r.2 ∧ q.2.1 < r.2 ∧ r.1 q.1 - r.1 q.2.1 ≤ q.2.2) → ∀ q ∈ xq_l D a b k, q.1 < r.2 ∧ q.2.1 < r.2 ∧ r.1 q.1 - r.1 q.2.1 ≤ q.2.2
  | [], _, q, hq => nomatch hq
  | p :: t, hD, q, hq => by
    have ih := xq_l_ok ha hb hk (D := t) (fun z hz => hD z (List.mem_cons_of_mem _ hz))
    obtain ⟨p1, p2, p3⟩ := hD p List.mem_cons_self
    unfold xq_l at hq
    cases h1 : Nat.beq p.2.1 a with
    | true =>
      rw [h1] at hq
      simp only [cond_true] at hq
      have e1 := Nat.eq_of_beq_eq_true h1
      rcases List.mem_cons.mp hq with rfl | hq
      · dsimp only
        rw [e1] at p3
        exact ⟨p1, hb, by omega⟩
      · exact ih q hq
    | false =>
      rw [h1] at hq
      simp only [cond_false] at hq
      cases h2 : Nat.beq p.1 b with
      | true =>
        rw [h2] at hq
        simp only [cond_true] at hq
        have e1 := Nat.eq_of_beq_eq_true h2
        rcases List.mem_cons.mp hq with rfl | hq
        · dsimp only
          rw [e1] at p3
          exact ⟨ha, p2, by omega⟩
        · exact ih q hq
      | false =>
        rw [h2] at hq
        exact ih q hq
def xq_d (e : XE) (i j : XI) (k : Int) : XE := if i.1 = 1 ∧ j.1 = 1 ∧ i.2.1 ≠ j.2.1 then (e.1, e.2.1, (i.2.1, j.2.1, k + j.2.2 - i.2.2) :: (xq_l e.2.2.1 i.2.1 j.2.1 (k + j.2.2 - i.2.2) ++ e.2.2.1), e.2.2.2) else e
theorem xq_d_ok {r : RN} {e : XE} (he : xe_g r e) {i j : XI} (hi : i.2.1 < r.2) (hj : j.2.1 < r.2) {k : Int} (hh : xi_z r i - xi_z r j ≤ k) : xe_g r (xq_d e i j k) ∧ (xq_d e i j k).2.2.2 = e.2.2.2 := by
  unfold xq_d
  split
  · rename_i hc
    have hk : r.1 i.2.1 - r.1 j.2.1 ≤ k + j.2.2 - i.2.2 := by
      unfold xi_z at hh
      rw [hc.1, hc.2.1] at hh
      omega
    refine ⟨⟨he.1, he.2.1, he.2.2.1, fun q hq => ?_⟩, rfl⟩
    rcases List.mem_cons.mp hq with rfl | hq
    · exact ⟨hi, hj, hk⟩
    · rcases List.mem_append.mp hq with hq | hq
      · exact xq_l_ok hi hj hk he.2.2.2 q hq
      · exact he.2.2.2 q hq
  · exact ⟨he, rfl⟩
def xq_no (d : Option Int) (k : Int) : Bool := match d with
  | some d => decide (k < -d)
  | none => false
/-- i is above j by k at most; none: it cannot be -/
def xq_le (e : XE) (i j : XI) (k : Int) : Option XE := bif xq_no (xd_u e j i) k then none else some (xq_d (xq_lo (xq_hi e i (xi_bo e.2.1 j) k) j (xi_bo e.2.1 i) k) i j k)
theorem xq_le_ok {r : RN} {e : XE} (he : xe_g r e) {i j : XI} (hi : i.2.1 < r.2) (hj : j.2.1 < r.2) {k : Int} (hh : xi_z r i - xi_z r j ≤ k) : ∃ e', xq_le e i j k = some e' ∧ xe_g r e' ∧ e'.2.2.2 = e.2.2.2 := by
  unfold xq_le
  cases hn : xq_no (xd_u e j i) k with
  | true =>
    exfalso
    unfold xq_no at hn
    split at hn
    · rename_i d hd
      have h1 := xd_u_ok he hd
      simp only [decide_eq_true_eq] at hn
      omega
    · cases hn
  | false =>
    obtain ⟨a1, a2⟩ := xq_hi_ok (h := xi_bo e.2.1 j) (k := k) he (i := i) (fun p hp => by have := xi_bo_ok he hp; omega)
    obtain ⟨b1, b2⟩ := xq_lo_ok (h := xi_bo e.2.1 i) (k := k) a1 (i := j) (fun p hp => by have := xi_bo_ok he hp; omega)
    obtain ⟨c1, c2⟩ := xq_d_ok b1 hi hj hh
    exact ⟨_, rfl, c1, by rw [c2, b2, a2]⟩
/-- the ghosts that are known -/
def gh_g (r : RN) (GF : GH) (e : XE) (C : List AC) : Prop := ∀ a k x, 999 ≤ a → xo_k e.2.2.2.2 a k = some x → x.2.1 < r.2 ∧ xi_z r x = GF a C
theorem gh_g_mono {r r' : RN} (h : rn_le r r') {GF : GH} {e e' : XE} (he : e'.2.2.2 = e.2.2.2) {C : List AC} (hg : gh_g r GF e C) : gh_g r' GF e' C := by
  intro a k x ha hx
  rw [he] at hx
  obtain ⟨h1, h2⟩ := hg a k x ha hx
  refine ⟨Nat.lt_of_lt_of_le h1 h.1, ?_⟩
  rw [← h2, xi_z, xi_z, h.2 _ h1]
/-- a place that is known -/
def xp_k (G : Nat → Option CT) (e : XE) (a k : Nat) : Option XI := bif Nat.ble 999 a then xo_k e.2.2.2.2 a k else match G a with
  | some (.inl (_, fs)) => bif Nat.blt k fs.length then xo_k e.2.2.2.2 a k else none
  | some (.inr (_, n, _, _)) => bif Nat.blt k n then xR_k e.2.2.2.1 a (0, 0, (k : Int)) else none
  | none => none
theorem xp_k_ok {r : RN} {GF : GH} {G : Nat → Option CT} {e : XE} {C : List AC} (hh : xh_g r G e C) (hg : gh_g r GF e C) {a k : Nat} {x : XI} (h : xp_k G e a k = some x) : x.2.1 < r.2 ∧ pv GF C a k (xi_z r x) := by
  unfold xp_k at h
  cases h9 : Nat.ble 999 a with
  | true =>
    rw [h9] at h
    obtain ⟨h1, h2⟩ := hg a k x (Nat.le_of_ble_eq_true h9) h
    refine ⟨h1, ?_⟩
    unfold pv
    rw [if_pos (Nat.le_of_ble_eq_true h9), h2]
  | false =>
    rw [h9] at h
    simp only [cond_false] at h
    have hne : ¬ 999 ≤ a := fun hc => by
      rw [Nat.ble_eq_true_of_le hc] at h9
      cases h9
    unfold pv
    rw [if_neg hne]
    split at h
    · rename_i ci fs hG
      cases hb : Nat.blt k fs.length with
      | false => rw [hb] at h; cases h
      | true =>
        rw [hb] at h
        simp only [cond_true] at h
        obtain ⟨vs, g1, g2, g3⟩ := hh.1 a ci fs hG
        obtain ⟨f0, hf0⟩ := nt_some (blt_lt hb)
        obtain ⟨v, j1, j2⟩ := g3 k f0 hf0
        rw [h] at j2
        obtain ⟨y, rfl, hy⟩ : ∃ y : Int32, v = .inl (.inl y) ∧ xi_g r x y := j2
        refine ⟨hy.1, y, ?_, hy.2⟩
        unfold cv
        rw [g1]
        exact j1
    · rename_i kd n p fs hG
      cases hb : Nat.blt k n with
      | false => rw [hb] at h; cases h
      | true =>
        rw [hb] at h
        simp only [cond_true] at h
        obtain ⟨d, us, g1, -⟩ := hh.2.1 a kd n p fs hG
        obtain ⟨kd2, n2, d2, us2, j, y, j1, j2, j3, j4, j5⟩ := hh.2.2 _ (xR_k_mem h)
        dsimp only at j1 j2 j3 j4 j5
        rw [g1] at j1
        cases j1
        have hj : j = k := by
          unfold xi_z at j3
          dsimp only at j3
          omega
        subst hj
        refine ⟨j5.1, y, ?_, j5.2⟩
        unfold cv
        rw [g1]
        dsimp only
        rw [hb, j4]
        rfl
    · cases h
/-- a place becomes known -/
def xp_i (G : Nat → Option CT) (e : XE) (a k : Nat) (x : XI) : XE := bif Nat.ble 999 a then xe_o e a k x else match G a with
  | some (.inl _) => xe_o e a k x
  | some (.inr _) => xe_r e a (0, 0, (k : Int)) x
  | none => e
theorem xp_i_ok {r : RN} {GF : GH} {G : Nat → Option CT} (h9 : ∀ b, 999 ≤ b → G b = none) {e : XE} {C : List AC} (he : xe_g r e) (hh : xh_g r G e C) (hg : gh_g r GF e C) {a k : Nat} {x : XI} (hx : x.2.1 < r.2) (hp : pv GF C a k (xi_z r x)) : xe_g r (xp_i G e a k x) ∧ xh_g r G (xp_i G e a k x) C ∧ gh_g r GF (xp_i G e a k x) C := by
  unfold xp_i
  unfold pv at hp
  cases hb : Nat.ble 999 a with
  | true =>
    have hge := Nat.le_of_ble_eq_true hb
    simp only [cond_true]
    rw [if_pos hge] at hp
    refine ⟨he, ⟨fun b cj fs' hG' => ?_, hh.2.1, hh.2.2⟩, fun a' k' x' ha' hx' => ?_⟩
    · obtain ⟨vs', n1, n2, n3⟩ := hh.1 b cj fs' hG'
      refine ⟨vs', n1, n2, fun k' f' hf' => ?_⟩
      obtain ⟨v', o1, o2⟩ := n3 k' f' hf'
      refine ⟨v', o1, ?_⟩
      show xh_f r (xo_k ((a, k, x) :: e.2.2.2.2) b k') f' v'
      rw [xo_k_cons, if_neg]
      · exact o2
      · rintro ⟨rfl, -⟩
        rw [h9 _ hge] at hG'
        cases hG'
    · have hx2 : xo_k ((a, k, x) :: e.2.2.2.2) a' k' = some x' := hx'
      rw [xo_k_cons] at hx2
      split at hx2
      · rename_i hc
        cases hx2
        rw [← hc.1]
        exact ⟨hx, hp.symm⟩
      · exact hg a' k' x' ha' hx2
  | false =>
    simp only [cond_false]
    have hne : ¬ 999 ≤ a := fun hc => by
      rw [Nat.ble_eq_true_of_le hc] at hb
      cases hb
    rw [if_neg hne] at hp
    obtain ⟨y, hy1, hy2⟩ := hp
    split
    · rename_i q hG
      obtain ⟨ci, fs⟩ := q
      obtain ⟨vs, g1, g2, g3⟩ := hh.1 a ci fs hG
      have hfd : fd_g C a k y := by
        unfold cv at hy1
        rw [g1] at hy1
        exact ⟨ci, vs, g1, hy1⟩
      refine ⟨he, xe_o_h hh hfd ⟨hx, hy2⟩, fun a' k' x' ha' hx' => ?_⟩
      have hx2 : xo_k ((a, k, x) :: e.2.2.2.2) a' k' = some x' := hx'
      rw [xo_k_cons, if_neg (fun hc => hne (by rw [hc.1]; exact ha'))] at hx2
      exact hg a' k' x' ha' hx2
    · rename_i q hG
      obtain ⟨kd, n, p, fs⟩ := q
      obtain ⟨d, us, g1, g2⟩ := hh.2.1 a kd n p fs hG
      unfold cv at hy1
      rw [g1] at hy1
      dsimp only at hy1
      cases hbl : Nat.blt k n with
      | false => rw [hbl] at hy1; cases hy1
      | true =>
        rw [hbl] at hy1
        simp only [cond_true, Option.some.injEq] at hy1
        refine ⟨he, ⟨hh.1, fun b kd2 n2 p2 fs2 hG2 => ?_, fun z hz => ?_⟩, hg⟩
        · obtain ⟨d2, us2, w1, w2⟩ := hh.2.1 b kd2 n2 p2 fs2 hG2
          refine ⟨d2, us2, w1, fun j hj => ?_⟩
          rcases w2 j hj with w | ⟨q', q1, q2⟩
          · exact Or.inl w
          · exact Or.inr ⟨q', List.mem_cons_of_mem _ q1, q2⟩
        · rcases List.mem_cons.mp hz with rfl | hz
          · refine ⟨kd, n, d, us, k, y, g1, he.1, ?_, hy1, hx, hy2⟩
            unfold xi_z
            dsimp only
            omega
          · exact hh.2.2 z hz
    · exact ⟨he, hh, hg⟩
