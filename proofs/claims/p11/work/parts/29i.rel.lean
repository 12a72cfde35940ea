/-! THE CHECKER WITH RELATIONS: sources (a local, the n-th place at the entry, a place now), relations between them -/
abbrev SP : Type := Nat ⊕ (Nat ⊕ (Nat × Nat))
abbrev RL : Type := SP × SP × Int
abbrev PB : Type := Nat × Nat × Int × Int
def sp_g (GF : GH) (cl : List (Nat × AV)) (EV : List Int) (C : List AC) (s : SP) (z : Int) : Prop := match s with
  | .inl k => ∃ x : Int32, ea_lk cl k = some (.inl (.inl x)) ∧ x.toInt = z
  | .inr (.inl j) => ea_nt EV j = some z
  | .inr (.inr q) => pv GF C q.1 q.2 z
theorem sp_one {GF : GH} {cl : List (Nat × AV)} {EV : List Int} {C : List AC} {s : SP} {z z' : Int} (h : sp_g GF cl EV C s z) (h' : sp_g GF cl EV C s z') : z = z' := by
  match s, h, h' with
  | .inl k, ⟨x, h1, h2⟩, ⟨y, h3, h4⟩ =>
    rw [h1] at h3
    cases h3
    rw [← h2, ← h4]
  | .inr (.inl j), h, h' =>
    have h1 : ea_nt EV j = some z := h
    have h2 : ea_nt EV j = some z' := h'
    rw [h1] at h2
    cases h2
    rfl
  | .inr (.inr q), h, h' => exact pv_one (show pv GF C q.1 q.2 z from h) h'
/-- the places at the entry: what stands for them -/
def en_g (r : RN) (en : List XI) (EV : List Int) : Prop := ea_rl (fun (x : XI) (z : Int) => x.2.1 < r.2 ∧ xi_z r x = z) en EV
theorem en_g_mono {r r' : RN} (h : rn_le r r') {en : List XI} {EV : List Int} (he : en_g r en EV) : en_g r' en EV := ea_rl_mono (fun x z hq => ⟨Nat.lt_of_lt_of_le hq.1 h.1, by rw [← hq.2, xi_z, xi_z, h.2 _ hq.1]⟩) he
def sp_x (G : Nat → Option CT) (L : List (Nat × XV)) (en : List XI) (e : XE) (s : SP) : Option XI := match s with
  | .inl k => match xl_k L k with
    | some (.inl x) => some x
    | _ => none
  | .inr (.inl j) => ea_nt en j
  | .inr (.inr q) => xp_k G e q.1 q.2
theorem sp_x_ok {r : RN} {GF : GH} {G : Nat → Option CT} {L : List (Nat × XV)} {cl : List (Nat × AV)} {en : List XI} {EV : List Int} {e : XE} {C : List AC} (hl : xl_g r L cl) (hn : en_g r en EV) (hh : xh_g r G e C) (hg : gh_g r GF e C) {s : SP} {x : XI} (h : sp_x G L en e s = some x) : x.2.1 < r.2 ∧ sp_g GF cl EV C s (xi_z r x) := by
  match s, h with
  | .inl k, h =>
    unfold sp_x at h
    dsimp only at h
    split at h
    · rename_i a ha
      cases h
      obtain ⟨v, h1, y, rfl, hy⟩ := xl_k_ok hl ha
      exact ⟨hy.1, y, h1, hy.2⟩
    · cases h
  | .inr (.inl j), h =>
    have h' : ea_nt en j = some x := h
    rw [ea_nt_eq] at h'
    obtain ⟨z, h1, h2, h3⟩ := ea_rl_get hn h'
    refine ⟨h2, ?_⟩
    show ea_nt EV j = some _
    rw [ea_nt_eq, h1, h3]
  | .inr (.inr q), h => exact xp_k_ok hh hg (show xp_k G e q.1 q.2 = some x from h)
def rl_g (GF : GH) (cl : List (Nat × AV)) (EV : List Int) (C : List AC) (l : List RL) : Prop := ∀ q ∈ l, ∃ z1 z2, sp_g GF cl EV C q.1 z1 ∧ sp_g GF cl EV C q.2.1 z2 ∧ z1 - z2 ≤ q.2.2
/-- a difference by two that are known -/
def xd_t (D : List (Nat × Nat × Int)) (a b : Nat) (k : Int) (l : List (Nat × Nat × Int)) : Bool := match l with
  | [] => false
  | q :: t => (Nat.beq q.1 a && (match xe_m D q.2.1 b with
    | some d => decide (q.2.2 + d ≤ k)
    | none => false)) || xd_t D a b k t
theorem xd_t_ok {r : RN} {e : XE} (he : xe_g r e) {a b : Nat} {k : Int} : ∀ {l : List (Nat × Nat × Int)}, (∀ q ∈ l, q ∈ e.2.2.1) → xd_t e.2.2.1 a b k l = true → r.1 a - r.1 b ≤ k
  | [], _, h => by cases h
  | q :: t, hs, h => by
    unfold xd_t at h
    simp only [Bool.or_eq_true, Bool.and_eq_true] at h
    rcases h with ⟨h1, h2⟩ | h
    · split at h2
      · rename_i d hd
        simp only [decide_eq_true_eq] at h2
        have e1 := Nat.eq_of_beq_eq_true h1
        have g1 := (he.2.2.2 q (hs q List.mem_cons_self)).2.2
        have g2 := xe_m_ok he (fun _ hq => hq) hd
        rw [e1] at g1
        omega
      · cases h2
    · exact xd_t_ok he (fun p hp => hs p (List.mem_cons_of_mem _ hp)) h
def rl_c1 (G : Nat → Option CT) (L : List (Nat × XV)) (en : List XI) (e : XE) (q : RL) : Bool := match sp_x G L en e q.1, sp_x G L en e q.2.1 with
  | some x, some y => (match xd_u e x y with
    | some d => decide (d ≤ q.2.2)
    | none => false) || (decide (x.1 = 1) && (decide (y.1 = 1) && xd_t e.2.2.1 x.2.1 y.2.1 (q.2.2 + y.2.2 - x.2.2) e.2.2.1))
  | _, _ => false
/-- relations are checked -/
def rl_c (G : Nat → Option CT) (L : List (Nat × XV)) (en : List XI) (e : XE) (l : List RL) : Bool := match l with
  | [] => true
  | q :: t => rl_c1 G L en e q && rl_c G L en e t
section RL
variable {r : RN} {GF : GH} {G : Nat → Option CT} {L : List (Nat × XV)} {cl : List (Nat × AV)} {en : List XI} {EV : List Int} {e : XE} {C : List AC}
theorem rl_c_ok (he : xe_g r e) (hl : xl_g r L cl) (hn : en_g r en EV) (hh : xh_g r G e C) (hg : gh_g r GF e C) : ∀ {l : List RL}, rl_c G L en e l = true → rl_g GF cl EV C l
  | [], _ => fun q hq => nomatch hq
  | p :: t, h => by
    unfold rl_c at h
    simp only [Bool.and_eq_true] at h
    intro q hq
    rcases List.mem_cons.mp hq with rfl | hq
    · have h1 := h.1
      unfold rl_c1 at h1
      split at h1
      · rename_i x y hx hy
        obtain ⟨a1, a2⟩ := sp_x_ok hl hn hh hg hx
        obtain ⟨b1, b2⟩ := sp_x_ok hl hn hh hg hy
        simp only [Bool.or_eq_true, Bool.and_eq_true, decide_eq_true_eq] at h1
        rcases h1 with h1 | ⟨u1, u2, u3⟩
        · split at h1
          · rename_i d hd
            simp only [decide_eq_true_eq] at h1
            have := xd_u_ok he hd
            exact ⟨_, _, a2, b2, by omega⟩
          · cases h1
        · have w := xd_t_ok he (fun _ hq => hq) u3
          refine ⟨_, _, a2, b2, ?_⟩
          unfold xi_z
          rw [u1, u2]
          omega
      · cases h1
    · exact rl_c_ok he hl hn hh hg h.2 q hq
/-- relations that hold are used; none: they cannot hold -/
def rl_i (G : Nat → Option CT) (L : List (Nat × XV)) (en : List XI) (e : XE) (l : List RL) : Option XE := match l with
  | [] => some e
  | q :: t => match sp_x G L en e q.1, sp_x G L en e q.2.1 with
    | some x, some y => match xq_le e x y q.2.2 with
      | some e' => fE e' fun e' => rl_i G L en e' t
      | none => none
    | _, _ => rl_i G L en e t
theorem rl_i_ok : ∀ {l : List RL} {e : XE}, xe_g r e → xl_g r L cl → en_g r en EV → xh_g r G e C → gh_g r GF e C → rl_g GF cl EV C l → ∃ e', rl_i G L en e l = some e' ∧ xe_g r e' ∧ e'.2.2.2 = e.2.2.2
  | [], e, he, _, _, _, _, _ => ⟨e, rfl, he, rfl⟩
  | q :: t, e, he, hl, hn, hh, hg, hr => by
    have hrt : rl_g GF cl EV C t := fun p hp => hr p (List.mem_cons_of_mem _ hp)
    unfold rl_i
    split
    · rename_i x y hx hy
      obtain ⟨z1, z2, s1, s2, hz⟩ := hr q List.mem_cons_self
      obtain ⟨a1, a2⟩ := sp_x_ok hl hn hh hg hx
      obtain ⟨b1, b2⟩ := sp_x_ok hl hn hh hg hy
      rw [sp_one s1 a2, sp_one s2 b2] at hz
      obtain ⟨e', k1, k2, k3⟩ := xq_le_ok he a1 b1 hz
      rw [k1]
      dsimp only
      rw [fE_eq]
      obtain ⟨e2, j1, j2, j3⟩ := rl_i_ok (l := t) k2 hl hn (xh_g_mono (rn_le_rf r) k3 hh) (gh_g_mono (rn_le_rf r) k3 hg) hrt
      exact ⟨e2, j1, j2, j3.trans k3⟩
    · exact rl_i_ok he hl hn hh hg hrt
/-- places between bounds -/
def pb_g (GF : GH) (C : List AC) (l : List PB) (EV : List Int) : Prop := ea_rl (fun (q : PB) (z : Int) => pv GF C q.1 q.2.1 z ∧ q.2.2.1 ≤ z ∧ z ≤ q.2.2.2) l EV
def pb_x (G : Nat → Option CT) (e : XE) (l : List PB) : Option (List XI) := match l with
  | [] => some []
  | q :: t => match xp_k G e q.1 q.2.1, pb_x G e t with
    | some x, some u => bif xi_w e.2.1 x q.2.2.1 q.2.2.2 then some (x :: u) else none
    | _, _ => none
theorem pb_x_ok (he : xe_g r e) (hh : xh_g r G e C) (hg : gh_g r GF e C) : ∀ {l : List PB} {u : List XI}, pb_x G e l = some u → ∃ EV, pb_g GF C l EV ∧ en_g r u EV
  | [], u, h => by cases h; exact ⟨[], trivial, trivial⟩
  | q :: t, u, h => by
    unfold pb_x at h
    split at h
    · rename_i x v hx hv
      cases hb : xi_w e.2.1 x q.2.2.1 q.2.2.2 with
      | false => rw [hb] at h; cases h
      | true =>
        rw [hb] at h
        cases h
        obtain ⟨EV, h1, h2⟩ := pb_x_ok he hh hg hv
        obtain ⟨a1, a2⟩ := xp_k_ok hh hg hx
        exact ⟨xi_z r x :: EV, ⟨⟨a2, xi_w_ok he hb⟩, h1⟩, ⟨⟨a1, rfl⟩, h2⟩⟩
    · cases h
/-- symbols for the places at the entry -/
def en_i (l : List PB) (e : XE) : List XI × XE := match l with
  | [] => ([], e)
  | q :: t => ((xo_new e q.2.2.1 q.2.2.2).1 :: (en_i t (xo_new e q.2.2.1 q.2.2.2).2).1, (en_i t (xo_new e q.2.2.1 q.2.2.2).2).2)
/-- a number gets a symbol -/
theorem xo_newz {r : RN} {e : XE} (he : xe_g r e) {lo hi z : Int} (h1 : lo ≤ z) (h2 : z ≤ hi) : ∃ r', rn_le r r' ∧ xe_g r' (xo_new e lo hi).2 ∧ (xo_new e lo hi).1.2.1 < r'.2 ∧ xi_z r' (xo_new e lo hi).1 = z ∧ (xo_new e lo hi).2.2.2.2 = e.2.2.2 := by
  unfold xo_new
  split
  · rename_i hl
    refine ⟨r, rn_le_rf r, he, he.1, ?_, rfl⟩
    unfold xi_z
    dsimp only
    omega
  · refine ⟨rn_put r z, rn_put_le r z, xe_g_put he h1 h2, ?_, ?_, rfl⟩
    · show e.1 < r.2 + 1
      rw [← he.2.1]
      exact Nat.lt_succ_self _
    · unfold xi_z
      dsimp only
      rw [← he.2.1, rn_put_at]
      omega
theorem en_i_ok {GF : GH} {C : List AC} : ∀ {l : List PB} {EV : List Int} {r : RN} {e : XE}, xe_g r e → pb_g GF C l EV → ∃ r', rn_le r r' ∧ xe_g r' (en_i l e).2 ∧ en_g r' (en_i l e).1 EV ∧ (en_i l e).2.2.2.2 = e.2.2.2
  | [], [], r, e, he, _ => ⟨r, rn_le_rf r, he, trivial, rfl⟩
  | q :: t, z :: EV, r, e, he, h => by
    obtain ⟨⟨h0, h1, h2⟩, h3⟩ := h
    obtain ⟨r1, k1, k2, k3, k4, k5⟩ := xo_newz he h1 h2
    obtain ⟨r2, j1, j2, j3, j4⟩ := en_i_ok k2 h3
    refine ⟨r2, rn_le_tr k1 j1, j2, ⟨⟨Nat.lt_of_lt_of_le k3 j1.1, ?_⟩, j3⟩, j4.trans k5⟩
    rw [← k4, xi_z, xi_z, j1.2 _ k3]
  | [], _ :: _, _, _, _, h => h.elim
  | _ :: _, [], _, _, _, h => h.elim
/-- the places are those -/
def pl_i (G : Nat → Option CT) (l : List PB) (en : List XI) (e : XE) : XE := match l, en with
  | q :: t, x :: u => pl_i G t u (xp_i G e q.1 q.2.1 x)
  | _, _ => e
theorem pl_i_ok (h9 : ∀ b, 999 ≤ b → G b = none) : ∀ {l : List PB} {en : List XI} {EV : List Int} {e : XE}, xe_g r e → xh_g r G e C → gh_g r GF e C → pb_g GF C l EV → en_g r en EV → xe_g r (pl_i G l en e) ∧ xh_g r G (pl_i G l en e) C ∧ gh_g r GF (pl_i G l en e) C
  | [], en, EV, e, he, hh, hg, _, _ => by
    unfold pl_i
    exact ⟨he, hh, hg⟩
  | q :: t, [], EV, e, he, hh, hg, _, _ => ⟨he, hh, hg⟩
  | q :: t, x :: u, z :: EV, e, he, hh, hg, h1, h2 => by
    obtain ⟨⟨a1, a2, a3⟩, a4⟩ := h1
    obtain ⟨⟨b1, b2⟩, b3⟩ := h2
    obtain ⟨c1, c2, c3⟩ := xp_i_ok (k := q.2.1) h9 he hh hg b1 (by rw [b2]; exact a1)
    have w := pl_i_ok h9 c1 c2 c3 a4 b3
    exact w
  | _ :: _, _ :: _, [], _, _, _, _, h, _ => h.elim
/-- new places: each gets a symbol -/
def pb_i (G : Nat → Option CT) (l : List PB) (e : XE) : XE := match l with
  | [] => e
  | q :: t => pb_i G t (xp_i G (xo_new e q.2.2.1 q.2.2.2).2 q.1 q.2.1 (xo_new e q.2.2.1 q.2.2.2).1)
theorem pb_i_ok (h9 : ∀ b, 999 ≤ b → G b = none) : ∀ {l : List PB} {EV : List Int} {r : RN} {e : XE}, xe_g r e → xh_g r G e C → gh_g r GF e C → pb_g GF C l EV → ∃ r', rn_le r r' ∧ xe_g r' (pb_i G l e) ∧ xh_g r' G (pb_i G l e) C ∧ gh_g r' GF (pb_i G l e) C
  | [], _, r, e, he, hh, hg, _ => ⟨r, rn_le_rf r, he, hh, hg⟩
  | q :: t, z :: EV, r, e, he, hh, hg, h => by
    obtain ⟨⟨h0, h1, h2⟩, h3⟩ := h
    obtain ⟨r1, k1, k2, k3, k4, k5⟩ := xo_newz he h1 h2
    obtain ⟨c1, c2, c3⟩ := xp_i_ok (k := q.2.1) h9 k2 (xh_g_mono k1 k5 hh) (gh_g_mono k1 k5 hg) k3 (by rw [k4]; exact h0)
    obtain ⟨r2, j1, j2, j3, j4⟩ := pb_i_ok h9 c1 c2 c3 h3
    exact ⟨r2, rn_le_tr k1 j1, j2, j3, j4⟩
  | _ :: _, [], _, _, _, _, _, h => h.elim
/-- places are checked -/
def pb_c (G : Nat → Option CT) (e : XE) (l : List PB) : Bool := match pb_x G e l with
  | some _ => true
  | none => false
theorem pb_c_ok (he : xe_g r e) (hh : xh_g r G e C) (hg : gh_g r GF e C) {l : List PB} (h : pb_c G e l = true) : ∃ EV, pb_g GF C l EV := by
  unfold pb_c at h
  split at h
  · rename_i u hu
    obtain ⟨EV, h1, -⟩ := pb_x_ok he hh hg hu
    exact ⟨EV, h1⟩
  · cases h
end RL
/-- without the ghosts -/
theorem xh_9 {r : RN} {G : Nat → Option CT} (h9 : ∀ b, 999 ≤ b → G b = none) {e : XE} {C : List AC} (hh : xh_g r G e C) : xh_g r G (xe_fr e [(999, 2000)]) C := by
  have hx : ∀ a, ¬ 999 ≤ a → xm [(999, 2000)] a = false := by
    intro a ha
    unfold xm
    unfold xm
    rw [Bool.or_false]
    cases hb : (Nat.ble 999 a && Nat.blt a 2000) with
    | false => rfl
    | true =>
      simp only [Bool.and_eq_true] at hb
      exact absurd (Nat.le_of_ble_eq_true hb.1) ha
  refine ⟨fun a ci fs hG => ?_, fun a kd n p fs hG => ?_, fun q hq => ?_⟩
  · have ha : ¬ 999 ≤ a := fun hc => by rw [h9 a hc] at hG; cases hG
    obtain ⟨vs, g1, g2, g3⟩ := hh.1 a ci fs hG
    refine ⟨vs, g1, g2, fun k f hf => ?_⟩
    show ∃ v, _ ∧ xh_f r (xo_k (e.2.2.2.2.filter (fun q => !xm [(999, 2000)] q.1)) a k) f v
    rw [xo_k_filter, if_neg (by rw [hx a ha]; exact Bool.false_ne_true)]
    exact g3 k f hf
  · have ha : ¬ 999 ≤ a := fun hc => by rw [h9 a hc] at hG; cases hG
    obtain ⟨d, us, g1, g2⟩ := hh.2.1 a kd n p fs hG
    refine ⟨d, us, g1, fun j hj => ?_⟩
    rcases g2 j hj with w | ⟨q, q1, q2, q3⟩
    · exact Or.inl w
    · refine Or.inr ⟨q, ?_, q2, q3⟩
      show q ∈ e.2.2.2.1.filter (fun q => !xm [(999, 2000)] q.1)
      rw [List.mem_filter]
      exact ⟨q1, by rw [q2, hx a ha]; rfl⟩
  · have hq' : q ∈ e.2.2.2.1.filter (fun q => !xm [(999, 2000)] q.1) := hq
    rw [List.mem_filter] at hq'
    exact hh.2.2 q hq'.1
def xi_al2 (G : Nat → Option CT) (e : XE) : Bool := xi_all G (xe_fr e [(999, 2000)])
theorem xI_of2 {r : RN} {G : Nat → Option CT} (h9 : ∀ b, 999 ≤ b → G b = none) {e : XE} {C : List AC} (he : xe_g r e) (hh : xh_g r G e C) (h : xi_al2 G e = true) : xI G C := xI_of (e := xe_fr e [(999, 2000)]) he (xh_9 h9 hh) h
/-! where an instruction stores -/
/-- a range of places of a cell, so far from one another -/
abbrev TC : Type := Nat × Int × Int × Int × Int
def tc_x (a : Nat) (E : List (Nat × Int × Int)) (j : XI) : TC := (a, (xi_b E j).1, (xi_b E j).2, if 1 < j.1 then j.1 else 1, j.2.2)
def xs_tc (pl : Nat → Option (Nat × Nat × Nat)) (i : Instr) (S : List XV) (E : List (Nat × Int × Int)) : Option TC := match i with
  | .putfield x => match pl x, S with
    | some (_, _, k), _ :: .inr (.inl a) :: _ => some (a, (k : Int), (k : Int), 1, 0)
    | _, _ => none
  | .iastore => match S with
    | _ :: .inl j :: .inr (.inl a) :: _ => some (tc_x a E j)
    | _ => none
  | .bastore => match S with
    | _ :: .inl j :: .inr (.inl a) :: _ => some (tc_x a E j)
    | _ => none
  | .lastore => match S with
    | _ :: .inl j :: .inr (.inl a) :: _ => some (tc_x a E j)
    | _ => none
  | _ => none
/-- C' is C but for this range of places -/
def cv_in (t : TC) (a k : Nat) : Prop := a = t.1 ∧ t.2.1 ≤ (k : Int) ∧ (k : Int) ≤ t.2.2.1 ∧ ((k : Int) - t.2.2.2.2) % t.2.2.2.1 = 0
def cv_but (t : TC) (C C' : List AC) : Prop := ∀ a k : Nat, ¬ cv_in t a k → cv C' a k = cv C a k
theorem cv_arr {C : List AC} {a kd n : Nat} {d : AV} {us : List (Nat × AV)} (h : ea_nt C a = some (.inl (kd, n, d, us))) {j : Nat} {v : AV} {t : TC} (ht : cv_in t a j) : cv_but t C (C.set a (.inl (kd, n, d, (j, v) :: us))) := by
  intro b k hn
  by_cases hab : a = b
  · subst hab
    unfold cv
    rw [nt_set_self h, h]
    dsimp only
    rw [ea_al_at, if_neg]
    rintro rfl
    exact hn ht
  · exact cv_eq (nt_set_ne hab) k
theorem cv_fld {C : List AC} {a ci : Nat} {vs : List AV} (h : ea_nt C a = some (.inr (ci, vs))) {j : Nat} {v : AV} {t : TC} (ht : cv_in t a j) {cj : Nat} : cv_but t C (C.set a (.inr (cj, vs.set j v))) := by
  intro b k hn
  by_cases hab : a = b
  · subst hab
    unfold cv
    rw [nt_set_self h, h]
    dsimp only
    rw [nt_set_ne]
    rintro rfl
    exact hn ht
  · exact cv_eq (nt_set_ne hab) k
theorem ix_in {r : RN} {e : XE} (he : xe_g r e) {j : XI} {x : Int32} (hx : xi_g r j x) {n k : Nat} (h : ea_ix (.inl x) n = some k) (a : Nat) : cv_in (tc_x a e.2.1 j) a k := by
  have b := xi_b_ok he hx
  unfold ea_ix at h
  dsimp only at h
  split at h
  · rename_i hin
    cases h
    have h2 := (ix_ok (x := x) (n := n) hin.1 hin.2).2.1
    refine ⟨rfl, by show (xi_b e.2.1 j).1 ≤ _; omega, by show _ ≤ (xi_b e.2.1 j).2; omega, ?_⟩
    show ((x.toNatClampNeg : Int) - j.2.2) % (if 1 < j.1 then j.1 else 1) = 0
    rw [h2, hx.2, xi_z]
    split
    · rw [Int.add_sub_cancel, Int.mul_emod_right]
    · exact Int.emod_one _
  · cases h
theorem bif_n {α : Type} {b : Bool} {x : Option α} {y : α} (h : (bif b then x else none) = some y) : b = true ∧ x = some y := by
  cases b with
  | false => cases h
  | true => exact ⟨rfl, h⟩
def xs_sto (i : Instr) : Bool := match i with
  | .putfield _ | .iastore | .bastore | .lastore => true
  | _ => false
theorem xs_yes {r : RN} {e : XE} (he : xe_g r e) {ini : Bool} {pl : Nat → Option (Nat × Nat × Nat)} {fty : Nat → Nat → Nat} {scr : Option (List AI)} {i : Instr} {pc : Nat} {S : List XV} {cs : List AV} {C : List AC} {q : Nat × List AV × Option (List AC) × Nat × Nat} {t : TC} (hs : xs_g r S cs) (hh : ea_h ini pl fty scr i pc cs C = some q) (ht : xs_tc pl i S e.2.1 = some t) : cv_but t C (q.2.2.1.getD C) := by
  cases i with
  | putfield x =>
    unfold xs_tc at ht
    dsimp only at ht
    split at ht
    · rename_i u1 k w9 a S0 hp
      cases ht
      obtain ⟨v, _, rfl, hv, hs1⟩ := xs_pop hs
      obtain ⟨v0, cs0, rfl, hv0, hs0⟩ := xs_pop hs1
      obtain rfl : v0 = .inr (.inl (some a)) := hv0
      unfold ea_h at hh
      dsimp only at hh
      split at hh
      · rename_i ci k' w a' cs1 hw heq
        cases heq
        have hk : k' = k := by
          unfold ea_wr at hw
          rw [hp] at hw
          split at hw
          · rename_i q' he1
            cases he1
            cases hw
            rfl
          · rename_i q' he1
            cases he1
            cases ini with
            | false => cases hw
            | true => cases hw; rfl
          · cases hw
        split at hh
        · rename_i o ho
          cases hb : (Nat.beq o.1 ci && (ea_fit (fty ci k') v && Nat.blt k' o.2.length)) with
          | false => rw [hb] at hh; cases hh
          | true =>
            rw [hb] at hh
            cases hh
            exact cv_fld (t := (_, _, _, _, _)) (vs := o.2) (ci := o.1) ho (by rw [hk]; exact ⟨rfl, Int.le_refl _, Int.le_refl _, Int.emod_one _⟩)
        · cases hh
      · cases hh
    · cases ht
  | iastore =>
    unfold xs_tc at ht
    dsimp only at ht
    split at ht
    · rename_i u1 j a S0
      cases ht
      obtain ⟨v, _, rfl, hv, hs1⟩ := xs_pop hs
      obtain ⟨_, _, rfl, ⟨x, rfl, hx⟩, hs2⟩ := xs_pop hs1
      obtain ⟨v0, cs0, rfl, hv0, hs0⟩ := xs_pop hs2
      obtain rfl : v0 = .inr (.inl (some a)) := hv0
      unfold ea_h at hh
      dsimp only at hh
      split at hh
      · rename_i v' i' a' cs1 heq
        cases heq
        split at hh
        · rename_i n d us ho
          split at hh
          · rename_i k hk
            cases hh
            exact cv_arr ho (ix_in he hx hk _)
          · cases hh
        · cases hh
      · cases hh
    · cases ht
  | bastore =>
    unfold xs_tc at ht
    dsimp only at ht
    split at ht
    · rename_i u1 j a S0
      cases ht
      obtain ⟨v, _, rfl, hv, hs1⟩ := xs_pop hs
      obtain ⟨_, _, rfl, ⟨x, rfl, hx⟩, hs2⟩ := xs_pop hs1
      obtain ⟨v0, cs0, rfl, hv0, hs0⟩ := xs_pop hs2
      obtain rfl : v0 = .inr (.inl (some a)) := hv0
      unfold ea_h at hh
      dsimp only at hh
      split at hh
      · rename_i v' i' a' cs1 heq
        cases heq
        split at hh
        · rename_i n d us ho
          split at hh
          · rename_i k hk
            cases hh
            exact cv_arr ho (ix_in he hx hk _)
          · cases hh
        · cases hh
      · cases hh
    · cases ht
  | lastore =>
    unfold xs_tc at ht
    dsimp only at ht
    split at ht
    · rename_i u1 j a S0
      cases ht
      obtain ⟨v, _, rfl, hv, hs1⟩ := xs_pop hs
      obtain ⟨_, _, rfl, ⟨x, rfl, hx⟩, hs2⟩ := xs_pop hs1
      obtain ⟨v0, cs0, rfl, hv0, hs0⟩ := xs_pop hs2
      obtain rfl : v0 = .inr (.inl (some a)) := hv0
      unfold ea_h at hh
      dsimp only at hh
      split at hh
      · rename_i v' i' a' cs1 heq
        cases heq
        split at hh
        · rename_i n d us ho
          split at hh
          · rename_i k hk
            cases hh
            exact cv_arr ho (ix_in he hx hk _)
          · cases hh
        · cases hh
      · cases hh
    · cases ht
  | _ => cases ht
theorem xs_no {M : Nat → Bool} {G : Nat → Option CT} {ini : Bool} {pl : Nat → Option (Nat × Nat × Nat)} {fty : Nat → Nat → Nat} {scr : Option (List AI)} {i : Instr} {pc : Nat} {S : List XV} {e : XE} {f : Nat × List XV × XE} {cs : List AV} {C : List AC} {q : Nat × List AV × Option (List AC) × Nat × Nat} (h : xs_h M G ini pl fty i pc S e = some f) (hst : xs_sto i = false) (hh : ea_h ini pl fty scr i pc cs C = some q) : q.2.2.1 = none := by
  cases i with
  | putfield x => cases hst
  | iastore => cases hst
  | bastore => cases hst
  | lastore => cases hst
  | getfield x =>
    unfold ea_h at hh
    dsimp only at hh
    split at hh
    · split at hh
      · rename_i ci k a t h1 h3 o h2
        cases hb : Nat.beq o.1 ci with
        | false => rw [hb] at hh; cases hh
        | true =>
          rw [hb] at hh
          simp only [cond_true] at hh
          split at hh
          · cases hh; rfl
          · cases hh
      · cases hh
    · split at hh
      · cases hh; rfl
      · cases hh
    · cases hh
  | getstatic x =>
    unfold ea_h at hh
    dsimp only at hh
    repeat' (split at hh)
    all_goals first | (cases hh; rfl) | cases hh
  | iaload =>
    unfold ea_h at hh
    dsimp only at hh
    repeat' (split at hh)
    all_goals first | (cases hh; rfl) | cases hh
  | baload =>
    unfold ea_h at hh
    dsimp only at hh
    split at hh
    · repeat' (split at hh)
      all_goals first | (cases hh; rfl) | cases hh
    · obtain ⟨-, hh⟩ := bif_n hh
      repeat' (split at hh)
      all_goals first | (cases hh; rfl) | cases hh
    · cases hh
  | laload =>
    unfold ea_h at hh
    dsimp only at hh
    repeat' (split at hh)
    all_goals first | (cases hh; rfl) | cases hh
  | aaload =>
    unfold ea_h at hh
    dsimp only at hh
    repeat' (split at hh)
    all_goals first | (cases hh; rfl) | cases hh
  | arraylength =>
    unfold ea_h at hh
    dsimp only at hh
    split at hh
    · repeat' (split at hh)
      all_goals first | (cases hh; rfl) | cases hh
    · repeat' (split at hh)
      all_goals first | (cases hh; rfl) | cases hh
    · obtain ⟨-, hh⟩ := bif_n hh
      cases hh
      rfl
    · cases hh
  | ldc x =>
    unfold ea_h at hh
    dsimp only at hh
    split at hh
    · cases hh; rfl
    · obtain ⟨-, hh⟩ := bif_n hh
      cases hh
      rfl
    · cases hh
  | ldc_w x =>
    unfold ea_h at hh
    dsimp only at hh
    split at hh
    · cases hh; rfl
    · obtain ⟨-, hh⟩ := bif_n hh
      cases hh
      rfl
    · cases hh
  | ldc2_w x =>
    unfold ea_h at hh
    dsimp only at hh
    repeat' (split at hh)
    all_goals first | (cases hh; rfl) | cases hh
  | _ => cases h
