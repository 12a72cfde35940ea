/-! THE CHECKER, contracts: kinds of arguments; which cells may be written (ranges); what is given; what may be thrown -/
abbrev AT : Type := (Int × Int) ⊕ (Nat ⊕ Nat)
def at_g (t : AT) (v : AV) : Prop := match t with
  | .inl q => ∃ x : Int32, v = .inl (.inl x) ∧ q.1 ≤ x.toInt ∧ x.toInt ≤ q.2
  | .inr (.inl k) => v = .inr (.inl (some k))
  | .inr (.inr 0) => ∃ y : Int64, v = .inr (.inr (.inl (some y)))
  | .inr (.inr 1) => v = .inr (.inr (.inr (.inl true)))
  | .inr (.inr 2) => v = .inr (.inr (.inr (.inl false)))
  | .inr (.inr (q + 3)) => v = .inr (.inr (.inr (.inr q)))
def xa_in (ts : List AT) (e : XE) : List XV × XE := match ts with
  | [] => ([], e)
  | .inl q :: t => (.inl (xo_new e q.1 q.2).1 :: (xa_in t (xo_new e q.1 q.2).2).1, (xa_in t (xo_new e q.1 q.2).2).2)
  | .inr u :: t => (.inr u :: (xa_in t e).1, (xa_in t e).2)
theorem at_u {r : RN} {u : Nat ⊕ Nat} {v : AV} (h : at_g (.inr u) v) : xv_g r (.inr u) v := by
  match u, h with
  | .inl k, h => exact h
  | .inr 0, h => exact h
  | .inr 1, h => exact h
  | .inr 2, h => exact h
  | .inr (_ + 3), h => exact h
theorem xa_in_ok : ∀ {ts : List AT} {vs : List AV} {r : RN} {e : XE}, xe_g r e → ea_rl at_g ts vs → ∃ r', rn_le r r' ∧ xe_g r' (xa_in ts e).2 ∧ xs_g r' (xa_in ts e).1 vs ∧ (xa_in ts e).2.2.2.2 = e.2.2.2
  | [], [], r, e, he, _ => ⟨r, rn_le_rf r, he, trivial, rfl⟩
  | .inl q :: t, v :: vs, r, e, he, h => by
    obtain ⟨⟨x, rfl, h1, h2⟩, h3⟩ := h
    obtain ⟨r1, k1, k2, k3, k4⟩ := xo_new_ok he h1 h2
    obtain ⟨r2, j1, j2, j3, j4⟩ := xa_in_ok k2 h3
    exact ⟨r2, rn_le_tr k1 j1, j2, xs_cons (xv_gi (xi_g_mono j1 k3)) j3, j4.trans k4⟩
  | .inr u :: t, v :: vs, r, e, he, h => by
    obtain ⟨h1, h3⟩ := h
    obtain ⟨r2, j1, j2, j3, j4⟩ := xa_in_ok he h3
    exact ⟨r2, j1, j2, xs_cons (at_u h1) j3, j4⟩
  | [], _ :: _, _, _, _, h => h.elim
  | .inl _ :: _, [], _, _, _, h => h.elim
  | .inr _ :: _, [], _, _, _, h => h.elim
def xa_ar (i : Nat) (as : List XV) : List (Nat × XV) := match as with
  | [] => []
  | a :: t => (i, a) :: xa_ar (if xv_cat a = 2 then i + 2 else i + 1) t
theorem xa_ar_ge : ∀ {as : List XV} {i : Nat} {q : Nat × XV}, q ∈ xa_ar i as → i ≤ q.1
  | [], i, q, h => nomatch h
  | a :: t, i, q, h => by
    rcases List.mem_cons.mp h with rfl | h
    · exact Nat.le_refl _
    · have := xa_ar_ge h
      split at this <;> omega
theorem xa_ar_ok {r : RN} : ∀ {as : List XV} {vs : List AV} (i : Nat), xs_g r as vs → xl_g r (xa_ar i as) (ea_ar i vs)
  | [], [], _, _ => fun q hq => nomatch hq
  | a :: as, v :: vs, i, h => by
    intro q hq
    show ∃ u, ea_lk ((i, v) :: ea_ar _ vs) q.1 = some u ∧ _
    rw [lk_cons]
    rcases List.mem_cons.mp hq with rfl | hq
    · exact ⟨v, if_pos rfl, h.1⟩
    · have hge := xa_ar_ge hq
      have hne : ¬ i = q.1 := by
        split at hge <;> omega
      rw [if_neg hne, xv_g_cat h.1]
      exact xa_ar_ok _ h.2 q hq
  | [], _ :: _, _, h => h.elim
  | _ :: _, [], _, h => h.elim
/-- a value is of a kind -/
def xa_fit (e : XE) (a : XV) (t : AT) : Bool := match a, t with
  | .inl i, .inl q => decide (q.1 ≤ (xi_b e.2.1 i).1) && decide ((xi_b e.2.1 i).2 ≤ q.2)
  | .inr (.inl k), .inr (.inl k') => Nat.beq k k'
  | .inr (.inr n), .inr (.inr n') => Nat.beq n n'
  | _, _ => false
theorem xa_fit_ok {r : RN} {e : XE} (he : xe_g r e) {a : XV} {t : AT} (h : xa_fit e a t = true) {v : AV} (hv : xv_g r a v) : at_g t v := by
  match a, t, h, hv with
  | .inl i, .inl q, h, ⟨x, ex, hx⟩ =>
    have h' : (decide (q.1 ≤ (xi_b e.2.1 i).1) && decide ((xi_b e.2.1 i).2 ≤ q.2)) = true := h
    simp only [Bool.and_eq_true, decide_eq_true_eq] at h'
    have b := xi_b_ok he hx
    exact ⟨x, ex, by omega, by omega⟩
  | .inr (.inl k), .inr (.inl k'), h, hv =>
    obtain rfl : k = k' := Nat.eq_of_beq_eq_true h
    exact hv
  | .inr (.inr n), .inr (.inr n'), h, hv =>
    obtain rfl : n = n' := Nat.eq_of_beq_eq_true h
    match n, hv with
    | 0, hv => exact hv
    | 1, hv => exact hv
    | 2, hv => exact hv
    | _ + 3, hv => exact hv
def xa_fits (e : XE) (as : List XV) (ts : List AT) : Bool := match as, ts with
  | [], [] => true
  | a :: as, t :: ts => xa_fit e a t && xa_fits e as ts
  | _, _ => false
theorem xa_fits_ok {r : RN} {e : XE} (he : xe_g r e) : ∀ {as : List XV} {ts : List AT} {vs : List AV}, xa_fits e as ts = true → xs_g r as vs → ea_rl at_g ts vs
  | [], [], [], _, _ => trivial
  | a :: as, t :: ts, v :: vs, h, hs => by
    unfold xa_fits at h
    simp only [Bool.and_eq_true] at h
    exact ⟨xa_fit_ok he h.1 hs.1, xa_fits_ok he h.2 hs.2⟩
  | [], _ :: _, _, h, _ => by cases h
  | _ :: _, [], _, h, _ => by cases h
  | [], [], _ :: _, _, hs => hs.elim
  | _ :: _, _ :: _, [], _, hs => hs.elim
/-- cells by ranges -/
def xm (l : List (Nat × Nat)) (a : Nat) : Bool := match l with
  | [] => false
  | q :: t => (Nat.ble q.1 a && Nat.blt a q.2) || xm t a
def xm_in (q : Nat × Nat) (l : List (Nat × Nat)) : Bool := match l with
  | [] => false
  | p :: t => (Nat.ble p.1 q.1 && Nat.ble q.2 p.2) || xm_in q t
theorem xm_in_ok {q : Nat × Nat} {a : Nat} (h1 : q.1 ≤ a) (h2 : a < q.2) : ∀ {l : List (Nat × Nat)}, xm_in q l = true → xm l a = true
  | [], h => by cases h
  | p :: t, h => by
    unfold xm_in at h
    unfold xm
    simp only [Bool.or_eq_true, Bool.and_eq_true] at h ⊢
    rcases h with ⟨g1, g2⟩ | h
    · left
      have g1' := Nat.le_of_ble_eq_true g1
      have g2' := Nat.le_of_ble_eq_true g2
      exact ⟨Nat.ble_eq_true_of_le (by omega), Nat.ble_eq_true_of_le (by omega)⟩
    · exact Or.inr (xm_in_ok h1 h2 h)
def xm_sub (l l' : List (Nat × Nat)) : Bool := match l with
  | [] => true
  | q :: t => xm_in q l' && xm_sub t l'
theorem xm_sub_ok {l' : List (Nat × Nat)} {a : Nat} : ∀ {l : List (Nat × Nat)}, xm_sub l l' = true → xm l a = true → xm l' a = true
  | [], _, h => by cases h
  | q :: t, hs, h => by
    unfold xm_sub at hs
    unfold xm at h
    simp only [Bool.or_eq_true, Bool.and_eq_true] at h hs
    rcases h with ⟨g1, g2⟩ | h
    · exact xm_in_ok (Nat.le_of_ble_eq_true g1) (blt_lt g2) hs.1
    · exact xm_sub_ok hs.2 h
/-- all cells are of their kinds -/
def xI (G : Nat → Option CT) (C : List AC) : Prop := xh_g (fun _ => 0, 1) G (1, [], [], [], []) C
theorem xo_k_mem : ∀ {O : List (Nat × Nat × XI)} {a k : Nat} {x : XI}, xo_k O a k = some x → (a, k, x) ∈ O
  | [], a, k, x, h => by cases h
  | q :: t, a, k, x, h => by
    unfold xo_k at h
    cases hb : (Nat.beq q.1 a && Nat.beq q.2.1 k) with
    | true =>
      rw [hb] at h
      cases h
      simp only [Bool.and_eq_true] at hb
      have e1 : q.1 = a := Nat.eq_of_beq_eq_true hb.1
      have e2 : q.2.1 = k := Nat.eq_of_beq_eq_true hb.2
      subst e1
      subst e2
      exact List.mem_cons_self
    | false =>
      rw [hb] at h
      exact List.mem_cons_of_mem _ (xo_k_mem h)
def xi_in1 (G : Nat → Option CT) (E : List (Nat × Int × Int)) (q : Nat × Nat × XI) : Bool := match G q.1 with
  | some (.inl (_, fs)) => match ea_nt fs q.2.1 with
    | some (.inl p) => decide (p.1 ≤ (xi_b E q.2.2).1) && decide ((xi_b E q.2.2).2 ≤ p.2)
    | _ => false
  | _ => false
def xi_inv (G : Nat → Option CT) (E : List (Nat × Int × Int)) (O : List (Nat × Nat × XI)) : Bool := match O with
  | [] => true
  | q :: t => xi_in1 G E q && xi_inv G E t
theorem xi_inv_mem {G : Nat → Option CT} {E : List (Nat × Int × Int)} : ∀ {O : List (Nat × Nat × XI)}, xi_inv G E O = true → ∀ q ∈ O, xi_in1 G E q = true
  | [], _, q, hq => nomatch hq
  | p :: t, h, q, hq => by
    unfold xi_inv at h
    simp only [Bool.and_eq_true] at h
    rcases List.mem_cons.mp hq with rfl | hq
    · exact h.1
    · exact xi_inv_mem h.2 q hq
def xi_R (G : Nat → Option CT) (E : List (Nat × Int × Int)) (R : List (Nat × XI × XI)) : Bool := match R with
  | [] => true
  | q :: t => (match G q.1 with
    | some (.inr (kd, _, p, fs)) => !(Nat.beq kd 1) && xR_1 E p fs q
    | _ => false) && xi_R G E t
theorem xi_R_mem {G : Nat → Option CT} {E : List (Nat × Int × Int)} : ∀ {R : List (Nat × XI × XI)}, xi_R G E R = true → ∀ q ∈ R, ∀ kd n p fs, G q.1 = some (.inr (kd, n, p, fs)) → kd ≠ 1 ∧ xR_1 E p fs q = true
  | [], _, q, hq, _, _, _, _, _ => nomatch hq
  | p0 :: t, h, q, hq, kd, n, p, fs, hG => by
    unfold xi_R at h
    simp only [Bool.and_eq_true] at h
    rcases List.mem_cons.mp hq with rfl | hq
    · have h1 := h.1
      rw [hG] at h1
      simp only [Bool.and_eq_true] at h1
      refine ⟨?_, h1.2⟩
      rintro rfl
      exact absurd h1.1 (by decide)
    · exact xi_R_mem h.2 q hq kd n p fs hG
/-- all that is known is of its kind -/
def xi_all (G : Nat → Option CT) (e : XE) : Bool := xi_inv G e.2.1 e.2.2.2.2 && xi_R G e.2.1 e.2.2.2.1
theorem xI_of {r : RN} {G : Nat → Option CT} {e : XE} {C : List AC} (he : xe_g r e) (hh : xh_g r G e C) (h' : xi_all G e = true) : xI G C := by
  unfold xi_all at h'
  simp only [Bool.and_eq_true] at h'
  obtain ⟨h, hRR⟩ := h'
  refine ⟨fun a ci fs hG => ?_, fun a kd n p fs hG => ?_, fun q hq => nomatch hq⟩
  rotate_left
  · obtain ⟨d, us, g1, g2⟩ := hh.2.1 a kd n p fs hG
    refine ⟨d, us, g1, fun j hj => Or.inl ?_⟩
    rcases g2 j hj with w | ⟨q, q1, q2, q3⟩
    · exact w
    · obtain ⟨z1, z2⟩ := xi_R_mem hRR q q1 kd n p fs (by rw [q2]; exact hG)
      exact xR_1_ok he z1 (hh.2.2 q q1) (by rw [q2]; exact g1) q3 z2
  obtain ⟨vs, g1, g2, g3⟩ := hh.1 a ci fs hG
  refine ⟨vs, g1, g2, fun k f hf => ?_⟩
  obtain ⟨v, j1, j2⟩ := g3 k f hf
  refine ⟨v, j1, ?_⟩
  show ft_g f v
  cases hx : xo_k e.2.2.2.2 a k with
  | none => rw [hx] at j2; exact j2
  | some x =>
    rw [hx] at j2
    obtain ⟨y, rfl, hy⟩ : ∃ y : Int32, v = .inl (.inl y) ∧ xi_g r x y := j2
    have h1 := xi_inv_mem h _ (xo_k_mem hx)
    unfold xi_in1 at h1
    dsimp only at h1
    rw [hG] at h1
    dsimp only at h1
    rw [hf] at h1
    match f, h1 with
    | .inl p, h1 =>
      have h' : (decide (p.1 ≤ (xi_b e.2.1 x).1) && decide ((xi_b e.2.1 x).2 ≤ p.2)) = true := h1
      simp only [Bool.and_eq_true, decide_eq_true_eq] at h'
      have b := xi_b_ok he hy
      exact ⟨y, rfl, by omega, by omega⟩
/-- behind a call: what was written is known no more -/
def xe_fr (e : XE) (M : List (Nat × Nat)) : XE := (e.1, e.2.1, e.2.2.1, e.2.2.2.1.filter (fun q => !xm M q.1), e.2.2.2.2.filter (fun q => !xm M q.1))
theorem xo_k_filter {M : List (Nat × Nat)} {a k : Nat} : ∀ {O : List (Nat × Nat × XI)}, xo_k (O.filter (fun q => !xm M q.1)) a k = if xm M a = true then none else xo_k O a k
  | [] => by simp [xo_k]
  | q :: t => by
    rw [List.filter_cons]
    have ih := xo_k_filter (M := M) (a := a) (k := k) (O := t)
    obtain ⟨qa, qk, qx⟩ := q
    rw [xo_k_cons]
    cases hq : xm M qa with
    | true =>
      simp only [Bool.not_true, Bool.false_eq_true, if_false]
      rw [ih]
      by_cases hc : qa = a ∧ qk = k
      · rw [← hc.1, if_pos hq, if_pos hq]
      · rw [if_neg hc]
    | false =>
      simp only [Bool.not_false, if_true]
      rw [xo_k_cons, ih]
      by_cases hc : qa = a ∧ qk = k
      · rw [if_pos hc, if_pos hc, ← hc.1, if_neg (by rw [hq]; exact Bool.false_ne_true)]
      · rw [if_neg hc, if_neg hc]
theorem xI_to {r : RN} {G : Nat → Option CT} {e : XE} {C C' : List AC} {M : List (Nat × Nat)} (hh : xh_g r G e C) (hI : xI G C') (hM : ∀ b, xm M b = false → ea_nt C' b = ea_nt C b) : xh_g r G (xe_fr e M) C' := by
  refine ⟨fun a ci fs hG => ?_, fun a kd n p fs hG => ?_, fun q hq => ?_⟩
  rotate_left
  · obtain ⟨d, us, g1, g2⟩ := hI.2.1 a kd n p fs hG
    exact ⟨d, us, g1, fun j hj => Or.inl ((g2 j hj).elim id (fun ⟨q, q1, _⟩ => nomatch q1))⟩
  rotate_left
  · show ∃ vs, _ ∧ xh_o r (e.2.2.2.2.filter (fun q => !xm M q.1)) a fs vs
    cases hm : xm M a with
    | true =>
      obtain ⟨vs, g1, g2, g3⟩ := hI.1 a ci fs hG
      refine ⟨vs, g1, g2, fun k f hf => ?_⟩
      rw [xo_k_filter, if_pos hm]
      exact g3 k f hf
    | false =>
      obtain ⟨vs, g1, g2, g3⟩ := hh.1 a ci fs hG
      refine ⟨vs, by rw [hM a hm]; exact g1, g2, fun k f hf => ?_⟩
      rw [xo_k_filter, if_neg (by rw [hm]; exact Bool.false_ne_true)]
      exact g3 k f hf
  · have hq' : q ∈ e.2.2.2.1.filter (fun q => !xm M q.1) := hq
    rw [List.mem_filter] at hq'
    have hm : xm M q.1 = false := by
      have := hq'.2
      cases hx : xm M q.1 with
      | false => rfl
      | true => rw [hx] at this; cases this
    obtain ⟨kd, n, d, us, j, x, n1, n2⟩ := hh.2.2 q hq'.1
    exact ⟨kd, n, d, us, j, x, by rw [hM _ hm]; exact n1, n2⟩
def fd_g (C : List AC) (a k : Nat) (x : Int32) : Prop := ∃ ci vs, ea_nt C a = some (.inr (ci, vs)) ∧ ea_nt vs k = some (.inl (.inl x))
theorem fd_one {C : List AC} {a k : Nat} {x y : Int32} (h1 : fd_g C a k x) (h2 : fd_g C a k y) : x = y := by
  obtain ⟨ci, vs, g1, g2⟩ := h1
  obtain ⟨ci', vs', j1, j2⟩ := h2
  rw [g1] at j1
  cases j1
  rw [g2] at j2
  cases j2
  rfl
/-- a contract: the method, its arguments, the cells that it may write, what it gives (0 nothing, 1 an int between bounds, 2 a long), what it may throw, bounds of fields that it asks for -/
abbrev CN : Type := Nat × List AT × List (Nat × Nat) × (Nat × Int × Int) × List Nat × List (Nat × Nat × Int × Int)
def rt_g (t : Nat × Int × Int) (v : Option AV) : Prop := match t.1 with
  | 0 => v = none
  | 1 => ∃ x : Int32, v = some (.inl (.inl x)) ∧ t.2.1 ≤ x.toInt ∧ x.toInt ≤ t.2.2
  | _ + 2 => ∃ y : Int64, v = some (.inr (.inr (.inl (some y))))
def cn_end (c : CN) (o : Option AV ⊕ Nat) : Prop := match o with
  | .inl v => rt_g c.2.2.2.1 v
  | .inr ce => ce ∈ c.2.2.2.2.1
def cn_post (G : Nat → Option CT) (c : CN) (C : List AC) : Option AV ⊕ Nat → List AC → Prop := fun o C' => xI G C' ∧ (∀ b, xm c.2.2.1 b = false → ea_nt C' b = ea_nt C b) ∧ cn_end c o
def cn_ok (P : EP) (G : Nat → Option CT) (c : CN) : Prop := ∀ (vs : List AV) (C : List AC), ea_rl at_g c.2.1 vs → xI G C → (∀ q ∈ c.2.2.2.2.2, ∃ x : Int32, fd_g C q.1 q.2.1 x ∧ q.2.2.1 ≤ x.toInt ∧ x.toInt ≤ q.2.2.2) → ok_ P c.1 0 (ea_ar 0 vs) [] C (cn_post G c C)
def xc_ret (t : Nat × Int × Int) (T : List XV) (e : XE) : List XV × XE := match t.1 with
  | 0 => (T, e)
  | 1 => (.inl (xo_new e t.2.1 t.2.2).1 :: T, (xo_new e t.2.1 t.2.2).2)
  | _ + 2 => (.inr (.inr 0) :: T, e)
theorem xc_ret_ok {r : RN} {e : XE} (he : xe_g r e) {t : Nat × Int × Int} {v : Option AV} (hv : rt_g t v) {T : List XV} {ct : List AV} (hT : xs_g r T ct) : ∃ r', rn_le r r' ∧ xe_g r' (xc_ret t T e).2 ∧ xs_g r' (xc_ret t T e).1 (v.toList ++ ct) ∧ (xc_ret t T e).2.2.2.2 = e.2.2.2 := by
  obtain ⟨t1, lo, hi⟩ := t
  match t1, hv with
  | 0, hv =>
    obtain rfl : v = none := hv
    exact ⟨r, rn_le_rf r, he, hT, rfl⟩
  | 1, ⟨x, hx, h1, h2⟩ =>
    subst hx
    obtain ⟨r1, k1, k2, k3, k4⟩ := xo_new_ok he h1 h2
    exact ⟨r1, k1, k2, xs_cons (xv_gi k3) (xs_g_mono k1 hT), k4⟩
  | _ + 2, ⟨y, hy⟩ =>
    subst hy
    exact ⟨r, rn_le_rf r, he, xs_cons (xv_gl r y) hT, rfl⟩
/-- which call it is -/
def xs_cl (own : Nat → Nat) (G : Nat → Option CT) (i : Instr) (pl : Nat → Option (Nat × Nat × Nat)) (S : List XV) : Option (Nat × List XV × List XV × Bool) := match i with
  | .invokestatic x => match pl x with
    | some (1, mj, n) => bif Nat.ble n S.length then some (mj, (S.take n).reverse, S.drop n, true) else none
    | some (13, mj, n) => bif Nat.ble n S.length then some (mj, (S.take n).reverse, S.drop n, false) else none
    | _ => none
  | .invokevirtual x => match pl x with
    | some (2, mj, n) => match S.drop n with
      | .inr (.inl a) :: T => match G a with
        | some (.inl (ci, _)) => bif Nat.beq ci (own mj) then some (mj, .inr (.inl a) :: (S.take n).reverse, T, true) else none
        | _ => none
      | _ => none
    | some (26, mj, n) => match S.drop n with
      | .inr (.inr (q + 4)) :: T => bif Nat.beq ((q + 1) % 2) 0 then some (mj, .inr (.inr (q + 4)) :: (S.take n).reverse, T, true) else none
      | _ => none
    | _ => none
  | _ => none
theorem xs_cl_ok {P : EP} {m : Nat} {G : Nat → Option CT} {i : Instr} {r : RN} {e : XE} {S as T : List XV} {cs : List AV} {C : List AC} {mj : Nat} {b : Bool} (hs : xs_g r S cs) (hh : xh_g r G e C) (h : xs_cl (ep_own P) G i (ep_pl P m) S = some (mj, as, T, b)) : ∃ q vs ct, ok_iv P m i cs = some q ∧ ea_cl (ep_own P) i q cs C = some (mj, vs, ct, b) ∧ xs_g r as vs ∧ xs_g r T ct ∧ ea_len i = 3 := by
  cases i with
  | invokestatic x =>
    unfold xs_cl at h
    dsimp only at h
    split at h
    · rename_i mj' n hp
      cases hb : Nat.ble n S.length with
      | false => rw [hb] at h; cases h
      | true =>
        rw [hb] at h
        cases h
        have hl := ea_rl_len hs
        obtain ⟨h1, h2⟩ := ea_rl_take n hs
        refine ⟨ep_pl P m x, (cs.take n).reverse, cs.drop n, ?_, ?_, ea_rl_rev h1, h2, rfl⟩
        · simp only [ok_iv, hp, ea_mm, ea_is9, cond_false]
        · rw [hp]
          simp only [ea_cl, ← hl, hb, cond_true]
    · rename_i mj' n hp
      cases hb : Nat.ble n S.length with
      | false => rw [hb] at h; cases h
      | true =>
        rw [hb] at h
        cases h
        have hl := ea_rl_len hs
        obtain ⟨h1, h2⟩ := ea_rl_take n hs
        refine ⟨ep_pl P m x, (cs.take n).reverse, cs.drop n, ?_, ?_, ea_rl_rev h1, h2, rfl⟩
        · simp only [ok_iv, hp, ea_mm, ea_is9, cond_false]
        · rw [hp]
          simp only [ea_cl, ← hl, hb, cond_true]
    · cases h
  | invokevirtual x =>
    unfold xs_cl at h
    dsimp only at h
    split at h
    · rename_i mj' n hp
      split at h
      · rename_i a T' hd
        split at h
        · rename_i ci fs hG
          cases hb : Nat.beq ci (ep_own P mj') with
          | false => rw [hb] at h; cases h
          | true =>
            rw [hb] at h
            cases h
            obtain ⟨h1, h2⟩ := ea_rl_take n hs
            rw [hd] at h2
            obtain ⟨v0, ct, hdr, hv0, h3⟩ := ea_rl_cons h2
            obtain rfl : v0 = .inr (.inl (some a)) := hv0
            obtain ⟨vs, g1, -⟩ := hh.1 a ci fs hG
            refine ⟨ep_pl P m x, .inr (.inl (some a)) :: (cs.take n).reverse, ct, rfl, ?_, xs_cons (a := .inr (.inl a)) rfl (ea_rl_rev h1), h3, rfl⟩
            rw [hp]
            simp only [ea_cl, hdr, g1, hb, cond_true]
        · cases h
      · cases h
    · rename_i mj' n hp
      split at h
      · rename_i q T' hd
        cases hb : Nat.beq ((q + 1) % 2) 0 with
        | false => rw [hb] at h; cases h
        | true =>
          rw [hb] at h
          cases h
          obtain ⟨h1, h2⟩ := ea_rl_take n hs
          rw [hd] at h2
          obtain ⟨v0, ct, hdr, hv0, h3⟩ := ea_rl_cons h2
          obtain rfl : v0 = .inr (.inr (.inr (.inr (q + 1)))) := hv0
          refine ⟨ep_pl P m x, .inr (.inr (.inr (.inr (q + 1)))) :: (cs.take n).reverse, ct, rfl, ?_, xs_cons (a := .inr (.inr (q + 4))) rfl (ea_rl_rev h1), h3, rfl⟩
          rw [hp]
          simp only [ea_cl, hdr, hb, cond_true]
      · cases h
    · cases h
  | _ => cases h
