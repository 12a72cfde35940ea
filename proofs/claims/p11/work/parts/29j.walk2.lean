/-! THE CHECKER WITH RELATIONS: contracts, its walk -/
abbrev PO : Type := List PB × List RL
/-- a contract: as before (its fields asked for: places at the entry, with bounds); relations that it asks for (arguments as locals); a number: what holds behind it if less is given; what holds if not -/
abbrev CX : Type := CN × List RL × Int × PO × PO
def rv_l (v : Option AV) : List (Nat × AV) := match v with
  | some u => [(0, u)]
  | none => []
def po_g (GF : GH) (po : PO) (v : Option AV) (EV : List Int) (C : List AC) : Prop := (∃ NV, pb_g GF C po.1 NV) ∧ rl_g GF (rv_l v) EV C po.2
def cx_po (c : CX) (v : Option AV) : PO := match v with
  | some (.inl (.inl x)) => if x.toInt < c.2.2.1 then c.2.2.2.1 else c.2.2.2.2
  | _ => c.2.2.2.2
/-- what is not written stays -/
def fr_c (GF : GH) (M : List (Nat × Nat)) (C0 C : List AC) : Prop := (∀ b, xm M b = false → ea_nt C b = ea_nt C0 b) ∧ ∀ k, 999 ≤ k → xm M k = false → GF k C = GF k C0
theorem fr_c_rf (GF : GH) (M : List (Nat × Nat)) (C : List AC) : fr_c GF M C C := ⟨fun _ _ => rfl, fun _ _ _ => rfl⟩
theorem fr_c_tr {GF : GH} {M M' : List (Nat × Nat)} {C0 C C' : List AC} (h : fr_c GF M C0 C) (hs : xm_sub M' M = true) (h' : fr_c GF M' C C') : fr_c GF M C0 C' := by
  have key : ∀ b, xm M b = false → xm M' b = false := fun b hb => by
    cases hx : xm M' b with
    | false => rfl
    | true => rw [xm_sub_ok hs hx] at hb; cases hb
  exact ⟨fun b hb => by rw [h'.1 b (key b hb), h.1 b hb], fun k hk hm => by rw [h'.2 k hk (key k hm), h.2 k hk hm]⟩
def cx_post (GF : GH) (G : Nat → Option CT) (c : CX) (EV : List Int) (C0 : List AC) : Option AV ⊕ Nat → List AC → Prop := fun o C' => ∃ v, o = .inl v ∧ xI G C' ∧ fr_c GF c.1.2.2.1 C0 C' ∧ rt_g c.1.2.2.2.1 v ∧ po_g GF (cx_po c v) v EV C'
def cx_ok (P : EP) (G : Nat → Option CT) (GF : GH) (c : CX) : Prop := ∀ (vs : List AV) (C : List AC) (EV : List Int), ea_rl at_g c.1.2.1 vs → xI G C → pb_g GF C c.1.2.2.2.2.2 EV → rl_g GF (ea_ar 0 vs) EV C c.2.1 → ok_ P c.1.1 0 (ea_ar 0 vs) [] C (cx_post GF G c EV C)
/-- kinds of locals that a piece asks for: the first -/
def mc_l (ts : List AT) : List (Nat × AT) := match ts with
  | t :: _ => [(0, t)]
  | [] => []
/-- a piece of a method, proved otherwise: from pc to pc', locals and stack as they are -/
def mc_ok (P : EP) (G : Nat → Option CT) (GF : GH) (m pc : Nat) (c : CX) (pc' : Nat) : Prop := ∀ (cl : List (Nat × AV)) (cs : List AV) (C : List AC) (EV : List Int) (K : Option AV ⊕ Nat → List AC → Prop), (∀ q ∈ mc_l c.1.2.1, ∃ v, ea_lk cl q.1 = some v ∧ at_g q.2 v) → xI G C → pb_g GF C c.1.2.2.2.2.2 EV → rl_g GF cl EV C c.2.1 → (∀ C', xI G C' → fr_c GF c.1.2.2.1 C C' → po_g GF c.2.2.2.2 none EV C' → ok_ P m pc' cl cs C' K) → ok_ P m pc cl cs C K
/-! ghosts and stores -/
abbrev GS : Type := List (Nat × Nat × Int × Int)
def gs_ok (GF : GH) (gs : GS) : Prop := ∀ (k : Nat) (C C' : List AC), (∀ a i : Nat, (∃ q ∈ gs, q.1 = k ∧ q.2.1 = a ∧ q.2.2.1 ≤ (i : Int) ∧ (i : Int) ≤ q.2.2.2) → cv C' a i = cv C a i) → GF k C' = GF k C
def gs_ov (t : TC) (q : Nat × Nat × Int × Int) : Bool := Nat.beq q.2.1 t.1 && (decide (q.2.2.1 ≤ t.2.2.1) && (decide (t.2.1 ≤ q.2.2.2) && (bif decide (q.2.2.1 = q.2.2.2) then decide ((q.2.2.1 - t.2.2.2.2) % t.2.2.2.1 = 0) else true)))
def gs_hit (gs : GS) (t : TC) (k : Nat) : Bool := match gs with
  | [] => false
  | q :: u => (Nat.beq q.1 k && gs_ov t q) || gs_hit u t k
/-- all ghosts that are reached are among those that may change -/
def gs_all (gs : GS) (M : List (Nat × Nat)) (t : TC) : Bool := match gs with
  | [] => true
  | q :: u => (!gs_ov t q || xm M q.1) && gs_all u M t
theorem gs_all_hit {M : List (Nat × Nat)} {t : TC} {k : Nat} (hm : xm M k = false) : ∀ {gs : GS}, gs_all gs M t = true → gs_hit gs t k = false
  | [], _ => rfl
  | q :: u, h => by
    unfold gs_all at h
    simp only [Bool.and_eq_true] at h
    unfold gs_hit
    rw [gs_all_hit hm h.2, Bool.or_false]
    cases hk : Nat.beq q.1 k with
    | false => rfl
    | true =>
      have h1 := h.1
      rw [Nat.eq_of_beq_eq_true hk, hm, Bool.or_false] at h1
      cases ho : gs_ov t q with
      | false => rfl
      | true => rw [ho] at h1; cases h1
theorem gs_hit_mem {t : TC} {k : Nat} : ∀ {gs : GS}, gs_hit gs t k = false → ∀ q ∈ gs, q.1 = k → gs_ov t q = false
  | [], _, q, hq, _ => nomatch hq
  | p :: u, h, q, hq, hk => by
    unfold gs_hit at h
    rw [Bool.or_eq_false_iff] at h
    rcases List.mem_cons.mp hq with rfl | hq
    · have h1 := h.1
      rw [hk, Nat.beq_refl, Bool.true_and] at h1
      exact h1
    · exact gs_hit_mem h.2 q hq hk
theorem gs_same {GF : GH} {gs : GS} (hg : gs_ok GF gs) {t : TC} {k : Nat} (h : gs_hit gs t k = false) {C C' : List AC} (hb : cv_but t C C') : GF k C' = GF k C := by
  refine hg k C C' (fun a i hq => hb a i ?_)
  rintro ⟨rfl, h1, h2, h4⟩
  obtain ⟨q, q1, q2, q3, q4, q5⟩ := hq
  have h3 := gs_hit_mem h q q1 q2
  unfold gs_ov at h3
  rw [q3, Nat.beq_refl, Bool.true_and, Bool.and_eq_false_iff, decide_eq_false_iff_not, Bool.and_eq_false_iff, decide_eq_false_iff_not] at h3
  rcases h3 with h3 | h3 | h3
  · omega
  · omega
  · cases hb : decide (q.2.2.1 = q.2.2.2) with
    | false => rw [hb] at h3; cases h3
    | true =>
      rw [hb] at h3
      simp only [cond_true, decide_eq_false_iff_not] at h3
      rw [decide_eq_true_eq] at hb
      have hi : (i : Int) = q.2.2.1 := by omega
      rw [hi] at h4
      exact h3 h4
/-- ghosts that the store reaches are known no more -/
def xe_gd (gs : GS) (t : TC) (e : XE) : XE := (e.1, e.2.1, e.2.2.1, e.2.2.2.1, e.2.2.2.2.filter (fun q => !(Nat.ble 999 q.1 && gs_hit gs t q.1)))
theorem xo_k_filt (f : Nat → Nat → Bool) {a k : Nat} : ∀ {O : List (Nat × Nat × XI)}, xo_k (O.filter (fun q => f q.1 q.2.1)) a k = if f a k = true then xo_k O a k else none
  | [] => by simp [xo_k]
  | q :: t => by
    obtain ⟨qa, qk, qx⟩ := q
    rw [List.filter_cons]
    have ih := xo_k_filt f (a := a) (k := k) (O := t)
    rw [xo_k_cons]
    cases hq : f qa qk with
    | true =>
      simp only [if_true]
      rw [xo_k_cons, ih]
      by_cases hc : qa = a ∧ qk = k
      · rw [if_pos hc, if_pos hc, ← hc.1, ← hc.2, if_pos hq]
      · rw [if_neg hc, if_neg hc]
    | false =>
      simp only [Bool.false_eq_true, if_false]
      rw [ih]
      by_cases hc : qa = a ∧ qk = k
      · rw [← hc.1, ← hc.2, hq]
        simp
      · rw [if_neg hc]
theorem xe_gd_h {r : RN} {G : Nat → Option CT} (h9 : ∀ b, 999 ≤ b → G b = none) {gs : GS} {t : TC} {e : XE} {C : List AC} (hh : xh_g r G e C) : xh_g r G (xe_gd gs t e) C := by
  refine ⟨fun a ci fs hG => ?_, hh.2.1, hh.2.2⟩
  have ha : Nat.ble 999 a = false := by
    cases hb : Nat.ble 999 a with
    | false => rfl
    | true => rw [h9 a (Nat.le_of_ble_eq_true hb)] at hG; cases hG
  obtain ⟨vs, g1, g2, g3⟩ := hh.1 a ci fs hG
  refine ⟨vs, g1, g2, fun k f hf => ?_⟩
  show ∃ v, _ ∧ xh_f r (xo_k (e.2.2.2.2.filter (fun q => (fun x _ => !(Nat.ble 999 x && gs_hit gs t x)) q.1 q.2.1)) a k) f v
  rw [xo_k_filt (fun x _ => !(Nat.ble 999 x && gs_hit gs t x)), if_pos (by rw [ha]; rfl)]
  exact g3 k f hf
theorem xe_gd_g {r : RN} {GF : GH} {gs : GS} (hgs : gs_ok GF gs) {t : TC} {e : XE} {C C' : List AC} (hg : gh_g r GF e C) (hb : cv_but t C C') : gh_g r GF (xe_gd gs t e) C' := by
  intro a k x hk hx
  have hx2 : xo_k (e.2.2.2.2.filter (fun q => (fun x _ => !(Nat.ble 999 x && gs_hit gs t x)) q.1 q.2.1)) a k = some x := hx
  rw [xo_k_filt (fun x _ => !(Nat.ble 999 x && gs_hit gs t x))] at hx2
  split at hx2
  · rename_i hc
    have hn : gs_hit gs t a = false := by
      cases hh : gs_hit gs t a with
      | false => rfl
      | true => rw [hh, Nat.ble_eq_true_of_le hk] at hc; cases hc
    rw [gs_same hgs hn hb]
    exact hg a k x hk hx2
  · cases hx2
/-! evaluated first -/
def fBa {α : Type} (E : List (Nat × Int × Int)) (k : List (Nat × Int × Int) → α) : α := match E with
  | [] => k []
  | q :: t => ea_fn q.1 fun a => fZ q.2.1 fun lo => fZ q.2.2 fun hi => fBa t fun t => k ((a, lo, hi) :: t)
theorem fBa_eq {α : Type} : ∀ (E : List (Nat × Int × Int)) (k : List (Nat × Int × Int) → α), fBa E k = k E
  | [], k => rfl
  | q :: t, k => by unfold fBa; rw [ea_fn_eq, fZ_eq, fZ_eq, fBa_eq t]
def fDa {α : Type} (E : List (Nat × Nat × Int)) (k : List (Nat × Nat × Int) → α) : α := match E with
  | [] => k []
  | q :: t => ea_fn q.1 fun a => ea_fn q.2.1 fun lo => fZ q.2.2 fun hi => fDa t fun t => k ((a, lo, hi) :: t)
theorem fDa_eq {α : Type} : ∀ (E : List (Nat × Nat × Int)) (k : List (Nat × Nat × Int) → α), fDa E k = k E
  | [], k => rfl
  | q :: t, k => by unfold fDa; rw [ea_fn_eq, ea_fn_eq, fZ_eq, fDa_eq t]
def fRa {α : Type} (R : List (Nat × XI × XI)) (k : List (Nat × XI × XI) → α) : α := match R with
  | [] => k []
  | q :: t => ea_fn q.1 fun a => fX q.2.1 fun i => fX q.2.2 fun x => fRa t fun t => k ((a, i, x) :: t)
theorem fRa_eq {α : Type} : ∀ (E : List (Nat × XI × XI)) (k : List (Nat × XI × XI) → α), fRa E k = k E
  | [], k => rfl
  | q :: t, k => by unfold fRa; rw [ea_fn_eq, fX_eq, fX_eq, fRa_eq t]
def fOa {α : Type} (R : List (Nat × Nat × XI)) (k : List (Nat × Nat × XI) → α) : α := match R with
  | [] => k []
  | q :: t => ea_fn q.1 fun a => ea_fn q.2.1 fun i => fX q.2.2 fun x => fOa t fun t => k ((a, i, x) :: t)
theorem fOa_eq {α : Type} : ∀ (E : List (Nat × Nat × XI)) (k : List (Nat × Nat × XI) → α), fOa E k = k E
  | [], k => rfl
  | q :: t, k => by unfold fOa; rw [ea_fn_eq, ea_fn_eq, fX_eq, fOa_eq t]
def fEa {α : Type} (e : XE) (k : XE → α) : α := ea_fn e.1 fun n => fBa e.2.1 fun E => fDa e.2.2.1 fun D => fRa e.2.2.2.1 fun R => fOa e.2.2.2.2 fun O => k (n, E, D, R, O)
theorem fEa_eq {α : Type} (e : XE) (k : XE → α) : fEa e k = k e := by rw [fEa, ea_fn_eq, fBa_eq, fDa_eq, fRa_eq, fOa_eq]
/-! numbers that go down -/
abbrev MT : Type := List (Int × Option SP)
def mo_g (GF : GH) (cl : List (Nat × AV)) (EV : List Int) (C : List AC) (s : Option SP) (z : Int) : Prop := match s with
  | none => z = 0
  | some s => sp_g GF cl EV C s z
def mt_g (GF : GH) (cl : List (Nat × AV)) (EV : List Int) (C : List AC) (l : MT) (z : Int) : Prop := match l with
  | [] => z = 0
  | q :: t => ∃ z1 z2, mo_g GF cl EV C q.2 z1 ∧ mt_g GF cl EV C t z2 ∧ z = q.1 * z1 + z2
def mo_x (G : Nat → Option CT) (L : List (Nat × XV)) (en : List XI) (e : XE) (s : Option SP) : Option XI := match s with
  | none => some (0, 0, 0)
  | some s => sp_x G L en e s
def mt_x (G : Nat → Option CT) (L : List (Nat × XV)) (en : List XI) (e : XE) (l : MT) : Option (List (Int × XI)) := match l with
  | [] => some []
  | q :: t => match mo_x G L en e q.2, mt_x G L en e t with
    | some x, some u => some ((q.1, x) :: u)
    | _, _ => none
def lm_g (r : RN) (l : List (Int × XI)) : Prop := ∀ q ∈ l, q.2.2.1 < r.2
theorem lm_g_mono {r r' : RN} (h : rn_le r r') {l : List (Int × XI)} (hl : lm_g r l) : lm_g r' l := fun q hq => Nat.lt_of_lt_of_le (hl q hq) h.1
theorem lm_z_mono {r r' : RN} (h : rn_le r r') : ∀ {l : List (Int × XI)}, lm_g r l → ln_z r' l = ln_z r l
  | [], _ => rfl
  | q :: t, hl => by
    show q.1 * xi_z r' q.2 + ln_z r' t = q.1 * xi_z r q.2 + ln_z r t
    rw [lm_z_mono h (fun p hp => hl p (List.mem_cons_of_mem _ hp)), xi_z, xi_z, h.2 _ (hl q List.mem_cons_self)]
section MT
variable {r : RN} {GF : GH} {G : Nat → Option CT} {L : List (Nat × XV)} {cl : List (Nat × AV)} {en : List XI} {EV : List Int} {e : XE} {C : List AC}
theorem mt_x_ok (he : xe_g r e) (hl : xl_g r L cl) (hn : en_g r en EV) (hh : xh_g r G e C) (hg : gh_g r GF e C) : ∀ {l : MT} {u : List (Int × XI)}, mt_x G L en e l = some u → lm_g r u ∧ ∀ z, mt_g GF cl EV C l z ↔ z = ln_z r u
  | [], u, h => by cases h; exact ⟨(fun q hq => nomatch hq), (fun z => Iff.rfl)⟩
  | q :: t, u, h => by
    unfold mt_x at h
    split at h
    · rename_i x u' h1 h2
      cases h
      obtain ⟨b1, b2⟩ := mt_x_ok he hl hn hh hg h2
      have key : x.2.1 < r.2 ∧ ∀ z, mo_g GF cl EV C q.2 z ↔ z = xi_z r x := by
        cases hq : q.2 with
        | none =>
          rw [hq] at h1
          cases h1
          refine ⟨he.1, fun z => ?_⟩
          have h0 : xi_z r (0, 0, 0) = 0 := by rw [xi_z]; dsimp only; omega
          rw [h0]
          exact Iff.rfl
        | some s =>
          rw [hq] at h1
          obtain ⟨a1, a2⟩ := sp_x_ok hl hn hh hg (show sp_x G L en e s = some x from h1)
          exact ⟨a1, fun z => ⟨fun hz => sp_one (show sp_g GF cl EV C s z from hz) a2, fun hz => by rw [hz]; exact a2⟩⟩
      refine ⟨fun p hp => ?_, fun z => ⟨fun ⟨z1, z2, g1, g2, g3⟩ => ?_, fun hz => ⟨_, _, (key.2 _).mpr rfl, (b2 _).mpr rfl, hz⟩⟩⟩
      · rcases List.mem_cons.mp hp with rfl | hp
        · exact key.1
        · exact b1 p hp
      · show z = q.1 * xi_z r x + ln_z r u'
        rw [← (key.2 _).mp g1, ← (b2 _).mp g2]
        exact g3
    · cases h
def lm_d (e : XE) (l l' : List (Int × XI)) : Option Int := match l, l' with
  | [], [] => some 0
  | q :: t, q' :: t' => if q.1 = q'.1 then (match (if 0 ≤ q.1 then xd_u e q.2 q'.2 else xd_u e q'.2 q.2), lm_d e t t' with
      | some u, some d => some ((if 0 ≤ q.1 then q.1 * u else (-q.1) * u) + d)
      | _, _ => none)
    else none
  | _, _ => none
theorem lm_d_ok (he : xe_g r e) : ∀ {l l' : List (Int × XI)} {d : Int}, lm_d e l l' = some d → ln_z r l - ln_z r l' ≤ d
  | [], [], d, h => by cases h; exact Int.le_refl _
  | q :: t, q' :: t', d, h => by
    unfold lm_d at h
    split at h
    · rename_i hc
      split at h
      · rename_i u d0 hu h0
        cases h
        have ih := lm_d_ok he h0
        show q.1 * xi_z r q.2 + ln_z r t - (q'.1 * xi_z r q'.2 + ln_z r t') ≤ _
        rw [← hc]
        by_cases hp : 0 ≤ q.1
        · rw [if_pos hp] at hu ⊢
          have m := Int.mul_le_mul_of_nonneg_left (xd_u_ok he hu) hp
          rw [Int.mul_sub] at m
          omega
        · rw [if_neg hp] at hu ⊢
          have m := Int.mul_le_mul_of_nonneg_left (xd_u_ok he hu) (show 0 ≤ -q.1 by omega)
          rw [Int.mul_sub, Int.neg_mul, Int.neg_mul] at m
          omega
      · cases h
    · cases h
  | [], _ :: _, d, h => by cases h
  | _ :: _, [], d, h => by cases h
def lm_h (e : XE) (l : List (Int × XI)) : Option Int := match l with
  | [] => some 0
  | q :: t => match xi_bo e.2.1 q.2, lm_h e t with
    | some b, some d => some ((if 0 ≤ q.1 then q.1 * b.2 else q.1 * b.1) + d)
    | _, _ => none
theorem lm_h_ok (he : xe_g r e) : ∀ {l : List (Int × XI)} {d : Int}, lm_h e l = some d → ln_z r l ≤ d
  | [], d, h => by cases h; exact Int.le_refl _
  | q :: t, d, h => by
    unfold lm_h at h
    split at h
    · rename_i b d0 hb h0
      cases h
      have ih := lm_h_ok he h0
      have w := xi_bo_ok he hb
      show q.1 * xi_z r q.2 + ln_z r t ≤ _
      split
      · rename_i hp
        have m := Int.mul_le_mul_of_nonneg_left w.2 hp
        omega
      · rename_i hp
        have m := Int.mul_le_mul_of_nonneg_left w.1 (show 0 ≤ -q.1 by omega)
        rw [Int.neg_mul, Int.neg_mul] at m
        omega
    · cases h
def st2_g (r : RN) (st : Option (Int × List (Int × XI))) (Q : Int → Prop) : Prop := match st with
  | none => ∀ z, 0 ≤ z → Q z
  | some q => lm_g r q.2 ∧ ∀ z, 0 ≤ z → z < q.1 - ln_z r q.2 → Q z
theorem st2_g_mono {r r' : RN} (h : rn_le r r') {st : Option (Int × List (Int × XI))} {Q : Int → Prop} (hs : st2_g r st Q) : st2_g r' st Q := by
  cases st with
  | none => exact hs
  | some q =>
    obtain ⟨h1, h2⟩ := hs
    refine ⟨lm_g_mono h h1, fun z hz hlt => h2 z hz ?_⟩
    rw [lm_z_mono h h1] at hlt
    exact hlt
def mt_ok (e : XE) (c : Int) (l : List (Int × XI)) (st : Option (Int × List (Int × XI))) : Bool := (match lm_h e l with
  | some d => decide (d ≤ c)
  | none => false) && match st with
  | none => true
  | some q => match lm_d e q.2 l with
    | some d => decide (c - q.1 + d ≤ -1)
    | none => false
theorem mt_ok_ok (he : xe_g r e) {c : Int} {l : List (Int × XI)} {st : Option (Int × List (Int × XI))} {Q : Int → Prop} (hs : st2_g r st Q) (h : mt_ok e c l st = true) : Q (c - ln_z r l) := by
  unfold mt_ok at h
  simp only [Bool.and_eq_true] at h
  obtain ⟨h1, h2⟩ := h
  have low : 0 ≤ c - ln_z r l := by
    split at h1
    · rename_i d hd
      have := lm_h_ok he hd
      simp only [decide_eq_true_eq] at h1
      omega
    · cases h1
  cases st with
  | none => exact hs _ low
  | some q =>
    dsimp only at h2
    split at h2
    · rename_i d hd
      have := lm_d_ok he hd
      simp only [decide_eq_true_eq] at h2
      exact hs.2 _ low (by omega)
    · cases h2
/-- heads of loops: kinds of locals, places, relations, a number that goes down -/
abbrev HX : Type := List (Nat × AT) × List PB × List RL × Int × MT
def hx_g (GF : GH) (G : Nat → Option CT) (h : HX) (EV : List Int) (cl : List (Nat × AV)) (C : List AC) : Prop := xI G C ∧ (∀ q ∈ h.1, ∃ v, ea_lk cl q.1 = some v ∧ at_g q.2 v) ∧ (∃ NV, pb_g GF C h.2.1 NV) ∧ rl_g GF cl EV C h.2.2.1
def hx_at (G : Nat → Option CT) (en : List XI) (h : HX) (st : Option (Int × List (Int × XI))) (L : List (Nat × XV)) (S : List XV) (e : XE) : Bool := match S with
  | [] => xi_al2 G e && (ha_l L e h.1 && (pb_c G e h.2.1 && (rl_c G L en e h.2.2.1 && match mt_x G L en e h.2.2.2.2 with
    | some l => mt_ok e h.2.2.2.1 l st
    | none => false)))
  | _ => false
theorem hx_at_ok (h9 : ∀ b, 999 ≤ b → G b = none) {h : HX} {st : Option (Int × List (Int × XI))} {S : List XV} {cs : List AV} {Q : Int → Prop} (he : xe_g r e) (hl : xl_g r L cl) (hs : xs_g r S cs) (hn : en_g r en EV) (hh : xh_g r G e C) (hg : gh_g r GF e C) (hst : st2_g r st Q) (h1 : hx_at G en h st L S e = true) : cs = [] ∧ hx_g GF G h EV cl C ∧ ∃ z, mt_g GF cl EV C h.2.2.2.2 z ∧ Q (h.2.2.2.1 - z) := by
  unfold hx_at at h1
  split at h1
  · simp only [Bool.and_eq_true] at h1
    obtain ⟨g1, g2, g3, g4, g5⟩ := h1
    refine ⟨ea_rl_nil hs, ⟨xI_of2 h9 he hh g1, ha_l_ok he hl g2, pb_c_ok he hh hg g3, rl_c_ok he hl hn hh hg g4⟩, ?_⟩
    split at g5
    · rename_i l hm
      obtain ⟨k1, k2⟩ := mt_x_ok he hl hn hh hg hm
      exact ⟨_, (k2 _).mpr rfl, mt_ok_ok he hst g5⟩
    · cases g5
  · cases h1
end MT
