/-! THE CHECKER, its walk -/
def fZ {α : Type} (z : Int) (k : Int → α) : α := match z with
  | .ofNat n => ea_fn n (fun n => k (.ofNat n))
  | .negSucc n => ea_fn n (fun n => k (.negSucc n))
theorem fZ_eq {α : Type} (z : Int) (k : Int → α) : fZ z k = k z := by
  cases z with
  | ofNat n => unfold fZ; exact ea_fn_eq n (fun n => k (.ofNat n))
  | negSucc n => unfold fZ; exact ea_fn_eq n (fun n => k (.negSucc n))
def fX {α : Type} (i : XI) (k : XI → α) : α := fZ i.1 fun a => ea_fn i.2.1 fun b => fZ i.2.2 fun c => k (a, b, c)
theorem fX_eq {α : Type} (i : XI) (k : XI → α) : fX i k = k i := by rw [fX, fZ_eq, ea_fn_eq, fZ_eq]
def fS {α : Type} (S : List XV) (k : List XV → α) : α := match S with
  | .inl i :: t => fX i (fun i => k (.inl i :: t))
  | S => k S
theorem fS_eq {α : Type} (S : List XV) (k : List XV → α) : fS S k = k S := by
  unfold fS
  split
  · rw [fX_eq]
  · rfl
def fL {α : Type} (L : List (Nat × XV)) (k : List (Nat × XV) → α) : α := match L with
  | (n, .inl i) :: t => fX i (fun i => ea_fL t fun t => k ((n, .inl i) :: t))
  | L => k L
theorem fL_eq {α : Type} (L : List (Nat × XV)) (k : List (Nat × XV) → α) : fL L k = k L := by
  unfold fL
  split
  · rw [fX_eq, ea_fL_eq]
  · rfl
def fB {α : Type} (E : List (Nat × Int × Int)) (k : List (Nat × Int × Int) → α) : α := match E with
  | q :: t => ea_fn q.1 fun a => fZ q.2.1 fun lo => fZ q.2.2 fun hi => k ((a, lo, hi) :: t)
  | [] => k []
theorem fB_eq {α : Type} (E : List (Nat × Int × Int)) (k : List (Nat × Int × Int) → α) : fB E k = k E := by
  cases E with
  | nil => rfl
  | cons q t => unfold fB; dsimp only; rw [ea_fn_eq, fZ_eq, fZ_eq]
def fD {α : Type} (E : List (Nat × Nat × Int)) (k : List (Nat × Nat × Int) → α) : α := match E with
  | q :: t => ea_fn q.1 fun a => ea_fn q.2.1 fun lo => fZ q.2.2 fun hi => k ((a, lo, hi) :: t)
  | [] => k []
theorem fD_eq {α : Type} (E : List (Nat × Nat × Int)) (k : List (Nat × Nat × Int) → α) : fD E k = k E := by
  cases E with
  | nil => rfl
  | cons q t => unfold fD; dsimp only; rw [ea_fn_eq, ea_fn_eq, fZ_eq]
def fR {α : Type} (R : List (Nat × XI × XI)) (k : List (Nat × XI × XI) → α) : α := match R with
  | q :: t => ea_fn q.1 fun a => fX q.2.1 fun i => fX q.2.2 fun x => k ((a, i, x) :: t)
  | [] => k []
theorem fR_eq {α : Type} (R : List (Nat × XI × XI)) (k : List (Nat × XI × XI) → α) : fR R k = k R := by
  cases R with
  | nil => rfl
  | cons q t => unfold fR; dsimp only; rw [ea_fn_eq, fX_eq, fX_eq]
def fO {α : Type} (O : List (Nat × Nat × XI)) (k : List (Nat × Nat × XI) → α) : α := match O with
  | q :: t => ea_fn q.1 fun a => ea_fn q.2.1 fun i => fX q.2.2 fun x => k ((a, i, x) :: t)
  | [] => k []
theorem fO_eq {α : Type} (O : List (Nat × Nat × XI)) (k : List (Nat × Nat × XI) → α) : fO O k = k O := by
  cases O with
  | nil => rfl
  | cons q t => unfold fO; dsimp only; rw [ea_fn_eq, ea_fn_eq, fX_eq]
def fE {α : Type} (e : XE) (k : XE → α) : α := ea_fn e.1 fun n => fB e.2.1 fun E => fD e.2.2.1 fun D => fR e.2.2.2.1 fun R => fO e.2.2.2.2 fun O => k (n, E, D, R, O)
theorem fE_eq {α : Type} (e : XE) (k : XE → α) : fE e k = k e := by rw [fE, ea_fn_eq, fB_eq, fD_eq, fR_eq, fO_eq]
/-- what a method gives at its end -/
def xs_rt (t : Nat) (i : Instr) (S : List XV) (e : XE) : Option (Option XV) := match i, S with
  | .ireturn, [.inl a] => match t with
    | 1 => some (some (.inl a))
    | 3 => if 0 ≤ (xi_b e.2.1 a).1 ∧ (xi_b e.2.1 a).2 ≤ 1 then some (some (.inl a)) else none
    | 4 => if 0 ≤ (xi_b e.2.1 a).1 ∧ (xi_b e.2.1 a).2 ≤ 65535 then some (some (.inl a)) else none
    | 5 => if -128 ≤ (xi_b e.2.1 a).1 ∧ (xi_b e.2.1 a).2 ≤ 127 then some (some (.inl a)) else none
    | _ => none
  | .lreturn, [.inr (.inr 0)] => match t with
    | 2 => some (some (.inr (.inr 0)))
    | _ => none
  | .return_, [] => match t with
    | 0 => some none
    | _ => none
  | _, _ => none
def xs_ov (r : RN) (a : Option XV) (v : Option AV) : Prop := match a with
  | none => v = none
  | some a => ∃ u, v = some u ∧ xv_g r a u
theorem xs_rt_ok {r : RN} {e : XE} {t : Nat} {i : Instr} {S : List XV} {cs : List AV} {a : Option XV} (he : xe_g r e) (hs : xs_g r S cs) (h : xs_rt t i S e = some a) : ∃ v, ea_rt t i cs = some v ∧ xs_ov r a v ∧ (∀ pc nL cl, ea_p i pc nL cl cs = none) ∧ (∀ ini pl fty scr pc C, ea_h ini pl fty scr i pc cs C = none) := by
  unfold xs_rt at h
  split at h
  · rename_i b
    obtain ⟨_, _, rfl, ⟨x, rfl, hx⟩, hs1⟩ := xs_pop hs
    obtain rfl := ea_rl_nil hs1
    split at h
    · cases h
      exact ⟨_, rfl, ⟨_, rfl, xv_gi hx⟩, fun _ _ _ => rfl, fun _ _ _ _ _ _ => rfl⟩
    · split at h
      · rename_i h01
        cases h
        refine ⟨some (.inl (.inl x)), ?_, ⟨_, rfl, xv_gi hx⟩, fun _ _ _ => rfl, fun _ _ _ _ _ _ => rfl⟩
        unfold ea_rt
        dsimp only
        rw [xs_01 he hx h01]
        rfl
      · cases h
    · split at h
      · rename_i h01
        cases h
        have b := xi_b_ok he hx
        refine ⟨some (.inl (.inl x)), ?_, ⟨_, rfl, xv_gi hx⟩, fun _ _ _ => rfl, fun _ _ _ _ _ _ => rfl⟩
        unfold ea_rt
        dsimp only
        rw [if_pos (ch_fit (by omega) (by omega))]
        rfl
      · cases h
    · split at h
      · rename_i h01
        cases h
        have b := xi_b_ok he hx
        refine ⟨some (.inl (.inl x)), ?_, ⟨_, rfl, xv_gi hx⟩, fun _ _ _ => rfl, fun _ _ _ _ _ _ => rfl⟩
        unfold ea_rt
        dsimp only
        rw [if_pos (by_fit (by omega) (by omega))]
        rfl
      · cases h
    · cases h
  · obtain ⟨_, _, rfl, ⟨y, rfl⟩, hs1⟩ := xs_pop hs
    obtain rfl := ea_rl_nil hs1
    split at h
    · cases h
      exact ⟨_, rfl, ⟨_, rfl, xv_gl r y⟩, fun _ _ _ => rfl, fun _ _ _ _ _ _ => rfl⟩
    · cases h
  · obtain rfl := ea_rl_nil hs
    split at h
    · cases h
      exact ⟨none, rfl, rfl, fun _ _ _ => rfl, fun _ _ _ _ _ _ => rfl⟩
    · cases h
  · cases h
/-- within what a contract says -/
def xs_fit (e : XE) (t : Nat × Int × Int) (a : Option XV) : Bool := match t.1, a with
  | 0, none => true
  | 1, some (.inl i) => decide (t.2.1 ≤ (xi_b e.2.1 i).1) && decide ((xi_b e.2.1 i).2 ≤ t.2.2)
  | _ + 2, some (.inr (.inr 0)) => true
  | _, _ => false
theorem xs_fit_ok {r : RN} {e : XE} (he : xe_g r e) {t : Nat × Int × Int} {a : Option XV} {v : Option AV} (h : xs_fit e t a = true) (hv : xs_ov r a v) : rt_g t v := by
  obtain ⟨t1, lo, hi⟩ := t
  unfold xs_fit at h
  dsimp only at h
  split at h
  · exact hv
  · rename_i i
    obtain ⟨u, rfl, x, rfl, hx⟩ := hv
    simp only [Bool.and_eq_true, decide_eq_true_eq] at h
    have b := xi_b_ok he hx
    exact ⟨x, rfl, by dsimp only; omega, by dsimp only; omega⟩
  · obtain ⟨u, rfl, y, rfl⟩ := hv
    exact ⟨y, rfl⟩
  · cases h
/-- heads of loops: kinds of locals, bounds of fields, and a number that goes down: a number less so many times locals, fields -/
abbrev SR : Type := Nat ⊕ Option (Nat × Nat)
abbrev HA : Type := List (Nat × AT) × List (Nat × Nat × Int × Int) × Int × List (Int × SR)
def sr_g (cl : List (Nat × AV)) (C : List AC) (s : SR) (z : Int) : Prop := match s with
  | .inl k => ∃ x : Int32, ea_lk cl k = some (.inl (.inl x)) ∧ x.toInt = z
  | .inr (some q) => ∃ x : Int32, fd_g C q.1 q.2 x ∧ x.toInt = z
  | .inr none => z = 0
def ms_g (cl : List (Nat × AV)) (C : List AC) (l : List (Int × SR)) (z : Int) : Prop := match l with
  | [] => z = 0
  | q :: t => ∃ z1 z2, sr_g cl C q.2 z1 ∧ ms_g cl C t z2 ∧ z = q.1 * z1 + z2
def ha_g (G : Nat → Option CT) (h : HA) (cl : List (Nat × AV)) (C : List AC) : Prop := xI G C ∧ (∀ q ∈ h.1, ∃ v, ea_lk cl q.1 = some v ∧ at_g q.2 v) ∧ ∀ q ∈ h.2.1, ∃ x : Int32, fd_g C q.1 q.2.1 x ∧ q.2.2.1 ≤ x.toInt ∧ x.toInt ≤ q.2.2.2
/-- a field that is known -/
def xf_k (G : Nat → Option CT) (e : XE) (a k : Nat) : Option XI := match G a with
  | some (.inl (_, fs)) => bif Nat.blt k fs.length then xo_k e.2.2.2.2 a k else none
  | _ => none
theorem xf_k_ok {r : RN} {G : Nat → Option CT} {e : XE} {C : List AC} (hh : xh_g r G e C) {a k : Nat} {x : XI} (h : xf_k G e a k = some x) : ∃ y : Int32, fd_g C a k y ∧ xi_g r x y := by
  unfold xf_k at h
  split at h
  · rename_i ci fs hG
    cases hb : Nat.blt k fs.length with
    | false => rw [hb] at h; cases h
    | true =>
      rw [hb] at h
      simp only [cond_true] at h
      obtain ⟨vs, g1, g2, g3⟩ := hh.1 a ci fs hG
      obtain ⟨f0, hf0⟩ := nt_some (blt_lt hb)
      obtain ⟨v, j1, j2⟩ := g3 k f0 hf0
      rw [h] at j2
      obtain ⟨y, rfl, hy⟩ : ∃ y : Int32, v = .inl (.inl y) ∧ xi_g r x y := j2
      exact ⟨y, ⟨ci, vs, g1, j1⟩, hy⟩
  · cases h
def sr_x (G : Nat → Option CT) (L : List (Nat × XV)) (e : XE) (s : SR) : Option XI := match s with
  | .inl k => match xl_k L k with
    | some (.inl a) => some a
    | _ => none
  | .inr (some q) => xf_k G e q.1 q.2
  | .inr none => some (0, 0, 0)
theorem sr_x_ok {r : RN} {G : Nat → Option CT} {L : List (Nat × XV)} {cl : List (Nat × AV)} {e : XE} {C : List AC} (he : xe_g r e) (hl : xl_g r L cl) (hh : xh_g r G e C) {s : SR} {x : XI} (h : sr_x G L e s = some x) : (∃ y : Int32, xi_g r x y) ∧ ∀ z, sr_g cl C s z ↔ z = xi_z r x := by
  match s, h with
  | .inl k, h =>
    unfold sr_x at h
    dsimp only at h
    split at h
    · rename_i a ha
      cases h
      obtain ⟨v, h1, y, rfl, hy⟩ := xl_k_ok hl ha
      refine ⟨⟨y, hy⟩, fun z => ⟨fun ⟨y', g1, g2⟩ => ?_, fun hz => ⟨y, h1, by rw [hy.2, hz]⟩⟩⟩
      rw [h1] at g1
      cases g1
      rw [← g2, hy.2]
    · cases h
  | .inr (some q), h =>
    obtain ⟨y, h1, hy⟩ := xf_k_ok hh (show xf_k G e q.1 q.2 = some x from h)
    refine ⟨⟨y, hy⟩, fun z => ⟨fun ⟨y', g1, g2⟩ => ?_, fun hz => ⟨y, h1, by rw [hy.2, hz]⟩⟩⟩
    rw [← g2, ← fd_one h1 g1, hy.2]
  | .inr none, h =>
    cases h
    have h0 : xi_z r (0, 0, 0) = 0 := by rw [xi_z]; dsimp only; omega
    refine ⟨⟨0, xi_c he 0⟩, fun z => ?_⟩
    rw [h0]
    exact Iff.rfl
def ms_x (G : Nat → Option CT) (L : List (Nat × XV)) (e : XE) (l : List (Int × SR)) : Option (List (Int × XI)) := match l with
  | [] => some []
  | q :: t => match sr_x G L e q.2, ms_x G L e t with
    | some x, some u => some ((q.1, x) :: u)
    | _, _ => none
def ln_z (r : RN) (l : List (Int × XI)) : Int := match l with
  | [] => 0
  | q :: t => q.1 * xi_z r q.2 + ln_z r t
def ln_g (r : RN) (l : List (Int × XI)) : Prop := ∀ q ∈ l, ∃ x : Int32, xi_g r q.2 x
theorem ln_g_mono {r r' : RN} (h : rn_le r r') {l : List (Int × XI)} (hl : ln_g r l) : ln_g r' l := fun q hq => by
  obtain ⟨x, hx⟩ := hl q hq
  exact ⟨x, xi_g_mono h hx⟩
theorem ln_z_mono {r r' : RN} (h : rn_le r r') : ∀ {l : List (Int × XI)}, ln_g r l → ln_z r' l = ln_z r l
  | [], _ => rfl
  | q :: t, hl => by
    obtain ⟨x, hx⟩ := hl q List.mem_cons_self
    have h1 := hx.2
    have h2 := (xi_g_mono h hx).2
    show q.1 * xi_z r' q.2 + ln_z r' t = q.1 * xi_z r q.2 + ln_z r t
    rw [ln_z_mono h (fun p hp => hl p (List.mem_cons_of_mem _ hp)), ← h1, ← h2]
theorem ms_x_ok {r : RN} {G : Nat → Option CT} {L : List (Nat × XV)} {cl : List (Nat × AV)} {e : XE} {C : List AC} (he : xe_g r e) (hl : xl_g r L cl) (hh : xh_g r G e C) : ∀ {l : List (Int × SR)} {u : List (Int × XI)}, ms_x G L e l = some u → ln_g r u ∧ ∀ z, ms_g cl C l z ↔ z = ln_z r u
  | [], u, h => by cases h; exact ⟨(fun q hq => nomatch hq), (fun z => Iff.rfl)⟩
  | q :: t, u, h => by
    unfold ms_x at h
    split at h
    · rename_i x u' h1 h2
      cases h
      obtain ⟨a1, a2⟩ := sr_x_ok he hl hh h1
      obtain ⟨b1, b2⟩ := ms_x_ok he hl hh h2
      refine ⟨fun p hp => ?_, fun z => ⟨fun ⟨z1, z2, g1, g2, g3⟩ => ?_, fun hz => ⟨_, _, (a2 _).mpr rfl, (b2 _).mpr rfl, hz⟩⟩⟩
      · rcases List.mem_cons.mp hp with rfl | hp
        · exact a1
        · exact b1 p hp
      · show z = q.1 * xi_z r x + ln_z r u'
        rw [← (a2 _).mp g1, ← (b2 _).mp g2]
        exact g3
    · cases h
/-- at most so much is the one sum above the other -/
def ln_d (e : XE) (l l' : List (Int × XI)) : Option Int := match l, l' with
  | [], [] => some 0
  | q :: t, q' :: t' => if q.1 = q'.1 ∧ 0 ≤ q.1 then match ln_d e t t' with
      | some d => some (q.1 * xi_du e q.2 q'.2 + d)
      | none => none
    else none
  | _, _ => none
theorem ln_d_ok {r : RN} {e : XE} (he : xe_g r e) : ∀ {l l' : List (Int × XI)} {d : Int}, ln_d e l l' = some d → ln_g r l → ln_g r l' → ln_z r l - ln_z r l' ≤ d
  | [], [], d, h, _, _ => by cases h; exact Int.le_refl _
  | q :: t, q' :: t', d, h, hl, hl' => by
    unfold ln_d at h
    split at h
    · rename_i hc
      split at h
      · rename_i d0 h0
        cases h
        have ih := ln_d_ok he h0 (fun p hp => hl p (List.mem_cons_of_mem _ hp)) (fun p hp => hl' p (List.mem_cons_of_mem _ hp))
        obtain ⟨x, hx⟩ := hl q List.mem_cons_self
        obtain ⟨y, hy⟩ := hl' q' List.mem_cons_self
        have du := xi_du_ok he hx hy
        have m := Int.mul_le_mul_of_nonneg_left du hc.2
        rw [Int.mul_sub] at m
        show q.1 * xi_z r q.2 + ln_z r t - (q'.1 * xi_z r q'.2 + ln_z r t') ≤ _
        rw [← hc.1, ← hx.2, ← hy.2]
        omega
      · cases h
    · cases h
  | [], _ :: _, d, h, _, _ => by cases h
  | _ :: _, [], d, h, _, _ => by cases h
def ln_h (e : XE) (l : List (Int × XI)) : Option Int := match l with
  | [] => some 0
  | q :: t => if 0 ≤ q.1 then match ln_h e t with
      | some d => some (q.1 * (xi_b e.2.1 q.2).2 + d)
      | none => none
    else none
theorem ln_h_ok {r : RN} {e : XE} (he : xe_g r e) : ∀ {l : List (Int × XI)} {d : Int}, ln_h e l = some d → ln_g r l → ln_z r l ≤ d
  | [], d, h, _ => by cases h; exact Int.le_refl _
  | q :: t, d, h, hl => by
    unfold ln_h at h
    split at h
    · rename_i hc
      split at h
      · rename_i d0 h0
        cases h
        have ih := ln_h_ok he h0 (fun p hp => hl p (List.mem_cons_of_mem _ hp))
        obtain ⟨x, hx⟩ := hl q List.mem_cons_self
        have b := (xi_b_ok he hx).2
        have m := Int.mul_le_mul_of_nonneg_left b hc
        show q.1 * xi_z r q.2 + ln_z r t ≤ _
        rw [← hx.2]
        omega
      · cases h
    · cases h
/-- from where one came: the number there -/
def st_g (r : RN) (st : Option (Int × List (Int × XI))) (Q : Int → Prop) : Prop := match st with
  | none => ∀ z, 0 ≤ z → Q z
  | some q => ln_g r q.2 ∧ ∀ z, 0 ≤ z → z < q.1 - ln_z r q.2 → Q z
theorem st_g_mono {r r' : RN} (h : rn_le r r') {st : Option (Int × List (Int × XI))} {Q : Int → Prop} (hs : st_g r st Q) : st_g r' st Q := by
  cases st with
  | none => exact hs
  | some q =>
    obtain ⟨h1, h2⟩ := hs
    refine ⟨ln_g_mono h h1, fun z hz hlt => h2 z hz ?_⟩
    rw [ln_z_mono h h1] at hlt
    exact hlt
def ms_ok (e : XE) (c : Int) (l : List (Int × XI)) (st : Option (Int × List (Int × XI))) : Bool := (match ln_h e l with
  | some d => decide (d ≤ c)
  | none => false) && match st with
  | none => true
  | some q => match ln_d e q.2 l with
    | some d => decide (c - q.1 + d ≤ -1)
    | none => false
theorem ms_ok_ok {r : RN} {e : XE} (he : xe_g r e) {c : Int} {l : List (Int × XI)} {st : Option (Int × List (Int × XI))} {Q : Int → Prop} (hl : ln_g r l) (hs : st_g r st Q) (h : ms_ok e c l st = true) : Q (c - ln_z r l) := by
  unfold ms_ok at h
  simp only [Bool.and_eq_true] at h
  obtain ⟨h1, h2⟩ := h
  have low : 0 ≤ c - ln_z r l := by
    split at h1
    · rename_i d hd
      have := ln_h_ok he hd hl
      simp only [decide_eq_true_eq] at h1
      omega
    · cases h1
  cases st with
  | none => exact hs _ low
  | some q =>
    dsimp only at h2
    split at h2
    · rename_i d hd
      have := ln_d_ok he hd hs.1 hl
      simp only [decide_eq_true_eq] at h2
      exact hs.2 _ low (by omega)
    · cases h2
/-- an arrival at a head -/
def ha_l (L : List (Nat × XV)) (e : XE) (l : List (Nat × AT)) : Bool := match l with
  | [] => true
  | q :: t => (match xl_k L q.1 with
    | some a => xa_fit e a q.2
    | none => false) && ha_l L e t
def ha_f (G : Nat → Option CT) (e : XE) (l : List (Nat × Nat × Int × Int)) : Bool := match l with
  | [] => true
  | q :: t => (match xf_k G e q.1 q.2.1 with
    | some x => decide (q.2.2.1 ≤ (xi_b e.2.1 x).1) && decide ((xi_b e.2.1 x).2 ≤ q.2.2.2)
    | none => false) && ha_f G e t
theorem ha_l_ok {r : RN} {L : List (Nat × XV)} {cl : List (Nat × AV)} {e : XE} (he : xe_g r e) (hl : xl_g r L cl) : ∀ {l : List (Nat × AT)}, ha_l L e l = true → ∀ q ∈ l, ∃ v, ea_lk cl q.1 = some v ∧ at_g q.2 v
  | [], _, q, hq => nomatch hq
  | p :: t, h, q, hq => by
    unfold ha_l at h
    simp only [Bool.and_eq_true] at h
    rcases List.mem_cons.mp hq with rfl | hq
    · have h1 := h.1
      split at h1
      · rename_i a ha
        obtain ⟨v, g1, g2⟩ := xl_k_ok hl ha
        exact ⟨v, g1, xa_fit_ok he h1 g2⟩
      · cases h1
    · exact ha_l_ok he hl h.2 q hq
theorem ha_f_ok {r : RN} {G : Nat → Option CT} {e : XE} {C : List AC} (he : xe_g r e) (hh : xh_g r G e C) : ∀ {l : List (Nat × Nat × Int × Int)}, ha_f G e l = true → ∀ q ∈ l, ∃ x : Int32, fd_g C q.1 q.2.1 x ∧ q.2.2.1 ≤ x.toInt ∧ x.toInt ≤ q.2.2.2
  | [], _, q, hq => nomatch hq
  | p :: t, h, q, hq => by
    unfold ha_f at h
    simp only [Bool.and_eq_true] at h
    rcases List.mem_cons.mp hq with rfl | hq
    · have h1 := h.1
      split at h1
      · rename_i x hx
        obtain ⟨y, g1, g2⟩ := xf_k_ok hh hx
        simp only [Bool.and_eq_true, decide_eq_true_eq] at h1
        have b := xi_b_ok he g2
        exact ⟨y, g1, by omega, by omega⟩
      · cases h1
    · exact ha_f_ok he hh h.2 q hq
def ha_at (G : Nat → Option CT) (h : HA) (st : Option (Int × List (Int × XI))) (L : List (Nat × XV)) (S : List XV) (e : XE) : Bool := match S with
  | [] => xi_all G e && (ha_l L e h.1 && (ha_f G e h.2.1 && match ms_x G L e h.2.2.2 with
    | some l => ms_ok e h.2.2.1 l st
    | none => false))
  | _ => false
theorem ha_at_ok {r : RN} {G : Nat → Option CT} {h : HA} {st : Option (Int × List (Int × XI))} {L : List (Nat × XV)} {cl : List (Nat × AV)} {S : List XV} {cs : List AV} {e : XE} {C : List AC} {Q : Int → Prop} (he : xe_g r e) (hl : xl_g r L cl) (hs : xs_g r S cs) (hh : xh_g r G e C) (hst : st_g r st Q) (h1 : ha_at G h st L S e = true) : cs = [] ∧ ha_g G h cl C ∧ ∃ z, ms_g cl C h.2.2.2 z ∧ Q (h.2.2.1 - z) := by
  unfold ha_at at h1
  split at h1
  · simp only [Bool.and_eq_true] at h1
    obtain ⟨g1, g2, g3, g4⟩ := h1
    refine ⟨ea_rl_nil hs, ⟨xI_of he hh g1, ha_l_ok he hl g2, ha_f_ok he hh g3⟩, ?_⟩
    split at g4
    · rename_i l hm
      obtain ⟨k1, k2⟩ := ms_x_ok he hl hh hm
      exact ⟨_, (k2 _).mpr rfl, ms_ok_ok he k1 hst g4⟩
    · cases g4
  · cases h1
