/-! THE CHECKER, instructions that touch no cell and do not branch -/
def xl_g (r : RN) (L : List (Nat × XV)) (cl : List (Nat × AV)) : Prop := ∀ q ∈ L, ∃ v, ea_lk cl q.1 = some v ∧ xv_g r q.2 v
def xs_g (r : RN) (S : List XV) (cs : List AV) : Prop := ea_rl (xv_g r) S cs
theorem xl_g_mono {r r' : RN} (h : rn_le r r') {L : List (Nat × XV)} {cl : List (Nat × AV)} (hl : xl_g r L cl) : xl_g r' L cl := fun q hq => by
  obtain ⟨v, h1, h2⟩ := hl q hq
  exact ⟨v, h1, xv_g_mono h h2⟩
theorem xs_g_mono {r r' : RN} (h : rn_le r r') {S : List XV} {cs : List AV} (hs : xs_g r S cs) : xs_g r' S cs := ea_rl_mono (fun _ _ q => xv_g_mono h q) hs
def xl_k (L : List (Nat × XV)) (i : Nat) : Option XV := match L with
  | [] => none
  | q :: t => bif Nat.beq q.1 i then some q.2 else xl_k t i
theorem xl_k_mem : ∀ {L : List (Nat × XV)} {i : Nat} {a : XV}, xl_k L i = some a → (i, a) ∈ L
  | [], i, a, h => by cases h
  | p :: t, i, a, h => by
    unfold xl_k at h
    cases hb : Nat.beq p.1 i with
    | true =>
      rw [hb] at h
      cases h
      have e : p.1 = i := Nat.eq_of_beq_eq_true hb
      subst e
      exact List.mem_cons_self
    | false => rw [hb] at h; exact List.mem_cons_of_mem _ (xl_k_mem h)
theorem xl_k_ok {r : RN} {L : List (Nat × XV)} {cl : List (Nat × AV)} (hl : xl_g r L cl) {i : Nat} {a : XV} (h : xl_k L i = some a) : ∃ v, ea_lk cl i = some v ∧ xv_g r a v := hl _ (xl_k_mem h)
theorem lk_cons (cl : List (Nat × AV)) (i : Nat) (v : AV) (k : Nat) : ea_lk ((i, v) :: cl) k = if i = k then some v else ea_lk cl k := by
  show (bif Nat.beq i k then some v else ea_lk cl k) = _
  by_cases h : i = k
  · rw [if_pos h, h, Nat.beq_refl]; rfl
  · rw [if_neg h]
    cases hb : Nat.beq i k with
    | false => rfl
    | true => exact absurd (Nat.eq_of_beq_eq_true hb) h
theorem lk_filter {f : Nat × AV → Bool} : ∀ {cl : List (Nat × AV)} {k : Nat} {v : AV}, ea_lk cl k = some v → f (k, v) = true → ea_lk (cl.filter f) k = some v
  | [], k, v, h, _ => by cases h
  | (i, u) :: t, k, v, h, hf => by
    rw [lk_cons] at h
    by_cases hik : i = k
    · rw [if_pos hik] at h
      cases h
      subst hik
      rw [List.filter_cons, hf]
      simp only [if_true]
      rw [lk_cons, if_pos rfl]
    · rw [if_neg hik] at h
      have ih := lk_filter h hf
      rw [List.filter_cons]
      split
      · rw [lk_cons, if_neg hik]; exact ih
      · exact ih
def xl_s1 (L : List (Nat × XV)) (i : Nat) (a : XV) : List (Nat × XV) := (i, a) :: L.filter (fun q => !(q.1 == i) && !(q.1 + 1 == i && xv_cat q.2 == 2))
def xl_s2 (L : List (Nat × XV)) (i : Nat) (a : XV) : List (Nat × XV) := (i, a) :: L.filter (fun q => !(q.1 == i) && (!(q.1 == i + 1) && !(q.1 + 1 == i && xv_cat q.2 == 2)))
theorem xl_s1_ok {r : RN} {L : List (Nat × XV)} {cl : List (Nat × AV)} (hl : xl_g r L cl) (i : Nat) {a : XV} {v : AV} (hv : xv_g r a v) : xl_g r (xl_s1 L i a) (ea_s1 cl i v) := by
  intro q hq
  unfold ea_s1
  rw [lk_cons]
  rcases List.mem_cons.mp hq with rfl | hq
  · exact ⟨v, if_pos rfl, hv⟩
  · rw [List.mem_filter] at hq
    obtain ⟨u, h1, h2⟩ := hl q hq.1
    have hc := hq.2
    rw [← xv_g_cat h2] at hc
    have hne : ¬ i = q.1 := by
      rintro rfl
      simp at hc
    exact ⟨u, by rw [if_neg hne]; exact lk_filter h1 hc, h2⟩
theorem xl_s2_ok {r : RN} {L : List (Nat × XV)} {cl : List (Nat × AV)} (hl : xl_g r L cl) (i : Nat) {a : XV} {v : AV} (hv : xv_g r a v) : xl_g r (xl_s2 L i a) (ea_s2 cl i v) := by
  intro q hq
  unfold ea_s2
  rw [lk_cons]
  rcases List.mem_cons.mp hq with rfl | hq
  · exact ⟨v, if_pos rfl, hv⟩
  · rw [List.mem_filter] at hq
    obtain ⟨u, h1, h2⟩ := hl q hq.1
    have hc := hq.2
    rw [← xv_g_cat h2] at hc
    have hne : ¬ i = q.1 := by
      rintro rfl
      simp at hc
    exact ⟨u, by rw [if_neg hne]; exact lk_filter h1 hc, h2⟩
def xv_isr (a : XV) : Bool := match a with
  | .inr (.inl _) => true
  | .inr (.inr 1) => true
  | .inr (.inr 2) => true
  | .inr (.inr (_ + 4)) => true
  | _ => false
theorem xv_isr_ok {r : RN} {a : XV} {v : AV} (h : xv_isr a = true) (hv : xv_g r a v) : ea_isr v = true := by
  match a, h, hv with
  | .inr (.inl k), _, e => rw [show v = _ from e]; rfl
  | .inr (.inr 1), _, e => rw [show v = _ from e]; rfl
  | .inr (.inr 2), _, e => rw [show v = _ from e]; rfl
  | .inr (.inr (_ + 4)), _, e => rw [show v = _ from e]; rfl
theorem xs_cons {r : RN} {a : XV} {v : AV} {S : List XV} {t : List AV} (h1 : xv_g r a v) (h2 : xs_g r S t) : xs_g r (a :: S) (v :: t) := ⟨h1, h2⟩
theorem xv_gi {r : RN} {i : XI} {x : Int32} (h : xi_g r i x) : xv_g r (.inl i) (.inl (.inl x)) := ⟨x, rfl, h⟩
theorem xv_gl (r : RN) (y : Int64) : xv_g r (.inr (.inr 0)) (.inr (.inr (.inl (some y)))) := ⟨y, rfl⟩
abbrev XF : Type := Nat × List (Nat × XV) × List XV × XE
def xp_r (r : RN) (e : XE) (i : Instr) (pc nL : Nat) (cl : List (Nat × AV)) (cs : List AV) (f : XF) : Prop := ∃ r' cl' cs', rn_le r r' ∧ xe_g r' f.2.2.2 ∧ xl_g r' f.2.1 cl' ∧ xs_g r' f.2.2.1 cs' ∧ f.2.2.2.2.2.2 = e.2.2.2 ∧ ea_p i pc nL cl cs = some (f.1, cl', cs')
theorem xp_same {r : RN} {e : XE} {i : Instr} {pc nL : Nat} {cl cl' : List (Nat × AV)} {cs cs' : List AV} {pc' : Nat} {L' : List (Nat × XV)} {S' : List XV} (he : xe_g r e) (hl : xl_g r L' cl') (hs : xs_g r S' cs') (hp : ea_p i pc nL cl cs = some (pc', cl', cs')) : xp_r r e i pc nL cl cs (pc', L', S', e) := ⟨r, cl', cs', rn_le_rf r, he, hl, hs, rfl, hp⟩
theorem xp_push {r : RN} {e : XE} {i : Instr} {pc nL : Nat} {cl : List (Nat × AV)} {cs cs0 : List AV} {pc' : Nat} {L : List (Nat × XV)} {S0 : List XV} {p : XI × XE} {x : Int32} (hl : xl_g r L cl) (hs : xs_g r S0 cs0) (ho : xo_ok r e p x) (hp : ea_p i pc nL cl cs = some (pc', cl, .inl (.inl x) :: cs0)) : xp_r r e i pc nL cl cs (pc', L, .inl p.1 :: S0, p.2) := by
  obtain ⟨r', h1, h2, h3, h4⟩ := ho
  exact ⟨r', cl, _, h1, h2, xl_g_mono h1 hl, xs_cons (xv_gi h3) (xs_g_mono h1 hs), h4, hp⟩
theorem xs_pop {r : RN} {a : XV} {S : List XV} {cs : List AV} (h : xs_g r (a :: S) cs) : ∃ v t, cs = v :: t ∧ xv_g r a v ∧ xs_g r S t := ea_rl_cons h
/-- two ints give one -/
def xs_i2 (op : XE → XI → XI → XI × XE) (pc : Nat) (L : List (Nat × XV)) (S : List XV) (e : XE) : Option XF := match S with
  | .inl b :: .inl a :: S => some (pc + 1, L, .inl (op e a b).1 :: S, (op e a b).2)
  | _ => none
theorem xs_i2_ok {r : RN} {e : XE} {i : Instr} {pc nL : Nat} {cl : List (Nat × AV)} {cs : List AV} {L : List (Nat × XV)} {S : List XV} {f : XF} {op : XE → XI → XI → XI × XE} {fn : Int32 → Int32 → Int32} (hl : xl_g r L cl) (hs : xs_g r S cs) (h : xs_i2 op pc L S e = some f)
    (hop : ∀ a b x y, xi_g r a x → xi_g r b y → xo_ok r e (op e a b) (fn x y)) (hp : ∀ x y t, ea_p i pc nL cl (.inl (.inl y) :: .inl (.inl x) :: t) = some (pc + 1, cl, .inl (.inl (fn x y)) :: t)) : xp_r r e i pc nL cl cs f := by
  unfold xs_i2 at h
  split at h
  · cases h
    obtain ⟨_, _, rfl, ⟨y, rfl, hy⟩, hs1⟩ := xs_pop hs
    obtain ⟨_, _, rfl, ⟨x, rfl, hx⟩, hs2⟩ := xs_pop hs1
    exact xp_push hl hs2 (hop _ _ _ _ hx hy) (hp _ _ _)
  · cases h
/-- two longs give one -/
def xs_l2 (pc : Nat) (L : List (Nat × XV)) (S : List XV) (e : XE) : Option XF := match S with
  | .inr (.inr 0) :: .inr (.inr 0) :: S => some (pc + 1, L, .inr (.inr 0) :: S, e)
  | _ => none
theorem xs_l2_ok {r : RN} {e : XE} {i : Instr} {pc nL : Nat} {cl : List (Nat × AV)} {cs : List AV} {L : List (Nat × XV)} {S : List XV} {f : XF} (fn : Int64 → Int64 → Int64) (he : xe_g r e) (hl : xl_g r L cl) (hs : xs_g r S cs) (h : xs_l2 pc L S e = some f)
    (hp : ∀ x y t, ea_p i pc nL cl (.inr (.inr (.inl (some y))) :: .inr (.inr (.inl (some x))) :: t) = some (pc + 1, cl, .inr (.inr (.inl (some (fn x y)))) :: t)) : xp_r r e i pc nL cl cs f := by
  unfold xs_l2 at h
  split at h
  · cases h
    obtain ⟨_, _, rfl, ⟨y, rfl⟩, hs1⟩ := xs_pop hs
    obtain ⟨_, _, rfl, ⟨x, rfl⟩, hs2⟩ := xs_pop hs1
    exact xp_same he hl (xs_cons (xv_gl r _) hs2) (hp _ _ _)
  · cases h
/-- a long moved by an int -/
def xs_ls (pc : Nat) (L : List (Nat × XV)) (S : List XV) (e : XE) : Option XF := match S with
  | .inl _ :: .inr (.inr 0) :: S => some (pc + 1, L, .inr (.inr 0) :: S, e)
  | _ => none
theorem xs_ls_ok {r : RN} {e : XE} {i : Instr} {pc nL : Nat} {cl : List (Nat × AV)} {cs : List AV} {L : List (Nat × XV)} {S : List XV} {f : XF} (fn : Int64 → Int32 → Int64) (he : xe_g r e) (hl : xl_g r L cl) (hs : xs_g r S cs) (h : xs_ls pc L S e = some f)
    (hp : ∀ x y t, ea_p i pc nL cl (.inl (.inl y) :: .inr (.inr (.inl (some x))) :: t) = some (pc + 1, cl, .inr (.inr (.inl (some (fn x y)))) :: t)) : xp_r r e i pc nL cl cs f := by
  unfold xs_ls at h
  split at h
  · cases h
    obtain ⟨_, _, rfl, ⟨y, rfl, hy⟩, hs1⟩ := xs_pop hs
    obtain ⟨_, _, rfl, ⟨x, rfl⟩, hs2⟩ := xs_pop hs1
    exact xp_same he hl (xs_cons (xv_gl r _) hs2) (hp _ _ _)
  · cases h
def xs_ld (n pc k : Nat) (L : List (Nat × XV)) (S : List XV) (e : XE) : Option XF := match xl_k L k with
  | some (.inl a) => some (pc + n, L, .inl a :: S, e)
  | _ => none
theorem xs_ld_ok {r : RN} {e : XE} {i : Instr} {pc nL n k : Nat} {cl : List (Nat × AV)} {cs : List AV} {L : List (Nat × XV)} {S : List XV} {f : XF} (he : xe_g r e) (hl : xl_g r L cl) (hs : xs_g r S cs) (h : xs_ld n pc k L S e = some f)
    (hp : ∀ x, ea_lk cl k = some (.inl (.inl x)) → ea_p i pc nL cl cs = some (pc + n, cl, .inl (.inl x) :: cs)) : xp_r r e i pc nL cl cs f := by
  unfold xs_ld at h
  split at h
  · rename_i a ha
    cases h
    obtain ⟨v, h1, x, rfl, h2⟩ := xl_k_ok hl ha
    exact xp_same he hl (xs_cons (xv_gi h2) hs) (hp x h1)
  · cases h
def xs_ldl (n pc k : Nat) (L : List (Nat × XV)) (S : List XV) (e : XE) : Option XF := match xl_k L k with
  | some (.inr (.inr 0)) => some (pc + n, L, .inr (.inr 0) :: S, e)
  | _ => none
theorem xs_ldl_ok {r : RN} {e : XE} {i : Instr} {pc nL n k : Nat} {cl : List (Nat × AV)} {cs : List AV} {L : List (Nat × XV)} {S : List XV} {f : XF} (he : xe_g r e) (hl : xl_g r L cl) (hs : xs_g r S cs) (h : xs_ldl n pc k L S e = some f)
    (hp : ∀ x, ea_lk cl k = some (.inr (.inr (.inl (some x)))) → ea_p i pc nL cl cs = some (pc + n, cl, .inr (.inr (.inl (some x))) :: cs)) : xp_r r e i pc nL cl cs f := by
  unfold xs_ldl at h
  split at h
  · rename_i ha
    cases h
    obtain ⟨v, h1, x, rfl⟩ := xl_k_ok hl ha
    exact xp_same he hl (xs_cons (xv_gl r x) hs) (hp x h1)
  · cases h
def xs_lda (n pc k : Nat) (L : List (Nat × XV)) (S : List XV) (e : XE) : Option XF := match xl_k L k with
  | some a => bif xv_isr a then some (pc + n, L, a :: S, e) else none
  | _ => none
theorem xs_lda_ok {r : RN} {e : XE} {i : Instr} {pc nL n k : Nat} {cl : List (Nat × AV)} {cs : List AV} {L : List (Nat × XV)} {S : List XV} {f : XF} (he : xe_g r e) (hl : xl_g r L cl) (hs : xs_g r S cs) (h : xs_lda n pc k L S e = some f)
    (hp : ∀ v, ea_lk cl k = some v → ea_isr v = true → ea_p i pc nL cl cs = some (pc + n, cl, v :: cs)) : xp_r r e i pc nL cl cs f := by
  unfold xs_lda at h
  split at h
  · rename_i a ha
    cases hb : xv_isr a with
    | false => rw [hb] at h; cases h
    | true =>
      rw [hb] at h
      cases h
      obtain ⟨v, h1, h2⟩ := xl_k_ok hl ha
      exact xp_same he hl (xs_cons h2 hs) (hp v h1 (xv_isr_ok hb h2))
  · cases h
def xs_st (n pc k nL : Nat) (L : List (Nat × XV)) (S : List XV) (e : XE) : Option XF := match S with
  | .inl a :: S => bif Nat.blt k nL then some (pc + n, xl_s1 L k (.inl a), S, e) else none
  | _ => none
theorem blt_lt {a b : Nat} (h : Nat.blt a b = true) : a < b := Nat.le_of_ble_eq_true h
theorem xs_st_ok {r : RN} {e : XE} {i : Instr} {pc nL n k : Nat} {cl : List (Nat × AV)} {cs : List AV} {L : List (Nat × XV)} {S : List XV} {f : XF} (he : xe_g r e) (hl : xl_g r L cl) (hs : xs_g r S cs) (h : xs_st n pc k nL L S e = some f)
    (hp : ∀ x t, k < nL → ea_p i pc nL cl (.inl (.inl x) :: t) = some (pc + n, ea_s1 cl k (.inl (.inl x)), t)) : xp_r r e i pc nL cl cs f := by
  unfold xs_st at h
  split at h
  · rename_i a S0
    cases hb : Nat.blt k nL with
    | false => rw [hb] at h; cases h
    | true =>
      rw [hb] at h
      cases h
      obtain ⟨_, _, rfl, ⟨x, rfl, hx⟩, hs1⟩ := xs_pop hs
      exact xp_same he (xl_s1_ok hl k (a := .inl a) ⟨x, rfl, hx⟩) hs1 (hp _ _ (blt_lt hb))
  · cases h
def xs_stl (n pc k nL : Nat) (L : List (Nat × XV)) (S : List XV) (e : XE) : Option XF := match S with
  | .inr (.inr 0) :: S => bif Nat.blt (k + 1) nL then some (pc + n, xl_s2 L k (.inr (.inr 0)), S, e) else none
  | _ => none
theorem xs_stl_ok {r : RN} {e : XE} {i : Instr} {pc nL n k : Nat} {cl : List (Nat × AV)} {cs : List AV} {L : List (Nat × XV)} {S : List XV} {f : XF} (he : xe_g r e) (hl : xl_g r L cl) (hs : xs_g r S cs) (h : xs_stl n pc k nL L S e = some f)
    (hp : ∀ x t, k + 1 < nL → ea_p i pc nL cl (.inr (.inr (.inl (some x))) :: t) = some (pc + n, ea_s2 cl k (.inr (.inr (.inl (some x)))), t)) : xp_r r e i pc nL cl cs f := by
  unfold xs_stl at h
  split at h
  · rename_i S0
    cases hb : Nat.blt (k + 1) nL with
    | false => rw [hb] at h; cases h
    | true =>
      rw [hb] at h
      cases h
      obtain ⟨_, _, rfl, ⟨x, rfl⟩, hs1⟩ := xs_pop hs
      exact xp_same he (xl_s2_ok hl k (a := .inr (.inr 0)) ⟨x, rfl⟩) hs1 (hp _ _ (blt_lt hb))
  · cases h
def xs_sta (n pc k nL : Nat) (L : List (Nat × XV)) (S : List XV) (e : XE) : Option XF := match S with
  | a :: S => bif xv_isr a && Nat.blt k nL then some (pc + n, xl_s1 L k a, S, e) else none
  | _ => none
theorem xs_sta_ok {r : RN} {e : XE} {i : Instr} {pc nL n k : Nat} {cl : List (Nat × AV)} {cs : List AV} {L : List (Nat × XV)} {S : List XV} {f : XF} (he : xe_g r e) (hl : xl_g r L cl) (hs : xs_g r S cs) (h : xs_sta n pc k nL L S e = some f)
    (hp : ∀ v t, ea_isr v = true → k < nL → ea_p i pc nL cl (v :: t) = some (pc + n, ea_s1 cl k v, t)) : xp_r r e i pc nL cl cs f := by
  unfold xs_sta at h
  split at h
  · rename_i a S0
    cases hb : (xv_isr a && Nat.blt k nL) with
    | false => rw [hb] at h; cases h
    | true =>
      rw [hb] at h
      cases h
      simp only [Bool.and_eq_true] at hb
      obtain ⟨v, _, rfl, hv, hs1⟩ := xs_pop hs
      exact xp_same he (xl_s1_ok hl k hv) hs1 (hp _ _ (xv_isr_ok hb.1 hv) (blt_lt hb.2))
  · cases h
