/-! THE CHECKER, its cells: what kind each is (an object: its class, of each field the bounds or the cell; an array: its kind, its length, of each element by its place modulo a period the bounds or the cell) -/
abbrev FT : Type := (Int × Int) ⊕ Nat
abbrev CT : Type := (Nat × List FT) ⊕ (Nat × Nat × Nat × List FT)
def ft_g (f : FT) (v : AV) : Prop := match f with
  | .inl q => ∃ x : Int32, v = .inl (.inl x) ∧ q.1 ≤ x.toInt ∧ x.toInt ≤ q.2
  | .inr k => v = .inr (.inl (some k))
def el_g (kd p : Nat) (fs : List FT) (j : Nat) (v : AV) : Prop := match kd with
  | 1 => ∃ y : Int64, v = .inr (.inr (.inl (some y)))
  | _ => ∃ f, ea_nt fs (j % p) = some f ∧ ft_g f v
def xo_k (O : List (Nat × Nat × XI)) (a k : Nat) : Option XI := match O with
  | [] => none
  | q :: t => bif Nat.beq q.1 a && Nat.beq q.2.1 k then some q.2.2 else xo_k t a k
def xh_f (r : RN) (x : Option XI) (f : FT) (v : AV) : Prop := match x with
  | some x => xv_g r (.inl x) v
  | none => ft_g f v
def xh_o (r : RN) (O : List (Nat × Nat × XI)) (a : Nat) (fs : List FT) (vs : List AV) : Prop := vs.length = fs.length ∧ ∀ k f, ea_nt fs k = some f → ∃ v, ea_nt vs k = some v ∧ xh_f r (xo_k O a k) f v
def xh_R (r : RN) (C : List AC) (q : Nat × XI × XI) : Prop := ∃ (kd n : Nat) (d : AV) (us : List (Nat × AV)) (j : Nat) (x : Int32), ea_nt C q.1 = some (.inl (kd, n, d, us)) ∧ q.2.1.2.1 < r.2 ∧ (j : Int) = xi_z r q.2.1 ∧ ea_al d us j = .inl (.inl x) ∧ xi_g r q.2.2 x
def xh_g (r : RN) (G : Nat → Option CT) (e : XE) (C : List AC) : Prop :=
  (∀ a ci fs, G a = some (.inl (ci, fs)) → ∃ vs, ea_nt C a = some (.inr (ci, vs)) ∧ xh_o r e.2.2.2.2 a fs vs) ∧
  (∀ a kd n p fs, G a = some (.inr (kd, n, p, fs)) → ∃ d us, ea_nt C a = some (.inl (kd, n, d, us)) ∧ ∀ j, j < n → el_g kd p fs j (ea_al d us j) ∨ ∃ q ∈ e.2.2.2.1, q.1 = a ∧ (j : Int) = xi_z r q.2.1) ∧
  ∀ q ∈ e.2.2.2.1, xh_R r C q
theorem xh_f_mono {r r' : RN} (h : rn_le r r') {x : Option XI} {f : FT} {v : AV} (hv : xh_f r x f v) : xh_f r' x f v := by
  cases x with
  | none => exact hv
  | some x => exact xv_g_mono h (a := .inl x) (v := v) hv
theorem xh_R_mono {r r' : RN} (h : rn_le r r') {C : List AC} {q : Nat × XI × XI} (hq : xh_R r C q) : xh_R r' C q := by
  obtain ⟨kd, n, d, us, j, x, h1, h2, h3, h4, h5⟩ := hq
  refine ⟨kd, n, d, us, j, x, h1, Nat.lt_of_lt_of_le h2 h.1, ?_, h4, xi_g_mono h h5⟩
  rw [h3, xi_z, xi_z, h.2 _ h2]
theorem xh_g_mono {r r' : RN} (h : rn_le r r') {G : Nat → Option CT} {e e' : XE} (he : e'.2.2.2 = e.2.2.2) {C : List AC} (hg : xh_g r G e C) : xh_g r' G e' C := by
  obtain ⟨h1, h2, h3⟩ := hg
  refine ⟨fun a ci fs hG => ?_, fun a kd n p fs hG => ?_, fun q hq => xh_R_mono h (h3 q (by rw [he] at hq; exact hq))⟩
  · obtain ⟨vs, g1, g2, g3⟩ := h1 a ci fs hG
    refine ⟨vs, g1, g2, fun k f hf => ?_⟩
    obtain ⟨v, j1, j2⟩ := g3 k f hf
    rw [he]
    exact ⟨v, j1, xh_f_mono h j2⟩
  · obtain ⟨d, us, g1, g2⟩ := h2 a kd n p fs hG
    refine ⟨d, us, g1, fun j hj => ?_⟩
    rcases g2 j hj with g | ⟨q, q1, q2, q3⟩
    · exact Or.inl g
    · obtain ⟨_, _, _, _, _, _, _, w, _⟩ := h3 q q1
      refine Or.inr ⟨q, by rw [he]; exact q1, q2, ?_⟩
      rw [q3, xi_z, xi_z, h.2 _ w]
theorem nt_set {α : Type} {l : List α} {a b : Nat} {c : α} : ea_nt (l.set a c) b = if a = b then (if a < l.length then some c else none) else ea_nt l b := by
  rw [ea_nt_eq, ea_nt_eq, List.getElem?_set]
theorem nt_lt {α : Type} {l : List α} {a : Nat} {c : α} (h : ea_nt l a = some c) : a < l.length := by
  rw [ea_nt_eq] at h
  exact (List.getElem?_eq_some_iff.mp h).1
theorem nt_set_self {α : Type} {l : List α} {a : Nat} {c d : α} (h : ea_nt l a = some d) : ea_nt (l.set a c) a = some c := by
  rw [nt_set, if_pos rfl, if_pos (nt_lt h)]
theorem nt_set_ne {α : Type} {l : List α} {a b : Nat} {c : α} (h : a ≠ b) : ea_nt (l.set a c) b = ea_nt l b := by
  rw [nt_set, if_neg h]
theorem xo_k_cons (O : List (Nat × Nat × XI)) (a k : Nat) (x : XI) (b j : Nat) : xo_k ((a, k, x) :: O) b j = if a = b ∧ k = j then some x else xo_k O b j := by
  show (bif Nat.beq a b && Nat.beq k j then some x else xo_k O b j) = _
  by_cases h : a = b ∧ k = j
  · rw [if_pos h, h.1, h.2, Nat.beq_refl, Nat.beq_refl]; rfl
  · rw [if_neg h]
    cases hb : (Nat.beq a b && Nat.beq k j) with
    | false => rfl
    | true =>
      simp only [Bool.and_eq_true] at hb
      exact absurd ⟨Nat.eq_of_beq_eq_true hb.1, Nat.eq_of_beq_eq_true hb.2⟩ h
/-- a field is known now -/
def xe_o (e : XE) (a k : Nat) (x : XI) : XE := (e.1, e.2.1, e.2.2.1, e.2.2.2.1, (a, k, x) :: e.2.2.2.2)
theorem xe_o_g {r : RN} {e : XE} (he : xe_g r e) (a k : Nat) (x : XI) : xe_g r (xe_o e a k x) := he
/-- what an instruction on cells does -/
def xh_r (r : RN) (M : Nat → Bool) (G : Nat → Option CT) (ini : Bool) (pl : Nat → Option (Nat × Nat × Nat)) (fty : Nat → Nat → Nat) (scr : Option (List AI)) (i : Instr) (pc : Nat) (cs : List AV) (C : List AC) (f : Nat × List XV × XE) : Prop := ∃ r' cs' C', rn_le r r' ∧ xe_g r' f.2.2 ∧ xs_g r' f.2.1 cs' ∧ xh_g r' G f.2.2 (C'.getD C) ∧ (∀ b, M b = false → ea_nt (C'.getD C) b = ea_nt C b) ∧ ea_h ini pl fty scr i pc cs C = some (f.1, cs', C', 0, 0)
section XH
variable {r : RN} {M : Nat → Bool} {G : Nat → Option CT} {ini : Bool} {pl : Nat → Option (Nat × Nat × Nat)} {fty : Nat → Nat → Nat} {scr : Option (List AI)} {pc : Nat} {cs : List AV} {C : List AC} {e : XE} {S : List XV}
/-- a field is read -/
def xs_gf (G : Nat → Option CT) (ci k pc : Nat) (S : List XV) (e : XE) : Option (Nat × List XV × XE) := match S with
  | .inr (.inl a) :: S => match G a with
    | some (.inl (ci', fs)) => bif Nat.beq ci' ci then match xo_k e.2.2.2.2 a k with
        | some x => bif Nat.blt k fs.length then some (pc + 3, .inl x :: S, e) else none
        | none => match ea_nt fs k with
          | some (.inr j) => some (pc + 3, .inr (.inl j) :: S, e)
          | some (.inl q) => some (pc + 3, .inl (xo_new e q.1 q.2).1 :: S, xe_o (xo_new e q.1 q.2).2 a k (xo_new e q.1 q.2).1)
          | none => none
      else none
    | _ => none
  | _ => none
theorem nt_some {α : Type} {l : List α} {k : Nat} (h : k < l.length) : ∃ a, ea_nt l k = some a := by
  rw [ea_nt_eq]
  exact ⟨_, List.getElem?_eq_some_iff.mpr ⟨h, rfl⟩⟩
theorem xs_gf_ok {x ci k : Nat} {f : Nat × List XV × XE} (he : xe_g r e) (hs : xs_g r S cs) (hh : xh_g r G e C) (hp : ea_rd (pl x) = some (ci, k)) (h : xs_gf G ci k pc S e = some f) : xh_r r M G ini pl fty scr (.getfield x) pc cs C f := by
  unfold xs_gf at h
  split at h
  · rename_i a S0
    split at h
    · rename_i ci' fs hG
      cases hb : Nat.beq ci' ci with
      | false => rw [hb] at h; cases h
      | true =>
        rw [hb] at h
        simp only [cond_true] at h
        obtain rfl : ci' = ci := Nat.eq_of_beq_eq_true hb
        obtain ⟨v0, cs0, rfl, hv0, hs0⟩ := xs_pop hs
        obtain rfl : v0 = .inr (.inl (some a)) := hv0
        obtain ⟨vs, g1, g2, g3⟩ := hh.1 a ci' fs hG
        have key : ∀ v, ea_nt vs k = some v → ea_h ini pl fty scr (.getfield x) pc (.inr (.inl (some a)) :: cs0) C = some (pc + 3, v :: cs0, none, 0, 0) := by
          intro v hv
          simp only [ea_h, hp, g1, hb, cond_true, hv]
        split at h
        · rename_i x0 hx0
          cases hlt : Nat.blt k fs.length with
          | false => rw [hlt] at h; cases h
          | true =>
            rw [hlt] at h
            cases h
            obtain ⟨f0, hf0⟩ := nt_some (blt_lt hlt)
            obtain ⟨v, j1, j2⟩ := g3 k f0 hf0
            rw [hx0] at j2
            exact ⟨r, _, none, rn_le_rf r, he, xs_cons j2 hs0, hh, fun _ _ => rfl, key v j1⟩
        · rename_i hx0
          split at h
          · rename_i j hj
            cases h
            obtain ⟨v, j1, j2⟩ := g3 k _ hj
            rw [hx0] at j2
            exact ⟨r, _, none, rn_le_rf r, he, xs_cons (a := .inr (.inl j)) j2 hs0, hh, fun _ _ => rfl, key v j1⟩
          · rename_i q hq
            cases h
            obtain ⟨v, j1, j2⟩ := g3 k _ hq
            rw [hx0] at j2
            obtain ⟨y, rfl, hy1, hy2⟩ := j2
            obtain ⟨r', k1, k2, k3, k4⟩ := xo_new_ok he hy1 hy2
            refine ⟨r', _, none, k1, xe_o_g k2 _ _ _, xs_cons (xv_gi k3) (xs_g_mono k1 hs0), ?_, fun _ _ => rfl, key _ j1⟩
            obtain ⟨m1, m2, m3⟩ := xh_g_mono k1 k4 hh
            refine ⟨fun b cj fs' hG' => ?_, m2, m3⟩
            obtain ⟨vs', n1, n2, n3⟩ := m1 b cj fs' hG'
            refine ⟨vs', n1, n2, fun k' f' hf' => ?_⟩
            obtain ⟨v', o1, o2⟩ := n3 k' f' hf'
            refine ⟨v', o1, ?_⟩
            show xh_f r' (xo_k ((a, k, _) :: (xo_new e q.1 q.2).2.2.2.2.2) b k') f' v'
            rw [xo_k_cons]
            split
            · rename_i hc
              obtain ⟨rfl, rfl⟩ := hc
              rw [g1] at n1
              cases n1
              rw [j1] at o1
              cases o1
              exact xv_gi k3
            · exact o2
          · cases h
    · cases h
  · cases h
/-- a field is written -/
def xs_pf (M : Nat → Bool) (G : Nat → Option CT) (fty : Nat → Nat → Nat) (ci k pc : Nat) (S : List XV) (e : XE) : Option (Nat × List XV × XE) := match S with
  | .inl v :: .inr (.inl a) :: S => match G a with
    | some (.inl (ci', fs)) => bif Nat.beq ci' ci && M a then match ea_nt fs k with
        | some (.inl _) => match fty ci k with
          | 0 => some (pc + 3, S, xe_o e a k v)
          | 2 => if 0 ≤ (xi_b e.2.1 v).1 ∧ (xi_b e.2.1 v).2 ≤ 1 then some (pc + 3, S, xe_o e a k v) else none
          | _ => none
        | _ => none
      else none
    | _ => none
  | _ => none
theorem xs_01 (he : xe_g r e) {v : XI} {x : Int32} (hx : xi_g r v x) (h : 0 ≤ (xi_b e.2.1 v).1 ∧ (xi_b e.2.1 v).2 ≤ 1) : ea_fit 2 (.inl (.inl x)) = true := by
  have b := xi_b_ok he hx
  show (decide (x = 0) || decide (x = 1)) = true
  simp only [Bool.or_eq_true, decide_eq_true_eq]
  have h0 : x.toInt = 0 ∨ x.toInt = 1 := by omega
  rcases h0 with h0 | h0
  · left; exact Int32.toInt_inj.mp h0
  · right; exact Int32.toInt_inj.mp h0
theorem nt_len_set {α : Type} (l : List α) (k : Nat) (v : α) : (l.set k v).length = l.length := List.length_set
theorem xs_pf_ok {x ci k : Nat} {f : Nat × List XV × XE} (he : xe_g r e) (hs : xs_g r S cs) (hh : xh_g r G e C) (hp : ea_wr ini (pl x) = some (ci, k)) (h : xs_pf M G fty ci k pc S e = some f) : xh_r r M G ini pl fty scr (.putfield x) pc cs C f := by
  unfold xs_pf at h
  split at h
  · rename_i v a S0
    split at h
    · rename_i ci' fs hG
      cases hb : (Nat.beq ci' ci && M a) with
      | false => rw [hb] at h; cases h
      | true =>
        rw [hb] at h
        simp only [cond_true] at h
        simp only [Bool.and_eq_true] at hb
        obtain ⟨hb, hM⟩ := hb
        obtain rfl : ci' = ci := Nat.eq_of_beq_eq_true hb
        obtain ⟨_, _, rfl, ⟨y, rfl, hy⟩, hs1⟩ := xs_pop hs
        obtain ⟨v0, cs0, rfl, hv0, hs0⟩ := xs_pop hs1
        obtain rfl : v0 = .inr (.inl (some a)) := hv0
        obtain ⟨vs, g1, g2, g3⟩ := hh.1 a ci' fs hG
        split at h
        · rename_i q hq
          have hlt : k < vs.length := by rw [g2]; exact nt_lt hq
          have fin : ea_fit (fty ci' k) (.inl (.inl y)) = true → f = (pc + 3, S0, xe_o e a k v) → xh_r r M G ini pl fty scr (.putfield x) pc (.inl (.inl y) :: .inr (.inl (some a)) :: cs0) C f := by
            rintro hfit rfl
            refine ⟨r, cs0, some (C.set a (.inr (ci', vs.set k (.inl (.inl y))))), rn_le_rf r, he, hs0, ⟨fun b cj fs' hG' => ?_, fun b kd n p fs' hG' => ?_, fun q hq => ?_⟩, fun b hb' => ?_, ?_⟩
            · show ∃ vs', ea_nt (C.set a _) b = _ ∧ _
              by_cases hab : a = b
              · subst hab
                rw [hG] at hG'
                cases hG'
                refine ⟨_, nt_set_self g1, by rw [nt_len_set]; exact g2, fun k' f' hf' => ?_⟩
                show ∃ v', _ ∧ xh_f r (xo_k ((a, k, v) :: e.2.2.2.2) a k') f' v'
                rw [xo_k_cons]
                by_cases hk : k = k'
                · subst hk
                  obtain ⟨w, hw⟩ := nt_some hlt
                  refine ⟨_, nt_set_self hw, ?_⟩
                  rw [if_pos ⟨rfl, rfl⟩]
                  exact xv_gi hy
                · obtain ⟨v', o1, o2⟩ := g3 k' f' hf'
                  refine ⟨v', by rw [nt_set_ne hk]; exact o1, ?_⟩
                  rw [if_neg (fun hc => hk hc.2)]
                  exact o2
              · obtain ⟨vs', n1, n2, n3⟩ := hh.1 b cj fs' hG'
                refine ⟨vs', by rw [nt_set_ne hab]; exact n1, n2, fun k' f' hf' => ?_⟩
                obtain ⟨v', o1, o2⟩ := n3 k' f' hf'
                refine ⟨v', o1, ?_⟩
                show xh_f r (xo_k ((a, k, v) :: e.2.2.2.2) b k') f' v'
                rw [xo_k_cons, if_neg (fun hc => hab hc.1)]
                exact o2
            · show ∃ d us, ea_nt (C.set a _) b = _ ∧ _
              obtain ⟨d, us, n1, n2⟩ := hh.2.1 b kd n p fs' hG'
              have hab : a ≠ b := by rintro rfl; rw [hG] at hG'; cases hG'
              exact ⟨d, us, by rw [nt_set_ne hab]; exact n1, n2⟩
            · obtain ⟨kd, n, d, us, j, x', n1, n2⟩ := hh.2.2 q hq
              have hab : a ≠ q.1 := by
                intro hab
                rw [← hab, g1] at n1
                cases n1
              exact ⟨kd, n, d, us, j, x', by show ea_nt (C.set a _) q.1 = _; rw [nt_set_ne hab]; exact n1, n2⟩
            · show ea_nt (C.set a _) b = _
              have hab : a ≠ b := by rintro rfl; rw [hM] at hb'; cases hb'
              rw [nt_set_ne hab]
            · have hbl : Nat.blt k vs.length = true := Nat.ble_eq_true_of_le hlt
              simp only [ea_h, hp, g1, hb, hfit, hbl, Bool.and_self, cond_true]
          split at h
          · rename_i ht
            exact fin (by rw [ht]; rfl) (Option.some.inj h).symm
          · rename_i ht
            split at h
            · rename_i h01
              exact fin (by rw [ht]; exact xs_01 he hy h01) (Option.some.inj h).symm
            · cases h
          · cases h
        · cases h
    · cases h
  · cases h
end XH
