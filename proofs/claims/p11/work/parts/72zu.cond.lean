/-! WHAT IS READ GROWS -/
theorem pSum_gr {K V : Nat → Int32} : ∀ (m : Nat) (z : SF) (i : Nat) (s : SF) (j : Nat), pSum K V m z i = (some s, j) → i < j
  | 0, z, i, s, j, h => by
    have : (none : Option SF) = some s := congrArg Prod.fst h
    cases this
  | m + 1, z, i, s, j, h => by
    replace h : (match pPart K V i with
      | none => ((none, i) : Option SF × Nat)
      | some q => if K (i + 1) = 43 then pSum K V m (fun pl wh kn dy => z pl wh kn dy + q pl wh kn dy) (i + 2) else (some (fun pl wh kn dy => z pl wh kn dy + q pl wh kn dy), i + 1)) = (some s, j) := h
    cases hp : pPart K V i with
    | none =>
      rw [hp] at h
      have : (none : Option SF) = some s := congrArg Prod.fst h
      cases this
    | some q =>
      rw [hp] at h
      dsimp only at h
      by_cases c : K (i + 1) = 43
      · rw [if_pos c] at h
        have := pSum_gr m _ _ _ _ h
        omega
      · rw [if_neg c] at h
        have : i + 1 = j := congrArg Prod.snd h
        omega
/-! A CONDITION: what it means; the reference's reading of a comparison -/
abbrev BF : Type := Int32 → Int32 → Int32 → Int32 → Bool
def pCmp (K V : Nat → Int32) (i : Nat) : Option BF × Nat := match pSum K V 401 zSF i with
  | (none, j) => (none, j)
  | (some l, j) => if K j = 60 then (match pSum K V 401 zSF (j + 1) with
      | (none, j') => (none, j')
      | (some r, j') => (some (fun pl wh kn dy => decide (l pl wh kn dy < r pl wh kn dy)), j'))
    else if K j = 62 then (match pSum K V 401 zSF (j + 1) with
      | (none, j') => (none, j')
      | (some r, j') => (some (fun pl wh kn dy => decide (r pl wh kn dy < l pl wh kn dy)), j'))
    else (none, j)
def jn (op : Bool → Bool → Bool) (o : Option BF) (c : BF) : BF := match o with
  | none => c
  | some a => fun pl wh kn dy => op (a pl wh kn dy) (c pl wh kn dy)
/-- atoms joined by and (4), or (3) -/
def pJoin (K : Nat → Int32) (at_ : Nat → Option BF × Nat) : Nat → Option BF → Option BF → Nat → Option BF × Nat
  | 0, _, _, i => (none, i)
  | m + 1, o, a, i => match at_ i with
    | (none, j) => (none, j)
    | (some c, j) => if K j = 4 then pJoin K at_ m o (some (jn and a c)) (j + 1)
      else if K j = 3 then pJoin K at_ m (some (jn or o (jn and a c))) none (j + 1)
      else (some (jn or o (jn and a c)), j)
def pAtom (K V : Nat → Int32) (F : Nat) : Nat → Nat → Option BF × Nat
  | 0, i => if K i = 40 then (none, i) else if K i = 5 then (none, i) else if K i = 6 then (some (fun _ _ _ dy => decide (rm dy 7 = 0)), i + 1) else pCmp K V i
  | k + 1, i => if K i = 40 then (match pJoin K (pAtom K V F k) F none none (i + 1) with
      | (none, j) => (none, j)
      | (some c, j) => if K j = 41 then (some c, j + 1) else (none, j))
    else if K i = 5 then (match pAtom K V F k (i + 1) with
      | (none, j) => (none, j)
      | (some c, j) => (some (fun pl wh kn dy => !(c pl wh kn dy)), j))
    else if K i = 6 then (some (fun _ _ _ dy => decide (rm dy 7 = 0)), i + 1) else pCmp K V i
def pCond (K V : Nat → Int32) (F k i : Nat) : Option BF × Nat := pJoin K (pAtom K V F k) F none none i
def BMg (td : Nat → Int32) (σ σ' : Nat) (c : BF) : Prop := RMg td σ σ' (fun pl wh kn dy => b32 (c pl wh kn dy))
theorem RMg_cv {td : Nat → Int32} {σ σ' : Nat} {s s' : SF} (h : RMg td σ σ' s) (e : ∀ pl wh kn dy, s pl wh kn dy = s' pl wh kn dy) : RMg td σ σ' s' := fun pl wh kn dy val x hx => by
  obtain ⟨v, v1, v2, v3⟩ := h pl wh kn dy val x hx
  exact ⟨v, v1, by rw [v2, e], v3⟩
theorem rop_and {x y : Bool} : rop 10 (b32 x) (b32 y) = b32 (and x y) := by cases x <;> cases y <;> decide
theorem rop_or {x y : Bool} : rop 11 (b32 x) (b32 y) = b32 (or x y) := by cases x <;> cases y <;> decide
theorem b32_not {x : Bool} : 1 - b32 x = b32 (!x) := by cases x <;> decide
/-- not -/
theorem BMg_n {td : Nat → Int32} {σ σ' : Nat} {c : BF} (h : BMg td σ σ' c) (l : σ ≤ σ') (ho : td (2 * σ') = 9) : BMg td σ (σ' + 1) (fun pl wh kn dy => !(c pl wh kn dy)) := fun pl wh kn dy val x hx => by
  obtain ⟨v, v1, v2, v3⟩ := h pl wh kn dy val x (by omega)
  refine ⟨up1 v x (b32 (!(c pl wh kn dy))), ?_, up1_e, fun j hj => by rw [up1_n (by omega), v3 j hj]⟩
  rw [show σ' + 1 - σ = (σ' - σ) + 1 by omega, rrun_app, v1, show σ + (σ' - σ) = σ' by omega]
  show rst pl wh kn dy (td (2 * σ')) (td (2 * σ' + 1)) (i32 (x + 1), v) = _
  unfold rst
  rw [ho, if_pos (by decide), if_pos rfl]
  dsimp only
  have e2 : i32 (x + 1) - 1 = i32 x := by
    rw [← i32_s]
    exact Int32.add_sub_cancel _ _
  rw [e2, ni_i (by omega), v2, b32_not]
def cmpW (N : Nat) (M : MM) (Q : Int32 → MM → Prop) : Prop := W_m_readSum N M (fun r10 M11 => ((r10 = 0 → Q 0 M11) ∧ (¬ r10 = 0 → W_m_sign 60 N M11 (fun r13 M14 => ((r13 = 0 → W_m_sign 62 N M14 (fun r16 M17 => ((r16 = 0 → Q 0 M17) ∧ (¬ r16 = 0 → W_m_readSum N M17 (fun r19 M20 => ((r19 = 0 → Q 0 M20) ∧ (¬ r19 = 0 → ((r13 = 0 → W_m_emits 8 0 N M20 (fun M24 => Q 1 M24)) ∧ (¬ r13 = 0 → W_m_emits 7 0 N M20 (fun M26 => Q 1 M26)))))))))) ∧ (¬ r13 = 0 → W_m_readSum N M14 (fun r27 M28 => ((r27 = 0 → Q 0 M28) ∧ (¬ r27 = 0 → ((r13 = 0 → W_m_emits 8 0 N M28 (fun M32 => Q 1 M32)) ∧ (¬ r13 = 0 → W_m_emits 7 0 N M28 (fun M34 => Q 1 M34))))))))))))
section RC
variable {f : BY} {n t i p g σ : Nat} {K V : Nat → Int32} {b e : Nat → Nat} {M : MM}
/-- what a reader of the reference that means a truth must do -/
def RDS (f : BY) (n t : Nat) (b e : Nat → Nat) (i σ : Nat) (M : MM) (res : Option BF × Nat) (Q : Int32 → MM → Prop) : Prop :=
  (∀ c j, res = (some c, j) → j ≤ t → i < j → ∀ M' p' g' σ', TXr M' f n p' g' → PT e b j p' → M'.1 190 25 = i32 σ' → σ' + i ≤ σ + j → σ ≤ σ' → BMg (M'.1 202) σ σ' c → (∀ x, x < 2 * σ → M'.1 202 x = M.1 202 x) → M'.1 190 22 = M.1 190 22 → Q 1 M') ∧
  (∀ j, res = (none, j) → j ≤ t → ∀ M', M'.1 190 21 = i32 (b j) → Q 0 M')
theorem r_cmp {N : Nat} {Q : Int32 → MM → Prop} (h : TXr M f n p g) (hb : BOK f n) (hn : n ≤ 400) (hT : TKS f n t K V b e) (hi : i ≤ t) (hp : PT e b i p) (hs : M.1 190 25 = i32 σ) (hσ : σ ≤ i) (hQ : RDS f n t b e i σ M (pCmp K V i) Q) : cmpW N M Q := by
  have ht := hT.1
  obtain ⟨hQ1, hQ0⟩ := hQ
  unfold cmpW
  refine r_sum (m := 400) h hb hn hT hi hp hs hσ (by omega) (fun l j hl hj M1 p1 g1 σ1 t1 k1 c1 d1 d2 m1 f1 y1 => ?_) (fun j hl hj M1 x1 => ?_)
  · have hij := pSum_gr _ _ _ _ _ hl
    refine ⟨fun x => absurd x (by decide), fun _ => ?_⟩
    refine t_sign (by decide) t1 hb hn hT hj k1 ⟨fun hk => ?_, fun hk => ?_⟩
    · refine ⟨fun x => absurd x (by decide), fun _ => ?_⟩
      have hlt := tk_lt hT hj (by rw [hk]; decide)
      refine r_sum (m := 400) (M := atP M1 (e j) (b j)) (atP_T t1) hb hn hT (by omega) (PT_s hT hlt) c1 (by omega) (by omega) (fun r j' hr hj' M2 p2 g2 σ2 t2 k2 c2 d3 d4 m2 f2 y2 => ?_) (fun j' hr hj' M2 x2 => ?_)
      · refine ⟨fun x => absurd x (by decide), fun _ => ⟨fun x => absurd x (by decide), fun _ => ?_⟩⟩
        have hij' := pSum_gr _ _ _ _ _ hr
        refine r_emits c2 (by omega) (fun M3 a1 a2 a3 a4 a5 => hQ1 (fun pl wh kn dy => decide (l pl wh kn dy < r pl wh kn dy)) j' ?_ hj' (by omega) M3 p2 g2 (σ2 + 1) (TXr_e t2 a5 rfl) k2 a1 (by omega) (by omega) ?_ (fun x hx => by rw [a4 x (by omega), f2 x (by omega)]; exact f1 x hx) (by rw [eq1 a5 (b := 190) (k := 22) rfl, y2]; exact y1))
        · unfold pCmp
          rw [hl]
          dsimp only
          rw [if_pos hk, hr]
        · have r1 : RMg (M3.1 202) σ σ1 l := RMg_cg m1 d2 (fun x hx => by rw [a4 x (by omega), f2 x hx]; rfl)
          have r2 : RMg (M3.1 202) σ1 σ2 r := RMg_cg m2 d4 (fun x hx => a4 x hx)
          exact RMg_cv (RMg_b r1 r2 d2 d4 a2 (by decide) (by decide)) (fun pl wh kn dy => rfl)
      · refine ⟨fun _ => hQ0 j' ?_ hj' M2 x2, fun x => absurd rfl x⟩
        unfold pCmp
        rw [hl]
        dsimp only
        rw [if_pos hk, hr]
    · refine ⟨fun _ => ?_, fun x => absurd rfl x⟩
      refine t_sign (by decide) (atP_T t1) hb hn hT hj (PT_b hT hj) ⟨fun hk2 => ?_, fun hk2 => ?_⟩
      · refine ⟨fun x => absurd x (by decide), fun _ => ?_⟩
        have hlt := tk_lt hT hj (by rw [hk2]; decide)
        rw [atP_2]
        refine r_sum (m := 400) (M := atP M1 (e j) (b j)) (atP_T t1) hb hn hT (by omega) (PT_s hT hlt) c1 (by omega) (by omega) (fun r j' hr hj' M2 p2 g2 σ2 t2 k2 c2 d3 d4 m2 f2 y2 => ?_) (fun j' hr hj' M2 x2 => ?_)
        · refine ⟨fun x => absurd x (by decide), fun _ => ⟨fun _ => ?_, fun x => absurd rfl x⟩⟩
          have hij' := pSum_gr _ _ _ _ _ hr
          refine r_emits c2 (by omega) (fun M3 a1 a2 a3 a4 a5 => hQ1 (fun pl wh kn dy => decide (r pl wh kn dy < l pl wh kn dy)) j' ?_ hj' (by omega) M3 p2 g2 (σ2 + 1) (TXr_e t2 a5 rfl) k2 a1 (by omega) (by omega) ?_ (fun x hx => by rw [a4 x (by omega), f2 x (by omega)]; exact f1 x hx) (by rw [eq1 a5 (b := 190) (k := 22) rfl, y2]; exact y1))
          · unfold pCmp
            rw [hl]
            dsimp only
            rw [if_neg hk, if_pos hk2, hr]
          · have r1 : RMg (M3.1 202) σ σ1 l := RMg_cg m1 d2 (fun x hx => by rw [a4 x (by omega), f2 x hx]; rfl)
            have r2 : RMg (M3.1 202) σ1 σ2 r := RMg_cg m2 d4 (fun x hx => a4 x hx)
            exact RMg_cv (RMg_b r1 r2 d2 d4 a2 (by decide) (by decide)) (fun pl wh kn dy => rfl)
        · refine ⟨fun _ => hQ0 j' ?_ hj' M2 x2, fun x => absurd rfl x⟩
          unfold pCmp
          rw [hl]
          dsimp only
          rw [if_neg hk, if_pos hk2, hr]
      · refine ⟨fun _ => hQ0 j ?_ hj _ rfl, fun x => absurd rfl x⟩
        unfold pCmp
        rw [hl]
        dsimp only
        rw [if_neg hk, if_neg hk2]
  · refine ⟨fun _ => hQ0 j ?_ hj M1 x1, fun x => absurd rfl x⟩
    unfold pCmp
    rw [hl]
end RC
