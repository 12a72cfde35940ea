section
/-! THE REFERENCE'S READING OF AN ATOM, a level over the one within -/
def atomW (rc ra : Nat → MM → (Int32 → MM → Prop) → Prop) (N : Nat) (M : MM) (Q : Int32 → MM → Prop) : Prop :=
  W_m_sign 40 N M (fun r1 M2 =>
    ((r1 = 0 →
      W_m_passes 3124213513 N M2 (fun r4 M5 =>
        ((r4 = 0 →
          W_m_passes 204756940403467 N M5 (fun r7 M8 =>
            ((r7 = 0 → cmpW N M8 Q) ∧
             (¬ r7 = 0 →
              W_m_emits 4 0 N M8 (fun M36 =>
                Q 1 M36))))) ∧
         (¬ r4 = 0 →
          (((M5.1 190 22) = 6 →
            Q 0 M5) ∧
           (¬ (M5.1 190 22) = 6 →
            ra N (wi M5 190 22 ((M5.1 190 22) + 1)) (fun r38 M39 =>
              ((r38 = 0 →
                Q 0 M39) ∧
               (¬ r38 = 0 →
                W_m_emits 9 0 N (wi M39 190 22 ((M39.1 190 22) - 1)) (fun M42 =>
                  Q 1 M42)))))))))) ∧
     (¬ r1 = 0 →
      (((M2.1 190 22) = 6 →
        Q 0 M2) ∧
       (¬ (M2.1 190 22) = 6 →
        rc N (wi M2 190 22 ((M2.1 190 22) + 1)) (fun r44 M45 =>
          ((r44 = 0 →
            Q 0 M45) ∧
           (¬ r44 = 0 →
            W_m_sign 41 N (wi M45 190 22 ((M45.1 190 22) - 1)) (fun r47 M48 =>
              Q r47 M48)))))))))
theorem atomW_384 {N : Nat} {M : MM} {Q : Int32 → MM → Prop} : W_m_readAtom_384 N M Q = atomW W_m_readCond_385 W_m_readAtom_387 N M Q := rfl
theorem atomW_0 {N : Nat} {M : MM} {Q : Int32 → MM → Prop} : W_m_readAtom_387 N M Q = atomW (fun _ _ _ => True) (fun _ _ _ => True) N M Q := rfl
section RA
variable {f : BY} {n t : Nat} {K V : Nat → Int32} {b e : Nat → Nat}
def RDR (f : BY) (n t : Nat) (b e : Nat → Nat) (rd : Nat → MM → (Int32 → MM → Prop) → Prop) (sp : Nat → Option BF × Nat) (d : Int32) : Prop := ∀ N M p g i σ Q, TXr M f n p g → PT e b i p → i ≤ t → M.1 190 25 = i32 σ → σ ≤ i → M.1 190 22 = d → RDS f n t b e i σ M (sp i) Q → rd N M Q
theorem TXr_22 {M : MM} {p g : Nat} {x : Int32} (h : TXr M f n p g) : TXr (wi M 190 22 x) f n p g := TXr_e h (eqo_1 (a := 190) (k := 22)) rfl
theorem r_atomS {rc ra : Nat → MM → (Int32 → MM → Prop) → Prop} {F k d : Nat} (hb : BOK f n) (hn : n ≤ 400) (hT : TKS f n t K V b e) (hd : d < 6) (hc : RDR f n t b e rc (pCond K V F k) (i32 (d + 1))) (ha : RDR f n t b e ra (pAtom K V F k) (i32 (d + 1))) : RDR f n t b e (atomW rc ra) (pAtom K V F (k + 1)) (i32 d) := by
  intro N M p g i σ Q h hp hi hs hσ h22 hQ
  have ht := hT.1
  have d6 : ¬ (i32 d = 6) := fun x => by
    have := (i32_ij (b := 6) (by omega) (by omega)).mp x
    omega
  have hd1 : i32 (d + 1) - 1 = i32 d := by
    rw [← i32_s]
    exact Int32.add_sub_cancel _ _
  unfold pAtom at hQ
  unfold atomW
  refine t_sign (by decide) h hb hn hT hi hp ⟨fun hk => ?_, fun hk => ?_⟩
  · rw [if_pos hk] at hQ
    have hlt := tk_lt hT hi (by rw [hk]; decide)
    refine ⟨fun x => absurd x (by decide), fun _ => ?_⟩
    rw [show (atP M (e i) (b i)).1 190 22 = i32 d from h22]
    refine ⟨fun x => absurd x d6, fun _ => ?_⟩
    rw [i32_s]
    refine hc N _ (e i) (b i) (i + 1) σ _ (TXr_22 (atP_T h)) (PT_s hT hlt) (by omega) hs (by omega) wi_1e ⟨fun c j hj hjt hij M' p' g' σ' t1 k1 c1 q1 q2 m1 f1 y1 => ?_, fun j hj hjt M' x1 => ?_⟩
    · refine ⟨fun x => absurd x (by decide), fun _ => ?_⟩
      rw [show pJoin K (pAtom K V F k) F none none (i + 1) = (some c, j) from hj] at hQ
      dsimp only at hQ
      rw [y1, wi_1e, hd1]
      refine t_sign (by decide) (TXr_22 t1) hb hn hT hjt k1 ⟨fun hk2 => ?_, fun hk2 => ?_⟩
      · rw [if_pos hk2] at hQ
        have hlt2 := tk_lt hT hjt (by rw [hk2]; decide)
        exact hQ.1 c (j + 1) rfl (by omega) (by omega) _ _ _ σ' (atP_T (TXr_22 t1)) (PT_s hT hlt2) c1 (by omega) q2 m1 (fun x hx => f1 x hx) h22.symm
      · rw [if_neg hk2] at hQ
        exact hQ.2 j rfl hjt _ rfl
    · refine ⟨fun _ => ?_, fun x => absurd rfl x⟩
      rw [show pJoin K (pAtom K V F k) F none none (i + 1) = (none, j) from hj] at hQ
      exact hQ.2 j rfl hjt M' x1
  · rw [if_neg hk] at hQ
    refine ⟨fun _ => ?_, fun x => absurd rfl x⟩
    refine t_passes st_not (by omega) (atP_T h) hb hn hT hi (PT_b hT hi) ⟨fun hk2 => ?_, fun hk2 => ?_⟩
    · rw [if_pos (show K i = 5 from hk2)] at hQ
      have hlt := tk_lt hT hi (by rw [hk2]; decide)
      refine ⟨fun x => absurd x (by decide), fun _ => ?_⟩
      rw [atP_2, show (atP M (e i) (b i)).1 190 22 = i32 d from h22]
      refine ⟨fun x => absurd x d6, fun _ => ?_⟩
      rw [i32_s]
      refine ha N _ (e i) (b i) (i + 1) σ _ (TXr_22 (atP_T h)) (PT_s hT hlt) (by omega) hs (by omega) wi_1e ⟨fun c j hj hjt hij M' p' g' σ' t1 k1 c1 q1 q2 m1 f1 y1 => ?_, fun j hj hjt M' x1 => ?_⟩
      · refine ⟨fun x => absurd x (by decide), fun _ => ?_⟩
        rw [hj] at hQ
        dsimp only at hQ
        rw [y1, wi_1e, hd1]
        refine r_emits (M := wi M' 190 22 (i32 d)) (σ := σ') c1 (by omega) (fun M3 a1 a2 a3 a4 a5 => hQ.1 _ j rfl hjt (by omega) M3 p' g' (σ' + 1) (TXr_e (TXr_22 t1) a5 rfl) k1 a1 (by omega) (by omega) (BMg_n (RMg_cg m1 q2 (fun x hx => a4 x hx)) q2 a2) (fun x hx => (a4 x (by omega)).trans (f1 x hx)) ?_)
        rw [eq1 a5 (b := 190) (k := 22) rfl, wi_1e, h22]
      · refine ⟨fun _ => ?_, fun x => absurd rfl x⟩
        rw [hj] at hQ
        exact hQ.2 j rfl hjt M' x1
    · rw [if_neg (show ¬ K i = 5 from hk2)] at hQ
      refine ⟨fun _ => ?_, fun x => absurd rfl x⟩
      rw [atP_2]
      refine t_passes st_feast (by omega) (atP_T h) hb hn hT hi (PT_b hT hi) ⟨fun hk3 => ?_, fun hk3 => ?_⟩
      · rw [if_pos (show K i = 6 from hk3)] at hQ
        have hlt := tk_lt hT hi (by rw [hk3]; decide)
        refine ⟨fun x => absurd x (by decide), fun _ => ?_⟩
        rw [atP_2]
        refine r_emits (M := atP M (e i) (b i)) (σ := σ) hs (by omega) (fun M3 a1 a2 a3 a4 a5 => hQ.1 _ (i + 1) rfl (by omega) (by omega) M3 (e i) (b i) (σ + 1) (TXr_e (atP_T h) a5 rfl) (PT_s hT hlt) a1 (by omega) (by omega) (RMg_1 a2 a3 (by decide) (fun pl wh kn dy => ?_)) a4 (eq1 a5 (b := 190) (k := 22) rfl))
        show (if rm dy 7 = 0 then (1 : Int32) else 0) = b32 (decide (rm dy 7 = 0))
        by_cases c : rm dy 7 = 0
        · rw [if_pos c, decide_eq_true c]; rfl
        · rw [if_neg c, decide_eq_false c]; rfl
      · rw [if_neg (show ¬ K i = 6 from hk3)] at hQ
        refine ⟨fun _ => ?_, fun x => absurd rfl x⟩
        rw [atP_2]
        exact r_cmp (M := atP M (b i) (b i)) (atP_T h) hb hn hT hi (PT_b hT hi) hs hσ hQ
end RA
end
section
/-! THE REFERENCE'S READING OF ATOMS JOINED -/
def bJn (w : Nat) (op : Int32) (ra : Nat → MM → (Int32 → MM → Prop) → Prop) (Q : Int32 → MM → Prop) (N : Nat) (ih : MM → Prop) (M : MM) : Prop :=
  W_m_passes w N M (fun r4 M5 =>
    ((r4 = 0 →
      Q 1 M5) ∧
     (¬ r4 = 0 →
      ra N M5 (fun r7 M8 =>
        ((r7 = 0 →
          Q 0 M8) ∧
         (¬ r7 = 0 →
          W_m_emits op 0 N M8 (fun M11 =>
            ih M11)))))))
def lpW (w : Nat) (op : Int32) (ra : Nat → MM → (Int32 → MM → Prop) → Prop) (Q : Int32 → MM → Prop) : Nat → MM → Prop
  | 0, _ => True
  | N + 1, M => bJn w op ra Q N (lpW w op ra Q N) M
def jnW (w : Nat) (op : Int32) (ra : Nat → MM → (Int32 → MM → Prop) → Prop) (N : Nat) (M : MM) (Q : Int32 → MM → Prop) : Prop :=
  ra N M (fun r1 M2 =>
    ((r1 = 0 →
      Q 0 M2) ∧
     (¬ r1 = 0 →
      lpW w op ra Q N M2)))
theorem jnW_u {w : Nat} {op : Int32} {ra : Nat → MM → (Int32 → MM → Prop) → Prop} {N : Nat} {M : MM} {Q : Int32 → MM → Prop} : jnW w op ra N M Q = ra N M (fun r1 M2 => ((r1 = 0 → Q 0 M2) ∧ (¬ r1 = 0 → lpW w op ra Q N M2))) := rfl
theorem lpW_I {w : Nat} {op : Int32} {ra : Nat → MM → (Int32 → MM → Prop) → Prop} {Q : Int32 → MM → Prop} (P : MM → Prop) (h : ∀ N ih M, (∀ M', P M' → ih M') → P M → bJn w op ra Q N ih M) : ∀ N M, P M → lpW w op ra Q N M
  | 0, _, _ => trivial
  | N + 1, M, hP => h N _ M (fun M' hM' => lpW_I P h N M' hM') hP
section RJ
variable {f : BY} {n t : Nat} {K V : Nat → Int32} {b e : Nat → Nat}
theorem pJoin_s {at_ : Nat → Option BF × Nat} {m : Nat} {o a : Option BF} {i j : Nat} {c : BF} (h : at_ i = (some c, j)) : pJoin K at_ (m + 1) o a i = if K j = 4 then pJoin K at_ m o (some (jn and a c)) (j + 1) else if K j = 3 then pJoin K at_ m (some (jn or o (jn and a c))) none (j + 1) else (some (jn or o (jn and a c)), j) := by
  show (match at_ i with | (none, j) => (none, j) | (some c, j) => _) = _
  rw [h]
theorem pJoin_n {at_ : Nat → Option BF × Nat} {m : Nat} {o a : Option BF} {i j : Nat} (h : at_ i = (none, j)) : pJoin K at_ (m + 1) o a i = (none, j) := by
  show (match at_ i with | (none, j) => (none, j) | (some c, j) => _) = _
  rw [h]
theorem r_all {ra : Nat → MM → (Int32 → MM → Prop) → Prop} {at_ : Nat → Option BF × Nat} {d : Int32} (hb : BOK f n) (hn : n ≤ 400) (hT : TKS f n t K V b e) (hra : RDR f n t b e ra at_ d) {N : Nat} {M : MM} {p g i σ m : Nat} {o : Option BF} {Q : Int32 → MM → Prop} (h : TXr M f n p g) (hp : PT e b i p) (hi : i ≤ t) (hs : M.1 190 25 = i32 σ) (hσ : σ ≤ i) (h22 : M.1 190 22 = d) (hm : t ≤ i + m)
    (hQ1 : ∀ m' c j, pJoin K at_ (m + 1) o none i = (if K j = 3 then pJoin K at_ m' (some (jn or o c)) none (j + 1) else (some (jn or o c), j)) → j ≤ t → i < j → t ≤ j + m' → ∀ M' p' g' σ', TXr M' f n p' g' → PT e b j p' → M'.1 190 25 = i32 σ' → σ' + i ≤ σ + j → σ ≤ σ' → BMg (M'.1 202) σ σ' c → (∀ x, x < 2 * σ → M'.1 202 x = M.1 202 x) → M'.1 190 22 = d → Q 1 M')
    (hQ0 : ∀ j, pJoin K at_ (m + 1) o none i = (none, j) → j ≤ t → ∀ M', M'.1 190 21 = i32 (b j) → Q 0 M') : jnW 2989961357 10 ra N M Q := by
  have ht := hT.1
  unfold jnW
  refine hra N M p g i σ _ h hp hi hs hσ h22 ⟨fun c j hj hjt hij M1 p1 g1 σ1 t1 k1 c1 q1 q2 m1 f1 y1 => ?_, fun j hj hjt M1 x1 => ?_⟩
  · refine ⟨fun x => absurd x (by decide), fun _ => ?_⟩
    refine lpW_I (fun M' => ∃ i' m' c' σ' p' g', i' ≤ t ∧ i < i' ∧ pJoin K at_ (m + 1) o none i = (if K i' = 4 then pJoin K at_ m' o (some c') (i' + 1) else if K i' = 3 then pJoin K at_ m' (some (jn or o c')) none (i' + 1) else (some (jn or o c'), i')) ∧ t ≤ i' + m' ∧ TXr M' f n p' g' ∧ PT e b i' p' ∧ M'.1 190 25 = i32 σ' ∧ σ' + i ≤ σ + i' ∧ σ ≤ σ' ∧ BMg (M'.1 202) σ σ' c' ∧ (∀ x, x < 2 * σ → M'.1 202 x = M.1 202 x) ∧ M'.1 190 22 = d) (fun N ih M' hih hv => ?_) N _ ⟨j, m, c, σ1, p1, g1, hjt, hij, pJoin_s hj, by omega, t1, k1, c1, q1, q2, m1, f1, y1.trans h22⟩
    obtain ⟨i', m', c', σ', p', g', k1, k0, k2, k3, k4, k5, k6, k7, k8, k9, k10, k11⟩ := hv
    unfold bJn
    refine t_passes st_and (by omega) k4 hb hn hT k1 k5 ⟨fun hk => ?_, fun hk => ?_⟩
    · refine ⟨fun x => absurd x (by decide), fun _ => ?_⟩
      have hlt := tk_lt hT k1 (by rw [hk]; decide)
      rw [if_pos (show K i' = 4 from hk)] at k2
      obtain ⟨m2, rfl⟩ : ∃ m2, m' = m2 + 1 := ⟨m' - 1, by omega⟩
      refine hra N (atP M' (e i') (b i')) (e i') (b i') (i' + 1) σ' _ (atP_T k4) (PT_s hT hlt) (by omega) k6 (by omega) k11 ⟨fun c2 j2 hj2 hjt2 hij2 M2 p2 g2 σ2 t2 l2 c2' q3 q4 m2' f2 y2 => ?_, fun j2 hj2 hjt2 M2 x2 => ?_⟩
      · refine ⟨fun x => absurd x (by decide), fun _ => ?_⟩
        refine r_emits c2' (by omega) (fun M3 a1 a2 a3 a4 a5 => hih _ ⟨j2, m2, jn and (some c') c2, σ2 + 1, p2, g2, hjt2, by omega, ?_, by omega, TXr_e t2 a5 rfl, l2, a1, by omega, by omega, ?_, fun x hx => ?_, by rw [eq1 a5 (b := 190) (k := 22) rfl, y2]; exact k11⟩)
        · rw [k2]
          exact pJoin_s hj2
        · have r1 : RMg (M3.1 202) σ σ' (fun pl wh kn dy => b32 (c' pl wh kn dy)) := RMg_cg k9 k8 (fun x hx => by rw [a4 x (by omega), f2 x hx]; rfl)
          have r2 : RMg (M3.1 202) σ' σ2 (fun pl wh kn dy => b32 (c2 pl wh kn dy)) := RMg_cg m2' q4 (fun x hx => a4 x hx)
          exact RMg_cv (RMg_b r1 r2 k8 q4 a2 (by decide) (by decide)) (fun pl wh kn dy => rop_and)
        · rw [a4 x (by omega), f2 x (by omega)]
          exact k10 x hx
      · refine ⟨fun _ => hQ0 j2 ?_ hjt2 M2 x2, fun x => absurd rfl x⟩
        rw [k2]
        exact pJoin_n hj2
    · refine ⟨fun _ => ?_, fun x => absurd rfl x⟩
      rw [if_neg (show ¬ K i' = 4 from hk)] at k2
      exact hQ1 m' c' i' k2 k1 k0 k3 _ _ _ σ' (atP_T k4) (PT_b hT k1) k6 k7 k8 k9 k10 k11
  · exact ⟨fun _ => hQ0 j (pJoin_n hj) hjt M1 x1, fun x => absurd rfl x⟩
theorem r_cond {ra : Nat → MM → (Int32 → MM → Prop) → Prop} {at_ : Nat → Option BF × Nat} {d : Int32} {F : Nat} (hb : BOK f n) (hn : n ≤ 400) (hT : TKS f n t K V b e) (hF : 400 < F) (hra : RDR f n t b e ra at_ d) : RDR f n t b e (jnW 12138383 11 (jnW 2989961357 10 ra)) (fun i => pJoin K at_ F none none i) d := by
  intro N M p g i σ Q h hp hi hs hσ h22 hQ
  have ht := hT.1
  obtain ⟨m, rfl⟩ : ∃ m, F = m + 1 := ⟨F - 1, by omega⟩
  obtain ⟨hQ1, hQ0⟩ := hQ
  rw [jnW_u]
  refine r_all hb hn hT hra h hp hi hs hσ h22 (m := m) (o := none) (by omega) (fun m1' c j hj hjt hij hm1 M1 p1 g1 σ1 t1 k1 c1 q1 q2 m1 f1 y1 => ?_) (fun j hj hjt M1 x1 => ?_)
  · refine ⟨fun x => absurd x (by decide), fun _ => ?_⟩
    refine lpW_I (fun M' => ∃ i' m' c' σ' p' g', i' ≤ t ∧ i < i' ∧ pJoin K at_ (m + 1) none none i = (if K i' = 3 then pJoin K at_ m' (some c') none (i' + 1) else (some c', i')) ∧ t ≤ i' + m' ∧ TXr M' f n p' g' ∧ PT e b i' p' ∧ M'.1 190 25 = i32 σ' ∧ σ' + i ≤ σ + i' ∧ σ ≤ σ' ∧ BMg (M'.1 202) σ σ' c' ∧ (∀ x, x < 2 * σ → M'.1 202 x = M.1 202 x) ∧ M'.1 190 22 = d) (fun N ih M' hih hv => ?_) N _ ⟨j, m1', c, σ1, p1, g1, hjt, hij, hj, hm1, t1, k1, c1, q1, q2, m1, f1, y1⟩
    obtain ⟨i', m', c', σ', p', g', k1, k0, k2, k3, k4, k5, k6, k7, k8, k9, k10, k11⟩ := hv
    unfold bJn
    refine t_passes st_or (by omega) k4 hb hn hT k1 k5 ⟨fun hk => ?_, fun hk => ?_⟩
    · refine ⟨fun x => absurd x (by decide), fun _ => ?_⟩
      have hlt := tk_lt hT k1 (by rw [hk]; decide)
      rw [if_pos (show K i' = 3 from hk)] at k2
      obtain ⟨m2, rfl⟩ : ∃ m2, m' = m2 + 1 := ⟨m' - 1, by omega⟩
      refine r_all hb hn hT hra (M := atP M' (e i') (b i')) (i := i' + 1) (σ := σ') (m := m2) (o := some c') (atP_T k4) (PT_s hT hlt) (by omega) k6 (by omega) k11 (by omega) (fun m3 c2 j2 hj2 hjt2 hij2 hm3 M2 p2 g2 σ2 t2 l2 c2' q3 q4 m2' f2 y2 => ?_) (fun j2 hj2 hjt2 M2 x2 => ?_)
      · refine ⟨fun x => absurd x (by decide), fun _ => ?_⟩
        refine r_emits c2' (by omega) (fun M3 a1 a2 a3 a4 a5 => hih _ ⟨j2, m3, jn or (some c') c2, σ2 + 1, p2, g2, hjt2, by omega, by rw [k2]; exact hj2, hm3, TXr_e t2 a5 rfl, l2, a1, by omega, by omega, ?_, fun x hx => ?_, by rw [eq1 a5 (b := 190) (k := 22) rfl, y2]⟩)
        · have r1 : RMg (M3.1 202) σ σ' (fun pl wh kn dy => b32 (c' pl wh kn dy)) := RMg_cg k9 k8 (fun x hx => by rw [a4 x (by omega), f2 x hx]; rfl)
          have r2 : RMg (M3.1 202) σ' σ2 (fun pl wh kn dy => b32 (c2 pl wh kn dy)) := RMg_cg m2' q4 (fun x hx => a4 x hx)
          exact RMg_cv (RMg_b r1 r2 k8 q4 a2 (by decide) (by decide)) (fun pl wh kn dy => rop_or)
        · rw [a4 x (by omega), f2 x (by omega)]
          exact k10 x hx
      · exact ⟨fun _ => hQ0 j2 (k2.trans hj2) hjt2 M2 x2, fun x => absurd rfl x⟩
    · refine ⟨fun _ => ?_, fun x => absurd rfl x⟩
      rw [if_neg (show ¬ K i' = 3 from hk)] at k2
      exact hQ1 c' i' k2 k1 k0 _ _ _ σ' (atP_T k4) (PT_b hT k1) k6 k7 k8 k9 k10 (k11.trans h22.symm)
  · exact ⟨fun _ => hQ0 j hj hjt M1 x1, fun x => absurd rfl x⟩
theorem r_atom0 {F : Nat} (hb : BOK f n) (hn : n ≤ 400) (hT : TKS f n t K V b e) : RDR f n t b e W_m_readAtom_387 (pAtom K V F 0) (i32 6) := by
  intro N M p g i σ Q h hp hi hs hσ h22 hQ
  have ht := hT.1
  unfold pAtom at hQ
  rw [atomW_0]
  unfold atomW
  refine t_sign (by decide) h hb hn hT hi hp ⟨fun hk => ?_, fun hk => ?_⟩
  · rw [if_pos hk] at hQ
    refine ⟨fun x => absurd x (by decide), fun _ => ?_⟩
    rw [show (atP M (e i) (b i)).1 190 22 = 6 from h22]
    exact ⟨fun _ => hQ.2 i rfl hi _ rfl, fun x => absurd rfl x⟩
  · rw [if_neg hk] at hQ
    refine ⟨fun _ => ?_, fun x => absurd rfl x⟩
    refine t_passes st_not (by omega) (atP_T h) hb hn hT hi (PT_b hT hi) ⟨fun hk2 => ?_, fun hk2 => ?_⟩
    · rw [if_pos (show K i = 5 from hk2)] at hQ
      refine ⟨fun x => absurd x (by decide), fun _ => ?_⟩
      rw [atP_2, show (atP M (e i) (b i)).1 190 22 = 6 from h22]
      exact ⟨fun _ => hQ.2 i rfl hi _ rfl, fun x => absurd rfl x⟩
    · rw [if_neg (show ¬ K i = 5 from hk2)] at hQ
      refine ⟨fun _ => ?_, fun x => absurd rfl x⟩
      rw [atP_2]
      refine t_passes st_feast (by omega) (atP_T h) hb hn hT hi (PT_b hT hi) ⟨fun hk3 => ?_, fun hk3 => ?_⟩
      · rw [if_pos (show K i = 6 from hk3)] at hQ
        have hlt := tk_lt hT hi (by rw [hk3]; decide)
        refine ⟨fun x => absurd x (by decide), fun _ => ?_⟩
        rw [atP_2]
        refine r_emits (M := atP M (e i) (b i)) (σ := σ) hs (by omega) (fun M3 a1 a2 a3 a4 a5 => hQ.1 _ (i + 1) rfl (by omega) (by omega) M3 (e i) (b i) (σ + 1) (TXr_e (atP_T h) a5 rfl) (PT_s hT hlt) a1 (by omega) (by omega) (RMg_1 a2 a3 (by decide) (fun pl wh kn dy => ?_)) a4 (eq1 a5 (b := 190) (k := 22) rfl))
        show (if rm dy 7 = 0 then (1 : Int32) else 0) = b32 (decide (rm dy 7 = 0))
        by_cases c : rm dy 7 = 0
        · rw [if_pos c, decide_eq_true c]; rfl
        · rw [if_neg c, decide_eq_false c]; rfl
      · rw [if_neg (show ¬ K i = 6 from hk3)] at hQ
        refine ⟨fun _ => ?_, fun x => absurd rfl x⟩
        rw [atP_2]
        exact r_cmp (M := atP M (b i) (b i)) (atP_T h) hb hn hT hi (PT_b hT hi) hs hσ hQ
/-! seven levels -/
theorem lp_all_386 : W_m_readAllOf_386_9 = lpW 2989961357 10 W_m_readAtom_387 := by
  funext Q N
  induction N with
  | zero => rfl
  | succ N ih =>
    funext M
    show B_m_readAllOf_386_9 Q N (W_m_readAllOf_386_9 Q N) M = _
    rw [ih]
    rfl
theorem jn_all_386 : W_m_readAllOf_386 = jnW 2989961357 10 W_m_readAtom_387 := by
  funext N M Q
  unfold W_m_readAllOf_386 jnW
  rw [lp_all_386]
theorem lp_cond_385 : W_m_readCond_385_9 = lpW 12138383 11 W_m_readAllOf_386 := by
  funext Q N
  induction N with
  | zero => rfl
  | succ N ih =>
    funext M
    show B_m_readCond_385_9 Q N (W_m_readCond_385_9 Q N) M = _
    rw [ih]
    rfl
theorem jn_cond_385 : W_m_readCond_385 = jnW 12138383 11 (jnW 2989961357 10 W_m_readAtom_387) := by
  funext N M Q
  unfold W_m_readCond_385
  rw [lp_cond_385, jn_all_386]
  rfl
theorem lp_all_383 : W_m_readAllOf_383_9 = lpW 2989961357 10 W_m_readAtom_384 := by
  funext Q N
  induction N with
  | zero => rfl
  | succ N ih =>
    funext M
    show B_m_readAllOf_383_9 Q N (W_m_readAllOf_383_9 Q N) M = _
    rw [ih]
    rfl
theorem jn_all_383 : W_m_readAllOf_383 = jnW 2989961357 10 W_m_readAtom_384 := by
  funext N M Q
  unfold W_m_readAllOf_383 jnW
  rw [lp_all_383]
theorem lp_cond_382 : W_m_readCond_382_9 = lpW 12138383 11 W_m_readAllOf_383 := by
  funext Q N
  induction N with
  | zero => rfl
  | succ N ih =>
    funext M
    show B_m_readCond_382_9 Q N (W_m_readCond_382_9 Q N) M = _
    rw [ih]
    rfl
theorem jn_cond_382 : W_m_readCond_382 = jnW 12138383 11 (jnW 2989961357 10 W_m_readAtom_384) := by
  funext N M Q
  unfold W_m_readCond_382
  rw [lp_cond_382, jn_all_383]
  rfl
theorem lp_all_380 : W_m_readAllOf_380_9 = lpW 2989961357 10 W_m_readAtom_381 := by
  funext Q N
  induction N with
  | zero => rfl
  | succ N ih =>
    funext M
    show B_m_readAllOf_380_9 Q N (W_m_readAllOf_380_9 Q N) M = _
    rw [ih]
    rfl
theorem jn_all_380 : W_m_readAllOf_380 = jnW 2989961357 10 W_m_readAtom_381 := by
  funext N M Q
  unfold W_m_readAllOf_380 jnW
  rw [lp_all_380]
theorem lp_cond_379 : W_m_readCond_379_9 = lpW 12138383 11 W_m_readAllOf_380 := by
  funext Q N
  induction N with
  | zero => rfl
  | succ N ih =>
    funext M
    show B_m_readCond_379_9 Q N (W_m_readCond_379_9 Q N) M = _
    rw [ih]
    rfl
theorem jn_cond_379 : W_m_readCond_379 = jnW 12138383 11 (jnW 2989961357 10 W_m_readAtom_381) := by
  funext N M Q
  unfold W_m_readCond_379
  rw [lp_cond_379, jn_all_380]
  rfl
theorem lp_all_377 : W_m_readAllOf_377_9 = lpW 2989961357 10 W_m_readAtom_378 := by
  funext Q N
  induction N with
  | zero => rfl
  | succ N ih =>
    funext M
    show B_m_readAllOf_377_9 Q N (W_m_readAllOf_377_9 Q N) M = _
    rw [ih]
    rfl
theorem jn_all_377 : W_m_readAllOf_377 = jnW 2989961357 10 W_m_readAtom_378 := by
  funext N M Q
  unfold W_m_readAllOf_377 jnW
  rw [lp_all_377]
theorem lp_cond_376 : W_m_readCond_376_9 = lpW 12138383 11 W_m_readAllOf_377 := by
  funext Q N
  induction N with
  | zero => rfl
  | succ N ih =>
    funext M
    show B_m_readCond_376_9 Q N (W_m_readCond_376_9 Q N) M = _
    rw [ih]
    rfl
theorem jn_cond_376 : W_m_readCond_376 = jnW 12138383 11 (jnW 2989961357 10 W_m_readAtom_378) := by
  funext N M Q
  unfold W_m_readCond_376
  rw [lp_cond_376, jn_all_377]
  rfl
theorem lp_all_374 : W_m_readAllOf_374_9 = lpW 2989961357 10 W_m_readAtom_375 := by
  funext Q N
  induction N with
  | zero => rfl
  | succ N ih =>
    funext M
    show B_m_readAllOf_374_9 Q N (W_m_readAllOf_374_9 Q N) M = _
    rw [ih]
    rfl
theorem jn_all_374 : W_m_readAllOf_374 = jnW 2989961357 10 W_m_readAtom_375 := by
  funext N M Q
  unfold W_m_readAllOf_374 jnW
  rw [lp_all_374]
theorem lp_cond_373 : W_m_readCond_373_9 = lpW 12138383 11 W_m_readAllOf_374 := by
  funext Q N
  induction N with
  | zero => rfl
  | succ N ih =>
    funext M
    show B_m_readCond_373_9 Q N (W_m_readCond_373_9 Q N) M = _
    rw [ih]
    rfl
theorem jn_cond_373 : W_m_readCond_373 = jnW 12138383 11 (jnW 2989961357 10 W_m_readAtom_375) := by
  funext N M Q
  unfold W_m_readCond_373
  rw [lp_cond_373, jn_all_374]
  rfl
theorem lp_all_371 : W_m_readAllOf_371_9 = lpW 2989961357 10 W_m_readAtom_372 := by
  funext Q N
  induction N with
  | zero => rfl
  | succ N ih =>
    funext M
    show B_m_readAllOf_371_9 Q N (W_m_readAllOf_371_9 Q N) M = _
    rw [ih]
    rfl
theorem jn_all_371 : W_m_readAllOf_371 = jnW 2989961357 10 W_m_readAtom_372 := by
  funext N M Q
  unfold W_m_readAllOf_371 jnW
  rw [lp_all_371]
theorem lp_cond_370 : W_m_readCond_370_9 = lpW 12138383 11 W_m_readAllOf_371 := by
  funext Q N
  induction N with
  | zero => rfl
  | succ N ih =>
    funext M
    show B_m_readCond_370_9 Q N (W_m_readCond_370_9 Q N) M = _
    rw [ih]
    rfl
theorem jn_cond_370 : W_m_readCond_370 = jnW 12138383 11 (jnW 2989961357 10 W_m_readAtom_372) := by
  funext N M Q
  unfold W_m_readCond_370
  rw [lp_cond_370, jn_all_371]
  rfl
theorem lp_all : W_m_readAllOf_9 = lpW 2989961357 10 W_m_readAtom := by
  funext Q N
  induction N with
  | zero => rfl
  | succ N ih =>
    funext M
    show B_m_readAllOf_9 Q N (W_m_readAllOf_9 Q N) M = _
    rw [ih]
    rfl
theorem jn_all : W_m_readAllOf = jnW 2989961357 10 W_m_readAtom := by
  funext N M Q
  unfold W_m_readAllOf jnW
  rw [lp_all]
theorem lp_cond : W_m_readCond_9 = lpW 12138383 11 W_m_readAllOf := by
  funext Q N
  induction N with
  | zero => rfl
  | succ N ih =>
    funext M
    show B_m_readCond_9 Q N (W_m_readCond_9 Q N) M = _
    rw [ih]
    rfl
theorem jn_cond : W_m_readCond = jnW 12138383 11 (jnW 2989961357 10 W_m_readAtom) := by
  funext N M Q
  unfold W_m_readCond
  rw [lp_cond, jn_all]
  rfl
theorem at_l1 : W_m_readAtom_384 = atomW W_m_readCond_385 W_m_readAtom_387 := rfl
theorem at_l2 : W_m_readAtom_381 = atomW W_m_readCond_382 W_m_readAtom_384 := rfl
theorem at_l3 : W_m_readAtom_378 = atomW W_m_readCond_379 W_m_readAtom_381 := rfl
theorem at_l4 : W_m_readAtom_375 = atomW W_m_readCond_376 W_m_readAtom_378 := rfl
theorem at_l5 : W_m_readAtom_372 = atomW W_m_readCond_373 W_m_readAtom_375 := rfl
theorem at_l6 : W_m_readAtom = atomW W_m_readCond_370 W_m_readAtom_372 := rfl
theorem r_lv0 {F : Nat} (hb : BOK f n) (hn : n ≤ 400) (hT : TKS f n t K V b e) (hF : 400 < F) : RDR f n t b e W_m_readAtom_387 (pAtom K V F 0) (i32 6) ∧ RDR f n t b e W_m_readCond_385 (pCond K V F 0) (i32 6) := by
  have h := r_atom0 (F := F) (K := K) (V := V) hb hn hT
  exact ⟨h, jn_cond_385 ▸ r_cond hb hn hT hF h⟩
theorem r_lv1 {F : Nat} (hb : BOK f n) (hn : n ≤ 400) (hT : TKS f n t K V b e) (hF : 400 < F) : RDR f n t b e W_m_readAtom_384 (pAtom K V F 1) (i32 5) ∧ RDR f n t b e W_m_readCond_382 (pCond K V F 1) (i32 5) := by
  have hh := r_lv0 (F := F) (K := K) (V := V) hb hn hT hF
  have h : RDR f n t b e W_m_readAtom_384 (pAtom K V F 1) (i32 5) := at_l1 ▸ r_atomS (d := 5) hb hn hT (by omega) hh.2 hh.1
  exact ⟨h, jn_cond_382 ▸ r_cond hb hn hT hF h⟩
theorem r_lv2 {F : Nat} (hb : BOK f n) (hn : n ≤ 400) (hT : TKS f n t K V b e) (hF : 400 < F) : RDR f n t b e W_m_readAtom_381 (pAtom K V F 2) (i32 4) ∧ RDR f n t b e W_m_readCond_379 (pCond K V F 2) (i32 4) := by
  have hh := r_lv1 (F := F) (K := K) (V := V) hb hn hT hF
  have h : RDR f n t b e W_m_readAtom_381 (pAtom K V F 2) (i32 4) := at_l2 ▸ r_atomS (d := 4) hb hn hT (by omega) hh.2 hh.1
  exact ⟨h, jn_cond_379 ▸ r_cond hb hn hT hF h⟩
theorem r_lv3 {F : Nat} (hb : BOK f n) (hn : n ≤ 400) (hT : TKS f n t K V b e) (hF : 400 < F) : RDR f n t b e W_m_readAtom_378 (pAtom K V F 3) (i32 3) ∧ RDR f n t b e W_m_readCond_376 (pCond K V F 3) (i32 3) := by
  have hh := r_lv2 (F := F) (K := K) (V := V) hb hn hT hF
  have h : RDR f n t b e W_m_readAtom_378 (pAtom K V F 3) (i32 3) := at_l3 ▸ r_atomS (d := 3) hb hn hT (by omega) hh.2 hh.1
  exact ⟨h, jn_cond_376 ▸ r_cond hb hn hT hF h⟩
theorem r_lv4 {F : Nat} (hb : BOK f n) (hn : n ≤ 400) (hT : TKS f n t K V b e) (hF : 400 < F) : RDR f n t b e W_m_readAtom_375 (pAtom K V F 4) (i32 2) ∧ RDR f n t b e W_m_readCond_373 (pCond K V F 4) (i32 2) := by
  have hh := r_lv3 (F := F) (K := K) (V := V) hb hn hT hF
  have h : RDR f n t b e W_m_readAtom_375 (pAtom K V F 4) (i32 2) := at_l4 ▸ r_atomS (d := 2) hb hn hT (by omega) hh.2 hh.1
  exact ⟨h, jn_cond_373 ▸ r_cond hb hn hT hF h⟩
theorem r_lv5 {F : Nat} (hb : BOK f n) (hn : n ≤ 400) (hT : TKS f n t K V b e) (hF : 400 < F) : RDR f n t b e W_m_readAtom_372 (pAtom K V F 5) (i32 1) ∧ RDR f n t b e W_m_readCond_370 (pCond K V F 5) (i32 1) := by
  have hh := r_lv4 (F := F) (K := K) (V := V) hb hn hT hF
  have h : RDR f n t b e W_m_readAtom_372 (pAtom K V F 5) (i32 1) := at_l5 ▸ r_atomS (d := 1) hb hn hT (by omega) hh.2 hh.1
  exact ⟨h, jn_cond_370 ▸ r_cond hb hn hT hF h⟩
theorem r_lv6 {F : Nat} (hb : BOK f n) (hn : n ≤ 400) (hT : TKS f n t K V b e) (hF : 400 < F) : RDR f n t b e W_m_readAtom (pAtom K V F 6) (i32 0) ∧ RDR f n t b e W_m_readCond (pCond K V F 6) (i32 0) := by
  have hh := r_lv5 (F := F) (K := K) (V := V) hb hn hT hF
  have h : RDR f n t b e W_m_readAtom (pAtom K V F 6) (i32 0) := at_l6 ▸ r_atomS (d := 0) hb hn hT (by omega) hh.2 hh.1
  exact ⟨h, jn_cond ▸ r_cond hb hn hT hF h⟩
end RJ
end
section
/-! A CLAUSE, A CODE: what they mean; the reference's reading of a clause -/
abbrev CLS : Type := Int32 × Int32 × BF
def pDeed (K V : Nat → Int32) (F : Nat) (dem : Int32) (i : Nat) : Option CLS × Nat := if K i = 20 then (if 7 < V i then (none, i) else if K (i + 1) = 2 then (match pCond K V F 6 (i + 2) with
      | (none, j) => (none, j)
      | (some c, j) => (some (dem, V i, c), j)) else (some (dem, V i, fun _ _ _ _ => true), i + 1)) else (none, i)
def pClause (K V : Nat → Int32) (F i : Nat) : Option CLS × Nat := if K i = 1 then pDeed K V F 1 (i + 1) else if K i = 0 then pDeed K V F 0 (i + 1) else (none, i)
def zL : LWT := (0, fun _ => 0, fun _ => 0, fun _ _ _ _ _ => false)
def lput (L : LWT) (q : CLS) : LWT := (L.1 + 1, up1 L.2.1 L.1 q.1, up1 L.2.2.1 L.1 q.2.1, fun k => if k = L.1 then q.2.2 else L.2.2.2 k)
def pLaw (K V : Nat → Int32) (F : Nat) : Nat → LWT → Nat → Option LWT × Nat
  | 0, _, i => (none, i)
  | m + 1, L, i => match pClause K V F i with
    | (none, j) => (none, j)
    | (some q, j) => if K j = 21 then (some (lput L q), j) else if K j = 59 then pLaw K V F m (lput L q) (j + 1) else (none, j)
def pCode (K V : Nat → Int32) (F : Nat) : Option LWT × Nat := if K 0 = 21 then (some zL, 0) else pLaw K V F 12 zL 0
def deedW (p1 x : Int32) (N : Nat) (M : MM) (Q : Int32 → MM → Prop) : Prop :=
  W_m_number 0 7 N (wi M 201 (ni (4 * p1)) x) (fun r9 M10 =>
                ((((wi M10 201 (ni ((4 * p1) + 1)) r9).1 201 (ni ((4 * p1) + 1))) < 0 →
                  Q 0 (wi M10 201 (ni ((4 * p1) + 1)) r9)) ∧
                 (¬ ((wi M10 201 (ni ((4 * p1) + 1)) r9).1 201 (ni ((4 * p1) + 1))) < 0 →
                  W_m_passes 11744405 N (wi (wi (wi M10 201 (ni ((4 * p1) + 1)) r9) 201 (ni ((4 * p1) + 2)) ((wi M10 201 (ni ((4 * p1) + 1)) r9).1 190 25)) 190 22 0) (fun r12 M13 =>
                    ((r12 = 0 →
                      Q 1 (wi M13 201 (ni ((4 * p1) + 3)) (M13.1 190 25))) ∧
                     (¬ r12 = 0 →
                      W_m_readCond  N M13 (fun r15 M16 =>
                        ((r15 = 0 →
                          Q 0 M16) ∧
                         (¬ r15 = 0 →
                          Q 1 (wi M16 201 (ni ((4 * p1) + 3)) (M16.1 190 25)))))))))))
/-- clause k, told by the steps from σ to σ' -/
def RCL (M M' : MM) (k σ σ' : Nat) (q : CLS) : Prop := M'.1 190 25 = i32 σ' ∧ (∀ x, x < 2 * σ → M'.1 202 x = M.1 202 x) ∧ (∀ x, x < 4 * k → M'.1 201 x = M.1 201 x) ∧ M'.1 201 (4 * k) = q.1 ∧ M'.1 201 (4 * k + 1) = q.2.1 ∧ M'.1 201 (4 * k + 2) = i32 σ ∧ M'.1 201 (4 * k + 3) = i32 σ' ∧ ∀ pl wh kn dy val, rfin (rrun (M'.1 202) pl wh kn dy σ (σ' - σ) (0, val)) = q.2.2 pl wh kn dy
def RCR (f : BY) (n t : Nat) (b e : Nat → Nat) (M : MM) (k σ i : Nat) (res : Option CLS × Nat) (r : Int32) (M' : MM) : Prop := (r = 1 ∧ ∃ q j p' g' σ', res = (some q, j) ∧ j ≤ t ∧ i < j ∧ TXr M' f n p' g' ∧ PT e b j p' ∧ σ' + i ≤ σ + j ∧ σ ≤ σ' ∧ RCL M M' k σ σ' q) ∨ (r = 0 ∧ ∃ j, res = (none, j) ∧ j ≤ t ∧ M'.1 190 21 = i32 (b j))
section RCS
variable {f : BY} {n t : Nat} {K V : Nat → Int32} {b e : Nat → Nat}
theorem t_wd {s k i e' : Nat} (hs : stL s = dwL k) (hk : k < 20) (hT : TKS f n t K V b e) (hi : i ≤ t) (he : ENd (LT f n) n (b i) e') : (wdL f (b i) e' = stL s) ↔ K i = i32 k := by
  rw [hs]
  by_cases hl : LT f n (b i)
  · obtain ⟨w1, r, w2, w3⟩ := tk_word hT hi hl
    obtain rfl := ENd_u he w1
    have hr : r < 23 := by rcases w2 with ⟨c, -⟩ | ⟨c, -⟩ <;> omega
    rw [wnm_k w2 hk, w3]
    exact (i32_ij (by omega) (by omega)).symm
  · have hd : ENd (LT f n) n (b i) (b i) := ⟨Nat.le_refl _, (hT.2.2.2 i hi).2.1, fun j j1 j2 => by omega, hl⟩
    obtain rfl := ENd_u he hd
    have hK := tk_now hT hi hl
    constructor
    · intro x
      have := (wd_iff.mp x).1
      have := wln_p k hk
      omega
    · intro x
      rw [x, i32_i (by omega)] at hK
      omega
theorem t_we {i k e' : Nat} (hk : k < 20) (hT : TKS f n t K V b e) (hi : i ≤ t) (he : ENd (LT f n) n (b i) e') (h : K i = i32 k) : e' = e i := by
  have hl : LT f n (b i) := by
    rcases Classical.em (LT f n (b i)) with c | c
    · exact c
    · have := tk_now hT hi c
      rw [h, i32_i (by omega)] at this
      omega
  exact ENd_u he (tk_word hT hi hl).1
theorem r_deed {N k σ i p g : Nat} {x : Int32} {F : Nat} {M : MM} {Q : Int32 → MM → Prop} (hF : 400 < F) (hk : k < 12) (h : TXr M f n p g) (hb : BOK f n) (hn : n ≤ 400) (hT : TKS f n t K V b e) (hi : i ≤ t) (hp : PT e b i p) (hs : M.1 190 25 = i32 σ) (hσ : σ ≤ i) (hQ : ∀ r M', RCR f n t b e M k σ i (pDeed K V F x i) r M' → Q r M') : deedW (i32 k) x N M Q := by
  have ht := hT.1
  have q0 : ni (4 * i32 k) = 4 * k := by
    rw [show (4 : Int32) * i32 k = i32 (4 * k) from i32_m 4 k, ni_i (by omega)]
  have q1 : ni (4 * i32 k + 1) = 4 * k + 1 := by
    rw [show (4 : Int32) * i32 k = i32 (4 * k) from i32_m 4 k, i32_s, ni_i (by omega)]
  have q2 : ni (4 * i32 k + 2) = 4 * k + 2 := by
    rw [show (4 : Int32) * i32 k = i32 (4 * k) from i32_m 4 k, show i32 (4 * k) + 2 = i32 (4 * k + 2) from i32_a (4 * k) 2, ni_i (by omega)]
  have q3 : ni (4 * i32 k + 3) = 4 * k + 3 := by
    rw [show (4 : Int32) * i32 k = i32 (4 * k) from i32_m 4 k, show i32 (4 * k) + 3 = i32 (4 * k + 3) from i32_a (4 * k) 3, ni_i (by omega)]
  unfold deedW
  rw [q0, q1, q2, q3]
  have h1 : TXr (wi M 201 (4 * k) x) f n p g := TXr_e h eqo_a rfl
  unfold pDeed at hQ
  refine t_number (by decide) h1 hb hn hT hi hp ⟨fun hk20 => ?_, fun hk20 => ?_⟩
  · rw [if_pos hk20] at hQ
    obtain ⟨m, m1, m2⟩ := tk_V hT hi hk20
    have hneg : ¬ V i < 0 := by
      rw [m2, lt_lit, i32_i (by omega)]
      show ¬ (m : Int) < 0
      omega
    rw [if_neg hneg]
    by_cases c : 7 < V i
    · rw [if_pos c] at hQ ⊢
      rw [wi_1e]
      exact ⟨fun _ => hQ 0 _ (Or.inr ⟨rfl, i, rfl, hi, rfl⟩), fun y => absurd (by decide) y⟩
    · rw [if_neg c] at hQ ⊢
      rw [wi_1e]
      refine ⟨fun y => absurd y hneg, fun _ => ?_⟩
      have hlt := tk_lt hT hi (by rw [hk20]; decide)
      have s25 : ∀ M' : MM, (wi (atP (wi M 201 (4 * k) x) (e i) (b i)) 201 (4 * k + 1) (V i)).1 190 25 = i32 σ := fun _ => hs
      rw [s25 M]
      generalize hMa : wi (wi (wi (atP (wi M 201 (4 * k) x) (e i) (b i)) 201 (4 * k + 1) (V i)) 201 (4 * k + 2) (i32 σ)) 190 22 0 = Ma
      have ta : TXr Ma f n (e i) (b i) := hMa ▸ TXr_22 (TXr_e (atP_T h1) (eqo_app eqo_a eqo_a) rfl)
      have sa : Ma.1 190 25 = i32 σ := by rw [← hMa]; exact hs
      have a22 : Ma.1 190 22 = 0 := by rw [← hMa]; exact wi_1e
      have a202 : Ma.1 202 = M.1 202 := by rw [← hMa]; rfl
      have a201 : ∀ y, y < 4 * k → Ma.1 201 y = M.1 201 y := fun y hy => by
        rw [← hMa, wi_1n (by omega), wi_1n (by omega), wi_1n (by omega)]
        show (wi M 201 (4 * k) x).1 201 y = _
        rw [wi_1n (by omega)]
      have b0 : Ma.1 201 (4 * k) = x := by
        rw [← hMa, wi_1n (by omega), wi_1n (by omega), wi_1n (by omega)]
        show (wi M 201 (4 * k) x).1 201 (4 * k) = _
        exact wi_1e
      have b1 : Ma.1 201 (4 * k + 1) = V i := by
        rw [← hMa, wi_1n (by omega), wi_1n (by omega), wi_1e]
      have b2 : Ma.1 201 (4 * k + 2) = i32 σ := by
        rw [← hMa, wi_1n (by omega), wi_1e]
      refine t_passes st_if (by omega) ta hb hn hT (by omega) (PT_s hT hlt) ⟨fun hif => ?_, fun hif => ?_⟩
      · rw [if_pos (show K (i + 1) = 2 from hif)] at hQ
        refine ⟨fun y => absurd y (by decide), fun _ => ?_⟩
        have hlt2 := tk_lt hT (by omega) (show ¬ K (i + 1) = 21 by rw [hif]; decide)
        refine and_m_readCond (Q1 := fun r M' => (r = 1 ∧ ∃ c j p' g' σ', pCond K V F 6 (i + 2) = (some c, j) ∧ j ≤ t ∧ i + 2 < j ∧ TXr M' f n p' g' ∧ PT e b j p' ∧ M'.1 190 25 = i32 σ' ∧ σ' + (i + 2) ≤ σ + j ∧ σ ≤ σ' ∧ BMg (M'.1 202) σ σ' c ∧ (∀ x, x < 2 * σ → M'.1 202 x = M.1 202 x)) ∨ (r = 0 ∧ ∃ j, pCond K V F 6 (i + 2) = (none, j) ∧ j ≤ t ∧ M'.1 190 21 = i32 (b j))) (Q2 := fun _ M' => Eqo fp_m_readCond (atP Ma (e (i + 1)) (b (i + 1))) M') (fun r M' h1 h2 => ?_) ?_ (an_m_readCond (fun r M' h => h))
        · have f201 : M'.1 201 = Ma.1 201 := eqb h2 (lo := 201) (hi := 201) rfl (Nat.le_refl _) (Nat.le_refl _)
          rcases h1 with ⟨rfl, c, j, p', g', σ', j1, j2, j3, j4, j5, j6, j7, j8, j9, j10⟩ | ⟨rfl, j, j1, j2, j3⟩
          · refine ⟨fun y => absurd y (by decide), fun _ => hQ 1 _ (Or.inl ⟨rfl, _, j, p', g', σ', by rw [j1], j2, by omega, TXr_e j4 eqo_a rfl, j5, by omega, j8, ?_⟩)⟩
            refine ⟨j6, fun y hy => j10 y hy, fun y hy => ?_, ?_, ?_, ?_, ?_, fun pl wh kn dy val => ?_⟩
            · rw [wi_1n (by omega), f201]; exact a201 y hy
            · rw [wi_1n (by omega), f201]; exact b0
            · rw [wi_1n (by omega), f201]; exact b1
            · rw [wi_1n (by omega), f201]; exact b2
            · rw [wi_1e, j6]
            · obtain ⟨v, v1, v2, v3⟩ := j9 pl wh kn dy val 0 (by omega)
              show rfin (rrun (M'.1 202) pl wh kn dy σ (σ' - σ) (i32 0, val)) = c pl wh kn dy
              rw [v1]
              unfold rfin
              dsimp only
              have hv : v 0 = b32 (c pl wh kn dy) := v2
              show (decide (i32 (0 + 1) = 0) || decide (v 0 = 1)) = c pl wh kn dy
              rw [hv, show decide (i32 (0 + 1) = 0) = false from by decide, Bool.false_or]
              cases c pl wh kn dy <;> decide
          · exact ⟨fun _ => hQ 0 _ (Or.inr ⟨rfl, j, by rw [j1], j2, j3⟩), fun y => absurd rfl y⟩
        · refine (r_lv6 hb hn hT hF).2 N _ (e (i + 1)) (b (i + 1)) (i + 2) σ _ (atP_T ta) (PT_s hT hlt2) (by omega) sa (by omega) a22 ⟨fun c j hj hjt hij M' p' g' σ' t1 k1 c1 d1 d2 m1 f1 y1 => Or.inl ⟨rfl, c, j, p', g', σ', hj, hjt, hij, t1, k1, c1, d1, d2, m1, fun y hy => (f1 y hy).trans (congrFun a202 y)⟩, fun j hj hjt M' x1 => Or.inr ⟨rfl, j, hj, hjt, x1⟩⟩
      · rw [if_neg (show ¬ K (i + 1) = 2 from hif)] at hQ
        refine ⟨fun _ => ?_, fun y => absurd rfl y⟩
        refine hQ 1 _ (Or.inl ⟨rfl, _, i + 1, _, _, σ, rfl, by omega, by omega, TXr_e (atP_T (p' := b (i + 1)) (g' := b (i + 1)) ta) eqo_a rfl, PT_b hT (by omega), by omega, by omega, ?_⟩)
        refine ⟨sa, fun y hy => congrFun a202 y, fun y hy => ?_, ?_, ?_, ?_, ?_, fun pl wh kn dy val => ?_⟩
        · rw [wi_1n (by omega)]; exact a201 y hy
        · rw [wi_1n (by omega)]; exact b0
        · rw [wi_1n (by omega)]; exact b1
        · rw [wi_1n (by omega)]; exact b2
        · rw [wi_1e]; exact sa
        · rw [Nat.sub_self]
          rfl
  · rw [if_neg hk20] at hQ
    rw [wi_1e]
    exact ⟨fun _ => hQ 0 _ (Or.inr ⟨rfl, i, rfl, hi, rfl⟩), fun y => absurd (by decide) y⟩
theorem RCR_up {M M' : MM} {k σ i : Nat} {res : Option CLS × Nat} {r : Int32} {M0 : MM} (h : RCR f n t b e M k σ (i + 1) res r M') (e1 : ∀ x, x < 2 * σ → M.1 202 x = M0.1 202 x) (e2 : ∀ x, x < 4 * k → M.1 201 x = M0.1 201 x) : RCR f n t b e M0 k σ i res r M' := by
  rcases h with ⟨rfl, q, j, p', g', σ', h1, h2, h3, h4, h5, h6, h7, c1, c2, c3, c4⟩ | h
  · exact Or.inl ⟨rfl, q, j, p', g', σ', h1, h2, by omega, h4, h5, by omega, h7, c1, fun x hx => (c2 x hx).trans (e1 x hx), fun x hx => (c3 x hx).trans (e2 x hx), c4⟩
  · exact Or.inr h
theorem r_line {N k σ i p g : Nat} {F : Nat} {M : MM} {Q : Int32 → MM → Prop} (hF : 400 < F) (hk : k ≤ 12) (h : TXr M f n p g) (hb : BOK f n) (hn : n ≤ 400) (hT : TKS f n t K V b e) (hi : i ≤ t) (hp : PT e b i p) (hs : M.1 190 25 = i32 σ) (hσ : σ ≤ i) (hQ : ∀ r M', RCR f n t b e M k σ i (if k = 12 then (none, i) else pClause K V F i) r M' → Eqo ([(190, 190, some 19), (190, 190, some 21)] ++ fp_m_readClause) M M' → Q r M') : W_m_readLine 1 (i32 k) N M Q := by
  unfold W_m_readLine
  refine r_letters h hb hn (tk_pn hT hi hp) (fun q e' hq he => ?_)
  obtain rfl := NB_u hq (tk_nb hT hi hp)
  refine ⟨fun x => absurd x (by decide), fun _ => ?_⟩
  have eA : Eqo [(190, 190, some 19), (190, 190, some 21)] M (atP M e' (b i)) := fun c j hc => by
    refine ⟨?_, rfl⟩
    show (if c = 190 ∧ j = 19 then i32 e' else if c = 190 ∧ j = 21 then i32 (b i) else M.1 c j) = M.1 c j
    by_cases x1 : c = 190 ∧ j = 19
    · obtain ⟨rfl, rfl⟩ := x1
      exact absurd hc (by decide)
    · rw [if_neg x1]
      by_cases x2 : c = 190 ∧ j = 21
      · obtain ⟨rfl, rfl⟩ := x2
        exact absurd hc (by decide)
      · rw [if_neg x2]
  refine and_m_readClause (Q1 := fun r M' => RCR f n t b e M k σ i (if k = 12 then (none, i) else pClause K V F i) r M') (Q2 := fun _ M' => Eqo fp_m_readClause (atP M e' (b i)) M') (fun r M' h1 h2 => ?_) ?_ (an_m_readClause (fun r M' h => h))
  · exact hQ r M' h1 (eqo_app eA h2)
  unfold W_m_readClause
  refine ⟨fun x => ?_, fun x => ?_⟩
  · have hk' : k = 12 := (i32_ij (b := 12) (by omega) (by omega)).mp x
    rw [if_pos hk']
    exact Or.inr ⟨rfl, i, rfl, hi, rfl⟩
  · have hk' : ¬ k = 12 := fun y => x (by rw [y]; rfl)
    rw [if_neg hk']
    have tA : TXr (atP M e' (b i)) f n e' (b i) := atP_T h
    have dd : ∀ {x0 : Int32} {r2 : Nat}, r2 < 20 → K i = i32 r2 → pClause K V F i = pDeed K V F x0 (i + 1) → deedW (i32 k) x0 N (atP M e' (b i)) (fun r M' => RCR f n t b e M k σ i (pClause K V F i) r M') := fun {x0 r2} hr2 hK hp2 => by
      obtain rfl := t_we hr2 hT hi he hK
      have hlt := tk_lt hT hi (by rw [hK]; exact fun y => by have := (i32_ij (b := 21) (by omega) (by omega)).mp y; omega)
      rw [hp2]
      exact r_deed hF (by omega) tA hb hn hT (by omega) (PT_s hT hlt) hs (by omega) (fun r M' hr => RCR_up hr (fun _ _ => rfl) (fun _ _ => rfl))
    refine r_isWord tA hb hn he st_always.2 ?_
    rw [show decide (wdL f (b i) e' = stL 52280337941016721) = decide (K i = 1) from decide_eq_decide.mpr (t_wd (k := 1) st_always.1 (by decide) hT hi he)]
    refine ⟨fun r2 => ?_, fun r2 => ?_⟩
    · rw [b32_eq0, decide_eq_false_iff_not] at r2
      refine r_isWord tA hb hn he st_never.2 ?_
      rw [show decide (wdL f (b i) e' = stL 203627540166419) = decide (K i = 0) from decide_eq_decide.mpr (t_wd (k := 0) st_never.1 (by decide) hT hi he)]
      refine ⟨fun r5 => ?_, fun r5 => ?_⟩
      · rw [b32_eq0, decide_eq_false_iff_not] at r5
        refine Or.inr ⟨rfl, i, ?_, hi, rfl⟩
        unfold pClause
        rw [if_neg r2, if_neg r5]
      · rw [b32_ne0, decide_eq_true_eq] at r5
        refine ⟨fun _ => ?_, fun y => absurd (by rw [decide_eq_false r2]; rfl) y⟩
        refine dd (r2 := 0) (by omega) r5 ?_
        unfold pClause
        rw [if_neg r2, if_pos r5]
    · rw [b32_ne0, decide_eq_true_eq] at r2
      refine ⟨fun y => ?_, fun _ => ?_⟩
      · rw [decide_eq_true r2] at y
        exact absurd y (by decide)
      · refine dd (r2 := 1) (by omega) r2 ?_
        unfold pClause
        rw [if_pos r2]
end RCS
end
section
/-! THE REFERENCE'S READING OF A CODE -/
theorem pDeed_d {K V : Nat → Int32} {F i j : Nat} {x : Int32} {q : CLS} (h : pDeed K V F x i = (some q, j)) : q.1 = x := by
  unfold pDeed at h
  have nn : ∀ {j' : Nat}, ((none : Option CLS), j') = (some q, j) → q.1 = x := fun h => by
    have : (none : Option CLS) = some q := congrArg Prod.fst h
    cases this
  have ss : ∀ {c : BF} {j' : Nat}, ((some (x, V i, c) : Option CLS), j') = (some q, j) → q.1 = x := fun {c j'} h => by
    have : (some (x, V i, c) : Option CLS) = some q := congrArg Prod.fst h
    injection this with this
    rw [← this]
  by_cases c1 : K i = 20
  · rw [if_pos c1] at h
    by_cases c2 : 7 < V i
    · rw [if_pos c2] at h
      exact nn h
    · rw [if_neg c2] at h
      by_cases c3 : K (i + 1) = 2
      · rw [if_pos c3] at h
        cases hc : pCond K V F 6 (i + 2) with
        | mk o j' =>
          rw [hc] at h
          cases o with
          | none => exact nn h
          | some c => exact ss h
      · rw [if_neg c3] at h
        exact ss h
  · rw [if_neg c1] at h
    exact nn h
theorem pClause_d {K V : Nat → Int32} {F i j : Nat} {q : CLS} (h : pClause K V F i = (some q, j)) : q.1 = 1 ∨ q.1 = 0 := by
  unfold pClause at h
  by_cases c1 : K i = 1
  · rw [if_pos c1] at h
    exact Or.inl (pDeed_d h)
  · rw [if_neg c1] at h
    by_cases c2 : K i = 0
    · rw [if_pos c2] at h
      exact Or.inr (pDeed_d h)
    · rw [if_neg c2] at h
      have : (none : Option CLS) = some q := congrArg Prod.fst h
      cases this
/-- the clauses that stand, told by steps below σ -/
def RLw (M : MM) (L : LWT) (σ : Nat) : Prop := L.1 ≤ 12 ∧ ∀ k, k < L.1 → (if M.1 201 (4 * k) = 1 then (1 : Int32) else 0) = L.2.1 k ∧ M.1 201 (4 * k + 1) = L.2.2.1 k ∧ ∃ s s', M.1 201 (4 * k + 2) = i32 s ∧ M.1 201 (4 * k + 3) = i32 s' ∧ s ≤ s' ∧ s' ≤ σ ∧ ∀ pl wh kn dy val, rfin (rrun (M.1 202) pl wh kn dy s (s' - s) (0, val)) = L.2.2.2 k pl wh kn dy
theorem RLw_R {M : MM} {L : LWT} {σ : Nat} (h : RLw M L σ) (hσ : σ ≤ 400) : LawR M L := by
  refine ⟨h.1, fun k hk => ?_⟩
  obtain ⟨h1, h2, s, s', h3, h4, h5, h6, h7⟩ := h.2 k hk
  refine ⟨h1, h2, ?_, ?_, fun pl wh kn dy val _ => ?_⟩
  · rw [h3, i32_i (by omega)]
    omega
  · rw [h4, ni_i (by omega)]
    omega
  · unfold rT
    rw [h3, h4, ni_i (by omega), ni_i (by omega)]
    exact h7 pl wh kn dy val
theorem RLw_put {M M' : MM} {L : LWT} {σ σ' : Nat} {q : CLS} (h : RLw M L σ) (h12 : L.1 < 12) (hq : q.1 = 1 ∨ q.1 = 0) (hl : σ ≤ σ') (hc : RCL M M' L.1 σ σ' q) : RLw M' (lput L q) σ' := by
  obtain ⟨c1, c2, c3, c4, c5, c6, c7, c8⟩ := hc
  refine ⟨by show L.1 + 1 ≤ 12; omega, fun k hk => ?_⟩
  replace hk : k < L.1 + 1 := hk
  show _ = up1 L.2.1 L.1 q.1 k ∧ _ = up1 L.2.2.1 L.1 q.2.1 k ∧ ∃ s s', _ ∧ _ ∧ _ ∧ _ ∧ ∀ pl wh kn dy val, _ = (if k = L.1 then q.2.2 else L.2.2.2 k) pl wh kn dy
  by_cases e : k = L.1
  · subst e
    rw [up1_e, up1_e, if_pos rfl]
    refine ⟨?_, c5, σ, σ', c6, c7, hl, Nat.le_refl _, c8⟩
    rw [c4]
    rcases hq with h | h <;> rw [h] <;> decide
  · obtain ⟨h1, h2, s, s', h3, h4, h5, h6, h7⟩ := h.2 k (by omega)
    rw [up1_n e, up1_n e, if_neg e, c3 _ (by omega), c3 _ (by omega), c3 _ (by omega), c3 _ (by omega)]
    exact ⟨h1, h2, s, s', h3, h4, h5, by omega, fun pl wh kn dy val => by rw [rrun_cg _ _ _ (fun j hj => c2 j (by omega))]; exact h7 pl wh kn dy val⟩
theorem i32_ex (x : Int32) : ∃ g, x = i32 g := ⟨x.toBitVec.toNat, by
  apply Int32.toBitVec_inj.mp
  show x.toBitVec = BitVec.ofNat 32 x.toBitVec.toNat
  simp⟩
section RCO
variable {f : BY} {n t : Nat} {K V : Nat → Int32} {b e : Nat → Nat}
theorem tkn_21 {j : Nat} (hT : TKS f n t K V b e) (hj : j ≤ t) : b j = n ↔ K j = 21 := by
  constructor
  · intro h
    rcases Nat.lt_or_ge j t with c | c
    · have := hT.2.2.1 j c
      omega
    · obtain rfl : j = t := by omega
      exact tk_end hT
  · intro h
    rcases Nat.lt_or_ge j t with c | c
    · have hbn := hT.2.2.1 j c
      rcases (hT.2.2.2 j hj).1 with ⟨h1, -, ⟨r, hr, hk⟩, -⟩ | ⟨h1, -, hk, -⟩ | ⟨h1, h2, h3, h4, h5, hk, -⟩ | ⟨h1, -, hk, -⟩
      · rw [hk] at h
        have hr' : r < 23 := by rcases hr with ⟨c, -⟩ | ⟨c, -⟩ <;> omega
        have := (i32_ij (b := 21) (by omega) (by omega)).mp h
        rcases hr with ⟨c, -⟩ | ⟨c, -⟩ <;> omega
      · rw [hk] at h
        exact absurd h (by decide)
      · rw [hk, mx_22] at h
        by_cases c2 : (f (b j)).toInt < 22
        · rw [if_pos c2] at h
          exact absurd h (by decide)
        · rw [if_neg c2] at h
          rw [h] at c2
          exact absurd (by decide) c2
      · exact h1
    · obtain rfl : j = t := by omega
      exact hT.2.1
theorem tkn_59 {j : Nat} (hT : TKS f n t K V b e) (hj : j ≤ t) : ((b j < n ∧ 59 ≤ (f (b j)).toInt ∧ (f (b j)).toInt ≤ 59) ↔ K j = 59) ∧ (K j = 59 → e j = b j + 1) := by
  rcases (hT.2.2.2 j hj).1 with ⟨h1, -, ⟨r, hr, hk⟩, -⟩ | ⟨h1, -, hk, -⟩ | ⟨h1, h2, h3, h4, h5, hk, -⟩ | ⟨h1, -, hk, -⟩
  · have hr' : r < 23 := by rcases hr with ⟨c, -⟩ | ⟨c, -⟩ <;> omega
    have hne : ¬ K j = 59 := fun h => by
      rw [hk] at h
      have := (i32_ij (b := 59) (by omega) (by omega)).mp h
      omega
    exact ⟨⟨fun x => by have := h1.2; omega, fun x => absurd x hne⟩, fun x => absurd x hne⟩
  · have hne : ¬ K j = 59 := fun h => by
      rw [hk] at h
      exact absurd h (by decide)
    exact ⟨⟨fun x => by have := h1.2; omega, fun x => absurd x hne⟩, fun x => absurd x hne⟩
  · refine ⟨?_, fun _ => h5⟩
    rw [hk, mx_22]
    by_cases c2 : (f (b j)).toInt < 22
    · rw [if_pos c2]
      exact ⟨fun x => by omega, fun x => absurd x (by decide)⟩
    · rw [if_neg c2]
      constructor
      · intro x
        exact Int32.toInt_inj.mp (show (f (b j)).toInt = (59 : Int32).toInt by rw [show (59 : Int32).toInt = 59 from rfl]; omega)
      · intro x
        rw [x]
        exact ⟨h1, by decide⟩
  · have hne : ¬ K j = 59 := fun h => by
      rw [hk] at h
      exact absurd h (by decide)
    exact ⟨⟨fun x => by omega, fun x => absurd x hne⟩, fun x => absurd x hne⟩
abbrev fq2 : List (Nat × Nat × Option Nat) := [(190, 190, some 19), (190, 190, some 21), (201, 201, none), (190, 190, some 25), (190, 190, some 22), (202, 202, none)]
def RAR (f : BY) (n t : Nat) (b : Nat → Nat) (res : Option LWT × Nat) (r : Int32) (M' : MM) : Prop := (∃ L j, res = (some L, j) ∧ r = i32 L.1 ∧ LawR M' L) ∨ (∃ j, res = (none, j) ∧ j ≤ t ∧ r = -1 ∧ M'.1 190 21 = i32 (b j))
theorem atP_q {M : MM} {p' g' : Nat} : Eqo fq2 M (atP M p' g') := fun c j hc => by
  refine ⟨?_, rfl⟩
  show (if c = 190 ∧ j = 19 then i32 p' else if c = 190 ∧ j = 21 then i32 g' else M.1 c j) = M.1 c j
  by_cases x1 : c = 190 ∧ j = 19
  · obtain ⟨rfl, rfl⟩ := x1
    exact absurd hc (by decide)
  · rw [if_neg x1]
    by_cases x2 : c = 190 ∧ j = 21
    · obtain ⟨rfl, rfl⟩ := x2
      exact absurd hc (by decide)
    · rw [if_neg x2]
theorem eqo_cl {M M' : MM} (h : Eqo ([(190, 190, some 19), (190, 190, some 21)] ++ fp_m_readClause) M M') : Eqo fq2 M M' := eqo_tr (eqo_rf _) (fps_cons (i := 0) rfl (fps_cons (i := 1) rfl (fps_cons (i := 2) rfl (fps_cons (i := 1) rfl (fps_cons (i := 0) rfl (fps_cons (i := 4) rfl (fps_cons (i := 5) rfl (fps_cons (i := 3) rfl fps_nil)))))))) h
theorem LawR_atP {M : MM} {L : LWT} {p' g' : Nat} (h : LawR M L) : LawR (atP M p' g') L := h
theorem RLw_atP {M : MM} {L : LWT} {σ p' g' : Nat} (h : RLw M L σ) : RLw (atP M p' g') L σ := h
theorem r_all1 {N F : Nat} {M : MM} {Q : Int32 → MM → Prop} (hF : 400 < F) (h18 : M.1 190 18 = i32 n) (h203 : ∀ j, j < n → M.1 203 j = (f j).toInt8.toInt32) (hb : BOK f n) (hn : n ≤ 400) (hT : TKS f n t K V b e) (hQ : ∀ r M', RAR f n t b (pCode K V F) r M' → Eqo ([(190, 190, some 0), (190, 190, some 20), (190, 190, some 18), (190, 190, some 19), (190, 190, some 25)] ++ fq2) M M' → M'.1 190 18 = 0 → M'.1 190 0 = 0 → Q r M') : W_m_readAll 1 N M Q := by
  have ht := hT.1
  unfold W_m_readAll W_m_uses
  dsimp only
  have e1 : Eqo [(190, 190, some 0), (190, 190, some 20), (190, 190, some 18), (190, 190, some 19), (190, 190, some 25)] M (wi (wi (wi (wi (wi M 190 0 0) 190 20 ((wi M 190 0 0).1 190 18)) 190 18 0) 190 19 0) 190 25 0) := eqo_wi (i := 4) (eqo_wi (i := 3) (eqo_wi (i := 2) (eqo_wi (i := 1) (eqo_wi (i := 0) (eqo_rf _) rfl (Or.inr rfl)) rfl (Or.inr rfl)) rfl (Or.inr rfl)) rfl (Or.inr rfl)) rfl (Or.inr rfl)
  have z1 : (wi (wi (wi (wi (wi M 190 0 0) 190 20 ((wi M 190 0 0).1 190 18)) 190 18 0) 190 19 0) 190 25 0).1 190 18 = 0 := by simp (disch := omega) only [wi_1n, wi_1e]
  have z0 : (wi (wi (wi (wi (wi M 190 0 0) 190 20 ((wi M 190 0 0).1 190 18)) 190 18 0) 190 19 0) 190 25 0).1 190 0 = 0 := by simp (disch := omega) only [wi_1n, wi_1e]
  have z25 : (wi (wi (wi (wi (wi M 190 0 0) 190 20 ((wi M 190 0 0).1 190 18)) 190 18 0) 190 19 0) 190 25 0).1 190 25 = i32 0 := wi_1e
  generalize hM1 : wi (wi (wi (wi (wi M 190 0 0) 190 20 ((wi M 190 0 0).1 190 18)) 190 18 0) 190 19 0) 190 25 0 = M1 at *
  have s20 : M1.1 190 20 = i32 n := by
    rw [← hM1]
    simp (disch := omega) only [wi_1n, wi_1e]
    exact h18
  have s19 : M1.1 190 19 = i32 0 := by
    rw [← hM1]
    simp (disch := omega) only [wi_1n, wi_1e]
    rfl
  have s203 : ∀ j, j < n → M1.1 203 j = (f j).toInt8.toInt32 := fun j hj => by
    rw [← hM1]
    simp (disch := omega) only [wi_1n]
    exact h203 j hj
  have hh : ∀ r M', RAR f n t b (pCode K V F) r M' → Eqo fq2 M1 M' → Q r M' := fun r M' h1 h2 => hQ r M' h1 (eqo_app e1 h2) (by rw [eq1 h2 (b := 190) (k := 18) rfl]; exact z1) (by rw [eq1 h2 (b := 190) (k := 0) rfl]; exact z0)
  obtain ⟨g1, hg1⟩ := i32_ex (M1.1 190 21)
  have tx : TXr M1 f n 0 g1 := ⟨s20, s19, hg1, s203⟩
  have p0 : PT e b 0 0 := PT_0.mpr (Nat.zero_le _)
  refine r_blanks tx hb hn (by omega) (fun q hq => ?_)
  obtain rfl := NB_u hq (tk_nb hT (by omega) p0)
  rw [show (atP M1 (b 0) (b 0)).1 190 19 = i32 (b 0) from rfl, show (atP M1 (b 0) (b 0)).1 190 20 = i32 n from s20]
  have hb0 := (hT.2.2.2 0 (by omega)).2.1
  refine ⟨fun h0 => ?_, fun h0 => ?_⟩
  · have hk := (tkn_21 hT (by omega)).mp ((i32_ij (by omega) (by omega)).mp h0)
    refine hh 0 _ (Or.inl ⟨zL, 0, ?_, rfl, ⟨by show 0 ≤ 12; omega, fun k hk => absurd hk (by show ¬ k < 0; omega)⟩⟩) atP_q
    unfold pCode
    rw [if_pos hk]
  · have hk : ¬ K 0 = 21 := fun x => h0 (by rw [(tkn_21 hT (by omega)).mpr x])
    have hpc : pCode K V F = pLaw K V F 12 zL 0 := by
      unfold pCode
      rw [if_neg hk]
    rw [hpc] at hh
    refine I_m_readAll_28 1 Q (fun v M' => ∃ m L σ i p g, L.1 + m = 12 ∧ v = i32 L.1 ∧ i ≤ t ∧ TXr M' f n p g ∧ PT e b i p ∧ σ ≤ i ∧ M'.1 190 25 = i32 σ ∧ RLw M' L σ ∧ pLaw K V F 12 zL 0 = pLaw K V F m L i ∧ Eqo fq2 M1 M') (fun N ih v M' hih hv => ?_) N _ _ ⟨12, zL, 0, 0, b 0, b 0, rfl, rfl, by omega, atP_T tx, PT_b hT (by omega), by omega, z25, ⟨by show 0 ≤ 12; omega, fun k hk => absurd hk (by show ¬ k < 0; omega)⟩, rfl, atP_q⟩
    obtain ⟨m, L, σ, i, p, g, k1, rfl, k2, k3, k4, k5, k6, k7, k8, k9⟩ := hv
    unfold B_m_readAll_28
    refine r_line hF (by omega) k3 hb hn hT k2 k4 k6 k5 (fun r M7 hr e7 => ?_)
    have e8 : Eqo fq2 M1 M7 := eqo_tr k9 (fun _ _ h => h) (eqo_cl e7)
    rcases hr with ⟨rfl, q, j, p', g', σ', j1, j2, j3, j4, j5, j6, j7, j8⟩ | ⟨rfl, j, j1, j2, j3⟩
    · refine ⟨fun x => absurd x (by decide), fun _ => ?_⟩
      have hne : ¬ L.1 = 12 := fun x => by
        rw [if_pos x] at j1
        have : (none : Option CLS) = some q := congrArg Prod.fst j1
        cases this
      rw [if_neg hne] at j1
      obtain ⟨m2, rfl⟩ : ∃ m2, m = m2 + 1 := ⟨m - 1, by omega⟩
      have k8' : pLaw K V F 12 zL 0 = (if K j = 21 then (some (lput L q), j) else if K j = 59 then pLaw K V F m2 (lput L q) (j + 1) else (none, j)) := by
        rw [k8]
        show (match pClause K V F i with | (none, j) => (none, j) | (some q, j) => _) = _
        rw [j1]
      have rl := RLw_put k7 (by omega) (pClause_d j1) j7 j8
      refine r_blanks j4 hb hn (tk_pn hT j2 j5) (fun q2 hq2 => ?_)
      obtain rfl := NB_u hq2 (tk_nb hT j2 j5)
      have hbj := (hT.2.2.2 j j2).2.1
      have e9 : Eqo fq2 M1 (atP M7 (b j) (b j)) := eqo_tr e8 (fun _ _ h => h) atP_q
      rw [show (atP M7 (b j) (b j)).1 190 19 = i32 (b j) from rfl, show (atP M7 (b j) (b j)).1 190 20 = i32 n from j4.1]
      refine ⟨fun hx => ?_, fun hx => ?_⟩
      · have hk := (tkn_21 hT j2).mp ((i32_ij (by omega) (by omega)).mp hx)
        rw [i32_s]
        exact hh _ _ (Or.inl ⟨lput L q, j, by rw [k8', if_pos hk], rfl, LawR_atP (RLw_R rl (by omega))⟩) e9
      · have hk : ¬ K j = 21 := fun x => hx (by rw [(tkn_21 hT j2).mpr x])
        rw [if_neg hk] at k8'
        obtain ⟨q1, q2⟩ := tkn_59 hT j2
        rw [v_at (atP_T j4) hb hn (by omega) (by decide) (by decide), show (59 : Int32).toInt = 59 from rfl]
        refine ⟨fun hy => ?_, fun hy => ?_⟩
        · rw [b32_eq0, decide_eq_false_iff_not, q1] at hy
          rw [if_neg hy] at k8'
          exact hh _ _ (Or.inr ⟨j, k8', j2, rfl, rfl⟩) e9
        · rw [b32_ne0, decide_eq_true_eq, q1] at hy
          rw [if_pos hy] at k8'
          have hlt := tk_lt hT j2 hk
          rw [i32_s, i32_s, atP_p, ← q2 hy]
          exact hih _ _ ⟨m2, lput L q, σ', j + 1, e j, b j, by show L.1 + 1 + m2 = 12; omega, rfl, by omega, atP_T j4, PT_s hT hlt, by omega, j8.1, RLw_atP rl, k8', eqo_tr e8 (fun _ _ h => h) atP_q⟩
    · refine ⟨fun _ => hh _ _ (Or.inr ⟨j, ?_, j2, rfl, j3⟩) e8, fun x => absurd rfl x⟩
      by_cases hne : L.1 = 12
      · obtain rfl : m = 0 := by omega
        rw [if_pos hne] at j1
        rw [k8]
        have : i = j := congrArg Prod.snd j1
        rw [← this]
        rfl
      · obtain ⟨m2, rfl⟩ : ∃ m2, m = m2 + 1 := ⟨m - 1, by omega⟩
        rw [if_neg hne] at j1
        rw [k8]
        show (match pClause K V F i with | (none, j) => (none, j) | (some q, j) => _) = _
        rw [j1]
end RCO
end
section
/-! THE REFERENCE IS TOLD A CODE -/
theorem LawR_cp {M M' : MM} {L : LWT} (h : LawR M L) (e1 : ∀ j, j < 48 → M'.1 201 j = M.1 201 j) (e2 : ∀ j, j < 800 → M'.1 202 j = M.1 202 j) : LawR M' L := by
  refine ⟨h.1, fun k hk => ?_⟩
  have h12 := h.1
  obtain ⟨h1, h2, h3, h4, h5⟩ := h.2 k hk
  rw [e1 _ (by omega), e1 _ (by omega), e1 _ (by omega), e1 _ (by omega)]
  refine ⟨h1, h2, h3, h4, fun pl wh kn dy val hr => ?_⟩
  rw [← h5 pl wh kn dy val hr]
  unfold rT
  rw [e1 _ (by omega), e1 _ (by omega)]
  generalize ni (M.1 201 (4 * k + 2)) = s
  generalize hm : ni (M.1 201 (4 * k + 3)) - s = m
  cases m with
  | zero => rfl
  | succ m => rw [rrun_cg _ _ _ (fun j hj => e2 j (by omega))]
abbrev fc2 : List (Nat × Nat × Option Nat) := [(205, 205, none), (206, 206, none), (190, 190, some 0), (190, 190, some 20), (190, 190, some 18), (190, 190, some 19), (190, 190, some 25), (190, 190, some 21), (190, 190, some 22), (190, 190, some 23), (201, 201, none), (202, 202, none)]
theorem i48 {k : Nat} (hk : k ≤ 800) {c : Nat} (hc : c ≤ 800) : i32 k < i32 c ↔ k < c := i32_lt (by omega) (by omega)
theorem r_cpy1 {N : Nat} {M : MM} {k29 : MM → Prop} {Q : Int32 → MM → Prop} (hQ : ∀ M', (∀ j, j < 48 → M'.1 205 j = M.1 201 j) → Eqo [(205, 205, none)] M M' → k29 M') : W_m_code_2 k29 Q N 0 M := by
  refine I_m_code_2 _ _ (fun v M' => ∃ k, k ≤ 48 ∧ v = i32 k ∧ (∀ j, j < k → M'.1 205 j = M.1 201 j) ∧ Eqo [(205, 205, none)] M M') (fun N ih v M' hih hv => ?_) N _ _ ⟨0, by omega, rfl, fun j hj => by omega, eqo_rf M⟩
  obtain ⟨k, hk, rfl, h1, h2⟩ := hv
  unfold B_m_code_2
  rw [show i32 k < 48 ↔ k < 48 from i48 (by omega) (c := 48) (by omega), ni_i (by omega)]
  refine ⟨fun hl => hih _ _ ⟨k + 1, by omega, i32_s k, fun j hj => ?_, eqo_wi (i := 0) h2 rfl (Or.inl rfl)⟩, fun hl => ?_⟩
  · by_cases e : j = k
    · rw [e, wi_1e]
      exact congrFun (eqb h2 (lo := 201) (hi := 201) rfl (Nat.le_refl _) (Nat.le_refl _)) k
    · rw [wi_1n (by omega)]
      exact h1 j (by omega)
  · obtain rfl : k = 48 := by omega
    exact hQ _ h1 h2
theorem r_cpy2 {N : Nat} {M : MM} {k29 : MM → Prop} {Q : Int32 → MM → Prop} (hQ : ∀ M', (∀ j, j < 800 → M'.1 206 j = M.1 202 j) → Eqo [(206, 206, none)] M M' → k29 M') : W_m_code_31 k29 Q N 0 M := by
  refine I_m_code_31 _ _ (fun v M' => ∃ k, k ≤ 800 ∧ v = i32 k ∧ (∀ j, j < k → M'.1 206 j = M.1 202 j) ∧ Eqo [(206, 206, none)] M M') (fun N ih v M' hih hv => ?_) N _ _ ⟨0, by omega, rfl, fun j hj => by omega, eqo_rf M⟩
  obtain ⟨k, hk, rfl, h1, h2⟩ := hv
  unfold B_m_code_31
  rw [show i32 k < 800 ↔ k < 800 from i48 (by omega) (c := 800) (by omega), ni_i (by omega)]
  refine ⟨fun hl => hih _ _ ⟨k + 1, by omega, i32_s k, fun j hj => ?_, eqo_wi (i := 0) h2 rfl (Or.inl rfl)⟩, fun hl => ?_⟩
  · by_cases e : j = k
    · rw [e, wi_1e]
      exact congrFun (eqb h2 (lo := 202) (hi := 202) rfl (Nat.le_refl _) (Nat.le_refl _)) k
    · rw [wi_1n (by omega)]
      exact h1 j (by omega)
  · obtain rfl : k = 800 := by omega
    exact hQ _ h1 h2
theorem r_cpy3 {N : Nat} {M : MM} {k29 : MM → Prop} {Q : Int32 → MM → Prop} (hQ : ∀ M', (∀ j, j < 48 → M'.1 201 j = M.1 205 j) → Eqo [(201, 201, none)] M M' → k29 M') : W_m_code_126 k29 Q N 0 M := by
  refine I_m_code_126 _ _ (fun v M' => ∃ k, k ≤ 48 ∧ v = i32 k ∧ (∀ j, j < k → M'.1 201 j = M.1 205 j) ∧ Eqo [(201, 201, none)] M M') (fun N ih v M' hih hv => ?_) N _ _ ⟨0, by omega, rfl, fun j hj => by omega, eqo_rf M⟩
  obtain ⟨k, hk, rfl, h1, h2⟩ := hv
  unfold B_m_code_126
  rw [show i32 k < 48 ↔ k < 48 from i48 (by omega) (c := 48) (by omega), ni_i (by omega)]
  refine ⟨fun hl => hih _ _ ⟨k + 1, by omega, i32_s k, fun j hj => ?_, eqo_wi (i := 0) h2 rfl (Or.inl rfl)⟩, fun hl => ?_⟩
  · by_cases e : j = k
    · rw [e, wi_1e]
      exact congrFun (eqb h2 (lo := 205) (hi := 205) rfl (Nat.le_refl _) (Nat.le_refl _)) k
    · rw [wi_1n (by omega)]
      exact h1 j (by omega)
  · obtain rfl : k = 48 := by omega
    exact hQ _ h1 h2
theorem r_cpy4 {N : Nat} {M : MM} {Q : Int32 → MM → Prop} (hQ : ∀ M', (∀ j, j < 800 → M'.1 202 j = M.1 206 j) → Eqo [(202, 202, none)] M M' → Q 0 M') : W_m_code_155 Q N 0 M := by
  refine I_m_code_155 _ (fun v M' => ∃ k, k ≤ 800 ∧ v = i32 k ∧ (∀ j, j < k → M'.1 202 j = M.1 206 j) ∧ Eqo [(202, 202, none)] M M') (fun N ih v M' hih hv => ?_) N _ _ ⟨0, by omega, rfl, fun j hj => by omega, eqo_rf M⟩
  obtain ⟨k, hk, rfl, h1, h2⟩ := hv
  unfold B_m_code_155
  rw [show i32 k < 800 ↔ k < 800 from i48 (by omega) (c := 800) (by omega), ni_i (by omega)]
  refine ⟨fun hl => hih _ _ ⟨k + 1, by omega, i32_s k, fun j hj => ?_, eqo_wi (i := 0) h2 rfl (Or.inl rfl)⟩, fun hl => ?_⟩
  · by_cases e : j = k
    · rw [e, wi_1e]
      exact congrFun (eqb h2 (lo := 206) (hi := 206) rfl (Nat.le_refl _) (Nat.le_refl _)) k
    · rw [wi_1n (by omega)]
      exact h1 j (by omega)
  · obtain rfl : k = 800 := by omega
    exact hQ _ h1 h2
theorem r_back {N : Nat} {M : MM} {Q : Int32 → MM → Prop} (hQ : ∀ M', (∀ j, j < 48 → M'.1 201 j = M.1 205 j) → (∀ j, j < 800 → M'.1 202 j = M.1 206 j) → Eqo ([(201, 201, none)] ++ [(202, 202, none)]) M M' → Q 0 M') : W_m_code_126 (fun M18 => W_m_code_155 Q N 0 M18) Q N 0 M :=
  r_cpy3 (fun M1 h1 e1 => r_cpy4 (fun M2 h2 e2 => hQ M2 (fun j hj => by rw [eqb e2 (lo := 201) (hi := 201) rfl (Nat.le_refl _) (Nat.le_refl _)]; exact h1 j hj) (fun j hj => by rw [h2 j hj, eqb e1 (lo := 206) (hi := 206) rfl (Nat.le_refl _) (Nat.le_refl _)]) (eqo_app e1 e2)))
section RCD
variable {f : BY} {n t : Nat} {K V : Nat → Int32} {b e : Nat → Nat}
theorem r_code {N F : Nat} {M : MM} {Q : Int32 → MM → Prop} (hF : 400 < F) (h18 : M.1 190 18 = i32 n) (h203 : ∀ j, j < n → M.1 203 j = (f j).toInt8.toInt32) (hb : BOK f n) (hn : n ≤ 400) (hT : TKS f n t K V b e)
    (hQ1 : ∀ L j M', pCode K V F = (some L, j) → M.1 190 15 < 0 → ¬ 0 < M.1 191 0 → LawR M' L → M'.1 190 15 = i32 L.1 → M'.1 190 12 = 0 → M'.1 190 23 = -1 → M'.1 190 0 = 0 → Eqo (fc2 ++ ([(190, 190, some 15)] ++ [(190, 190, some 12)])) M M' → M'.1 190 18 = 0 → Q (i32 L.1) M')
    (hQ2 : ∀ M', ((∃ j, pCode K V F = (none, j) ∧ j ≤ t ∧ M'.1 190 23 = i32 (b j) ∧ M'.1 190 0 = 1) ∨ ((∃ L j, pCode K V F = (some L, j)) ∧ (¬ M.1 190 15 < 0 ∨ 0 < M.1 191 0) ∧ M'.1 190 23 = -1 ∧ M'.1 190 0 = 2)) → (∀ j, j < 48 → M'.1 201 j = M.1 201 j) → (∀ j, j < 800 → M'.1 202 j = M.1 202 j) → Eqo fc2 M M' → M'.1 190 18 = 0 → Q 0 M') : W_m_code N M Q := by
  unfold W_m_code
  refine r_cpy1 (fun M2 a1 e1 => r_cpy2 (fun M4 a2 e2 => ?_))
  have e12 := eqo_app e1 e2
  have k15 := eq1 e12 (b := 190) (k := 15) rfl
  refine r_all1 (f := f) (n := n) (b := b) (e := e) (K := K) (V := V) hF (by rw [eq1 e12 (b := 190) (k := 18) rfl]; exact h18) (fun j hj => by rw [eqb e12 (lo := 203) (hi := 203) rfl (Nat.le_refl _) (Nat.le_refl _)]; exact h203 j hj) hb hn hT (fun r M6 hr e6 z18 z0 => ?_)
  have p205 : ∀ j, j < 48 → M6.1 205 j = M.1 201 j := fun j hj => by
    rw [eqb e6 (lo := 205) (hi := 205) rfl (Nat.le_refl _) (Nat.le_refl _), eqb e2 (lo := 205) (hi := 205) rfl (Nat.le_refl _) (Nat.le_refl _)]
    exact a1 j hj
  have p206 : ∀ j, j < 800 → M6.1 206 j = M.1 202 j := fun j hj => by
    rw [eqb e6 (lo := 206) (hi := 206) rfl (Nat.le_refl _) (Nat.le_refl _), a2 j hj, eqb e1 (lo := 202) (hi := 202) rfl (Nat.le_refl _) (Nat.le_refl _)]
  have q15 : M6.1 190 15 = M.1 190 15 := by rw [eq1 e6 (b := 190) (k := 15) rfl, k15]
  have q191 : M6.1 191 = M.1 191 := by rw [eqb e6 (lo := 191) (hi := 191) rfl (Nat.le_refl _) (Nat.le_refl _), eqb e12 (lo := 191) (hi := 191) rfl (Nat.le_refl _) (Nat.le_refl _)]
  have e16 : Eqo fc2 M M6 := eqo_tr (eqo_tr (eqo_rf M) (fps_cons (i := 0) rfl (fps_cons (i := 1) rfl fps_nil)) e12) (fps_cons (i := 2) rfl (fps_cons (i := 3) rfl (fps_cons (i := 4) rfl (fps_cons (i := 5) rfl (fps_cons (i := 6) rfl (fps_cons (i := 5) rfl (fps_cons (i := 7) rfl (fps_cons (i := 10) rfl (fps_cons (i := 6) rfl (fps_cons (i := 8) rfl (fps_cons (i := 11) rfl fps_nil))))))))))) e6
  -- brought back
  have bk : ∀ (M7 : MM), Eqo ([(190, 190, some 23)] ++ [(190, 190, some 0)]) M6 M7 → ((∃ j, pCode K V F = (none, j) ∧ j ≤ t ∧ M7.1 190 23 = i32 (b j) ∧ M7.1 190 0 = 1) ∨ ((∃ L j, pCode K V F = (some L, j)) ∧ (¬ M.1 190 15 < 0 ∨ 0 < M.1 191 0) ∧ M7.1 190 23 = -1 ∧ M7.1 190 0 = 2)) → W_m_code_126 (fun M18 => W_m_code_155 Q N 0 M18) Q N 0 M7 := fun M7 e7 h7 => by
    refine r_back (fun M8 b1 b2 e8 => hQ2 M8 ?_ (fun j hj => ?_) (fun j hj => ?_) ?_ ?_)
    · rw [eq1 e8 (b := 190) (k := 23) rfl, eq1 e8 (b := 190) (k := 0) rfl]
      exact h7
    · rw [b1 j hj, eqb e7 (lo := 205) (hi := 205) rfl (Nat.le_refl _) (Nat.le_refl _)]
      exact p205 j hj
    · rw [b2 j hj, eqb e7 (lo := 206) (hi := 206) rfl (Nat.le_refl _) (Nat.le_refl _)]
      exact p206 j hj
    · exact eqo_tr (eqo_tr e16 (fps_cons (i := 9) rfl (fps_cons (i := 2) rfl fps_nil)) e7) (fps_cons (i := 10) rfl (fps_cons (i := 11) rfl fps_nil)) e8
    · rw [eq1 e8 (b := 190) (k := 18) rfl, eq1 e7 (b := 190) (k := 18) rfl]
      exact z18
  unfold W_m_throwsIf V_m_citizens
  rcases hr with ⟨L, j, j1, rfl, j2⟩ | ⟨j, j1, j2, rfl, j3⟩
  · have h12 := j2.1
    have hneg : ¬ i32 L.1 < 0 := by
      rw [lt_lit, i32_i (by omega), show (0 : Int32).toInt = 0 from rfl]
      omega
    refine ⟨fun x => absurd x hneg, fun _ => ⟨fun x => absurd x hneg, fun _ => ⟨fun _ => ?_, fun x => absurd rfl x⟩⟩⟩
    refine ⟨fun _ => ?_, fun x => absurd rfl x⟩
    have s15 : (wi M6 190 23 (-1)).1 190 15 = M.1 190 15 := by rw [wi_1n (by omega)]; exact q15
    have s191 : (wi M6 190 23 (-1)).1 191 = M.1 191 := q191
    have e23 : Eqo ([(190, 190, some 23)] ++ [(190, 190, some 0)]) M6 (wi (wi M6 190 23 (-1)) 190 0 2) := eqo_app eqo_1 eqo_1
    have bad : (¬ M.1 190 15 < 0 ∨ 0 < M.1 191 0) → W_m_code_126 (fun M18 => W_m_code_155 Q N 0 M18) Q N 0 (wi (wi M6 190 23 (-1)) 190 0 2) := fun hx => bk _ e23 (Or.inr ⟨⟨L, j, j1⟩, hx, by rw [wi_1n (by omega), wi_1e], wi_1e⟩)
    rw [s15, s191]
    refine ⟨fun h15 => ⟨fun hc => ⟨fun x => absurd x (by decide), fun _ => ⟨fun x => absurd x (by decide), fun _ => bad (Or.inr hc)⟩⟩, fun hc => ⟨fun _ => ⟨fun _ => ?_, fun x => absurd rfl x⟩, fun x => absurd rfl x⟩⟩, fun h15 => ⟨fun x => absurd x (by decide), fun _ => ⟨fun x => absurd x (by decide), fun _ => bad (Or.inl h15)⟩⟩⟩
    have ef : Eqo ([(190, 190, some 23)] ++ ([(190, 190, some 15)] ++ [(190, 190, some 12)])) M6 (wi (wi (wi M6 190 23 (-1)) 190 15 (i32 L.1)) 190 12 0) := eqo_app eqo_1 (eqo_app eqo_1 eqo_1)
    refine hQ1 L j _ j1 h15 hc ?_ ?_ wi_1e ?_ ?_ ?_ ?_
    · exact LawR_eq j2 ef rfl
    · rw [wi_1n (by omega), wi_1e]
    · rw [wi_1n (by omega), wi_1n (by omega), wi_1e]
    · rw [wi_1n (by omega), wi_1n (by omega), wi_1n (by omega)]
      exact z0
    · exact eqo_app (eqo_tr e16 (fps_cons (i := 9) rfl fps_nil) eqo_1) (eqo_app eqo_1 eqo_1)
    · rw [wi_1n (by omega), wi_1n (by omega), wi_1n (by omega)]
      exact z18
  · have hneg : (-1 : Int32) < 0 := by decide
    refine ⟨fun _ => ⟨fun _ => ⟨fun x => absurd x (by decide), fun _ => ⟨fun x => absurd x (by decide), fun _ => ?_⟩⟩, fun x => absurd hneg x⟩, fun x => absurd hneg x⟩
    refine bk _ (eqo_app eqo_1 eqo_1) (Or.inl ⟨j, j1, j2, ?_, wi_1e⟩)
    rw [wi_1n (by omega), wi_1e]
    exact j3
end RCD
end
section
/-! THE CLASS READS: where it stands, truths as bits, lengths -/
theorem tb_bx {X k : Nat} {c : Bool} (hk : k < 32) : tb (i32 (2 * X + c.toNat)) k = if k = 0 then c else X.testBit (k - 1) := by
  unfold tb
  show (BitVec.ofNat 32 (2 * X + c.toNat)).getLsbD k = _
  rw [BitVec.getLsbD_ofNat, decide_eq_true hk, Bool.true_and]
  cases k with
  | zero =>
    rw [Nat.testBit_zero, if_pos rfl]
    cases c
    · exact decide_eq_false (by show ¬ (2 * X + 0) % 2 = 1; omega)
    · exact decide_eq_true (by show (2 * X + 1) % 2 = 1; omega)
  | succ k =>
    rw [Nat.testBit_succ, if_neg (by omega), show (2 * X + c.toNat) / 2 = X by
      cases c
      · show (2 * X + 0) / 2 = X; omega
      · show (2 * X + 1) / 2 = X; omega]
    rfl
theorem tb_ix {X k : Nat} (hk : k < 32) : tb (i32 X) k = X.testBit k := by
  unfold tb
  show (BitVec.ofNat 32 X).getLsbD k = _
  rw [BitVec.getLsbD_ofNat, decide_eq_true hk, Bool.true_and]
theorem one_31 : ((1 &&& 31 : Int32).toBitVec.smod 32).toNat = 1 := by decide
theorem tb_sl1 {x : Int32} {k : Nat} (hk : k < 32) : tb (sl x 1) k = if k = 0 then false else tb x (k - 1) := by
  unfold tb sl
  rw [Int32.toBitVec_shiftLeft]
  simp only [BitVec.shiftLeft_eq']
  rw [one_31, BitVec.getLsbD_shiftLeft]
  by_cases h : k = 0
  · subst h; simp
  · have : ¬ k < 1 := by omega
    simp [h, hk, this]
theorem tb_srr {x : Int32} {k : Nat} (hk : k < 32) : tb (sr x 1) k = if k < 31 then tb x (k + 1) else tb x 31 := by
  unfold tb sr
  rw [Int32.toBitVec_shiftRight]
  simp only [BitVec.sshiftRight_eq', BitVec.getLsbD_sshiftRight]
  rw [one_31]
  by_cases h : k < 31
  · have h2 : 1 + k < 32 := by omega
    have h3 : ¬ 32 ≤ k := by omega
    have h4 : ¬ 31 ≤ k := by omega
    simp [h, h2, h3, h4, Nat.add_comm 1 k]
  · have h2 : ¬ 1 + k < 32 := by omega
    have h3 : ¬ 32 ≤ k := by omega
    simp [h, h2, h3, BitVec.msb_eq_getLsbD_last]
theorem tbt {X k : Nat} (h : X < 2 ^ k) {j : Nat} (hj : k ≤ j) : X.testBit j = false := Nat.testBit_lt_two_pow (Nat.lt_of_lt_of_le h (Nat.pow_le_pow_right (by omega) hj))
theorem tb_b32 {c : Bool} (k : Nat) : tb (b32 c) k = (decide (k = 0) && c) := by
  cases c
  · rw [b32_0, tb_0]; simp
  · rw [b32_1, tb_1]; simp
theorem t_push {X : Nat} {c : Bool} : sl (i32 X) 1 ||| b32 c = i32 (2 * X + c.toNat) := by
  apply tb_ext
  intro k hk
  rw [tb_or, tb_sl1 hk, tb_b32, tb_bx hk]
  by_cases h : k = 0
  · rw [if_pos h, if_pos h, decide_eq_true h]; simp
  · rw [if_neg h, if_neg h, decide_eq_false h, tb_ix (by omega)]; simp
theorem t_not {X : Nat} {c : Bool} : i32 (2 * X + c.toNat) ^^^ 1 = i32 (2 * X + (!c).toNat) := by
  apply tb_ext
  intro k hk
  rw [tb_bx hk]
  have : tb (i32 (2 * X + c.toNat) ^^^ 1) k = Bool.xor (tb (i32 (2 * X + c.toNat)) k) (tb 1 k) := by
    unfold tb
    rw [Int32.toBitVec_xor, BitVec.getLsbD_xor]
  rw [this, tb_bx hk, tb_1]
  by_cases h : k = 0
  · rw [if_pos h, if_pos h, decide_eq_true h]; cases c <;> rfl
  · rw [if_neg h, if_neg h, decide_eq_false h]; simp
theorem t_sr {X k : Nat} {c : Bool} (hX : X < 2 ^ 30) (hk : k < 32) : tb (sr (i32 (2 * X + c.toNat)) 1) k = X.testBit k := by
  rw [tb_srr hk]
  by_cases h : k < 31
  · rw [if_pos h, tb_bx (by omega), if_neg (by omega)]
    rfl
  · rw [if_neg h, tb_bx (by omega), if_neg (by omega), tbt hX (by omega), tbt hX (by omega)]
theorem tb_2 {k : Nat} (hk : k < 32) : tb (-2) k = decide (0 < k) := by
  have : ∀ k : Fin 32, tb (-2) k = decide (0 < (k : Nat)) := by decide
  exact this ⟨k, hk⟩
theorem t_and {X : Nat} {a c : Bool} (hX : X < 2 ^ 29) : sr (i32 (2 * (2 * X + a.toNat) + c.toNat)) 1 &&& ((i32 (2 * (2 * X + a.toNat) + c.toNat) &&& 1) ||| (-2)) = i32 (2 * X + (and a c).toNat) := by
  have h30 : 2 * X + a.toNat < 2 ^ 30 := by
    cases a
    · show 2 * X + 0 < 2 ^ 30; omega
    · show 2 * X + 1 < 2 ^ 30; omega
  apply tb_ext
  intro k hk
  rw [tb_and, t_sr h30 hk, tb_or, tb_and, tb_bx hk, tb_1, tb_2 hk, tb_bx hk]
  have e : (2 * X + a.toNat).testBit k = if k = 0 then a else X.testBit (k - 1) := by
    rw [← tb_ix hk, tb_bx hk]
  rw [e]
  by_cases h : k = 0
  · rw [if_pos h, if_pos h, if_pos h, decide_eq_true h, decide_eq_false (by omega)]
    cases a <;> cases c <;> rfl
  · rw [if_neg h, if_neg h, decide_eq_false h, decide_eq_true (by omega)]
    simp [h]
theorem t_or {X : Nat} {a c : Bool} (hX : X < 2 ^ 29) : sr (i32 (2 * (2 * X + a.toNat) + c.toNat)) 1 ||| (i32 (2 * (2 * X + a.toNat) + c.toNat) &&& 1) = i32 (2 * X + (or a c).toNat) := by
  have h30 : 2 * X + a.toNat < 2 ^ 30 := by
    cases a
    · show 2 * X + 0 < 2 ^ 30; omega
    · show 2 * X + 1 < 2 ^ 30; omega
  apply tb_ext
  intro k hk
  rw [tb_or, t_sr h30 hk, tb_and, tb_bx hk, tb_1, tb_bx hk]
  have e : (2 * X + a.toNat).testBit k = if k = 0 then a else X.testBit (k - 1) := by
    rw [← tb_ix hk, tb_bx hk]
  rw [e]
  by_cases h : k = 0
  · rw [if_pos h, if_pos h, if_pos h, decide_eq_true h]
    cases a <;> cases c <;> rfl
  · rw [if_neg h, if_neg h, decide_eq_false h]
    simp [h]
/-! where it stands -/
def TKc (M : MM) (t : Nat) (K V : Nat → Int32) (i : Nat) : Prop := M.1 3 5 = i32 i ∧ M.1 3 4 = i32 (t + 1) ∧ M.1 4 = K ∧ M.1 7 = V
def pe (e : Nat → Nat) (i : Nat) : Nat := if i = 0 then 0 else e (i - 1)
section CK
variable {f : BY} {n t i : Nat} {K V : Nat → Int32} {b e : Nat → Nat} {M : MM}
theorem pe_s : pe e (i + 1) = e i := if_neg (by omega)
theorem pe_b (hT : TKS f n t K V b e) (hi : i ≤ t) : pe e i ≤ b i := (hT.2.2.2 i hi).2.2.2.1
theorem pe_n (hT : TKS f n t K V b e) (hi : i ≤ t) : pe e i ≤ n := by
  have := pe_b hT hi
  have := (hT.2.2.2 i hi).2.1
  omega
theorem pe_1 (hT : TKS f n t K V b e) (hi : i < t) : pe e i + 1 ≤ pe e (i + 1) := by
  have h1 := pe_b hT (show i ≤ t by omega)
  have h2 := tkn_lt (hT.2.2.2 i (by omega)).1 (hT.2.2.1 i hi)
  rw [pe_s]
  omega
theorem pe_le (hT : TKS f n t K V b e) : ∀ (d : Nat), i + d ≤ t → pe e i + d ≤ pe e (i + d)
  | 0, _ => Nat.le_refl _
  | d + 1, h => by
    have := pe_le hT d (by omega)
    have := pe_1 hT (show i + d < t by omega)
    rw [show i + (d + 1) = i + d + 1 by omega]
    omega
theorem pe_w {k : Nat} (hk : k < 20) (hT : TKS f n t K V b e) (hi : i ≤ t) (h : K i = i32 k) : pe e i + wln k ≤ pe e (i + 1) := by
  have hl : LT f n (b i) := by
    rcases Classical.em (LT f n (b i)) with c | c
    · exact c
    · have := tk_now hT hi c
      rw [h, i32_i (by omega)] at this
      omega
  obtain ⟨w1, r, w2, w3⟩ := tk_word hT hi hl
  have hr : r < 23 := by rcases w2 with ⟨c, -⟩ | ⟨c, -⟩ <;> omega
  have : r = k := (i32_ij (by omega) (by omega)).mp (w3.symm.trans h)
  have hw := (wd_iff.mp ((wnm_k w2 hk).mpr this)).1
  have h1 := pe_b hT hi
  have h2 := w1.1
  rw [pe_s]
  omega
theorem kd (h : TKc M t K V i) (hi : i ≤ t) (ht : t ≤ 400) : V_Text_kind M = K i := by
  obtain ⟨h1, h2, h3, h4⟩ := h
  unfold V_Text_kind
  rw [h1, h2, if_pos ((i32_lt (by omega) (by omega)).mpr (by omega)), ni_i (by omega), h3]
theorem vl (h : TKc M t K V i) (hi : i ≤ t) (ht : t ≤ 400) : V_Text_value M = V i := by
  obtain ⟨h1, h2, h3, h4⟩ := h
  unfold V_Text_value
  rw [h1, h2, if_pos ((i32_lt (by omega) (by omega)).mpr (by omega)), ni_i (by omega), h4]
theorem TKc_e {l : List (Nat × Nat × Option Nat)} {M' : MM} (h : TKc M t K V i) (x : Eqo l M M') (hl : (fpf l 3 5 && (fpf l 3 4 && (fpo l 4 4 && fpo l 7 7))) = true) : TKc M' t K V i := by
  simp only [Bool.and_eq_true] at hl
  obtain ⟨h1, h2, h3, h4⟩ := h
  exact ⟨by rw [eq1 x hl.1]; exact h1, by rw [eq1 x hl.2.1]; exact h2, by rw [eqb x hl.2.2.1 (Nat.le_refl _) (Nat.le_refl _)]; exact h3, by rw [eqb x hl.2.2.2 (Nat.le_refl _) (Nat.le_refl _)]; exact h4⟩
theorem TKc_g (h : TKc M t K V i) : TKc (wi M 3 5 (M.1 3 5 + 1)) t K V (i + 1) := by
  obtain ⟨h1, h2, h3, h4⟩ := h
  exact ⟨by rw [wi_1e, h1, i32_s], h2, h3, h4⟩
end CK
/-! the truth of steps -/
theorem crun_app {sp tm : Nat → Int32} {pl wh kn dy : Int32} {m : Nat} : ∀ (k i : Nat) (T : Int32), crun sp tm pl wh kn dy i (k + m) T = crun sp tm pl wh kn dy (i + k) m (crun sp tm pl wh kn dy i k T)
  | 0, i, T => by rw [Nat.zero_add, Nat.add_zero]; rfl
  | k + 1, i, T => by
    rw [show k + 1 + m = (k + m) + 1 by omega]
    show crun sp tm pl wh kn dy (i + 1) (k + m) _ = crun sp tm pl wh kn dy (i + (k + 1)) m (crun sp tm pl wh kn dy (i + 1) k _)
    rw [crun_app k (i + 1), show i + 1 + k = i + (k + 1) by omega]
/-- the steps from s to s' turn X into Y -/
def CMt (A : Nat) (M : MM) (s s' u' : Nat) (Y : Int32 → Int32 → Int32 → Int32 → Nat → Nat) : Prop := ∀ sp tm : Nat → Int32, (∀ x, x < s' → sp x = M.1 16 x) → (∀ x, x < 5 * u' → tm x = M.1 17 x) → ∀ pl wh kn dy, rng pl wh kn dy → ∀ X, X < A → crun sp tm pl wh kn dy s (s' - s) (i32 X) = i32 (Y pl wh kn dy X)
def CMg (A : Nat) (M : MM) (s s' u' : Nat) (c : BF) : Prop := CMt A M s s' u' (fun pl wh kn dy X => 2 * X + (c pl wh kn dy).toNat)
theorem CMt_cg {A s s' u u' : Nat} {M M' : MM} {Y : Int32 → Int32 → Int32 → Int32 → Nat → Nat} (h : CMt A M s s' u Y) (hu : u ≤ u') (e1 : ∀ x, x < s' → M'.1 16 x = M.1 16 x) (e2 : ∀ x, x < 5 * u → M'.1 17 x = M.1 17 x) : CMt A M' s s' u' Y := fun sp tm h1 h2 => h sp tm (fun x hx => (h1 x hx).trans (e1 x hx)) (fun x hx => (h2 x (by omega)).trans (e2 x hx))
theorem CMt_le {A A' s s' u : Nat} {M : MM} {Y : Int32 → Int32 → Int32 → Int32 → Nat → Nat} (h : CMt A M s s' u Y) (hA : A' ≤ A) : CMt A' M s s' u Y := fun sp tm h1 h2 pl wh kn dy hr X hX => h sp tm h1 h2 pl wh kn dy hr X (by omega)
theorem CMt_0 {A s u : Nat} {M : MM} : CMt A M s s u (fun _ _ _ _ X => X) := fun sp tm h1 h2 pl wh kn dy hr X hX => by
  rw [Nat.sub_self]
  rfl
/-- one after the other -/
theorem CMt_tr {A A' s0 s1 s2 u1 u2 : Nat} {M : MM} {Y Z : Int32 → Int32 → Int32 → Int32 → Nat → Nat} (h1 : CMt A M s0 s1 u1 Y) (h2 : CMt A' M s1 s2 u2 Z) (l1 : s0 ≤ s1) (l2 : s1 ≤ s2) (hu : u1 ≤ u2) (hA : ∀ pl wh kn dy X, X < A → Y pl wh kn dy X < A') : CMt A M s0 s2 u2 (fun pl wh kn dy X => Z pl wh kn dy (Y pl wh kn dy X)) := fun sp tm a1 a2 pl wh kn dy hr X hX => by
  rw [show s2 - s0 = (s1 - s0) + (s2 - s1) by omega, crun_app, h1 sp tm (fun x hx => a1 x (by omega)) (fun x hx => a2 x (by omega)) pl wh kn dy hr X hX, show s0 + (s1 - s0) = s1 by omega]
  exact h2 sp tm a1 a2 pl wh kn dy hr _ (hA pl wh kn dy X hX)
/-- one step -/
theorem CMt_1 {A s u : Nat} {M : MM} {st : Int32} {Y : Int32 → Int32 → Int32 → Int32 → Nat → Nat} (h : M.1 16 s = st) (hc : ∀ tm : Nat → Int32, (∀ x, x < 5 * u → tm x = M.1 17 x) → ∀ pl wh kn dy, rng pl wh kn dy → ∀ X, X < A → cst tm pl wh kn dy st (i32 X) = i32 (Y pl wh kn dy X)) : CMt A M s (s + 1) u Y := fun sp tm a1 a2 pl wh kn dy hr X hX => by
  rw [show s + 1 - s = 1 by omega]
  show cst tm pl wh kn dy (sp s) (i32 X) = _
  rw [a1 s (by omega), h]
  exact hc tm a2 pl wh kn dy hr X hX
theorem cst_f {tm : Nat → Int32} {pl wh kn dy : Int32} {X : Nat} : cst tm pl wh kn dy (-1) (i32 X) = i32 (2 * X + (decide (rm dy 7 = 0)).toNat) := by
  unfold cst
  rw [if_pos rfl]
  exact t_push
theorem cst_n {tm : Nat → Int32} {pl wh kn dy : Int32} {X : Nat} {c : Bool} : cst tm pl wh kn dy (-2) (i32 (2 * X + c.toNat)) = i32 (2 * X + (!c).toNat) := by
  unfold cst
  rw [if_neg (by decide), if_pos rfl]
  exact t_not
theorem cst_a {tm : Nat → Int32} {pl wh kn dy : Int32} {X : Nat} {a c : Bool} (hX : X < 2 ^ 29) : cst tm pl wh kn dy (-3) (i32 (2 * (2 * X + a.toNat) + c.toNat)) = i32 (2 * X + (and a c).toNat) := by
  unfold cst
  rw [if_neg (by decide), if_neg (by decide), if_pos rfl]
  exact t_and hX
theorem cst_o {tm : Nat → Int32} {pl wh kn dy : Int32} {X : Nat} {a c : Bool} (hX : X < 2 ^ 29) : cst tm pl wh kn dy (-4) (i32 (2 * (2 * X + a.toNat) + c.toNat)) = i32 (2 * X + (or a c).toNat) := by
  unfold cst
  rw [if_neg (by decide), if_neg (by decide), if_neg (by decide), if_pos rfl]
  exact t_or hX
theorem cst_l {tm : Nat → Int32} {pl wh kn dy : Int32} {X u : Nat} (hu : u < 133) : cst tm pl wh kn dy (i32 (5 * u)) (i32 X) = i32 (2 * X + (decide (0 < lin tm pl wh kn dy (i32 (5 * u)))).toNat) := by
  have hne : ∀ x : Int32, x.toInt < 0 → ¬ i32 (5 * u) = x := fun x hx h => by
    rw [← h, i32_i (by omega)] at hx
    omega
  unfold cst
  rw [if_neg (hne _ (by decide)), if_neg (hne _ (by decide)), if_neg (hne _ (by decide)), if_neg (hne _ (by decide)), if_neg (by rw [lt_lit, i32_i (by omega)]; show ¬ ((5 * u : Nat) : Int) < 0; omega), if_neg (by rw [show i32 (5 * u) + 5 = i32 (5 * u + 5) from i32_a (5 * u) 5, show (665 : Int32) = i32 665 from rfl, i32_lt (by omega) (by omega)]; omega)]
  exact t_push
end
section
/-! THE CLASS READS A SUM -/
theorem pPart_b {f : BY} {n t i : Nat} {K V : Nat → Int32} {b e : Nat → Nat} (hT : TKS f n t K V b e) (hi : i ≤ t) {q : SF} (h : pPart K V i = some q) : ∀ pl wh kn dy, rng pl wh kn dy → 0 ≤ (q pl wh kn dy).toInt ∧ (q pl wh kn dy).toInt ≤ 30000 := fun pl wh kn dy hr => by
  obtain ⟨r1, r2, r3, r4⟩ := hr
  unfold pPart at h
  by_cases c1 : K i = 20
  · rw [if_pos c1] at h
    by_cases c2 : 999 < V i
    · rw [if_pos c2] at h
      cases h
    · rw [if_neg c2] at h
      injection h with h
      rw [← h]
      obtain ⟨m, m1, m2⟩ := tk_V hT hi c1
      show 0 ≤ (V i).toInt ∧ (V i).toInt ≤ 30000
      rw [m2, i32_i (by omega)]
      omega
  · rw [if_neg c1] at h
    by_cases c2 : K i = 7
    · rw [if_pos c2] at h
      injection h with h
      rw [← h]
      show 0 ≤ pl.toInt ∧ pl.toInt ≤ 30000
      omega
    · rw [if_neg c2] at h
      by_cases c3 : K i = 8
      · rw [if_pos c3] at h
        injection h with h
        rw [← h]
        show 0 ≤ dy.toInt ∧ dy.toInt ≤ 30000
        omega
      · rw [if_neg c3] at h
        by_cases c4 : K i = 9
        · rw [if_pos c4] at h
          injection h with h
          rw [← h]
          show 0 ≤ wh.toInt ∧ wh.toInt ≤ 30000
          omega
        · rw [if_neg c4] at h
          by_cases c5 : K i = 10
          · rw [if_pos c5] at h
            injection h with h
            rw [← h]
            show 0 ≤ kn.toInt ∧ kn.toInt ≤ 30000
            omega
          · rw [if_neg c5] at h
            cases h
theorem add_r {x y : Int32} (hx : 0 ≤ x.toInt) (hy : 0 ≤ y.toInt) (h : x.toInt + y.toInt < 2147483648) : (x + y).toInt = x.toInt + y.toInt := by
  have e : x + y = i32 (ni x + ni y) := by
    rw [← i32_a, ← i32_ni hx, ← i32_ni hy]
  have hx' : (ni x : Int) = x.toInt := by unfold ni; omega
  have hy' : (ni y : Int) = y.toInt := by unfold ni; omega
  rw [e, i32_i (by omega)]
  omega
theorem pSum_b {f : BY} {n t : Nat} {K V : Nat → Int32} {b e : Nat → Nat} (hT : TKS f n t K V b e) : ∀ (m : Nat) (z : SF) (i : Nat) (s : SF) (j : Nat) (B : Int), i ≤ t → pSum K V m z i = (some s, j) → (∀ pl wh kn dy, rng pl wh kn dy → 0 ≤ (z pl wh kn dy).toInt ∧ (z pl wh kn dy).toInt ≤ B) → B + 30000 * m < 2147483648 → ∀ pl wh kn dy, rng pl wh kn dy → 0 ≤ (s pl wh kn dy).toInt ∧ (s pl wh kn dy).toInt ≤ B + 30000 * m
  | 0, z, i, s, j, B, hi, h, hz, hB => by
    have : (none : Option SF) = some s := congrArg Prod.fst h
    cases this
  | m + 1, z, i, s, j, B, hi, h, hz, hB => by
    replace h : (match pPart K V i with
      | none => ((none, i) : Option SF × Nat)
      | some q => if K (i + 1) = 43 then pSum K V m (fun pl wh kn dy => z pl wh kn dy + q pl wh kn dy) (i + 2) else (some (fun pl wh kn dy => z pl wh kn dy + q pl wh kn dy), i + 1)) = (some s, j) := h
    cases hp : pPart K V i with
    | none =>
      rw [hp] at h
      have : (none : Option SF) = some s := congrArg Prod.fst h
      cases this
    | some q =>
      rw [hp] at h
      dsimp only at h
      have hlt := pPart_lt hT hi hp
      have hz' : ∀ pl wh kn dy, rng pl wh kn dy → 0 ≤ (z pl wh kn dy + q pl wh kn dy).toInt ∧ (z pl wh kn dy + q pl wh kn dy).toInt ≤ B + 30000 := fun pl wh kn dy hr => by
        have h1 := hz pl wh kn dy hr
        have h2 := pPart_b hT hi hp pl wh kn dy hr
        rw [add_r h1.1 h2.1 (by omega)]
        omega
      by_cases c : K (i + 1) = 43
      · rw [if_pos c] at h
        have hlt2 := tk_lt hT (by omega) (show ¬ K (i + 1) = 21 by rw [c]; decide)
        intro pl wh kn dy hr
        have := pSum_b hT m _ _ _ _ (B + 30000) (by omega) h hz' (by omega) pl wh kn dy hr
        omega
      · rw [if_neg c] at h
        have hs : (fun pl wh kn dy => z pl wh kn dy + q pl wh kn dy) = s := by
          have : (some (fun pl wh kn dy => z pl wh kn dy + q pl wh kn dy) : Option SF) = some s := congrArg Prod.fst h
          injection this
        intro pl wh kn dy hr
        have := hz' pl wh kn dy hr
        rw [← hs]
        show 0 ≤ (z pl wh kn dy + q pl wh kn dy).toInt ∧ (z pl wh kn dy + q pl wh kn dy).toInt ≤ _
        omega
theorem sub_lt {l r : Int32} (hl : 0 ≤ l.toInt) (hl2 : l.toInt < 1073741824) (hr : 0 ≤ r.toInt) (hr2 : r.toInt < 1073741824) : decide (0 < r - l) = decide (l < r) := by
  apply decide_eq_decide.mpr
  rw [lt_lit, lt_lit, Int32.toInt_sub, Int.bmod_def, show ((2 ^ 32 : Nat) : Int) = 4294967296 from rfl, show (0 : Int32).toInt = 0 from rfl]
  split <;> omega
section LI
variable {τ : Nat} {tm tm' : Nat → Int32} {pl wh kn dy d : Int32}
theorem lin_i (hτ : τ < 100000) : lin tm pl wh kn dy (i32 τ) = (((tm τ + tm (τ + 1) * pl) + tm (τ + 2) * dy) + tm (τ + 3) * wh) + tm (τ + 4) * kn := by
  unfold lin
  rw [i32_s, show i32 τ + 2 = i32 (τ + 2) from i32_a τ 2, show i32 τ + 3 = i32 (τ + 3) from i32_a τ 3, show i32 τ + 4 = i32 (τ + 4) from i32_a τ 4, ni_i (by omega), ni_i (by omega), ni_i (by omega), ni_i (by omega), ni_i (by omega)]
theorem lin_0 (hτ : τ < 100000) (h : ∀ j, ¬ j = τ → tm' j = tm j) (h2 : tm' τ = tm τ + d) : lin tm' pl wh kn dy (i32 τ) = lin tm pl wh kn dy (i32 τ) + d := by
  rw [lin_i hτ, lin_i hτ, h2, h _ (by omega), h _ (by omega), h _ (by omega), h _ (by omega)]
  ac_rfl
theorem lin_1 (hτ : τ < 100000) (h : ∀ j, ¬ j = τ + 1 → tm' j = tm j) (h2 : tm' (τ + 1) = tm (τ + 1) + d) : lin tm' pl wh kn dy (i32 τ) = lin tm pl wh kn dy (i32 τ) + d * pl := by
  rw [lin_i hτ, lin_i hτ, h2, h _ (by omega), h _ (by omega), h _ (by omega), h _ (by omega), Int32.add_mul]
  ac_rfl
theorem lin_2 (hτ : τ < 100000) (h : ∀ j, ¬ j = τ + 2 → tm' j = tm j) (h2 : tm' (τ + 2) = tm (τ + 2) + d) : lin tm' pl wh kn dy (i32 τ) = lin tm pl wh kn dy (i32 τ) + d * dy := by
  rw [lin_i hτ, lin_i hτ, h2, h _ (by omega), h _ (by omega), h _ (by omega), h _ (by omega), Int32.add_mul]
  ac_rfl
theorem lin_3 (hτ : τ < 100000) (h : ∀ j, ¬ j = τ + 3 → tm' j = tm j) (h2 : tm' (τ + 3) = tm (τ + 3) + d) : lin tm' pl wh kn dy (i32 τ) = lin tm pl wh kn dy (i32 τ) + d * wh := by
  rw [lin_i hτ, lin_i hτ, h2, h _ (by omega), h _ (by omega), h _ (by omega), h _ (by omega), Int32.add_mul]
  ac_rfl
theorem lin_4 (hτ : τ < 100000) (h : ∀ j, ¬ j = τ + 4 → tm' j = tm j) (h2 : tm' (τ + 4) = tm (τ + 4) + d) : lin tm' pl wh kn dy (i32 τ) = lin tm pl wh kn dy (i32 τ) + d * kn := by
  rw [lin_i hτ, lin_i hτ, h2, h _ (by omega), h _ (by omega), h _ (by omega), h _ (by omega), Int32.add_mul]
  ac_rfl
theorem lin_cg {st : Nat} (hst : st < 100000) (h : ∀ j, st ≤ j → j < st + 5 → tm' j = tm j) : lin tm' pl wh kn dy (i32 st) = lin tm pl wh kn dy (i32 st) := by
  rw [lin_i hst, lin_i hst, h _ (by omega) (by omega), h _ (by omega) (by omega), h _ (by omega) (by omega), h _ (by omega) (by omega), h _ (by omega) (by omega)]
theorem lin_z {st : Nat} (hst : st < 100000) (h : ∀ j, st ≤ j → j < st + 5 → tm j = 0) : lin tm pl wh kn dy (i32 st) = 0 := by
  rw [lin_i hst, h _ (by omega) (by omega), h _ (by omega) (by omega), h _ (by omega) (by omega), h _ (by omega) (by omega), h _ (by omega) (by omega)]
  simp only [Int32.zero_mul, Int32.add_zero]
theorem lin_ng {st : Nat} (hst : st < 100000) (h : ∀ j, st ≤ j → j < st + 5 → tm' j = -(tm j)) : lin tm' pl wh kn dy (i32 st) = -(lin tm pl wh kn dy (i32 st)) := by
  rw [lin_i hst, lin_i hst, h _ (by omega) (by omega), h _ (by omega) (by omega), h _ (by omega) (by omega), h _ (by omega) (by omega), h _ (by omega) (by omega)]
  simp only [Int32.neg_mul, Int32.neg_add, Int32.sub_eq_add_neg]
end LI
abbrev fcs : List (Nat × Nat × Option Nat) := [(3, 3, some 5), (17, 17, none)]
section CS
variable {f : BY} {n t i τ : Nat} {K V : Nat → Int32} {b e : Nat → Nat} {M : MM} {x : Int32}
theorem c_sum {N : Nat} {Q : Int32 → MM → Prop} (hn : n ≤ 400) (hT : TKS f n t K V b e) (h : TKc M t K V i) (hi : i ≤ t) (hτ : τ < 1000)
    (hQ1 : ∀ s j, pSum K V 401 zSF i = (some s, j) → j ≤ t → i < j → ∀ M', TKc M' t K V j → (∀ pl wh kn dy, lin (M'.1 17) pl wh kn dy (i32 τ) = lin (M.1 17) pl wh kn dy (i32 τ) + x * s pl wh kn dy) → (∀ k, k < τ → M'.1 17 k = M.1 17 k) → Eqo fcs M M' → Q 1 M')
    (hQ0 : ∀ j, pSum K V 401 zSF i = (none, j) → j ≤ t → ∀ M', TKc M' t K V j → Q 0 M') : W_LawReader_readSum (i32 τ) x N M Q := by
  have ht := hT.1
  have t1 : ni (i32 τ + 1) = τ + 1 := by rw [i32_s, ni_i (by omega)]
  have t2 : ni (i32 τ + 2) = τ + 2 := by rw [show i32 τ + 2 = i32 (τ + 2) from i32_a τ 2, ni_i (by omega)]
  have t3 : ni (i32 τ + 3) = τ + 3 := by rw [show i32 τ + 3 = i32 (τ + 3) from i32_a τ 3, ni_i (by omega)]
  have t4 : ni (i32 τ + 4) = τ + 4 := by rw [show i32 τ + 4 = i32 (τ + 4) from i32_a τ 4, ni_i (by omega)]
  unfold W_LawReader_readSum
  refine I_LawReader_readSum_2 _ _ _ (fun v M' => ∃ c i' m z, v = i32 c ∧ 2 * c + i ≤ i' ∧ i' ≤ t ∧ t ≤ i' + m ∧ pSum K V 401 zSF i = pSum K V (m + 1) z i' ∧ TKc M' t K V i' ∧ (∀ pl wh kn dy, lin (M'.1 17) pl wh kn dy (i32 τ) = lin (M.1 17) pl wh kn dy (i32 τ) + x * z pl wh kn dy) ∧ (∀ k, k < τ → M'.1 17 k = M.1 17 k) ∧ Eqo fcs M M') (fun N ih v M' hih hv => ?_) N _ _ ⟨0, i, 400, zSF, rfl, by omega, hi, by omega, rfl, h, fun pl wh kn dy => ?_, fun _ _ => rfl, eqo_rf M⟩
  · obtain ⟨c, i', m, z, rfl, k1, k2, k3, k4, k5, k6, k7, k8⟩ := hv
    have nx : ∀ (k : Nat) (x' : Int32) (q : SF), τ ≤ k → pPart K V i' = some q → (∀ pl wh kn dy, lin ((wi M' 17 k x').1 17) pl wh kn dy (i32 τ) = lin (M'.1 17) pl wh kn dy (i32 τ) + x * q pl wh kn dy) → W_Text_goOn N (wi M' 17 k x') (fun M6 => (((V_Text_kind M6) = 43 → W_Text_goOn N M6 (fun M9 => ih (i32 c + 1) M9)) ∧ (¬ (V_Text_kind M6) = 43 → Q 1 M6))) := fun k x' q hk hq hl => by
      have hlt := pPart_lt hT k2 hq
      unfold W_Text_goOn
      have g1 := TKc_g (TKc_e k5 (eqo_a (a := 17) (k := k) (x := x')) rfl)
      have eq1' : Eqo fcs M (wi (wi M' 17 k x') 3 5 ((wi M' 17 k x').1 3 5 + 1)) := eqo_wi (i := 0) (eqo_wi (i := 1) k8 rfl (Or.inl rfl)) rfl (Or.inr rfl)
      have l1 : ∀ pl wh kn dy, lin ((wi (wi M' 17 k x') 3 5 ((wi M' 17 k x').1 3 5 + 1)).1 17) pl wh kn dy (i32 τ) = lin (M.1 17) pl wh kn dy (i32 τ) + x * (z pl wh kn dy + q pl wh kn dy) := fun pl wh kn dy => by
        show lin ((wi M' 17 k x').1 17) pl wh kn dy (i32 τ) = _
        rw [hl, k6, Int32.mul_add, Int32.add_assoc]
      have f1 : ∀ y, y < τ → (wi (wi M' 17 k x') 3 5 ((wi M' 17 k x').1 3 5 + 1)).1 17 y = M.1 17 y := fun y hy => by
        rw [wi_1n (by omega), wi_1n (by omega)]
        exact k7 y hy
      have k4' : pSum K V 401 zSF i = (if K (i' + 1) = 43 then pSum K V m (fun pl wh kn dy => z pl wh kn dy + q pl wh kn dy) (i' + 2) else (some (fun pl wh kn dy => z pl wh kn dy + q pl wh kn dy), i' + 1)) := by
        rw [k4]
        show (match pPart K V i' with | none => (none, i') | some q => _) = _
        rw [hq]
      dsimp only
      rw [kd g1 (by omega) ht]
      refine ⟨fun hk43 => ?_, fun hk43 => ?_⟩
      · rw [if_pos hk43] at k4'
        have hlt2 := tk_lt hT (by omega) (show ¬ K (i' + 1) = 21 by rw [hk43]; decide)
        obtain ⟨m2, rfl⟩ : ∃ m2, m = m2 + 1 := ⟨m - 1, by omega⟩
        exact hih _ _ ⟨c + 1, i' + 2, m2, _, i32_s c, by omega, by omega, by omega, k4', TKc_g g1, l1, f1, eqo_wi (i := 0) eq1' rfl (Or.inr rfl)⟩
      · rw [if_neg hk43] at k4'
        exact hQ1 _ (i' + 1) k4' (by omega) (by omega) _ g1 l1 f1 eq1'
    have bad : pPart K V i' = none → Q 0 M' := fun hq => hQ0 i' (by
      rw [k4]
      show (match pPart K V i' with | none => (none, i') | some q => _) = _
      rw [hq]) k2 M' k5
    unfold B_LawReader_readSum_2
    rw [kd k5 k2 ht, vl k5 k2 ht, t1, t2, t3, t4, ni_i (by omega)]
    refine ⟨fun _ => ?_, fun hx => absurd ((i32_lt (k := 400) (by omega) (by omega)).mpr (by omega)) hx⟩
    have ne7 : K i' = 20 → ¬ K i' = 7 := fun h => by rw [h]; decide
    have ne8 : K i' = 20 → ¬ K i' = 8 := fun h => by rw [h]; decide
    have ne9 : K i' = 20 → ¬ K i' = 9 := fun h => by rw [h]; decide
    have ne10 : K i' = 20 → ¬ K i' = 10 := fun h => by rw [h]; decide
    refine ⟨fun h20 => ⟨fun h9 => ⟨fun hk => absurd hk (ne7 h20), fun _ => ⟨fun hk => absurd hk (ne8 h20), fun _ => ⟨fun hk => absurd hk (ne9 h20), fun _ => ⟨fun hk => absurd hk (ne10 h20), fun _ => bad ?_⟩⟩⟩⟩, fun h9 => nx τ _ (fun _ _ _ _ => V i') (Nat.le_refl _) ?_ (fun pl wh kn dy => lin_0 (by omega) (fun j hj => wi_1n (by omega)) wi_1e)⟩, fun h20 => ⟨fun hk => nx (τ + 1) _ (fun pl _ _ _ => pl) (by omega) ?_ (fun pl wh kn dy => lin_1 (by omega) (fun j hj => wi_1n (by omega)) wi_1e), fun h7 => ⟨fun hk => nx (τ + 2) _ (fun _ _ _ dy => dy) (by omega) ?_ (fun pl wh kn dy => lin_2 (by omega) (fun j hj => wi_1n (by omega)) wi_1e), fun h8 => ⟨fun hk => nx (τ + 3) _ (fun _ wh _ _ => wh) (by omega) ?_ (fun pl wh kn dy => lin_3 (by omega) (fun j hj => wi_1n (by omega)) wi_1e), fun h9 => ⟨fun hk => nx (τ + 4) _ (fun _ _ kn _ => kn) (by omega) ?_ (fun pl wh kn dy => lin_4 (by omega) (fun j hj => wi_1n (by omega)) wi_1e), fun h10 => bad ?_⟩⟩⟩⟩⟩
    · unfold pPart
      rw [if_pos h20, if_pos h9]
    · unfold pPart
      rw [if_pos h20, if_neg h9]
    · unfold pPart
      rw [if_neg h20, if_pos hk]
    · unfold pPart
      rw [if_neg h20, if_neg h7, if_pos hk]
    · unfold pPart
      rw [if_neg h20, if_neg h7, if_neg h8, if_pos hk]
    · unfold pPart
      rw [if_neg h20, if_neg h7, if_neg h8, if_neg h9, if_pos hk]
    · exact pPart_n h20 h7 h8 h9 h10
  · show _ = _ + x * 0
    rw [Int32.mul_zero, Int32.add_zero]
end CS
end
section
/-! THE CLASS READS A COMPARISON -/
/-- what a reader of the class that means a truth must do -/
def CDS (t : Nat) (K V : Nat → Int32) (e : Nat → Nat) (A i s u : Nat) (M : MM) (res : Option BF × Nat) (Q : Int32 → MM → Prop) : Prop :=
  (∀ c j, res = (some c, j) → j ≤ t → i < j → ∀ M' s' u', TKc M' t K V j → M'.1 13 6 = i32 s' → M'.1 13 8 = i32 (5 * u') → s ≤ s' → u ≤ u' → 2 * s' + pe e i ≤ 2 * s + pe e j → 3 * u' + pe e i ≤ 3 * u + pe e j → CMg A M' s s' u' c → (∀ x, x < s → M'.1 16 x = M.1 16 x) → (∀ x, x < 5 * u → M'.1 17 x = M.1 17 x) → Q 1 M') ∧
  (∀ j, res = (none, j) → j ≤ t → ∀ M', TKc M' t K V j → Q 0 M')
section CC
variable {f : BY} {n t i s u : Nat} {K V : Nat → Int32} {b e : Nat → Nat} {M : MM}
theorem c_step {N : Nat} {st : Int32} {Q : MM → Prop} (h : M.1 13 6 = i32 s) (hs : s < 200) (hQ : ∀ M', M'.1 13 6 = i32 (s + 1) → M'.1 16 s = st → (∀ x, ¬ x = s → M'.1 16 x = M.1 16 x) → Eqo [(16, 16, none), (13, 13, some 6)] M M' → Q M') : W_Law_addStep 13 st N M Q := by
  unfold W_Law_addStep
  rw [h]
  refine ⟨fun _ => ?_, fun hx => absurd ((i32_lt (k := 200) (by omega) (by omega)).mpr hs) hx⟩
  rw [ni_i (by omega), show (wi M (13 + 3) s st).1 13 6 = i32 s by rw [wi_1n (by omega)]; exact h, i32_s]
  exact hQ _ wi_1e (by rw [wi_1n (by omega)]; exact wi_1e) (fun x hx => by rw [wi_1n (by omega), wi_1n (by omega)]) (eqo_wi (i := 1) (eqo_wi (i := 0) (eqo_rf M) rfl (Or.inl rfl)) rfl (Or.inr rfl))
theorem c_terms {N : Nat} {Q : Int32 → MM → Prop} (h : M.1 13 8 = i32 (5 * u)) (hu : u < 133) (hQ : ∀ M', M'.1 13 8 = i32 (5 * (u + 1)) → (∀ x, 5 * u ≤ x → x < 5 * u + 5 → M'.1 17 x = 0) → (∀ x, x < 5 * u → M'.1 17 x = M.1 17 x) → Eqo [(17, 17, none), (13, 13, some 8)] M M' → Q (i32 (5 * u)) M') : W_Law_addTerms 13 N M Q := by
  unfold W_Law_addTerms
  rw [h]
  refine ⟨fun hx => ?_, fun _ => ?_⟩
  · have : i32 665 < i32 (5 * u + 5) := by rw [← i32_a]; exact hx
    have := (i32_lt (by omega) (by omega)).mp this
    omega
  · refine I_Law_addTerms_20 13 _ _ (fun v M' => ∃ k, k ≤ 5 ∧ v = i32 k ∧ (∀ x, 5 * u ≤ x → x < 5 * u + k → M'.1 17 x = 0) ∧ (∀ x, x < 5 * u → M'.1 17 x = M.1 17 x) ∧ Eqo [(17, 17, none)] M M') (fun N ih v M' hih hv => ?_) N _ _ ⟨0, by omega, rfl, fun x h1 h2 => by omega, fun _ _ => rfl, eqo_rf M⟩
    obtain ⟨k, k1, rfl, k2, k3, k4⟩ := hv
    unfold B_Law_addTerms_20
    rw [show i32 k < 5 ↔ k < 5 from i32_lt (k := 5) (by omega) (by omega), i32_a, ni_i (by omega)]
    refine ⟨fun hl => hih _ _ ⟨k + 1, by omega, i32_s k, fun x h1 h2 => ?_, fun x hx => ?_, eqo_wi (i := 0) k4 rfl (Or.inl rfl)⟩, fun hl => ?_⟩
    · by_cases hx : x = 5 * u + k
      · rw [hx]; exact wi_1e
      · rw [wi_1n (by omega)]
        exact k2 x h1 (by omega)
    · rw [wi_1n (by omega)]
      exact k3 x hx
    · obtain rfl : k = 5 := by omega
      have h8 : M'.1 13 8 = i32 (5 * u) := by rw [eq1 k4 (b := 13) (k := 8) rfl]; exact h
      refine hQ _ ?_ (fun x h1 h2 => ?_) (fun x hx => ?_) (eqo_wi (i := 1) (eqo_tr (eqo_rf M) (fps_cons (i := 0) rfl fps_nil) k4) rfl (Or.inr rfl))
      · rw [wi_1e, h8, show (i32 (5 * u) + 5 : Int32) = i32 (5 * u + 5) from i32_a (5 * u) 5]
        rfl
      · rw [wi_1n (by omega)]
        exact k2 x h1 h2
      · rw [wi_1n (by omega)]
        exact k3 x hx
theorem c_neg {N τ : Nat} {u2 : Int32} {k95 : MM → Prop} {Q : Int32 → MM → Prop} (hτ : τ < 1000) (hQ : ∀ M', (∀ x, τ ≤ x → x < τ + 5 → M'.1 17 x = -(M.1 17 x)) → (∀ x, x < τ → M'.1 17 x = M.1 17 x) → Eqo [(17, 17, none)] M M' → k95 M') : W_LawReader_readComparison_61 (i32 τ) u2 k95 Q N 0 M := by
  refine I_LawReader_readComparison_61 _ _ _ _ (fun v M' => ∃ k, k ≤ 5 ∧ v = i32 k ∧ (∀ x, τ ≤ x → x < τ + k → M'.1 17 x = -(M.1 17 x)) ∧ (∀ x, (x < τ ∨ τ + k ≤ x) → M'.1 17 x = M.1 17 x) ∧ Eqo [(17, 17, none)] M M') (fun N ih v M' hih hv => ?_) N _ _ ⟨0, by omega, rfl, fun x h1 h2 => by omega, fun _ _ => rfl, eqo_rf M⟩
  obtain ⟨k, k1, rfl, k2, k3, k4⟩ := hv
  unfold B_LawReader_readComparison_61
  rw [show i32 k < 5 ↔ k < 5 from i32_lt (k := 5) (by omega) (by omega), i32_a, ni_i (by omega)]
  refine ⟨fun hl => hih _ _ ⟨k + 1, by omega, i32_s k, fun x h1 h2 => ?_, fun x hx => ?_, eqo_wi (i := 0) k4 rfl (Or.inl rfl)⟩, fun hl => ?_⟩
  · by_cases hx : x = τ + k
    · rw [hx, wi_1e, k3 _ (Or.inr (Nat.le_refl _))]
    · rw [wi_1n (by omega)]
      exact k2 x h1 (by omega)
  · rw [wi_1n (by omega)]
    exact k3 x (by omega)
  · obtain rfl : k = 5 := by omega
    exact hQ _ k2 (fun x hx => k3 x (Or.inl hx)) k4
theorem c_leaf {N A : Nat} {c : BF} {Q : Int32 → MM → Prop} {j : Nat} {M0 : MM} (hT : TKS f n t K V b e) (hn : n ≤ 400) (h : TKc M t K V j) (hj : j ≤ t) (hij : i + 3 ≤ j) (h6 : M.1 13 6 = i32 s) (h8 : M.1 13 8 = i32 (5 * (u + 1))) (hs : 2 * s ≤ pe e i) (hu : u < 133)
    (hc : ∀ pl wh kn dy, rng pl wh kn dy → decide (0 < lin (M.1 17) pl wh kn dy (i32 (5 * u))) = c pl wh kn dy) (e16 : M.1 16 = M0.1 16) (e17 : ∀ x, x < 5 * u → M.1 17 x = M0.1 17 x) (res : Option BF × Nat) (hres : res = (some c, j)) (hQ : CDS t K V e A i s u M0 res Q) : W_Law_addStep 13 (i32 (5 * u)) N M (fun M18 => Q 1 M18) := by
  have hp := pe_le hT 3 (show i + 3 ≤ t by omega)
  have hp2 := pe_le hT (j - (i + 3)) (show i + 3 + (j - (i + 3)) ≤ t by omega)
  rw [show i + 3 + (j - (i + 3)) = j by omega] at hp2
  have hpn := pe_n hT hj
  refine c_step h6 (by omega) (fun M' a1 a2 a3 a4 => ?_)
  have e17' : M'.1 17 = M.1 17 := eqb a4 (lo := 17) (hi := 17) rfl (Nat.le_refl _) (Nat.le_refl _)
  refine hQ.1 c j hres hj (by omega) M' (s + 1) (u + 1) (TKc_e h a4 rfl) a1 (by rw [eq1 a4 (b := 13) (k := 8) rfl]; exact h8) (by omega) (by omega) (by omega) (by omega) ?_ (fun x hx => by rw [a3 x (by omega), e16]) (fun x hx => by rw [e17']; exact e17 x hx)
  refine CMt_1 a2 (fun tm ht2 pl wh kn dy hr X hX => ?_)
  have el : lin tm pl wh kn dy (i32 (5 * u)) = lin (M.1 17) pl wh kn dy (i32 (5 * u)) := lin_cg (by omega) (fun y h1 h2 => by rw [ht2 y (by omega), e17'])
  rw [cst_l hu, el, hc pl wh kn dy hr]
theorem zb (pl wh kn dy : Int32) (_ : rng pl wh kn dy) : 0 ≤ (zSF pl wh kn dy).toInt ∧ (zSF pl wh kn dy).toInt ≤ 0 := ⟨by show 0 ≤ (0 : Int32).toInt; decide, by show (0 : Int32).toInt ≤ 0; decide⟩
theorem c_cmp {N A : Nat} {Q : Int32 → MM → Prop} (hn : n ≤ 400) (hT : TKS f n t K V b e) (h : TKc M t K V i) (hi : i ≤ t) (h6 : M.1 13 6 = i32 s) (h8 : M.1 13 8 = i32 (5 * u)) (hs : 2 * s ≤ pe e i) (hu : 3 * u + 3 ≤ pe e i) (hQ : CDS t K V e A i s u M (pCmp K V i) Q) : W_LawReader_readComparison N M Q := by
  have ht := hT.1
  have hpn := pe_n hT hi
  have hQ0 := hQ.2
  unfold W_LawReader_readComparison
  refine c_terms h8 (by omega) (fun M2 a1 a2 a3 a4 => ?_)
  refine ⟨fun x => ?_, fun _ => ?_⟩
  · have : (i32 (5 * u)).toInt = (-1 : Int32).toInt := by rw [x]
    rw [i32_i (by omega), show (-1 : Int32).toInt = -1 from rfl] at this
    omega
  refine c_sum hn hT (TKc_e h a4 rfl) hi (by omega) (fun l j hl hj hij M5 t5 l5 f5 e5 => ?_) (fun j hl hj M5 t5 => ?_)
  · refine ⟨fun x => absurd x (by decide), fun _ => ?_⟩
    have lz : ∀ pl wh kn dy, lin (M5.1 17) pl wh kn dy (i32 (5 * u)) = l pl wh kn dy := fun pl wh kn dy => by
      rw [l5, lin_z (by omega) a2, Int32.one_mul, Int32.zero_add]
    have e25 := eqo_app a4 e5
    have s6 : M5.1 13 6 = i32 s := by rw [eq1 e25 (b := 13) (k := 6) rfl]; exact h6
    have s8 : M5.1 13 8 = i32 (5 * (u + 1)) := by rw [eq1 e5 (b := 13) (k := 8) rfl]; exact a1
    have s16 : M5.1 16 = M.1 16 := eqb e25 (lo := 16) (hi := 16) rfl (Nat.le_refl _) (Nat.le_refl _)
    have s17 : ∀ x, x < 5 * u → M5.1 17 x = M.1 17 x := fun x hx => by rw [f5 x hx, a3 x hx]
    have bl := pSum_b hT 401 zSF i l j 0 hi hl zb (by decide)
    rw [kd t5 hj ht]
    refine ⟨fun h60 => ?_, fun h60 => ⟨fun h62 => ?_, fun h62 => ?_⟩⟩
    · have hlt := tk_lt hT hj (by rw [h60]; decide)
      unfold W_Text_goOn
      refine ⟨fun _ => ?_, fun x => absurd h60 x⟩
      refine c_neg (by omega) (fun M12 b1 b2 b3 => ⟨fun _ => ?_, fun x => absurd h60 x⟩)
      refine c_sum hn hT (TKc_e (TKc_g t5) b3 rfl) (by omega) (by omega) (fun r j2 hr hj2 hij2 M15 t15 l15 f15 e15 => ?_) (fun j2 hr hj2 M15 t15 => ?_)
      · refine ⟨fun x => absurd x (by decide), fun _ => ?_⟩
        have e3 := eqo_app (eqo_app (eqo_1 (M := M5) (a := 3) (k := 5) (x := M5.1 3 5 + 1)) b3) e15
        have br := pSum_b hT 401 zSF (j + 1) r j2 0 (by omega) hr zb (by decide)
        refine c_leaf (i := i) (c := fun pl wh kn dy => decide (l pl wh kn dy < r pl wh kn dy)) hT hn t15 hj2 (by omega) (by rw [eq1 e3 (b := 13) (k := 6) rfl]; exact s6) (by rw [eq1 e3 (b := 13) (k := 8) rfl]; exact s8) hs (by omega) (fun pl wh kn dy hr4 => ?_) (by rw [eqb e3 (lo := 16) (hi := 16) rfl (Nat.le_refl _) (Nat.le_refl _)]; exact s16) (fun x hx => by rw [f15 x hx, b2 x hx]; exact s17 x hx) (pCmp K V i) ?_ hQ
        · rw [l15, lin_ng (by omega) b1, show lin ((wi M5 3 5 (M5.1 3 5 + 1)).1 17) pl wh kn dy (i32 (5 * u)) = l pl wh kn dy from lz pl wh kn dy, Int32.one_mul, Int32.add_comm, ← Int32.sub_eq_add_neg]
          have := bl pl wh kn dy hr4
          have := br pl wh kn dy hr4
          exact sub_lt (by omega) (by omega) (by omega) (by omega)
        · unfold pCmp
          rw [hl]
          dsimp only
          rw [if_pos h60, hr]
      · refine ⟨fun _ => hQ0 j2 ?_ hj2 M15 t15, fun x => absurd rfl x⟩
        unfold pCmp
        rw [hl]
        dsimp only
        rw [if_pos h60, hr]
    · have hlt := tk_lt hT hj (by rw [h62]; decide)
      unfold W_Text_goOn
      refine ⟨fun x => absurd x h60, fun _ => ⟨fun x => absurd x h60, fun _ => ?_⟩⟩
      refine c_sum hn hT (TKc_g t5) (by omega) (by omega) (fun r j2 hr hj2 hij2 M15 t15 l15 f15 e15 => ?_) (fun j2 hr hj2 M15 t15 => ?_)
      · refine ⟨fun x => absurd x (by decide), fun _ => ?_⟩
        have e3 := eqo_app (eqo_1 (M := M5) (a := 3) (k := 5) (x := M5.1 3 5 + 1)) e15
        have br := pSum_b hT 401 zSF (j + 1) r j2 0 (by omega) hr zb (by decide)
        refine c_leaf (i := i) (c := fun pl wh kn dy => decide (r pl wh kn dy < l pl wh kn dy)) hT hn t15 hj2 (by omega) (by rw [eq1 e3 (b := 13) (k := 6) rfl]; exact s6) (by rw [eq1 e3 (b := 13) (k := 8) rfl]; exact s8) hs (by omega) (fun pl wh kn dy hr4 => ?_) (by rw [eqb e3 (lo := 16) (hi := 16) rfl (Nat.le_refl _) (Nat.le_refl _)]; exact s16) (fun x hx => by rw [f15 x hx]; exact s17 x hx) (pCmp K V i) ?_ hQ
        · rw [l15, show lin ((wi M5 3 5 (M5.1 3 5 + 1)).1 17) pl wh kn dy (i32 (5 * u)) = l pl wh kn dy from lz pl wh kn dy, Int32.neg_mul, Int32.one_mul, ← Int32.sub_eq_add_neg]
          have := bl pl wh kn dy hr4
          have := br pl wh kn dy hr4
          exact sub_lt (by omega) (by omega) (by omega) (by omega)
        · unfold pCmp
          rw [hl]
          dsimp only
          rw [if_neg h60, if_pos h62, hr]
      · refine ⟨fun _ => hQ0 j2 ?_ hj2 M15 t15, fun x => absurd rfl x⟩
        unfold pCmp
        rw [hl]
        dsimp only
        rw [if_neg h60, if_pos h62, hr]
    · refine hQ0 j ?_ hj M5 t5
      unfold pCmp
      rw [hl]
      dsimp only
      rw [if_neg h60, if_neg h62]
  · refine ⟨fun _ => hQ0 j ?_ hj M5 t5, fun x => absurd rfl x⟩
    unfold pCmp
    rw [hl]
end CC
end
