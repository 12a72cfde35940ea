/-! THE REFERENCE'S READING OF ATOMS JOINED -/
def bJn (w : Nat) (op : Int32) (ra : Nat → MM → (Int32 → MM → Prop) → Prop) (Q : Int32 → MM → Prop) (N : Nat) (ih : MM → Prop) (M : MM) : Prop :=
  W_m_passes w N M (fun r4 M5 =>
    ((r4 = 0 →
      Q 1 M5) ∧
     (¬ r4 = 0 →
      ra N M5 (fun r7 M8 =>
        ((r7 = 0 →
          Q 0 M8) ∧
         (¬ r7 = 0 →
          W_m_emits op 0 N M8 (fun M11 =>
            ih M11)))))))
def lpW (w : Nat) (op : Int32) (ra : Nat → MM → (Int32 → MM → Prop) → Prop) (Q : Int32 → MM → Prop) : Nat → MM → Prop
  | 0, _ => True
  | N + 1, M => bJn w op ra Q N (lpW w op ra Q N) M
def jnW (w : Nat) (op : Int32) (ra : Nat → MM → (Int32 → MM → Prop) → Prop) (N : Nat) (M : MM) (Q : Int32 → MM → Prop) : Prop :=
  ra N M (fun r1 M2 =>
    ((r1 = 0 →
      Q 0 M2) ∧
     (¬ r1 = 0 →
      lpW w op ra Q N M2)))
theorem jnW_u {w : Nat} {op : Int32} {ra : Nat → MM → (Int32 → MM → Prop) → Prop} {N : Nat} {M : MM} {Q : Int32 → MM → Prop} : jnW w op ra N M Q = ra N M (fun r1 M2 => ((r1 = 0 → Q 0 M2) ∧ (¬ r1 = 0 → lpW w op ra Q N M2))) := rfl
theorem lpW_I {w : Nat} {op : Int32} {ra : Nat → MM → (Int32 → MM → Prop) → Prop} {Q : Int32 → MM → Prop} (P : MM → Prop) (h : ∀ N ih M, (∀ M', P M' → ih M') → P M → bJn w op ra Q N ih M) : ∀ N M, P M → lpW w op ra Q N M
  | 0, _, _ => trivial
  | N + 1, M, hP => h N _ M (fun M' hM' => lpW_I P h N M' hM') hP
section RJ
variable {f : BY} {n t : Nat} {K V : Nat → Int32} {b e : Nat → Nat}
theorem pJoin_s {at_ : Nat → Option BF × Nat} {m : Nat} {o a : Option BF} {i j : Nat} {c : BF} (h : at_ i = (some c, j)) : pJoin K at_ (m + 1) o a i = if K j = 4 then pJoin K at_ m o (some (jn and a c)) (j + 1) else if K j = 3 then pJoin K at_ m (some (jn or o (jn and a c))) none (j + 1) else (some (jn or o (jn and a c)), j) := by
  show (match at_ i with | (none, j) => (none, j) | (some c, j) => _) = _
  rw [h]
theorem pJoin_n {at_ : Nat → Option BF × Nat} {m : Nat} {o a : Option BF} {i j : Nat} (h : at_ i = (none, j)) : pJoin K at_ (m + 1) o a i = (none, j) := by
  show (match at_ i with | (none, j) => (none, j) | (some c, j) => _) = _
  rw [h]
theorem r_all {ra : Nat → MM → (Int32 → MM → Prop) → Prop} {at_ : Nat → Option BF × Nat} {d : Int32} (hb : BOK f n) (hn : n ≤ 400) (hT : TKS f n t K V b e) (hra : RDR f n t b e ra at_ d) {N : Nat} {M : MM} {p g i σ m : Nat} {o : Option BF} {Q : Int32 → MM → Prop} (h : TXr M f n p g) (hp : PT e b i p) (hi : i ≤ t) (hs : M.1 190 25 = i32 σ) (hσ : σ ≤ i) (h22 : M.1 190 22 = d) (hm : t ≤ i + m)
    (hQ1 : ∀ m' c j, pJoin K at_ (m + 1) o none i = (if K j = 3 then pJoin K at_ m' (some (jn or o c)) none (j + 1) else (some (jn or o c), j)) → j ≤ t → i < j → t ≤ j + m' → ∀ M' p' g' σ', TXr M' f n p' g' → PT e b j p' → M'.1 190 25 = i32 σ' → σ' + i ≤ σ + j → σ ≤ σ' → BMg (M'.1 202) σ σ' c → (∀ x, x < 2 * σ → M'.1 202 x = M.1 202 x) → M'.1 190 22 = d → Q 1 M')
    (hQ0 : ∀ j, pJoin K at_ (m + 1) o none i = (none, j) → j ≤ t → ∀ M', M'.1 190 21 = i32 (b j) → Q 0 M') : jnW 2989961357 10 ra N M Q := by
  have ht := hT.1
  unfold jnW
  refine hra N M p g i σ _ h hp hi hs hσ h22 ⟨fun c j hj hjt hij M1 p1 g1 σ1 t1 k1 c1 q1 q2 m1 f1 y1 => ?_, fun j hj hjt M1 x1 => ?_⟩
  · refine ⟨fun x => absurd x (by decide), fun _ => ?_⟩
    refine lpW_I (fun M' => ∃ i' m' c' σ' p' g', i' ≤ t ∧ i < i' ∧ pJoin K at_ (m + 1) o none i = (if K i' = 4 then pJoin K at_ m' o (some c') (i' + 1) else if K i' = 3 then pJoin K at_ m' (some (jn or o c')) none (i' + 1) else (some (jn or o c'), i')) ∧ t ≤ i' + m' ∧ TXr M' f n p' g' ∧ PT e b i' p' ∧ M'.1 190 25 = i32 σ' ∧ σ' + i ≤ σ + i' ∧ σ ≤ σ' ∧ BMg (M'.1 202) σ σ' c' ∧ (∀ x, x < 2 * σ → M'.1 202 x = M.1 202 x) ∧ M'.1 190 22 = d) (fun N ih M' hih hv => ?_) N _ ⟨j, m, c, σ1, p1, g1, hjt, hij, pJoin_s hj, by omega, t1, k1, c1, q1, q2, m1, f1, y1.trans h22⟩
    obtain ⟨i', m', c', σ', p', g', k1, k0, k2, k3, k4, k5, k6, k7, k8, k9, k10, k11⟩ := hv
    unfold bJn
    refine t_passes st_and (by omega) k4 hb hn hT k1 k5 ⟨fun hk => ?_, fun hk => ?_⟩
    · refine ⟨fun x => absurd x (by decide), fun _ => ?_⟩
      have hlt := tk_lt hT k1 (by rw [hk]; decide)
      rw [if_pos (show K i' = 4 from hk)] at k2
      obtain ⟨m2, rfl⟩ : ∃ m2, m' = m2 + 1 := ⟨m' - 1, by omega⟩
      refine hra N (atP M' (e i') (b i')) (e i') (b i') (i' + 1) σ' _ (atP_T k4) (PT_s hT hlt) (by omega) k6 (by omega) k11 ⟨fun c2 j2 hj2 hjt2 hij2 M2 p2 g2 σ2 t2 l2 c2' q3 q4 m2' f2 y2 => ?_, fun j2 hj2 hjt2 M2 x2 => ?_⟩
      · refine ⟨fun x => absurd x (by decide), fun _ => ?_⟩
        refine r_emits c2' (by omega) (fun M3 a1 a2 a3 a4 a5 => hih _ ⟨j2, m2, jn and (some c') c2, σ2 + 1, p2, g2, hjt2, by omega, ?_, by omega, TXr_e t2 a5 rfl, l2, a1, by omega, by omega, ?_, fun x hx => ?_, by rw [eq1 a5 (b := 190) (k := 22) rfl, y2]; exact k11⟩)
        · rw [k2]
          exact pJoin_s hj2
        · have r1 : RMg (M3.1 202) σ σ' (fun pl wh kn dy => b32 (c' pl wh kn dy)) := RMg_cg k9 k8 (fun x hx => by rw [a4 x (by omega), f2 x hx]; rfl)
          have r2 : RMg (M3.1 202) σ' σ2 (fun pl wh kn dy => b32 (c2 pl wh kn dy)) := RMg_cg m2' q4 (fun x hx => a4 x hx)
          exact RMg_cv (RMg_b r1 r2 k8 q4 a2 (by decide) (by decide)) (fun pl wh kn dy => rop_and)
        · rw [a4 x (by omega), f2 x (by omega)]
          exact k10 x hx
      · refine ⟨fun _ => hQ0 j2 ?_ hjt2 M2 x2, fun x => absurd rfl x⟩
        rw [k2]
        exact pJoin_n hj2
    · refine ⟨fun _ => ?_, fun x => absurd rfl x⟩
      rw [if_neg (show ¬ K i' = 4 from hk)] at k2
      exact hQ1 m' c' i' k2 k1 k0 k3 _ _ _ σ' (atP_T k4) (PT_b hT k1) k6 k7 k8 k9 k10 k11
  · exact ⟨fun _ => hQ0 j (pJoin_n hj) hjt M1 x1, fun x => absurd rfl x⟩
theorem r_cond {ra : Nat → MM → (Int32 → MM → Prop) → Prop} {at_ : Nat → Option BF × Nat} {d : Int32} {F : Nat} (hb : BOK f n) (hn : n ≤ 400) (hT : TKS f n t K V b e) (hF : 400 < F) (hra : RDR f n t b e ra at_ d) : RDR f n t b e (jnW 12138383 11 (jnW 2989961357 10 ra)) (fun i => pJoin K at_ F none none i) d := by
  intro N M p g i σ Q h hp hi hs hσ h22 hQ
  have ht := hT.1
  obtain ⟨m, rfl⟩ : ∃ m, F = m + 1 := ⟨F - 1, by omega⟩
  obtain ⟨hQ1, hQ0⟩ := hQ
  rw [jnW_u]
  refine r_all hb hn hT hra h hp hi hs hσ h22 (m := m) (o := none) (by omega) (fun m1' c j hj hjt hij hm1 M1 p1 g1 σ1 t1 k1 c1 q1 q2 m1 f1 y1 => ?_) (fun j hj hjt M1 x1 => ?_)
  · refine ⟨fun x => absurd x (by decide), fun _ => ?_⟩
    refine lpW_I (fun M' => ∃ i' m' c' σ' p' g', i' ≤ t ∧ i < i' ∧ pJoin K at_ (m + 1) none none i = (if K i' = 3 then pJoin K at_ m' (some c') none (i' + 1) else (some c', i')) ∧ t ≤ i' + m' ∧ TXr M' f n p' g' ∧ PT e b i' p' ∧ M'.1 190 25 = i32 σ' ∧ σ' + i ≤ σ + i' ∧ σ ≤ σ' ∧ BMg (M'.1 202) σ σ' c' ∧ (∀ x, x < 2 * σ → M'.1 202 x = M.1 202 x) ∧ M'.1 190 22 = d) (fun N ih M' hih hv => ?_) N _ ⟨j, m1', c, σ1, p1, g1, hjt, hij, hj, hm1, t1, k1, c1, q1, q2, m1, f1, y1⟩
    obtain ⟨i', m', c', σ', p', g', k1, k0, k2, k3, k4, k5, k6, k7, k8, k9, k10, k11⟩ := hv
    unfold bJn
    refine t_passes st_or (by omega) k4 hb hn hT k1 k5 ⟨fun hk => ?_, fun hk => ?_⟩
    · refine ⟨fun x => absurd x (by decide), fun _ => ?_⟩
      have hlt := tk_lt hT k1 (by rw [hk]; decide)
      rw [if_pos (show K i' = 3 from hk)] at k2
      obtain ⟨m2, rfl⟩ : ∃ m2, m' = m2 + 1 := ⟨m' - 1, by omega⟩
      refine r_all hb hn hT hra (M := atP M' (e i') (b i')) (i := i' + 1) (σ := σ') (m := m2) (o := some c') (atP_T k4) (PT_s hT hlt) (by omega) k6 (by omega) k11 (by omega) (fun m3 c2 j2 hj2 hjt2 hij2 hm3 M2 p2 g2 σ2 t2 l2 c2' q3 q4 m2' f2 y2 => ?_) (fun j2 hj2 hjt2 M2 x2 => ?_)
      · refine ⟨fun x => absurd x (by decide), fun _ => ?_⟩
        refine r_emits c2' (by omega) (fun M3 a1 a2 a3 a4 a5 => hih _ ⟨j2, m3, jn or (some c') c2, σ2 + 1, p2, g2, hjt2, by omega, by rw [k2]; exact hj2, hm3, TXr_e t2 a5 rfl, l2, a1, by omega, by omega, ?_, fun x hx => ?_, by rw [eq1 a5 (b := 190) (k := 22) rfl, y2]⟩)
        · have r1 : RMg (M3.1 202) σ σ' (fun pl wh kn dy => b32 (c' pl wh kn dy)) := RMg_cg k9 k8 (fun x hx => by rw [a4 x (by omega), f2 x hx]; rfl)
          have r2 : RMg (M3.1 202) σ' σ2 (fun pl wh kn dy => b32 (c2 pl wh kn dy)) := RMg_cg m2' q4 (fun x hx => a4 x hx)
          exact RMg_cv (RMg_b r1 r2 k8 q4 a2 (by decide) (by decide)) (fun pl wh kn dy => rop_or)
        · rw [a4 x (by omega), f2 x (by omega)]
          exact k10 x hx
      · exact ⟨fun _ => hQ0 j2 (k2.trans hj2) hjt2 M2 x2, fun x => absurd rfl x⟩
    · refine ⟨fun _ => ?_, fun x => absurd rfl x⟩
      rw [if_neg (show ¬ K i' = 3 from hk)] at k2
      exact hQ1 c' i' k2 k1 k0 _ _ _ σ' (atP_T k4) (PT_b hT k1) k6 k7 k8 k9 k10 (k11.trans h22.symm)
  · exact ⟨fun _ => hQ0 j hj hjt M1 x1, fun x => absurd rfl x⟩
theorem r_atom0 {F : Nat} (hb : BOK f n) (hn : n ≤ 400) (hT : TKS f n t K V b e) : RDR f n t b e W_m_readAtom_387 (pAtom K V F 0) (i32 6) := by
  intro N M p g i σ Q h hp hi hs hσ h22 hQ
  have ht := hT.1
  unfold pAtom at hQ
  rw [atomW_0]
  unfold atomW
  refine t_sign (by decide) h hb hn hT hi hp ⟨fun hk => ?_, fun hk => ?_⟩
  · rw [if_pos hk] at hQ
    refine ⟨fun x => absurd x (by decide), fun _ => ?_⟩
    rw [show (atP M (e i) (b i)).1 190 22 = 6 from h22]
    exact ⟨fun _ => hQ.2 i rfl hi _ rfl, fun x => absurd rfl x⟩
  · rw [if_neg hk] at hQ
    refine ⟨fun _ => ?_, fun x => absurd rfl x⟩
    refine t_passes st_not (by omega) (atP_T h) hb hn hT hi (PT_b hT hi) ⟨fun hk2 => ?_, fun hk2 => ?_⟩
    · rw [if_pos (show K i = 5 from hk2)] at hQ
      refine ⟨fun x => absurd x (by decide), fun _ => ?_⟩
      rw [atP_2, show (atP M (e i) (b i)).1 190 22 = 6 from h22]
      exact ⟨fun _ => hQ.2 i rfl hi _ rfl, fun x => absurd rfl x⟩
    · rw [if_neg (show ¬ K i = 5 from hk2)] at hQ
      refine ⟨fun _ => ?_, fun x => absurd rfl x⟩
      rw [atP_2]
      refine t_passes st_feast (by omega) (atP_T h) hb hn hT hi (PT_b hT hi) ⟨fun hk3 => ?_, fun hk3 => ?_⟩
      · rw [if_pos (show K i = 6 from hk3)] at hQ
        have hlt := tk_lt hT hi (by rw [hk3]; decide)
        refine ⟨fun x => absurd x (by decide), fun _ => ?_⟩
        rw [atP_2]
        refine r_emits (M := atP M (e i) (b i)) (σ := σ) hs (by omega) (fun M3 a1 a2 a3 a4 a5 => hQ.1 _ (i + 1) rfl (by omega) (by omega) M3 (e i) (b i) (σ + 1) (TXr_e (atP_T h) a5 rfl) (PT_s hT hlt) a1 (by omega) (by omega) (RMg_1 a2 a3 (by decide) (fun pl wh kn dy => ?_)) a4 (eq1 a5 (b := 190) (k := 22) rfl))
        show (if rm dy 7 = 0 then (1 : Int32) else 0) = b32 (decide (rm dy 7 = 0))
        by_cases c : rm dy 7 = 0
        · rw [if_pos c, decide_eq_true c]; rfl
        · rw [if_neg c, decide_eq_false c]; rfl
      · rw [if_neg (show ¬ K i = 6 from hk3)] at hQ
        refine ⟨fun _ => ?_, fun x => absurd rfl x⟩
        rw [atP_2]
        exact r_cmp (M := atP M (b i) (b i)) (atP_T h) hb hn hT hi (PT_b hT hi) hs hσ hQ
/-! seven levels -/
theorem lp_all_386 : W_m_readAllOf_386_9 = lpW 2989961357 10 W_m_readAtom_387 := by
  funext Q N
  induction N with
  | zero => rfl
  | succ N ih =>
    funext M
    show B_m_readAllOf_386_9 Q N (W_m_readAllOf_386_9 Q N) M = _
    rw [ih]
    rfl
theorem jn_all_386 : W_m_readAllOf_386 = jnW 2989961357 10 W_m_readAtom_387 := by
  funext N M Q
  unfold W_m_readAllOf_386 jnW
  rw [lp_all_386]
theorem lp_cond_385 : W_m_readCond_385_9 = lpW 12138383 11 W_m_readAllOf_386 := by
  funext Q N
  induction N with
  | zero => rfl
  | succ N ih =>
    funext M
    show B_m_readCond_385_9 Q N (W_m_readCond_385_9 Q N) M = _
    rw [ih]
    rfl
theorem jn_cond_385 : W_m_readCond_385 = jnW 12138383 11 (jnW 2989961357 10 W_m_readAtom_387) := by
  funext N M Q
  unfold W_m_readCond_385
  rw [lp_cond_385, jn_all_386]
  rfl
theorem lp_all_383 : W_m_readAllOf_383_9 = lpW 2989961357 10 W_m_readAtom_384 := by
  funext Q N
  induction N with
  | zero => rfl
  | succ N ih =>
    funext M
    show B_m_readAllOf_383_9 Q N (W_m_readAllOf_383_9 Q N) M = _
    rw [ih]
    rfl
theorem jn_all_383 : W_m_readAllOf_383 = jnW 2989961357 10 W_m_readAtom_384 := by
  funext N M Q
  unfold W_m_readAllOf_383 jnW
  rw [lp_all_383]
theorem lp_cond_382 : W_m_readCond_382_9 = lpW 12138383 11 W_m_readAllOf_383 := by
  funext Q N
  induction N with
  | zero => rfl
  | succ N ih =>
    funext M
    show B_m_readCond_382_9 Q N (W_m_readCond_382_9 Q N) M = _
    rw [ih]
    rfl
theorem jn_cond_382 : W_m_readCond_382 = jnW 12138383 11 (jnW 2989961357 10 W_m_readAtom_384) := by
  funext N M Q
  unfold W_m_readCond_382
  rw [lp_cond_382, jn_all_383]
  rfl
theorem lp_all_380 : W_m_readAllOf_380_9 = lpW 2989961357 10 W_m_readAtom_381 := by
  funext Q N
  induction N with
  | zero => rfl
  | succ N ih =>
    funext M
    show B_m_readAllOf_380_9 Q N (W_m_readAllOf_380_9 Q N) M = _
    rw [ih]
    rfl
theorem jn_all_380 : W_m_readAllOf_380 = jnW 2989961357 10 W_m_readAtom_381 := by
  funext N M Q
  unfold W_m_readAllOf_380 jnW
  rw [lp_all_380]
theorem lp_cond_379 : W_m_readCond_379_9 = lpW 12138383 11 W_m_readAllOf_380 := by
  funext Q N
  induction N with
  | zero => rfl
  | succ N ih =>
    funext M
    show B_m_readCond_379_9 Q N (W_m_readCond_379_9 Q N) M = _
    rw [ih]
    rfl
theorem jn_cond_379 : W_m_readCond_379 = jnW 12138383 11 (jnW 2989961357 10 W_m_readAtom_381) := by
  funext N M Q
  unfold W_m_readCond_379
  rw [lp_cond_379, jn_all_380]
  rfl
theorem lp_all_377 : W_m_readAllOf_377_9 = lpW 2989961357 10 W_m_readAtom_378 := by
  funext Q N
  induction N with
  | zero => rfl
  | succ N ih =>
    funext M
    show B_m_readAllOf_377_9 Q N (W_m_readAllOf_377_9 Q N) M = _
    rw [ih]
    rfl
theorem jn_all_377 : W_m_readAllOf_377 = jnW 2989961357 10 W_m_readAtom_378 := by
  funext N M Q
  unfold W_m_readAllOf_377 jnW
  rw [lp_all_377]
theorem lp_cond_376 : W_m_readCond_376_9 = lpW 12138383 11 W_m_readAllOf_377 := by
  funext Q N
  induction N with
  | zero => rfl
  | succ N ih =>
    funext M
    show B_m_readCond_376_9 Q N (W_m_readCond_376_9 Q N) M = _
    rw [ih]
    rfl
theorem jn_cond_376 : W_m_readCond_376 = jnW 12138383 11 (jnW 2989961357 10 W_m_readAtom_378) := by
  funext N M Q
  unfold W_m_readCond_376
  rw [lp_cond_376, jn_all_377]
  rfl
theorem lp_all_374 : W_m_readAllOf_374_9 = lpW 2989961357 10 W_m_readAtom_375 := by
  funext Q N
  induction N with
  | zero => rfl
  | succ N ih =>
    funext M
    show B_m_readAllOf_374_9 Q N (W_m_readAllOf_374_9 Q N) M = _
    rw [ih]
    rfl
theorem jn_all_374 : W_m_readAllOf_374 = jnW 2989961357 10 W_m_readAtom_375 := by
  funext N M Q
  unfold W_m_readAllOf_374 jnW
  rw [lp_all_374]
theorem lp_cond_373 : W_m_readCond_373_9 = lpW 12138383 11 W_m_readAllOf_374 := by
  funext Q N
  induction N with
  | zero => rfl
  | succ N ih =>
    funext M
    show B_m_readCond_373_9 Q N (W_m_readCond_373_9 Q N) M = _
    rw [ih]
    rfl
theorem jn_cond_373 : W_m_readCond_373 = jnW 12138383 11 (jnW 2989961357 10 W_m_readAtom_375) := by
  funext N M Q
  unfold W_m_readCond_373
  rw [lp_cond_373, jn_all_374]
  rfl
theorem lp_all_371 : W_m_readAllOf_371_9 = lpW 2989961357 10 W_m_readAtom_372 := by
  funext Q N
  induction N with
  | zero => rfl
  | succ N ih =>
    funext M
    show B_m_readAllOf_371_9 Q N (W_m_readAllOf_371_9 Q N) M = _
    rw [ih]
    rfl
theorem jn_all_371 : W_m_readAllOf_371 = jnW 2989961357 10 W_m_readAtom_372 := by
  funext N M Q
  unfold W_m_readAllOf_371 jnW
  rw [lp_all_371]
theorem lp_cond_370 : W_m_readCond_370_9 = lpW 12138383 11 W_m_readAllOf_371 := by
  funext Q N
  induction N with
  | zero => rfl
  | succ N ih =>
    funext M
    show B_m_readCond_370_9 Q N (W_m_readCond_370_9 Q N) M = _
    rw [ih]
    rfl
theorem jn_cond_370 : W_m_readCond_370 = jnW 12138383 11 (jnW 2989961357 10 W_m_readAtom_372) := by
  funext N M Q
  unfold W_m_readCond_370
  rw [lp_cond_370, jn_all_371]
  rfl
theorem lp_all : W_m_readAllOf_9 = lpW 2989961357 10 W_m_readAtom := by
  funext Q N
  induction N with
  | zero => rfl
  | succ N ih =>
    funext M
    show B_m_readAllOf_9 Q N (W_m_readAllOf_9 Q N) M = _
    rw [ih]
    rfl
theorem jn_all : W_m_readAllOf = jnW 2989961357 10 W_m_readAtom := by
  funext N M Q
  unfold W_m_readAllOf jnW
  rw [lp_all]
theorem lp_cond : W_m_readCond_9 = lpW 12138383 11 W_m_readAllOf := by
  funext Q N
  induction N with
  | zero => rfl
  | succ N ih =>
    funext M
    show B_m_readCond_9 Q N (W_m_readCond_9 Q N) M = _
    rw [ih]
    rfl
theorem jn_cond : W_m_readCond = jnW 12138383 11 (jnW 2989961357 10 W_m_readAtom) := by
  funext N M Q
  unfold W_m_readCond
  rw [lp_cond, jn_all]
  rfl
theorem at_l1 : W_m_readAtom_384 = atomW W_m_readCond_385 W_m_readAtom_387 := rfl
theorem at_l2 : W_m_readAtom_381 = atomW W_m_readCond_382 W_m_readAtom_384 := rfl
theorem at_l3 : W_m_readAtom_378 = atomW W_m_readCond_379 W_m_readAtom_381 := rfl
theorem at_l4 : W_m_readAtom_375 = atomW W_m_readCond_376 W_m_readAtom_378 := rfl
theorem at_l5 : W_m_readAtom_372 = atomW W_m_readCond_373 W_m_readAtom_375 := rfl
theorem at_l6 : W_m_readAtom = atomW W_m_readCond_370 W_m_readAtom_372 := rfl
theorem r_lv0 {F : Nat} (hb : BOK f n) (hn : n ≤ 400) (hT : TKS f n t K V b e) (hF : 400 < F) : RDR f n t b e W_m_readAtom_387 (pAtom K V F 0) (i32 6) ∧ RDR f n t b e W_m_readCond_385 (pCond K V F 0) (i32 6) := by
  have h := r_atom0 (F := F) (K := K) (V := V) hb hn hT
  exact ⟨h, jn_cond_385 ▸ r_cond hb hn hT hF h⟩
theorem r_lv1 {F : Nat} (hb : BOK f n) (hn : n ≤ 400) (hT : TKS f n t K V b e) (hF : 400 < F) : RDR f n t b e W_m_readAtom_384 (pAtom K V F 1) (i32 5) ∧ RDR f n t b e W_m_readCond_382 (pCond K V F 1) (i32 5) := by
  have hh := r_lv0 (F := F) (K := K) (V := V) hb hn hT hF
  have h : RDR f n t b e W_m_readAtom_384 (pAtom K V F 1) (i32 5) := at_l1 ▸ r_atomS (d := 5) hb hn hT (by omega) hh.2 hh.1
  exact ⟨h, jn_cond_382 ▸ r_cond hb hn hT hF h⟩
theorem r_lv2 {F : Nat} (hb : BOK f n) (hn : n ≤ 400) (hT : TKS f n t K V b e) (hF : 400 < F) : RDR f n t b e W_m_readAtom_381 (pAtom K V F 2) (i32 4) ∧ RDR f n t b e W_m_readCond_379 (pCond K V F 2) (i32 4) := by
  have hh := r_lv1 (F := F) (K := K) (V := V) hb hn hT hF
  have h : RDR f n t b e W_m_readAtom_381 (pAtom K V F 2) (i32 4) := at_l2 ▸ r_atomS (d := 4) hb hn hT (by omega) hh.2 hh.1
  exact ⟨h, jn_cond_379 ▸ r_cond hb hn hT hF h⟩
theorem r_lv3 {F : Nat} (hb : BOK f n) (hn : n ≤ 400) (hT : TKS f n t K V b e) (hF : 400 < F) : RDR f n t b e W_m_readAtom_378 (pAtom K V F 3) (i32 3) ∧ RDR f n t b e W_m_readCond_376 (pCond K V F 3) (i32 3) := by
  have hh := r_lv2 (F := F) (K := K) (V := V) hb hn hT hF
  have h : RDR f n t b e W_m_readAtom_378 (pAtom K V F 3) (i32 3) := at_l3 ▸ r_atomS (d := 3) hb hn hT (by omega) hh.2 hh.1
  exact ⟨h, jn_cond_376 ▸ r_cond hb hn hT hF h⟩
theorem r_lv4 {F : Nat} (hb : BOK f n) (hn : n ≤ 400) (hT : TKS f n t K V b e) (hF : 400 < F) : RDR f n t b e W_m_readAtom_375 (pAtom K V F 4) (i32 2) ∧ RDR f n t b e W_m_readCond_373 (pCond K V F 4) (i32 2) := by
  have hh := r_lv3 (F := F) (K := K) (V := V) hb hn hT hF
  have h : RDR f n t b e W_m_readAtom_375 (pAtom K V F 4) (i32 2) := at_l4 ▸ r_atomS (d := 2) hb hn hT (by omega) hh.2 hh.1
  exact ⟨h, jn_cond_373 ▸ r_cond hb hn hT hF h⟩
theorem r_lv5 {F : Nat} (hb : BOK f n) (hn : n ≤ 400) (hT : TKS f n t K V b e) (hF : 400 < F) : RDR f n t b e W_m_readAtom_372 (pAtom K V F 5) (i32 1) ∧ RDR f n t b e W_m_readCond_370 (pCond K V F 5) (i32 1) := by
  have hh := r_lv4 (F := F) (K := K) (V := V) hb hn hT hF
  have h : RDR f n t b e W_m_readAtom_372 (pAtom K V F 5) (i32 1) := at_l5 ▸ r_atomS (d := 1) hb hn hT (by omega) hh.2 hh.1
  exact ⟨h, jn_cond_370 ▸ r_cond hb hn hT hF h⟩
theorem r_lv6 {F : Nat} (hb : BOK f n) (hn : n ≤ 400) (hT : TKS f n t K V b e) (hF : 400 < F) : RDR f n t b e W_m_readAtom (pAtom K V F 6) (i32 0) ∧ RDR f n t b e W_m_readCond (pCond K V F 6) (i32 0) := by
  have hh := r_lv5 (F := F) (K := K) (V := V) hb hn hT hF
  have h : RDR f n t b e W_m_readAtom (pAtom K V F 6) (i32 0) := at_l6 ▸ r_atomS (d := 0) hb hn hT (by omega) hh.2 hh.1
  exact ⟨h, jn_cond ▸ r_cond hb hn hT hF h⟩
end RJ
