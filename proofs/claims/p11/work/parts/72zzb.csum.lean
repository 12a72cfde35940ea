/-! THE CLASS READS A SUM -/
theorem pPart_b {f : BY} {n t i : Nat} {K V : Nat → Int32} {b e : Nat → Nat} (hT : TKS f n t K V b e) (hi : i ≤ t) {q : SF} (h : pPart K V i = some q) : ∀ pl wh kn dy, rng pl wh kn dy → 0 ≤ (q pl wh kn dy).toInt ∧ (q pl wh kn dy).toInt ≤ 30000 := fun pl wh kn dy hr => by
  obtain ⟨r1, r2, r3, r4⟩ := hr
  unfold pPart at h
  by_cases c1 : K i = 20
  · rw [if_pos c1] at h
    by_cases c2 : 999 < V i
    · rw [if_pos c2] at h
      cases h
    · rw [if_neg c2] at h
      injection h with h
      rw [← h]
      obtain ⟨m, m1, m2⟩ := tk_V hT hi c1
      show 0 ≤ (V i).toInt ∧ (V i).toInt ≤ 30000
      rw [m2, i32_i (by omega)]
      omega
  · rw [if_neg c1] at h
    by_cases c2 : K i = 7
    · rw [if_pos c2] at h
      injection h with h
      rw [← h]
      show 0 ≤ pl.toInt ∧ pl.toInt ≤ 30000
      omega
    · rw [if_neg c2] at h
      by_cases c3 : K i = 8
      · rw [if_pos c3] at h
        injection h with h
        rw [← h]
        show 0 ≤ dy.toInt ∧ dy.toInt ≤ 30000
        omega
      · rw [if_neg c3] at h
        by_cases c4 : K i = 9
        · rw [if_pos c4] at h
          injection h with h
          rw [← h]
          show 0 ≤ wh.toInt ∧ wh.toInt ≤ 30000
          omega
        · rw [if_neg c4] at h
          by_cases c5 : K i = 10
          · rw [if_pos c5] at h
            injection h with h
            rw [← h]
            show 0 ≤ kn.toInt ∧ kn.toInt ≤ 30000
            omega
          · rw [if_neg c5] at h
            cases h
theorem add_r {x y : Int32} (hx : 0 ≤ x.toInt) (hy : 0 ≤ y.toInt) (h : x.toInt + y.toInt < 2147483648) : (x + y).toInt = x.toInt + y.toInt := by
  have e : x + y = i32 (ni x + ni y) := by
    rw [← i32_a, ← i32_ni hx, ← i32_ni hy]
  have hx' : (ni x : Int) = x.toInt := by unfold ni; omega
  have hy' : (ni y : Int) = y.toInt := by unfold ni; omega
  rw [e, i32_i (by omega)]
  omega
theorem pSum_b {f : BY} {n t : Nat} {K V : Nat → Int32} {b e : Nat → Nat} (hT : TKS f n t K V b e) : ∀ (m : Nat) (z : SF) (i : Nat) (s : SF) (j : Nat) (B : Int), i ≤ t → pSum K V m z i = (some s, j) → (∀ pl wh kn dy, rng pl wh kn dy → 0 ≤ (z pl wh kn dy).toInt ∧ (z pl wh kn dy).toInt ≤ B) → B + 30000 * m < 2147483648 → ∀ pl wh kn dy, rng pl wh kn dy → 0 ≤ (s pl wh kn dy).toInt ∧ (s pl wh kn dy).toInt ≤ B + 30000 * m
  | 0, z, i, s, j, B, hi, h, hz, hB => by
    have : (none : Option SF) = some s := congrArg Prod.fst h
    cases this
  | m + 1, z, i, s, j, B, hi, h, hz, hB => by
    replace h : (match pPart K V i with
      | none => ((none, i) : Option SF × Nat)
      | some q => if K (i + 1) = 43 then pSum K V m (fun pl wh kn dy => z pl wh kn dy + q pl wh kn dy) (i + 2) else (some (fun pl wh kn dy => z pl wh kn dy + q pl wh kn dy), i + 1)) = (some s, j) := h
    cases hp : pPart K V i with
    | none =>
      rw [hp] at h
      have : (none : Option SF) = some s := congrArg Prod.fst h
      cases this
    | some q =>
      rw [hp] at h
      dsimp only at h
      have hlt := pPart_lt hT hi hp
      have hz' : ∀ pl wh kn dy, rng pl wh kn dy → 0 ≤ (z pl wh kn dy + q pl wh kn dy).toInt ∧ (z pl wh kn dy + q pl wh kn dy).toInt ≤ B + 30000 := fun pl wh kn dy hr => by
        have h1 := hz pl wh kn dy hr
        have h2 := pPart_b hT hi hp pl wh kn dy hr
        rw [add_r h1.1 h2.1 (by omega)]
        omega
      by_cases c : K (i + 1) = 43
      · rw [if_pos c] at h
        have hlt2 := tk_lt hT (by omega) (show ¬ K (i + 1) = 21 by rw [c]; decide)
        intro pl wh kn dy hr
        have := pSum_b hT m _ _ _ _ (B + 30000) (by omega) h hz' (by omega) pl wh kn dy hr
        omega
      · rw [if_neg c] at h
        have hs : (fun pl wh kn dy => z pl wh kn dy + q pl wh kn dy) = s := by
          have : (some (fun pl wh kn dy => z pl wh kn dy + q pl wh kn dy) : Option SF) = some s := congrArg Prod.fst h
          injection this
        intro pl wh kn dy hr
        have := hz' pl wh kn dy hr
        rw [← hs]
        show 0 ≤ (z pl wh kn dy + q pl wh kn dy).toInt ∧ (z pl wh kn dy + q pl wh kn dy).toInt ≤ _
        omega
theorem sub_lt {l r : Int32} (hl : 0 ≤ l.toInt) (hl2 : l.toInt < 1073741824) (hr : 0 ≤ r.toInt) (hr2 : r.toInt < 1073741824) : decide (0 < r - l) = decide (l < r) := by
  apply decide_eq_decide.mpr
  rw [lt_lit, lt_lit, Int32.toInt_sub, Int.bmod_def, show ((2 ^ 32 : Nat) : Int) = 4294967296 from rfl, show (0 : Int32).toInt = 0 from rfl]
  split <;> omega
section LI
variable {τ : Nat} {tm tm' : Nat → Int32} {pl wh kn dy d : Int32}
theorem lin_i (hτ : τ < 100000) : lin tm pl wh kn dy (i32 τ) = (((tm τ + tm (τ + 1) * pl) + tm (τ + 2) * dy) + tm (τ + 3) * wh) + tm (τ + 4) * kn := by
  unfold lin
  rw [i32_s, show i32 τ + 2 = i32 (τ + 2) from i32_a τ 2, show i32 τ + 3 = i32 (τ + 3) from i32_a τ 3, show i32 τ + 4 = i32 (τ + 4) from i32_a τ 4, ni_i (by omega), ni_i (by omega), ni_i (by omega), ni_i (by omega), ni_i (by omega)]
theorem lin_0 (hτ : τ < 100000) (h : ∀ j, ¬ j = τ → tm' j = tm j) (h2 : tm' τ = tm τ + d) : lin tm' pl wh kn dy (i32 τ) = lin tm pl wh kn dy (i32 τ) + d := by
  rw [lin_i hτ, lin_i hτ, h2, h _ (by omega), h _ (by omega), h _ (by omega), h _ (by omega)]
  ac_rfl
theorem lin_1 (hτ : τ < 100000) (h : ∀ j, ¬ j = τ + 1 → tm' j = tm j) (h2 : tm' (τ + 1) = tm (τ + 1) + d) : lin tm' pl wh kn dy (i32 τ) = lin tm pl wh kn dy (i32 τ) + d * pl := by
  rw [lin_i hτ, lin_i hτ, h2, h _ (by omega), h _ (by omega), h _ (by omega), h _ (by omega), Int32.add_mul]
  ac_rfl
theorem lin_2 (hτ : τ < 100000) (h : ∀ j, ¬ j = τ + 2 → tm' j = tm j) (h2 : tm' (τ + 2) = tm (τ + 2) + d) : lin tm' pl wh kn dy (i32 τ) = lin tm pl wh kn dy (i32 τ) + d * dy := by
  rw [lin_i hτ, lin_i hτ, h2, h _ (by omega), h _ (by omega), h _ (by omega), h _ (by omega), Int32.add_mul]
  ac_rfl
theorem lin_3 (hτ : τ < 100000) (h : ∀ j, ¬ j = τ + 3 → tm' j = tm j) (h2 : tm' (τ + 3) = tm (τ + 3) + d) : lin tm' pl wh kn dy (i32 τ) = lin tm pl wh kn dy (i32 τ) + d * wh := by
  rw [lin_i hτ, lin_i hτ, h2, h _ (by omega), h _ (by omega), h _ (by omega), h _ (by omega), Int32.add_mul]
  ac_rfl
theorem lin_4 (hτ : τ < 100000) (h : ∀ j, ¬ j = τ + 4 → tm' j = tm j) (h2 : tm' (τ + 4) = tm (τ + 4) + d) : lin tm' pl wh kn dy (i32 τ) = lin tm pl wh kn dy (i32 τ) + d * kn := by
  rw [lin_i hτ, lin_i hτ, h2, h _ (by omega), h _ (by omega), h _ (by omega), h _ (by omega), Int32.add_mul]
  ac_rfl
theorem lin_cg {st : Nat} (hst : st < 100000) (h : ∀ j, st ≤ j → j < st + 5 → tm' j = tm j) : lin tm' pl wh kn dy (i32 st) = lin tm pl wh kn dy (i32 st) := by
  rw [lin_i hst, lin_i hst, h _ (by omega) (by omega), h _ (by omega) (by omega), h _ (by omega) (by omega), h _ (by omega) (by omega), h _ (by omega) (by omega)]
theorem lin_z {st : Nat} (hst : st < 100000) (h : ∀ j, st ≤ j → j < st + 5 → tm j = 0) : lin tm pl wh kn dy (i32 st) = 0 := by
  rw [lin_i hst, h _ (by omega) (by omega), h _ (by omega) (by omega), h _ (by omega) (by omega), h _ (by omega) (by omega), h _ (by omega) (by omega)]
  simp only [Int32.zero_mul, Int32.add_zero]
theorem lin_ng {st : Nat} (hst : st < 100000) (h : ∀ j, st ≤ j → j < st + 5 → tm' j = -(tm j)) : lin tm' pl wh kn dy (i32 st) = -(lin tm pl wh kn dy (i32 st)) := by
  rw [lin_i hst, lin_i hst, h _ (by omega) (by omega), h _ (by omega) (by omega), h _ (by omega) (by omega), h _ (by omega) (by omega), h _ (by omega) (by omega)]
  simp only [Int32.neg_mul, Int32.neg_add, Int32.sub_eq_add_neg]
end LI
abbrev fcs : List (Nat × Nat × Option Nat) := [(3, 3, some 5), (17, 17, none)]
section CS
variable {f : BY} {n t i τ : Nat} {K V : Nat → Int32} {b e : Nat → Nat} {M : MM} {x : Int32}
theorem c_sum {N : Nat} {Q : Int32 → MM → Prop} (hn : n ≤ 400) (hT : TKS f n t K V b e) (h : TKc M t K V i) (hi : i ≤ t) (hτ : τ < 1000)
    (hQ1 : ∀ s j, pSum K V 401 zSF i = (some s, j) → j ≤ t → i < j → ∀ M', TKc M' t K V j → (∀ pl wh kn dy, lin (M'.1 17) pl wh kn dy (i32 τ) = lin (M.1 17) pl wh kn dy (i32 τ) + x * s pl wh kn dy) → (∀ k, k < τ → M'.1 17 k = M.1 17 k) → Eqo fcs M M' → Q 1 M')
    (hQ0 : ∀ j, pSum K V 401 zSF i = (none, j) → j ≤ t → ∀ M', TKc M' t K V j → Q 0 M') : W_LawReader_readSum (i32 τ) x N M Q := by
  have ht := hT.1
  have t1 : ni (i32 τ + 1) = τ + 1 := by rw [i32_s, ni_i (by omega)]
  have t2 : ni (i32 τ + 2) = τ + 2 := by rw [show i32 τ + 2 = i32 (τ + 2) from i32_a τ 2, ni_i (by omega)]
  have t3 : ni (i32 τ + 3) = τ + 3 := by rw [show i32 τ + 3 = i32 (τ + 3) from i32_a τ 3, ni_i (by omega)]
  have t4 : ni (i32 τ + 4) = τ + 4 := by rw [show i32 τ + 4 = i32 (τ + 4) from i32_a τ 4, ni_i (by omega)]
  unfold W_LawReader_readSum
  refine I_LawReader_readSum_2 _ _ _ (fun v M' => ∃ c i' m z, v = i32 c ∧ 2 * c + i ≤ i' ∧ i' ≤ t ∧ t ≤ i' + m ∧ pSum K V 401 zSF i = pSum K V (m + 1) z i' ∧ TKc M' t K V i' ∧ (∀ pl wh kn dy, lin (M'.1 17) pl wh kn dy (i32 τ) = lin (M.1 17) pl wh kn dy (i32 τ) + x * z pl wh kn dy) ∧ (∀ k, k < τ → M'.1 17 k = M.1 17 k) ∧ Eqo fcs M M') (fun N ih v M' hih hv => ?_) N _ _ ⟨0, i, 400, zSF, rfl, by omega, hi, by omega, rfl, h, fun pl wh kn dy => ?_, fun _ _ => rfl, eqo_rf M⟩
  · obtain ⟨c, i', m, z, rfl, k1, k2, k3, k4, k5, k6, k7, k8⟩ := hv
    have nx : ∀ (k : Nat) (x' : Int32) (q : SF), τ ≤ k → pPart K V i' = some q → (∀ pl wh kn dy, lin ((wi M' 17 k x').1 17) pl wh kn dy (i32 τ) = lin (M'.1 17) pl wh kn dy (i32 τ) + x * q pl wh kn dy) → W_Text_goOn N (wi M' 17 k x') (fun M6 => (((V_Text_kind M6) = 43 → W_Text_goOn N M6 (fun M9 => ih (i32 c + 1) M9)) ∧ (¬ (V_Text_kind M6) = 43 → Q 1 M6))) := fun k x' q hk hq hl => by
      have hlt := pPart_lt hT k2 hq
      unfold W_Text_goOn
      have g1 := TKc_g (TKc_e k5 (eqo_a (a := 17) (k := k) (x := x')) rfl)
      have eq1' : Eqo fcs M (wi (wi M' 17 k x') 3 5 ((wi M' 17 k x').1 3 5 + 1)) := eqo_wi (i := 0) (eqo_wi (i := 1) k8 rfl (Or.inl rfl)) rfl (Or.inr rfl)
      have l1 : ∀ pl wh kn dy, lin ((wi (wi M' 17 k x') 3 5 ((wi M' 17 k x').1 3 5 + 1)).1 17) pl wh kn dy (i32 τ) = lin (M.1 17) pl wh kn dy (i32 τ) + x * (z pl wh kn dy + q pl wh kn dy) := fun pl wh kn dy => by
        show lin ((wi M' 17 k x').1 17) pl wh kn dy (i32 τ) = _
        rw [hl, k6, Int32.mul_add, Int32.add_assoc]
      have f1 : ∀ y, y < τ → (wi (wi M' 17 k x') 3 5 ((wi M' 17 k x').1 3 5 + 1)).1 17 y = M.1 17 y := fun y hy => by
        rw [wi_1n (by omega), wi_1n (by omega)]
        exact k7 y hy
      have k4' : pSum K V 401 zSF i = (if K (i' + 1) = 43 then pSum K V m (fun pl wh kn dy => z pl wh kn dy + q pl wh kn dy) (i' + 2) else (some (fun pl wh kn dy => z pl wh kn dy + q pl wh kn dy), i' + 1)) := by
        rw [k4]
        show (match pPart K V i' with | none => (none, i') | some q => _) = _
        rw [hq]
      dsimp only
      rw [kd g1 (by omega) ht]
      refine ⟨fun hk43 => ?_, fun hk43 => ?_⟩
      · rw [if_pos hk43] at k4'
        have hlt2 := tk_lt hT (by omega) (show ¬ K (i' + 1) = 21 by rw [hk43]; decide)
        obtain ⟨m2, rfl⟩ : ∃ m2, m = m2 + 1 := ⟨m - 1, by omega⟩
        exact hih _ _ ⟨c + 1, i' + 2, m2, _, i32_s c, by omega, by omega, by omega, k4', TKc_g g1, l1, f1, eqo_wi (i := 0) eq1' rfl (Or.inr rfl)⟩
      · rw [if_neg hk43] at k4'
        exact hQ1 _ (i' + 1) k4' (by omega) (by omega) _ g1 l1 f1 eq1'
    have bad : pPart K V i' = none → Q 0 M' := fun hq => hQ0 i' (by
      rw [k4]
      show (match pPart K V i' with | none => (none, i') | some q => _) = _
      rw [hq]) k2 M' k5
    unfold B_LawReader_readSum_2
    rw [kd k5 k2 ht, vl k5 k2 ht, t1, t2, t3, t4, ni_i (by omega)]
    refine ⟨fun _ => ?_, fun hx => absurd ((i32_lt (k := 400) (by omega) (by omega)).mpr (by omega)) hx⟩
    have ne7 : K i' = 20 → ¬ K i' = 7 := fun h => by rw [h]; decide
    have ne8 : K i' = 20 → ¬ K i' = 8 := fun h => by rw [h]; decide
    have ne9 : K i' = 20 → ¬ K i' = 9 := fun h => by rw [h]; decide
    have ne10 : K i' = 20 → ¬ K i' = 10 := fun h => by rw [h]; decide
    refine ⟨fun h20 => ⟨fun h9 => ⟨fun hk => absurd hk (ne7 h20), fun _ => ⟨fun hk => absurd hk (ne8 h20), fun _ => ⟨fun hk => absurd hk (ne9 h20), fun _ => ⟨fun hk => absurd hk (ne10 h20), fun _ => bad ?_⟩⟩⟩⟩, fun h9 => nx τ _ (fun _ _ _ _ => V i') (Nat.le_refl _) ?_ (fun pl wh kn dy => lin_0 (by omega) (fun j hj => wi_1n (by omega)) wi_1e)⟩, fun h20 => ⟨fun hk => nx (τ + 1) _ (fun pl _ _ _ => pl) (by omega) ?_ (fun pl wh kn dy => lin_1 (by omega) (fun j hj => wi_1n (by omega)) wi_1e), fun h7 => ⟨fun hk => nx (τ + 2) _ (fun _ _ _ dy => dy) (by omega) ?_ (fun pl wh kn dy => lin_2 (by omega) (fun j hj => wi_1n (by omega)) wi_1e), fun h8 => ⟨fun hk => nx (τ + 3) _ (fun _ wh _ _ => wh) (by omega) ?_ (fun pl wh kn dy => lin_3 (by omega) (fun j hj => wi_1n (by omega)) wi_1e), fun h9 => ⟨fun hk => nx (τ + 4) _ (fun _ _ kn _ => kn) (by omega) ?_ (fun pl wh kn dy => lin_4 (by omega) (fun j hj => wi_1n (by omega)) wi_1e), fun h10 => bad ?_⟩⟩⟩⟩⟩
    · unfold pPart
      rw [if_pos h20, if_pos h9]
    · unfold pPart
      rw [if_pos h20, if_neg h9]
    · unfold pPart
      rw [if_neg h20, if_pos hk]
    · unfold pPart
      rw [if_neg h20, if_neg h7, if_pos hk]
    · unfold pPart
      rw [if_neg h20, if_neg h7, if_neg h8, if_pos hk]
    · unfold pPart
      rw [if_neg h20, if_neg h7, if_neg h8, if_neg h9, if_pos hk]
    · exact pPart_n h20 h7 h8 h9 h10
  · show _ = _ + x * 0
    rw [Int32.mul_zero, Int32.add_zero]
end CS
