/-! THE CLASS READS A COMPARISON -/
/-- what a reader of the class that means a truth must do -/
def CDS (t : Nat) (K V : Nat → Int32) (e : Nat → Nat) (A i s u : Nat) (M : MM) (res : Option BF × Nat) (Q : Int32 → MM → Prop) : Prop :=
  (∀ c j, res = (some c, j) → j ≤ t → i < j → ∀ M' s' u', TKc M' t K V j → M'.1 13 6 = i32 s' → M'.1 13 8 = i32 (5 * u') → s ≤ s' → u ≤ u' → 2 * s' + pe e i ≤ 2 * s + pe e j → 3 * u' + pe e i ≤ 3 * u + pe e j → CMg A M' s s' u' c → (∀ x, x < s → M'.1 16 x = M.1 16 x) → (∀ x, x < 5 * u → M'.1 17 x = M.1 17 x) → Q 1 M') ∧
  (∀ j, res = (none, j) → j ≤ t → ∀ M', TKc M' t K V j → Q 0 M')
section CC
variable {f : BY} {n t i s u : Nat} {K V : Nat → Int32} {b e : Nat → Nat} {M : MM}
theorem c_step {N : Nat} {st : Int32} {Q : MM → Prop} (h : M.1 13 6 = i32 s) (hs : s < 200) (hQ : ∀ M', M'.1 13 6 = i32 (s + 1) → M'.1 16 s = st → (∀ x, ¬ x = s → M'.1 16 x = M.1 16 x) → Eqo [(16, 16, none), (13, 13, some 6)] M M' → Q M') : W_Law_addStep 13 st N M Q := by
  unfold W_Law_addStep
  rw [h]
  refine ⟨fun _ => ?_, fun hx => absurd ((i32_lt (k := 200) (by omega) (by omega)).mpr hs) hx⟩
  rw [ni_i (by omega), show (wi M (13 + 3) s st).1 13 6 = i32 s by rw [wi_1n (by omega)]; exact h, i32_s]
  exact hQ _ wi_1e (by rw [wi_1n (by omega)]; exact wi_1e) (fun x hx => by rw [wi_1n (by omega), wi_1n (by omega)]) (eqo_wi (i := 1) (eqo_wi (i := 0) (eqo_rf M) rfl (Or.inl rfl)) rfl (Or.inr rfl))
theorem c_terms {N : Nat} {Q : Int32 → MM → Prop} (h : M.1 13 8 = i32 (5 * u)) (hu : u < 133) (hQ : ∀ M', M'.1 13 8 = i32 (5 * (u + 1)) → (∀ x, 5 * u ≤ x → x < 5 * u + 5 → M'.1 17 x = 0) → (∀ x, x < 5 * u → M'.1 17 x = M.1 17 x) → Eqo [(17, 17, none), (13, 13, some 8)] M M' → Q (i32 (5 * u)) M') : W_Law_addTerms 13 N M Q := by
  unfold W_Law_addTerms
  rw [h]
  refine ⟨fun hx => ?_, fun _ => ?_⟩
  · have : i32 665 < i32 (5 * u + 5) := by rw [← i32_a]; exact hx
    have := (i32_lt (by omega) (by omega)).mp this
    omega
  · refine I_Law_addTerms_20 13 _ _ (fun v M' => ∃ k, k ≤ 5 ∧ v = i32 k ∧ (∀ x, 5 * u ≤ x → x < 5 * u + k → M'.1 17 x = 0) ∧ (∀ x, x < 5 * u → M'.1 17 x = M.1 17 x) ∧ Eqo [(17, 17, none)] M M') (fun N ih v M' hih hv => ?_) N _ _ ⟨0, by omega, rfl, fun x h1 h2 => by omega, fun _ _ => rfl, eqo_rf M⟩
    obtain ⟨k, k1, rfl, k2, k3, k4⟩ := hv
    unfold B_Law_addTerms_20
    rw [show i32 k < 5 ↔ k < 5 from i32_lt (k := 5) (by omega) (by omega), i32_a, ni_i (by omega)]
    refine ⟨fun hl => hih _ _ ⟨k + 1, by omega, i32_s k, fun x h1 h2 => ?_, fun x hx => ?_, eqo_wi (i := 0) k4 rfl (Or.inl rfl)⟩, fun hl => ?_⟩
    · by_cases hx : x = 5 * u + k
      · rw [hx]; exact wi_1e
      · rw [wi_1n (by omega)]
        exact k2 x h1 (by omega)
    · rw [wi_1n (by omega)]
      exact k3 x hx
    · obtain rfl : k = 5 := by omega
      have h8 : M'.1 13 8 = i32 (5 * u) := by rw [eq1 k4 (b := 13) (k := 8) rfl]; exact h
      refine hQ _ ?_ (fun x h1 h2 => ?_) (fun x hx => ?_) (eqo_wi (i := 1) (eqo_tr (eqo_rf M) (fps_cons (i := 0) rfl fps_nil) k4) rfl (Or.inr rfl))
      · rw [wi_1e, h8, show (i32 (5 * u) + 5 : Int32) = i32 (5 * u + 5) from i32_a (5 * u) 5]
        rfl
      · rw [wi_1n (by omega)]
        exact k2 x h1 h2
      · rw [wi_1n (by omega)]
        exact k3 x hx
theorem c_neg {N τ : Nat} {u2 : Int32} {k95 : MM → Prop} {Q : Int32 → MM → Prop} (hτ : τ < 1000) (hQ : ∀ M', (∀ x, τ ≤ x → x < τ + 5 → M'.1 17 x = -(M.1 17 x)) → (∀ x, x < τ → M'.1 17 x = M.1 17 x) → Eqo [(17, 17, none)] M M' → k95 M') : W_LawReader_readComparison_61 (i32 τ) u2 k95 Q N 0 M := by
  refine I_LawReader_readComparison_61 _ _ _ _ (fun v M' => ∃ k, k ≤ 5 ∧ v = i32 k ∧ (∀ x, τ ≤ x → x < τ + k → M'.1 17 x = -(M.1 17 x)) ∧ (∀ x, (x < τ ∨ τ + k ≤ x) → M'.1 17 x = M.1 17 x) ∧ Eqo [(17, 17, none)] M M') (fun N ih v M' hih hv => ?_) N _ _ ⟨0, by omega, rfl, fun x h1 h2 => by omega, fun _ _ => rfl, eqo_rf M⟩
  obtain ⟨k, k1, rfl, k2, k3, k4⟩ := hv
  unfold B_LawReader_readComparison_61
  rw [show i32 k < 5 ↔ k < 5 from i32_lt (k := 5) (by omega) (by omega), i32_a, ni_i (by omega)]
  refine ⟨fun hl => hih _ _ ⟨k + 1, by omega, i32_s k, fun x h1 h2 => ?_, fun x hx => ?_, eqo_wi (i := 0) k4 rfl (Or.inl rfl)⟩, fun hl => ?_⟩
  · by_cases hx : x = τ + k
    · rw [hx, wi_1e, k3 _ (Or.inr (Nat.le_refl _))]
    · rw [wi_1n (by omega)]
      exact k2 x h1 (by omega)
  · rw [wi_1n (by omega)]
    exact k3 x (by omega)
  · obtain rfl : k = 5 := by omega
    exact hQ _ k2 (fun x hx => k3 x (Or.inl hx)) k4
theorem c_leaf {N A : Nat} {c : BF} {Q : Int32 → MM → Prop} {j : Nat} {M0 : MM} (hT : TKS f n t K V b e) (hn : n ≤ 400) (h : TKc M t K V j) (hj : j ≤ t) (hij : i + 3 ≤ j) (h6 : M.1 13 6 = i32 s) (h8 : M.1 13 8 = i32 (5 * (u + 1))) (hs : 2 * s ≤ pe e i) (hu : u < 133)
    (hc : ∀ pl wh kn dy, rng pl wh kn dy → decide (0 < lin (M.1 17) pl wh kn dy (i32 (5 * u))) = c pl wh kn dy) (e16 : M.1 16 = M0.1 16) (e17 : ∀ x, x < 5 * u → M.1 17 x = M0.1 17 x) (res : Option BF × Nat) (hres : res = (some c, j)) (hQ : CDS t K V e A i s u M0 res Q) : W_Law_addStep 13 (i32 (5 * u)) N M (fun M18 => Q 1 M18) := by
  have hp := pe_le hT 3 (show i + 3 ≤ t by omega)
  have hp2 := pe_le hT (j - (i + 3)) (show i + 3 + (j - (i + 3)) ≤ t by omega)
  rw [show i + 3 + (j - (i + 3)) = j by omega] at hp2
  have hpn := pe_n hT hj
  refine c_step h6 (by omega) (fun M' a1 a2 a3 a4 => ?_)
  have e17' : M'.1 17 = M.1 17 := eqb a4 (lo := 17) (hi := 17) rfl (Nat.le_refl _) (Nat.le_refl _)
  refine hQ.1 c j hres hj (by omega) M' (s + 1) (u + 1) (TKc_e h a4 rfl) a1 (by rw [eq1 a4 (b := 13) (k := 8) rfl]; exact h8) (by omega) (by omega) (by omega) (by omega) ?_ (fun x hx => by rw [a3 x (by omega), e16]) (fun x hx => by rw [e17']; exact e17 x hx)
  refine CMt_1 a2 (fun tm ht2 pl wh kn dy hr X hX => ?_)
  have el : lin tm pl wh kn dy (i32 (5 * u)) = lin (M.1 17) pl wh kn dy (i32 (5 * u)) := lin_cg (by omega) (fun y h1 h2 => by rw [ht2 y (by omega), e17'])
  rw [cst_l hu, el, hc pl wh kn dy hr]
theorem zb (pl wh kn dy : Int32) (_ : rng pl wh kn dy) : 0 ≤ (zSF pl wh kn dy).toInt ∧ (zSF pl wh kn dy).toInt ≤ 0 := ⟨by show 0 ≤ (0 : Int32).toInt; decide, by show (0 : Int32).toInt ≤ 0; decide⟩
theorem c_cmp {N A : Nat} {Q : Int32 → MM → Prop} (hn : n ≤ 400) (hT : TKS f n t K V b e) (h : TKc M t K V i) (hi : i ≤ t) (h6 : M.1 13 6 = i32 s) (h8 : M.1 13 8 = i32 (5 * u)) (hs : 2 * s ≤ pe e i) (hu : 3 * u + 3 ≤ pe e i) (hQ : CDS t K V e A i s u M (pCmp K V i) Q) : W_LawReader_readComparison N M Q := by
  have ht := hT.1
  have hpn := pe_n hT hi
  have hQ0 := hQ.2
  unfold W_LawReader_readComparison
  refine c_terms h8 (by omega) (fun M2 a1 a2 a3 a4 => ?_)
  refine ⟨fun x => ?_, fun _ => ?_⟩
  · have : (i32 (5 * u)).toInt = (-1 : Int32).toInt := by rw [x]
    rw [i32_i (by omega), show (-1 : Int32).toInt = -1 from rfl] at this
    omega
  refine c_sum hn hT (TKc_e h a4 rfl) hi (by omega) (fun l j hl hj hij M5 t5 l5 f5 e5 => ?_) (fun j hl hj M5 t5 => ?_)
  · refine ⟨fun x => absurd x (by decide), fun _ => ?_⟩
    have lz : ∀ pl wh kn dy, lin (M5.1 17) pl wh kn dy (i32 (5 * u)) = l pl wh kn dy := fun pl wh kn dy => by
      rw [l5, lin_z (by omega) a2, Int32.one_mul, Int32.zero_add]
    have e25 := eqo_app a4 e5
    have s6 : M5.1 13 6 = i32 s := by rw [eq1 e25 (b := 13) (k := 6) rfl]; exact h6
    have s8 : M5.1 13 8 = i32 (5 * (u + 1)) := by rw [eq1 e5 (b := 13) (k := 8) rfl]; exact a1
    have s16 : M5.1 16 = M.1 16 := eqb e25 (lo := 16) (hi := 16) rfl (Nat.le_refl _) (Nat.le_refl _)
    have s17 : ∀ x, x < 5 * u → M5.1 17 x = M.1 17 x := fun x hx => by rw [f5 x hx, a3 x hx]
    have bl := pSum_b hT 401 zSF i l j 0 hi hl zb (by decide)
    rw [kd t5 hj ht]
    refine ⟨fun h60 => ?_, fun h60 => ⟨fun h62 => ?_, fun h62 => ?_⟩⟩
    · have hlt := tk_lt hT hj (by rw [h60]; decide)
      unfold W_Text_goOn
      refine ⟨fun _ => ?_, fun x => absurd h60 x⟩
      refine c_neg (by omega) (fun M12 b1 b2 b3 => ⟨fun _ => ?_, fun x => absurd h60 x⟩)
      refine c_sum hn hT (TKc_e (TKc_g t5) b3 rfl) (by omega) (by omega) (fun r j2 hr hj2 hij2 M15 t15 l15 f15 e15 => ?_) (fun j2 hr hj2 M15 t15 => ?_)
      · refine ⟨fun x => absurd x (by decide), fun _ => ?_⟩
        have e3 := eqo_app (eqo_app (eqo_1 (M := M5) (a := 3) (k := 5) (x := M5.1 3 5 + 1)) b3) e15
        have br := pSum_b hT 401 zSF (j + 1) r j2 0 (by omega) hr zb (by decide)
        refine c_leaf (i := i) (c := fun pl wh kn dy => decide (l pl wh kn dy < r pl wh kn dy)) hT hn t15 hj2 (by omega) (by rw [eq1 e3 (b := 13) (k := 6) rfl]; exact s6) (by rw [eq1 e3 (b := 13) (k := 8) rfl]; exact s8) hs (by omega) (fun pl wh kn dy hr4 => ?_) (by rw [eqb e3 (lo := 16) (hi := 16) rfl (Nat.le_refl _) (Nat.le_refl _)]; exact s16) (fun x hx => by rw [f15 x hx, b2 x hx]; exact s17 x hx) (pCmp K V i) ?_ hQ
        · rw [l15, lin_ng (by omega) b1, show lin ((wi M5 3 5 (M5.1 3 5 + 1)).1 17) pl wh kn dy (i32 (5 * u)) = l pl wh kn dy from lz pl wh kn dy, Int32.one_mul, Int32.add_comm, ← Int32.sub_eq_add_neg]
          have := bl pl wh kn dy hr4
          have := br pl wh kn dy hr4
          exact sub_lt (by omega) (by omega) (by omega) (by omega)
        · unfold pCmp
          rw [hl]
          dsimp only
          rw [if_pos h60, hr]
      · refine ⟨fun _ => hQ0 j2 ?_ hj2 M15 t15, fun x => absurd rfl x⟩
        unfold pCmp
        rw [hl]
        dsimp only
        rw [if_pos h60, hr]
    · have hlt := tk_lt hT hj (by rw [h62]; decide)
      unfold W_Text_goOn
      refine ⟨fun x => absurd x h60, fun _ => ⟨fun x => absurd x h60, fun _ => ?_⟩⟩
      refine c_sum hn hT (TKc_g t5) (by omega) (by omega) (fun r j2 hr hj2 hij2 M15 t15 l15 f15 e15 => ?_) (fun j2 hr hj2 M15 t15 => ?_)
      · refine ⟨fun x => absurd x (by decide), fun _ => ?_⟩
        have e3 := eqo_app (eqo_1 (M := M5) (a := 3) (k := 5) (x := M5.1 3 5 + 1)) e15
        have br := pSum_b hT 401 zSF (j + 1) r j2 0 (by omega) hr zb (by decide)
        refine c_leaf (i := i) (c := fun pl wh kn dy => decide (r pl wh kn dy < l pl wh kn dy)) hT hn t15 hj2 (by omega) (by rw [eq1 e3 (b := 13) (k := 6) rfl]; exact s6) (by rw [eq1 e3 (b := 13) (k := 8) rfl]; exact s8) hs (by omega) (fun pl wh kn dy hr4 => ?_) (by rw [eqb e3 (lo := 16) (hi := 16) rfl (Nat.le_refl _) (Nat.le_refl _)]; exact s16) (fun x hx => by rw [f15 x hx]; exact s17 x hx) (pCmp K V i) ?_ hQ
        · rw [l15, show lin ((wi M5 3 5 (M5.1 3 5 + 1)).1 17) pl wh kn dy (i32 (5 * u)) = l pl wh kn dy from lz pl wh kn dy, Int32.neg_mul, Int32.one_mul, ← Int32.sub_eq_add_neg]
          have := bl pl wh kn dy hr4
          have := br pl wh kn dy hr4
          exact sub_lt (by omega) (by omega) (by omega) (by omega)
        · unfold pCmp
          rw [hl]
          dsimp only
          rw [if_neg h60, if_pos h62, hr]
      · refine ⟨fun _ => hQ0 j2 ?_ hj2 M15 t15, fun x => absurd rfl x⟩
        unfold pCmp
        rw [hl]
        dsimp only
        rw [if_neg h60, if_pos h62, hr]
    · refine hQ0 j ?_ hj M5 t5
      unfold pCmp
      rw [hl]
      dsimp only
      rw [if_neg h60, if_neg h62]
  · refine ⟨fun _ => hQ0 j ?_ hj M5 t5, fun x => absurd rfl x⟩
    unfold pCmp
    rw [hl]
end CC
