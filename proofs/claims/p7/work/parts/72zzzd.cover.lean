/-! ANSWERS: the fewest who together know all -/
theorem bs_nat {P : Nat → Bool} : ∀ n, n ≤ 30 → ∃ a, a < 2 ^ n ∧ bs P n = i32 a
  | 0, _ => ⟨0, by decide, rfl⟩
  | n + 1, h => by
    obtain ⟨a, ha, e⟩ := bs_nat (P := P) n (by omega)
    have hp : 2 ^ n < 2 ^ (n + 1) := Nat.pow_lt_pow_right (by omega) (by omega)
    rw [bs_s, e]
    by_cases hP : P n = true
    · rw [if_pos hP]
      refine ⟨a ||| 2 ^ n, Nat.or_lt_two_pow (by omega) hp, ?_⟩
      apply tb_ext
      intro k hk
      rw [tb_or, tb_ix hk, tb_ix hk, tb_sl (by omega) hk, Nat.testBit_or, Nat.testBit_two_pow, decide_eq_decide.mpr (show k = n ↔ n = k from eq_comm)]
    · rw [if_neg hP]
      exact ⟨a, by omega, rfl⟩
def bcz (z : Nat) : Int := (bcn (i32 z)).toInt
theorem bc10 : ∀ z : Fin 1024, bcz z < 11 := by decide +kernel
theorem sl_n : ∀ n : Fin 13, sl 1 (i32 n) = i32 (2 ^ (n : Nat)) := by decide
/-- the least of those with the fewest -/
def MNP (T : Nat) (V : Nat → Prop) (x : Nat) : Prop := x < T ∧ V x ∧ (∀ z, z < T → V z → bcz x ≤ bcz z) ∧ ∀ z, z < x → V z → bcz x < bcz z
theorem MNP_u {T T' : Nat} {V : Nat → Prop} {x y : Nat} (h1 : MNP T V x) (h2 : MNP T' V y) (hx : x < T') (hy : y < T) : x = y := by
  obtain ⟨-, a2, a3, a4⟩ := h1
  obtain ⟨-, b2, b3, b4⟩ := h2
  have c1 := a3 y hy b2
  have c2 := b3 x hx a2
  rcases Nat.lt_trichotomy x y with e | e | e
  · have := b4 x e a2; omega
  · exact e
  · have := a4 y e b2; omega
/-- what a set knows together -/
def knT (w : RW) (x : Int32) : Nat → Int32
  | 0 => 0
  | n + 1 => if tb x n = true then knT w x n ||| cl w n 1 else knT w x n
def cvV (w : RW) (z : Nat) : Prop := (i32 z &&& (bs (alv w) (nC w) ^^^ (-1))) = 0 ∧ knT w (i32 z) (nC w) = inF w (nC w)
theorem knT_al {w : RW} {N : Nat} (hN : N ≤ 32) : ∀ n, n ≤ N → knT w (bs (alv w) N) n = inF w n
  | 0, _ => rfl
  | n + 1, h => by
    unfold knT
    rw [inF_s, knT_al hN n (by omega), tb_bs _ _ hN _ (by omega), decide_eq_true (show n < N by omega), Bool.true_and]
theorem an_n (x : Int32) : (x &&& (x ^^^ (-1))) = 0 := by
  apply tb_ext
  intro k hk
  rw [tb_and, tb_not hk, tb_0]
  cases tb x k <;> rfl
theorem sub_le {z A : Nat} (hz : z < 1024) (hA : A < 1024) (h : (i32 z &&& (i32 A ^^^ (-1))) = 0) : z ≤ A := by
  have e : z &&& A = z := by
    apply Nat.eq_of_testBit_eq
    intro k
    rw [Nat.testBit_and]
    by_cases hk : k < 32
    · have := congrArg (fun x => tb x k) h
      rw [tb_and, tb_not hk, tb_0, tb_ix hk, tb_ix hk] at this
      cases a : z.testBit k
      · rfl
      · rw [a] at this
        cases b : A.testBit k
        · rw [b] at this; cases this
        · rfl
    · rw [Nat.testBit_lt_two_pow (show z < 2 ^ k from Nat.lt_of_lt_of_le (show z < 2 ^ 32 by omega) (Nat.pow_le_pow_right (by omega) (by omega)))]
      rfl
  rw [← e]
  exact Nat.and_le_right
section CV
variable {B : Int} {M : MM} {w : RW} {s : RS} {N : Nat}
theorem c_knT {x : Int32} {Q : Int32 → Prop} (hc : CW M 18 w s) (hw : WF w) (hQ : Q (knT w x (nC w))) : W_Inquiry_knownTogether x N M Q := by
  obtain ⟨e0, hn10, ei⟩ := nC_i hw
  unfold W_Inquiry_knownTogether
  refine I_Inquiry_knownTogether_4 x M Q (fun v2 v3 => ∃ j, j ≤ nC w ∧ v3 = i32 j ∧ v2 = knT w x j) (fun N ih v2 v3 hih hv => ?_) N _ _ ⟨0, by omega, rfl, rfl⟩
  obtain ⟨j, hj, rfl, rfl⟩ := hv
  unfold B_Inquiry_knownTogether_4
  rw [hc.1.1, ei, i32_lt (by omega) (by omega)]
  refine ⟨fun hlt => ?_, fun hlt => ?_⟩
  · have nx : ih (knT w x (j + 1)) (i32 j + 1) := hih _ _ ⟨j + 1, by omega, i32_s j, rfl⟩
    unfold knT at nx
    unfold V_E_bit
    rw [bt_1 (by omega), ni_i (by omega), (hc.2.2.2.1 j hlt).1]
    refine ⟨fun e => ?_, fun e => ?_⟩
    · rw [if_pos e] at nx; exact nx
    · rw [if_neg e] at nx; exact nx
  · obtain rfl : j = nC w := by omega
    exact hQ
theorem c_fewK {Q : Int32 → Prop} (hc : CW M 18 w s) (hw : WF w) (hQ : ∀ x, MNP (2 ^ nC w) (cvV w) x → Q (i32 x)) : W_Inquiry_fewestKnowers N M Q := by
  obtain ⟨e0, hn10, ei⟩ := nC_i hw
  have hT : 2 ^ nC w ≤ 1024 := Nat.pow_le_pow_right (n := 2) (by omega) hn10
  obtain ⟨A, hA, eA⟩ := bs_nat (P := alv w) (nC w) (by omega)
  have vA : cvV w A := by
    unfold cvV
    rw [← eA]
    exact ⟨an_n _, knT_al (by omega) _ (Nat.le_refl _)⟩
  unfold W_Inquiry_fewestKnowers
  refine c_force hc hw ?_
  refine I_Inquiry_fewestKnowers_16 _ M Q (fun v2 v3 v4 => ∃ k, k ≤ 2 ^ nC w ∧ v4 = i32 k ∧ ((v3.toInt = 11 ∧ ∀ z, z < k → ¬ cvV w z) ∨ (∃ x, x < k ∧ v2 = i32 x ∧ v3 = bcn (i32 x) ∧ cvV w x ∧ (∀ z, z < k → cvV w z → bcz x ≤ bcz z) ∧ ∀ z, z < x → cvV w z → bcz x < bcz z))) (fun N ih v2 v3 v4 hih hv => ?_) N _ _ _ ⟨0, by omega, rfl, Or.inl ⟨rfl, fun z hz => absurd hz (by omega)⟩⟩
  obtain ⟨k, hk, rfl, hv⟩ := hv
  unfold B_Inquiry_fewestKnowers_16
  rw [hc.1.1, ei, show sl 1 (i32 (nC w)) = i32 (2 ^ nC w) from sl_n ⟨nC w, by omega⟩, i32_lt (by omega) (by omega), hc.2.2.1]
  refine ⟨fun hlt => ?_, fun hlt => ?_⟩
  · -- kept as it was
    have no : (cvV w k → v3.toInt ≤ bcz k) → ih v2 v3 (i32 k + 1) := fun hno => hih _ _ _ ⟨k + 1, by omega, i32_s k, by
      rcases hv with ⟨h1, h2⟩ | ⟨x, h1, h2, h3, h4, h5, h6⟩
      · refine Or.inl ⟨h1, fun z hz hz2 => ?_⟩
        by_cases e : z = k
        · subst e
          have := hno hz2
          have b := bc10 ⟨z, by omega⟩
          have b' : bcz z < 11 := b
          omega
        · exact h2 z (by omega) hz2
      · refine Or.inr ⟨x, by omega, h2, h3, h4, fun z hz hz2 => ?_, h6⟩
        by_cases e : z = k
        · subst e
          have := hno hz2
          rw [h3] at this
          exact this
        · exact h5 z (by omega) hz2⟩
    rw [show V_Int_bitCount (i32 k) M = bcn (i32 k) from rfl, lt_lit]
    refine ⟨fun h1 => ⟨fun h2 => c_knT hc hw ⟨fun h3 => ?_, fun h3 => ?_⟩, fun h2 => ?_⟩, fun h1 => ?_⟩
    · refine hih _ _ _ ⟨k + 1, by omega, i32_s k, Or.inr ⟨k, by omega, rfl, rfl, ⟨h2, h3⟩, fun z hz hz2 => ?_, fun z hz hz2 => ?_⟩⟩
      · rcases hv with ⟨g1, g2⟩ | ⟨x, g1, g2, g3, g4, g5, g6⟩
        · by_cases e : z = k
          · subst e; exact Int.le_refl _
          · exact absurd hz2 (g2 z (by omega))
        · by_cases e : z = k
          · subst e; exact Int.le_refl _
          · have := g5 z (by omega) hz2
            rw [g3] at h1
            have h1' : bcz k < bcz x := h1
            omega
      · rcases hv with ⟨g1, g2⟩ | ⟨x, g1, g2, g3, g4, g5, g6⟩
        · exact absurd hz2 (g2 z hz)
        · have := g5 z hz hz2
          rw [g3] at h1
          have h1' : bcz k < bcz x := h1
          omega
    · exact no (fun hV => absurd hV.2 h3)
    · exact no (fun hV => absurd hV.1 h2)
    · refine no (fun _ => ?_)
      have h1' : ¬ bcz k < v3.toInt := h1
      omega
  · obtain rfl : k = 2 ^ nC w := by omega
    rcases hv with ⟨h1, h2⟩ | ⟨x, h1, h2, h3, h4, h5, h6⟩
    · exact absurd vA (h2 A hA)
    · rw [h2]
      exact hQ x ⟨h1, h4, h5, h6⟩
theorem r_cov {Q : Int32 → MM → Prop} (hM : M.1 191 = w) (hw : WF w) (hQ : ∀ x, MNP (2 ^ nC w) (cvV w) x → Q (i32 x) M) : W_m_alive N M (fun r3 => W_m_cover_17 (inF w (nC w)) M Q N r3 r3) := by
  obtain ⟨e0, hn10, ei⟩ := nC_i hw
  have hT : 2 ^ nC w ≤ 1024 := Nat.pow_le_pow_right (n := 2) (by omega) hn10
  obtain ⟨A, hA, eA⟩ := bs_nat (P := alv w) (nC w) (by omega)
  have vA : cvV w A := by
    unfold cvV
    rw [← eA]
    exact ⟨an_n _, knT_al (by omega) _ (Nat.le_refl _)⟩
  have leA : ∀ z, z < 2 ^ nC w → cvV w z → z ≤ A := fun z hz hV => by
    have := hV.1
    rw [eA] at this
    exact sub_le (by omega) (by omega) this
  refine r_alive hw hM ?_
  rw [eA]
  refine I_m_cover_17 _ M Q (fun v2 v3 => ∃ k b, k ≤ A + 1 ∧ v3 = i32 k + (-1) ∧ b ≤ A ∧ v2 = i32 b ∧ cvV w b ∧ ∀ z, k ≤ z → z ≤ A → cvV w z → bcz b ≤ bcz z ∧ (z < b → bcz b < bcz z)) (fun N ih v2 v3 hih hv => ?_) N _ _ ⟨A + 1, A, by omega, ?_, by omega, rfl, vA, fun z h1 h2 => absurd h1 (by omega)⟩
  · obtain ⟨k, b, hk, rfl, hb, rfl, hV, hz⟩ := hv
    have ec : V_m_citizens M = i32 (nC w) := by unfold V_m_citizens; rw [hM, n0, ei]
    unfold B_m_cover_17
    match k, hk, hz with
    | 0, hk, hz =>
      refine ⟨fun _ => ?_, fun h => absurd (by decide) h⟩
      exact hQ b ⟨by omega, hV, fun z h1 h2 => (hz z (by omega) (leA z h1 h2) h2).1, fun z h1 h2 => (hz z (by omega) (by omega) h2).2 h1⟩
    | k + 1, hk, hz =>
      have e1 : (i32 (k + 1) + (-1) : Int32) = i32 k := by
        rw [← i32_s k, Int32.add_assoc, show ((1 : Int32) + (-1)) = 0 from rfl, Int32.add_zero]
      rw [e1]
      refine ⟨fun h => absurd h (by rw [lt_lit, i32_i (by omega), show (0 : Int32).toInt = 0 from rfl]; omega), fun _ => r_alive hw hM ?_⟩
      rw [eA]
      have st : (cvV w k → bcz b ≤ bcz k ∧ (k < b → bcz b < bcz k)) → ih (i32 b) (i32 k + (-1)) := fun hno => hih _ _ ⟨k, b, by omega, rfl, hb, rfl, hV, fun z h1 h2 h3 => by
        by_cases e : z = k
        · subst e; exact hno h3
        · exact hz z (by omega) h2 h3⟩
      rw [show V_Int_bitCount (i32 b) M = bcn (i32 b) from rfl, show V_Int_bitCount (i32 k) M = bcn (i32 k) from rfl, lt_lit]
      refine ⟨fun h1 => ⟨fun h2 => ?_, fun h2 => ?_⟩, fun h1 => ?_⟩
      · have h2' : bcz b < bcz k := h2
        exact st (fun _ => ⟨by omega, fun _ => h2'⟩)
      · have h2' : ¬ bcz b < bcz k := h2
        refine I_m_cover_52 _ (i32 b) (i32 k) M _ Q (fun v4 v5 => ∃ j, j ≤ nC w ∧ v5 = i32 j ∧ v4 = knT w (i32 k) j) (fun N ih2 v4 v5 hih2 hv2 => ?_) N _ _ ⟨0, by omega, rfl, rfl⟩
        obtain ⟨j, hj, rfl, rfl⟩ := hv2
        unfold B_m_cover_52
        rw [ec, i32_lt (by omega) (by omega)]
        refine ⟨fun hlt => ?_, fun hlt => ?_⟩
        · have nx : ih2 (knT w (i32 k) (j + 1)) (i32 j + 1) := hih2 _ _ ⟨j + 1, by omega, i32_s j, rfl⟩
          unfold knT at nx
          rw [v_has (by omega), show V_m_of (i32 j) 1 M = cl w j 1 from (v_of (i := 1) (by omega) (by omega)).trans (by rw [hM]), Int32.or_zero]
          refine ⟨fun e => ?_, fun e => ?_⟩
          · rw [b32_eq0.mp e, if_neg (by decide)] at nx; exact nx
          · rw [b32_ne0.mp e, if_pos rfl] at nx; exact nx
        · obtain rfl : j = nC w := by omega
          refine ⟨fun h3 => hih _ _ ⟨k, k, by omega, rfl, by omega, rfl, ⟨by rw [eA]; exact h1, h3⟩, fun z g1 g2 g3 => ?_⟩, fun h3 => st (fun hV2 => absurd hV2.2 h3)⟩
          by_cases e : z = k
          · subst e; exact ⟨Int.le_refl _, fun h => absurd h (by omega)⟩
          · have := (hz z (by omega) g2 g3).1
            exact ⟨by omega, fun h => absurd h (by omega)⟩
      · exact st (fun hV2 => absurd (by rw [← eA]; exact hV2.1) h1)
  · rw [← i32_s A, Int32.add_assoc, show ((1 : Int32) + (-1)) = 0 from rfl, Int32.add_zero]
theorem a_cover (h : CP B M) : W_E_cover N M (fun y => ∀ N', W_m_cover N' M (fun b M2 => CP B M2 ∧ M2.1 190 0 = 0 ∧ y = b)) := by
  obtain ⟨hc, hg⟩ := h.2.2.2.1
  have hw := hg.1
  unfold W_E_cover
  refine c_fewK hc hw (fun x hx N' => ?_)
  unfold W_m_cover
  refine r_force (M := wi M 190 0 0) (w := M.1 191) hw rfl ?_
  refine r_cov (M := wi M 190 0 0) (w := M.1 191) rfl hw (fun y hy => ⟨CP_0 h 0, wi_1e, ?_⟩)
  rw [MNP_u hx hy hx.1 hy.1]
end CV
