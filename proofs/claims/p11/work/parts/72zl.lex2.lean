/-! NUMBERS AND MATTERS AS THE REFERENCE READS THEM -/
/-- the value of so many digits -/
def nv (f : BY) (q : Nat) : Nat → Int32
  | 0 => 0
  | k + 1 => 10 * nv f q k + f (q + k) - 48
def numR (f : BY) (p1 p2 : Int32) (q e : Nat) : Int32 := if e = q then -1 else if 3 < e - q then -1 else if nv f q (e - q) < p1 then -1 else if p2 < nv f q (e - q) then -1 else nv f q (e - q)
def mtR (f : BY) (q e : Nat) : Int32 := if e - q = 2 then (if f q - 48 < 8 then (if f (q + 1) - 48 < 8 then 8 * (f q - 48) + (f (q + 1) - 48) else -1) else -1) else -1
theorem i32_df {e q : Nat} (h : q ≤ e) : (i32 e - i32 q : Int32) = i32 (e - q) := by
  have : i32 (e - q) + i32 q = i32 e := by rw [i32_a, Nat.sub_add_cancel h]
  rw [← this]
  exact Int32.add_sub_cancel _ _
theorem i32_ij {a b : Nat} (ha : a < 2147483648) (hb : b < 2147483648) : i32 a = i32 b ↔ a = b := ⟨fun h => by
  have := congrArg Int32.toInt h
  rw [i32_i ha, i32_i hb] at this
  omega, fun h => by rw [h]⟩
section LY
variable {f : BY} {n i p g : Nat} {M : MM}
theorem dg_b {j : Nat} (hb : BOK f n) (h : DG f n j) : (f j).toInt8.toInt32 = f j := by
  have hs := sg_i (hb j h.1)
  rw [if_pos (by have := h.2.2; omega)] at hs
  exact Int32.toInt_inj.mp hs
theorem r_number {N : Nat} {p1 p2 : Int32} {Q : Int32 → MM → Prop} (h : TXr M f n p g) (hb : BOK f n) (hn : n ≤ 400) (hp : p ≤ n) (hQ : ∀ q e, NB f n p q → ENd (DG f n) n q e → Q (numR f p1 p2 q e) (atP M e q)) : W_m_number p1 p2 N M Q := by
  unfold W_m_number
  refine r_blanks h hb hn hp (fun q hq => ?_)
  refine I_m_number_6 _ _ _ _ (fun v M' => ∃ e, q ≤ e ∧ e ≤ n ∧ (∀ j, q ≤ j → j < e → DG f n j) ∧ (e - q ≤ 3 → v = nv f q (e - q)) ∧ M' = atP M e q) (fun N ih v M' hih hv => ?_) N _ _ ⟨q, Nat.le_refl _, hq.2.1, fun j h1 h2 => by omega, fun _ => by rw [Nat.sub_self]; rfl, rfl⟩
  obtain ⟨e, q1, q2, q3, q4, rfl⟩ := hv
  unfold B_m_number_6
  dsimp only
  have ht := atP_T (p' := e) (g' := q) h
  obtain ⟨t1, t2, t3, t4⟩ := ht
  rw [v_at ⟨t1, t2, t3, t4⟩ hb hn (by omega) (by decide) (by decide), t2, t3, i32_df q1]
  have e1 : (48 : Int32).toInt = 48 := rfl
  have e2 : (57 : Int32).toInt = 57 := rfl
  rw [e1, e2]
  refine ⟨fun h0 => ?_, fun h0 => ?_⟩
  · rw [b32_eq0, decide_eq_false_iff_not] at h0
    have hh := hQ q e hq ⟨q1, q2, q3, h0⟩
    unfold numR at hh
    refine ⟨fun c => ?_, fun c => ⟨fun c2 => ?_, fun c2 => ?_⟩⟩
    · rw [if_pos ((i32_ij (by omega) (by omega)).mp c)] at hh
      exact hh
    · rw [if_neg (fun x => c (by rw [x])), if_pos ((i32_lt (j := 3) (by omega) (by omega)).mp c2)] at hh
      exact hh
    · have c3 : ¬ 3 < e - q := fun x => c2 ((i32_lt (j := 3) (by omega) (by omega)).mpr x)
      rw [if_neg (fun x => c (by rw [x])), if_neg c3] at hh
      rw [q4 (by omega)]
      refine ⟨fun c4 => ?_, fun c4 => ⟨fun c5 => ?_, fun c5 => ?_⟩⟩
      · rw [if_pos c4] at hh; exact hh
      · rw [if_neg c4, if_pos c5] at hh; exact hh
      · rw [if_neg c4, if_neg c5] at hh; exact hh
  · rw [b32_ne0, decide_eq_true_eq] at h0
    have hd : ∀ j, q ≤ j → j < e + 1 → DG f n j := fun j j1 j2 => by
      by_cases c : j = e
      · rw [c]; exact h0
      · exact q3 j j1 (by omega)
    rw [i32_s, atP_p]
    refine ⟨fun c => ?_, fun c => ?_⟩
    · have c' := (i32_lt (k := 3) (by omega) (by omega)).mp c
      refine hih _ _ ⟨e + 1, by omega, by omega, hd, fun _ => ?_, rfl⟩
      rw [ni_i (by omega), t4 e h0.1, dg_b hb h0, q4 (by omega), show e + 1 - q = (e - q) + 1 by omega]
      show _ = 10 * nv f q (e - q) + f (q + (e - q)) - 48
      rw [show q + (e - q) = e by omega]
    · refine hih _ _ ⟨e + 1, by omega, by omega, hd, fun hx => ?_, rfl⟩
      exact absurd ((i32_lt (k := 3) (by omega) (by omega)).mpr (by omega)) c
theorem r_figure {N : Nat} {Q : Int32 → MM → Prop} (h : TXr M f n p g) (hb : BOK f n) (hn : n ≤ 400) (hp : p ≤ n) (hQ : ∀ q, NB f n p q → Q (b32 (decide (DG f n q))) (atP M q q)) : W_m_isFigure N M Q := by
  unfold W_m_isFigure
  refine r_blanks h hb hn hp (fun q hq => ?_)
  have hq2 := hq.2.1
  rw [v_at (atP_T h) hb hn (by omega) (by decide) (by decide)]
  exact hQ q hq
theorem r_matter {N : Nat} {Q : Int32 → MM → Prop} (h : TXr M f n p g) (hb : BOK f n) (hn : n ≤ 400) (hp : p ≤ n) (hQ : ∀ q e, NB f n p q → ENd (DG f n) n q e → Q (mtR f q e) (atP M e q)) : W_m_matterTold N M Q := by
  unfold W_m_matterTold
  refine r_blanks h hb hn hp (fun q hq => ?_)
  refine I_m_matterTold_4 _ _ (fun M' => ∃ e, q ≤ e ∧ e ≤ n ∧ (∀ j, q ≤ j → j < e → DG f n j) ∧ M' = atP M e q) (fun N ih M' hih hv => ?_) N _ ⟨q, Nat.le_refl _, hq.2.1, fun j h1 h2 => by omega, rfl⟩
  obtain ⟨e, q1, q2, q3, rfl⟩ := hv
  unfold B_m_matterTold_4
  dsimp only
  have ht := atP_T (p' := e) (g' := q) h
  obtain ⟨t1, t2, t3, t4⟩ := ht
  rw [v_at ⟨t1, t2, t3, t4⟩ hb hn (by omega) (by decide) (by decide), t2, t3, i32_df q1]
  have e1 : (48 : Int32).toInt = 48 := rfl
  have e2 : (57 : Int32).toInt = 57 := rfl
  rw [e1, e2]
  refine ⟨fun h0 => ?_, fun h0 => ?_⟩
  · rw [b32_eq0, decide_eq_false_iff_not] at h0
    have hh := hQ q e hq ⟨q1, q2, q3, h0⟩
    unfold mtR at hh
    refine ⟨fun c => ?_, fun c => ?_⟩
    · have c' : e - q = 2 := (i32_ij (b := 2) (by omega) (by omega)).mp c
      rw [if_pos c'] at hh
      rw [i32_s, ni_i (by omega), ni_i (by omega), t4 q (by omega), t4 (q + 1) (by omega), dg_b hb (q3 q (by omega) (by omega)), dg_b hb (q3 (q + 1) (by omega) (by omega))]
      refine ⟨fun c2 => ⟨fun c3 => ?_, fun c3 => ?_⟩, fun c2 => ?_⟩
      · rw [if_pos c2, if_pos c3] at hh; exact hh
      · rw [if_pos c2, if_neg c3] at hh; exact hh
      · rw [if_neg c2] at hh; exact hh
    · rw [if_neg (fun x => c (by rw [x]; rfl))] at hh
      exact hh
  · rw [b32_ne0, decide_eq_true_eq] at h0
    rw [i32_s, atP_p]
    refine hih _ ⟨e + 1, by omega, by omega, fun j j1 j2 => ?_, rfl⟩
    by_cases c : j = e
    · rw [c]; exact h0
    · exact q3 j j1 (by omega)
end LY
