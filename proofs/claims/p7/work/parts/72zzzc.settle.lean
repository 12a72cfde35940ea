/-! ANSWERS: when customs settle -/
theorem sb_ll {j k : Nat} (hj : j < 64) (hk : k < 64) : sb (ll (Int64.ofNat 1) (i32 j)) k = decide (k = j) := by
  unfold sb ll
  rw [Int64.toBitVec_shiftLeft]
  simp only [BitVec.shiftLeft_eq', BitVec.getLsbD_shiftLeft]
  rw [lh_a ⟨j, hj⟩, show (Int64.ofNat 1).toBitVec = 1#64 from rfl]
  by_cases h : k = j
  · subst h; simp [hk]
  · by_cases h2 : k < j
    · simp [h2, h]
    · have : k - j ≠ 0 := by omega
      simp [h2, h, hk, BitVec.getLsbD_one, this]
theorem lg_eq {x y : Int64} : lg_cmp x y = 0 ↔ x = y := by
  refine ⟨fun h => ?_, fun h => by rw [h]; exact lg_same y⟩
  rw [← Int64.toInt_inj]
  apply Classical.byContradiction
  intro hne
  unfold lg_cmp at h
  rcases Int.lt_or_gt_of_ne hne with h1 | h1
  · have a : x < y := Int64.lt_iff_toInt_lt.mpr h1
    have b : ¬ y < x := fun c => by
      rw [Int64.lt_iff_toInt_lt] at c
      omega
    simp [a, b] at h
    exact hne (by rw [h])
  · have a : y < x := Int64.lt_iff_toInt_lt.mpr h1
    have b : ¬ x < y := fun c => by
      rw [Int64.lt_iff_toInt_lt] at c
      omega
    simp [a, b] at h
/-- how many there have it -/
def seF (w : RW) (f : RS) (m : Nat) : Nat → Nat
  | 0 => 0
  | n + 1 => seF w f m n + (alv w n && sb (f n) m).toNat
/-- how many but one have it -/
def hoF (w : RW) (f : RS) (c m : Nat) : Nat → Nat
  | 0 => 0
  | n + 1 => hoF w f c m n + (!decide (n = c) && (alv w n && sb (f n) m)).toNat
theorem ho_se {w : RW} {f : RS} {c m : Nat} (h : (alv w c && sb (f c) m) = false) : ∀ n, hoF w f c m n = seF w f m n
  | 0 => rfl
  | n + 1 => by
    unfold hoF seF
    rw [ho_se h n]
    by_cases e : n = c
    · subst e
      rw [h, Bool.and_false]
    · rw [decide_eq_false e]
      rfl
def haF (w : RW) (f : RS) (u : Int32) (c n : Nat) : Nat → Int64
  | 0 => Int64.ofNat 0
  | m + 1 => if u < 2 * i32 (hoF w f c m n) then haF w f u c n m ||| ll (Int64.ofNat 1) (i32 m) else haF w f u c n m ||| Int64.ofNat 0
theorem sb_z (k : Nat) : sb (Int64.ofNat 0) k = false := by
  unfold sb
  show (0#64).getLsbD k = false
  rw [BitVec.getLsbD_zero]
theorem ha_b {w : RW} {f : RS} {u : Int32} {c n k : Nat} (hk : k < 64) : ∀ m, m ≤ 64 → sb (haF w f u c n m) k = (decide (k < m) && decide (u < 2 * i32 (hoF w f c k n)))
  | 0, _ => by
    unfold haF
    rw [sb_z, decide_eq_false (show ¬ k < 0 by omega), Bool.false_and]
  | m + 1, hm => by
    have IH := ha_b (w := w) (f := f) (u := u) (c := c) (n := n) hk m (by omega)
    unfold haF
    by_cases h : u < 2 * i32 (hoF w f c m n)
    · rw [if_pos h, sb_or, IH, sb_ll (by omega) hk]
      by_cases e : k = m
      · subst e
        rw [decide_eq_true h, decide_eq_true (show k < k + 1 by omega), decide_eq_true (rfl : k = k), Bool.or_true]
        rfl
      · rw [decide_eq_false e, Bool.or_false, decide_eq_decide.mpr (show k < m ↔ k < m + 1 by omega)]
    · rw [if_neg h, sb_or, IH, sb_z, Bool.or_false]
      by_cases e : k = m
      · subst e
        rw [decide_eq_false h, Bool.and_false, Bool.and_false]
      · rw [decide_eq_decide.mpr (show k < m ↔ k < m + 1 by omega)]
/-- what one fears a round later -/
def nxF (w : RW) (u : Int32) (f : RS) : RS := fun c => if alv w c = true then f c ||| haF w f u c (nC w) 64 else f c
theorem nx_g {w : RW} {u : Int32} {f : RS} {c k T : Nat} (hk : k < 64) (hT : T ≤ 64) (hkT : k < T) : sb (if alv w c = true then f c ||| haF w f u c (nC w) T else f c) k = (sb (f c) k || (alv w c && decide (u < 2 * i32 (seF w f k (nC w))))) := by
  cases ha : alv w c with
  | false => rw [if_neg (by decide), Bool.false_and, Bool.or_false]
  | true =>
    rw [if_pos rfl, sb_or, ha_b hk T hT, decide_eq_true hkT, Bool.true_and, Bool.true_and]
    cases hb : sb (f c) k with
    | true => rw [Bool.true_or, Bool.true_or]
    | false => rw [ho_se (by rw [hb, Bool.and_false])]
theorem nx_b {w : RW} {u : Int32} {f : RS} {c k : Nat} (hk : k < 64) : sb (nxF w u f c) k = (sb (f c) k || (alv w c && decide (u < 2 * i32 (seF w f k (nC w))))) := nx_g hk (Nat.le_refl _) hk
def sqF (w : RW) (u : Int32) (s : RS) : Nat → RS
  | 0 => s
  | n + 1 => nxF w u (sqF w u s n)
/-- nothing changes any more -/
def still (w : RW) (u : Int32) (s : RS) (j : Nat) : Prop := ∀ c, c < nC w → sqF w u s (j + 1) c = sqF w u s j c
def SET (w : RW) (u : Int32) (s : RS) (y : Int32) : Prop := (∃ v, v ≤ 30 ∧ y = i32 v ∧ still w u s v ∧ ∀ j, j < v → ¬ still w u s j) ∨ (y = -1 ∧ ∀ j, j ≤ 30 → ¬ still w u s j)
theorem SET_u {w : RW} {u : Int32} {s : RS} {y z : Int32} (h1 : SET w u s y) (h2 : SET w u s z) : y = z := by
  rcases h1 with ⟨v, v1, v2, v3, v4⟩ | ⟨v2, v4⟩ <;> rcases h2 with ⟨q, q1, q2, q3, q4⟩ | ⟨q2, q4⟩
  · have : v = q := by
      rcases Nat.lt_trichotomy v q with e | e | e
      · exact absurd v3 (q4 v e)
      · exact e
      · exact absurd q3 (v4 q e)
    rw [v2, q2, this]
  · exact absurd v3 (q4 v v1)
  · exact absurd q3 (v4 q q1)
  · rw [v2, q2]
/-- the class's row of what is feared, elsewhere -/
theorem CW_sq {M : MM} {a : Nat} {w : RW} {s s' : RS} (h : CW M a w s) (hs : ∀ c, c < nC w → s' c = s c) : CW M a w s' := by
  obtain ⟨b0, b1, b2, b3, b4⟩ := h
  refine ⟨b0, b1, b2, fun c hc => ?_, b4⟩
  obtain ⟨c1, c2, c3, c4, c5, c6, c7, c8⟩ := b3 c hc
  exact ⟨c1, c2, c3, c4, c5, c6, c7, c8.trans (hs c hc).symm⟩
section ST
variable {B : Int} {M : MM} {w : RW} {f : RS} {a N : Nat}
theorem c_seers {m : Nat} {Q : Int32 → Prop} (h : CW M a w f) (hw : WF w) (hm : m < 64) (hQ : Q (i32 (seF w f m (nC w)))) : W_World_seersOf a (i32 m) N M Q := by
  obtain ⟨e0, hn10, ei⟩ := nC_i hw
  unfold W_World_seersOf
  refine I_World_seersOf_4 a (i32 m) M Q (fun v2 v3 => ∃ j, j ≤ nC w ∧ v3 = i32 j ∧ v2 = i32 (seF w f m j)) (fun N ih v2 v3 hih hv => ?_) N _ _ ⟨0, by omega, rfl, rfl⟩
  obtain ⟨j, hj, rfl, rfl⟩ := hv
  unfold B_World_seersOf_4
  rw [h.1.1, ei, i32_lt (by omega) (by omega)]
  refine ⟨fun hlt => ?_, fun hlt => ?_⟩
  · have nx : ih (i32 (seF w f m (j + 1))) (i32 j + 1) := hih _ _ ⟨j + 1, by omega, i32_s j, rfl⟩
    unfold seF at nx
    rw [c_alive h hw hlt, v_hasS (by omega) hm, (h.2.2.2.1 j hlt).2.2.2.2.2.2.2]
    refine ⟨fun e => ?_, fun e => ⟨fun e2 => ?_, fun e2 => ?_⟩⟩
    · rw [b32_eq0.mp e] at nx
      exact nx
    · rw [b32_eq0.mp e2, Bool.and_false] at nx
      exact nx
    · rw [b32_ne0.mp e, b32_ne0.mp e2] at nx
      rw [i32_s]
      exact nx
  · obtain rfl : j = nC w := by omega
    exact hQ
/-- all see it -/
theorem c_let {m : Nat} {Q : Int32 → MM → Prop} (h : CW M a w f) (hw : WF w) (hm : m < 64) (hQ : ∀ y M' g, CW M' a w g → (∀ c, c < nC w → ∀ k, k < 64 → sb (g c) k = (sb (f c) k || (alv w c && decide (k = m)))) → (y = 0 ∨ y = 1) → (y = 0 ↔ ∀ c, c < nC w → alv w c = true → sb (f c) m = true) → Q y M') : W_World_letAllSee a (i32 m) N M Q := by
  obtain ⟨e0, hn10, ei⟩ := nC_i hw
  unfold W_World_letAllSee
  refine I_World_letAllSee_4 a (i32 m) Q (fun v2 v3 M' => ∃ j g, j ≤ nC w ∧ v3 = i32 j ∧ CW M' a w g ∧ (∀ c, c < nC w → ∀ k, k < 64 → sb (g c) k = (sb (f c) k || (decide (c < j) && (alv w c && decide (k = m))))) ∧ (v2 = 0 ∨ v2 = 1) ∧ (v2 = 0 ↔ ∀ c, c < j → alv w c = true → sb (f c) m = true)) (fun N ih v2 v3 M' hih hv => ?_) N _ _ _ ⟨0, f, by omega, rfl, h, fun c _ k _ => by rw [decide_eq_false (show ¬ c < 0 by omega), Bool.false_and, Bool.or_false], Or.inl rfl, ⟨fun _ c hc => absurd hc (by omega), fun _ => rfl⟩⟩
  obtain ⟨j, g, hj, rfl, hg, hb, h01, hv0⟩ := hv
  unfold B_World_letAllSee_4
  rw [hg.1.1, ei, i32_lt (by omega) (by omega)]
  refine ⟨fun hlt => ?_, fun hlt => ?_⟩
  · have gj : sb (g j) m = sb (f j) m := by
      rw [hb j hlt m hm, decide_eq_false (show ¬ j < j by omega), Bool.false_and, Bool.or_false]
    rw [c_alive hg hw hlt, v_hasS (by omega) hm, (hg.2.2.2.1 j hlt).2.2.2.2.2.2.2, gj, ni_i (by omega)]
    have same : (alv w j && !sb (f j) m) = false → ∀ c, c < nC w → ∀ k, k < 64 → sb (g c) k = (sb (f c) k || (decide (c < j + 1) && (alv w c && decide (k = m)))) := by
      intro hh c hc k hk
      rw [hb c hc k hk]
      by_cases e : c = j
      · subst e
        rw [decide_eq_false (show ¬ c < c by omega), decide_eq_true (show c < c + 1 by omega), Bool.false_and, Bool.or_false, Bool.true_and]
        by_cases e2 : k = m
        · subst e2
          rw [decide_eq_true rfl, Bool.and_true]
          cases h1 : alv w c
          · rw [Bool.or_false]
          · cases h2 : sb (f c) k
            · rw [h1, h2] at hh; exact absurd hh (by decide)
            · rfl
        · rw [decide_eq_false e2, Bool.and_false, Bool.or_false]
      · rw [decide_eq_decide.mpr (show c < j ↔ c < j + 1 by omega)]
    refine ⟨fun e => ?_, fun e => ⟨fun e2 => ?_, fun e2 => ?_⟩⟩
    · have ea := b32_eq0.mp e
      refine hih _ _ _ ⟨j + 1, g, by omega, i32_s j, hg, same (by rw [ea]; rfl), h01, hv0.trans ⟨fun hh c hc hal => ?_, fun hh c hc hal => hh c (by omega) hal⟩⟩
      by_cases e3 : c = j
      · subst e3; rw [ea] at hal; cases hal
      · exact hh c (by omega) hal
    · have ea := b32_ne0.mp e
      have eb := b32_eq0.mp e2
      rw [show M'.2 (a + 8) j = g j from (hg.2.2.2.1 j hlt).2.2.2.2.2.2.2]
      refine hih _ _ _ ⟨j + 1, us g j (g j ||| ll (Int64.ofNat 1) (i32 m)), by omega, i32_s j, ?_, fun c hc k hk => ?_, Or.inr rfl, ⟨fun hh => absurd hh (by decide), fun hh => ?_⟩⟩
      · exact CW_sn hg
      · unfold us
        by_cases e3 : c = j
        · subst e3
          rw [if_pos rfl, sb_or, sb_ll hm hk, hb c hc k hk, decide_eq_false (show ¬ c < c by omega), decide_eq_true (show c < c + 1 by omega), ea, Bool.false_and, Bool.or_false, Bool.true_and, Bool.true_and]
        · rw [if_neg e3, hb c hc k hk, decide_eq_decide.mpr (show c < j ↔ c < j + 1 by omega)]
      · have := hh j (by omega) ea
        rw [eb] at this
        cases this
    · have ea := b32_ne0.mp e
      have eb := b32_ne0.mp e2
      refine hih _ _ _ ⟨j + 1, g, by omega, i32_s j, hg, same (by rw [ea, eb]; rfl), h01, hv0.trans ⟨fun hh c hc hal => ?_, fun hh c hc hal => hh c (by omega) hal⟩⟩
      by_cases e3 : c = j
      · subst e3; exact eb
      · exact hh c (by omega) hal
  · obtain rfl : j = nC w := by omega
    exact hQ _ _ g hg (fun c hc k hk => by rw [hb c hc k hk, decide_eq_true hc, Bool.true_and]) h01 hv0
/-- a round -/
theorem c_spread {Q : Int32 → MM → Prop} (h : CW M a w f) (hw : WF w) (hQ : ∀ y M', CW M' a w (nxF w (V_Int_bitCount (bs (alv w) (nC w)) M - 1) f) → (y = 0 ↔ ∀ c, c < nC w → nxF w (V_Int_bitCount (bs (alv w) (nC w)) M - 1) f c = f c) → Q y M') : W_World_spreadFear a N M Q := by
  obtain ⟨e0, hn10, ei⟩ := nC_i hw
  unfold W_World_spreadFear
  rw [h.2.2.1]
  generalize hu : V_Int_bitCount (bs (alv w) (nC w)) M - 1 = u at *
  refine I_World_spreadFear_14 a u Q (fun v1 v3 M' => ∃ m g, m ≤ 64 ∧ v3 = i32 m ∧ CW M' a w g ∧ (∀ c, c < nC w → ∀ k, k < 64 → sb (g c) k = if k < m then sb (nxF w u f c) k else sb (f c) k) ∧ (v1 = 0 ∨ v1 = 1) ∧ (v1 = 0 ↔ ∀ c, c < nC w → ∀ k, k < m → sb (nxF w u f c) k = sb (f c) k)) (fun N ih v1 v3 M' hih hv => ?_) N _ _ _ ⟨0, f, by omega, rfl, h, fun c _ k _ => by rw [if_neg (by omega)], Or.inl rfl, ⟨fun _ c _ k hk => absurd hk (by omega), fun _ => rfl⟩⟩
  obtain ⟨m, g, hm, rfl, hg, hb, h01, hv0⟩ := hv
  unfold B_World_spreadFear_14
  rw [show i32 m < 64 ↔ m < 64 from i32_lt (k := 64) (by omega) (by omega)]
  refine ⟨fun hlt => ?_, fun hlt => ?_⟩
  · have gm : ∀ c, c < nC w → sb (g c) m = sb (f c) m := fun c hc => by rw [hb c hc m hlt, if_neg (by omega)]
    have es : ∀ n, n ≤ nC w → seF w g m n = seF w f m n := by
      intro n
      induction n with
      | zero => intro _; rfl
      | succ n IH =>
        intro hn
        unfold seF
        rw [IH (by omega), gm n (by omega)]
    refine c_seers hg hw hlt ?_
    rw [es _ (Nat.le_refl _), show (i32 (seF w f m (nC w)) * 2 : Int32) = 2 * i32 (seF w f m (nC w)) from Int32.mul_comm _ _]
    refine ⟨fun hgt => ?_, fun hgt => ?_⟩
    · have nb : ∀ c, sb (nxF w u f c) m = (sb (f c) m || alv w c) := fun c => by rw [nx_b hlt, decide_eq_true hgt, Bool.and_true]
      refine c_let hg hw hlt (fun y M2 g2 hg2 hb2 y01 hy0 => ?_)
      have nw : ∀ c, c < nC w → ∀ k, k < 64 → sb (g2 c) k = if k < m + 1 then sb (nxF w u f c) k else sb (f c) k := by
        intro c hc k hk
        rw [hb2 c hc k hk, hb c hc k hk]
        by_cases e : k = m
        · subst e
          rw [if_neg (by omega), if_pos (by omega), nb c, decide_eq_true rfl, Bool.and_true]
        · rw [decide_eq_false e, Bool.and_false, Bool.or_false]
          by_cases l : k < m
          · rw [if_pos l, if_pos (by omega)]
          · rw [if_neg l, if_neg (by omega)]
      have hy : y = 0 ↔ ∀ c, c < nC w → sb (nxF w u f c) m = sb (f c) m := by
        refine hy0.trans ⟨fun hh c hc => ?_, fun hh c hc hal => ?_⟩
        · rw [nb c]
          cases hal : alv w c with
          | false => rw [Bool.or_false]
          | true => rw [← gm c hc, hh c hc hal]; rfl
        · have := hh c hc
          rw [nb c, hal, Bool.or_true] at this
          rw [gm c hc]
          exact this.symm
      refine ⟨fun e => ?_, fun e => ?_⟩
      · refine hih _ _ _ ⟨m + 1, g2, by omega, i32_s m, hg2, nw, h01, hv0.trans ⟨fun hh c hc k hk => ?_, fun hh c hc k hk => hh c hc k (by omega)⟩⟩
        by_cases e3 : k = m
        · subst e3; exact hy.mp e c hc
        · exact hh c hc k (by omega)
      · refine hih _ _ _ ⟨m + 1, g2, by omega, i32_s m, hg2, nw, Or.inr rfl, ⟨fun hh => absurd hh (by decide), fun hh => absurd (hy.mpr fun c hc => hh c hc m (by omega)) e⟩⟩
    · have nb : ∀ c, sb (nxF w u f c) m = sb (f c) m := fun c => by rw [nx_b hlt, decide_eq_false hgt, Bool.and_false, Bool.or_false]
      refine hih _ _ _ ⟨m + 1, g, by omega, i32_s m, hg, fun c hc k hk => ?_, h01, hv0.trans ⟨fun hh c hc k hk => ?_, fun hh c hc k hk => hh c hc k (by omega)⟩⟩
      · rw [hb c hc k hk]
        by_cases e : k = m
        · subst e
          rw [if_neg (by omega), if_pos (by omega), nb c]
        · by_cases l : k < m
          · rw [if_pos l, if_pos (by omega)]
          · rw [if_neg l, if_neg (by omega)]
      · by_cases e3 : k = m
        · subst e3; exact nb c
        · exact hh c hc k (by omega)
  · obtain rfl : m = 64 := by omega
    have ge : ∀ c, c < nC w → g c = nxF w u f c := fun c hc => sb_ext fun k hk => by rw [hb c hc k hk, if_pos hk]
    refine hQ _ _ (CW_sq hg fun c hc => (ge c hc).symm) (hv0.trans ⟨fun hh c hc => sb_ext fun k hk => hh c hc k hk, fun hh c hc k hk => by rw [hh c hc]⟩)
end ST
section SR
variable {B : Int} {M : MM} {w : RW} {f : RS} {N : Nat}
theorem r_half {c : Nat} {Q : Int64 → Prop} (hx : M.1 191 = w) (hf : ∀ o, o < nC w → M.2 213 o = f o) (hw : WF w) (hc : c < nC w) (hQ : Q (haF w f (V_Int_bitCount (bs (alv w) (nC w)) M - 1) c (nC w) 64)) : W_m_halfOfOthers (i32 c) N M Q := by
  obtain ⟨e0, hn10, ei⟩ := nC_i hw
  unfold W_m_halfOfOthers
  refine r_alive hw hx ?_
  generalize V_Int_bitCount (bs (alv w) (nC w)) M - 1 = u at *
  have ec : V_m_citizens M = i32 (nC w) := by unfold V_m_citizens; rw [hx, n0, ei]
  refine I_m_halfOfOthers_15 (i32 c) u M Q (fun v3 v5 => ∃ m, m ≤ 64 ∧ v5 = i32 m ∧ v3 = haF w f u c (nC w) m) (fun N ih v3 v5 hih hv => ?_) N _ _ ⟨0, by omega, rfl, rfl⟩
  obtain ⟨m, hm, rfl, rfl⟩ := hv
  unfold B_m_halfOfOthers_15
  rw [show i32 m < 64 ↔ m < 64 from i32_lt (k := 64) (by omega) (by omega)]
  refine ⟨fun hlt => ?_, fun hlt => ?_⟩
  · have nx : ih (haF w f u c (nC w) (m + 1)) (i32 m + 1) := hih _ _ ⟨m + 1, by omega, i32_s m, rfl⟩
    unfold haF at nx
    refine I_m_halfOfOthers_28 (i32 c) u _ (i32 m) M _ Q (fun v6 v7 => ∃ j, j ≤ nC w ∧ v7 = i32 j ∧ v6 = i32 (hoF w f c m j)) (fun N ih2 v6 v7 hih2 hv2 => ?_) N _ _ ⟨0, by omega, rfl, rfl⟩
    obtain ⟨j, hj, rfl, rfl⟩ := hv2
    unfold B_m_halfOfOthers_28
    rw [ec, i32_lt (by omega) (by omega)]
    refine ⟨fun hlt2 => ?_, fun hlt2 => ?_⟩
    · have nx2 : ih2 (i32 (hoF w f c m (j + 1))) (i32 j + 1) := hih2 _ _ ⟨j + 1, by omega, i32_s j, rfl⟩
      unfold hoF at nx2
      rw [i32_ij (by omega) (by omega), v_alive (by omega), hx, ni_i (by omega), hf j hlt2, v_hasM hlt, Int32.add_zero]
      refine ⟨fun e => ?_, fun e => ⟨fun e1 => ?_, fun e1 => ⟨fun e2 => ?_, fun e2 => ?_⟩⟩⟩
      · rw [decide_eq_true e] at nx2
        exact nx2
      · rw [b32_eq0.mp e1, Bool.false_and, Bool.and_false] at nx2
        exact nx2
      · rw [b32_eq0.mp e2, Bool.and_false, Bool.and_false] at nx2
        exact nx2
      · rw [decide_eq_false e, b32_ne0.mp e1, b32_ne0.mp e2] at nx2
        rw [i32_s]
        exact nx2
    · obtain rfl : j = nC w := by omega
      refine ⟨fun hg => ?_, fun hg => ?_⟩
      · rw [if_pos hg] at nx; exact nx
      · rw [if_neg hg] at nx; exact nx
  · obtain rfl : m = 64 := by omega
    exact hQ
theorem r_round {Q : Int32 → MM → Prop} (hx : M.1 191 = w) (hf : ∀ o, o < nC w → M.2 213 o = f o) (hw : WF w) (hQ : ∀ y M', M'.1 191 = w → (∀ o, o < nC w → M'.2 213 o = nxF w (V_Int_bitCount (bs (alv w) (nC w)) M - 1) f o) → (y = 0 ↔ ∀ c, c < nC w → nxF w (V_Int_bitCount (bs (alv w) (nC w)) M - 1) f c = f c) → Q y M') : W_m_goesRound N M Q := by
  obtain ⟨e0, hn10, ei⟩ := nC_i hw
  unfold W_m_goesRound
  have hu : ∀ X : MM, V_Int_bitCount (bs (alv w) (nC w)) X - 1 = V_Int_bitCount (bs (alv w) (nC w)) M - 1 := fun X => rfl
  generalize V_Int_bitCount (bs (alv w) (nC w)) M - 1 = u at *
  refine I_m_goesRound_4 Q (fun v1 v2 M' => ∃ j, j ≤ nC w ∧ v2 = i32 j ∧ M'.1 191 = w ∧ (∀ o, o < nC w → M'.2 213 o = f o) ∧ (∀ o, o < j → M'.2 214 o = nxF w u f o) ∧ (v1 = 0 ∨ v1 = 1) ∧ (v1 = 0 ↔ ∀ c, c < j → nxF w u f c = f c)) (fun N ih v1 v2 M' hih hv => ?_) N _ _ _ ⟨0, by omega, rfl, hx, hf, fun o ho => absurd ho (by omega), Or.inl rfl, ⟨fun _ c hc => absurd hc (by omega), fun _ => rfl⟩⟩
  obtain ⟨j, hj, rfl, hx', hf', hn, h01, hv0⟩ := hv
  have ec : V_m_citizens M' = i32 (nC w) := by unfold V_m_citizens; rw [hx', n0, ei]
  unfold B_m_goesRound_4
  rw [ec, i32_lt (by omega) (by omega)]
  refine ⟨fun hlt => ?_, fun hlt => ?_⟩
  · have nx : ∀ (b : Int32), (b = 0 ∨ b = 1) → (b = 0 ↔ ∀ c, c < j + 1 → nxF w u f c = f c) → ih b (i32 j + 1) (wj M' 214 j (nxF w u f j)) := fun b hb1 hb2 => hih _ _ _ ⟨j + 1, by omega, i32_s j, hx', fun o ho => by rw [wj_2n (by omega)]; exact hf' o ho, fun o ho => by
      by_cases e : o = j
      · subst e; exact wj_2e
      · rw [wj_2n (by omega)]; exact hn o (by omega), hb1, hb2⟩
    have fin : ∀ (r : Int64), r = nxF w u f j → ((v1 = 0 → ((lg_cmp ((wj M' 214 j r).2 214 j) ((wj M' 214 j r).2 213 j)) = 0 → ih 0 (i32 j + 1) (wj M' 214 j r)) ∧ (¬ (lg_cmp ((wj M' 214 j r).2 214 j) ((wj M' 214 j r).2 213 j)) = 0 → ih 1 (i32 j + 1) (wj M' 214 j r))) ∧ (¬ v1 = 0 → ih 1 (i32 j + 1) (wj M' 214 j r))) := by
      intro r hr
      subst hr
      rw [wj_2e, wj_2n (by omega), hf' j hlt, lg_eq]
      refine ⟨fun e => ⟨fun e1 => nx 0 (Or.inl rfl) ⟨fun _ c hc => ?_, fun _ => rfl⟩, fun e1 => nx 1 (Or.inr rfl) ⟨fun hh => absurd hh (by decide), fun hh => absurd (hh j (by omega)) e1⟩⟩, fun e => nx 1 (Or.inr rfl) ⟨fun hh => absurd hh (by decide), fun hh => absurd (hv0.mpr fun c hc => hh c (by omega)) e⟩⟩
      by_cases e3 : c = j
      · subst e3; exact e1
      · exact hv0.mp e c (by omega)
    rw [v_alive (by omega), hx', ni_i (by omega)]
    refine ⟨fun e => ?_, fun e => ?_⟩
    · have := fin (M'.2 213 j) (by rw [hf' j hlt]; unfold nxF; rw [b32_eq0.mp e, if_neg (by decide)])
      exact this
    · refine r_half hx' hf' hw hlt ?_
      rw [hu M']
      exact fin _ (by rw [hf' j hlt]; unfold nxF; rw [b32_ne0.mp e, if_pos rfl])
  · obtain rfl : j = nC w := by omega
    refine sp_likensS (P := 0) (R := 0) (by omega) (by omega) (Or.inl (by decide)) (hQ _ _ hx' (fun o ho => ?_) hv0)
    unfold lkS
    dsimp only
    rw [if_pos (by omega), show 0 + (o - 0) = o by omega]
    exact hn o ho
theorem a_settles (h : CP B M) : W_E_settles N M (fun y M1 => ∀ N', W_m_settles N' M1 (fun b M2 => CP B M2 ∧ M2.1 190 0 = 0 ∧ y = b)) := by
  obtain ⟨hc, hg⟩ := h.2.2.2.1
  have hw := hg.1
  have hu : ∀ X : MM, V_Int_bitCount (bs (alv (M.1 191)) (nC (M.1 191))) X - 1 = V_Int_bitCount (bs (alv (M.1 191)) (nC (M.1 191))) M - 1 := fun X => rfl
  refine and_E_settles (Q1 := fun y _ => SET (M.1 191) (V_Int_bitCount (bs (alv (M.1 191)) (nC (M.1 191))) M - 1) (M.2 196) y) (fun y M1 hy h1 N' => ?_) ?_ (an_E_settles (Q := fun _ M1 => Eqo fp_E_settles M M1) (fun _ _ e => e))
  · have x191 : M1.1 191 = M.1 191 := eqb h1 rfl (Nat.le_refl _) (Nat.le_refl _)
    have x196 : M1.2 196 = M.2 196 := eqb2 h1 rfl (Nat.le_refl _) (Nat.le_refl _)
    have hp : CP B M1 := CP_eq h h1 rfl
    refine and_m_settles (Q1 := fun b M2 => M2.1 190 0 = 0 ∧ y = b) (fun b M2 q1 q2 => ⟨q2, q1⟩) ?_ (fm_settles hp)
    unfold W_m_settles
    refine sp_likensS (P := 0) (R := 0) (by omega) (by omega) (Or.inl (by decide)) ?_
    have s0 : ∀ o, o < nC (M.1 191) → (lkS (wi M1 190 0 0) 196 0 213 0 10).2 213 o = M.2 196 o := fun o ho => by
      have := (nC_i hw).2.1
      unfold lkS
      dsimp only
      rw [if_pos (by omega), show 0 + (o - 0) = o by omega]
      show M1.2 196 o = _
      rw [x196]
    have t0 : (lkS (wi M1 190 0 0) 196 0 213 0 10).1 190 0 = 0 := (show (wi M1 190 0 0).1 190 0 = 0 from wi_1e)
    have w0 : (lkS (wi M1 190 0 0) 196 0 213 0 10).1 191 = M.1 191 := x191
    generalize lkS (wi M1 190 0 0) 196 0 213 0 10 = X at s0 t0 w0 ⊢
    refine I_m_settles_20 _ (fun v M' => ∃ j, j ≤ 31 ∧ v = i32 j ∧ M'.1 191 = M.1 191 ∧ M'.1 190 0 = 0 ∧ (∀ o, o < nC (M.1 191) → M'.2 213 o = sqF (M.1 191) (V_Int_bitCount (bs (alv (M.1 191)) (nC (M.1 191))) M - 1) (M.2 196) j o) ∧ ∀ i, i < j → ¬ still (M.1 191) (V_Int_bitCount (bs (alv (M.1 191)) (nC (M.1 191))) M - 1) (M.2 196) i) (fun N ih v M' hih hv => ?_) N' _ _ ⟨0, by omega, rfl, w0, t0, s0, fun i hi => absurd hi (by omega)⟩
    obtain ⟨j, hj, rfl, hx', ht', hs', hst⟩ := hv
    unfold B_m_settles_20
    rw [show (30 : Int32) < i32 j ↔ 30 < j from i32_lt (j := 30) (by omega) (by omega)]
    refine ⟨fun hlt => ⟨ht', SET_u hy (Or.inr ⟨rfl, fun i hi => hst i (by omega)⟩)⟩, fun hlt => ?_⟩
    refine and_m_goesRound (Q1 := fun y M2 => M2.1 191 = M.1 191 ∧ (∀ o, o < nC (M.1 191) → M2.2 213 o = sqF (M.1 191) (V_Int_bitCount (bs (alv (M.1 191)) (nC (M.1 191))) M - 1) (M.2 196) (j + 1) o) ∧ (y = 0 ↔ still (M.1 191) (V_Int_bitCount (bs (alv (M.1 191)) (nC (M.1 191))) M - 1) (M.2 196) j)) (fun y2 M2 q1 q2 => ?_) (r_round hx' hs' hw (fun y2 M2 a1 a2 a3 => ⟨a1, fun o ho => ?_, ?_⟩)) (an_m_goesRound (Q := fun _ M2 => Eqo fp_m_goesRound M' M2) (fun _ _ e => e))
    · obtain ⟨b1, b2, b3⟩ := q1
      have t2 : M2.1 190 0 = 0 := (congrFun (eqb q2 rfl (Nat.le_refl 190) (Nat.le_refl 190)) 0).trans ht'
      refine ⟨fun e => ⟨t2, SET_u hy (Or.inl ⟨j, by omega, rfl, b3.mp e, hst⟩)⟩, fun e => hih _ _ ⟨j + 1, by omega, i32_s j, b1, t2, b2, fun i hi => ?_⟩⟩
      by_cases e3 : i = j
      · subst e3; exact fun hh => e (b3.mpr hh)
      · exact hst i (by omega)
    · rw [a2 o ho, hu M']
      rfl
    · rw [hu M'] at a3
      exact a3
  · unfold W_E_settles
    refine sp_become (Or.inr (by omega)) hc (fun M3 h3 e3 => ?_)
    refine I_E_settles_13 _ (fun v M' => ∃ j, j ≤ 31 ∧ v = i32 j ∧ CW M' 30 (M.1 191) (sqF (M.1 191) (V_Int_bitCount (bs (alv (M.1 191)) (nC (M.1 191))) M - 1) (M.2 196) j) ∧ ∀ i, i < j → ¬ still (M.1 191) (V_Int_bitCount (bs (alv (M.1 191)) (nC (M.1 191))) M - 1) (M.2 196) i) (fun N ih v M' hih hv => ?_) N _ _ ⟨0, by omega, rfl, h3, fun i hi => absurd hi (by omega)⟩
    obtain ⟨j, hj, rfl, hj2, hst⟩ := hv
    unfold B_E_settles_13
    rw [show (30 : Int32) < i32 j ↔ 30 < j from i32_lt (j := 30) (by omega) (by omega)]
    refine ⟨fun hlt => Or.inr ⟨rfl, fun i hi => hst i (by omega)⟩, fun hlt => ?_⟩
    refine c_spread hj2 hw (fun y2 M2 a1 a2 => ?_)
    rw [hu M'] at a1 a2
    refine ⟨fun e => Or.inl ⟨j, by omega, rfl, a2.mp e, hst⟩, fun e => hih _ _ ⟨j + 1, by omega, i32_s j, a1, fun i hi => ?_⟩⟩
    by_cases e3 : i = j
    · subst e3; exact fun hh => e (a2.mpr hh)
    · exact hst i (by omega)
end SR
