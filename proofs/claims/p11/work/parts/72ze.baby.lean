/-! ACTS: a baby -/
def babS (w : RW) (c : Nat) : RW := fun j => if j = 0 then w 0 + 1 else if 18 + 13 * nC w ≤ j ∧ j < 18 + 13 * nC w + 13 then (if j = 18 + 13 * nC w + 1 then 0 else if j = 18 + 13 * nC w + 3 then 0 else if j = 18 + 13 * nC w + 4 then -1 else if j = 18 + 13 * nC w + 6 then 0 else cl w c (j - (18 + 13 * nC w))) else w j
section BB
variable {w : RW} {s : RS} {c : Nat}
theorem bab_o {c' i : Nat} (hc : c' ≠ nC w) (hi : i < 13) : cl (babS w c) c' i = cl w c' i := by
  unfold cl babS
  rw [if_neg (by omega), if_neg (by omega)]
theorem bab_n {i : Nat} (hi : i < 13) : cl (babS w c) (nC w) i = if i = 1 then 0 else if i = 3 then 0 else if i = 4 then -1 else if i = 6 then 0 else cl w c i := by
  show babS w c (18 + 13 * nC w + i) = _
  unfold babS
  rw [if_neg (by omega), if_pos (by omega), show 18 + 13 * nC w + i - (18 + 13 * nC w) = i by omega]
  by_cases h1 : i = 1
  · rw [if_pos (by omega), if_pos h1]
  · rw [if_neg (by omega), if_neg h1]
    by_cases h3 : i = 3
    · rw [if_pos (by omega), if_pos h3]
    · rw [if_neg (by omega), if_neg h3]
      by_cases h4 : i = 4
      · rw [if_pos (by omega), if_pos h4]
      · rw [if_neg (by omega), if_neg h4]
        by_cases h6 : i = 6
        · rw [if_pos (by omega), if_pos h6]
        · rw [if_neg (by omega), if_neg h6]
theorem bab_k {k : Nat} (hk : k < 18) (h0 : k ≠ 0) : babS w c k = w k := by
  unfold babS
  rw [if_neg h0, if_neg (by omega)]
theorem bab_l {k : Nat} (hn : nC w < 10) (hk : 148 ≤ k) : babS w c k = w k := by
  unfold babS
  rw [if_neg (by omega), if_neg (by omega)]
theorem bab_0 (hw : WF w) : babS w c 0 = i32 (nC w + 1) ∧ nC (babS w c) = nC w + 1 := by
  obtain ⟨e0, hn, ei⟩ := nC_i hw
  have e : babS w c 0 = i32 (nC w + 1) := by
    show w 0 + 1 = _
    rw [← i32_s, ← ei]
  refine ⟨e, ?_⟩
  show ni (babS w c 0) = _
  rw [e, ni_i (by omega)]
theorem bab_W (hw : WF w) (hc : c < nC w) (hn : nC w < 10) : WF (babS w c) := by
  obtain ⟨e0, -, ei⟩ := nC_i hw
  obtain ⟨b0, b1⟩ := bab_0 (c := c) hw
  obtain ⟨g0, g6, g8, gc⟩ := hw
  have et : (babS w c 0).toInt = nC w + 1 := by rw [b0, i32_i (by omega)]; omega
  refine ⟨by omega, by rw [bab_k (by omega) (by omega)]; exact g6, by rw [bab_k (by omega) (by omega)]; exact g8, fun c' hc' => ?_⟩
  rw [b1] at hc'
  by_cases e : c' = nC w
  · subst e
    obtain ⟨c1, c2, c3, c4, c5, c6⟩ := gc c hc
    refine ⟨?_, ?_, ?_, ?_, ?_, fun k hk hl => ?_⟩
    · rw [bab_n (by omega)]; exact c1
    · rw [bab_n (by omega)]; show 0 ≤ (0 : Int32).toInt; decide
    · rw [bab_n (by omega)]; exact Or.inl rfl
    · rw [bab_n (by omega)]; exact c4
    · rw [bab_n (by omega), bab_n (i := 5) (by omega)]
      show 0 ≤ (0 : Int32).toInt ∧ (0 : Int32).toInt < (cl w c 5).toInt
      rw [show (0 : Int32).toInt = 0 from rfl]
      omega
    · rw [bab_n (by omega)] at hl
      rw [bab_n (by omega), if_neg (by omega), if_neg (by omega), if_neg (by omega), if_neg (by omega)]
      exact c6 k hk hl
  · obtain ⟨c1, c2, c3, c4, c5, c6⟩ := gc c' (by omega)
    refine ⟨by rw [bab_o e (by omega)]; exact c1, by rw [bab_o e (by omega)]; exact c2, by rw [bab_o e (by omega), et]; exact c3.imp_right (fun hh => ⟨hh.1, by omega⟩), by rw [bab_o e (by omega)]; exact c4, by rw [bab_o e (by omega), bab_o e (by omega)]; exact c5, fun k hk hl => ?_⟩
    rw [bab_o e (by omega)] at hl
    rw [bab_o e (by omega)]
    exact c6 k hk hl
end BB
def hbM (M : MM) (a n : Nat) (f : Nat → Int32) (k : Nat) : MM := (fun b j => if b = a + 5 ∧ 6 * n ≤ j ∧ j < 6 * n + k then f (j - 6 * n) else if b = a + 6 ∧ j = n then i32 k else M.1 b j, M.2)
theorem hbM_0 {M : MM} {a n : Nat} {f : Nat → Int32} (h : M.1 (a + 6) n = 0) : hbM M a n f 0 = M := by
  unfold hbM
  apply Prod.ext
  · funext b j
    dsimp only
    rw [if_neg (by omega)]
    by_cases e : b = a + 6 ∧ j = n
    · rw [if_pos e, e.1, e.2, h]; rfl
    · rw [if_neg e]
  · rfl
theorem hbM_s {M : MM} {a n k : Nat} {f : Nat → Int32} : wi (wi (hbM M a n f k) (a + 5) (6 * n + k) (f k)) (a + 6) n (i32 (k + 1)) = hbM M a n f (k + 1) := by
  unfold wi hbM up
  apply Prod.ext
  · funext b j
    dsimp only
    by_cases e6 : b = a + 6 ∧ j = n
    · rw [if_pos e6, if_neg (by omega), if_pos e6]
    · rw [if_neg e6]
      by_cases e5 : b = a + 5 ∧ j = 6 * n + k
      · rw [if_pos e5, if_pos (by omega), e5.2, show 6 * n + k - 6 * n = k by omega]
      · rw [if_neg e5]
        by_cases e : b = a + 5 ∧ 6 * n ≤ j ∧ j < 6 * n + k
        · rw [if_pos e, if_pos (by omega)]
        · rw [if_neg e, if_neg e6, if_neg (by omega), if_neg e6]
  · rfl
section BC
variable {a c N : Nat} {M : MM} {w : RW} {s : RS}
theorem c_bear {Q : Int32 → MM → Prop} (h : CW M a w s) (hw : WF w) (hc : c < nC w) (hal : alv w c = true) (hn : nC w < 10) (hQ : ∀ M', CW M' a (babS w c) (us s (nC w) (Int64.ofNat 0)) → Eqo (fp_World_bear a) M M' → Q (w 0) M') : W_World_bear a (i32 c) N M Q := by
  obtain ⟨e0, -, ei⟩ := nC_i hw
  refine and_World_bear (Q1 := fun r M' => r = w 0 ∧ CW M' a (babS w c) (us s (nC w) (Int64.ofNat 0))) (fun r M' h1 h2 => by rw [h1.1]; exact hQ M' h1.2 h2) ?_ (an_World_bear (Q := fun r M' => Eqo (fp_World_bear a) M M') (fun r M1 h => h))
  unfold W_World_bear W_World_addCitizen
  have hcc := h.2.2.2.1 c hc
  have hlen := (hw.2.2.2 c hc).2.2.2.1
  rw [h.1.1, ni_i (show c < 2147483648 by omega), hcc.2.1, ei]
  refine ⟨fun _ => ?_, fun hbad => absurd ((i32_lt (k := 10) (by omega) (by omega)).mpr hn) hbad⟩
  refine ⟨fun hneg => ?_, fun _ => ?_⟩
  · have := i32_i (j := nC w) (by omega)
    rw [hneg] at this
    rw [show ((-1 : Int32)).toInt = -1 from rfl] at this
    omega
  rw [wi_1n (by omega), h.2.2.1, ni_i (show nC w < 2147483648 by omega), i32_s]
  generalize hM2 : (wj (wi (wi (wi (wi (wi (wi (wi (wi M a 0 (i32 (nC w + 1))) a 1 (bs (alv w) (nC w) ||| sl 1 (i32 (nC w)))) (a + 1) (nC w) 0) (a + 2) (nC w) (cl w c 2)) (a + 3) (nC w) 0) (a + 4) (nC w) (-1)) (a + 6) (nC w) 0) (a + 7) (nC w) 0) (a + 8) (nC w) (Int64.ofNat 0)) = M2
  have z6 : M2.1 (a + 6) (nC w) = 0 := by
    rw [← hM2, wj_1, wi_1n (by omega), wi_1e]
  have f6 : M2.1 (a + 6) c = cl w c 5 := by
    rw [← hM2]
    simp (disch := omega) only [wj_1, wi_1n]
    exact hcc.2.2.2.2.1
  have f5 : ∀ k : Nat, k < 6 → (k : Int) < (cl w c 5).toInt → M2.1 (a + 5) (6 * c + k) = cl w c (7 + k) := fun k hk hl => by
    rw [← hM2]
    simp (disch := omega) only [wj_1, wi_1n]
    exact hcc.2.2.2.2.2.2.1 k hk hl
  have b5 : ((ni (cl w c 5) : Nat) : Int) = (cl w c 5).toInt := by unfold ni; omega
  have e5 := i32_ni (x := cl w c 5) (by omega)
  refine I_World_bear_18 a _ _ _ (fun v M' => ∃ k, k ≤ ni (cl w c 5) ∧ v = i32 k ∧ M' = hbM M2 a (nC w) (fun k => cl w c (7 + k)) k) (fun N ih v M' hih hv => ?_) N _ _ ⟨0, by omega, rfl, (hbM_0 z6).symm⟩
  obtain ⟨k, hk, rfl, rfl⟩ := hv
  unfold B_World_bear_18
  have g6 : (hbM M2 a (nC w) (fun k => cl w c (7 + k)) k).1 (a + 6) c = cl w c 5 := by
    unfold hbM
    dsimp only
    rw [if_neg (by omega), if_neg (by omega)]
    exact f6
  have hlt' : (i32 k < cl w c 5) ↔ k < ni (cl w c 5) := by
    have := i32_lt (j := k) (k := ni (cl w c 5)) (by omega) (by omega)
    rw [← e5] at this
    exact this
  rw [ni_i (show c < 2147483648 by omega), g6, hlt']
  refine ⟨fun hlt => ?_, fun hlt => ?_⟩
  · unfold W_World_addToHabit V_World_matterAt
    rw [ni_i (show nC w < 2147483648 by omega)]
    have gn : (hbM M2 a (nC w) (fun k => cl w c (7 + k)) k).1 (a + 6) (nC w) = i32 k := by
      unfold hbM
      dsimp only
      rw [if_neg (by omega), if_pos ⟨rfl, rfl⟩]
    have gx : ni (i32 c * 6 + i32 k) = 6 * c + k := by
      rw [show i32 c * 6 = i32 (c * 6) from i32_m c 6, i32_a, ni_i (by omega)]
      omega
    have gy : ni (i32 (nC w) * 6 + i32 k) = 6 * nC w + k := by
      rw [show i32 (nC w) * 6 = i32 (nC w * 6) from i32_m _ 6, i32_a, ni_i (by omega)]
      omega
    have gm : (hbM M2 a (nC w) (fun k => cl w c (7 + k)) k).1 (a + 5) (6 * c + k) = cl w c (7 + k) := by
      unfold hbM
      dsimp only
      rw [if_neg (by omega), if_neg (by omega)]
      exact f5 k (by omega) (by omega)
    rw [gn, gx, gy, gm]
    have gn2 : (wi (hbM M2 a (nC w) (fun k => cl w c (7 + k)) k) (a + 5) (6 * nC w + k) (cl w c (7 + k))).1 (a + 6) (nC w) = i32 k := by rw [wi_1n (by omega)]; exact gn
    rw [gn2, i32_s, hbM_s (f := fun k => cl w c (7 + k))]
    refine ⟨fun _ => hih _ _ ⟨k + 1, by omega, rfl, rfl⟩, fun hbad => absurd ((i32_lt (k := 6) (by omega) (by omega)).mpr (by omega)) hbad⟩
  · obtain rfl : k = ni (cl w c 5) := by omega
    refine ⟨rfl, ?_⟩
    have r1 : ∀ b j, ¬ b = a + 5 → ¬ (b = a + 6 ∧ j = nC w) → (hbM M2 a (nC w) (fun k => cl w c (7 + k)) (ni (cl w c 5))).1 b j = M2.1 b j := fun b j q1 q2 => by
      unfold hbM
      dsimp only
      rw [if_neg (by omega), if_neg q2]
    have r5o : ∀ j, j < 6 * nC w → (hbM M2 a (nC w) (fun k => cl w c (7 + k)) (ni (cl w c 5))).1 (a + 5) j = M2.1 (a + 5) j := fun j hj => by
      unfold hbM
      dsimp only
      rw [if_neg (by omega), if_neg (by omega)]
    have r2 : (hbM M2 a (nC w) (fun k => cl w c (7 + k)) (ni (cl w c 5))).2 = M2.2 := rfl
    obtain ⟨b0, b1⟩ := bab_0 (c := c) hw
    obtain ⟨⟨a0, a1, a2, a3, a4, a5, a6, a7, a8⟩, q1, q2, q3, q4, q5, q6⟩ := h
    refine ⟨⟨?_, ?_, ?_, ?_, ?_, ?_, ?_, ?_, ?_⟩, fun d hd => ?_, ?_, fun c' hc' => ?_, ?_, ?_, fun k q hk hl hq => ?_⟩
    · rw [r1 _ _ (by omega) (by omega), ← hM2, b0]
      simp (disch := omega) only [wj_1, wi_1n, wi_1e]
    · rw [r1 _ _ (by omega) (by omega), ← hM2, bab_k (by omega) (by omega)]
      simp (disch := omega) only [wj_1, wi_1n]
      exact a1
    · rw [r1 _ _ (by omega) (by omega), ← hM2, bab_k (by omega) (by omega)]
      simp (disch := omega) only [wj_1, wi_1n]
      exact a2
    · rw [r1 _ _ (by omega) (by omega), ← hM2, bab_k (by omega) (by omega)]
      simp (disch := omega) only [wj_1, wi_1n]
      exact a3
    · rw [r1 _ _ (by omega) (by omega), ← hM2, bab_k (by omega) (by omega)]
      simp (disch := omega) only [wj_1, wi_1n]
      exact a4
    · rw [r1 _ _ (by omega) (by omega), ← hM2, bab_k (by omega) (by omega)]
      simp (disch := omega) only [wj_1, wi_1n]
      exact a5
    · rw [r1 _ _ (by omega) (by omega), ← hM2, bab_k (by omega) (by omega)]
      simp (disch := omega) only [wj_1, wi_1n]
      exact a6
    · rw [r1 _ _ (by omega) (by omega), ← hM2, bab_k (by omega) (by omega)]
      simp (disch := omega) only [wj_1, wi_1n]
      exact a7
    · rw [r1 _ _ (by omega) (by omega), ← hM2, bab_k (by omega) (by omega)]
      simp (disch := omega) only [wj_1, wi_1n]
      exact a8
    · rw [r1 _ _ (by omega) (by omega), ← hM2, bab_k (by omega) (by omega)]
      simp (disch := omega) only [wj_1, wi_1n]
      exact q1 d hd
    · rw [r1 _ _ (by omega) (by omega), ← hM2, b1, bs_s]
      simp (disch := omega) only [wj_1, wi_1n, wi_1e]
      rw [if_pos (by unfold alv; rw [bab_n (by omega)]; exact hal), bs_congr (P := alv (babS w c)) (P' := alv w) (fun k hk => by unfold alv; rw [bab_o (by omega) (by omega)])]
    · rw [b1] at hc'
      by_cases e : c' = nC w
      · subst e
        refine ⟨?_, ?_, ?_, ?_, ?_, ?_, fun k hk hl => ?_, ?_⟩
        · rw [r1 _ _ (by omega) (by omega), ← hM2, bab_n (by omega)]
          simp (disch := omega) only [wj_1, wi_1n, wi_1e]
          rfl
        · rw [r1 _ _ (by omega) (by omega), ← hM2, bab_n (by omega)]
          simp (disch := omega) only [wj_1, wi_1n, wi_1e]
          rfl
        · rw [r1 _ _ (by omega) (by omega), ← hM2, bab_n (by omega)]
          simp (disch := omega) only [wj_1, wi_1n, wi_1e]
          rfl
        · rw [r1 _ _ (by omega) (by omega), ← hM2, bab_n (by omega)]
          simp (disch := omega) only [wj_1, wi_1n, wi_1e]
          rfl
        · rw [bab_n (by omega)]
          show (hbM M2 a (nC w) (fun k => cl w c (7 + k)) (ni (cl w c 5))).1 (a + 6) (nC w) = cl w c 5
          unfold hbM
          dsimp only
          rw [if_neg (by omega), if_pos ⟨rfl, rfl⟩]
          exact e5.symm
        · rw [r1 _ _ (by omega) (by omega), ← hM2, bab_n (by omega)]
          simp (disch := omega) only [wj_1, wi_1n, wi_1e]
          rfl
        · rw [bab_n (by omega)] at hl
          rw [bab_n (by omega), if_neg (by omega), if_neg (by omega), if_neg (by omega), if_neg (by omega)]
          have hl' : (k : Int) < (cl w c 5).toInt := hl
          unfold hbM
          dsimp only
          rw [if_pos (by omega), show 6 * nC w + k - 6 * nC w = k by omega]
        · rw [r2, ← hM2, wj_2e]
          unfold us
          rw [if_pos rfl]
      · have hcl : c' < nC w := by omega
        refine CWc_fr (q3 c' hcl) (fun i hi => ?_) (fun k hk => ?_) ?_ (fun i hi => bab_o (by omega) hi) ?_
        · rw [r1 _ _ (by omega) (by omega), ← hM2]
          simp (disch := omega) only [wj_1, wi_1n]
        · rw [r5o _ (by omega), ← hM2]
          simp (disch := omega) only [wj_1, wi_1n]
        · rw [r2, ← hM2, wj_2n (by omega)]
          rfl
        · unfold us
          rw [if_neg e]
    · rw [r1 _ _ (by omega) (by omega), ← hM2, bab_k (by omega) (by omega)]
      simp (disch := omega) only [wj_1, wi_1n]
      exact q4
    · rw [r1 _ _ (by omega) (by omega), ← hM2]
      simp (disch := omega) only [wj_1, wi_1n]
      exact q5
    · rw [bab_k (by omega) (by omega)] at hl
      rw [r1 _ _ (by omega) (by omega), r1 _ _ (by omega) (by omega), ← hM2, bab_l hn (by omega)]
      simp (disch := omega) only [wj_1, wi_1n]
      exact q6 k q hk hl hq
end BC
