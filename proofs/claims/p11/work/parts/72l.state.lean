/-! THE STATE OF THE REPUBLIC, as a row of the reference, and how a World of the class says the same -/
section MEMR
variable {M : MM} {a b c j k : Nat} {x : Int32} {y : Int64}
theorem wi_1n (h : ¬ (c = a ∧ j = k)) : (wi M a k x).1 c j = M.1 c j := up_n h
theorem wi_1e : (wi M a k x).1 a k = x := up_s
theorem wi_2 : (wi M a k x).2 = M.2 := rfl
theorem wj_1 : (wj M a k y).1 = M.1 := rfl
theorem wj_2n (h : ¬ (c = a ∧ j = k)) : (wj M a k y).2 c j = M.2 c j := up_n h
theorem wj_2e : (wj M a k y).2 a k = y := up_s
theorem cp0_1n (h : ¬ c = b) : (cpM M 0 a b).1 c j = M.1 c j := if_neg h
theorem cp0_1e : (cpM M 0 a b).1 b j = M.1 a j := if_pos rfl
theorem cp0_2 : (cpM M 0 a b).2 = M.2 := rfl
theorem cp1_1 : (cpM M 1 a b).1 = M.1 := rfl
theorem cp1_2n (h : ¬ c = b) : (cpM M 1 a b).2 c j = M.2 c j := if_neg h
theorem cp1_2e : (cpM M 1 a b).2 b j = M.2 a j := if_pos rfl
end MEMR
abbrev RW : Type := Nat → Int32
abbrev RS : Type := Nat → Int64
def nC (w : RW) : Nat := ni (w 0)
def cl (w : RW) (c i : Nat) : Int32 := w (18 + 13 * c + i)
def alv (w : RW) (c : Nat) : Bool := decide (cl w c 0 = 1)
def WFc (w : RW) (c : Nat) : Prop := (cl w c 0 = 0 ∨ cl w c 0 = 1) ∧ 0 ≤ (cl w c 3).toInt ∧ (cl w c 4 = -1 ∨ (0 ≤ (cl w c 4).toInt ∧ (cl w c 4).toInt < (w 0).toInt)) ∧ (1 ≤ (cl w c 5).toInt ∧ (cl w c 5).toInt ≤ 6) ∧ (0 ≤ (cl w c 6).toInt ∧ (cl w c 6).toInt < (cl w c 5).toInt) ∧ ∀ k : Nat, k < 6 → (k : Int) < (cl w c 5).toInt → 0 ≤ (cl w c (7 + k)).toInt ∧ (cl w c (7 + k)).toInt ≤ 63
def WF (w : RW) : Prop := (0 ≤ (w 0).toInt ∧ (w 0).toInt ≤ 10) ∧ (0 ≤ (w 6).toInt ∧ (w 6).toInt ≤ 60) ∧ 0 ≤ (w 8).toInt ∧ ∀ c, c < nC w → WFc w c
def CWs (M : MM) (a : Nat) (w : RW) : Prop := M.1 a 0 = w 0 ∧ M.1 a 15 = w 1 ∧ M.1 a 13 = w 2 ∧ M.1 a 16 = w 3 ∧ M.1 a 17 = w 4 ∧ M.1 a 18 = w 5 ∧ M.1 a 11 = w 7 ∧ M.1 a 12 = w 8 ∧ M.1 a 14 = w 9
def CWc (M : MM) (a : Nat) (w : RW) (s : RS) (c : Nat) : Prop := M.1 (a + 1) c = cl w c 1 ∧ M.1 (a + 2) c = cl w c 2 ∧ M.1 (a + 3) c = cl w c 3 ∧ M.1 (a + 4) c = cl w c 4 ∧ M.1 (a + 6) c = cl w c 5 ∧ M.1 (a + 7) c = cl w c 6 ∧ (∀ k : Nat, k < 6 → (k : Int) < (cl w c 5).toInt → M.1 (a + 5) (6 * c + k) = cl w c (7 + k)) ∧ M.2 (a + 8) c = s c
def CWl (M : MM) (a : Nat) (w : RW) : Prop := M.1 (a + 10) 1 = w 6 ∧ (0 ≤ (M.1 (a + 10) 2).toInt ∧ (M.1 (a + 10) 2).toInt < 60) ∧ ∀ k q : Nat, k < 60 → (k : Int) < (w 6).toInt → q < 4 → M.1 (a + 10 + 1) (((ni (M.1 (a + 10) 2) + 59 - k) % 60) * 4 + q) = w (148 + 4 * k + q)
def CW (M : MM) (a : Nat) (w : RW) (s : RS) : Prop := CWs M a w ∧ (∀ d, d < 8 → M.1 (a + 9) d = w (10 + d)) ∧ M.1 a 1 = bs (alv w) (nC w) ∧ (∀ c, c < nC w → CWc M a w s c) ∧ CWl M a w
theorem nC_i {w : RW} (h : WF w) : (w 0).toInt = (nC w : Int) ∧ nC w ≤ 10 ∧ w 0 = i32 (nC w) := by
  obtain ⟨⟨h1, h2⟩, -⟩ := h
  have e : (w 0).toInt = (nC w : Int) := by unfold nC ni; omega
  exact ⟨e, by omega, i32_of e⟩
/-- the same cells -/
theorem CW_cp {M M' : MM} {a b : Nat} {w : RW} {s : RS} (h : CW M b w s) (h0 : ∀ k, (k = 0 ∨ k = 1 ∨ (11 ≤ k ∧ k ≤ 18)) → M'.1 a k = M.1 b k) (h1 : ∀ i, 1 ≤ i → i ≤ 9 → ∀ j, i ≠ 8 → M'.1 (a + i) j = M.1 (b + i) j) (h8 : ∀ j, M'.2 (a + 8) j = M.2 (b + 8) j) (h10 : M'.1 (a + 10) 1 = M.1 (b + 10) 1 ∧ M'.1 (a + 10) 2 = M.1 (b + 10) 2) (h11 : ∀ j, M'.1 (a + 10 + 1) j = M.1 (b + 10 + 1) j) : CW M' a w s := by
  obtain ⟨⟨a0, a1, a2, a3, a4, a5, a6, a7, a8⟩, b1, b2, b3, b4, b5, b6⟩ := h
  refine ⟨⟨?_, ?_, ?_, ?_, ?_, ?_, ?_, ?_, ?_⟩, fun d hd => ?_, ?_, fun c hc => ?_, ?_, ?_, fun k q hk hl hq => ?_⟩
  · rw [h0 0 (by omega)]; exact a0
  · rw [h0 15 (by omega)]; exact a1
  · rw [h0 13 (by omega)]; exact a2
  · rw [h0 16 (by omega)]; exact a3
  · rw [h0 17 (by omega)]; exact a4
  · rw [h0 18 (by omega)]; exact a5
  · rw [h0 11 (by omega)]; exact a6
  · rw [h0 12 (by omega)]; exact a7
  · rw [h0 14 (by omega)]; exact a8
  · rw [h1 9 (by omega) (by omega) _ (by omega)]; exact b1 d hd
  · rw [h0 1 (by omega)]; exact b2
  · obtain ⟨c1, c2, c3, c4, c5, c6, c7, c8⟩ := b3 c hc
    refine ⟨?_, ?_, ?_, ?_, ?_, ?_, fun k hk hl => ?_, ?_⟩
    · rw [h1 1 (by omega) (by omega) _ (by omega)]; exact c1
    · rw [h1 2 (by omega) (by omega) _ (by omega)]; exact c2
    · rw [h1 3 (by omega) (by omega) _ (by omega)]; exact c3
    · rw [h1 4 (by omega) (by omega) _ (by omega)]; exact c4
    · rw [h1 6 (by omega) (by omega) _ (by omega)]; exact c5
    · rw [h1 7 (by omega) (by omega) _ (by omega)]; exact c6
    · rw [h1 5 (by omega) (by omega) _ (by omega)]; exact c7 k hk hl
    · rw [h8]; exact c8
  · rw [h10.1]; exact b4
  · rw [h10.2]; exact b5
  · rw [h10.2, h11]; exact b6 k q hk hl hq
theorem CW_fr {M M' : MM} {a : Nat} {w : RW} {s : RS} (h : CW M a w s) (hf : ∀ b j, a ≤ b → b ≤ a + 11 → M'.1 b j = M.1 b j ∧ M'.2 b j = M.2 b j) : CW M' a w s :=
  CW_cp h (fun k _ => (hf a k (by omega) (by omega)).1) (fun i _ _ j _ => (hf (a + i) j (by omega) (by omega)).1) (fun j => (hf (a + 8) j (by omega) (by omega)).2) ⟨(hf (a + 10) 1 (by omega) (by omega)).1, (hf (a + 10) 2 (by omega) (by omega)).1⟩ (fun j => (hf (a + 10 + 1) j (by omega) (by omega)).1)
/-- another row that says the same -/
theorem CW_w {M : MM} {a : Nat} {w w' : RW} {s s' : RS} (h : CW M a w s) (hn : nC w ≤ 10) (h6 : (w 6).toInt ≤ 60) (hw : ∀ k, k < 388 → w' k = w k) (hs : ∀ c, c < 10 → s' c = s c) : CW M a w' s' := by
  obtain ⟨⟨a0, a1, a2, a3, a4, a5, a6, a7, a8⟩, b1, b2, b3, b4, b5, b6⟩ := h
  have en : nC w' = nC w := by unfold nC; rw [hw 0 (by omega)]
  have ec : ∀ c i, c < 10 → i < 13 → cl w' c i = cl w c i := fun c i hc hi => hw _ (by omega)
  refine ⟨⟨?_, ?_, ?_, ?_, ?_, ?_, ?_, ?_, ?_⟩, fun d hd => ?_, ?_, fun c hc => ?_, ?_, b5, fun k q hk hl hq => ?_⟩
  · rw [hw _ (by omega)]; exact a0
  · rw [hw _ (by omega)]; exact a1
  · rw [hw _ (by omega)]; exact a2
  · rw [hw _ (by omega)]; exact a3
  · rw [hw _ (by omega)]; exact a4
  · rw [hw _ (by omega)]; exact a5
  · rw [hw _ (by omega)]; exact a6
  · rw [hw _ (by omega)]; exact a7
  · rw [hw _ (by omega)]; exact a8
  · rw [hw _ (by omega)]; exact b1 d hd
  · rw [en, b2]
    exact bs_congr (fun k hk => by unfold alv; rw [ec k 0 (by omega) (by omega)])
  · rw [en] at hc
    obtain ⟨c1, c2, c3, c4, c5, c6, c7, c8⟩ := b3 c hc
    have hc10 : c < 10 := by omega
    refine ⟨?_, ?_, ?_, ?_, ?_, ?_, fun k hk hl => ?_, ?_⟩
    · rw [ec c 1 hc10 (by omega)]; exact c1
    · rw [ec c 2 hc10 (by omega)]; exact c2
    · rw [ec c 3 hc10 (by omega)]; exact c3
    · rw [ec c 4 hc10 (by omega)]; exact c4
    · rw [ec c 5 hc10 (by omega)]; exact c5
    · rw [ec c 6 hc10 (by omega)]; exact c6
    · rw [ec c 5 hc10 (by omega)] at hl
      rw [ec c (7 + k) hc10 (by omega)]; exact c7 k hk hl
    · rw [hs c hc10]; exact c8
  · rw [hw _ (by omega)]; exact b4
  · rw [hw 6 (by omega)] at hl
    rw [hw _ (by omega)]; exact b6 k q hk hl hq
theorem WF_w {w w' : RW} (h : WF w) (hw : ∀ k, k < 388 → w' k = w k) : WF w' := by
  obtain ⟨hn1, hn2, -⟩ := nC_i h
  obtain ⟨h0, h6, h8, hc⟩ := h
  have en : nC w' = nC w := by unfold nC; rw [hw 0 (by omega)]
  have ec : ∀ c i, c < 10 → i < 13 → cl w' c i = cl w c i := fun c i hc hi => hw _ (by omega)
  refine ⟨by rw [hw 0 (by omega)]; exact h0, by rw [hw 6 (by omega)]; exact h6, by rw [hw 8 (by omega)]; exact h8, fun c hcn => ?_⟩
  rw [en] at hcn
  obtain ⟨c1, c2, c3, c4, c5, c6⟩ := hc c hcn
  have hc10 : c < 10 := by omega
  refine ⟨by rw [ec c 0 hc10 (by omega)]; exact c1, by rw [ec c 3 hc10 (by omega)]; exact c2, by rw [ec c 4 hc10 (by omega), hw 0 (by omega)]; exact c3, by rw [ec c 5 hc10 (by omega)]; exact c4, by rw [ec c 5 hc10 (by omega), ec c 6 hc10 (by omega)]; exact c5, fun k hk hl => ?_⟩
  rw [ec c 5 hc10 (by omega)] at hl
  rw [ec c (7 + k) hc10 (by omega)]
  exact c6 k hk hl
/-- a World becomes another -/
theorem sp_become {a b N : Nat} {M : MM} {w : RW} {s : RS} {Q : MM → Prop} (hab : a + 12 ≤ b ∨ b + 12 ≤ a) (h : CW M b w s) (hQ : ∀ M', CW M' a w s → Eqo (fp_World_become a b) M M' → Q M') : W_World_become a b N M Q := by
  refine and_World_become (Q1 := fun M' => CW M' a w s) (fun M' h1 h2 => hQ M' h1 h2) ?_ (an_World_become (Q := fun M' => Eqo (fp_World_become a b) M M') (fun M1 h => h))
  unfold W_World_become W_Log_become
  refine CW_cp h (fun k hk => ?_) (fun i h1 h2 j h8 => ?_) (fun j => ?_) ⟨?_, ?_⟩ (fun j => ?_)
  · have : k = 0 ∨ k = 1 ∨ k = 11 ∨ k = 12 ∨ k = 13 ∨ k = 14 ∨ k = 15 ∨ k = 16 ∨ k = 17 ∨ k = 18 := by omega
    rcases this with rfl | rfl | rfl | rfl | rfl | rfl | rfl | rfl | rfl | rfl <;> simp (disch := omega) only [wi_1n, wi_1e, cp0_1n, cp1_1]
  · have : i = 1 ∨ i = 2 ∨ i = 3 ∨ i = 4 ∨ i = 5 ∨ i = 6 ∨ i = 7 ∨ i = 9 := by omega
    rcases this with rfl | rfl | rfl | rfl | rfl | rfl | rfl | rfl <;> simp (disch := omega) only [wi_1n, cp0_1n, cp0_1e, cp1_1]
  · simp (disch := omega) only [wi_2, cp0_2, cp1_2e, cp1_2n]
  · simp (disch := omega) only [wi_1n, wi_1e, cp0_1n, cp1_1]
  · simp (disch := omega) only [wi_1n, wi_1e, cp0_1n, cp1_1]
  · simp (disch := omega) only [wi_1n, cp0_1n, cp0_1e, cp1_1]
