/-! WHAT A WRITE DOES TO BOTH -/
section UPD
variable {w : RW} {k j c i c' i' : Nat} {x : Int32}
theorem up1_n (h : ¬ j = k) : up1 w k x j = w j := if_neg h
theorem up1_e : up1 w k x k = x := if_pos rfl
theorem cl_lo (hk : k < 18) : cl (up1 w k x) c i = cl w c i := up1_n (by omega)
theorem cl_up (hi : i < 13) (hi' : i' < 13) : cl (up1 w (18 + 13 * c + i) x) c' i' = if c' = c ∧ i' = i then x else cl w c' i' := by
  unfold cl
  by_cases h : c' = c ∧ i' = i
  · obtain ⟨rfl, rfl⟩ := h
    rw [if_pos ⟨rfl, rfl⟩, up1_e]
  · rw [if_neg h, up1_n (by omega)]
end UPD
section UPW
variable {M M' : MM} {a : Nat} {w w' : RW} {s s' : RS} {x : Int32}
theorem CWc_fr {c : Nat} (h : CWc M a w s c) (h1 : ∀ i, i = 1 ∨ i = 2 ∨ i = 3 ∨ i = 4 ∨ i = 6 ∨ i = 7 → M'.1 (a + i) c = M.1 (a + i) c) (h5 : ∀ k, k < 6 → M'.1 (a + 5) (6 * c + k) = M.1 (a + 5) (6 * c + k)) (h8 : M'.2 (a + 8) c = M.2 (a + 8) c) (hw : ∀ i, i < 13 → cl w' c i = cl w c i) (hs : s' c = s c) : CWc M' a w' s' c := by
  obtain ⟨c1, c2, c3, c4, c5, c6, c7, c8⟩ := h
  refine ⟨?_, ?_, ?_, ?_, ?_, ?_, fun k hk hl => ?_, ?_⟩
  · rw [h1 1 (by omega), hw 1 (by omega)]; exact c1
  · rw [h1 2 (by omega), hw 2 (by omega)]; exact c2
  · rw [h1 3 (by omega), hw 3 (by omega)]; exact c3
  · rw [h1 4 (by omega), hw 4 (by omega)]; exact c4
  · rw [h1 6 (by omega), hw 5 (by omega)]; exact c5
  · rw [h1 7 (by omega), hw 6 (by omega)]; exact c6
  · rw [hw 5 (by omega)] at hl
    rw [h5 k hk, hw (7 + k) (by omega)]; exact c7 k hk hl
  · rw [h8, hs]; exact c8
theorem CWl_fr (h : CWl M a w) (h1 : M'.1 (a + 10) 1 = M.1 (a + 10) 1) (h2 : M'.1 (a + 10) 2 = M.1 (a + 10) 2) (h3 : ∀ j, M'.1 (a + 10 + 1) j = M.1 (a + 10 + 1) j) (h6 : w' 6 = w 6) (hw : ∀ k, 148 ≤ k → k < 388 → w' k = w k) : CWl M' a w' := by
  obtain ⟨b4, b5, b6⟩ := h
  refine ⟨by rw [h1, h6]; exact b4, by rw [h2]; exact b5, fun k q hk hl hq => ?_⟩
  rw [h6] at hl
  rw [h2, h3, hw _ (by omega) (by omega)]
  exact b6 k q hk hl hq
/-- one of the numbers of all -/
theorem CW_sc {fa k : Nat} (h : CW M a w s) (hk : (fa = 15 ∧ k = 1) ∨ (fa = 13 ∧ k = 2) ∨ (fa = 16 ∧ k = 3) ∨ (fa = 17 ∧ k = 4) ∨ (fa = 18 ∧ k = 5) ∨ (fa = 11 ∧ k = 7) ∨ (fa = 12 ∧ k = 8) ∨ (fa = 14 ∧ k = 9)) : CW (wi M a fa x) a (up1 w k x) s := by
  obtain ⟨⟨a0, a1, a2, a3, a4, a5, a6, a7, a8⟩, b1, b2, b3, b4⟩ := h
  have en : nC (up1 w k x) = nC w := by unfold nC; rw [up1_n (by omega)]
  refine ⟨?_, fun d hd => ?_, ?_, fun c hc => ?_, ?_⟩
  · unfold CWs
    rcases hk with ⟨rfl, rfl⟩ | ⟨rfl, rfl⟩ | ⟨rfl, rfl⟩ | ⟨rfl, rfl⟩ | ⟨rfl, rfl⟩ | ⟨rfl, rfl⟩ | ⟨rfl, rfl⟩ | ⟨rfl, rfl⟩ <;> simp (disch := omega) only [wi_1n, wi_1e, up1_n, up1_e, a0, a1, a2, a3, a4, a5, a6, a7, a8, and_self]
  · rw [wi_1n (by omega), up1_n (by omega)]
    exact b1 d hd
  · rw [wi_1n (by omega), en, b2]
    exact bs_congr (fun k' _ => by unfold alv; rw [cl_lo (by omega)])
  · rw [en] at hc
    exact CWc_fr (b3 c hc) (fun i _ => wi_1n (by omega)) (fun k' _ => wi_1n (by omega)) rfl (fun i _ => cl_lo (by omega)) rfl
  · exact CWl_fr b4 (wi_1n (by omega)) (wi_1n (by omega)) (fun j => wi_1n (by omega)) (up1_n (by omega)) (fun k' _ _ => up1_n (by omega))
/-- the harm of a deed -/
theorem CW_hm {d : Nat} (h : CW M a w s) (hd : d < 8) : CW (wi M (a + 9) d x) a (up1 w (10 + d) x) s := by
  obtain ⟨⟨a0, a1, a2, a3, a4, a5, a6, a7, a8⟩, b1, b2, b3, b4⟩ := h
  have en : nC (up1 w (10 + d) x) = nC w := by unfold nC; rw [up1_n (by omega)]
  refine ⟨?_, fun d' hd' => ?_, ?_, fun c hc => ?_, ?_⟩
  · unfold CWs
    simp (disch := omega) only [wi_1n, up1_n, a0, a1, a2, a3, a4, a5, a6, a7, a8, and_self]
  · by_cases e : d' = d
    · subst e
      rw [wi_1e, up1_e]
    · rw [wi_1n (by omega), up1_n (by omega)]
      exact b1 d' hd'
  · rw [wi_1n (by omega), en, b2]
    exact bs_congr (fun k' _ => by unfold alv; rw [cl_lo (by omega)])
  · rw [en] at hc
    exact CWc_fr (b3 c hc) (fun i _ => wi_1n (by omega)) (fun k' _ => wi_1n (by omega)) rfl (fun i _ => cl_lo (by omega)) rfl
  · exact CWl_fr b4 (wi_1n (by omega)) (wi_1n (by omega)) (fun j => wi_1n (by omega)) (up1_n (by omega)) (fun k' _ _ => up1_n (by omega))
/-- something of a citizen -/
theorem CW_ct {c ar i : Nat} (h : CW M a w s) (hn : nC w ≤ 10) (hc : c < nC w) (hk : (ar = 1 ∧ i = 1) ∨ (ar = 2 ∧ i = 2) ∨ (ar = 3 ∧ i = 3) ∨ (ar = 4 ∧ i = 4) ∨ (ar = 7 ∧ i = 6)) : CW (wi M (a + ar) c x) a (up1 w (18 + 13 * c + i) x) s := by
  obtain ⟨⟨a0, a1, a2, a3, a4, a5, a6, a7, a8⟩, b1, b2, b3, b4⟩ := h
  have en : nC (up1 w (18 + 13 * c + i) x) = nC w := by unfold nC; rw [up1_n (by omega)]
  refine ⟨?_, fun d' hd' => ?_, ?_, fun c' hc' => ?_, ?_⟩
  · unfold CWs
    simp (disch := omega) only [wi_1n, up1_n, a0, a1, a2, a3, a4, a5, a6, a7, a8, and_self]
  · rw [wi_1n (by omega), up1_n (by omega)]
    exact b1 d' hd'
  · rw [wi_1n (by omega), en, b2]
    exact bs_congr (fun k' _ => by unfold alv; rw [cl_up (by omega) (by omega), if_neg (by omega)])
  · rw [en] at hc'
    by_cases e : c' = c
    · subst e
      obtain ⟨c1, c2, c3, c4, c5, c6, c7, c8⟩ := b3 c' hc'
      refine ⟨?_, ?_, ?_, ?_, ?_, ?_, fun k hk' hl => ?_, c8⟩
      · rw [cl_up (by omega) (by omega)]
        by_cases e : ar = 1
        · subst e; rw [wi_1e, if_pos (by omega)]
        · rw [wi_1n (by omega), if_neg (by omega)]; exact c1
      · rw [cl_up (by omega) (by omega)]
        by_cases e : ar = 2
        · subst e; rw [wi_1e, if_pos (by omega)]
        · rw [wi_1n (by omega), if_neg (by omega)]; exact c2
      · rw [cl_up (by omega) (by omega)]
        by_cases e : ar = 3
        · subst e; rw [wi_1e, if_pos (by omega)]
        · rw [wi_1n (by omega), if_neg (by omega)]; exact c3
      · rw [cl_up (by omega) (by omega)]
        by_cases e : ar = 4
        · subst e; rw [wi_1e, if_pos (by omega)]
        · rw [wi_1n (by omega), if_neg (by omega)]; exact c4
      · rw [cl_up (by omega) (by omega), wi_1n (by omega), if_neg (by omega)]; exact c5
      · rw [cl_up (by omega) (by omega)]
        by_cases e : ar = 7
        · subst e; rw [wi_1e, if_pos (by omega)]
        · rw [wi_1n (by omega), if_neg (by omega)]; exact c6
      · rw [cl_up (by omega) (by omega), if_neg (by omega)] at hl
        rw [cl_up (by omega) (by omega), wi_1n (by omega), if_neg (by omega)]; exact c7 k hk' hl
    · exact CWc_fr (b3 c' hc') (fun i' _ => wi_1n (by omega)) (fun k' _ => wi_1n (by omega)) rfl (fun i' _ => by rw [cl_up (by omega) (by omega), if_neg (by omega)]) rfl
  · exact CWl_fr b4 (wi_1n (by omega)) (wi_1n (by omega)) (fun j => wi_1n (by omega)) (up1_n (by omega)) (fun k' _ _ => up1_n (by omega))
def us (s : RS) (c : Nat) (y : Int64) : RS := fun j => if j = c then y else s j
/-- what one has seen -/
theorem CW_sn {c : Nat} {y : Int64} (h : CW M a w s) : CW (wj M (a + 8) c y) a w (us s c y) := by
  obtain ⟨b0, b1, b2, b3, b4⟩ := h
  refine ⟨b0, b1, b2, fun c' hc' => ?_, b4⟩
  obtain ⟨c1, c2, c3, c4, c5, c6, c7, c8⟩ := b3 c' hc'
  refine ⟨c1, c2, c3, c4, c5, c6, c7, ?_⟩
  unfold us
  by_cases e : c' = c
  · subst e; rw [wj_2e, if_pos rfl]
  · rw [wj_2n (by omega), if_neg e]; exact c8
/-- what stays right -/
theorem WF_sc {k : Nat} (h : WF w) (hk : k < 18) (h0 : k ≠ 0) (h6 : k ≠ 6) (h8 : k ≠ 8) : WF (up1 w k x) := by
  have en : nC (up1 w k x) = nC w := by unfold nC; rw [up1_n (by omega)]
  obtain ⟨g0, g6, g8, hc⟩ := h
  refine ⟨by rw [up1_n (by omega)]; exact g0, by rw [up1_n (by omega)]; exact g6, by rw [up1_n (by omega)]; exact g8, fun c hcn => ?_⟩
  rw [en] at hcn
  have := hc c hcn
  unfold WFc at this ⊢
  simp only [cl_lo hk]
  rw [up1_n (by omega)]
  exact this
end UPW
