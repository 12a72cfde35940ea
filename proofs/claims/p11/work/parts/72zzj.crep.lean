/-! A REPUBLIC'S TEXT: the class reads it -/
section ROWS
variable {w w' : RW} {s s' : RS} {c v k k' j a : Nat} {x y : Int32} {M : MM}
theorem up1_cm (h : ¬ k = k') : up1 (up1 w k x) k' y = up1 (up1 w k' y) k x := by
  funext j
  show (if j = k' then y else if j = k then x else w j) = (if j = k then x else if j = k' then y else w j)
  by_cases h1 : j = k
  · have h2 : ¬ j = k' := by omega
    simp only [if_pos h1, if_neg h2]
  · simp only [if_neg h1]
theorem up1_u : up1 (up1 w k x) k y = up1 w k y := by
  funext j
  unfold up1
  by_cases h1 : j = k
  · rw [if_pos h1, if_pos h1]
  · rw [if_neg h1, if_neg h1, if_neg h1]
/-- as the class has it: the length so far, the citizen counted -/
def clR (w : RW) (c v : Nat) : RW := up1 (up1 w (18 + 13 * c + 5) (i32 v)) 0 (i32 (c + 1))
theorem clR_n (hc : c < 10) : nC (clR w c v) = c + 1 := by
  unfold nC clR
  rw [up1_e, ni_i (by omega)]
theorem clR_h (hv : v < 6) : up1 (up1 (clR w c v) (18 + 13 * c + (7 + v)) x) (18 + 13 * c + 5) (i32 (v + 1)) = clR (up1 w (18 + 13 * c + (7 + v)) x) c (v + 1) := by
  unfold clR
  rw [up1_cm (k := 0) (k' := 18 + 13 * c + (7 + v)) (by omega), up1_cm (k := 18 + 13 * c + 5) (k' := 18 + 13 * c + (7 + v)) (by omega), up1_cm (k := 0) (k' := 18 + 13 * c + 5) (by omega), up1_u]
theorem CW_hb {m : Int32} (h : CW M a w s) (hn : nC w ≤ 10) (hc : c < nC w) (hl : cl w c 5 = i32 v) (hv : v < 6) : CW (wi (wi M (a + 5) (6 * c + v) m) (a + 6) c (i32 (v + 1))) a (up1 (up1 w (18 + 13 * c + (7 + v)) m) (18 + 13 * c + 5) (i32 (v + 1))) s := by
  obtain ⟨⟨a0, a1, a2, a3, a4, a5, a6, a7, a8⟩, b1, b2, b3, b4⟩ := h
  have en : nC (up1 (up1 w (18 + 13 * c + (7 + v)) m) (18 + 13 * c + 5) (i32 (v + 1))) = nC w := by unfold nC; rw [up1_n (by omega), up1_n (by omega)]
  have ck : ∀ c' i, c' ≠ c ∨ (i < 5 ∨ i = 6) → i < 13 → cl (up1 (up1 w (18 + 13 * c + (7 + v)) m) (18 + 13 * c + 5) (i32 (v + 1))) c' i = cl w c' i := fun c' i h1 h2 => by
    rw [cl_up (by omega) h2, if_neg (by omega), cl_up (by omega) h2, if_neg (by omega)]
  refine ⟨?_, fun d' hd' => ?_, ?_, fun c' hc' => ?_, ?_⟩
  · unfold CWs
    simp (disch := omega) only [wi_1n, up1_n, a0, a1, a2, a3, a4, a5, a6, a7, a8, and_self]
  · rw [wi_1n (by omega), wi_1n (by omega), up1_n (by omega), up1_n (by omega)]
    exact b1 d' hd'
  · rw [wi_1n (by omega), wi_1n (by omega), en, b2]
    exact bs_congr (fun k' _ => by unfold alv; rw [ck _ _ (by omega) (by omega)])
  · rw [en] at hc'
    by_cases e : c' = c
    · subst e
      obtain ⟨c1, c2, c3, c4, c5, c6, c7, c8⟩ := b3 c' hc'
      refine ⟨?_, ?_, ?_, ?_, ?_, ?_, fun k hk' hl' => ?_, c8⟩
      · rw [ck _ _ (by omega) (by omega), wi_1n (by omega), wi_1n (by omega)]; exact c1
      · rw [ck _ _ (by omega) (by omega), wi_1n (by omega), wi_1n (by omega)]; exact c2
      · rw [ck _ _ (by omega) (by omega), wi_1n (by omega), wi_1n (by omega)]; exact c3
      · rw [ck _ _ (by omega) (by omega), wi_1n (by omega), wi_1n (by omega)]; exact c4
      · rw [cl_up (by omega) (by omega), if_pos ⟨rfl, rfl⟩, wi_1e]
      · rw [ck _ _ (by omega) (by omega), wi_1n (by omega), wi_1n (by omega)]; exact c6
      · rw [cl_up (by omega) (by omega), if_pos ⟨rfl, rfl⟩, i32_i (by omega)] at hl'
        rw [cl_up (by omega) (by omega), if_neg (by omega), cl_up (by omega) (by omega), wi_1n (by omega)]
        by_cases e : k = v
        · subst e
          rw [wi_1e, if_pos ⟨rfl, rfl⟩]
        · rw [wi_1n (by omega), if_neg (by omega)]
          exact c7 k hk' (by rw [hl, i32_i (by omega)]; omega)
    · exact CWc_fr (b3 c' hc') (fun i' _ => by rw [wi_1n (by omega), wi_1n (by omega)]) (fun k' _ => by rw [wi_1n (by omega), wi_1n (by omega)]) rfl (fun i' hi' => ck _ _ (Or.inl e) hi') rfl
  · exact CWl_fr b4 (by rw [wi_1n (by omega), wi_1n (by omega)]) (by rw [wi_1n (by omega), wi_1n (by omega)]) (fun j => by rw [wi_1n (by omega), wi_1n (by omega)]) (by rw [up1_n (by omega), up1_n (by omega)]) (fun k' _ _ => by rw [up1_n (by omega), up1_n (by omega)])
theorem acW_o {c' i : Nat} (hc : c' ≠ c) (hi : i < 13) : cl (clR (citW w c x) c 0) c' i = cl w c' i := by
  unfold clR citW
  rw [cl_lo (by omega), cl_up (by omega) hi, if_neg (by omega), cl_up (by omega) hi, if_neg (by omega), cl_up (by omega) hi, if_neg (by omega), cl_up (by omega) hi, if_neg (by omega)]
  unfold cl zrow
  rw [if_neg (by omega)]
theorem cit_n {i : Nat} (hi : i < 13) : cl (citW w c x) c i = if i = 2 then x else if i = 4 then -1 else if i = 0 then 1 else 0 := by
  unfold citW
  rw [cl_up (by omega) hi]
  by_cases h2 : i = 2
  · rw [if_pos ⟨rfl, h2⟩, if_pos h2]
  · rw [if_neg (by omega), if_neg h2, cl_up (by omega) hi]
    by_cases h4 : i = 4
    · rw [if_pos ⟨rfl, h4⟩, if_pos h4]
    · rw [if_neg (by omega), if_neg h4, cl_up (by omega) hi]
      by_cases h0 : i = 0
      · rw [if_pos ⟨rfl, h0⟩, if_pos h0]
      · rw [if_neg (by omega), if_neg h0]
        unfold cl zrow
        rw [if_pos (by omega)]
theorem acW_n {i : Nat} (hi : i < 13) : cl (clR (citW w c x) c 0) c i = if i = 2 then x else if i = 4 then -1 else if i = 0 then 1 else 0 := by
  unfold clR
  rw [cl_lo (by omega), cl_up (by omega) hi]
  by_cases h5 : i = 5
  · rw [if_pos ⟨rfl, h5⟩, if_neg (by omega), if_neg (by omega), if_neg (by omega)]; rfl
  · rw [if_neg (by omega)]
    exact cit_n hi
theorem cit_k {k : Nat} (hk : k < 18 + 13 * c ∨ 18 + 13 * c + 13 ≤ k) : citW w c x k = w k := by
  unfold citW
  rw [up1_n (by omega), up1_n (by omega), up1_n (by omega)]
  unfold zrow
  rw [if_neg (by omega)]
theorem acW_k {k : Nat} (h0 : k ≠ 0) (hk : k < 18 + 13 * c ∨ 18 + 13 * c + 13 ≤ k) : clR (citW w c x) c 0 k = w k := by
  unfold clR
  rw [up1_n h0, up1_n (by omega), cit_k hk]
theorem c_addC {N : Nat} {Q : Int32 → MM → Prop} (h : CW M a w s) (hw : WF w) (hn : nC w < 10) (hQ : ∀ M', CW M' a (clR (citW w (nC w) x) (nC w) 0) (us s (nC w) (Int64.ofNat 0)) → Eqo (fp_World_addCitizen a) M M' → Q (i32 (nC w)) M') : W_World_addCitizen a x N M Q := by
  obtain ⟨e0, -, ei⟩ := nC_i hw
  refine and_World_addCitizen (Q1 := fun r M' => r = i32 (nC w) ∧ CW M' a (clR (citW w (nC w) x) (nC w) 0) (us s (nC w) (Int64.ofNat 0))) (fun r M' h1 h2 => by rw [h1.1]; exact hQ M' h1.2 h2) ?_ (an_World_addCitizen (Q := fun r M' => Eqo (fp_World_addCitizen a) M M') (fun r M1 h => h))
  unfold W_World_addCitizen
  rw [h.1.1, ei]
  refine ⟨fun _ => ⟨rfl, ?_⟩, fun hbad => absurd ((i32_lt (k := 10) (by omega) (by omega)).mpr hn) hbad⟩
  rw [wi_1n (by omega), h.2.2.1, ni_i (show nC w < 2147483648 by omega), i32_s]
  generalize hc : nC w = c at *
  obtain ⟨⟨a0, a1, a2, a3, a4, a5, a6, a7, a8⟩, q1, q2, q3, q4, q5, q6⟩ := h
  have b1 := clR_n (w := citW w c x) (v := 0) hn
  refine ⟨⟨?_, ?_, ?_, ?_, ?_, ?_, ?_, ?_, ?_⟩, fun d hd => ?_, ?_, fun c' hc' => ?_, ?_, ?_, fun k q hk hl hq => ?_⟩
  · simp (disch := omega) only [wj_1, wi_1n, wi_1e]
    unfold clR
    rw [up1_e]
  · rw [acW_k (by omega) (by omega)]
    simp (disch := omega) only [wj_1, wi_1n]
    exact a1
  · rw [acW_k (by omega) (by omega)]
    simp (disch := omega) only [wj_1, wi_1n]
    exact a2
  · rw [acW_k (by omega) (by omega)]
    simp (disch := omega) only [wj_1, wi_1n]
    exact a3
  · rw [acW_k (by omega) (by omega)]
    simp (disch := omega) only [wj_1, wi_1n]
    exact a4
  · rw [acW_k (by omega) (by omega)]
    simp (disch := omega) only [wj_1, wi_1n]
    exact a5
  · rw [acW_k (by omega) (by omega)]
    simp (disch := omega) only [wj_1, wi_1n]
    exact a6
  · rw [acW_k (by omega) (by omega)]
    simp (disch := omega) only [wj_1, wi_1n]
    exact a7
  · rw [acW_k (by omega) (by omega)]
    simp (disch := omega) only [wj_1, wi_1n]
    exact a8
  · rw [acW_k (by omega) (by omega)]
    simp (disch := omega) only [wj_1, wi_1n]
    exact q1 d hd
  · rw [b1, bs_s]
    simp (disch := omega) only [wj_1, wi_1n, wi_1e]
    rw [if_pos (by unfold alv; rw [acW_n (by omega)]; rfl), bs_congr (P := alv (clR (citW w c x) c 0)) (P' := alv w) (fun k hk => by unfold alv; rw [acW_o (by omega) (by omega)])]
  · rw [b1] at hc'
    by_cases e : c' = c
    · subst e
      refine ⟨?_, ?_, ?_, ?_, ?_, ?_, fun k hk hl => ?_, ?_⟩
      · rw [acW_n (by omega)]
        simp (disch := omega) only [wj_1, wi_1n, wi_1e]
        rfl
      · rw [acW_n (by omega)]
        simp (disch := omega) only [wj_1, wi_1n, wi_1e]
        rfl
      · rw [acW_n (by omega)]
        simp (disch := omega) only [wj_1, wi_1n, wi_1e]
        rfl
      · rw [acW_n (by omega)]
        simp (disch := omega) only [wj_1, wi_1n, wi_1e]
        rfl
      · rw [acW_n (by omega)]
        simp (disch := omega) only [wj_1, wi_1n, wi_1e]
        rfl
      · rw [acW_n (by omega)]
        simp (disch := omega) only [wj_1, wi_1n, wi_1e]
        rfl
      · rw [acW_n (by omega)] at hl
        exact absurd hl (by show ¬ (k : Int) < (0 : Int32).toInt; rw [show (0 : Int32).toInt = 0 from rfl]; omega)
      · rw [wj_2e]
        unfold us
        rw [if_pos rfl]
    · refine CWc_fr (q3 c' (by omega)) (fun i hi => ?_) (fun k hk => ?_) ?_ (fun i hi => acW_o (by omega) hi) ?_
      · simp (disch := omega) only [wj_1, wi_1n]
      · simp (disch := omega) only [wj_1, wi_1n]
      · rw [wj_2n (by omega)]
        rfl
      · unfold us
        rw [if_neg e]
  · rw [acW_k (by omega) (by omega)]
    simp (disch := omega) only [wj_1, wi_1n]
    exact q4
  · simp (disch := omega) only [wj_1, wi_1n]
    exact q5
  · rw [acW_k (by omega) (by omega)] at hl
    rw [acW_k (by omega) (by omega)]
    simp (disch := omega) only [wj_1, wi_1n]
    exact q6 k q hk hl hq
end ROWS
