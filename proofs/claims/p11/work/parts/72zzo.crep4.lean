/-! A REPUBLIC'S TEXT: the class reads it all -/
theorem knd {k : Int32} : k < 11 ∨ 19 < k ∨ k = 11 ∨ k = 12 ∨ k = 13 ∨ k = 14 ∨ k = 15 ∨ k = 16 ∨ k = 17 ∨ k = 18 ∨ k = 19 := by
  by_cases h1 : k < 11
  · exact Or.inl h1
  · by_cases h2 : 19 < k
    · exact Or.inr (Or.inl h2)
    · rw [lt_lit, show (11 : Int32).toInt = 11 from rfl] at h1
      rw [lt_lit, show (19 : Int32).toInt = 19 from rfl] at h2
      have e : k = i32 k.toInt.toNat := i32_of (by omega)
      have hm : k.toInt.toNat = 11 ∨ k.toInt.toNat = 12 ∨ k.toInt.toNat = 13 ∨ k.toInt.toNat = 14 ∨ k.toInt.toNat = 15 ∨ k.toInt.toNat = 16 ∨ k.toInt.toNat = 17 ∨ k.toInt.toNat = 18 ∨ k.toInt.toNat = 19 := by omega
      generalize k.toInt.toNat = m at *
      subst e
      rcases hm with c | c | c | c | c | c | c | c | c <;> subst c <;> decide
section C4
variable {f : BY} {n t i N : Nat} {K V S6 : Nat → Int32} {b e : Nat → Nat} {M M' : MM} {w w' : RW} {s s' : RS} {x : Int32} {Q : Int32 → MM → Prop}
theorem c_rln {F : Nat} {C : Int32} (hS : ∀ i, i ≤ t → (S6 i = 2 ↔ sz b e i = 2)) (hT : TKS f n t K V b e) (hF : 400 < F) (hx : x - 1 = C) (h : CST t K V S6 x M i w s) (hw : WF w) (hi : i ≤ t) (hQ : ∀ r M', COK t K V S6 x (pRL K V (sz b e) C F (w, s) i) r M' → Q r M') : W_RepublicReader_readLine N M Q := by
  obtain ⟨e0, hle, ei⟩ := nC_i hw
  unfold W_RepublicReader_readLine W_Text_goOn
  rw [ckd h hT hi, show M.1 30 0 = i32 (nC w) from h.2.2.1.1.1.trans ei]
  unfold pRL at hQ
  dsimp only at hQ
  have bad : (pRL K V (sz b e) C F (w, s) i = (none, i)) → Q 0 M := fun hh => by
    unfold pRL at hh
    dsimp only at hh
    rw [hh] at hQ
    exact hQ 0 M (Or.inr ⟨rfl, i, rfl, hi, h.1⟩)
  unfold pRL at bad
  dsimp only at bad
  have nx : ∀ k : Int32, ¬ k = 21 → K i = k → i + 1 ≤ t := fun k hk hki => tk_lt hT hi (by rw [hki]; exact hk)
  rcases knd (k := K i) with c | c | c | c | c | c | c | c | c | c | c
  · have ne : ∀ k : Int32, ¬ k < 11 → ¬ K i = k := fun k hk hki => hk (by rw [← hki]; exact c)
    have := bad (by rw [if_neg (ne 11 (by decide)), if_neg (ne 15 (by decide)), if_neg (ne 16 (by decide)), if_neg (ne 18 (by decide)), if_neg (ne 19 (by decide)), if_neg (ne 17 (by decide))])
    exact ⟨fun y => absurd y (ne 11 (by decide)), fun _ => ⟨fun _ => this, fun y => absurd c y⟩⟩
  · have ne : ∀ k : Int32, ¬ 19 < k → ¬ K i = k := fun k hk hki => hk (by rw [← hki]; exact c)
    have := bad (by rw [if_neg (ne 11 (by decide)), if_neg (ne 15 (by decide)), if_neg (ne 16 (by decide)), if_neg (ne 18 (by decide)), if_neg (ne 19 (by decide)), if_neg (ne 17 (by decide))])
    exact ⟨fun y => absurd y (ne 11 (by decide)), fun _ => ⟨fun _ => this, fun _ => ⟨fun _ => this, fun y => absurd c y⟩⟩⟩
  · have hlt := nx 11 (by decide) c
    rw [if_pos c] at hQ
    rw [c]
    by_cases h10 : nC w = 10
    · rw [if_pos h10] at hQ
      rw [h10]
      exact ⟨fun _ => ⟨fun y => absurd y (by decide), fun _ => hQ 0 M (Or.inr ⟨rfl, i, rfl, hi, h.1⟩)⟩, fun y => absurd rfl y⟩
    · rw [if_neg h10] at hQ
      have hh : W_RepublicReader_readCitizen N (wi M 3 5 ((M.1 3 5) + 1)) Q := c_cit hS hT hF hx (CST_g h) hw (by omega) (i := i + 1) (by omega) hQ
      refine ⟨fun _ => ⟨fun _ => ⟨fun y => absurd y (by decide), fun _ => ⟨fun y => absurd y (by decide), fun _ => ⟨fun y => absurd y (by decide), fun _ => ⟨fun y => absurd y (by decide), fun _ => ⟨fun y => absurd y (by decide), fun _ => ?_⟩⟩⟩⟩⟩, fun y => absurd ((i32_lt (j := nC w) (k := 10) (by omega) (by omega)).mpr (by omega)) y⟩, fun y => absurd rfl y⟩
      exact ⟨fun _ => hh, fun y => absurd y (by decide), fun y => absurd y (by decide), fun y => absurd y (by decide), fun y => absurd y (by decide), fun y => absurd rfl y⟩
  · have := bad (by rw [c]; rfl)
    rw [c]
    exact ⟨fun y => absurd y (by decide), fun _ => ⟨fun y => absurd y (by decide), fun _ => ⟨fun y => absurd y (by decide), fun _ => ⟨fun _ => this, fun y => absurd rfl y⟩⟩⟩⟩
  · have := bad (by rw [c]; rfl)
    rw [c]
    exact ⟨fun y => absurd y (by decide), fun _ => ⟨fun y => absurd y (by decide), fun _ => ⟨fun y => absurd y (by decide), fun _ => ⟨fun y => absurd y (by decide), fun _ => ⟨fun _ => this, fun y => absurd rfl y⟩⟩⟩⟩⟩
  · have := bad (by rw [c]; rfl)
    rw [c]
    exact ⟨fun y => absurd y (by decide), fun _ => ⟨fun y => absurd y (by decide), fun _ => ⟨fun y => absurd y (by decide), fun _ => ⟨fun y => absurd y (by decide), fun _ => ⟨fun y => absurd y (by decide), fun _ => ⟨fun _ => this, fun y => absurd rfl y⟩⟩⟩⟩⟩⟩
  · have hlt := nx 15 (by decide) c
    rw [if_neg (show ¬ K i = 11 by rw [c]; decide), if_pos c] at hQ
    rw [c]
    have hh := c_wat (N := N) hT (CST_g h) (i := i + 1) (by omega) hQ
    exact ⟨fun y => absurd y (by decide), fun _ => ⟨fun y => absurd y (by decide), fun _ => ⟨fun y => absurd y (by decide), fun _ => ⟨fun y => absurd y (by decide), fun _ => ⟨fun y => absurd y (by decide), fun _ => ⟨fun y => absurd y (by decide), fun _ => ⟨fun y => absurd y (by decide), fun _ => hh, fun y => absurd y (by decide), fun y => absurd y (by decide), fun y => absurd y (by decide), fun _ y => absurd rfl y⟩⟩⟩⟩⟩⟩⟩
  · have hlt := nx 16 (by decide) c
    rw [if_neg (show ¬ K i = 11 by rw [c]; decide), if_neg (show ¬ K i = 15 by rw [c]; decide), if_pos c] at hQ
    rw [c]
    have hh := c_ter (N := N) hT (CST_g h) (i := i + 1) (by omega) hQ
    exact ⟨fun y => absurd y (by decide), fun _ => ⟨fun y => absurd y (by decide), fun _ => ⟨fun y => absurd y (by decide), fun _ => ⟨fun y => absurd y (by decide), fun _ => ⟨fun y => absurd y (by decide), fun _ => ⟨fun y => absurd y (by decide), fun _ => ⟨fun y => absurd y (by decide), fun y => absurd y (by decide), fun _ => hh, fun y => absurd y (by decide), fun y => absurd y (by decide), fun _ _ y => absurd rfl y⟩⟩⟩⟩⟩⟩⟩
  · have hlt := nx 17 (by decide) c
    rw [if_neg (show ¬ K i = 11 by rw [c]; decide), if_neg (show ¬ K i = 15 by rw [c]; decide), if_neg (show ¬ K i = 16 by rw [c]; decide), if_neg (show ¬ K i = 18 by rw [c]; decide), if_neg (show ¬ K i = 19 by rw [c]; decide), if_pos c] at hQ
    rw [c]
    have hh := c_har (N := N) hT (CST_g h) (i := i + 1) (by omega) hQ
    exact ⟨fun y => absurd y (by decide), fun _ => ⟨fun y => absurd y (by decide), fun _ => ⟨fun y => absurd y (by decide), fun _ => ⟨fun y => absurd y (by decide), fun _ => ⟨fun y => absurd y (by decide), fun _ => ⟨fun y => absurd y (by decide), fun _ => ⟨fun y => absurd y (by decide), fun y => absurd y (by decide), fun y => absurd y (by decide), fun _ => hh, fun y => absurd y (by decide), fun _ _ _ y => absurd rfl y⟩⟩⟩⟩⟩⟩⟩
  · have hlt := nx 18 (by decide) c
    rw [if_neg (show ¬ K i = 11 by rw [c]; decide), if_neg (show ¬ K i = 15 by rw [c]; decide), if_neg (show ¬ K i = 16 by rw [c]; decide), if_pos c] at hQ
    rw [c]
    have hh := c_wed (N := N) hT (CST_g h) hw (i := i + 1) (by omega) hQ
    exact ⟨fun y => absurd y (by decide), fun _ => ⟨fun y => absurd y (by decide), fun _ => ⟨fun y => absurd y (by decide), fun _ => ⟨fun y => absurd y (by decide), fun _ => ⟨fun y => absurd y (by decide), fun _ => ⟨fun y => absurd y (by decide), fun _ => ⟨fun y => absurd y (by decide), fun y => absurd y (by decide), fun y => absurd y (by decide), fun y => absurd y (by decide), fun _ => hh, fun _ _ _ _ y => absurd rfl y⟩⟩⟩⟩⟩⟩⟩
  · have hlt := nx 19 (by decide) c
    rw [if_neg (show ¬ K i = 11 by rw [c]; decide), if_neg (show ¬ K i = 15 by rw [c]; decide), if_neg (show ¬ K i = 16 by rw [c]; decide), if_neg (show ¬ K i = 18 by rw [c]; decide), if_pos c] at hQ
    rw [c]
    have hh := c_sen (N := N) hS hT (CST_g h) hw (i := i + 1) (by omega) hQ
    exact ⟨fun y => absurd y (by decide), fun _ => ⟨fun y => absurd y (by decide), fun _ => ⟨fun y => absurd y (by decide), fun _ => ⟨fun y => absurd y (by decide), fun _ => ⟨fun y => absurd y (by decide), fun _ => ⟨fun y => absurd y (by decide), fun _ => ⟨fun y => absurd y (by decide), fun y => absurd y (by decide), fun y => absurd y (by decide), fun y => absurd y (by decide), fun y => absurd y (by decide), fun _ _ _ _ _ => hh⟩⟩⟩⟩⟩⟩⟩
theorem c_all0 {F : Nat} {C : Int32} (hS : ∀ i, i ≤ t → (S6 i = 2 ↔ sz b e i = 2)) (hT : TKS f n t K V b e) (hF : 400 < F) (hx : x - 1 = C) (h : CST t K V S6 x M 0 w s) (hw : WF w) (hQ : ∀ r M', ((∃ q j, pRep K V (sz b e) C F (w, s) = (some q, j) ∧ r = -1 ∧ CW M' 30 q.1 q.2) ∨ (∃ j, pRep K V (sz b e) C F (w, s) = (none, j) ∧ j ≤ t ∧ r = V_Text_begin M' ∧ TKc M' t K V j)) → Q r M') : W_RepublicReader_readAll N M Q := by
  have ht := hT.1
  unfold W_RepublicReader_readAll
  rw [ckd h hT (by omega)]
  refine ⟨fun hk => ?_, fun hk => ?_⟩
  · refine hQ _ _ (Or.inl ⟨(w, s), 0, ?_, rfl, h.2.2.1⟩)
    unfold pRep
    rw [if_pos hk]
  · have hpc : pRep K V (sz b e) C F (w, s) = pRs K V (sz b e) C F 14 (w, s) 0 := by
      unfold pRep
      rw [if_neg hk]
    rw [hpc] at hQ
    refine I_RepublicReader_readAll_16 Q (fun v M' => ∃ (m k : Nat) (q : WRS) (i : Nat), k + m = 14 ∧ v = i32 k ∧ i ≤ t ∧ CST t K V S6 x M' i q.1 q.2 ∧ WF q.1 ∧ pRs K V (sz b e) C F 14 (w, s) 0 = pRs K V (sz b e) C F m q i) (fun N ih v M' hih hv => ?_) N _ _ ⟨14, 0, (w, s), 0, rfl, rfl, by omega, h, hw, rfl⟩
    obtain ⟨m, k, q, i, k1, rfl, k2, k3, k5, k8⟩ := hv
    unfold B_RepublicReader_readAll_16
    refine ⟨fun hl => ?_, fun hl => ?_⟩
    · have hk14 : k < 14 := (i32_lt (k := 14) (by omega) (by omega)).mp hl
      obtain ⟨m2, rfl⟩ : ∃ m2, m = m2 + 1 := ⟨m - 1, by omega⟩
      have hpr : pRs K V (sz b e) C F (m2 + 1) q i = (match pRL K V (sz b e) C F (q.1, q.2) i with
        | (none, j) => (none, j)
        | (some q', j) => if K j = 21 then (some q', j) else if K j = 59 then pRs K V (sz b e) C F m2 q' (j + 1) else (none, j)) := rfl
      refine c_rln hS hT hF hx k3 k5 k2 (fun r M4 hr => ?_)
      rcases hr with ⟨rfl, q', j, j1, j2, j3⟩ | ⟨rfl, j, j1, j2, j3⟩
      · refine ⟨fun x => absurd x (by decide), fun _ => ?_⟩
        have hW := pRL_ok (q := (q.1, q.2)) hT k2 k5 j1
        rw [j1] at hpr
        have k8' : pRs K V (sz b e) C F 14 (w, s) 0 = (if K j = 21 then (some q', j) else if K j = 59 then pRs K V (sz b e) C F m2 q' (j + 1) else (none, j)) := k8.trans hpr
        rw [ckd j3 hT j2]
        refine ⟨fun h21 => ?_, fun h21 => ⟨fun h59 => ?_, fun h59 => ?_⟩⟩
        · rw [if_pos h21] at k8'
          exact hQ _ _ (Or.inl ⟨q', j, k8', rfl, j3.2.2.1⟩)
        · rw [if_neg h21, if_pos h59] at k8'
          have hlt := tk_lt hT j2 h21
          unfold W_Text_goOn
          exact hih _ _ ⟨m2, k + 1, q', j + 1, by omega, i32_s k, by omega, CST_g j3, hW.1, k8'⟩
        · rw [if_neg h21, if_neg h59] at k8'
          exact hQ _ _ (Or.inr ⟨j, k8', j2, rfl, j3.1⟩)
      · rw [j1] at hpr
        exact ⟨fun _ => hQ _ _ (Or.inr ⟨j, k8.trans hpr, j2, rfl, j3⟩), fun x => absurd rfl x⟩
    · have : ¬ k < 14 := fun e => hl ((i32_lt (j := k) (k := 14) (by omega) (by omega)).mpr e)
      obtain rfl : m = 0 := by omega
      exact hQ _ _ (Or.inr ⟨i, k8, k2, rfl, k3.1⟩)
end C4
