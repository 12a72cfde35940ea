/-! A REPUBLIC'S TEXT: what stays right -/
section RK
variable {f : BY} {n t : Nat} {K V : Nat → Int32} {b e : Nat → Nat}
theorem som {α : Type} {a b : α} {i j : Nat} (h : ((some a, i) : Option α × Nat) = (some b, j)) : a = b ∧ i = j := by
  have h1 : some a = some b := congrArg Prod.fst h
  have h2 : i = j := congrArg Prod.snd h
  injection h1 with h1
  exact ⟨h1, h2⟩
theorem non {α : Type} {b : α} {i j : Nat} {P : Prop} (h : ((none, i) : Option α × Nat) = (some b, j)) : P := by
  have h1 : none = some b := congrArg Prod.fst h
  cases h1
theorem pHab_ok {c : Nat} (hT : TKS f n t K V b e) : ∀ (k v i : Nat) (w w' : RW) (j : Nat), i ≤ t → k + v = 6 → (∀ y, y < v → 0 ≤ (cl w c (7 + y)).toInt ∧ (cl w c (7 + y)).toInt ≤ 63) → pHab K V (sz b e) c k v i w = (some w', j) → (∀ y, (y < 18 + 13 * c + 5 ∨ 18 + 13 * c + 13 ≤ y ∨ y = 18 + 13 * c + 6) → w' y = w y) ∧ ∃ u, 1 ≤ u ∧ u ≤ 6 ∧ cl w' c 5 = i32 u ∧ ∀ y, y < u → 0 ≤ (cl w' c (7 + y)).toInt ∧ (cl w' c (7 + y)).toInt ≤ 63
  | 0, v, i, w, w', j, hi, hk, he, h => non h
  | k + 1, v, i, w, w', j, hi, hk, he, h => by
    unfold pHab at h
    by_cases hm : mtq K V (sz b e) i = true
    · rw [if_pos hm] at h
      obtain ⟨m1, m2, m3, m4, m5, -⟩ := mtq_ok hT hi hm
      have he' : ∀ y, y < v + 1 → 0 ≤ (cl (up1 w (18 + 13 * c + (7 + v)) (mtv V i)) c (7 + y)).toInt ∧ (cl (up1 w (18 + 13 * c + (7 + v)) (mtv V i)) c (7 + y)).toInt ≤ 63 := fun y hy => by
        rw [cl_up (by omega) (by omega)]
        by_cases c1 : y = v
        · rw [if_pos (by omega)]; exact ⟨m4, m5⟩
        · rw [if_neg (by omega)]; exact he y (by omega)
      by_cases hk2 : K (i + 1) = 20
      · rw [if_pos hk2] at h
        obtain ⟨r1, r2⟩ := pHab_ok hT k (v + 1) (i + 1) _ w' j (by omega) (by omega) he' h
        exact ⟨fun y hy => (r1 y hy).trans (up1_n (by omega)), r2⟩
      · rw [if_neg hk2] at h
        obtain ⟨rfl, -⟩ := som h
        refine ⟨fun y hy => by rw [up1_n (by omega), up1_n (by omega)], v + 1, by omega, by omega, by rw [cl_up (by omega) (by omega), if_pos ⟨rfl, rfl⟩], fun y hy => ?_⟩
        rw [cl_up (by omega) (by omega), if_neg (by omega)]
        exact he' y hy
    · rw [if_neg hm] at h
      exact non h
theorem pKn_ok {c : Nat} {C : Int32} : ∀ (k i : Nat) (w w' : RW) (j : Nat), pKn K V C c k i w = (some w', j) → ∀ y, y ≠ 18 + 13 * c + 1 → w' y = w y
  | 0, i, w, w', j, h => non h
  | k + 1, i, w, w', j, h => by
    unfold pKn at h
    intro y hy
    by_cases hm : nm K V 0 C i < 0
    · rw [if_pos hm] at h
      exact non h
    · rw [if_neg hm] at h
      by_cases hk2 : K (i + 1) = 20
      · rw [if_pos hk2] at h
        exact (pKn_ok k (i + 1) _ w' j h y hy).trans (up1_n hy)
      · rw [if_neg hk2] at h
        obtain ⟨rfl, -⟩ := som h
        exact up1_n hy
def WKP (w w' : RW) : Prop := WF w' ∧ w' 1 = w 1 ∧ w' 2 = w 2
theorem WF_mor {w w3 : RW} {c u : Nat} (hw : WF w) (hc : nC w = c) (hn : c < 10) (h1 : ∀ y, (y < 18 + 13 * c ∨ 18 + 13 * c + 13 ≤ y) → w3 y = w y) (h0 : cl w3 c 0 = 1) (h3 : cl w3 c 3 = 0) (h4 : cl w3 c 4 = -1) (h6 : cl w3 c 6 = 0) (u1 : 1 ≤ u) (u2 : u ≤ 6) (h5 : cl w3 c 5 = i32 u) (he : ∀ y, y < u → 0 ≤ (cl w3 c (7 + y)).toInt ∧ (cl w3 c (7 + y)).toInt ≤ 63) : WKP w (morW w3) := by
  obtain ⟨e0, -, ei⟩ := nC_i hw
  rw [hc] at ei e0
  have m0 : morW w3 0 = i32 (c + 1) := by
    unfold morW
    rw [up1_e, h1 0 (by omega), ei, i32_s]
  have b1 : nC (morW w3) = c + 1 := by
    unfold nC
    rw [m0, ni_i (by omega)]
  have et : (morW w3 0).toInt = (c : Int) + 1 := by rw [m0, i32_i (by omega)]; omega
  have mk : ∀ y, y ≠ 0 → morW w3 y = w3 y := fun y hy => up1_n hy
  have mc : ∀ c' i, cl (morW w3) c' i = cl w3 c' i := fun c' i => mk _ (by omega)
  obtain ⟨g0, g6, g8, gc⟩ := hw
  refine ⟨⟨by omega, by rw [mk _ (by omega), h1 _ (by omega)]; exact g6, by rw [mk _ (by omega), h1 _ (by omega)]; exact g8, fun c' hc' => ?_⟩, by rw [mk _ (by omega), h1 _ (by omega)], by rw [mk _ (by omega), h1 _ (by omega)]⟩
  rw [b1] at hc'
  unfold WFc
  simp only [mc]
  by_cases e : c' = c
  · subst e
    have e5 : (cl w3 c' 5).toInt = (u : Int) := by rw [h5, i32_i (by omega)]
    have z0 : (0 : Int32).toInt = 0 := rfl
    rw [h0, h3, h4, h6, z0, e5]
    exact ⟨Or.inr rfl, by omega, Or.inl rfl, ⟨by omega, by omega⟩, ⟨by omega, by omega⟩, fun k hk hl => he k (by omega)⟩
  · have hcl : ∀ i, i < 13 → cl w3 c' i = cl w c' i := fun i hi => h1 _ (by omega)
    obtain ⟨c1, c2, c3, c4, c5, c6⟩ := gc c' (by omega)
    rw [hcl 0 (by omega), hcl 3 (by omega), hcl 4 (by omega), hcl 5 (by omega), hcl 6 (by omega), et]
    exact ⟨c1, c2, c3.imp_right (fun hh => ⟨hh.1, by omega⟩), c4, c5, fun k hk hl => by rw [hcl _ (by omega)]; exact c6 k hk hl⟩
theorem pCit_ok {C : Int32} {F : Nat} (hT : TKS f n t K V b e) {q q' : WRS} {i j : Nat} (hi : i ≤ t) (hw : WF q.1) (hn : nC q.1 < 10) (h : pCit K V (sz b e) C F q i = (some q', j)) : WKP q.1 q'.1 := by
  unfold pCit at h
  by_cases h1 : K i = 12
  · rw [if_pos h1] at h
    have i1 := tk_lt hT hi (by rw [h1]; decide)
    by_cases h2 : nm K V 0 100 (i + 1) < 0
    · rw [if_pos h2] at h
      exact non h
    · rw [if_neg h2] at h
      obtain ⟨-, -, -, -, -, -, -, i2⟩ := nm_ok hT (by omega) h2
      by_cases h3 : K (i + 2) = 13
      · rw [if_pos h3] at h
        have i3 := tk_lt hT (i := i + 2) (by omega) (by rw [h3]; decide)
        cases hp : pHab K V (sz b e) (nC q.1) 6 0 (i + 3) (citW q.1 (nC q.1) (nm K V 0 100 (i + 1))) with
        | mk o j1 =>
          rw [hp] at h
          cases o with
          | none => exact non h
          | some w2 =>
            obtain ⟨r1, u, u1, u2, r2, r3⟩ := pHab_ok hT 6 0 (i + 3) _ w2 j1 (by omega) rfl (fun y hy => by omega) hp
            have fin : ∀ w3 : RW, (∀ y, y ≠ 18 + 13 * nC q.1 + 1 → w3 y = w2 y) → WKP q.1 (morW w3) := fun w3 hw3 => by
              have cc : ∀ i, i < 13 → i ≠ 1 → cl w3 (nC q.1) i = cl w2 (nC q.1) i := fun i hi h => hw3 _ (by omega)
              have cd : ∀ i' : Nat, i' < 5 ∨ i' = 6 → cl w2 (nC q.1) i' = cl (citW q.1 (nC q.1) (nm K V 0 100 (i + 1))) (nC q.1) i' := fun i' hi' => r1 _ (by omega)
              refine WF_mor (u := u) hw rfl hn (fun y hy => ?_) ?_ ?_ ?_ ?_ u1 u2 ?_ (fun y hy => ?_)
              · rw [hw3 y (by omega), r1 y (by omega), cit_k (by omega)]
              · rw [cc 0 (by omega) (by omega), cd 0 (by omega), cit_n (by omega)]; rfl
              · rw [cc 3 (by omega) (by omega), cd 3 (by omega), cit_n (by omega)]; rfl
              · rw [cc 4 (by omega) (by omega), cd 4 (by omega), cit_n (by omega)]; rfl
              · rw [cc 6 (by omega) (by omega), cd 6 (by omega), cit_n (by omega)]; rfl
              · rw [cc 5 (by omega) (by omega)]; exact r2
              · rw [cc (7 + y) (by omega) (by omega)]; exact r3 y hy
            dsimp only at h
            by_cases h14 : K j1 = 14
            · rw [if_pos h14] at h
              cases hp2 : pKn K V C (nC q.1) F (j1 + 1) w2 with
              | mk o2 j2 =>
                rw [hp2] at h
                cases o2 with
                | none => exact non h
                | some w3 =>
                  obtain ⟨rfl, -⟩ := som h
                  exact fin w3 (pKn_ok F (j1 + 1) w2 w3 j2 hp2)
            · rw [if_neg h14] at h
              obtain ⟨rfl, -⟩ := som h
              exact fin w2 (fun y hy => rfl)
      · rw [if_neg h3] at h
        exact non h
  · rw [if_neg h1] at h
    exact non h
theorem sng_m {w : RW} {x : Int32} (h : sng w x = true) : ¬ x < 0 := (of_decide_eq_true h).1
theorem pWed_ok (hT : TKS f n t K V b e) {q q' : WRS} {i j : Nat} (hi : i ≤ t) (hw : WF q.1) (h : pWed K V q i = (some q', j)) : WKP q.1 q'.1 := by
  unfold pWed at h
  by_cases h1 : sng q.1 (tol K V q.1 i) = true
  · rw [if_pos h1] at h
    obtain ⟨c, c1, c2, c3, c4, c5, c6, c7⟩ := tol_ok hT hi hw (sng_m h1)
    by_cases h2 : sng q.1 (tol K V q.1 (i + 1)) = true ∧ ¬ tol K V q.1 i = tol K V q.1 (i + 1)
    · rw [if_pos h2] at h
      obtain ⟨d, d1, d2, -⟩ := tol_ok hT (i := i + 1) (by omega) hw (sng_m h2.1)
      obtain ⟨rfl, -⟩ := som h
      obtain ⟨e0, e1, e2⟩ := nC_i hw
      rw [c2, d2, ni_i (by omega), ni_i (by omega)]
      unfold wedW
      refine ⟨WF_ct (WF_ct (WF_sp (WF_sp hw (Or.inr (by rw [i32_i (by omega)]; omega))) (Or.inr (by rw [i32_i (by omega), up1_n (by omega)]; omega))) (Or.inl rfl)) (Or.inl rfl), ?_, ?_⟩
      · dsimp only
        rw [up1_n (by omega), up1_n (by omega), up1_n (by omega), up1_n (by omega)]
      · dsimp only
        rw [up1_n (by omega), up1_n (by omega), up1_n (by omega), up1_n (by omega)]
    · rw [if_neg h2] at h
      exact non h
  · rw [if_neg h1] at h
    exact non h
theorem pNum_ok {lo hi' : Int32} {k : Nat} {q q' : WRS} {i j : Nat} (hT : TKS f n t K V b e) (hi : i ≤ t) (hw : WF q.1) (hk : 7 ≤ k ∧ k < 18) (h : pNum K V k lo hi' q i = (some q', j)) : WKP q.1 q'.1 := by
  unfold pNum at h
  by_cases h1 : nm K V lo hi' i < 0
  · rw [if_pos h1] at h
    exact non h
  · rw [if_neg h1] at h
    obtain ⟨m, m1, m2, -⟩ := nm_ok hT hi h1
    obtain ⟨rfl, -⟩ := som h
    refine ⟨?_, up1_n (by omega), up1_n (by omega)⟩
    show WF (up1 q.1 k (nm K V lo hi' i))
    by_cases h8 : k = 8
    · subst h8
      have en : nC (up1 q.1 8 (nm K V lo hi' i)) = nC q.1 := by unfold nC; rw [up1_n (by omega)]
      obtain ⟨g0, g6, g8, hc⟩ := hw
      refine ⟨by rw [up1_n (by omega)]; exact g0, by rw [up1_n (by omega)]; exact g6, by rw [up1_e, m2, i32_i (by omega)]; omega, fun c hcn => ?_⟩
      rw [en] at hcn
      have := hc c hcn
      unfold WFc at this ⊢
      simp only [cl_lo (show 8 < 18 by omega)]
      rw [up1_n (by omega)]
      exact this
    · exact WF_sc hw (by omega) (by omega) (by omega) h8
theorem pRL_ok {C : Int32} {F : Nat} (hT : TKS f n t K V b e) {q q' : WRS} {i j : Nat} (hi : i ≤ t) (hw : WF q.1) (h : pRL K V (sz b e) C F q i = (some q', j)) : WKP q.1 q'.1 := by
  unfold pRL at h
  have nx : ∀ k : Int32, ¬ k = 21 → K i = k → i + 1 ≤ t := fun k hk hki => tk_lt hT hi (by rw [hki]; exact hk)
  by_cases h11 : K i = 11
  · rw [if_pos h11] at h
    have := nx 11 (by decide) h11
    by_cases h10 : nC q.1 = 10
    · rw [if_pos h10] at h
      exact non h
    · rw [if_neg h10] at h
      have := (nC_i hw).2.1
      exact pCit_ok hT (by omega) hw (by omega) h
  · rw [if_neg h11] at h
    by_cases h15 : K i = 15
    · rw [if_pos h15] at h
      have := nx 15 (by decide) h15
      exact pNum_ok hT (by omega) hw (by omega) h
    · rw [if_neg h15] at h
      by_cases h16 : K i = 16
      · rw [if_pos h16] at h
        have := nx 16 (by decide) h16
        exact pNum_ok hT (by omega) hw (by omega) h
      · rw [if_neg h16] at h
        by_cases h18 : K i = 18
        · rw [if_pos h18] at h
          have := nx 18 (by decide) h18
          exact pWed_ok hT (by omega) hw h
        · rw [if_neg h18] at h
          by_cases h19 : K i = 19
          · rw [if_pos h19] at h
            unfold pSeen at h
            by_cases c1 : tol K V q.1 (i + 1) < 0
            · rw [if_pos c1] at h
              exact non h
            · rw [if_neg c1] at h
              by_cases c2 : mtq K V (sz b e) (i + 1 + 1) = true
              · rw [if_pos c2] at h
                obtain ⟨rfl, -⟩ := som h
                exact ⟨hw, rfl, rfl⟩
              · rw [if_neg c2] at h
                exact non h
          · rw [if_neg h19] at h
            by_cases h17 : K i = 17
            · rw [if_pos h17] at h
              have := nx 17 (by decide) h17
              unfold pHarm at h
              by_cases c1 : nm K V 0 7 (i + 1) < 0
              · rw [if_pos c1] at h
                exact non h
              · rw [if_neg c1] at h
                obtain ⟨m, m1, m2, m3, m4, m5, m6, m7⟩ := nm_ok hT (i := i + 1) (by omega) c1
                rw [m3] at m6
                have : m ≤ 7 := by
                  have : ¬ 7 < m := fun y => m6 ((i32_lt (j := 7) (by omega) (by omega)).mpr y)
                  omega
                refine pNum_ok hT (by omega) hw ?_ h
                rw [m2, ni_i (by omega)]
                omega
            · rw [if_neg h17] at h
              exact non h
end RK
