/-! A REPUBLIC'S TEXT: the class reads a line -/
def CST (t : Nat) (K V S6 : Nat → Int32) (x : Int32) (M : MM) (i : Nat) (w : RW) (s : RS) : Prop := TKc M t K V i ∧ M.1 6 = S6 ∧ CW M 30 w s ∧ M.1 8 1 = x
section C2
variable {f : BY} {n t i N : Nat} {K V S6 : Nat → Int32} {b e : Nat → Nat} {M M' : MM} {w w' : RW} {s s' : RS} {x : Int32} {Q : Int32 → MM → Prop}
theorem CST_g (h : CST t K V S6 x M i w s) : CST t K V S6 x (wi M 3 5 (M.1 3 5 + 1)) (i + 1) w s := by
  obtain ⟨h1, h2, h3, h4⟩ := h
  refine ⟨TKc_g h1, ?_, CW_eq h3 eqo_1 rfl, by rw [wi_1n (by omega)]; exact h4⟩
  rw [← h2]
  funext j
  exact wi_1n (by omega)
def cstk (l : List (Nat × Nat × Option Nat)) : Bool := (fpf l 3 5 && (fpf l 3 4 && (fpo l 4 4 && fpo l 7 7))) && (fpo l 6 6 && fpf l 8 1)
theorem CST_e {l : List (Nat × Nat × Option Nat)} (h : CST t K V S6 x M i w s) (e : Eqo l M M') (hl : cstk l = true) (hc : CW M' 30 w' s') : CST t K V S6 x M' i w' s' := by
  unfold cstk at hl
  obtain ⟨hl1, hl2⟩ := by rw [Bool.and_eq_true] at hl; exact hl
  obtain ⟨hl3, hl4⟩ := by rw [Bool.and_eq_true] at hl2; exact hl2
  obtain ⟨h1, h2, h3, h4⟩ := h
  exact ⟨TKc_e h1 e hl1, by rw [eqb e hl3 (Nat.le_refl _) (Nat.le_refl _)]; exact h2, hc, by rw [eq1 e hl4]; exact h4⟩
theorem ckd (h : CST t K V S6 x M i w s) (hT : TKS f n t K V b e) (hi : i ≤ t) : V_Text_kind M = K i := kd h.1 hi hT.1
theorem cvl (h : CST t K V S6 x M i w s) (hT : TKS f n t K V b e) (hi : i ≤ t) : V_Text_value M = V i := vl h.1 hi hT.1
theorem csz (h : CST t K V S6 x M i w s) (hT : TKS f n t K V b e) (hi : i ≤ t) : V_Text_size M = S6 i := by
  have ht := hT.1
  obtain ⟨⟨h1, h2, -⟩, h3, -⟩ := h
  unfold V_Text_size
  rw [h1, h2, if_pos ((i32_lt (by omega) (by omega)).mpr (by omega)), ni_i (by omega), h3]
theorem c_nm {lo hi' : Int32} (hT : TKS f n t K V b e) (h : CST t K V S6 x M i w s) (hi : i ≤ t) (hQ1 : ∀ M', ¬ nm K V lo hi' i < 0 → i < t → CST t K V S6 x M' (i + 1) w s → Q (nm K V lo hi' i) M') (hQ0 : nm K V lo hi' i < 0 → nm K V lo hi' i = -1 → Q (-1) M) : W_Text_numberWithin lo hi' N M Q := by
  unfold W_Text_numberWithin
  rw [ckd h hT hi, cvl h hT hi]
  have hneg : nm K V lo hi' i = -1 → Q (-1) M := fun hh => hQ0 ((nm_n hT hi).mpr hh) hh
  have hpos : ¬ nm K V lo hi' i < 0 → Q (nm K V lo hi' i) (wi M 3 5 ((M.1 3 5) + 1)) := fun hh => by
    obtain ⟨m, -, -, -, -, -, -, hlt⟩ := nm_ok hT hi hh
    exact hQ1 _ hh hlt (CST_g h)
  have hn := nm_n (lo := lo) (hi := hi') hT hi
  unfold nm at hneg hpos hn
  refine ⟨fun hk => ?_, fun hk => ?_⟩
  · rw [if_pos hk] at hneg hpos hn
    refine ⟨fun c => ?_, fun c => ⟨fun c2 => ?_, fun c2 => ?_⟩⟩
    · rw [if_pos c] at hneg; exact hneg rfl
    · rw [if_neg c, if_pos c2] at hneg; exact hneg rfl
    · rw [if_neg c, if_neg c2] at hneg hpos hn
      obtain ⟨m, hm, hv⟩ := tk_V hT hi hk
      refine hpos (fun hx => ?_)
      rw [hv, lt_lit, i32_i (by omega)] at hx
      exact absurd hx (by show ¬ ((m : Int) < 0); omega)
  · rw [if_neg hk] at hneg
    exact hneg rfl
theorem c_mt (hS : ∀ i, i ≤ t → (S6 i = 2 ↔ sz b e i = 2)) (hT : TKS f n t K V b e) (h : CST t K V S6 x M i w s) (hi : i ≤ t) (hQ1 : ∀ M', mtq K V (sz b e) i = true → i < t → CST t K V S6 x M' (i + 1) w s → Q (mtv V i) M') (hQ0 : ¬ mtq K V (sz b e) i = true → Q (-1) M) : W_RepublicReader_readMatter N M Q := by
  unfold W_RepublicReader_readMatter W_Text_goOn
  rw [ckd h hT hi, cvl h hT hi, csz h hT hi, hS i hi]
  refine ⟨fun c1 => ⟨fun c2 => ⟨fun c3 => ⟨fun c4 => ?_, fun c4 => ?_⟩, fun c3 => ?_⟩, fun c2 => ?_⟩, fun c1 => ?_⟩
  · exact hQ1 _ (decide_eq_true ⟨c1, c2, c3, c4⟩) (tk_lt hT hi (by rw [c1]; decide)) (CST_g h)
  · exact hQ0 (fun y => c4 (of_decide_eq_true y).2.2.2)
  · exact hQ0 (fun y => c3 (of_decide_eq_true y).2.2.1)
  · exact hQ0 (fun y => c2 (of_decide_eq_true y).2.1)
  · exact hQ0 (fun y => c1 (of_decide_eq_true y).1)
def COW (t : Nat) (K V S6 : Nat → Int32) (x : Int32) (g : RW → RW) (s : RS) (res : Option RW × Nat) (r : Int32) (M' : MM) : Prop := (r = 1 ∧ ∃ w' j, res = (some w', j) ∧ j ≤ t ∧ CST t K V S6 x M' j (g w') s) ∨ (r = 0 ∧ ∃ j, res = (none, j) ∧ j ≤ t ∧ TKc M' t K V j)
def COK (t : Nat) (K V S6 : Nat → Int32) (x : Int32) (res : Option WRS × Nat) (r : Int32) (M' : MM) : Prop := (r = 1 ∧ ∃ q j, res = (some q, j) ∧ j ≤ t ∧ CST t K V S6 x M' j q.1 q.2) ∨ (r = 0 ∧ ∃ j, res = (none, j) ∧ j ≤ t ∧ TKc M' t K V j)
def mo (c : Nat) (w : RW) : RW := up1 w 0 (i32 (c + 1))
theorem c_hab {c : Nat} (hS : ∀ i, i ≤ t → (S6 i = 2 ↔ sz b e i = 2)) (hT : TKS f n t K V b e) (hc : c < 10) (h : CST t K V S6 x M i (clR w c 0) s) (hi : i ≤ t) (hQ : ∀ r M', COW t K V S6 x (mo c) s (pHab K V (sz b e) c 6 0 i w) r M' → Q r M') : W_RepublicReader_readHabit (i32 c) N M Q := by
  unfold W_RepublicReader_readHabit
  refine I_RepublicReader_readHabit_2 (i32 c) Q (fun v M' => ∃ k u j w', u + k = 6 ∧ v = i32 u ∧ j ≤ t ∧ CST t K V S6 x M' j (clR w' c u) s ∧ pHab K V (sz b e) c 6 0 i w = pHab K V (sz b e) c k u j w') (fun N ih v M' hih hv => ?_) N _ _ ⟨6, 0, i, w, rfl, rfl, hi, h, rfl⟩
  obtain ⟨k, u, j, w', k1, rfl, k2, k3, k6⟩ := hv
  rw [k6] at hQ
  unfold B_RepublicReader_readHabit_2
  refine ⟨fun h6 => ?_, fun h6 => ?_⟩
  · have hu : u < 6 := (i32_lt (k := 6) (by omega) (by omega)).mp h6
    obtain ⟨k, rfl⟩ : ∃ k', k = k' + 1 := ⟨k - 1, by omega⟩
    unfold pHab at hQ
    refine c_mt hS hT k3 k2 (fun M4 hm hlt h4 => ?_) (fun hm => ?_)
    · rw [if_pos hm] at hQ
      obtain ⟨m1, m2, m3, m4, m5, m6, m7⟩ := mtq_ok hT k2 hm
      refine ⟨fun y => absurd y m7, fun _ => ?_⟩
      unfold W_World_addToHabit
      have hcn : nC (clR w' c u) = c + 1 := clR_n hc
      have hl5 : cl (clR w' c u) c 5 = i32 u := by
        unfold clR
        rw [cl_lo (by omega), cl_up (by omega) (by omega), if_pos ⟨rfl, rfl⟩]
      have e6 : M4.1 (30 + 6) c = i32 u := by
        have := (h4.2.2.1.2.2.2.1 c (by omega)).2.2.2.2.1
        rw [hl5] at this
        exact this
      rw [ni_i (show c < 2147483648 by omega), e6, show ni (i32 c * 6 + i32 u) = 6 * c + u by rw [show i32 c * 6 = i32 (c * 6) from i32_m c 6, i32_a, ni_i (by omega)]; omega]
      have e6' : (wi M4 (30 + 5) (6 * c + u) (mtv V j)).1 (30 + 6) c = i32 u := by rw [wi_1n (by omega)]; exact e6
      rw [e6', i32_s]
      refine ⟨fun _ => ?_, fun hbad => absurd ((i32_lt (k := 6) (by omega) (by omega)).mpr hu) hbad⟩
      have h5 := CW_hb (m := mtv V j) h4.2.2.1 (by omega) (by omega) hl5 hu
      rw [clR_h hu] at h5
      have e5 : Eqo ([(35, 35, none)] ++ [(36, 36, none)]) M4 (wi (wi M4 (30 + 5) (6 * c + u) (mtv V j)) (30 + 6) c (i32 (u + 1))) := eqo_app eqo_a eqo_a
      have h6 := CST_e h4 e5 rfl h5
      dsimp only
      rw [ckd h6 hT (by omega)]
      refine ⟨fun hk => hih _ _ ⟨k, u + 1, j + 1, _, by omega, rfl, by omega, h6, ?_⟩, fun hk => ?_⟩
      · rw [k6]
        show (if mtq K V (sz b e) j = true then _ else _) = _
        rw [if_pos hm, if_pos hk]
      · rw [if_neg hk] at hQ
        exact hQ 1 _ (Or.inl ⟨rfl, _, j + 1, rfl, by omega, h6⟩)
    · rw [if_neg hm] at hQ
      exact ⟨fun _ => hQ 0 _ (Or.inr ⟨rfl, j, rfl, k2, k3.1⟩), fun y => absurd rfl y⟩
  · have hu : ¬ u < 6 := fun c => h6 ((i32_lt (j := u) (k := 6) (by omega) (by omega)).mpr c)
    obtain rfl : k = 0 := by omega
    exact hQ 0 M' (Or.inr ⟨rfl, j, rfl, k2, k3.1⟩)
theorem c_kno {F c : Nat} {C : Int32} (hT : TKS f n t K V b e) (hF : 400 < F) (hc : c < 10) (hx : x - 1 = C) (h : CST t K V S6 x M i (mo c w) s) (hk14 : K i = 14) (hi : i ≤ t) (hQ : ∀ r M', COW t K V S6 x (mo c) s (pKn K V C c F (i + 1) w) r M' → Q r M') : W_RepublicReader_readKnows (i32 c) N M Q := by
  have ht := hT.1
  have hlt := tk_lt hT hi (by rw [hk14]; decide)
  unfold W_RepublicReader_readKnows W_Text_goOn
  refine I_RepublicReader_readKnows_9 (i32 c) Q (fun v M' => ∃ k u j w', 400 < k + j ∧ u + 1 ≤ j ∧ v = i32 u ∧ j ≤ t ∧ CST t K V S6 x M' j (mo c w') s ∧ pKn K V C c F (i + 1) w = pKn K V C c k j w') (fun N ih v M' hih hv => ?_) N _ _ ⟨F, 0, i + 1, w, by omega, by omega, rfl, by omega, CST_g h, rfl⟩
  obtain ⟨k, u, j, w', k1, k0, rfl, k2, k3, k6⟩ := hv
  rw [k6] at hQ
  unfold B_RepublicReader_readKnows_9
  rw [show M'.1 8 1 - 1 = C from by rw [k3.2.2.2]; exact hx]
  refine ⟨fun _ => ?_, fun hbad => absurd ((i32_lt (k := 400) (by omega) (by omega)).mpr (by omega)) hbad⟩
  by_cases hk0 : k = 0
  · subst hk0
    refine c_nm hT k3 k2 (fun M5 _ hlt => by omega) (fun _ _ => ⟨fun _ => hQ 0 _ (Or.inr ⟨rfl, j, rfl, k2, k3.1⟩), fun y => absurd rfl y⟩)
  · obtain ⟨k, rfl⟩ : ∃ k', k = k' + 1 := ⟨k - 1, by omega⟩
    unfold pKn at hQ
    refine c_nm hT k3 k2 (fun M5 hneg hlt h5 => ?_) (fun hneg _ => ?_)
    · rw [if_neg hneg] at hQ
      refine ⟨fun y => absurd ((nm_n hT k2).mpr y) hneg, fun _ => ?_⟩
      rw [ni_i (show c < 2147483648 by omega)]
      have hcn : nC (mo c w') = c + 1 := by
        unfold nC mo
        rw [up1_e, ni_i (by omega)]
      have e1 : M5.1 31 c = cl w' c 1 := by
        have := (h5.2.2.1.2.2.2.1 c (by omega)).1
        unfold mo at this
        rw [cl_lo (by omega)] at this
        exact this
      rw [e1]
      have h6 := CW_ct (x := cl w' c 1 ||| sl 1 (nm K V 0 C j)) h5.2.2.1 (by omega) (show c < nC (mo c w') by omega) (Or.inl ⟨rfl, rfl⟩)
      rw [show up1 (mo c w') (18 + 13 * c + 1) (cl w' c 1 ||| sl 1 (nm K V 0 C j)) = mo c (knwW c w' (nm K V 0 C j)) from up1_cm (by omega)] at h6
      have h7 := CST_e h5 (eqo_a (a := 31) (k := c) (x := cl w' c 1 ||| sl 1 (nm K V 0 C j))) rfl h6
      rw [ckd h7 hT (by omega)]
      refine ⟨fun hk => hih _ _ ⟨k, u + 1, j + 1, _, by omega, by omega, i32_s u, by omega, h7, ?_⟩, fun hk => ?_⟩
      · rw [k6]
        show (if nm K V 0 C j < 0 then _ else _) = _
        rw [if_neg hneg, if_pos hk]
      · rw [if_neg hk] at hQ
        exact hQ 1 _ (Or.inl ⟨rfl, _, j + 1, rfl, by omega, h7⟩)
    · rw [if_pos hneg] at hQ
      exact ⟨fun _ => hQ 0 _ (Or.inr ⟨rfl, j, rfl, k2, k3.1⟩), fun y => absurd rfl y⟩
theorem c_liv {p1 p2 : Int32} (hT : TKS f n t K V b e) (h : CST t K V S6 x M i w s) (hw : WF w) (hi : i ≤ t) (hQ1 : ∀ M', ¬ tol K V w i < 0 → i < t → ¬ tol K V w i = p2 → (p1 = 0 ∨ sng w (tol K V w i) = true) → CST t K V S6 x M' (i + 1) w s → Q (tol K V w i) M') (hQ0 : (tol K V w i < 0 ∨ (¬ tol K V w i < 0 ∧ tol K V w i = p2) ∨ (¬ p1 = 0 ∧ ¬ sng w (tol K V w i) = true)) → Q (-1) M) : W_RepublicReader_readLiving p1 p2 N M Q := by
  obtain ⟨e0, e1, e2⟩ := nC_i hw
  unfold W_RepublicReader_readLiving W_Text_goOn
  rw [ckd h hT hi, cvl h hT hi, h.2.2.1.1.1, e2]
  by_cases hk : K i = 20
  · obtain ⟨m, hm, hv⟩ := tk_V hT hi hk
    have hlt := tk_lt hT hi (by rw [hk]; decide)
    refine ⟨fun _ => ?_, fun y => absurd hk y⟩
    rw [hv]
    have hnm : nm K V 0 (w 0 - 1) i = if m < nC w then i32 m else -1 := by
      unfold nm
      rw [if_pos hk, hv, if_neg (by rw [lt_lit, i32_i (by omega)]; show ¬ ((m : Int) < 0); omega), e2]
      by_cases z : nC w = 0
      · rw [z, if_pos, if_neg (by omega)]
        rw [lt_lit, i32_i (by omega)]
        show (i32 0 - 1 : Int32).toInt < (m : Int)
        have : (i32 0 - 1 : Int32).toInt = -1 := by decide
        omega
      · obtain ⟨k, hk⟩ : ∃ k, nC w = k + 1 := ⟨nC w - 1, by omega⟩
        rw [hk, show (i32 (k + 1) - 1 : Int32) = i32 k from i32_sb k 1]
        by_cases c : m < k + 1
        · rw [if_pos c, if_neg (fun x => by have := (i32_lt (by omega) (by omega)).mp x; omega)]
        · rw [if_neg c, if_pos ((i32_lt (by omega) (by omega)).mpr (by omega))]
    refine ⟨fun c1 => ?_, fun c1 => ?_⟩
    · have hmn : m < nC w := (i32_lt (by omega) (by omega)).mp c1
      rw [if_pos hmn] at hnm
      have htol : tol K V w i = if cl w m 0 = 1 then i32 m else -1 := by
        unfold tol
        rw [hnm, if_neg (by rw [lt_lit, i32_i (by omega)]; show ¬ ((m : Int) < 0); omega), ni_i (by omega)]
      have hal : V_World_isAlive 30 (i32 m) M = b32 (alv w m) := c_alive h.2.2.1 hw hmn
      rw [hal]
      by_cases ca : cl w m 0 = 1
      · rw [if_pos ca] at htol
        have hnn : ¬ tol K V w i < 0 := by rw [htol, lt_lit, i32_i (by omega)]; show ¬ ((m : Int) < 0); omega
        have hb : b32 (alv w m) = 1 := by unfold alv; rw [decide_eq_true ca]; rfl
        rw [hb]
        refine ⟨fun c2 => ?_, fun c2 => ⟨fun y => absurd y (by decide), fun _ => ?_⟩⟩
        · exact hQ0 (Or.inr (Or.inl ⟨hnn, by rw [htol]; exact c2⟩))
        · have hsp : M.1 34 (ni (i32 m)) = cl w m 4 := by
            rw [ni_i (by omega)]
            exact (h.2.2.1.2.2.2.1 m hmn).2.2.2.1
          have hsn : sng w (tol K V w i) = true ↔ cl w m 4 = -1 := by
            unfold sng
            rw [decide_eq_true_eq, htol, ni_i (by omega), ← sp_neg (hw.2.2.2 m hmn)]
            rw [htol] at hnn
            exact ⟨fun y => y.2, fun y => ⟨hnn, y⟩⟩
          have hn2 : ¬ tol K V w i = p2 := by rw [htol]; exact c2
          refine ⟨fun c3 => ?_, fun c3 => ⟨fun c4 => ?_, fun c4 => ?_⟩⟩
          · have := hQ1 _ hnn hlt hn2 (Or.inl c3) (CST_g h)
            rw [htol] at this
            exact this
          · rw [hsp] at c4
            have := hQ1 _ hnn hlt hn2 (Or.inr (hsn.mpr c4)) (CST_g h)
            rw [htol] at this
            exact this
          · rw [hsp] at c4
            exact hQ0 (Or.inr (Or.inr ⟨c3, fun y => c4 (hsn.mp y)⟩))
      · rw [if_neg ca] at htol
        have hb : b32 (alv w m) = 0 := by unfold alv; rw [decide_eq_false ca]; rfl
        have hq := hQ0 (Or.inl (by rw [htol]; decide))
        rw [hb]
        exact ⟨fun _ => hq, fun _ => ⟨fun _ => hq, fun y => absurd rfl y⟩⟩
    · have hmn : ¬ m < nC w := fun y => c1 ((i32_lt (by omega) (by omega)).mpr y)
      rw [if_neg hmn] at hnm
      refine hQ0 (Or.inl ?_)
      unfold tol
      rw [hnm, if_pos (by decide)]
      decide
  · refine ⟨fun y => absurd y hk, fun _ => hQ0 (Or.inl ?_)⟩
    unfold tol nm
    rw [if_neg hk, if_pos (by decide)]
    decide
end C2
