section
/-! A REPUBLIC'S TEXT: the class reads a line -/
def CST (t : Nat) (K V S6 : Nat → Int32) (x : Int32) (M : MM) (i : Nat) (w : RW) (s : RS) : Prop := TKc M t K V i ∧ M.1 6 = S6 ∧ CW M 30 w s ∧ M.1 8 1 = x
section C2
variable {f : BY} {n t i N : Nat} {K V S6 : Nat → Int32} {b e : Nat → Nat} {M M' : MM} {w w' : RW} {s s' : RS} {x : Int32} {Q : Int32 → MM → Prop}
theorem CST_g (h : CST t K V S6 x M i w s) : CST t K V S6 x (wi M 3 5 (M.1 3 5 + 1)) (i + 1) w s := by
  obtain ⟨h1, h2, h3, h4⟩ := h
  refine ⟨TKc_g h1, ?_, CW_eq h3 eqo_1 rfl, by rw [wi_1n (by omega)]; exact h4⟩
  rw [← h2]
  funext j
  exact wi_1n (by omega)
def cstk (l : List (Nat × Nat × Option Nat)) : Bool := (fpf l 3 5 && (fpf l 3 4 && (fpo l 4 4 && fpo l 7 7))) && (fpo l 6 6 && fpf l 8 1)
theorem CST_e {l : List (Nat × Nat × Option Nat)} (h : CST t K V S6 x M i w s) (e : Eqo l M M') (hl : cstk l = true) (hc : CW M' 30 w' s') : CST t K V S6 x M' i w' s' := by
  unfold cstk at hl
  obtain ⟨hl1, hl2⟩ := by rw [Bool.and_eq_true] at hl; exact hl
  obtain ⟨hl3, hl4⟩ := by rw [Bool.and_eq_true] at hl2; exact hl2
  obtain ⟨h1, h2, h3, h4⟩ := h
  exact ⟨TKc_e h1 e hl1, by rw [eqb e hl3 (Nat.le_refl _) (Nat.le_refl _)]; exact h2, hc, by rw [eq1 e hl4]; exact h4⟩
theorem ckd (h : CST t K V S6 x M i w s) (hT : TKS f n t K V b e) (hi : i ≤ t) : V_Text_kind M = K i := kd h.1 hi hT.1
theorem cvl (h : CST t K V S6 x M i w s) (hT : TKS f n t K V b e) (hi : i ≤ t) : V_Text_value M = V i := vl h.1 hi hT.1
theorem csz (h : CST t K V S6 x M i w s) (hT : TKS f n t K V b e) (hi : i ≤ t) : V_Text_size M = S6 i := by
  have ht := hT.1
  obtain ⟨⟨h1, h2, -⟩, h3, -⟩ := h
  unfold V_Text_size
  rw [h1, h2, if_pos ((i32_lt (by omega) (by omega)).mpr (by omega)), ni_i (by omega), h3]
theorem c_nm {lo hi' : Int32} (hT : TKS f n t K V b e) (h : CST t K V S6 x M i w s) (hi : i ≤ t) (hQ1 : ∀ M', ¬ nm K V lo hi' i < 0 → i < t → CST t K V S6 x M' (i + 1) w s → Q (nm K V lo hi' i) M') (hQ0 : nm K V lo hi' i < 0 → nm K V lo hi' i = -1 → Q (-1) M) : W_Text_numberWithin lo hi' N M Q := by
  unfold W_Text_numberWithin
  rw [ckd h hT hi, cvl h hT hi]
  have hneg : nm K V lo hi' i = -1 → Q (-1) M := fun hh => hQ0 ((nm_n hT hi).mpr hh) hh
  have hpos : ¬ nm K V lo hi' i < 0 → Q (nm K V lo hi' i) (wi M 3 5 ((M.1 3 5) + 1)) := fun hh => by
    obtain ⟨m, -, -, -, -, -, -, hlt⟩ := nm_ok hT hi hh
    exact hQ1 _ hh hlt (CST_g h)
  have hn := nm_n (lo := lo) (hi := hi') hT hi
  unfold nm at hneg hpos hn
  refine ⟨fun hk => ?_, fun hk => ?_⟩
  · rw [if_pos hk] at hneg hpos hn
    refine ⟨fun c => ?_, fun c => ⟨fun c2 => ?_, fun c2 => ?_⟩⟩
    · rw [if_pos c] at hneg; exact hneg rfl
    · rw [if_neg c, if_pos c2] at hneg; exact hneg rfl
    · rw [if_neg c, if_neg c2] at hneg hpos hn
      obtain ⟨m, hm, hv⟩ := tk_V hT hi hk
      refine hpos (fun hx => ?_)
      rw [hv, lt_lit, i32_i (by omega)] at hx
      exact absurd hx (by show ¬ ((m : Int) < 0); omega)
  · rw [if_neg hk] at hneg
    exact hneg rfl
theorem c_mt (hS : ∀ i, i ≤ t → (S6 i = 2 ↔ sz b e i = 2)) (hT : TKS f n t K V b e) (h : CST t K V S6 x M i w s) (hi : i ≤ t) (hQ1 : ∀ M', mtq K V (sz b e) i = true → i < t → CST t K V S6 x M' (i + 1) w s → Q (mtv V i) M') (hQ0 : ¬ mtq K V (sz b e) i = true → Q (-1) M) : W_RepublicReader_readMatter N M Q := by
  unfold W_RepublicReader_readMatter W_Text_goOn
  rw [ckd h hT hi, cvl h hT hi, csz h hT hi, hS i hi]
  refine ⟨fun c1 => ⟨fun c2 => ⟨fun c3 => ⟨fun c4 => ?_, fun c4 => ?_⟩, fun c3 => ?_⟩, fun c2 => ?_⟩, fun c1 => ?_⟩
  · exact hQ1 _ (decide_eq_true ⟨c1, c2, c3, c4⟩) (tk_lt hT hi (by rw [c1]; decide)) (CST_g h)
  · exact hQ0 (fun y => c4 (of_decide_eq_true y).2.2.2)
  · exact hQ0 (fun y => c3 (of_decide_eq_true y).2.2.1)
  · exact hQ0 (fun y => c2 (of_decide_eq_true y).2.1)
  · exact hQ0 (fun y => c1 (of_decide_eq_true y).1)
def COW (t : Nat) (K V S6 : Nat → Int32) (x : Int32) (g : RW → RW) (s : RS) (res : Option RW × Nat) (r : Int32) (M' : MM) : Prop := (r = 1 ∧ ∃ w' j, res = (some w', j) ∧ j ≤ t ∧ CST t K V S6 x M' j (g w') s) ∨ (r = 0 ∧ ∃ j, res = (none, j) ∧ j ≤ t ∧ TKc M' t K V j)
def COK (t : Nat) (K V S6 : Nat → Int32) (x : Int32) (res : Option WRS × Nat) (r : Int32) (M' : MM) : Prop := (r = 1 ∧ ∃ q j, res = (some q, j) ∧ j ≤ t ∧ CST t K V S6 x M' j q.1 q.2) ∨ (r = 0 ∧ ∃ j, res = (none, j) ∧ j ≤ t ∧ TKc M' t K V j)
def mo (c : Nat) (w : RW) : RW := up1 w 0 (i32 (c + 1))
theorem c_hab {c : Nat} (hS : ∀ i, i ≤ t → (S6 i = 2 ↔ sz b e i = 2)) (hT : TKS f n t K V b e) (hc : c < 10) (h : CST t K V S6 x M i (clR w c 0) s) (hi : i ≤ t) (hQ : ∀ r M', COW t K V S6 x (mo c) s (pHab K V (sz b e) c 6 0 i w) r M' → Q r M') : W_RepublicReader_readHabit (i32 c) N M Q := by
  unfold W_RepublicReader_readHabit
  refine I_RepublicReader_readHabit_2 (i32 c) Q (fun v M' => ∃ k u j w', u + k = 6 ∧ v = i32 u ∧ j ≤ t ∧ CST t K V S6 x M' j (clR w' c u) s ∧ pHab K V (sz b e) c 6 0 i w = pHab K V (sz b e) c k u j w') (fun N ih v M' hih hv => ?_) N _ _ ⟨6, 0, i, w, rfl, rfl, hi, h, rfl⟩
  obtain ⟨k, u, j, w', k1, rfl, k2, k3, k6⟩ := hv
  rw [k6] at hQ
  unfold B_RepublicReader_readHabit_2
  refine ⟨fun h6 => ?_, fun h6 => ?_⟩
  · have hu : u < 6 := (i32_lt (k := 6) (by omega) (by omega)).mp h6
    obtain ⟨k, rfl⟩ : ∃ k', k = k' + 1 := ⟨k - 1, by omega⟩
    unfold pHab at hQ
    refine c_mt hS hT k3 k2 (fun M4 hm hlt h4 => ?_) (fun hm => ?_)
    · rw [if_pos hm] at hQ
      obtain ⟨m1, m2, m3, m4, m5, m6, m7⟩ := mtq_ok hT k2 hm
      refine ⟨fun y => absurd y m7, fun _ => ?_⟩
      unfold W_World_addToHabit
      have hcn : nC (clR w' c u) = c + 1 := clR_n hc
      have hl5 : cl (clR w' c u) c 5 = i32 u := by
        unfold clR
        rw [cl_lo (by omega), cl_up (by omega) (by omega), if_pos ⟨rfl, rfl⟩]
      have e6 : M4.1 (30 + 6) c = i32 u := by
        have := (h4.2.2.1.2.2.2.1 c (by omega)).2.2.2.2.1
        rw [hl5] at this
        exact this
      rw [ni_i (show c < 2147483648 by omega), e6, show ni (i32 c * 6 + i32 u) = 6 * c + u by rw [show i32 c * 6 = i32 (c * 6) from i32_m c 6, i32_a, ni_i (by omega)]; omega]
      have e6' : (wi M4 (30 + 5) (6 * c + u) (mtv V j)).1 (30 + 6) c = i32 u := by rw [wi_1n (by omega)]; exact e6
      rw [e6', i32_s]
      refine ⟨fun _ => ?_, fun hbad => absurd ((i32_lt (k := 6) (by omega) (by omega)).mpr hu) hbad⟩
      have h5 := CW_hb (m := mtv V j) h4.2.2.1 (by omega) (by omega) hl5 hu
      rw [clR_h hu] at h5
      have e5 : Eqo ([(35, 35, none)] ++ [(36, 36, none)]) M4 (wi (wi M4 (30 + 5) (6 * c + u) (mtv V j)) (30 + 6) c (i32 (u + 1))) := eqo_app eqo_a eqo_a
      have h6 := CST_e h4 e5 rfl h5
      dsimp only
      rw [ckd h6 hT (by omega)]
      refine ⟨fun hk => hih _ _ ⟨k, u + 1, j + 1, _, by omega, rfl, by omega, h6, ?_⟩, fun hk => ?_⟩
      · rw [k6]
        show (if mtq K V (sz b e) j = true then _ else _) = _
        rw [if_pos hm, if_pos hk]
      · rw [if_neg hk] at hQ
        exact hQ 1 _ (Or.inl ⟨rfl, _, j + 1, rfl, by omega, h6⟩)
    · rw [if_neg hm] at hQ
      exact ⟨fun _ => hQ 0 _ (Or.inr ⟨rfl, j, rfl, k2, k3.1⟩), fun y => absurd rfl y⟩
  · have hu : ¬ u < 6 := fun c => h6 ((i32_lt (j := u) (k := 6) (by omega) (by omega)).mpr c)
    obtain rfl : k = 0 := by omega
    exact hQ 0 M' (Or.inr ⟨rfl, j, rfl, k2, k3.1⟩)
theorem c_kno {F c : Nat} {C : Int32} (hT : TKS f n t K V b e) (hF : 400 < F) (hc : c < 10) (hx : x - 1 = C) (h : CST t K V S6 x M i (mo c w) s) (hk14 : K i = 14) (hi : i ≤ t) (hQ : ∀ r M', COW t K V S6 x (mo c) s (pKn K V C c F (i + 1) w) r M' → Q r M') : W_RepublicReader_readKnows (i32 c) N M Q := by
  have ht := hT.1
  have hlt := tk_lt hT hi (by rw [hk14]; decide)
  unfold W_RepublicReader_readKnows W_Text_goOn
  refine I_RepublicReader_readKnows_9 (i32 c) Q (fun v M' => ∃ k u j w', 400 < k + j ∧ u + 1 ≤ j ∧ v = i32 u ∧ j ≤ t ∧ CST t K V S6 x M' j (mo c w') s ∧ pKn K V C c F (i + 1) w = pKn K V C c k j w') (fun N ih v M' hih hv => ?_) N _ _ ⟨F, 0, i + 1, w, by omega, by omega, rfl, by omega, CST_g h, rfl⟩
  obtain ⟨k, u, j, w', k1, k0, rfl, k2, k3, k6⟩ := hv
  rw [k6] at hQ
  unfold B_RepublicReader_readKnows_9
  rw [show M'.1 8 1 - 1 = C from by rw [k3.2.2.2]; exact hx]
  refine ⟨fun _ => ?_, fun hbad => absurd ((i32_lt (k := 400) (by omega) (by omega)).mpr (by omega)) hbad⟩
  by_cases hk0 : k = 0
  · subst hk0
    refine c_nm hT k3 k2 (fun M5 _ hlt => by omega) (fun _ _ => ⟨fun _ => hQ 0 _ (Or.inr ⟨rfl, j, rfl, k2, k3.1⟩), fun y => absurd rfl y⟩)
  · obtain ⟨k, rfl⟩ : ∃ k', k = k' + 1 := ⟨k - 1, by omega⟩
    unfold pKn at hQ
    refine c_nm hT k3 k2 (fun M5 hneg hlt h5 => ?_) (fun hneg _ => ?_)
    · rw [if_neg hneg] at hQ
      refine ⟨fun y => absurd ((nm_n hT k2).mpr y) hneg, fun _ => ?_⟩
      rw [ni_i (show c < 2147483648 by omega)]
      have hcn : nC (mo c w') = c + 1 := by
        unfold nC mo
        rw [up1_e, ni_i (by omega)]
      have e1 : M5.1 31 c = cl w' c 1 := by
        have := (h5.2.2.1.2.2.2.1 c (by omega)).1
        unfold mo at this
        rw [cl_lo (by omega)] at this
        exact this
      rw [e1]
      have h6 := CW_ct (x := cl w' c 1 ||| sl 1 (nm K V 0 C j)) h5.2.2.1 (by omega) (show c < nC (mo c w') by omega) (Or.inl ⟨rfl, rfl⟩)
      rw [show up1 (mo c w') (18 + 13 * c + 1) (cl w' c 1 ||| sl 1 (nm K V 0 C j)) = mo c (knwW c w' (nm K V 0 C j)) from up1_cm (by omega)] at h6
      have h7 := CST_e h5 (eqo_a (a := 31) (k := c) (x := cl w' c 1 ||| sl 1 (nm K V 0 C j))) rfl h6
      rw [ckd h7 hT (by omega)]
      refine ⟨fun hk => hih _ _ ⟨k, u + 1, j + 1, _, by omega, by omega, i32_s u, by omega, h7, ?_⟩, fun hk => ?_⟩
      · rw [k6]
        show (if nm K V 0 C j < 0 then _ else _) = _
        rw [if_neg hneg, if_pos hk]
      · rw [if_neg hk] at hQ
        exact hQ 1 _ (Or.inl ⟨rfl, _, j + 1, rfl, by omega, h7⟩)
    · rw [if_pos hneg] at hQ
      exact ⟨fun _ => hQ 0 _ (Or.inr ⟨rfl, j, rfl, k2, k3.1⟩), fun y => absurd rfl y⟩
theorem c_liv {p1 p2 : Int32} (hT : TKS f n t K V b e) (h : CST t K V S6 x M i w s) (hw : WF w) (hi : i ≤ t) (hQ1 : ∀ M', ¬ tol K V w i < 0 → i < t → ¬ tol K V w i = p2 → (p1 = 0 ∨ sng w (tol K V w i) = true) → CST t K V S6 x M' (i + 1) w s → Q (tol K V w i) M') (hQ0 : (tol K V w i < 0 ∨ (¬ tol K V w i < 0 ∧ tol K V w i = p2) ∨ (¬ p1 = 0 ∧ ¬ sng w (tol K V w i) = true)) → Q (-1) M) : W_RepublicReader_readLiving p1 p2 N M Q := by
  obtain ⟨e0, e1, e2⟩ := nC_i hw
  unfold W_RepublicReader_readLiving W_Text_goOn
  rw [ckd h hT hi, cvl h hT hi, h.2.2.1.1.1, e2]
  by_cases hk : K i = 20
  · obtain ⟨m, hm, hv⟩ := tk_V hT hi hk
    have hlt := tk_lt hT hi (by rw [hk]; decide)
    refine ⟨fun _ => ?_, fun y => absurd hk y⟩
    rw [hv]
    have hnm : nm K V 0 (w 0 - 1) i = if m < nC w then i32 m else -1 := by
      unfold nm
      rw [if_pos hk, hv, if_neg (by rw [lt_lit, i32_i (by omega)]; show ¬ ((m : Int) < 0); omega), e2]
      by_cases z : nC w = 0
      · rw [z, if_pos, if_neg (by omega)]
        rw [lt_lit, i32_i (by omega)]
        show (i32 0 - 1 : Int32).toInt < (m : Int)
        have : (i32 0 - 1 : Int32).toInt = -1 := by decide
        omega
      · obtain ⟨k, hk⟩ : ∃ k, nC w = k + 1 := ⟨nC w - 1, by omega⟩
        rw [hk, show (i32 (k + 1) - 1 : Int32) = i32 k from i32_sb k 1]
        by_cases c : m < k + 1
        · rw [if_pos c, if_neg (fun x => by have := (i32_lt (by omega) (by omega)).mp x; omega)]
        · rw [if_neg c, if_pos ((i32_lt (by omega) (by omega)).mpr (by omega))]
    refine ⟨fun c1 => ?_, fun c1 => ?_⟩
    · have hmn : m < nC w := (i32_lt (by omega) (by omega)).mp c1
      rw [if_pos hmn] at hnm
      have htol : tol K V w i = if cl w m 0 = 1 then i32 m else -1 := by
        unfold tol
        rw [hnm, if_neg (by rw [lt_lit, i32_i (by omega)]; show ¬ ((m : Int) < 0); omega), ni_i (by omega)]
      have hal : V_World_isAlive 30 (i32 m) M = b32 (alv w m) := c_alive h.2.2.1 hw hmn
      rw [hal]
      by_cases ca : cl w m 0 = 1
      · rw [if_pos ca] at htol
        have hnn : ¬ tol K V w i < 0 := by rw [htol, lt_lit, i32_i (by omega)]; show ¬ ((m : Int) < 0); omega
        have hb : b32 (alv w m) = 1 := by unfold alv; rw [decide_eq_true ca]; rfl
        rw [hb]
        refine ⟨fun c2 => ?_, fun c2 => ⟨fun y => absurd y (by decide), fun _ => ?_⟩⟩
        · exact hQ0 (Or.inr (Or.inl ⟨hnn, by rw [htol]; exact c2⟩))
        · have hsp : M.1 34 (ni (i32 m)) = cl w m 4 := by
            rw [ni_i (by omega)]
            exact (h.2.2.1.2.2.2.1 m hmn).2.2.2.1
          have hsn : sng w (tol K V w i) = true ↔ cl w m 4 = -1 := by
            unfold sng
            rw [decide_eq_true_eq, htol, ni_i (by omega), ← sp_neg (hw.2.2.2 m hmn)]
            rw [htol] at hnn
            exact ⟨fun y => y.2, fun y => ⟨hnn, y⟩⟩
          have hn2 : ¬ tol K V w i = p2 := by rw [htol]; exact c2
          refine ⟨fun c3 => ?_, fun c3 => ⟨fun c4 => ?_, fun c4 => ?_⟩⟩
          · have := hQ1 _ hnn hlt hn2 (Or.inl c3) (CST_g h)
            rw [htol] at this
            exact this
          · rw [hsp] at c4
            have := hQ1 _ hnn hlt hn2 (Or.inr (hsn.mpr c4)) (CST_g h)
            rw [htol] at this
            exact this
          · rw [hsp] at c4
            exact hQ0 (Or.inr (Or.inr ⟨c3, fun y => c4 (hsn.mp y)⟩))
      · rw [if_neg ca] at htol
        have hb : b32 (alv w m) = 0 := by unfold alv; rw [decide_eq_false ca]; rfl
        have hq := hQ0 (Or.inl (by rw [htol]; decide))
        rw [hb]
        exact ⟨fun _ => hq, fun _ => ⟨fun _ => hq, fun y => absurd rfl y⟩⟩
    · have hmn : ¬ m < nC w := fun y => c1 ((i32_lt (by omega) (by omega)).mpr y)
      rw [if_neg hmn] at hnm
      refine hQ0 (Or.inl ?_)
      unfold tol
      rw [hnm, if_pos (by decide)]
      decide
  · refine ⟨fun y => absurd y hk, fun _ => hQ0 (Or.inl ?_)⟩
    unfold tol nm
    rw [if_neg hk, if_pos (by decide)]
    decide
end C2
end
section
/-! A REPUBLIC'S TEXT: what stays right -/
section RK
variable {f : BY} {n t : Nat} {K V : Nat → Int32} {b e : Nat → Nat}
theorem som {α : Type} {a b : α} {i j : Nat} (h : ((some a, i) : Option α × Nat) = (some b, j)) : a = b ∧ i = j := by
  have h1 : some a = some b := congrArg Prod.fst h
  have h2 : i = j := congrArg Prod.snd h
  injection h1 with h1
  exact ⟨h1, h2⟩
theorem non {α : Type} {b : α} {i j : Nat} {P : Prop} (h : ((none, i) : Option α × Nat) = (some b, j)) : P := by
  have h1 : none = some b := congrArg Prod.fst h
  cases h1
theorem pHab_ok {c : Nat} (hT : TKS f n t K V b e) : ∀ (k v i : Nat) (w w' : RW) (j : Nat), i ≤ t → k + v = 6 → (∀ y, y < v → 0 ≤ (cl w c (7 + y)).toInt ∧ (cl w c (7 + y)).toInt ≤ 63) → pHab K V (sz b e) c k v i w = (some w', j) → (∀ y, (y < 18 + 13 * c + 5 ∨ 18 + 13 * c + 13 ≤ y ∨ y = 18 + 13 * c + 6) → w' y = w y) ∧ ∃ u, 1 ≤ u ∧ u ≤ 6 ∧ cl w' c 5 = i32 u ∧ ∀ y, y < u → 0 ≤ (cl w' c (7 + y)).toInt ∧ (cl w' c (7 + y)).toInt ≤ 63
  | 0, v, i, w, w', j, hi, hk, he, h => non h
  | k + 1, v, i, w, w', j, hi, hk, he, h => by
    unfold pHab at h
    by_cases hm : mtq K V (sz b e) i = true
    · rw [if_pos hm] at h
      obtain ⟨m1, m2, m3, m4, m5, -⟩ := mtq_ok hT hi hm
      have he' : ∀ y, y < v + 1 → 0 ≤ (cl (up1 w (18 + 13 * c + (7 + v)) (mtv V i)) c (7 + y)).toInt ∧ (cl (up1 w (18 + 13 * c + (7 + v)) (mtv V i)) c (7 + y)).toInt ≤ 63 := fun y hy => by
        rw [cl_up (by omega) (by omega)]
        by_cases c1 : y = v
        · rw [if_pos (by omega)]; exact ⟨m4, m5⟩
        · rw [if_neg (by omega)]; exact he y (by omega)
      by_cases hk2 : K (i + 1) = 20
      · rw [if_pos hk2] at h
        obtain ⟨r1, r2⟩ := pHab_ok hT k (v + 1) (i + 1) _ w' j (by omega) (by omega) he' h
        exact ⟨fun y hy => (r1 y hy).trans (up1_n (by omega)), r2⟩
      · rw [if_neg hk2] at h
        obtain ⟨rfl, -⟩ := som h
        refine ⟨fun y hy => by rw [up1_n (by omega), up1_n (by omega)], v + 1, by omega, by omega, by rw [cl_up (by omega) (by omega), if_pos ⟨rfl, rfl⟩], fun y hy => ?_⟩
        rw [cl_up (by omega) (by omega), if_neg (by omega)]
        exact he' y hy
    · rw [if_neg hm] at h
      exact non h
theorem pKn_ok {c : Nat} {C : Int32} : ∀ (k i : Nat) (w w' : RW) (j : Nat), pKn K V C c k i w = (some w', j) → ∀ y, y ≠ 18 + 13 * c + 1 → w' y = w y
  | 0, i, w, w', j, h => non h
  | k + 1, i, w, w', j, h => by
    unfold pKn at h
    intro y hy
    by_cases hm : nm K V 0 C i < 0
    · rw [if_pos hm] at h
      exact non h
    · rw [if_neg hm] at h
      by_cases hk2 : K (i + 1) = 20
      · rw [if_pos hk2] at h
        exact (pKn_ok k (i + 1) _ w' j h y hy).trans (up1_n hy)
      · rw [if_neg hk2] at h
        obtain ⟨rfl, -⟩ := som h
        exact up1_n hy
def WKP (w w' : RW) : Prop := WF w' ∧ w' 1 = w 1 ∧ w' 2 = w 2
theorem WF_mor {w w3 : RW} {c u : Nat} (hw : WF w) (hc : nC w = c) (hn : c < 10) (h1 : ∀ y, (y < 18 + 13 * c ∨ 18 + 13 * c + 13 ≤ y) → w3 y = w y) (h0 : cl w3 c 0 = 1) (h3 : cl w3 c 3 = 0) (h4 : cl w3 c 4 = -1) (h6 : cl w3 c 6 = 0) (u1 : 1 ≤ u) (u2 : u ≤ 6) (h5 : cl w3 c 5 = i32 u) (he : ∀ y, y < u → 0 ≤ (cl w3 c (7 + y)).toInt ∧ (cl w3 c (7 + y)).toInt ≤ 63) : WKP w (morW w3) := by
  obtain ⟨e0, -, ei⟩ := nC_i hw
  rw [hc] at ei e0
  have m0 : morW w3 0 = i32 (c + 1) := by
    unfold morW
    rw [up1_e, h1 0 (by omega), ei, i32_s]
  have b1 : nC (morW w3) = c + 1 := by
    unfold nC
    rw [m0, ni_i (by omega)]
  have et : (morW w3 0).toInt = (c : Int) + 1 := by rw [m0, i32_i (by omega)]; omega
  have mk : ∀ y, y ≠ 0 → morW w3 y = w3 y := fun y hy => up1_n hy
  have mc : ∀ c' i, cl (morW w3) c' i = cl w3 c' i := fun c' i => mk _ (by omega)
  obtain ⟨g0, g6, g8, gc⟩ := hw
  refine ⟨⟨by omega, by rw [mk _ (by omega), h1 _ (by omega)]; exact g6, by rw [mk _ (by omega), h1 _ (by omega)]; exact g8, fun c' hc' => ?_⟩, by rw [mk _ (by omega), h1 _ (by omega)], by rw [mk _ (by omega), h1 _ (by omega)]⟩
  rw [b1] at hc'
  unfold WFc
  simp only [mc]
  by_cases e : c' = c
  · subst e
    have e5 : (cl w3 c' 5).toInt = (u : Int) := by rw [h5, i32_i (by omega)]
    have z0 : (0 : Int32).toInt = 0 := rfl
    rw [h0, h3, h4, h6, z0, e5]
    exact ⟨Or.inr rfl, by omega, Or.inl rfl, ⟨by omega, by omega⟩, ⟨by omega, by omega⟩, fun k hk hl => he k (by omega)⟩
  · have hcl : ∀ i, i < 13 → cl w3 c' i = cl w c' i := fun i hi => h1 _ (by omega)
    obtain ⟨c1, c2, c3, c4, c5, c6⟩ := gc c' (by omega)
    rw [hcl 0 (by omega), hcl 3 (by omega), hcl 4 (by omega), hcl 5 (by omega), hcl 6 (by omega), et]
    exact ⟨c1, c2, c3.imp_right (fun hh => ⟨hh.1, by omega⟩), c4, c5, fun k hk hl => by rw [hcl _ (by omega)]; exact c6 k hk hl⟩
theorem pCit_ok {C : Int32} {F : Nat} (hT : TKS f n t K V b e) {q q' : WRS} {i j : Nat} (hi : i ≤ t) (hw : WF q.1) (hn : nC q.1 < 10) (h : pCit K V (sz b e) C F q i = (some q', j)) : WKP q.1 q'.1 := by
  unfold pCit at h
  by_cases h1 : K i = 12
  · rw [if_pos h1] at h
    have i1 := tk_lt hT hi (by rw [h1]; decide)
    by_cases h2 : nm K V 0 100 (i + 1) < 0
    · rw [if_pos h2] at h
      exact non h
    · rw [if_neg h2] at h
      obtain ⟨-, -, -, -, -, -, -, i2⟩ := nm_ok hT (by omega) h2
      by_cases h3 : K (i + 2) = 13
      · rw [if_pos h3] at h
        have i3 := tk_lt hT (i := i + 2) (by omega) (by rw [h3]; decide)
        cases hp : pHab K V (sz b e) (nC q.1) 6 0 (i + 3) (citW q.1 (nC q.1) (nm K V 0 100 (i + 1))) with
        | mk o j1 =>
          rw [hp] at h
          cases o with
          | none => exact non h
          | some w2 =>
            obtain ⟨r1, u, u1, u2, r2, r3⟩ := pHab_ok hT 6 0 (i + 3) _ w2 j1 (by omega) rfl (fun y hy => by omega) hp
            have fin : ∀ w3 : RW, (∀ y, y ≠ 18 + 13 * nC q.1 + 1 → w3 y = w2 y) → WKP q.1 (morW w3) := fun w3 hw3 => by
              have cc : ∀ i, i < 13 → i ≠ 1 → cl w3 (nC q.1) i = cl w2 (nC q.1) i := fun i hi h => hw3 _ (by omega)
              have cd : ∀ i' : Nat, i' < 5 ∨ i' = 6 → cl w2 (nC q.1) i' = cl (citW q.1 (nC q.1) (nm K V 0 100 (i + 1))) (nC q.1) i' := fun i' hi' => r1 _ (by omega)
              refine WF_mor (u := u) hw rfl hn (fun y hy => ?_) ?_ ?_ ?_ ?_ u1 u2 ?_ (fun y hy => ?_)
              · rw [hw3 y (by omega), r1 y (by omega), cit_k (by omega)]
              · rw [cc 0 (by omega) (by omega), cd 0 (by omega), cit_n (by omega)]; rfl
              · rw [cc 3 (by omega) (by omega), cd 3 (by omega), cit_n (by omega)]; rfl
              · rw [cc 4 (by omega) (by omega), cd 4 (by omega), cit_n (by omega)]; rfl
              · rw [cc 6 (by omega) (by omega), cd 6 (by omega), cit_n (by omega)]; rfl
              · rw [cc 5 (by omega) (by omega)]; exact r2
              · rw [cc (7 + y) (by omega) (by omega)]; exact r3 y hy
            dsimp only at h
            by_cases h14 : K j1 = 14
            · rw [if_pos h14] at h
              cases hp2 : pKn K V C (nC q.1) F (j1 + 1) w2 with
              | mk o2 j2 =>
                rw [hp2] at h
                cases o2 with
                | none => exact non h
                | some w3 =>
                  obtain ⟨rfl, -⟩ := som h
                  exact fin w3 (pKn_ok F (j1 + 1) w2 w3 j2 hp2)
            · rw [if_neg h14] at h
              obtain ⟨rfl, -⟩ := som h
              exact fin w2 (fun y hy => rfl)
      · rw [if_neg h3] at h
        exact non h
  · rw [if_neg h1] at h
    exact non h
theorem sng_m {w : RW} {x : Int32} (h : sng w x = true) : ¬ x < 0 := (of_decide_eq_true h).1
theorem pWed_ok (hT : TKS f n t K V b e) {q q' : WRS} {i j : Nat} (hi : i ≤ t) (hw : WF q.1) (h : pWed K V q i = (some q', j)) : WKP q.1 q'.1 := by
  unfold pWed at h
  by_cases h1 : sng q.1 (tol K V q.1 i) = true
  · rw [if_pos h1] at h
    obtain ⟨c, c1, c2, c3, c4, c5, c6, c7⟩ := tol_ok hT hi hw (sng_m h1)
    by_cases h2 : sng q.1 (tol K V q.1 (i + 1)) = true ∧ ¬ tol K V q.1 i = tol K V q.1 (i + 1)
    · rw [if_pos h2] at h
      obtain ⟨d, d1, d2, -⟩ := tol_ok hT (i := i + 1) (by omega) hw (sng_m h2.1)
      obtain ⟨rfl, -⟩ := som h
      obtain ⟨e0, e1, e2⟩ := nC_i hw
      rw [c2, d2, ni_i (by omega), ni_i (by omega)]
      unfold wedW
      refine ⟨WF_ct (WF_ct (WF_sp (WF_sp hw (Or.inr (by rw [i32_i (by omega)]; omega))) (Or.inr (by rw [i32_i (by omega), up1_n (by omega)]; omega))) (Or.inl rfl)) (Or.inl rfl), ?_, ?_⟩
      · dsimp only
        rw [up1_n (by omega), up1_n (by omega), up1_n (by omega), up1_n (by omega)]
      · dsimp only
        rw [up1_n (by omega), up1_n (by omega), up1_n (by omega), up1_n (by omega)]
    · rw [if_neg h2] at h
      exact non h
  · rw [if_neg h1] at h
    exact non h
theorem pNum_ok {lo hi' : Int32} {k : Nat} {q q' : WRS} {i j : Nat} (hT : TKS f n t K V b e) (hi : i ≤ t) (hw : WF q.1) (hk : 7 ≤ k ∧ k < 18) (h : pNum K V k lo hi' q i = (some q', j)) : WKP q.1 q'.1 := by
  unfold pNum at h
  by_cases h1 : nm K V lo hi' i < 0
  · rw [if_pos h1] at h
    exact non h
  · rw [if_neg h1] at h
    obtain ⟨m, m1, m2, -⟩ := nm_ok hT hi h1
    obtain ⟨rfl, -⟩ := som h
    refine ⟨?_, up1_n (by omega), up1_n (by omega)⟩
    show WF (up1 q.1 k (nm K V lo hi' i))
    by_cases h8 : k = 8
    · subst h8
      have en : nC (up1 q.1 8 (nm K V lo hi' i)) = nC q.1 := by unfold nC; rw [up1_n (by omega)]
      obtain ⟨g0, g6, g8, hc⟩ := hw
      refine ⟨by rw [up1_n (by omega)]; exact g0, by rw [up1_n (by omega)]; exact g6, by rw [up1_e, m2, i32_i (by omega)]; omega, fun c hcn => ?_⟩
      rw [en] at hcn
      have := hc c hcn
      unfold WFc at this ⊢
      simp only [cl_lo (show 8 < 18 by omega)]
      rw [up1_n (by omega)]
      exact this
    · exact WF_sc hw (by omega) (by omega) (by omega) h8
theorem pRL_ok {C : Int32} {F : Nat} (hT : TKS f n t K V b e) {q q' : WRS} {i j : Nat} (hi : i ≤ t) (hw : WF q.1) (h : pRL K V (sz b e) C F q i = (some q', j)) : WKP q.1 q'.1 := by
  unfold pRL at h
  have nx : ∀ k : Int32, ¬ k = 21 → K i = k → i + 1 ≤ t := fun k hk hki => tk_lt hT hi (by rw [hki]; exact hk)
  by_cases h11 : K i = 11
  · rw [if_pos h11] at h
    have := nx 11 (by decide) h11
    by_cases h10 : nC q.1 = 10
    · rw [if_pos h10] at h
      exact non h
    · rw [if_neg h10] at h
      have := (nC_i hw).2.1
      exact pCit_ok hT (by omega) hw (by omega) h
  · rw [if_neg h11] at h
    by_cases h15 : K i = 15
    · rw [if_pos h15] at h
      have := nx 15 (by decide) h15
      exact pNum_ok hT (by omega) hw (by omega) h
    · rw [if_neg h15] at h
      by_cases h16 : K i = 16
      · rw [if_pos h16] at h
        have := nx 16 (by decide) h16
        exact pNum_ok hT (by omega) hw (by omega) h
      · rw [if_neg h16] at h
        by_cases h18 : K i = 18
        · rw [if_pos h18] at h
          have := nx 18 (by decide) h18
          exact pWed_ok hT (by omega) hw h
        · rw [if_neg h18] at h
          by_cases h19 : K i = 19
          · rw [if_pos h19] at h
            unfold pSeen at h
            by_cases c1 : tol K V q.1 (i + 1) < 0
            · rw [if_pos c1] at h
              exact non h
            · rw [if_neg c1] at h
              by_cases c2 : mtq K V (sz b e) (i + 1 + 1) = true
              · rw [if_pos c2] at h
                obtain ⟨rfl, -⟩ := som h
                exact ⟨hw, rfl, rfl⟩
              · rw [if_neg c2] at h
                exact non h
          · rw [if_neg h19] at h
            by_cases h17 : K i = 17
            · rw [if_pos h17] at h
              have := nx 17 (by decide) h17
              unfold pHarm at h
              by_cases c1 : nm K V 0 7 (i + 1) < 0
              · rw [if_pos c1] at h
                exact non h
              · rw [if_neg c1] at h
                obtain ⟨m, m1, m2, m3, m4, m5, m6, m7⟩ := nm_ok hT (i := i + 1) (by omega) c1
                rw [m3] at m6
                have : m ≤ 7 := by
                  have : ¬ 7 < m := fun y => m6 ((i32_lt (j := 7) (by omega) (by omega)).mpr y)
                  omega
                refine pNum_ok hT (by omega) hw ?_ h
                rw [m2, ni_i (by omega)]
                omega
            · rw [if_neg h17] at h
              exact non h
end RK
end
section
/-! A REPUBLIC'S TEXT: the reference reads it all -/
section R3
variable {f : BY} {n t i p g N : Nat} {K V : Nat → Int32} {b e : Nat → Nat} {M : MM} {w : RW} {s : RS} {M0 : MM} {Q : Int32 → MM → Prop}
theorem r_num (hb : BOK f n) (hn : n ≤ 400) (hT : TKS f n t K V b e) {k : Nat} {lo hi' : Int32} (h1 : hi' < 1000) (h : RST f n M0 M p g w s) (hi : i ≤ t) (hp : PT e b i p) (hQ : ∀ r M', ROK f n t b e M0 (pNum K V k lo hi' (w, s) i) r M' → Q r M') {y : Int32} (hy : ni y = k) : W_m_readNumber y lo hi' N M Q := by
  unfold W_m_readNumber
  rw [hy]
  refine r_nm hb hn hT h1 h hi hp (fun M2 h2 => ?_)
  unfold pNum at hQ
  refine ⟨fun c => ?_, fun c => ?_⟩
  · rw [if_pos c] at hQ
    exact hQ 0 _ (Or.inr ⟨rfl, i, rfl, hi, RST_g (RST_w h2)⟩)
  · rw [if_neg c] at hQ
    obtain ⟨m, m1, m2, m3, m4, -⟩ := nm_ok hT hi c
    obtain ⟨a1, a2⟩ := np_T hb hn hT hi m4
    exact hQ 1 _ (Or.inl ⟨rfl, _, i + 1, _, _, rfl, by omega, RST_w h2, a1⟩)
theorem tol_lt (hb : BOK f n) (hn : n ≤ 400) (hT : TKS f n t K V b e) {m : Nat} (hi : i ≤ t) (hw : WF w) : tol K V w i < 0 ∨ ∃ m, m < 1000 ∧ tol K V w i = i32 m := by
  rcases Classical.em (tol K V w i < 0) with c | c
  · exact Or.inl c
  · obtain ⟨m, m1, m2, -⟩ := tol_ok hT hi hw c
    have := (nC_i hw).2.1
    exact Or.inr ⟨m, by omega, m2⟩
theorem v_sn2 (hb : BOK f n) (hn : n ≤ 400) (hT : TKS f n t K V b e) {j : Nat} (h : RST f n M0 M p g w s) (hj : j ≤ t) (hw : WF w) : V_m_isSingle (tol K V w j) M = b32 (sng w (tol K V w j)) := by
  rcases tol_lt hb hn hT (m := 0) hj hw with c | ⟨m, m1, m2⟩
  · exact v_sng hb hn hT (m := 0) h (by omega) (Or.inl c)
  · exact v_sng hb hn hT (m := m) h m1 (Or.inr m2)
theorem r_wed (hb : BOK f n) (hn : n ≤ 400) (hT : TKS f n t K V b e) (h : RST f n M0 M p g w s) (hw : WF w) (hi : i ≤ t) (hp : PT e b i p) (hQ : ∀ r M', ROK f n t b e M0 (pWed K V (w, s) i) r M' → Q r M') : W_m_readWed N M Q := by
  unfold W_m_readWed
  refine r_tol hb hn hT h hw hi hp (fun M2 h2 => ?_)
  unfold pWed at hQ
  dsimp only at hQ
  rw [v_sn2 hb hn hT h2 hi hw]
  by_cases c1 : sng w (tol K V w i) = true
  · rw [if_pos c1] at hQ
    rw [c1]
    refine ⟨fun y => absurd y (by decide), fun _ => ?_⟩
    obtain ⟨a1, a2⟩ := tol_T hb hn hT hw hi (sng_m c1)
    obtain ⟨c, k1, k2, -⟩ := tol_ok hT hi hw (sng_m c1)
    have hle := (nC_i hw).2.1
    refine r_tol hb hn hT h2 hw (i := i + 1) (by omega) a1 (fun M5 h5 => ?_)
    rw [v_sn2 hb hn hT h5 (by omega) hw]
    by_cases c2 : sng w (tol K V w (i + 1)) = true
    · rw [c2]
      refine ⟨fun y => absurd y (by decide), fun _ => ⟨fun y => ?_, fun y => ?_⟩⟩
      · rw [if_neg (fun z => z.2 y)] at hQ
        exact hQ 0 _ (Or.inr ⟨rfl, i + 1, rfl, by omega, RST_g h5⟩)
      · rw [if_pos ⟨c2, y⟩] at hQ
        obtain ⟨a3, a4⟩ := tol_T hb hn hT hw (i := i + 1) (by omega) (sng_m c2)
        obtain ⟨d, l1, l2, -⟩ := tol_ok hT (i := i + 1) (by omega) hw (sng_m c2)
        rw [k2, l2, ni_i (by omega), ni_i (by omega)] at hQ
        rw [k2, l2]
        unfold W_m_weds
        rw [show V_m_of (i32 c) 1 M5 = cl w c 1 from of_row (i := 1) h5.2.1 (by omega) (by omega), show V_m_of (i32 d) 1 M5 = cl w d 1 from of_row (i := 1) h5.2.1 (by omega) (by omega)]
        refine r_set (c := c) (k := 4) h5 (by omega) (by omega) rfl (fun M6 h6 => ?_)
        refine r_set (c := d) (k := 4) h6 (by omega) (by omega) rfl (fun M7 h7 => ?_)
        refine r_set (c := c) (k := 1) h7 (by omega) (by omega) rfl (fun M8 h8 => ?_)
        refine r_set (c := d) (k := 1) h8 (by omega) (by omega) rfl (fun M9 h9 => ?_)
        exact hQ 1 _ (Or.inl ⟨rfl, _, i + 2, _, _, rfl, by omega, h9, a3⟩)
    · rw [if_neg (fun z => c2 z.1)] at hQ
      rw [Bool.not_eq_true] at c2
      rw [c2]
      exact ⟨fun _ => hQ 0 _ (Or.inr ⟨rfl, i + 1, rfl, by omega, RST_g h5⟩), fun y => absurd rfl y⟩
  · rw [if_neg c1] at hQ
    rw [Bool.not_eq_true] at c1
    rw [c1]
    exact ⟨fun _ => hQ 0 _ (Or.inr ⟨rfl, i, rfl, hi, RST_g h2⟩), fun y => absurd rfl y⟩
theorem r_sen (hb : BOK f n) (hn : n ≤ 400) (hT : TKS f n t K V b e) (h : RST f n M0 M p g w s) (hw : WF w) (hi : i ≤ t) (hp : PT e b i p) (hQ : ∀ r M', ROK f n t b e M0 (pSeen K V (sz b e) (w, s) i) r M' → Q r M') : W_m_readSeen N M Q := by
  unfold W_m_readSeen
  refine r_tol hb hn hT h hw hi hp (fun M2 h2 => ?_)
  unfold pSeen at hQ
  dsimp only at hQ
  refine ⟨fun c1 => ?_, fun c1 => ?_⟩
  · rw [if_pos c1] at hQ
    exact hQ 0 _ (Or.inr ⟨rfl, i, rfl, hi, RST_g h2⟩)
  · rw [if_neg c1] at hQ
    obtain ⟨a1, a2⟩ := tol_T hb hn hT hw hi c1
    obtain ⟨c, k1, k2, -⟩ := tol_ok hT hi hw c1
    have hle := (nC_i hw).2.1
    refine r_mt hb hn hT h2 (i := i + 1) (by omega) a1 (fun M7 h7 => ?_)
    by_cases c2 : mtq K V (sz b e) (i + 1) = true
    · rw [if_pos c2] at hQ ⊢
      obtain ⟨m1, m2, m3, m4, m5, m6, m7⟩ := mtq_ok hT (i := i + 1) (by omega) c2
      refine ⟨fun y => absurd y m6, fun _ => ⟨fun y => absurd y m6, fun _ => ?_⟩⟩
      rw [k2, ni_i (by omega)] at hQ
      rw [k2, ni_i (by omega), h7.2.2.1]
      exact hQ 1 _ (Or.inl ⟨rfl, _, i + 2, _, _, rfl, by omega, RST_j h7, (np_T hb hn hT (i := i + 1) (by omega) m1).1⟩)
    · rw [if_neg c2] at hQ ⊢
      have := hQ 0 M7 (Or.inr ⟨rfl, i + 1, rfl, by omega, RST_g h7⟩)
      exact ⟨fun _ => ⟨fun _ => this, fun y => absurd (by decide) y⟩, fun y => absurd (by decide) y⟩
theorem r_rln (hb : BOK f n) (hn : n ≤ 400) (hT : TKS f n t K V b e) {k F : Nat} {C : Int32} (hF : 400 < F) (hC : C < 1000) (hx : mx 0 (M0.1 190 15) - 1 = C) (hk : k ≤ 14) (h : RST f n M0 M p g w s) (hw : WF w) (hi : i ≤ t) (hp : PT e b i p) (hQ : ∀ r M', ROK f n t b e M0 (if k = 14 then (none, i) else pRL K V (sz b e) C F (w, s) i) r M' → Q r M') : W_m_readLine 0 (i32 k) N M Q := by
  unfold W_m_readLine
  refine r_lts hb hn hT h hi hp (fun e' M2 he h2 => ?_)
  refine ⟨fun _ => ?_, fun y => absurd rfl y⟩
  unfold W_m_readRepublicLine
  refine ⟨fun h14 => ?_, fun h14 => ?_⟩
  · rw [if_pos ((i32_ij (b := 14) (by omega) (by omega)).mp h14)] at hQ
    exact hQ 0 _ (Or.inr ⟨rfl, i, rfl, hi, RST_g h2⟩)
  · rw [if_neg (fun y => h14 (by rw [y]; rfl))] at hQ
    unfold pRL at hQ
    dsimp only at hQ
    refine r_isw hb hn hT st_citizen (by omega) h2 hi he (fun hk1 ee hlt hp' => ?_) (fun hk1 => ?_)
    · rw [if_pos (show K i = 11 from hk1)] at hQ
      refine ⟨fun y => absurd y (by decide), fun _ => ?_⟩
      exact r_cit hb hn hT hF hC hx h2 hw (by omega) hp' rfl hQ
    rw [if_neg (show ¬ K i = 11 from hk1)] at hQ
    refine ⟨fun _ => ?_, fun y => absurd rfl y⟩
    refine r_isw hb hn hT st_watch (by omega) h2 hi he (fun hk2 ee hlt hp' => ?_) (fun hk2 => ?_)
    · rw [if_pos (show K i = 15 from hk2)] at hQ
      refine ⟨fun y => absurd y (by decide), fun _ => ?_⟩
      exact r_num hb hn hT (by decide) h2 (i := i + 1) (by omega) hp' hQ rfl
    rw [if_neg (show ¬ K i = 15 from hk2)] at hQ
    refine ⟨fun _ => ?_, fun y => absurd rfl y⟩
    refine r_isw hb hn hT st_term (by omega) h2 hi he (fun hk3 ee hlt hp' => ?_) (fun hk3 => ?_)
    · rw [if_pos (show K i = 16 from hk3)] at hQ
      refine ⟨fun y => absurd y (by decide), fun _ => ?_⟩
      exact r_num hb hn hT (by decide) h2 (i := i + 1) (by omega) hp' hQ rfl
    rw [if_neg (show ¬ K i = 16 from hk3)] at hQ
    refine ⟨fun _ => ?_, fun y => absurd rfl y⟩
    refine r_isw hb hn hT st_wed (by omega) h2 hi he (fun hk4 ee hlt hp' => ?_) (fun hk4 => ?_)
    · rw [if_pos (show K i = 18 from hk4)] at hQ
      refine ⟨fun y => absurd y (by decide), fun _ => ?_⟩
      exact r_wed hb hn hT h2 hw (i := i + 1) (by omega) hp' hQ
    rw [if_neg (show ¬ K i = 18 from hk4)] at hQ
    refine ⟨fun _ => ?_, fun y => absurd rfl y⟩
    refine r_isw hb hn hT st_seen (by omega) h2 hi he (fun hk5 ee hlt hp' => ?_) (fun hk5 => ?_)
    · rw [if_pos (show K i = 19 from hk5)] at hQ
      refine ⟨fun y => absurd y (by decide), fun _ => ?_⟩
      exact r_sen hb hn hT h2 hw (i := i + 1) (by omega) hp' hQ
    rw [if_neg (show ¬ K i = 19 from hk5)] at hQ
    refine ⟨fun _ => ?_, fun y => absurd rfl y⟩
    refine r_isw hb hn hT st_harm (by omega) h2 hi he (fun hk6 ee hlt hp' => ?_) (fun hk6 => ?_)
    · rw [if_pos (show K i = 17 from hk6)] at hQ
      refine ⟨fun y => absurd y (by decide), fun _ => ?_⟩
      unfold pHarm at hQ
      refine r_nm hb hn hT (by decide) h2 (i := i + 1) (by omega) hp' (fun M21 h21 => ?_)
      refine ⟨fun c => ?_, fun c => ?_⟩
      · rw [if_pos c] at hQ
        exact hQ 0 _ (Or.inr ⟨rfl, i + 1, rfl, by omega, RST_g h21⟩)
      · rw [if_neg c] at hQ
        obtain ⟨m, m1, m2, m3, m4, m5, m6, m7⟩ := nm_ok hT (i := i + 1) (by omega) c
        refine r_num hb hn hT (by decide) h21 (i := i + 1 + 1) (by omega) (np_T hb hn hT (i := i + 1) (by omega) m4).1 (fun r M' hh => ?_) (k := 10 + ni (nm K V 0 7 (i + 1))) (by rw [m2, show (10 : Int32) + i32 m = i32 (10 + m) from i32_a 10 m, ni_i (by omega), ni_i (by omega)])
        have hq := hQ r M' hh
        rcases hh with ⟨rfl, -⟩ | ⟨rfl, -⟩
        · exact ⟨fun y => absurd y (by decide), fun _ => hq⟩
        · exact ⟨fun _ => hq, fun y => absurd rfl y⟩
    · rw [if_neg (show ¬ K i = 17 from hk6)] at hQ
      exact ⟨fun _ => hQ 0 _ (Or.inr ⟨rfl, i, rfl, hi, RST_g h2⟩), fun y => absurd rfl y⟩
theorem r_all0 (hb : BOK f n) (hn : n ≤ 400) (hT : TKS f n t K V b e) {F : Nat} {C : Int32} (hF : 400 < F) (hC : C < 1000) (hx : mx 0 (M.1 190 15) - 1 = C) (h18 : M.1 190 18 = i32 n) (h203 : ∀ j, j < n → M.1 203 j = (f j).toInt8.toInt32) (h191 : M.1 191 = w) (h196 : M.2 196 = s) (hw : WF w) (hQ : ∀ r M', ((∃ q j, pRep K V (sz b e) C F (w, s) = (some q, j) ∧ ¬ r < 0 ∧ M'.1 191 = q.1 ∧ M'.2 196 = q.2 ∧ WKP w q.1) ∨ (∃ j, pRep K V (sz b e) C F (w, s) = (none, j) ∧ j ≤ t ∧ r < 0 ∧ M'.1 190 21 = i32 (b j))) → Eqo ([(190, 190, some 0), (190, 190, some 20), (190, 190, some 18), (190, 190, some 19), (190, 190, some 25)] ++ fq3) M M' → M'.1 190 18 = 0 → M'.1 190 0 = 0 → Q r M') : W_m_readAll 0 N M Q := by
  have ht := hT.1
  unfold W_m_readAll W_m_uses
  dsimp only
  have e1 : Eqo [(190, 190, some 0), (190, 190, some 20), (190, 190, some 18), (190, 190, some 19), (190, 190, some 25)] M (wi (wi (wi (wi (wi M 190 0 0) 190 20 ((wi M 190 0 0).1 190 18)) 190 18 0) 190 19 0) 190 25 0) := eqo_wi (i := 4) (eqo_wi (i := 3) (eqo_wi (i := 2) (eqo_wi (i := 1) (eqo_wi (i := 0) (eqo_rf _) rfl (Or.inr rfl)) rfl (Or.inr rfl)) rfl (Or.inr rfl)) rfl (Or.inr rfl)) rfl (Or.inr rfl)
  have z1 : (wi (wi (wi (wi (wi M 190 0 0) 190 20 ((wi M 190 0 0).1 190 18)) 190 18 0) 190 19 0) 190 25 0).1 190 18 = 0 := by simp (disch := omega) only [wi_1n, wi_1e]
  have z0 : (wi (wi (wi (wi (wi M 190 0 0) 190 20 ((wi M 190 0 0).1 190 18)) 190 18 0) 190 19 0) 190 25 0).1 190 0 = 0 := by simp (disch := omega) only [wi_1n, wi_1e]
  generalize hM1 : wi (wi (wi (wi (wi M 190 0 0) 190 20 ((wi M 190 0 0).1 190 18)) 190 18 0) 190 19 0) 190 25 0 = M1 at *
  have s20 : M1.1 190 20 = i32 n := by
    rw [← hM1]
    simp (disch := omega) only [wi_1n, wi_1e]
    exact h18
  have s19 : M1.1 190 19 = i32 0 := by
    rw [← hM1]
    simp (disch := omega) only [wi_1n, wi_1e]
    rfl
  have s203 : ∀ j, j < n → M1.1 203 j = (f j).toInt8.toInt32 := fun j hj => by
    rw [← hM1]
    simp (disch := omega) only [wi_1n]
    exact h203 j hj
  have s15 : mx 0 (M1.1 190 15) - 1 = C := by
    rw [← hM1]
    simp (disch := omega) only [wi_1n]
    exact hx
  have s191 : M1.1 191 = w := by
    rw [← hM1, ← h191]
    funext j
    simp (disch := omega) only [wi_1n]
  have s196 : M1.2 196 = s := by
    rw [← hM1]
    exact h196
  obtain ⟨g1, hg1⟩ := i32_ex (M1.1 190 21)
  have tx : RST f n M1 M1 0 g1 w s := ⟨⟨s20, s19, hg1, s203⟩, s191, s196, eqo_rf _⟩
  replace hQ : ∀ r M', ((∃ q j, pRep K V (sz b e) C F (w, s) = (some q, j) ∧ ¬ r < 0 ∧ M'.1 191 = q.1 ∧ M'.2 196 = q.2 ∧ WKP w q.1) ∨ (∃ j, pRep K V (sz b e) C F (w, s) = (none, j) ∧ j ≤ t ∧ r < 0 ∧ M'.1 190 21 = i32 (b j))) → Eqo fq3 M1 M' → Q r M' := fun r M' h1 h2 => hQ r M' h1 (eqo_app e1 h2) (by rw [eq1 h2 (b := 190) (k := 18) rfl]; exact z1) (by rw [eq1 h2 (b := 190) (k := 0) rfl]; exact z0)
  have p0 : PT e b 0 0 := PT_0.mpr (Nat.zero_le _)
  refine r_blanks tx.1 hb hn (by omega) (fun q hq => ?_)
  obtain rfl := NB_u hq (tk_nb hT (by omega) p0)
  rw [show (atP M1 (b 0) (b 0)).1 190 19 = i32 (b 0) from rfl, show (atP M1 (b 0) (b 0)).1 190 20 = i32 n from s20]
  have hb0 := (hT.2.2.2 0 (by omega)).2.1
  refine ⟨fun h0 => ?_, fun h0 => ?_⟩
  · have hk := (tkn_21 hT (by omega)).mp ((i32_ij (by omega) (by omega)).mp h0)
    refine hQ 0 _ (Or.inl ⟨(w, s), 0, ?_, by decide, s191, s196, hw, rfl, rfl⟩) (RST_at tx).2.2.2
    unfold pRep
    rw [if_pos hk]
  · have hk : ¬ K 0 = 21 := fun x => h0 (by rw [(tkn_21 hT (by omega)).mpr x])
    have hpc : pRep K V (sz b e) C F (w, s) = pRs K V (sz b e) C F 14 (w, s) 0 := by
      unfold pRep
      rw [if_neg hk]
    rw [hpc] at hQ
    refine I_m_readAll_28 0 Q (fun v M' => ∃ (m k : Nat) (q : WRS) (i p g : Nat), k + m = 14 ∧ v = i32 k ∧ i ≤ t ∧ RST f n M1 M' p g q.1 q.2 ∧ PT e b i p ∧ WKP w q.1 ∧ pRs K V (sz b e) C F 14 (w, s) 0 = pRs K V (sz b e) C F m q i) (fun N ih v M' hih hv => ?_) N _ _ ⟨14, 0, (w, s), 0, b 0, b 0, rfl, rfl, by omega, RST_at tx, PT_b hT (by omega), ⟨hw, rfl, rfl⟩, rfl⟩
    obtain ⟨m, k, q, i, p, g, k1, rfl, k2, k3, k4, k5, k8⟩ := hv
    unfold B_m_readAll_28
    refine r_rln hb hn hT hF hC s15 (by omega) k3 k5.1 k2 k4 (fun r M7 hr => ?_)
    rcases hr with ⟨rfl, q', j, p', g', j1, j2, j3, j4⟩ | ⟨rfl, j, j1, j2, j3, e7⟩
    · refine ⟨fun x => absurd x (by decide), fun _ => ?_⟩
      have hne : ¬ k = 14 := fun x => by
        rw [if_pos x] at j1
        exact non j1
      rw [if_neg hne] at j1
      have hW := pRL_ok hT k2 k5.1 j1
      have hW' : WKP w q'.1 := ⟨hW.1, hW.2.1.trans k5.2.1, hW.2.2.trans k5.2.2⟩
      obtain ⟨m2, rfl⟩ : ∃ m2, m = m2 + 1 := ⟨m - 1, by omega⟩
      have k8' : pRs K V (sz b e) C F 14 (w, s) 0 = (if K j = 21 then (some q', j) else if K j = 59 then pRs K V (sz b e) C F m2 q' (j + 1) else (none, j)) := by
        rw [k8]
        show (match pRL K V (sz b e) C F (q.1, q.2) i with | (none, j) => (none, j) | (some q', j) => _) = _
        rw [j1]
      refine r_blanks j3.1 hb hn (tk_pn hT j2 j4) (fun z hz => ?_)
      obtain rfl := NB_u hz (tk_nb hT j2 j4)
      have h8 := RST_at (p' := b j) (g' := b j) j3
      have hbj := (hT.2.2.2 j j2).2.1
      rw [show (atP M7 (b j) (b j)).1 190 19 = i32 (b j) from rfl, show (atP M7 (b j) (b j)).1 190 20 = i32 n from j3.1.1]
      rw [show ((i32 (b j)) = i32 n) = (K j = 21) from propext ((i32_ij (by omega) (by omega)).trans (tkn_21 hT j2))]
      refine ⟨fun h21 => ?_, fun h21 => ?_⟩
      · rw [if_pos h21] at k8'
        refine hQ _ _ (Or.inl ⟨q', j, k8', ?_, h8.2.1, h8.2.2.1, hW'⟩) h8.2.2.2
        rw [i32_s, lt_lit, i32_i (by omega)]
        show ¬ (((k + 1 : Nat) : Int) < 0)
        omega
      · rw [if_neg h21] at k8'
        obtain ⟨q1, q2⟩ := tkn_59 hT j2
        rw [v_at h8.1 hb hn (by omega) (by decide) (by decide)]
        rw [show (59 : Int32).toInt = 59 from rfl]
        refine ⟨fun h59 => ?_, fun h59 => ?_⟩
        · have hno : ¬ K j = 59 := fun y => by
            rw [b32_eq0, decide_eq_false_iff_not] at h59
            exact h59 (q1.mpr y)
          rw [if_neg hno] at k8'
          exact hQ _ _ (Or.inr ⟨j, k8', j2, by decide, (RST_g h8).1⟩) h8.2.2.2
        · have hyes : K j = 59 := by
            rw [b32_ne0, decide_eq_true_eq] at h59
            exact q1.mp h59
          rw [if_pos hyes] at k8'
          have hlt := tk_lt hT j2 h21
          refine hih _ _ ⟨m2, k + 1, q', j + 1, b j + 1, b j, by omega, i32_s k, by omega, ?_, ?_, hW', k8'⟩
          · rw [i32_s, atP_p]
            exact RST_at j3
          · have := PT_s hT hlt
            rw [q2 hyes] at this
            exact this
    · refine ⟨fun _ => ?_, fun x => absurd rfl x⟩
      refine hQ _ _ (Or.inr ⟨j, ?_, j2, by decide, j3⟩) e7
      rw [k8]
      by_cases h14 : k = 14
      · rw [if_pos h14] at j1
        obtain rfl : m = 0 := by omega
        show (none, i) = (none, j)
        exact congrArg _ (congrArg Prod.snd j1)
      · rw [if_neg h14] at j1
        obtain ⟨m2, rfl⟩ : ∃ m2, m = m2 + 1 := ⟨m - 1, by omega⟩
        show (match pRL K V (sz b e) C F (q.1, q.2) i with | (none, j) => (none, j) | (some q', j) => _) = _
        rw [j1]
end R3
end
section
/-! A REPUBLIC'S TEXT: the class reads it all -/
section C3
variable {f : BY} {n t i N : Nat} {K V S6 : Nat → Int32} {b e : Nat → Nat} {M M' : MM} {w w' : RW} {s s' : RS} {x : Int32} {Q : Int32 → MM → Prop}
theorem c_cit {F : Nat} {C : Int32} (hS : ∀ i, i ≤ t → (S6 i = 2 ↔ sz b e i = 2)) (hT : TKS f n t K V b e) (hF : 400 < F) (hx : x - 1 = C) (h : CST t K V S6 x M i w s) (hw : WF w) (hn : nC w < 10) (hi : i ≤ t) (hQ : ∀ r M', COK t K V S6 x (pCit K V (sz b e) C F (w, s) i) r M' → Q r M') : W_RepublicReader_readCitizen N M Q := by
  unfold W_RepublicReader_readCitizen W_Text_goOn
  unfold pCit at hQ
  dsimp only at hQ
  rw [ckd h hT hi]
  refine ⟨fun hk => ?_, fun hk => ?_⟩
  · rw [if_pos hk] at hQ
    have i1 := tk_lt hT hi (by rw [hk]; decide)
    refine c_nm hT (CST_g h) (i := i + 1) (by omega) (fun M5 hneg i2 h5 => ?_) (fun hneg _ => ?_)
    · rw [if_neg hneg] at hQ
      refine ⟨fun y => absurd ((nm_n hT (by omega)).mpr y) hneg, fun _ => ?_⟩
      rw [ckd h5 hT (by omega)]
      refine ⟨fun hk2 => ?_, fun hk2 => ?_⟩
      · rw [if_pos (show K (i + 2) = 13 from hk2)] at hQ
        have i3 := tk_lt hT (i := i + 1 + 1) (by omega) (by rw [hk2]; decide)
        have h9 := CST_g h5
        refine c_addC h9.2.2.1 hw hn (fun M11 c11 e11 => ?_)
        have h11 := CST_e h9 e11 rfl c11
        have hnm1 : ¬ i32 (nC w) = -1 := fun y => by
          have := congrArg Int32.toInt y
          rw [i32_i (by omega)] at this
          have e3 : ((-1 : Int32)).toInt = -1 := rfl
          omega
        refine ⟨fun y => absurd y hnm1, fun _ => ?_⟩
        refine c_hab hS hT hn h11 (i := i + 1 + 1 + 1) (by omega) (fun r13 M14 h14 => ?_)
        replace hQ : ∀ r M', COK t K V S6 x (match pHab K V (sz b e) (nC w) 6 0 (i + 3) (citW w (nC w) (nm K V 0 100 (i + 1))) with
            | (none, j) => (none, j)
            | (some w2, j) => if K j = 14 then (match pKn K V C (nC w) F (j + 1) w2 with
              | (none, j') => (none, j')
              | (some w3, j') => (some (morW w3, us s (nC w) (Int64.ofNat 0)), j')) else (some (morW w2, us s (nC w) (Int64.ofNat 0)), j)) r M' → Q r M' := hQ
        rcases h14 with ⟨rfl, w2, j, j1, j2, j3⟩ | ⟨rfl, j, j1, j2, j3⟩
        · replace j1 : pHab K V (sz b e) (nC w) 6 0 (i + 3) (citW w (nC w) (nm K V 0 100 (i + 1))) = (some w2, j) := j1
          rw [j1] at hQ
          refine ⟨fun y => absurd y (by decide), fun _ => ?_⟩
          obtain ⟨r1, -⟩ := pHab_ok hT 6 0 (i + 3) _ w2 j (by omega) rfl (fun y hy => by omega) j1
          have w20 : w2 0 = i32 (nC w) := by rw [r1 0 (by omega), cit_k (by omega)]; exact (nC_i hw).2.2
          have fin : ∀ w3 : RW, w3 0 = w2 0 → mo (nC w) w3 = morW w3 := fun w3 h3 => by
            unfold mo morW
            rw [h3, w20, i32_s]
          rw [ckd j3 hT j2]
          refine ⟨fun hk3 => ?_, fun hk3 => ?_⟩
          · replace hQ : ∀ r M', COK t K V S6 x (match pKn K V C (nC w) F (j + 1) w2 with
              | (none, j') => (none, j')
              | (some w3, j') => (some (morW w3, us s (nC w) (Int64.ofNat 0)), j')) r M' → Q r M' := fun r M' hh => hQ r M' (by
                show COK t K V S6 x (if K j = 14 then _ else _) r M'
                rw [if_pos hk3]
                exact hh)
            refine c_kno hT hF hn hx j3 hk3 j2 (fun r17 M18 h18 => ?_)
            rcases h18 with ⟨rfl, w3, j', l1, l2, l3⟩ | ⟨rfl, j', l1, l2, l3⟩
            · rw [l1] at hQ
              rw [fin w3 (pKn_ok F (j + 1) w2 w3 j' l1 0 (by omega))] at l3
              exact ⟨fun y => absurd y (by decide), fun _ => hQ 1 _ (Or.inl ⟨rfl, _, j', rfl, l2, l3⟩)⟩
            · rw [l1] at hQ
              exact ⟨fun _ => hQ 0 _ (Or.inr ⟨rfl, j', rfl, l2, l3⟩), fun y => absurd rfl y⟩
          · replace hQ : ∀ r M', COK t K V S6 x (some (morW w2, us s (nC w) (Int64.ofNat 0)), j) r M' → Q r M' := fun r M' hh => hQ r M' (by
                show COK t K V S6 x (if K j = 14 then _ else _) r M'
                rw [if_neg hk3]
                exact hh)
            rw [fin w2 rfl] at j3
            exact hQ 1 _ (Or.inl ⟨rfl, _, j, rfl, j2, j3⟩)
        · replace j1 : pHab K V (sz b e) (nC w) 6 0 (i + 3) (citW w (nC w) (nm K V 0 100 (i + 1))) = (none, j) := j1
          rw [j1] at hQ
          exact ⟨fun _ => hQ 0 _ (Or.inr ⟨rfl, j, rfl, j2, j3⟩), fun y => absurd rfl y⟩
      · rw [if_neg (show ¬ K (i + 2) = 13 from hk2)] at hQ
        exact hQ 0 _ (Or.inr ⟨rfl, i + 2, rfl, by omega, h5.1⟩)
    · rw [if_pos hneg] at hQ
      exact ⟨fun _ => hQ 0 _ (Or.inr ⟨rfl, i + 1, rfl, by omega, (CST_g h).1⟩), fun y => absurd rfl y⟩
  · rw [if_neg hk] at hQ
    exact hQ 0 M (Or.inr ⟨rfl, i, rfl, hi, h.1⟩)
theorem c_wat (hT : TKS f n t K V b e) (h : CST t K V S6 x M i w s) (hi : i ≤ t) (hQ : ∀ r M', COK t K V S6 x (pNum K V 7 0 100 (w, s) i) r M' → Q r M') : W_RepublicReader_readWatch N M Q := by
  unfold W_RepublicReader_readWatch
  unfold pNum at hQ
  refine c_nm hT h hi (fun M2 hneg hlt h2 => ?_) (fun hneg hm1 => ?_)
  · rw [if_neg hneg] at hQ
    exact ⟨fun y => absurd ((nm_n hT hi).mpr y) hneg, fun _ => hQ 1 _ (Or.inl ⟨rfl, _, i + 1, rfl, by omega, CST_e h2 (eqo_1 (a := 30) (k := 11)) rfl (CW_sc (fa := 11) (k := 7) h2.2.2.1 (by omega))⟩)⟩
  · rw [if_pos hneg] at hQ
    exact ⟨fun _ => hQ 0 _ (Or.inr ⟨rfl, i, rfl, hi, TKc_e h.1 (eqo_1 (a := 30) (k := 11)) rfl⟩), fun y => absurd rfl y⟩
theorem c_ter (hT : TKS f n t K V b e) (h : CST t K V S6 x M i w s) (hi : i ≤ t) (hQ : ∀ r M', COK t K V S6 x (pNum K V 8 1 30 (w, s) i) r M' → Q r M') : W_RepublicReader_readTerm N M Q := by
  unfold W_RepublicReader_readTerm
  unfold pNum at hQ
  refine c_nm hT h hi (fun M2 hneg hlt h2 => ?_) (fun hneg hm1 => ?_)
  · rw [if_neg hneg] at hQ
    exact ⟨fun y => absurd ((nm_n hT hi).mpr y) hneg, fun _ => hQ 1 _ (Or.inl ⟨rfl, _, i + 1, rfl, by omega, CST_e h2 (eqo_1 (a := 30) (k := 12)) rfl (CW_sc (fa := 12) (k := 8) h2.2.2.1 (by omega))⟩)⟩
  · rw [if_pos hneg] at hQ
    exact ⟨fun _ => hQ 0 _ (Or.inr ⟨rfl, i, rfl, hi, TKc_e h.1 (eqo_1 (a := 30) (k := 12)) rfl⟩), fun y => absurd rfl y⟩
theorem c_har (hT : TKS f n t K V b e) (h : CST t K V S6 x M i w s) (hi : i ≤ t) (hQ : ∀ r M', COK t K V S6 x (pHarm K V (w, s) i) r M' → Q r M') : W_RepublicReader_readHarm N M Q := by
  unfold W_RepublicReader_readHarm
  unfold pHarm pNum at hQ
  refine c_nm hT h hi (fun M2 hneg hlt h2 => ?_) (fun hneg hm1 => ?_)
  · rw [if_neg hneg] at hQ
    refine ⟨fun y => absurd ((nm_n hT hi).mpr y) hneg, fun _ => ?_⟩
    obtain ⟨m, m1, m2, m3, m4, m5, m6, m7⟩ := nm_ok hT hi hneg
    rw [m3] at m6
    have hm7 : m ≤ 7 := by
      have : ¬ 7 < m := fun y => m6 ((i32_lt (j := 7) (by omega) (by omega)).mpr y)
      omega
    rw [m2, ni_i (by omega)] at hQ ⊢
    refine c_nm hT h2 (i := i + 1) (by omega) (fun M5 hneg2 hlt2 h5 => ?_) (fun hneg2 hm2 => ?_)
    · rw [if_neg hneg2] at hQ
      exact ⟨fun y => absurd ((nm_n hT (by omega)).mpr y) hneg2, fun _ => hQ 1 _ (Or.inl ⟨rfl, _, i + 1 + 1, rfl, by omega, CST_e h5 (eqo_a (a := 39) (k := m)) rfl (CW_hm (d := m) h5.2.2.1 (by omega))⟩)⟩
    · rw [if_pos hneg2] at hQ
      exact ⟨fun _ => hQ 0 _ (Or.inr ⟨rfl, i + 1, rfl, by omega, TKc_e h2.1 (eqo_a (a := 39) (k := m)) rfl⟩), fun y => absurd rfl y⟩
  · rw [if_pos hneg] at hQ
    exact ⟨fun _ => hQ 0 _ (Or.inr ⟨rfl, i, rfl, hi, h.1⟩), fun y => absurd rfl y⟩
theorem i32_nm1 {m : Nat} (h : m < 2147483648) : ¬ i32 m = -1 := fun y => by
  have := congrArg Int32.toInt y
  rw [i32_i h] at this
  have e3 : ((-1 : Int32)).toInt = -1 := rfl
  omega
theorem c_wed (hT : TKS f n t K V b e) (h : CST t K V S6 x M i w s) (hw : WF w) (hi : i ≤ t) (hQ : ∀ r M', COK t K V S6 x (pWed K V (w, s) i) r M' → Q r M') : W_RepublicReader_readWed N M Q := by
  unfold W_RepublicReader_readWed
  unfold pWed at hQ
  dsimp only at hQ
  have hle := (nC_i hw).2.1
  refine c_liv hT h hw hi (fun M2 hneg hlt hnp hsg h2 => ?_) (fun hbad => ?_)
  · have hs : sng w (tol K V w i) = true := by
      rcases hsg with c | c
      · exact absurd c (by decide)
      · exact c
    obtain ⟨c, k1, k2, -⟩ := tol_ok hT hi hw hneg
    rw [if_pos hs] at hQ
    rw [k2]
    refine ⟨fun y => absurd y (i32_nm1 (by omega)), fun _ => ?_⟩
    refine c_liv hT h2 hw (i := i + 1) (by omega) (fun M5 hneg2 hlt2 hnp2 hsg2 h5 => ?_) (fun hbad2 => ?_)
    · have hs2 : sng w (tol K V w (i + 1)) = true := by
        rcases hsg2 with c | c
        · exact absurd c (by decide)
        · exact c
      obtain ⟨d, l1, l2, -⟩ := tol_ok hT (i := i + 1) (by omega) hw hneg2
      rw [if_pos ⟨hs2, fun y => hnp2 (by rw [← y, k2])⟩, k2, l2, ni_i (by omega), ni_i (by omega)] at hQ
      rw [l2]
      refine ⟨fun y => absurd y (i32_nm1 (by omega)), fun _ => ?_⟩
      unfold W_World_marry
      have hcd : c ≠ d := fun e => hnp2 (by rw [l2, e])
      rw [ni_i (by omega), ni_i (by omega)]
      have h5' := h5.2.2.1
      have q1 : M5.1 31 c = cl w c 1 := (h5'.2.2.2.1 c k1).1
      have q2 : M5.1 31 d = cl w d 1 := (h5'.2.2.2.1 d l1).1
      have r31 : ∀ j, (wi (wi M5 (30 + 4) c (i32 d)) (30 + 4) d (i32 c)).1 (30 + 1) j = M5.1 31 j := fun j => by rw [wi_1n (by omega), wi_1n (by omega)]
      rw [r31, r31, q1, q2, wi_1e]
      have g1 := CW_ct (x := i32 d) h5' hle k1 (Or.inr (Or.inr (Or.inr (Or.inl ⟨rfl, rfl⟩))))
      have n1 : nC (up1 w (18 + 13 * c + 4) (i32 d)) = nC w := by unfold nC; rw [up1_n (by omega)]
      have g2 := CW_ct (x := i32 c) g1 (by rw [n1]; exact hle) (by rw [n1]; exact l1) (Or.inr (Or.inr (Or.inr (Or.inl ⟨rfl, rfl⟩))))
      have n2 : nC (up1 (up1 w (18 + 13 * c + 4) (i32 d)) (18 + 13 * d + 4) (i32 c)) = nC w := by unfold nC; rw [up1_n (by omega), up1_n (by omega)]
      have g3 := CW_ct (x := cl w c 1 ||| cl w d 1) g2 (by rw [n2]; exact hle) (by rw [n2]; exact k1) (Or.inl ⟨rfl, rfl⟩)
      have n3 : nC (up1 (up1 (up1 w (18 + 13 * c + 4) (i32 d)) (18 + 13 * d + 4) (i32 c)) (18 + 13 * c + 1) (cl w c 1 ||| cl w d 1)) = nC w := by unfold nC; rw [up1_n (by omega), up1_n (by omega), up1_n (by omega)]
      have g4 := CW_ct (x := cl w c 1 ||| cl w d 1) g3 (by rw [n3]; exact hle) (by rw [n3]; exact l1) (Or.inl ⟨rfl, rfl⟩)
      have e4 : Eqo ([(34, 34, none)] ++ ([(34, 34, none)] ++ ([(31, 31, none)] ++ [(31, 31, none)]))) M5 (wi (wi (wi (wi M5 (30 + 4) c (i32 d)) (30 + 4) d (i32 c)) (30 + 1) c (cl w c 1 ||| cl w d 1)) (30 + 1) d (cl w c 1 ||| cl w d 1)) := eqo_app eqo_a (eqo_app eqo_a (eqo_app eqo_a eqo_a))
      exact hQ 1 _ (Or.inl ⟨rfl, _, i + 2, rfl, by omega, CST_e h5 e4 rfl g4⟩)
    · have : ¬ (sng w (tol K V w (i + 1)) = true ∧ ¬ tol K V w i = tol K V w (i + 1)) := fun ⟨y1, y2⟩ => by
        rcases hbad2 with c1 | ⟨c1, c2⟩ | ⟨c1, c2⟩
        · exact sng_m y1 c1
        · exact y2 (by rw [c2, k2])
        · exact c2 y1
      rw [if_neg this] at hQ
      exact ⟨fun _ => hQ 0 _ (Or.inr ⟨rfl, i + 1, rfl, by omega, h2.1⟩), fun y => absurd rfl y⟩
  · have : ¬ sng w (tol K V w i) = true := fun y => by
      rcases hbad with c1 | ⟨c1, c2⟩ | ⟨c1, c2⟩
      · exact sng_m y c1
      · rw [c2] at c1
        exact c1 (by decide)
      · exact c2 y
    rw [if_neg this] at hQ
    exact ⟨fun _ => hQ 0 _ (Or.inr ⟨rfl, i, rfl, hi, h.1⟩), fun y => absurd rfl y⟩
theorem c_sen (hS : ∀ i, i ≤ t → (S6 i = 2 ↔ sz b e i = 2)) (hT : TKS f n t K V b e) (h : CST t K V S6 x M i w s) (hw : WF w) (hi : i ≤ t) (hQ : ∀ r M', COK t K V S6 x (pSeen K V (sz b e) (w, s) i) r M' → Q r M') : W_RepublicReader_readSeen N M Q := by
  unfold W_RepublicReader_readSeen
  unfold pSeen at hQ
  dsimp only at hQ
  have hle := (nC_i hw).2.1
  refine c_liv hT h hw hi (fun M2 hneg hlt hnp hsg h2 => ?_) (fun hbad => ?_)
  · obtain ⟨c, k1, k2, -⟩ := tol_ok hT hi hw hneg
    rw [if_neg hneg, k2, ni_i (by omega)] at hQ
    rw [k2]
    refine ⟨fun y => absurd y (i32_nm1 (by omega)), fun _ => ?_⟩
    refine c_mt hS hT h2 (i := i + 1) (by omega) (fun M5 hm hlt2 h5 => ?_) (fun hm => ?_)
    · rw [if_pos hm] at hQ
      obtain ⟨m1, m2, m3, m4, m5, m6, m7⟩ := mtq_ok hT (i := i + 1) (by omega) hm
      refine ⟨fun y => absurd y m7, fun _ => ?_⟩
      rw [ni_i (by omega), show M5.2 38 c = s c from (h5.2.2.1.2.2.2.1 c k1).2.2.2.2.2.2.2]
      exact hQ 1 _ (Or.inl ⟨rfl, _, i + 2, rfl, by omega, CST_e h5 (eqo_b (a := 38) (k := c)) rfl (CW_sn h5.2.2.1)⟩)
    · rw [if_neg hm] at hQ
      exact ⟨fun _ => hQ 0 _ (Or.inr ⟨rfl, i + 1, rfl, by omega, h2.1⟩), fun y => absurd rfl y⟩
  · have : tol K V w i < 0 := by
      rcases hbad with c1 | ⟨c1, c2⟩ | ⟨c1, c2⟩
      · exact c1
      · rw [c2]; decide
      · exact absurd rfl c1
    rw [if_pos this] at hQ
    exact ⟨fun _ => hQ 0 _ (Or.inr ⟨rfl, i, rfl, hi, h.1⟩), fun y => absurd rfl y⟩
end C3
end
section
/-! A REPUBLIC'S TEXT: the class reads it all -/
theorem knd {k : Int32} : k < 11 ∨ 19 < k ∨ k = 11 ∨ k = 12 ∨ k = 13 ∨ k = 14 ∨ k = 15 ∨ k = 16 ∨ k = 17 ∨ k = 18 ∨ k = 19 := by
  by_cases h1 : k < 11
  · exact Or.inl h1
  · by_cases h2 : 19 < k
    · exact Or.inr (Or.inl h2)
    · rw [lt_lit, show (11 : Int32).toInt = 11 from rfl] at h1
      rw [lt_lit, show (19 : Int32).toInt = 19 from rfl] at h2
      have e : k = i32 k.toInt.toNat := i32_of (by omega)
      have hm : k.toInt.toNat = 11 ∨ k.toInt.toNat = 12 ∨ k.toInt.toNat = 13 ∨ k.toInt.toNat = 14 ∨ k.toInt.toNat = 15 ∨ k.toInt.toNat = 16 ∨ k.toInt.toNat = 17 ∨ k.toInt.toNat = 18 ∨ k.toInt.toNat = 19 := by omega
      generalize k.toInt.toNat = m at *
      subst e
      rcases hm with c | c | c | c | c | c | c | c | c <;> subst c <;> decide
section C4
variable {f : BY} {n t i N : Nat} {K V S6 : Nat → Int32} {b e : Nat → Nat} {M M' : MM} {w w' : RW} {s s' : RS} {x : Int32} {Q : Int32 → MM → Prop}
theorem c_rln {F : Nat} {C : Int32} (hS : ∀ i, i ≤ t → (S6 i = 2 ↔ sz b e i = 2)) (hT : TKS f n t K V b e) (hF : 400 < F) (hx : x - 1 = C) (h : CST t K V S6 x M i w s) (hw : WF w) (hi : i ≤ t) (hQ : ∀ r M', COK t K V S6 x (pRL K V (sz b e) C F (w, s) i) r M' → Q r M') : W_RepublicReader_readLine N M Q := by
  obtain ⟨e0, hle, ei⟩ := nC_i hw
  unfold W_RepublicReader_readLine W_Text_goOn
  rw [ckd h hT hi, show M.1 30 0 = i32 (nC w) from h.2.2.1.1.1.trans ei]
  unfold pRL at hQ
  dsimp only at hQ
  have bad : (pRL K V (sz b e) C F (w, s) i = (none, i)) → Q 0 M := fun hh => by
    unfold pRL at hh
    dsimp only at hh
    rw [hh] at hQ
    exact hQ 0 M (Or.inr ⟨rfl, i, rfl, hi, h.1⟩)
  unfold pRL at bad
  dsimp only at bad
  have nx : ∀ k : Int32, ¬ k = 21 → K i = k → i + 1 ≤ t := fun k hk hki => tk_lt hT hi (by rw [hki]; exact hk)
  rcases knd (k := K i) with c | c | c | c | c | c | c | c | c | c | c
  · have ne : ∀ k : Int32, ¬ k < 11 → ¬ K i = k := fun k hk hki => hk (by rw [← hki]; exact c)
    have := bad (by rw [if_neg (ne 11 (by decide)), if_neg (ne 15 (by decide)), if_neg (ne 16 (by decide)), if_neg (ne 18 (by decide)), if_neg (ne 19 (by decide)), if_neg (ne 17 (by decide))])
    exact ⟨fun y => absurd y (ne 11 (by decide)), fun _ => ⟨fun _ => this, fun y => absurd c y⟩⟩
  · have ne : ∀ k : Int32, ¬ 19 < k → ¬ K i = k := fun k hk hki => hk (by rw [← hki]; exact c)
    have := bad (by rw [if_neg (ne 11 (by decide)), if_neg (ne 15 (by decide)), if_neg (ne 16 (by decide)), if_neg (ne 18 (by decide)), if_neg (ne 19 (by decide)), if_neg (ne 17 (by decide))])
    exact ⟨fun y => absurd y (ne 11 (by decide)), fun _ => ⟨fun _ => this, fun _ => ⟨fun _ => this, fun y => absurd c y⟩⟩⟩
  · have hlt := nx 11 (by decide) c
    rw [if_pos c] at hQ
    rw [c]
    by_cases h10 : nC w = 10
    · rw [if_pos h10] at hQ
      rw [h10]
      exact ⟨fun _ => ⟨fun y => absurd y (by decide), fun _ => hQ 0 M (Or.inr ⟨rfl, i, rfl, hi, h.1⟩)⟩, fun y => absurd rfl y⟩
    · rw [if_neg h10] at hQ
      have hh : W_RepublicReader_readCitizen N (wi M 3 5 ((M.1 3 5) + 1)) Q := c_cit hS hT hF hx (CST_g h) hw (by omega) (i := i + 1) (by omega) hQ
      refine ⟨fun _ => ⟨fun _ => ⟨fun y => absurd y (by decide), fun _ => ⟨fun y => absurd y (by decide), fun _ => ⟨fun y => absurd y (by decide), fun _ => ⟨fun y => absurd y (by decide), fun _ => ⟨fun y => absurd y (by decide), fun _ => ?_⟩⟩⟩⟩⟩, fun y => absurd ((i32_lt (j := nC w) (k := 10) (by omega) (by omega)).mpr (by omega)) y⟩, fun y => absurd rfl y⟩
      exact ⟨fun _ => hh, fun y => absurd y (by decide), fun y => absurd y (by decide), fun y => absurd y (by decide), fun y => absurd y (by decide), fun y => absurd rfl y⟩
  · have := bad (by rw [c]; rfl)
    rw [c]
    exact ⟨fun y => absurd y (by decide), fun _ => ⟨fun y => absurd y (by decide), fun _ => ⟨fun y => absurd y (by decide), fun _ => ⟨fun _ => this, fun y => absurd rfl y⟩⟩⟩⟩
  · have := bad (by rw [c]; rfl)
    rw [c]
    exact ⟨fun y => absurd y (by decide), fun _ => ⟨fun y => absurd y (by decide), fun _ => ⟨fun y => absurd y (by decide), fun _ => ⟨fun y => absurd y (by decide), fun _ => ⟨fun _ => this, fun y => absurd rfl y⟩⟩⟩⟩⟩
  · have := bad (by rw [c]; rfl)
    rw [c]
    exact ⟨fun y => absurd y (by decide), fun _ => ⟨fun y => absurd y (by decide), fun _ => ⟨fun y => absurd y (by decide), fun _ => ⟨fun y => absurd y (by decide), fun _ => ⟨fun y => absurd y (by decide), fun _ => ⟨fun _ => this, fun y => absurd rfl y⟩⟩⟩⟩⟩⟩
  · have hlt := nx 15 (by decide) c
    rw [if_neg (show ¬ K i = 11 by rw [c]; decide), if_pos c] at hQ
    rw [c]
    have hh := c_wat (N := N) hT (CST_g h) (i := i + 1) (by omega) hQ
    exact ⟨fun y => absurd y (by decide), fun _ => ⟨fun y => absurd y (by decide), fun _ => ⟨fun y => absurd y (by decide), fun _ => ⟨fun y => absurd y (by decide), fun _ => ⟨fun y => absurd y (by decide), fun _ => ⟨fun y => absurd y (by decide), fun _ => ⟨fun y => absurd y (by decide), fun _ => hh, fun y => absurd y (by decide), fun y => absurd y (by decide), fun y => absurd y (by decide), fun _ y => absurd rfl y⟩⟩⟩⟩⟩⟩⟩
  · have hlt := nx 16 (by decide) c
    rw [if_neg (show ¬ K i = 11 by rw [c]; decide), if_neg (show ¬ K i = 15 by rw [c]; decide), if_pos c] at hQ
    rw [c]
    have hh := c_ter (N := N) hT (CST_g h) (i := i + 1) (by omega) hQ
    exact ⟨fun y => absurd y (by decide), fun _ => ⟨fun y => absurd y (by decide), fun _ => ⟨fun y => absurd y (by decide), fun _ => ⟨fun y => absurd y (by decide), fun _ => ⟨fun y => absurd y (by decide), fun _ => ⟨fun y => absurd y (by decide), fun _ => ⟨fun y => absurd y (by decide), fun y => absurd y (by decide), fun _ => hh, fun y => absurd y (by decide), fun y => absurd y (by decide), fun _ _ y => absurd rfl y⟩⟩⟩⟩⟩⟩⟩
  · have hlt := nx 17 (by decide) c
    rw [if_neg (show ¬ K i = 11 by rw [c]; decide), if_neg (show ¬ K i = 15 by rw [c]; decide), if_neg (show ¬ K i = 16 by rw [c]; decide), if_neg (show ¬ K i = 18 by rw [c]; decide), if_neg (show ¬ K i = 19 by rw [c]; decide), if_pos c] at hQ
    rw [c]
    have hh := c_har (N := N) hT (CST_g h) (i := i + 1) (by omega) hQ
    exact ⟨fun y => absurd y (by decide), fun _ => ⟨fun y => absurd y (by decide), fun _ => ⟨fun y => absurd y (by decide), fun _ => ⟨fun y => absurd y (by decide), fun _ => ⟨fun y => absurd y (by decide), fun _ => ⟨fun y => absurd y (by decide), fun _ => ⟨fun y => absurd y (by decide), fun y => absurd y (by decide), fun y => absurd y (by decide), fun _ => hh, fun y => absurd y (by decide), fun _ _ _ y => absurd rfl y⟩⟩⟩⟩⟩⟩⟩
  · have hlt := nx 18 (by decide) c
    rw [if_neg (show ¬ K i = 11 by rw [c]; decide), if_neg (show ¬ K i = 15 by rw [c]; decide), if_neg (show ¬ K i = 16 by rw [c]; decide), if_pos c] at hQ
    rw [c]
    have hh := c_wed (N := N) hT (CST_g h) hw (i := i + 1) (by omega) hQ
    exact ⟨fun y => absurd y (by decide), fun _ => ⟨fun y => absurd y (by decide), fun _ => ⟨fun y => absurd y (by decide), fun _ => ⟨fun y => absurd y (by decide), fun _ => ⟨fun y => absurd y (by decide), fun _ => ⟨fun y => absurd y (by decide), fun _ => ⟨fun y => absurd y (by decide), fun y => absurd y (by decide), fun y => absurd y (by decide), fun y => absurd y (by decide), fun _ => hh, fun _ _ _ _ y => absurd rfl y⟩⟩⟩⟩⟩⟩⟩
  · have hlt := nx 19 (by decide) c
    rw [if_neg (show ¬ K i = 11 by rw [c]; decide), if_neg (show ¬ K i = 15 by rw [c]; decide), if_neg (show ¬ K i = 16 by rw [c]; decide), if_neg (show ¬ K i = 18 by rw [c]; decide), if_pos c] at hQ
    rw [c]
    have hh := c_sen (N := N) hS hT (CST_g h) hw (i := i + 1) (by omega) hQ
    exact ⟨fun y => absurd y (by decide), fun _ => ⟨fun y => absurd y (by decide), fun _ => ⟨fun y => absurd y (by decide), fun _ => ⟨fun y => absurd y (by decide), fun _ => ⟨fun y => absurd y (by decide), fun _ => ⟨fun y => absurd y (by decide), fun _ => ⟨fun y => absurd y (by decide), fun y => absurd y (by decide), fun y => absurd y (by decide), fun y => absurd y (by decide), fun y => absurd y (by decide), fun _ _ _ _ _ => hh⟩⟩⟩⟩⟩⟩⟩
theorem c_all0 {F : Nat} {C : Int32} (hS : ∀ i, i ≤ t → (S6 i = 2 ↔ sz b e i = 2)) (hT : TKS f n t K V b e) (hF : 400 < F) (hx : x - 1 = C) (h : CST t K V S6 x M 0 w s) (hw : WF w) (hQ : ∀ r M', ((∃ q j, pRep K V (sz b e) C F (w, s) = (some q, j) ∧ r = -1 ∧ CW M' 30 q.1 q.2) ∨ (∃ j, pRep K V (sz b e) C F (w, s) = (none, j) ∧ j ≤ t ∧ r = V_Text_begin M' ∧ TKc M' t K V j)) → Q r M') : W_RepublicReader_readAll N M Q := by
  have ht := hT.1
  unfold W_RepublicReader_readAll
  rw [ckd h hT (by omega)]
  refine ⟨fun hk => ?_, fun hk => ?_⟩
  · refine hQ _ _ (Or.inl ⟨(w, s), 0, ?_, rfl, h.2.2.1⟩)
    unfold pRep
    rw [if_pos hk]
  · have hpc : pRep K V (sz b e) C F (w, s) = pRs K V (sz b e) C F 14 (w, s) 0 := by
      unfold pRep
      rw [if_neg hk]
    rw [hpc] at hQ
    refine I_RepublicReader_readAll_16 Q (fun v M' => ∃ (m k : Nat) (q : WRS) (i : Nat), k + m = 14 ∧ v = i32 k ∧ i ≤ t ∧ CST t K V S6 x M' i q.1 q.2 ∧ WF q.1 ∧ pRs K V (sz b e) C F 14 (w, s) 0 = pRs K V (sz b e) C F m q i) (fun N ih v M' hih hv => ?_) N _ _ ⟨14, 0, (w, s), 0, rfl, rfl, by omega, h, hw, rfl⟩
    obtain ⟨m, k, q, i, k1, rfl, k2, k3, k5, k8⟩ := hv
    unfold B_RepublicReader_readAll_16
    refine ⟨fun hl => ?_, fun hl => ?_⟩
    · have hk14 : k < 14 := (i32_lt (k := 14) (by omega) (by omega)).mp hl
      obtain ⟨m2, rfl⟩ : ∃ m2, m = m2 + 1 := ⟨m - 1, by omega⟩
      have hpr : pRs K V (sz b e) C F (m2 + 1) q i = (match pRL K V (sz b e) C F (q.1, q.2) i with
        | (none, j) => (none, j)
        | (some q', j) => if K j = 21 then (some q', j) else if K j = 59 then pRs K V (sz b e) C F m2 q' (j + 1) else (none, j)) := rfl
      refine c_rln hS hT hF hx k3 k5 k2 (fun r M4 hr => ?_)
      rcases hr with ⟨rfl, q', j, j1, j2, j3⟩ | ⟨rfl, j, j1, j2, j3⟩
      · refine ⟨fun x => absurd x (by decide), fun _ => ?_⟩
        have hW := pRL_ok (q := (q.1, q.2)) hT k2 k5 j1
        rw [j1] at hpr
        have k8' : pRs K V (sz b e) C F 14 (w, s) 0 = (if K j = 21 then (some q', j) else if K j = 59 then pRs K V (sz b e) C F m2 q' (j + 1) else (none, j)) := k8.trans hpr
        rw [ckd j3 hT j2]
        refine ⟨fun h21 => ?_, fun h21 => ⟨fun h59 => ?_, fun h59 => ?_⟩⟩
        · rw [if_pos h21] at k8'
          exact hQ _ _ (Or.inl ⟨q', j, k8', rfl, j3.2.2.1⟩)
        · rw [if_neg h21, if_pos h59] at k8'
          have hlt := tk_lt hT j2 h21
          unfold W_Text_goOn
          exact hih _ _ ⟨m2, k + 1, q', j + 1, by omega, i32_s k, by omega, CST_g j3, hW.1, k8'⟩
        · rw [if_neg h21, if_neg h59] at k8'
          exact hQ _ _ (Or.inr ⟨j, k8', j2, rfl, j3.1⟩)
      · rw [j1] at hpr
        exact ⟨fun _ => hQ _ _ (Or.inr ⟨j, k8.trans hpr, j2, rfl, j3⟩), fun x => absurd rfl x⟩
    · have : ¬ k < 14 := fun e => hl ((i32_lt (j := k) (k := 14) (by omega) (by omega)).mpr e)
      obtain rfl : m = 0 := by omega
      exact hQ _ _ (Or.inr ⟨i, k8, k2, rfl, k3.1⟩)
end C4
end
section
/-! ACTS: a republic is told -/
theorem lkM_e {M : MM} {a P b R n : Nat} : Eqo [(b, b, none)] M (lkM M a P b R n) := fun c j hc => by
  refine ⟨?_, rfl⟩
  show (if c = b ∧ R ≤ j ∧ j < R + n then M.1 a (P + (j - R)) else M.1 c j) = M.1 c j
  by_cases h : c = b ∧ R ≤ j ∧ j < R + n
  · obtain ⟨rfl, -⟩ := h
    exfalso
    unfold fpm at hc
    simp at hc
    rw [Nat.ble_eq_true_of_le (Nat.le_refl c)] at hc
    cases hc
  · rw [if_neg h]
theorem lkS_e {M : MM} {a P b R n : Nat} : Eqo [(b, b, none)] M (lkS M a P b R n) := fun c j hc => by
  refine ⟨rfl, ?_⟩
  show (if c = b ∧ R ≤ j ∧ j < R + n then M.2 a (P + (j - R)) else M.2 c j) = M.2 c j
  by_cases h : c = b ∧ R ≤ j ∧ j < R + n
  · obtain ⟨rfl, -⟩ := h
    exfalso
    unfold fpm at hc
    simp at hc
    rw [Nat.ble_eq_true_of_le (Nat.le_refl c)] at hc
    cases hc
  · rw [if_neg h]
abbrev fU : List (Nat × Nat × Option Nat) := [(190, 190, some 0), (190, 190, some 20), (190, 190, some 18), (190, 190, some 19), (190, 190, some 25)] ++ fq3
abbrev fRS : List (Nat × Nat × Option Nat) := ([(193, 193, none)] ++ [(198, 198, none)]) ++ (fU ++ ([(190, 190, some 23)] ++ ([(191, 191, none)] ++ [(190, 190, some 12)])))
abbrev fRB : List (Nat × Nat × Option Nat) := ([(193, 193, none)] ++ [(198, 198, none)]) ++ (fU ++ (([(190, 190, some 23)] ++ [(190, 190, some 0)]) ++ ([(191, 191, none)] ++ [(196, 196, none)])))
section AR
variable {f : BY} {n t N : Nat} {K V : Nat → Int32} {b e : Nat → Nat} {M : MM} {w : RW} {s : RS}
theorem r_rep {F : Nat} {C : Int32} {Q : Int32 → MM → Prop} (hb : BOK f n) (hn : n ≤ 400) (hT : TKS f n t K V b e) (hF : 400 < F) (hC : C < 1000) (hx : mx 0 (M.1 190 15) - 1 = C) (h18 : M.1 190 18 = i32 n) (h203 : ∀ j, j < n → M.1 203 j = (f j).toInt8.toInt32) (h191 : M.1 191 = w) (h196 : M.2 196 = s) (hw : WF w)
    (hQ1 : ∀ q j M', pRep K V (sz b e) C F (w, s) = (some q, j) → WKP w q.1 → ¬ w 1 = 12 → M'.1 191 = up1 q.1 1 (q.1 1 + 1) → M'.2 196 = q.2 → M'.1 190 23 = -1 → M'.1 190 12 = 0 → M'.1 190 0 = 0 → M'.1 190 18 = 0 → Eqo fRS M M' → Q (q.1 1 + 1) M')
    (hQ2 : ∀ M', ((∃ j, pRep K V (sz b e) C F (w, s) = (none, j) ∧ j ≤ t ∧ M'.1 190 23 = i32 (b j) ∧ M'.1 190 0 = 1) ∨ ((∃ q j, pRep K V (sz b e) C F (w, s) = (some q, j)) ∧ w 1 = 12 ∧ M'.1 190 23 = -1 ∧ M'.1 190 0 = 2)) → (∀ k, k < 388 → M'.1 191 k = w k) → (∀ c, c < 10 → M'.2 196 c = s c) → M'.1 190 18 = 0 → Eqo fRB M M' → Q 0 M') : W_m_republic N M Q := by
  unfold W_m_republic
  refine sp_likens (P := 0) (R := 0) (by omega) (by omega) (Or.inl (by decide)) ?_
  refine sp_likensS (P := 0) (R := 0) (by omega) (by omega) (Or.inl (by decide)) ?_
  have e4 : Eqo ([(193, 193, none)] ++ [(198, 198, none)]) M (lkS (lkM M 191 0 193 0 388) 196 0 198 0 10) := eqo_app lkM_e lkS_e
  have r193 : ∀ k, k < 388 → (lkS (lkM M 191 0 193 0 388) 196 0 198 0 10).1 193 k = w k := fun k hk => by
    show (lkM M 191 0 193 0 388).1 193 k = _
    unfold lkM
    dsimp only
    rw [if_pos (by omega), ← h191, show 0 + (k - 0) = k by omega]
  have r198 : ∀ c, c < 10 → (lkS (lkM M 191 0 193 0 388) 196 0 198 0 10).2 198 c = s c := fun c hc => by
    unfold lkS
    dsimp only
    rw [if_pos (by omega)]
    show M.2 196 (0 + (c - 0)) = _
    rw [h196, show 0 + (c - 0) = c by omega]
  generalize lkS (lkM M 191 0 193 0 388) 196 0 198 0 10 = M4 at *
  have back : ∀ (X : MM) (Q' : MM → Prop), (∀ k, k < 388 → X.1 193 k = w k) → (∀ c, c < 10 → X.2 198 c = s c) → (∀ M', (∀ k, k < 388 → M'.1 191 k = w k) → (∀ c, c < 10 → M'.2 196 c = s c) → Eqo ([(191, 191, none)] ++ [(196, 196, none)]) X M' → Q' M') → W_m_likens 193 0 191 0 N X (fun M17 => W_m_likensSeen 198 0 196 0 N M17 Q') := by
    intro X Q' x1 x2 x3
    refine sp_likens (P := 0) (R := 0) (by omega) (by omega) (Or.inl (by decide)) ?_
    refine sp_likensS (P := 0) (R := 0) (by omega) (by omega) (Or.inl (by decide)) ?_
    refine x3 _ (fun k hk => ?_) (fun c hc => ?_) (eqo_app lkM_e lkS_e)
    · show (lkM X 193 0 191 0 388).1 191 k = _
      unfold lkM
      dsimp only
      rw [if_pos (by omega), show 0 + (k - 0) = k by omega]
      exact x1 k hk
    · unfold lkS
      dsimp only
      rw [if_pos (by omega)]
      show X.2 198 (0 + (c - 0)) = _
      rw [show 0 + (c - 0) = c by omega]
      exact x2 c hc
  refine r_all0 (w := w) (s := s) hb hn hT hF hC (by rw [eq1 e4 (b := 190) (k := 15) rfl]; exact hx) (by rw [eq1 e4 (b := 190) (k := 18) rfl]; exact h18) (fun j hj => by rw [eqb e4 (lo := 203) (hi := 203) rfl (Nat.le_refl _) (Nat.le_refl _)]; exact h203 j hj) (by rw [eqb e4 (lo := 191) (hi := 191) rfl (Nat.le_refl _) (Nat.le_refl _)]; exact h191) (by rw [eqb2 e4 (lo := 196) (hi := 196) rfl (Nat.le_refl _) (Nat.le_refl _)]; exact h196) hw (fun r M6 hr e6 z18 z0 => ?_)
  have q193 : ∀ k, k < 388 → M6.1 193 k = w k := fun k hk => by rw [eqb e6 (lo := 193) (hi := 193) rfl (Nat.le_refl _) (Nat.le_refl _)]; exact r193 k hk
  have q198 : ∀ c, c < 10 → M6.2 198 c = s c := fun c hc => by rw [eqb2 e6 (lo := 198) (hi := 198) rfl (Nat.le_refl _) (Nat.le_refl _)]; exact r198 c hc
  have bb : ∀ (y z : Int32), (((∃ j, pRep K V (sz b e) C F (w, s) = (none, j) ∧ j ≤ t ∧ y = i32 (b j) ∧ z = 1) ∨ ((∃ q j, pRep K V (sz b e) C F (w, s) = (some q, j)) ∧ w 1 = 12 ∧ y = -1 ∧ z = 2))) → W_m_likens 193 0 191 0 N (wi (wi M6 190 23 y) 190 0 z) (fun M17 => W_m_likensSeen 198 0 196 0 N M17 (fun M19 => Q 0 M19)) := by
    intro y z hyz
    refine back _ _ (fun k hk => by rw [wi_1n (by omega), wi_1n (by omega)]; exact q193 k hk) (fun c hc => q198 c hc) (fun M' x1 x2 x3 => hQ2 M' ?_ x1 x2 ?_ (eqo_app e4 (eqo_app e6 (eqo_app (eqo_app eqo_1 eqo_1) x3))))
    · rw [eq1 x3 (b := 190) (k := 23) rfl, eq1 x3 (b := 190) (k := 0) rfl, wi_1e, wi_1n (by omega), wi_1e]
      exact hyz
    · rw [eq1 x3 (b := 190) (k := 18) rfl, wi_1n (by omega), wi_1n (by omega)]
      exact z18
  unfold W_m_throwsIf
  rcases hr with ⟨q, j, h1, h2, h3, h4, h5⟩ | ⟨j, h1, h2, h3, h4⟩
  · refine ⟨fun y => absurd y h2, fun _ => ⟨fun y => absurd y h2, fun _ => ?_⟩⟩
    refine ⟨fun _ => ⟨fun _ => ?_, fun y => absurd rfl y⟩, fun y => absurd rfl y⟩
    have e1 : (wi M6 190 23 (-1)).1 191 (ni 1) = w 1 := by
      rw [wi_1n (by omega), h3]
      exact h5.2.1
    rw [e1]
    refine ⟨fun h12 => ⟨fun y => absurd y (by decide), fun _ => ⟨fun y => absurd y (by decide), fun _ => ?_⟩⟩, fun h12 => ⟨fun _ => ⟨fun _ => ?_, fun y => absurd rfl y⟩, fun y => absurd rfl y⟩⟩
    · exact bb (-1) 2 (Or.inr ⟨⟨q, j, h1⟩, h12, rfl, rfl⟩)
    · have ev : (wi (wi (wi M6 190 23 (-1)) 191 (ni 1) (w 1 + 1)) 190 12 0).1 191 (ni 1) = q.1 1 + 1 := by
        rw [wi_1n (by omega), wi_1e, ← h5.2.1]
      show Q ((wi (wi (wi M6 190 23 (-1)) 191 (ni 1) ((wi M6 190 23 (-1)).1 191 (ni 1) + 1)) 190 12 0).1 191 (ni 1)) (wi (wi (wi M6 190 23 (-1)) 191 (ni 1) ((wi M6 190 23 (-1)).1 191 (ni 1) + 1)) 190 12 0)
      rw [e1, ev]
      refine hQ1 q j _ h1 h5 h12 ?_ ?_ ?_ wi_1e ?_ ?_ (eqo_app e4 (eqo_app e6 (eqo_app eqo_1 (eqo_app eqo_a eqo_1))))
      · have := wi_row (M1 := wi M6 190 23 (-1)) (k := ni 1) (x := w 1 + 1) (w := q.1) (by rw [← h3]; funext j; exact wi_1n (by omega))
        rw [h5.2.1]
        rw [show up1 q.1 1 (w 1 + 1) = up1 q.1 (ni 1) (w 1 + 1) from rfl, ← this]
        funext j
        exact wi_1n (by omega)
      · exact h4
      · rw [wi_1n (by omega), wi_1n (by omega), wi_1e]
      · rw [wi_1n (by omega), wi_1n (by omega), wi_1n (by omega)]; exact z0
      · rw [wi_1n (by omega), wi_1n (by omega), wi_1n (by omega)]; exact z18
  · refine ⟨fun _ => ⟨fun _ => ?_, fun y => absurd h3 y⟩, fun y => absurd h3 y⟩
    refine ⟨fun y => absurd y (by decide), fun _ => ⟨fun y => absurd y (by decide), fun _ => ?_⟩⟩
    exact bb _ 1 (Or.inl ⟨j, h1, h2, h4, rfl⟩)
end AR
section AF
variable {B : Int} {M : MM}
abbrev fcB : List (Nat × Nat × Option Nat) := fp_Text_split ++ ([(1, 1, some 1)] ++ (fp_World_become 30 18 ++ (fp_RepublicReader_readAll ++ [(0, 0, some 15)])))
theorem a_republic (h : CP B M) {N : Nat} : W_E_republic N M (fun y M1 => ∀ z N', W_m_republic N' (wj M1 215 0 z) (fun b M2 => CP B M2 ∧ M2.1 190 0 = 0 ∧ y = b)) (fun ce M1 => ∀ N', W_m_republic N' M1 (fun _ M2 => CP B M2 ∧ M2.1 190 0 = if ce = 0 then 1 else 2)) := by
  obtain ⟨F, hF⟩ : ∃ F, 400 < F := ⟨401, by omega⟩
  obtain ⟨nc, hnc, hnc8, hncR⟩ := CP_n h
  obtain ⟨⟨n, hn, t1, t2, t3⟩, hfl, ⟨L, hL, hR, hTL, hI⟩, ⟨hc, hg⟩, m, hh, hm, hr, hi⟩ := h
  have hb : BOK (M.1 2) n := fun j hj => (t3 j hj).1
  obtain ⟨C, hCe⟩ : ∃ C : Int32, C = i32 nc - 1 := ⟨_, rfl⟩
  have hC : C < 1000 := by
    rw [hCe]
    have : nc = 0 ∨ nc = 1 ∨ nc = 2 ∨ nc = 3 ∨ nc = 4 ∨ nc = 5 ∨ nc = 6 ∨ nc = 7 ∨ nc = 8 ∨ nc = 9 ∨ nc = 10 ∨ nc = 11 ∨ nc = 12 := by omega
    rcases this with c | c | c | c | c | c | c | c | c | c | c | c | c <;> rw [c] <;> decide
  unfold W_E_republic
  refine c_split (f := M.1 2) (n := n) ⟨t1, rfl⟩ hn (fun M2 t hX h35 e2 => ?_)
  obtain ⟨hT, h5, h4⟩ := TXT_s hX
  have ht := hT.1
  have hS : ∀ i, i ≤ t → (M2.1 6 i = 2 ↔ sz (thb M2) (the M2) i = 2) := fun i _ => by
    unfold sz thb the
    rw [Nat.add_sub_cancel_left]
    constructor
    · intro y
      rw [y]
      rfl
    · intro y
      exact i32_of (j := 2) (by unfold ni at y; omega)
  have hc2 : CW (wi M2 1 1 0) 18 (M.1 191) (M.2 196) := CW_eq hc (eqo_app e2 (eqo_1 (a := 1) (k := 1))) rfl
  refine sp_become (Or.inr (by omega)) hc2 (fun M4 h30 e4 => ?_)
  have k4 : CST t (M2.1 4) (M2.1 7) (M2.1 6) (i32 nc) M4 0 (M.1 191) (M.2 196) := by
    have e := eqo_app (eqo_1 (M := M2) (a := 1) (k := 1) (x := 0)) e4
    refine ⟨TKc_e ⟨h35, h4, rfl, rfl⟩ e rfl, eqb e (lo := 6) (hi := 6) rfl (Nat.le_refl _) (Nat.le_refl _), h30, ?_⟩
    rw [eq1 (eqo_app e2 e) (b := 8) (k := 1) rfl]
    exact hnc8
  refine and_RepublicReader_readAll (Q1 := fun r M' => ((∃ q j, pRep (M2.1 4) (M2.1 7) (sz (thb M2) (the M2)) C F (M.1 191, M.2 196) = (some q, j) ∧ r = -1 ∧ CW M' 30 q.1 q.2) ∨ (∃ j, pRep (M2.1 4) (M2.1 7) (sz (thb M2) (the M2)) C F (M.1 191, M.2 196) = (none, j) ∧ j ≤ t ∧ r = V_Text_begin M' ∧ TKc M' t (M2.1 4) (M2.1 7) j))) (Q2 := fun r M' => Eqo fp_RepublicReader_readAll M4 M') (fun r M6 g1 g2 => ?_) (c_all0 hS hT hF (by rw [hCe]) k4 hg.1 (fun r M' h => h)) (an_RepublicReader_readAll (fun r M' h => h))
  have e6 : Eqo fcB M (wi M6 0 15 r) := eqo_app e2 (eqo_app eqo_1 (eqo_app e4 (eqo_app g2 eqo_1)))
  have z11 : (wi M6 0 15 r).1 1 1 = 0 := by rw [wi_1n (by omega), eq1 g2 (b := 1) (k := 1) rfl, eq1 e4 (b := 1) (k := 1) rfl, wi_1e]
  rw [show (wi M6 0 15 r).1 0 15 = r from wi_1e]
  have r5 : M6.1 5 = M2.1 5 := by
    rw [eqb g2 (lo := 5) (hi := 5) rfl (Nat.le_refl _) (Nat.le_refl _), eqb e4 (lo := 5) (hi := 5) rfl (Nat.le_refl _) (Nat.le_refl _)]
    funext j
    exact wi_1n (by omega)
  have bad : ∀ N' (x : Int32), (∀ q j, pRep (M2.1 4) (M2.1 7) (sz (thb M2) (the M2)) C F (M.1 191, M.2 196) = (some q, j) → M.1 191 1 = 12 ∧ r = -1 ∧ x = 2) → (∀ j, pRep (M2.1 4) (M2.1 7) (sz (thb M2) (the M2)) C F (M.1 191, M.2 196) = (none, j) → r = i32 (thb M2 j) ∧ x = 1) → W_m_republic N' (wi M6 0 15 r) (fun _ M2 => CP B M2 ∧ M2.1 190 0 = x) := by
    intro N' x b1 b2
    refine r_rep (f := M.1 2) (n := n) (w := M.1 191) (s := M.2 196) hb hn hT hF hC (by rw [eq1 e6 (b := 190) (k := 15) rfl, hCe, ← hncR]; rfl) (by rw [eq1 e6 (b := 190) (k := 18) rfl]; exact t2) (fun j hj => by rw [eqb e6 (lo := 203) (hi := 203) rfl (Nat.le_refl _) (Nat.le_refl _)]; exact (t3 j hj).2) (eqb e6 (lo := 191) (hi := 191) rfl (Nat.le_refl _) (Nat.le_refl _)) (eqb2 e6 (lo := 196) (hi := 196) rfl (Nat.le_refl _) (Nat.le_refl _)) hg.1 (fun q j M' d1 _ d3 _ _ _ _ _ _ _ => absurd (b1 q j d1).1 d3) (fun M' d1 d2 d3 d4 d5 => ?_)
    have e := eqo_app e6 d5
    have q015 : M'.1 0 15 = r := by rw [eq1 d5 (b := 0) (k := 15) rfl, wi_1e]
    have key : M'.1 190 23 = r ∧ M'.1 190 0 = x := by
      rcases d1 with ⟨j, j1, j2, j3, j4⟩ | ⟨⟨q, j, j1⟩, j2, j3, j4⟩
      · obtain ⟨f1, rfl⟩ := b2 j j1
        exact ⟨by rw [j3, f1], j4⟩
      · obtain ⟨-, f1, rfl⟩ := b1 q j j1
        exact ⟨by rw [j3, f1], j4⟩
    exact ⟨⟨TP_0 (by rw [eq1 d5 (b := 1) (k := 1) rfl]; exact z11) d4, by rw [q015, key.1], ⟨L, LawC_eq hL e rfl, LawR_eq hR e rfl, TLD_eq hTL e rfl, IMG_eq hI e rfl⟩, ⟨CW_g (CW_eq hc e rfl) hg d2 d3, GW_w hg d2⟩, m, hh, CM_eq hm e rfl, RMm_eq hr e rfl, hi⟩, key.2⟩
  rcases g1 with ⟨q, jc, g3, rfl, g4⟩ | ⟨jc, g3, g4, rfl, g5⟩
  · refine ⟨fun _ => ?_, fun hx => absurd rfl hx⟩
    have hno : ∀ j, pRep (M2.1 4) (M2.1 7) (sz (thb M2) (the M2)) C F (M.1 191, M.2 196) = (none, j) → False := fun j hj => by rw [g3] at hj; cases hj
    have e1815 : (wi M6 0 15 (-1)).1 18 15 = M.1 191 1 := by rw [eq1 e6 (b := 18) (k := 15) rfl]; exact hc.1.2.1
    rw [e1815]
    have g12 := hg.2.2.2
    refine ⟨fun h12 => ?_, fun h12 N' => ?_⟩
    · have hne : ¬ M.1 191 1 = 12 := fun y => by rw [y] at h12; exact absurd h12 (by decide)
      refine sp_become (Or.inl (by omega)) (CW_eq g4 (eqo_1 (a := 0) (k := 15)) rfl) (fun M10 h18 e10 => ?_)
      unfold W_Memory_forget
      have h18' := CW_44 (k := 2) (x := 0) (CW_sc (fa := 15) (k := 1) (x := q.1 1 + 1) h18 (by omega)) (by omega) (by omega)
      have ev : M10.1 18 15 = q.1 1 := h18.1.2.1
      rw [ev]
      have e12 : Eqo (fcB ++ (fp_World_become 18 30 ++ ([(18, 18, some 15)] ++ [(44, 44, some 2)]))) M (wi (wi M10 18 15 (q.1 1 + 1)) 44 2 0) := eqo_app e6 (eqo_app e10 (eqo_app eqo_1 eqo_1))
      have ey : (wi (wi M10 18 15 (q.1 1 + 1)) 44 2 0).1 18 15 = q.1 1 + 1 := by rw [wi_1n (by omega), wi_1e]
      dsimp only
      rw [ey]
      intro z N'
      have e12 := eqo_app e12 (eqo_z (z := z))
      have h18' := CW_eq h18' (eqo_z (z := z)) rfl
      refine r_rep (f := M.1 2) (n := n) (w := M.1 191) (s := M.2 196) hb hn hT hF hC (by rw [eq1 e12 (b := 190) (k := 15) rfl, hCe, ← hncR]; rfl) (by rw [eq1 e12 (b := 190) (k := 18) rfl]; exact t2) (fun j hj => by rw [eqb e12 (lo := 203) (hi := 203) rfl (Nat.le_refl _) (Nat.le_refl _)]; exact (t3 j hj).2) (eqb e12 (lo := 191) (hi := 191) rfl (Nat.le_refl _) (Nat.le_refl _)) (eqb2 e12 (lo := 196) (hi := 196) rfl (Nat.le_refl _) (Nat.le_refl _)) hg.1 (fun q' j M' d1 d2 d3 d4 d5 d6 d7 d8 d9 d10 => ?_) (fun M' d1 d2 d3 d4 d5 => ?_)
      · rw [g3] at d1
        obtain ⟨rfl, -⟩ := som d1
        have e := eqo_app e12 d10
        refine ⟨⟨TP_0 ?_ d9, ?_, ⟨L, LawC_eq hL e rfl, LawR_eq hR e rfl, TLD_eq hTL e rfl, IMG_eq hI e rfl⟩, ⟨?_, ?_⟩, 0, hh, ⟨by omega, ?_, ?_, fun i hi => by omega⟩, ⟨by omega, d7, fun i hi => by omega⟩, fun i hi => by omega⟩, d8, rfl⟩
        · rw [eq1 d10 (b := 1) (k := 1) rfl, wj_1, wi_1n (by omega), wi_1n (by omega), eq1 e10 (b := 1) (k := 1) rfl]
          exact z11
        · rw [eq1 d10 (b := 0) (k := 15) rfl, wj_1, wi_1n (by omega), wi_1n (by omega), eq1 e10 (b := 0) (k := 15) rfl, wi_1e, d6]
        · rw [d4, d5]
          exact CW_eq h18' d10 rfl
        · rw [d4]
          refine ⟨WF_sc d2.1 (by omega) (by omega) (by omega) (by omega), ?_, ?_, ?_⟩
          · rw [up1_n (by omega), d2.2.2]; exact hg.2.1
          · rw [up1_n (by omega), d2.2.2]; exact hg.2.2.1
          · rw [up1_e, d2.2.1]
            rw [lt_lit, show (12 : Int32).toInt = 12 from rfl] at h12
            have := Int32.le_toInt (M.1 191 1)
            rw [i32_add (by rw [show (1 : Int32).toInt = 1 from rfl]; omega) (by rw [show (1 : Int32).toInt = 1 from rfl]; omega), show (1 : Int32).toInt = 1 from rfl]
            omega
        · rw [eq1 d10 (b := 44) (k := 2) rfl, wj_1, wi_1e]
          rfl
        · rw [eq1 e (b := 44) (k := 1) rfl]
          exact hm.2.2.1
      · exfalso
        rcases d1 with ⟨j, j1, -⟩ | ⟨-, j2, -⟩
        · exact hno j j1
        · exact hne j2
    · refine bad N' 2 (fun _ _ _ => ⟨?_, rfl, rfl⟩) (fun j hj => (hno j hj).elim)
      rw [lt_lit, show (12 : Int32).toInt = 12 from rfl] at h12
      exact Int32.toInt_inj.mp (show (M.1 191 1).toInt = (12 : Int32).toInt by rw [show (12 : Int32).toInt = 12 from rfl]; omega)
  · have hbe : V_Text_begin M6 = i32 (thb M2 jc) := by
      rw [bg g5 g4 ht, r5]
      exact h5 jc g4
    have hj4 : thb M2 jc ≤ n := (hT.2.2.2 jc g4).2.1
    refine ⟨fun hx => ?_, fun _ N' => bad N' 1 (fun q j hj => by rw [g3] at hj; cases hj) (fun j hj => ?_)⟩
    · rw [hbe] at hx
      have := congrArg Int32.toInt hx
      rw [i32_i (by omega)] at this
      exact absurd this (by show ¬ ((thb M2 jc : Int) = -1); omega)
    · rw [g3] at hj
      have : jc = j := congrArg Prod.snd hj
      rw [← this]
      exact ⟨hbe, rfl⟩
end AF
end
section
/-! THE LAW, both sides coupled: what holds between its calls -/
def LM (B : Int) (C : List AC) : Prop := ∃ M : MM, mm tb_G M.1 M.2 C ∧ CP B M
theorem CP_le {B B' : Int} {M : MM} (h : CP B M) (hB : B ≤ B') : CP B' M := by
  obtain ⟨q1, q2, ⟨L, l1, l2, l3, l4⟩, ⟨w1, w2⟩, m, hh, m1, m2, m3⟩ := h
  exact ⟨q1, q2, ⟨L, l1, l2, l3, IMG_le l4 hB⟩, ⟨w1, GW_le w2 hB⟩, m, hh, m1, m2, fun i hi => GW_le (m3 i hi) hB⟩
/-- a call of the class has ended -/
def JO (SY : Option AV → MM → Prop) (SE : Nat → MM → Prop) (o : Option AV ⊕ Nat) (M1 : MM) : Prop := (∃ v, o = .inl v ∧ SY v M1) ∨ ∃ ce, o = .inr ce ∧ SE ce M1
def JE (SY : Option AV → MM → Prop) (SE : Nat → MM → Prop) (o : Option AV ⊕ Nat) (C' : List AC) : Prop := ∃ M1 : MM, mm tb_G M1.1 M1.2 C' ∧ JO SY SE o M1
section JS
variable {X : Option (List AI)} {N m : Nat} {as : List AV} {M : MM} {C : List AC} {SY : Option AV → MM → Prop} {SE : Nat → MM → Prop}
theorem je {Q : RT} (h : pM X N m 0 (ea_ar 0 as) [] M Q) (hm : mm tb_G M.1 M.2 C) (hQ : ∀ o M', Q o M' → JO SY SE o M') : pa (tb_P X) N m 0 (ea_ar 0 as) [] C (JE SY SE) := pa_post (h C hm _ (lo_ar as 0)) (fun o C' ⟨M', h1, h2⟩ => ⟨M', h1, hQ o M' h2⟩)
theorem jx_re {Q : Int32 → MM → Prop} {E : Nat → MM → Prop} (h1 : ∀ y M', Q y M' → SY (some (.inl (.inl y))) M') (h2 : ∀ ce M', E ce M' → SE ce M') : ∀ o M', Re (Ri Q) E o M' → JO SY SE o M' := by
  rintro o M' (⟨y, rfl, h⟩ | ⟨ce, rfl, h⟩)
  · exact Or.inl ⟨_, rfl, h1 y M' h⟩
  · exact Or.inr ⟨ce, rfl, h2 ce M' h⟩
theorem jx_le {Q : Int64 → MM → Prop} {E : Nat → MM → Prop} (h1 : ∀ y M', Q y M' → SY (some (.inr (.inr (.inl (some y))))) M') (h2 : ∀ ce M', E ce M' → SE ce M') : ∀ o M', Re (Rl Q) E o M' → JO SY SE o M' := by
  rintro o M' (⟨y, rfl, h⟩ | ⟨ce, rfl, h⟩)
  · exact Or.inl ⟨_, rfl, h1 y M' h⟩
  · exact Or.inr ⟨ce, rfl, h2 ce M' h⟩
theorem jx_r {Q : Int32 → MM → Prop} (h1 : ∀ y M', Q y M' → SY (some (.inl (.inl y))) M') : ∀ o M', Ri Q o M' → JO SY SE o M' := by
  rintro o M' ⟨y, rfl, h⟩
  exact Or.inl ⟨_, rfl, h1 y M' h⟩
theorem jx_l {Q : Int64 → MM → Prop} (h1 : ∀ y M', Q y M' → SY (some (.inr (.inr (.inl (some y))))) M') : ∀ o M', Rl Q o M' → JO SY SE o M' := by
  rintro o M' ⟨y, rfl, h⟩
  exact Or.inl ⟨_, rfl, h1 y M' h⟩
theorem jx_u {Q : MM → Prop} (h1 : ∀ M', Q M' → SY none M') : ∀ o M', Ru Q o M' → JO SY SE o M' := by
  rintro o M' ⟨rfl, h⟩
  exact Or.inl ⟨_, rfl, h1 M' h⟩
theorem jx_v {x : Int32} {M0 : MM} (h1 : SY (some (.inl (.inl x))) M0) : ∀ o M', Vi x M0 o M' → JO SY SE o M' := by
  rintro o M' ⟨rfl, rfl⟩
  exact Or.inl ⟨_, rfl, h1⟩
theorem jx_pe {Q : Int32 → Prop} {E : Nat → Prop} {M0 : MM} (h1 : ∀ y, Q y → SY (some (.inl (.inl y))) M0) (h2 : ∀ ce, E ce → SE ce M0) : ∀ o M', Pe (Pi Q M0) E M0 o M' → JO SY SE o M' := by
  rintro o M' (⟨y, rfl, rfl, h⟩ | ⟨ce, rfl, rfl, h⟩)
  · exact Or.inl ⟨_, rfl, h1 y h⟩
  · exact Or.inr ⟨ce, rfl, h2 ce h⟩
theorem jx_ple {Q : Int64 → Prop} {E : Nat → Prop} {M0 : MM} (h1 : ∀ y, Q y → SY (some (.inr (.inr (.inl (some y))))) M0) (h2 : ∀ ce, E ce → SE ce M0) : ∀ o M', Pe (Pl Q M0) E M0 o M' → JO SY SE o M' := by
  rintro o M' (⟨y, rfl, rfl, h⟩ | ⟨ce, rfl, rfl, h⟩)
  · exact Or.inl ⟨_, rfl, h1 y h⟩
  · exact Or.inr ⟨ce, rfl, h2 ce h⟩
theorem jx_p {Q : Int32 → Prop} {M0 : MM} (h1 : ∀ y, Q y → SY (some (.inl (.inl y))) M0) : ∀ o M', Pi Q M0 o M' → JO SY SE o M' := by
  rintro o M' ⟨y, rfl, rfl, h⟩
  exact Or.inl ⟨_, rfl, h1 y h⟩
theorem jx_pl {Q : Int64 → Prop} {M0 : MM} (h1 : ∀ y, Q y → SY (some (.inr (.inr (.inl (some y))))) M0) : ∀ o M', Pl Q M0 o M' → JO SY SE o M' := by
  rintro o M' ⟨y, rfl, rfl, h⟩
  exact Or.inl ⟨_, rfl, h1 y h⟩
end JS
/-- where nothing of the answer is known -/
def SW (B : Int) (_ : Option AV) (M1 : MM) : Prop := CP B M1
def SX (B : Int) (_ : Nat) (M1 : MM) : Prop := CP B M1
/-- what a wrapper writes aside -/
def lgv (v : Option AV) : Option Int64 := match v with
  | some (.inl (.inl y)) => some y.toInt64
  | some (.inr (.inr (.inl (some y)))) => some y
  | _ => none
def wz_Z (cs : List (Nat × Int32)) (SY : Option AV → MM → Prop) (SE : Nat → MM → Prop) (k : Int32) (C' : List AC) : Prop := (k = Int32.ofInt 0 ∧ ∃ v y M1, lgv v = some y ∧ SY v M1 ∧ mm tb_G (wj M1 215 0 y).1 (wj M1 215 0 y).2 C') ∨ ∃ ce M1, (ce, k) ∈ cs ∧ SE ce M1 ∧ mm tb_G M1.1 M1.2 C'
def wz_K (cs : List (Nat × Int32)) (sz im T H : Int) (SY : Option AV → MM → Prop) (SE : Nat → MM → Prop) (o : Option AV ⊕ Nat) (C' : List AC) : Prop := lt_S sz im T H C' ∧ ∃ k : Int32, o = .inl (some (.inl (.inl k))) ∧ wz_Z cs SY SE k C'
theorem wz_w {cs : List (Nat × Int32)} {B : Int} {k : Int32} {C' : List AC} (h : wz_Z cs (SW B) (SX B) k C') : ∃ Mx : MM, mm tb_G Mx.1 Mx.2 C' ∧ CP B Mx := by
  rcases h with ⟨-, v, y, M1, -, h1, h2⟩ | ⟨ce, M1, -, h1, h2⟩
  · exact ⟨_, h2, CP_eq h1 eqo_z rfl⟩
  · exact ⟨_, h2, h1⟩
theorem mm_z {M : MM} {C : List AC} (hM : mm tb_G M.1 M.2 C) {d : AV} {us : List (Nat × AV)} (hC : ea_nt C 215 = some (.inl (1, 1, d, us))) (y : Int64) : mm tb_G (wj M 215 0 y).1 (wj M 215 0 y).2 (C.set 215 (.inl (1, 1, d, (0, .inr (.inr (.inl (some y)))) :: us))) := mm_ls hM (show tb_G 215 = some (.inr (1, 1, 1, [])) from rfl) hC y
/-- not 0, told exactly -/
theorem lw_bq {X : List AI} {N pc : Nat} {cl : List (Nat × AV)} {S : List AV} {C : List AC} {K : Option AV ⊕ Nat → List AC → Prop} {y : Int32} (c0 : ep_cod (tb_P (some X)) 0 pc = some (.ifCond .eq 7, 3)) (t0 : ea_to pc 7 = some (pc + 7)) (c1 : ep_cod (tb_P (some X)) 0 (pc + 3) = some (.iconst 1, 1)) (c2 : ep_cod (tb_P (some X)) 0 (pc + 3 + 1) = some (.goto 4, 3)) (t2 : ea_to (pc + 3 + 1) 4 = some (pc + 8)) (c3 : ep_cod (tb_P (some X)) 0 (pc + 7) = some (.iconst 0, 1)) (h : ∀ b : Int32, b = (if y = 0 then Int32.ofInt 0 else Int32.ofInt 1) → okb (tb_P (some X)) N 0 (pc + 8) cl (.inl (.inl b) :: S) C K) : okb (tb_P (some X)) N 0 pc cl (.inl (.inl y) :: S) C K := by
  by_cases hq : y = 0
  · refine okb_if true c0 t0 (show decide (y = 0) = true from decide_eq_true hq) ?_
    exact okb_p c3 rfl rfl (h _ (if_pos hq).symm)
  · refine okb_if false c0 t0 (show decide (y = 0) = false from decide_eq_false hq) ?_
    refine okb_p c1 rfl rfl ?_
    refine okb_p (pc' := pc + 8) c2 rfl ?_ (h _ (if_neg hq).symm)
    show (match ea_to (pc + 3 + 1) 4 with
      | some t => some (t, cl, _)
      | none => none) = _
    rw [t2]
theorem bq_o {b y : Int32} (h : b = (if y = 0 then Int32.ofInt 0 else Int32.ofInt 1)) : b = Int32.ofInt 0 ∨ b = Int32.ofInt 1 := by
  by_cases c : y = 0
  · rw [if_pos c] at h; exact Or.inl h
  · rw [if_neg c] at h; exact Or.inr h
/-- an element of the law's own row -/
theorem okb_la {P : EP} {N m pc a n j : Nat} {L : List (Nat × AV)} {S : List AV} {C : List AC} {K : Option AV ⊕ Nat → List AC → Prop} {d : AV} {us : List (Nat × AV)} {x : Int32} {y : Int64} (hc : ep_cod P m pc = some (.laload, 1)) (hC : ea_nt C a = some (.inl (1, n, d, us))) (hi : ea_ix (.inl x) n = some j) (hv : ea_al d us j = .inr (.inr (.inl (some y)))) (h : okb P N m (pc + 1) L (.inr (.inr (.inl (some y))) :: S) C K) : okb P N m pc L (.inl (.inl x) :: .inr (.inl (some a)) :: S) C K :=
  okb_h (C' := none) hc rfl rfl (by simp only [ea_h, hC, hi, hv]) h
theorem row_215 {M : MM} {C : List AC} (hM : mm tb_G M.1 M.2 C) : ∃ d us, ea_nt C 215 = some (.inl (1, 1, d, us)) ∧ ea_al d us 0 = .inr (.inr (.inl (some (M.2 215 0)))) := by
  obtain ⟨d, us, h1, h2⟩ := hM.2 215 1 1 1 [] rfl
  exact ⟨d, us, h1, h2 0 (by omega)⟩
theorem fld_190 {M : MM} {C : List AC} (hM : mm tb_G M.1 M.2 C) : ∃ vs, ea_nt C 190 = some (.inr (12, vs)) ∧ ea_nt vs 0 = some (.inl (.inl (M.1 190 0))) := by
  obtain ⟨vs, h1, -, h3⟩ := hM.1 190 12 _ rfl
  exact ⟨vs, h1, h3 0 _ rfl⟩
theorem lg_same (x : Int64) : lg_cmp x x = 0 := by
  unfold lg_cmp
  have h : ¬ x < x := by
    rw [Int64.lt_iff_toInt_lt]
    omega
  simp [h]
/-- the fault -/
theorem a_fault {B : Int} {M : MM} (h : CP B M) : ∀ N', W_m_fault N' M (fun b M2 => CP B M2 ∧ M2.1 190 0 = 0 ∧ V_E_fault M = b) := fun N' => by
  unfold W_m_fault V_E_fault
  refine ⟨CP_0 h 0, wi_1e, ?_⟩
  rw [wi_1n (by omega)]
  exact h.2.1
theorem LM_le {B B' : Int} {C : List AC} (h : LM B C) (hB : B ≤ B') : LM B' C := by
  obtain ⟨M, h1, h2⟩ := h
  exact ⟨M, h1, CP_le h2 hB⟩
end
