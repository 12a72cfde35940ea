/-! A DAY of the class: whole -/
section C3
variable {a c N : Nat} {M : MM} {w : RW} {s : RS} {L : LWT} {f d : Int32}
theorem c_judges {fo : Int32} {k63 : MM → Prop} {Q : MM → Prop} (h : CW M a w s) (hw : WF w) (hL : LawC M 8 L) (ha : 13 ≤ a) (hd : dOK w) (hQ : ∀ M', CW M' a (judgeN L fo f d (nC w) (w, s)).1 (judgeN L fo f d (nC w) (w, s)).2 → LawC M' 8 L → k63 M') : W_World_passDay_28 a f d fo k63 Q N 0 M := by
  obtain ⟨e0, hn10, ei⟩ := nC_i hw
  refine I_World_passDay_28 a f d fo k63 Q (fun v5 M' => ∃ j, j ≤ nC w ∧ v5 = i32 j ∧ CW M' a (judgeN L fo f d j (w, s)).1 (judgeN L fo f d j (w, s)).2 ∧ LawC M' 8 L) (fun N ih v5 M' hih hv => ?_) N _ _ ⟨0, by omega, rfl, h, hL⟩
  obtain ⟨j, hj, rfl, hM, hLM⟩ := hv
  obtain ⟨hP, hW⟩ := judgeN_W (L := L) (fo := fo) (f := f) (d := d) (x := (w, s)) hw j
  have hs := judgeN_s (L := L) (fo := fo) (f := f) (d := d) (n := j) (x := (w, s))
  have h00 : (judgeN L fo f d j (w, s)).1 0 = w 0 := hP.1 0 (by omega) (by omega) (by omega) (by omega) (by omega)
  unfold B_World_passDay_28
  rw [hM.1.1, h00, ei, i32_lt (by omega) (by omega)]
  refine ⟨fun hlt => ?_, fun hlt => ?_⟩
  · have hcj : j < nC (judgeN L fo f d j (w, s)).1 := by rw [PJ_nC hP]; exact hlt
    have hdj : dOK (judgeN L fo f d j (w, s)).1 := by
      unfold dOK
      rw [show (judgeN L fo f d j (w, s)).1 2 = w 2 from hP.1 2 (by omega) (by omega) (by omega) (by omega) (by omega)]
      exact hd
    have nx : ∀ M', CW M' a (judgeN L fo f d (j + 1) (w, s)).1 (judgeN L fo f d (j + 1) (w, s)).2 → LawC M' 8 L → ih (i32 j + 1) M' := fun M' h1 h2 => hih _ _ ⟨j + 1, by omega, i32_s j, h1, h2⟩
    rw [hs] at nx
    unfold V_E_bit
    refine ⟨fun hb => ?_, fun hb => ?_⟩
    · rw [bt_1 (by omega)] at hb
      rw [if_pos hb] at nx
      exact c_judge hM hW hLM ha hdj hcj (fun M'' h1 h2 => nx M'' h1 h2)
    · rw [bt_1 (by omega)] at hb
      rw [if_neg hb] at nx
      exact nx _ hM hLM
  · obtain rfl : j = nC w := by omega
    exact hQ _ hM hLM
/-- what stays in (c) -/
def PR (w w' : RW) : Prop := (∀ k, k < 18 → w' k = w k) ∧ (∀ k, 148 ≤ k → w' k = w k) ∧ ∀ c i, c < 10 → i < 13 → i ≠ 3 → i ≠ 6 → cl w' c i = cl w c i
theorem PR_rf (w : RW) : PR w w := ⟨fun _ _ => rfl, fun _ _ => rfl, fun _ _ _ _ _ _ => rfl⟩
theorem rm_next {x y : Int32} (h : 0 ≤ x.toInt ∧ x.toInt < y.toInt) (hy : y.toInt ≤ 6) : (rm (x + 1) y = if x + 1 < y then x + 1 else 0) ∧ 0 ≤ (rm (x + 1) y).toInt ∧ (rm (x + 1) y).toInt < y.toInt := by
  have ex := i32_ni h.1
  have ey := i32_ni (x := y) (by omega)
  have bx : ni x < ni y := by unfold ni; omega
  have bY : ni y ≤ 6 := by unfold ni; omega
  have hY : ((ni y : Nat) : Int) = y.toInt := by unfold ni; omega
  rw [ex, ey]
  generalize ni x = p at *
  generalize ni y = q at *
  rw [i32_s, rm_n (by omega) (by omega)]
  have hm := Nat.mod_lt (p + 1) (y := q) (by omega)
  refine ⟨?_, by rw [i32_i (by omega)]; omega, by rw [i32_i (by omega), i32_i (by omega)]; omega⟩
  by_cases e : p + 1 < q
  · rw [if_pos ((i32_lt (by omega) (by omega)).mpr e), Nat.mod_eq_of_lt e]
  · rw [if_neg (fun h => e ((i32_lt (by omega) (by omega)).mp h))]
    have : p + 1 = q := by omega
    rw [this, Nat.mod_self]
    rfl
theorem nextS_W {c : Nat} (hw : WF w) (hc : c < nC w) : WF (nextS c w) ∧ PR w (nextS c w) := by
  have hn := (nC_i hw).2.1
  obtain ⟨-, -, -, h5, h6, -⟩ := hw.2.2.2 c hc
  have hr := rm_next (x := cl w c 6) (y := cl w c 5) h6 h5.2
  obtain ⟨g0, g6, g8, gc⟩ := hw
  have e : ∀ k, k < 18 → nextS c w k = w k := fun k hk => up1_n (by omega)
  have en : nC (nextS c w) = nC w := by unfold nC; rw [e 0 (by omega)]
  have ec : ∀ c' i, i < 13 → cl (nextS c w) c' i = if c' = c ∧ i = 6 then rm (cl w c 6 + 1) (cl w c 5) else cl w c' i := fun c' i hi => cl_up (by omega) hi
  refine ⟨⟨by rw [e 0 (by omega)]; exact g0, by rw [e 6 (by omega)]; exact g6, by rw [e 8 (by omega)]; exact g8, fun c' hc' => ?_⟩, e, fun k hk => up1_n (by omega), fun c' i h1 h2 h3 h4 => by rw [ec c' i h2, if_neg (by omega)]⟩
  rw [en] at hc'
  obtain ⟨c1, c2, c3, c4, c5, c6⟩ := gc c' hc'
  refine ⟨by rw [ec c' 0 (by omega), if_neg (by omega)]; exact c1, by rw [ec c' 3 (by omega), if_neg (by omega)]; exact c2, by rw [ec c' 4 (by omega), if_neg (by omega), e 0 (by omega)]; exact c3, by rw [ec c' 5 (by omega), if_neg (by omega)]; exact c4, ?_, fun k hk hl => ?_⟩
  · rw [ec c' 5 (by omega), if_neg (by omega), ec c' 6 (by omega)]
    by_cases q : c' = c
    · subst q; rw [if_pos ⟨rfl, rfl⟩]; exact hr.2
    · rw [if_neg (by omega)]; exact c5
  · rw [ec c' 5 (by omega), if_neg (by omega)] at hl
    rw [ec c' (7 + k) (by omega), if_neg (by omega)]
    exact c6 k hk hl
theorem tk_W {c : Nat} {x : Int32} (hw : WF w) (hc : c < nC w) (hx : 0 ≤ x.toInt) : WF (up1 w (18 + 13 * c + 3) x) ∧ PR w (up1 w (18 + 13 * c + 3) x) := by
  have hn := (nC_i hw).2.1
  obtain ⟨g0, g6, g8, gc⟩ := hw
  have e : ∀ k, k < 18 → up1 w (18 + 13 * c + 3) x k = w k := fun k hk => up1_n (by omega)
  have en : nC (up1 w (18 + 13 * c + 3) x) = nC w := by unfold nC; rw [e 0 (by omega)]
  have ec : ∀ c' i, i < 13 → cl (up1 w (18 + 13 * c + 3) x) c' i = if c' = c ∧ i = 3 then x else cl w c' i := fun c' i hi => cl_up (by omega) hi
  refine ⟨⟨by rw [e 0 (by omega)]; exact g0, by rw [e 6 (by omega)]; exact g6, by rw [e 8 (by omega)]; exact g8, fun c' hc' => ?_⟩, e, fun k hk => up1_n (by omega), fun c' i h1 h2 h3 h4 => by rw [ec c' i h2, if_neg (by omega)]⟩
  rw [en] at hc'
  obtain ⟨c1, c2, c3, c4, c5, c6⟩ := gc c' hc'
  refine ⟨by rw [ec c' 0 (by omega), if_neg (by omega)]; exact c1, ?_, by rw [ec c' 4 (by omega), if_neg (by omega), e 0 (by omega)]; exact c3, by rw [ec c' 5 (by omega), if_neg (by omega)]; exact c4, by rw [ec c' 5 (by omega), if_neg (by omega), ec c' 6 (by omega), if_neg (by omega)]; exact c5, fun k hk hl => ?_⟩
  · rw [ec c' 3 (by omega)]
    by_cases q : c' = c
    · rw [if_pos ⟨q, rfl⟩]; exact hx
    · rw [if_neg (by omega)]; exact c2
  · rw [ec c' 5 (by omega), if_neg (by omega)] at hl
    rw [ec c' (7 + k) (by omega), if_neg (by omega)]
    exact c6 k hk hl
theorem PR_tr {a b c : RW} (h1 : PR a b) (h2 : PR b c) : PR a c := ⟨fun k h => (h2.1 k h).trans (h1.1 k h), fun k h => (h2.2.1 k h).trans (h1.2.1 k h), fun c i a1 a2 a3 a4 => (h2.2.2 c i a1 a2 a3 a4).trans (h1.2.2 c i a1 a2 a3 a4)⟩
theorem PR_nC {w w' : RW} (h : PR w w') : nC w' = nC w := by unfold nC; rw [h.1 0 (by omega)]
theorem mx_0 {x : Int32} (hx : 0 ≤ x.toInt) : (mx 0 (x - 1) = if 0 < x then x - 1 else 0) ∧ 0 ≤ (mx 0 (x - 1)).toInt := by
  have e : (x - 1).toInt = x.toInt - 1 := by
    have := Int32.toInt_lt x
    rw [i32_sub (by rw [show (1 : Int32).toInt = 1 from rfl]; omega) (by rw [show (1 : Int32).toInt = 1 from rfl]; omega)]
    rfl
  unfold mx
  by_cases h0 : x = 0
  · subst h0
    decide
  · have hp : 0 < x := by
      rw [Int32.lt_iff_toInt_lt]
      have : x.toInt ≠ 0 := fun q => h0 (Int32.toInt_inj.mp q)
      rw [show (0 : Int32).toInt = 0 from rfl]
      omega
    rw [if_pos hp]
    rw [Int32.lt_iff_toInt_lt, show (0 : Int32).toInt = 0 from rfl] at hp
    by_cases h1 : (0 : Int32) < x - 1
    · rw [if_pos h1]
      exact ⟨rfl, by omega⟩
    · rw [if_neg h1]
      rw [Int32.lt_iff_toInt_lt, show (0 : Int32).toInt = 0 from rfl] at h1
      exact ⟨(Int32.toInt_inj.mp (by rw [show (0 : Int32).toInt = 0 from rfl]; omega)), by decide⟩
theorem restS_W {c : Nat} (hw : WF w) (hc : c < nC w) : WF (restS f c w) ∧ PR w (restS f c w) := by
  unfold restS
  split
  · exact nextS_W hw hc
  · obtain ⟨h1, h2⟩ := tk_W (x := mx 0 (cl w c 3 - 1)) hw hc (mx_0 (hw.2.2.2 c hc).2.1).2
    obtain ⟨h3, h4⟩ := nextS_W (c := c) h1 (by rw [PR_nC h2]; exact hc)
    exact ⟨h3, PR_tr h2 h4⟩
theorem restN_W (hw : WF w) : ∀ n, n ≤ nC w → WF (restN f n w) ∧ PR w (restN f n w)
  | 0, _ => ⟨hw, PR_rf w⟩
  | n + 1, hn => by
    obtain ⟨h1, h2⟩ := restN_W hw n (by omega)
    obtain ⟨h3, h4⟩ := restS_W (f := f) (c := n) h1 (by rw [PR_nC h2]; omega)
    exact ⟨h3, PR_tr h2 h4⟩
theorem c_rest {Q : MM → Prop} (h : CW M a w s) (hw : WF w) (hL : LawC M 8 L) (ha : 13 ≤ a) (hQ : ∀ M', CW M' a (up1 (restN f (nC w) w) 2 (restN f (nC w) w 2 + 1)) s → LawC M' 8 L → Q M') : W_World_passDay_66 a f Q N 0 M := by
  obtain ⟨e0, hn10, ei⟩ := nC_i hw
  refine I_World_passDay_66 a f Q (fun v5 M' => ∃ j, j ≤ nC w ∧ v5 = i32 j ∧ CW M' a (restN f j w) s ∧ LawC M' 8 L) (fun N ih v5 M' hih hv => ?_) N _ _ ⟨0, by omega, rfl, h, hL⟩
  obtain ⟨j, hj, rfl, hM, hLM⟩ := hv
  obtain ⟨hW, hP⟩ := restN_W (f := f) hw j hj
  unfold B_World_passDay_66
  rw [hM.1.1, restN_0, ei, i32_lt (by omega) (by omega)]
  refine ⟨fun hlt => ?_, fun hlt => ?_⟩
  · have nx : ∀ M', CW M' a (restN f (j + 1) w) s → LawC M' 8 L → ih (i32 j + 1) M' := fun M' h1 h2 => hih _ _ ⟨j + 1, by omega, i32_s j, h1, h2⟩
    rw [restN_s] at nx
    have hcj : j < nC (restN f j w) := by rw [PR_nC hP]; exact hlt
    have hn := (nC_i hW).2.1
    generalize restN f j w = y at *
    rw [ni_i (show j < 2147483648 by omega)]
    obtain ⟨q1, q2, q3, q4, q5, q6, q7, q8⟩ := hM.2.2.2.1 j hcj
    obtain ⟨y1, y2, y3, y4, y5, y6⟩ := hW.2.2.2 j hcj
    unfold restS at nx
    -- the next matter, from any memory that says a row
    have step : ∀ (M1 : MM) (z : RW), CW M1 a z s → LawC M1 8 L → WF z → nC z = nC y → cl z j 6 = cl y j 6 → cl z j 5 = cl y j 5 → (∀ M', CW M' a (nextS j z) s → LawC M' 8 L → ih (i32 j + 1) M') → ((((wi M1 (a + 7) j ((M1.1 (a + 7) j) + 1)).1 (a + 7) j) < ((wi M1 (a + 7) j ((M1.1 (a + 7) j) + 1)).1 (a + 6) j) → ih (i32 j + 1) (wi M1 (a + 7) j ((M1.1 (a + 7) j) + 1))) ∧ (¬ ((wi M1 (a + 7) j ((M1.1 (a + 7) j) + 1)).1 (a + 7) j) < ((wi M1 (a + 7) j ((M1.1 (a + 7) j) + 1)).1 (a + 6) j) → ih (i32 j + 1) (wi (wi M1 (a + 7) j ((M1.1 (a + 7) j) + 1)) (a + 7) j 0))) := by
      intro M1 z h1 l1 wz ez e6 e5 hk
      have hcz : j < nC z := by rw [ez]; exact hcj
      obtain ⟨r1, r2, r3, r4, r5, r6, r7, r8⟩ := h1.2.2.2.1 j hcz
      rw [wi_1e, wi_1n (by omega), r5, r6]
      have hr := rm_next (x := cl z j 6) (y := cl z j 5) (wz.2.2.2 j hcz).2.2.2.2.1 (wz.2.2.2 j hcz).2.2.2.1.2
      unfold nextS at hk
      rw [hr.1] at hk
      have hnz : nC z ≤ 10 := by omega
      refine ⟨fun hb => ?_, fun hb => ?_⟩
      · rw [if_pos hb] at hk
        exact hk _ (CW_ct h1 hnz hcz (Or.inr (Or.inr (Or.inr (Or.inr ⟨rfl, rfl⟩))))) (LawC_wi (by omega) l1)
      · rw [if_neg hb] at hk
        have hh := CW_ct (x := cl z j 6 + 1) h1 hnz hcz (Or.inr (Or.inr (Or.inr (Or.inr ⟨rfl, rfl⟩))))
        have hh2 := CW_ct (x := 0) (c := j) hh (by rw [show nC (up1 z (18 + 13 * j + 6) (cl z j 6 + 1)) = nC z from by unfold nC; rw [up1_n (by omega)]]; exact hnz) (by rw [show nC (up1 z (18 + 13 * j + 6) (cl z j 6 + 1)) = nC z from by unfold nC; rw [up1_n (by omega)]]; exact hcz) (Or.inr (Or.inr (Or.inr (Or.inr ⟨rfl, rfl⟩))))
        have e2 : up1 (up1 z (18 + 13 * j + 6) (cl z j 6 + 1)) (18 + 13 * j + 6) 0 = up1 z (18 + 13 * j + 6) 0 := by
          funext k
          unfold up1
          by_cases hk : k = 18 + 13 * j + 6
          · rw [if_pos hk, if_pos hk]
          · rw [if_neg hk, if_neg hk, if_neg hk]
        rw [e2] at hh2
        exact hk _ hh2 (LawC_wi (by omega) (LawC_wi (by omega) l1))
    unfold V_E_bit
    rw [bt_b (by omega)]
    cases ht : tb f j with
    | true =>
      rw [if_pos ht] at nx
      refine ⟨fun hb => absurd hb (by decide), fun _ => ?_⟩
      exact step M' y hM hLM hW rfl rfl rfl nx
    | false =>
      rw [if_neg (by rw [ht]; decide)] at nx
      refine ⟨fun _ => ⟨fun h3 => ?_, fun h3 => ?_⟩, fun hb => absurd rfl hb⟩
      · rw [q3] at h3 ⊢
        obtain ⟨m1, m2⟩ := mx_0 y2
        rw [m1, if_pos h3] at nx
        rw [m1, if_pos h3] at m2
        have hz := tk_W (x := cl y j 3 - 1) hW hcj m2
        exact step _ _ (CW_ct (x := cl y j 3 - 1) hM hn hcj (Or.inr (Or.inr (Or.inl ⟨rfl, rfl⟩)))) (LawC_wi (by omega) hLM) hz.1 (PR_nC hz.2) (by rw [cl_up (by omega) (by omega), if_neg (by omega)]) (by rw [cl_up (by omega) (by omega), if_neg (by omega)]) nx
      · rw [q3] at h3
        obtain ⟨m1, m2⟩ := mx_0 y2
        rw [m1, if_neg h3] at nx
        have e0 : cl y j 3 = 0 := Int32.toInt_inj.mp (by
          rw [Int32.lt_iff_toInt_lt, show (0 : Int32).toInt = 0 from rfl] at h3
          rw [show (0 : Int32).toInt = 0 from rfl]
          omega)
        have e2 : up1 y (18 + 13 * j + 3) 0 = y := by
          funext k
          unfold up1
          by_cases hk : k = 18 + 13 * j + 3
          · rw [if_pos hk, hk]
            exact e0.symm
          · rw [if_neg hk]
        rw [e2] at nx
        exact step M' y hM hLM hW rfl rfl rfl nx
  · obtain rfl : j = nC w := by omega
    rw [hM.1.2.2.1]
    exact hQ _ (CW_sc hM (Or.inr (Or.inl ⟨rfl, rfl⟩))) (LawC_wi (by omega) hLM)
theorem dayS_W (hw : WF w) : WF (dayS L w s).1 ∧ (∀ k, k < 18 → k ≠ 2 → k ≠ 3 → k ≠ 4 → k ≠ 5 → k ≠ 6 → k ≠ 9 → (dayS L w s).1 k = w k) ∧ (dayS L w s).1 2 = w 2 + 1 := by
  unfold dayS
  dsimp only
  have hP : P59 w (pickN L s (nC w) (w, 0)).1 := pickN_P _
  have wP := P59_WF hP hw
  have nP := P59_nC hP
  obtain ⟨hJ, wJ⟩ := judgeN_W (L := L) (fo := inF (pickN L s (nC w) (w, 0)).1 (nC w)) (f := bs (frb w) (nC w)) (d := (pickN L s (nC w) (w, 0)).2) (x := ((pickN L s (nC w) (w, 0)).1, s)) wP (nC w)
  generalize (judgeN L (inF (pickN L s (nC w) (w, 0)).1 (nC w)) (bs (frb w) (nC w)) (pickN L s (nC w) (w, 0)).2 (nC w) ((pickN L s (nC w) (w, 0)).1, s)).1 = j at *
  dsimp only at hJ
  have nJ : nC j = nC w := (PJ_nC hJ).trans nP
  obtain ⟨wR, hR⟩ := restN_W (f := bs (frb w) (nC w)) wJ (nC w) (by omega)
  refine ⟨WF_sc wR (by omega) (by omega) (by omega) (by omega), fun k h1 h2 h3 h4 h5 h6 h9 => ?_, ?_⟩
  · rw [up1_n (by omega), hR.1 k h1, hJ.1 k h1 h3 h4 h6 h9, hP k h5 h9]
  · rw [up1_e, hR.1 2 (by omega), hJ.1 2 (by omega) (by omega) (by omega) (by omega) (by omega), hP 2 (by omega) (by omega)]
theorem c_day {Q : MM → Prop} (h : CW M a w s) (hw : WF w) (hL : LawC M 8 L) (ha : 13 ≤ a) (hd : dOK w) (hQ : ∀ M', CW M' a (dayS L w s).1 (dayS L w s).2 → LawC M' 8 L → Q M') : W_World_passDay a N M Q := by
  unfold W_World_passDay
  refine c_taken h hw ?_
  rw [free_b h hw]
  refine c_pick h hw hL ha hd (fun M1 h1 l1 => ?_)
  have hP : P59 w (pickN L s (nC w) (w, 0)).1 := pickN_P _
  have wP := P59_WF hP hw
  have nP := P59_nC hP
  refine c_force h1 wP ?_
  refine c_judges h1 wP l1 ha (by unfold dOK; rw [hP 2 (by omega) (by omega)]; exact hd) (fun M2 h2 l2 => ?_)
  obtain ⟨hJ, wJ⟩ := judgeN_W (L := L) (fo := inF (pickN L s (nC w) (w, 0)).1 (nC (pickN L s (nC w) (w, 0)).1)) (f := bs (frb w) (nC w)) (d := (pickN L s (nC w) (w, 0)).2) (x := ((pickN L s (nC w) (w, 0)).1, s)) wP (nC (pickN L s (nC w) (w, 0)).1)
  refine c_rest h2 wJ l2 ha (fun M3 h3 l3 => ?_)
  rw [PJ_nC hJ] at h3
  dsimp only at h3
  rw [nP] at h3
  exact hQ M3 h3 l3
end C3
