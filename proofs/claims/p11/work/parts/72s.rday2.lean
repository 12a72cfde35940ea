/-! A DAY of the reference: who breaks what, and the rest -/
theorem i32_p (k : Nat) : i32 (k + 1) + (-1) = i32 k := by
  rw [← i32_s, Int32.add_assoc]
  exact Int32.add_zero _
theorem i32_sb (a b : Nat) : i32 (a + b) - i32 b = i32 a := by
  rw [← i32_a]
  exact Int32.add_sub_cancel _ _
theorem v_has {x : Int32} {j : Nat} {M : MM} (hj : j < 32) : V_m_has x (i32 j) M = b32 (tb x j) := by
  unfold V_m_has
  rw [if_b32]
  congr 1
  cases h : tb x j with
  | true => exact decide_eq_true ((bt_1 hj).mpr h)
  | false => exact decide_eq_false (fun e => by rw [(bt_1 hj).mp e] at h; cases h)
def shf (w : RW) (k : Nat) : RW := fun j => if 148 + k < j ∧ j < 388 then w (j - 4) else w j
theorem shf_s {w : RW} {k : Nat} (hk : 4 ≤ k) (hk2 : k ≤ 239) : up1 (shf w k) (148 + k) (shf w k (144 + k)) = shf w (k - 1) := by
  funext j
  unfold up1 shf
  rw [if_neg (show ¬ (148 + k < 144 + k ∧ 144 + k < 388) by omega)]
  by_cases h : j = 148 + k
  · subst h
    rw [if_pos rfl, if_pos (by omega)]
    congr 1
    omega
  · rw [if_neg h]
    by_cases h2 : 148 + k < j ∧ j < 388
    · rw [if_pos h2, if_pos (by omega)]
    · rw [if_neg h2, if_neg (by omega)]
theorem shf_239 {w : RW} : shf w 239 = w := by
  funext j
  unfold shf
  exact if_neg (by omega)
theorem log_shf {w : RW} {c m k : Int32} : up1 (up1 (up1 (up1 (up1 (shf w 3) 148 (w 2)) 149 c) 150 m) 151 k) 6 (mn 60 (w 6 + 1)) = logS w c m k := by
  funext j
  unfold logS up1 shf
  by_cases h6 : j = 6
  · subst h6; simp
  · rw [if_neg h6]
    by_cases h1 : j = 151
    · subst h1; simp
    · rw [if_neg h1]
      by_cases h2 : j = 150
      · subst h2; simp
      · rw [if_neg h2]
        by_cases h3 : j = 149
        · subst h3; simp
        · rw [if_neg h3]
          by_cases h4 : j = 148
          · subst h4; simp
          · rw [if_neg h4, if_neg h4, if_neg h3, if_neg h2, if_neg h1]
            by_cases h5 : 152 ≤ j ∧ j < 388
            · rw [if_pos (show 148 + 3 < j ∧ j < 388 by omega), if_pos h5]
            · rw [if_neg (show ¬ (148 + 3 < j ∧ j < 388) by omega), if_neg h5, if_neg h6]
/-- what stays in (b) -/
def PJ (w w' : RW) : Prop := (∀ k, k < 18 → k ≠ 3 → k ≠ 4 → k ≠ 6 → k ≠ 9 → w' k = w k) ∧ ∀ c i, c < 10 → i < 13 → i ≠ 3 → cl w' c i = cl w c i
theorem PJ_rf (w : RW) : PJ w w := ⟨fun _ _ _ _ _ _ => rfl, fun _ _ _ _ _ => rfl⟩
theorem PJ_tr {a b c : RW} (h1 : PJ a b) (h2 : PJ b c) : PJ a c := ⟨fun k a1 a2 a3 a4 a5 => (h2.1 k a1 a2 a3 a4 a5).trans (h1.1 k a1 a2 a3 a4 a5), fun c i a1 a2 a3 => (h2.2 c i a1 a2 a3).trans (h1.2 c i a1 a2 a3)⟩
theorem PJ_nC {w w' : RW} (h : PJ w w') : nC w' = nC w := by unfold nC; rw [h.1 0 (by omega) (by omega) (by omega) (by omega) (by omega)]
theorem PJ_md {w w' : RW} (h : PJ w w') {c k : Nat} (hc : c < 10) (hw : WFc w c) : md w' c k = md w c k := by
  unfold md
  rw [h.2 c 6 hc (by omega) (by omega), h.2 c 5 hc (by omega) (by omega)]
  obtain ⟨-, -, -, ⟨h1, h2⟩, -, -⟩ := hw
  have b5 : ((ni (cl w c 5) : Nat) : Int) = (cl w c 5).toInt := by unfold ni; omega
  have := Nat.mod_lt (ni (cl w c 6) + k) (y := ni (cl w c 5)) (by omega)
  exact h.2 c _ hc (by omega) (by omega)
theorem PJ_fbn {L : LWT} {w w' : RW} (h : PJ w w') {c : Nat} (hc : c < 10) (hw : WFc w c) : fbn L w' c = fbn L w c := by
  unfold fbn
  rw [PJ_md h hc hw, h.2 c 1 hc (by omega) (by omega), h.1 2 (by omega) (by omega) (by omega) (by omega) (by omega)]
theorem PJ_WF {w w' : RW} (h : PJ w w') (hw : WF w) (h6 : 0 ≤ (w' 6).toInt ∧ (w' 6).toInt ≤ 60) (h3 : ∀ c, c < nC w → 0 ≤ (cl w' c 3).toInt) : WF w' := by
  have hn := (nC_i hw).2.1
  obtain ⟨g0, g6, g8, hc⟩ := hw
  have e0 := h.1 0 (by omega) (by omega) (by omega) (by omega) (by omega)
  refine ⟨by rw [e0]; exact g0, h6, by rw [h.1 8 (by omega) (by omega) (by omega) (by omega) (by omega)]; exact g8, fun c hcn => ?_⟩
  rw [PJ_nC h] at hcn
  have hc10 : c < 10 := by omega
  obtain ⟨c1, c2, c3, c4, c5, c6⟩ := hc c hcn
  refine ⟨by rw [h.2 c 0 hc10 (by omega) (by omega)]; exact c1, h3 c hcn, by rw [h.2 c 4 hc10 (by omega) (by omega), e0]; exact c3, by rw [h.2 c 5 hc10 (by omega) (by omega)]; exact c4, by rw [h.2 c 5 hc10 (by omega) (by omega), h.2 c 6 hc10 (by omega) (by omega)]; exact c5, fun k hk hl => ?_⟩
  rw [h.2 c 5 hc10 (by omega) (by omega)] at hl
  rw [h.2 c (7 + k) hc10 (by omega) (by omega)]
  exact c6 k hk hl
theorem PJ_up {w : RW} {k : Nat} {x : Int32} (hk : k = 3 ∨ k = 4 ∨ k = 6 ∨ k = 9) : PJ w (up1 w k x) := ⟨fun j _ _ _ _ _ => up1_n (by omega), fun c i _ _ _ => cl_lo (by omega)⟩
theorem PJ_tk {w : RW} {c : Nat} : PJ w (takeS w c) := ⟨fun j _ _ _ _ _ => by unfold takeS; rw [up1_n (by omega), up1_n (by omega)], fun c' i _ hi h3 => by unfold takeS; rw [cl_up (by omega) hi, if_neg (by omega), cl_lo (by omega)]⟩
theorem PJ_lg {w : RW} {c m k : Int32} : PJ w (logS w c m k) := by
  refine ⟨fun j _ _ _ _ _ => ?_, fun c' i hc' hi h3 => ?_⟩
  · unfold logS
    rw [if_neg (by omega), if_neg (by omega), if_neg (by omega), if_neg (by omega), if_neg (by omega), if_neg (by omega)]
  · unfold cl logS
    rw [if_neg (by omega), if_neg (by omega), if_neg (by omega), if_neg (by omega), if_neg (by omega), if_neg (by omega)]
theorem mn_60 {x : Int32} (h0 : 0 ≤ x.toInt) (h1 : x.toInt ≤ 60) : 0 ≤ (mn 60 (x + 1)).toInt ∧ (mn 60 (x + 1)).toInt ≤ 60 := by
  have e : (x + 1).toInt = x.toInt + 1 := by
    rw [i32_add (by rw [show (1 : Int32).toInt = 1 from rfl]; omega) (by rw [show (1 : Int32).toInt = 1 from rfl]; omega)]
    rfl
  unfold mn
  by_cases h : x + 1 < 60
  · rw [if_pos h]
    rw [Int32.lt_iff_toInt_lt, show (60 : Int32).toInt = 60 from rfl] at h
    exact ⟨by rw [e]; omega, by omega⟩
  · rw [if_neg h]
    rw [Int32.lt_iff_toInt_lt, show (60 : Int32).toInt = 60 from rfl] at h
    rw [show (60 : Int32).toInt = 60 from rfl]
    exact ⟨by omega, by omega⟩
theorem judgeS_W {L : LWT} {fo f : Int32} {c : Nat} {x : RW × RS} (hw : WF x.1) : PJ x.1 (judgeS L fo f c x).1 ∧ WF (judgeS L fo f c x).1 := by
  have h9 : PJ x.1 (up1 (hrmS x.1 c) 9 (sd (x.1 9))) := PJ_tr (PJ_up (Or.inr (Or.inl rfl))) (PJ_up (Or.inr (Or.inr (Or.inr rfl))))
  have w9 : WF (up1 (hrmS x.1 c) 9 (sd (x.1 9))) := WF_sc (WF_sc hw (by omega) (by omega) (by omega) (by omega)) (by omega) (by omega) (by omega) (by omega)
  unfold judgeS
  split
  · exact ⟨PJ_rf _, hw⟩
  · split
    · dsimp only
      generalize up1 (hrmS x.1 c) 9 (sd (x.1 9)) = y at h9 w9
      have ht : PJ y (takeS y c) := PJ_tk
      have wt : WF (takeS y c) := PJ_WF ht w9 (by unfold takeS; rw [up1_n (by omega), up1_n (by omega)]; exact w9.2.1) (fun c' hc' => by
        unfold takeS
        rw [cl_up (by omega) (by omega)]
        by_cases e : c' = c
        · rw [if_pos ⟨e, rfl⟩]; exact w9.2.2.1
        · rw [if_neg (by omega), cl_lo (by omega)]; exact (w9.2.2.2 c' hc').2.1)
      refine ⟨PJ_tr h9 (PJ_tr ht PJ_lg), PJ_WF PJ_lg wt ?_ (fun c' hc' => ?_)⟩
      · exact mn_60 wt.2.1.1 wt.2.1.2
      · have := (nC_i wt).2.1
        have e : cl (logS (takeS y c) (i32 c) (md x.1 c 0) (ntz (fo &&& fbn L x.1 c))) c' 3 = cl (takeS y c) c' 3 := by
          unfold cl logS
          rw [if_neg (by omega), if_neg (by omega), if_neg (by omega), if_neg (by omega), if_neg (by omega), if_neg (by omega)]
        rw [e]
        exact (wt.2.2.2 c' hc').2.1
    · exact ⟨h9, w9⟩
theorem judgeN_s {L : LWT} {fo f d : Int32} {n : Nat} {x : RW × RS} : judgeN L fo f d (n + 1) x = if tb d n = true then judgeS L fo f n (judgeN L fo f d n x) else judgeN L fo f d n x := rfl
theorem judgeN_W {L : LWT} {fo f d : Int32} {x : RW × RS} (hw : WF x.1) : ∀ n, PJ x.1 (judgeN L fo f d n x).1 ∧ WF (judgeN L fo f d n x).1
  | 0 => ⟨PJ_rf _, hw⟩
  | n + 1 => by
    obtain ⟨h1, h2⟩ := judgeN_W (L := L) (fo := fo) (f := f) (d := d) hw n
    rw [judgeN_s]
    split
    · obtain ⟨h3, h4⟩ := judgeS_W (L := L) (fo := fo) (f := f) (c := n) h2
      exact ⟨PJ_tr h1 h3, h4⟩
    · exact ⟨h1, h2⟩
theorem seeS_s {w : RW} {f m : Int32} {n : Nat} {s : RS} : seeS w f m (n + 1) s = if tb f n = true ∧ rm (md w n 0) 8 = rm m 8 then us (seeS w f m n s) n (seeS w f m n s n ||| ll (Int64.ofNat 1) m) else seeS w f m n s := rfl
theorem seeS_w {w w' : RW} (h : PJ w w') (hw : WF w) {f m : Int32} {s : RS} : ∀ {n}, n ≤ nC w → seeS w' f m n s = seeS w f m n s
  | 0, _ => rfl
  | n + 1, hn => by
    have := (nC_i hw).2.1
    rw [seeS_s, seeS_s, seeS_w h hw (by omega), PJ_md h (by omega) (hw.2.2.2 n (by omega))]
section RE
variable {M : MM} {w : RW} {s : RS} {f d : Int32} {v : Nat → Int32} {L : LWT} {c N : Nat}
theorem r_log {p1 p2 p3 : Int32} {Q : MM → Prop} (hQ : Q (rM M (logS w p1 p2 p3) s f d v)) : W_m_isLogged p1 p2 p3 N (rM M w s f d v) Q := by
  unfold W_m_isLogged
  refine I_m_isLogged_5 p1 p2 p3 _ Q (fun v4 M' => ∃ k, 3 ≤ k ∧ k ≤ 239 ∧ v4 = i32 k ∧ M' = rM M (shf w k) s f d v) (fun N ih v4 M' hih hv => ?_) N _ _ ⟨239, by omega, by omega, rfl, by rw [shf_239]⟩
  obtain ⟨k, h1, h2, rfl, rfl⟩ := hv
  unfold B_m_isLogged_5
  rw [show i32 k < 4 ↔ k < 4 from i32_lt (k := 4) (by omega) (by omega)]
  refine ⟨fun h => ?_, fun h => ?_⟩
  · obtain rfl : k = 3 := by omega
    simp only [n148, n149, n150, n151, n2, n6, rM_191, rM_w]
    have e2 : shf w 3 2 = w 2 := rfl
    have e6 : up1 (up1 (up1 (up1 (shf w 3) 148 (shf w 3 2)) 149 p1) 150 p2) 151 p3 6 = w 6 := by
      rw [up1_n (by omega), up1_n (by omega), up1_n (by omega), up1_n (by omega)]
      rfl
    rw [e6, e2, log_shf]
    exact hQ
  · rw [rM_191, show (148 : Int32) + i32 k = i32 (148 + k) from i32_a 148 k, ni_i (by omega), show i32 (148 + k) - 4 = i32 (144 + k) from by
      rw [show 148 + k = 144 + k + 4 by omega]
      exact i32_sb (144 + k) 4, ni_i (by omega), rM_w, shf_s (by omega) (by omega)]
    obtain ⟨k', rfl⟩ : ∃ k', k = k' + 1 := ⟨k - 1, by omega⟩
    exact hih _ _ ⟨k', by omega, by omega, i32_p k', rfl⟩
theorem r_see {p1 p2 p3 : Int32} {Q : MM → Prop} (hw : WF w) (hQ : Q (rM M w (seeS w f p2 (nC w) s) f d v)) : W_m_breaks_74 p1 p2 p3 Q N 0 (rM M w s f d v) := by
  obtain ⟨e0, hn10, ei⟩ := nC_i hw
  refine I_m_breaks_74 p1 p2 p3 Q (fun v4 M' => ∃ j, j ≤ nC w ∧ v4 = i32 j ∧ M' = rM M w (seeS w f p2 j s) f d v) (fun N ih v4 M' hih hv => ?_) N _ _ ⟨0, by omega, rfl, rfl⟩
  obtain ⟨j, hj, rfl, rfl⟩ := hv
  unfold B_m_breaks_74
  rw [rM_cz, ei, i32_lt (by omega) (by omega)]
  refine ⟨fun hlt => ?_, fun hlt => ?_⟩
  · have nx : ih (i32 j + 1) (rM M w (seeS w f p2 (j + 1) s) f d v) := hih _ _ ⟨j + 1, by omega, i32_s j, rfl⟩
    rw [seeS_s] at nx
    rw [rM_29, v_has (by omega), show V_m_doesIn (i32 j) 0 (rM M w (seeS w f p2 j s) f d v) = md w j 0 from rM_does (k := 0) (by omega) (hw.2.2.2 j hlt) (by omega), ni_i (by omega), rM_196, rM_j]
    cases ht : tb f j with
    | false =>
      rw [if_neg (by rw [ht]; simp)] at nx
      exact ⟨fun _ => nx, fun h => absurd rfl h⟩
    | true =>
      refine ⟨fun h => absurd h (by decide), fun _ => ⟨fun h => ?_, fun h => ?_⟩⟩
      · rw [if_pos ⟨ht, h⟩] at nx; exact nx
      · rw [if_neg (fun e => h e.2)] at nx; exact nx
  · obtain rfl : j = nC w := by omega
    exact hQ
theorem r_breaks {by_ : Int32} {Q : MM → Prop} (hw : WF w) (hc : c < nC w) (hQ : Q (if dr (sd (w 9)) < w 7 then rM M (logS (takeS (up1 (hrmS w c) 9 (sd (w 9))) c) (i32 c) (md w c 0) (ntz by_)) (seeS w f (md w c 0) (nC w) s) f d v else rM M (up1 (hrmS w c) 9 (sd (w 9))) s f d v)) : W_m_breaks (i32 c) (md w c 0) by_ N (rM M w s f d v) Q := by
  have hn10 := (nC_i hw).2.1
  obtain ⟨em, bm⟩ := md_i (k := 0) (hw.2.2.2 c hc)
  unfold W_m_breaks W_m_draw
  have e8 : (10 : Int32) + md w c 0 / 8 = i32 (10 + ni (md w c 0 / 8)) := by
    rw [em, show i32 (ni (md w c 0)) / 8 = i32 (ni (md w c 0) / 8) from i32_d (y := 8) (by omega) (by omega), ni_i (by omega)]
    exact i32_a 10 _
  have b8 : ni (md w c 0 / 8) < 8 := by
    rw [em, show i32 (ni (md w c 0)) / 8 = i32 (ni (md w c 0) / 8) from i32_d (y := 8) (by omega) (by omega), ni_i (by omega)]
    omega
  rw [e8]
  simp only [n4, n9, n7, n3, n8, rM_191, rM_w, ni_i (show 10 + ni (md w c 0 / 8) < 2147483648 by omega)]
  have h9 : PJ w (up1 (hrmS w c) 9 (sd (w 9))) := PJ_tr (PJ_up (Or.inr (Or.inl rfl))) (PJ_up (Or.inr (Or.inr (Or.inr rfl))))
  have hj := judgeS_W (L := (0, fun _ => 0, fun _ => 0, fun _ _ _ _ _ => false)) (fo := 0) (f := 0) (c := c) (x := (w, s)) hw
  have es : 1103515245 * (up1 w 4 (w 4 + w (10 + ni (md w c 0 / 8)))) 9 + 12345 = sd (w 9) := by
    rw [up1_n (by omega)]
    rfl
  rw [es, up1_e]
  rw [show up1 w 4 (w 4 + w (10 + ni (md w c 0 / 8))) = hrmS w c from rfl]
  rw [show up1 (hrmS w c) 9 (sd (w 9)) 7 = w 7 from by rw [up1_n (by omega)]; exact up1_n (by omega)]
  refine ⟨fun h => ?_, fun h => ?_⟩
  · rw [if_pos (show dr (sd (w 9)) < w 7 from h)] at hQ
    unfold W_m_sets
    simp only [rM_w]
    rw [show ni ((18 + (13 * i32 c)) + 3) = 18 + 13 * c + 3 from ofs (i := 3) (by omega) (by omega)]
    rw [show up1 (up1 (hrmS w c) 9 (sd (w 9))) 3 (up1 (hrmS w c) 9 (sd (w 9)) 3 + 1) 8 = (up1 (hrmS w c) 9 (sd (w 9))) 8 from up1_n (by omega)]
    rw [show up1 (up1 (up1 (hrmS w c) 9 (sd (w 9))) 3 (up1 (hrmS w c) 9 (sd (w 9)) 3 + 1)) (18 + 13 * c + 3) (up1 (hrmS w c) 9 (sd (w 9)) 8) = takeS (up1 (hrmS w c) 9 (sd (w 9))) c from rfl]
    have w9 : WF (up1 (hrmS w c) 9 (sd (w 9))) := WF_sc (WF_sc hw (by omega) (by omega) (by omega) (by omega)) (by omega) (by omega) (by omega) (by omega)
    generalize up1 (hrmS w c) 9 (sd (w 9)) = y at *
    have ht : PJ y (takeS y c) := PJ_tk
    have wt : WF (takeS y c) := PJ_WF ht w9 (by unfold takeS; rw [up1_n (by omega), up1_n (by omega)]; exact w9.2.1) (fun c' hc' => by
        unfold takeS
        rw [cl_up (by omega) (by omega)]
        by_cases e : c' = c
        · rw [if_pos ⟨e, rfl⟩]; exact w9.2.2.1
        · rw [if_neg (by omega), cl_lo (by omega)]; exact (w9.2.2.2 c' hc').2.1)
    show W_m_isLogged (i32 c) (md w c 0) (ntz by_) N (rM M (takeS y c) s f d v) _
    refine r_log ?_
    have hl : PJ w (logS (takeS y c) (i32 c) (md w c 0) (ntz by_)) := PJ_tr h9 (PJ_tr ht PJ_lg)
    have wl : WF (logS (takeS y c) (i32 c) (md w c 0) (ntz by_)) := PJ_WF (w := takeS y c) PJ_lg wt (mn_60 wt.2.1.1 wt.2.1.2) (fun c' hc' => by
      have := (nC_i wt).2.1
      have e : cl (logS (takeS y c) (i32 c) (md w c 0) (ntz by_)) c' 3 = cl (takeS y c) c' 3 := by
        unfold cl logS
        rw [if_neg (by omega), if_neg (by omega), if_neg (by omega), if_neg (by omega), if_neg (by omega), if_neg (by omega)]
      rw [e]
      exact (wt.2.2.2 c' hc').2.1)
    refine r_see wl ?_
    rw [PJ_nC hl, seeS_w hl hw (Nat.le_refl _)]
    exact hQ
  · rw [if_neg (show ¬ dr (sd (w 9)) < w 7 from h)] at hQ
    exact hQ
end RE
