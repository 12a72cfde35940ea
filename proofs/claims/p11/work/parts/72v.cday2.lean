/-! A DAY of the class: who breaks what -/
def lowN (x : Int32) : Nat → Nat → Int32
  | 0, _ => -1
  | n + 1, k => if (sr x (i32 k) &&& 1) = 1 then i32 k else lowN x n (k + 1)
theorem lowN_s {x : Int32} {n k : Nat} : lowN x (n + 1) k = if (sr x (i32 k) &&& 1) = 1 then i32 k else lowN x n (k + 1) := rfl
def lowC : Nat → Bool
  | 0 => true
  | n + 1 => decide (lowN (i32 (n + 1)) 12 0 = ntz (i32 (n + 1))) && lowC n
set_option maxRecDepth 100000 in
theorem lowC_1 : lowC 4095 = true := by decide +kernel
theorem lowC_a : ∀ n, lowC n = true → ∀ k, 1 ≤ k → k ≤ n → lowN (i32 k) 12 0 = ntz (i32 k)
  | 0, _, k, h1, h2 => by omega
  | n + 1, h, k, h1, h2 => by
    unfold lowC at h
    rw [Bool.and_eq_true, decide_eq_true_eq] at h
    by_cases e : k = n + 1
    · rw [e]; exact h.1
    · exact lowC_a n h.2 k h1 (by omega)
theorem low_ntz {x : Int32} (h0 : ¬ x = 0) (h1 : ∀ k, 12 ≤ k → k < 32 → tb x k = false) : lowN x 12 0 = ntz x := by
  have hb : x.toBitVec.toNat < 2 ^ 12 := by
    apply Nat.lt_pow_two_of_testBit
    intro i hi
    by_cases h : i < 32
    · exact h1 i hi h
    · exact BitVec.testBit_toNat x.toBitVec ▸ (BitVec.getLsbD_of_ge x.toBitVec i (by omega))
  have e : x = i32 x.toBitVec.toNat := by
    rw [← Int32.toBitVec_inj]
    show x.toBitVec = BitVec.ofNat 32 x.toBitVec.toNat
    rw [BitVec.ofNat_toNat, BitVec.setWidth_eq]
  have hp : x.toBitVec.toNat ≠ 0 := fun h => h0 (by rw [e, h]; rfl)
  rw [e]
  exact lowC_a 4095 lowC_1 _ (by omega) (by omega)
theorem mn_c (x y : Int32) : mn x y = mn y x := by
  unfold mn
  by_cases h1 : y < x
  · rw [if_pos h1]
    by_cases h2 : x < y
    · rw [Int32.lt_iff_toInt_lt] at h1 h2; omega
    · rw [if_neg h2]
  · rw [if_neg h1]
    by_cases h2 : x < y
    · rw [if_pos h2]
    · rw [if_neg h2]
      rw [Int32.lt_iff_toInt_lt] at h1 h2
      exact Int32.toInt_inj.mp (by omega)
section CJ
variable {a c N : Nat} {M : MM} {w : RW} {s : RS} {L : LWT} {f d : Int32}
theorem c_low {x : Int32} {Q : Int32 → Prop} (hQ : Q (lowN x 12 0)) : W_World_lowest x N M Q := by
  unfold W_World_lowest
  refine I_World_lowest_2 x M Q (fun v => ∃ j, j ≤ 12 ∧ v = i32 j ∧ lowN x (12 - j) j = lowN x 12 0) (fun N ih v hih hv => ?_) N _ ⟨0, by omega, rfl, rfl⟩
  obtain ⟨j, hj, rfl, e⟩ := hv
  unfold B_World_lowest_2 V_E_bit
  rw [show i32 j < 12 ↔ j < 12 from i32_lt (k := 12) (by omega) (by omega)]
  refine ⟨fun h => ?_, fun h => ?_⟩
  · rw [show 12 - j = (12 - (j + 1)) + 1 by omega, lowN_s] at e
    refine ⟨fun hb => ?_, fun hb => ?_⟩
    · rw [if_pos hb] at e
      rw [e]; exact hQ
    · rw [if_neg hb] at e
      exact hih _ ⟨j + 1, by omega, i32_s j, e⟩
  · obtain rfl : j = 12 := by omega
    rw [← e] at hQ
    exact hQ
/-- the log is told -/
theorem c_log {p2 p3 p4 : Int32} {Q : MM → Prop} (h : CW M a w s) (hw : WF w) (hL : LawC M 8 L) (ha : 13 ≤ a) (hQ : ∀ M', CW M' a (logS w p2 p3 p4) s → LawC M' 8 L → Q M') : W_Log_add (a + 10) (w 2) p2 p3 p4 N M Q := by
  have hn := (nC_i hw).2.1
  obtain ⟨⟨a0, a1, a2, a3, a4, a5, a6, a7, a8⟩, b1, b2, b3, b4, b5, b6⟩ := h
  have hw6 := hw.2.1
  unfold W_Log_add
  have ee := i32_ni b5.1
  have eb : ni (M.1 (a + 10) 2) < 60 := by unfold ni; omega
  refine hQ _ ?_ (LawC_wi (by omega) (LawC_wi (by omega) (LawC_wi (by omega) (LawC_wi (by omega) (LawC_wi (by omega) (LawC_wi (by omega) hL))))))
  simp (disch := omega) only [wi_1n]
  generalize hgen : ni (M.1 (a + 10) 2) = e at *
  rw [ee, b4]
  have x0 : ni (i32 e * 4) = e * 4 := by rw [show i32 e * 4 = i32 (e * 4) from i32_m e 4, ni_i (by omega)]
  have x1 : ni (i32 e * 4 + 1) = e * 4 + 1 := by rw [show i32 e * 4 = i32 (e * 4) from i32_m e 4, i32_s, ni_i (by omega)]
  have x2 : ni (i32 e * 4 + 2) = e * 4 + 2 := by rw [show i32 e * 4 = i32 (e * 4) from i32_m e 4, show i32 (e * 4) + 2 = i32 (e * 4 + 2) from i32_a _ 2, ni_i (by omega)]
  have x3 : ni (i32 e * 4 + 3) = e * 4 + 3 := by rw [show i32 e * 4 = i32 (e * 4) from i32_m e 4, show i32 (e * 4) + 3 = i32 (e * 4 + 3) from i32_a _ 3, ni_i (by omega)]
  rw [x0, x1, x2, x3, i32_s, show rm (i32 (e + 1)) 60 = i32 ((e + 1) % 60) from rm_n (y := 60) (by omega) (by omega)]
  have hP : PJ w (logS w p2 p3 p4) := PJ_lg
  have wk : ∀ k, k < 148 → k ≠ 6 → logS w p2 p3 p4 k = w k := fun k h1 h2 => by
    unfold logS
    rw [if_neg (by omega), if_neg (by omega), if_neg (by omega), if_neg (by omega), if_neg (by omega), if_neg (by omega)]
  have wc : ∀ c i, c < 10 → i < 13 → cl (logS w p2 p3 p4) c i = cl w c i := fun c i h1 h2 => wk _ (by omega) (by omega)
  have en : nC (logS w p2 p3 p4) = nC w := PJ_nC hP
  refine ⟨?_, fun d' hd' => ?_, ?_, fun c' hc' => ?_, ?_, ?_, fun k q hk hl hq => ?_⟩
  · unfold CWs
    simp (disch := omega) only [wi_1n, wk, a0, a1, a2, a3, a4, a5, a6, a7, a8, and_self]
  · simp (disch := omega) only [wi_1n]
    rw [wk _ (by omega) (by omega)]
    exact b1 d' hd'
  · simp (disch := omega) only [wi_1n]
    rw [en, b2]
    exact bs_congr (fun k' _ => by unfold alv; rw [wc _ _ (by omega) (by omega)])
  · rw [en] at hc'
    refine CWc_fr (b3 c' hc') (fun i _ => ?_) (fun k' _ => ?_) rfl (fun i hi => wc _ _ (by omega) hi) rfl
    · simp (disch := omega) only [wi_1n]
    · simp (disch := omega) only [wi_1n]
  · rw [wi_1e, mn_c]
    rfl
  · rw [wi_1n (by omega), wi_1e, i32_i (by omega)]
    omega
  · rw [show (wi (wi (wi (wi (wi (wi M (a + 10 + 1) (e * 4) (w 2)) (a + 10 + 1) (e * 4 + 1) p2) (a + 10 + 1) (e * 4 + 2) p3) (a + 10 + 1) (e * 4 + 3) p4) (a + 10) 2 (i32 ((e + 1) % 60))) (a + 10) 1 (mn (w 6 + 1) 60)).1 (a + 10) 2 = i32 ((e + 1) % 60) from by rw [wi_1n (by omega), wi_1e], ni_i (by omega)]
    have hl6 : (k : Int) < (mn 60 (w 6 + 1)).toInt := hl
    by_cases hk0 : k = 0
    · subst hk0
      have ei : ((e + 1) % 60 + 59 - 0) % 60 = e := by omega
      rw [ei]
      have : q = 0 ∨ q = 1 ∨ q = 2 ∨ q = 3 := by omega
      rcases this with rfl | rfl | rfl | rfl
      · simp (disch := omega) only [wi_1n, Nat.add_zero, wi_1e]
        rfl
      · simp (disch := omega) only [wi_1n, wi_1e]
        rfl
      · simp (disch := omega) only [wi_1n, wi_1e]
        rfl
      · simp (disch := omega) only [wi_1n, wi_1e]
        rfl
    · have ei : ((e + 1) % 60 + 59 - k) % 60 = (e + 59 - (k - 1)) % 60 := by omega
      rw [ei]
      have hne : (e + 59 - (k - 1)) % 60 ≠ e := by omega
      have e1 : (w 6 + 1).toInt = (w 6).toInt + 1 := by
        rw [i32_add (by rw [show (1 : Int32).toInt = 1 from rfl]; omega) (by rw [show (1 : Int32).toInt = 1 from rfl]; omega)]
        rfl
      have hle : (mn 60 (w 6 + 1)).toInt ≤ (w 6).toInt + 1 := by
        unfold mn
        by_cases h : w 6 + 1 < 60
        · rw [if_pos h]; omega
        · rw [if_neg h]
          rw [Int32.lt_iff_toInt_lt, show (60 : Int32).toInt = 60 from rfl] at h
          rw [show (60 : Int32).toInt = 60 from rfl]
          omega
      have h6 := b6 (k - 1) q (by omega) (by omega) hq
      generalize (e + 59 - (k - 1)) % 60 = z at *
      simp (disch := omega) only [wi_1n]
      rw [h6]
      unfold logS
      rw [if_neg (by omega), if_neg (by omega), if_neg (by omega), if_neg (by omega), if_pos (by omega)]
      congr 1
      omega
theorem c_see {p2 p4 u5 : Int32} {Q : MM → Prop} (h : CW M a w s) (hw : WF w) (hL : LawC M 8 L) (ha : 13 ≤ a) (hQ : ∀ M', CW M' a w (seeS w f u5 (nC w) s) → LawC M' 8 L → Q M') : W_World_judge_112 a p2 f p4 u5 Q N 0 M := by
  obtain ⟨e0, hn10, ei⟩ := nC_i hw
  refine I_World_judge_112 a p2 f p4 u5 Q (fun v7 M' => ∃ j, j ≤ nC w ∧ v7 = i32 j ∧ CW M' a w (seeS w f u5 j s) ∧ LawC M' 8 L) (fun N ih v7 M' hih hv => ?_) N _ _ ⟨0, by omega, rfl, h, hL⟩
  obtain ⟨j, hj, rfl, hM, hLM⟩ := hv
  unfold B_World_judge_112
  rw [hM.1.1, ei, i32_lt (by omega) (by omega)]
  refine ⟨fun hlt => ?_, fun hlt => ?_⟩
  · have nx : ∀ M', CW M' a w (seeS w f u5 (j + 1) s) → LawC M' 8 L → ih (i32 j + 1) M' := fun M' h1 h2 => hih _ _ ⟨j + 1, by omega, i32_s j, h1, h2⟩
    rw [seeS_s] at nx
    unfold V_E_bit V_World_placeAhead
    rw [show V_World_matterAhead a (i32 j) 0 M' = md w j 0 from c_ahead hM hw hlt (k := 0) (by omega), ni_i (by omega)]
    refine ⟨fun hb => ⟨fun hm => ?_, fun hm => ?_⟩, fun hb => ?_⟩
    · rw [bt_1 (by omega)] at hb
      rw [if_pos ⟨hb, hm⟩] at nx
      rw [(hM.2.2.2.1 j hlt).2.2.2.2.2.2.2]
      exact nx _ (CW_sn hM) hLM
    · rw [if_neg (fun e => hm e.2)] at nx
      exact nx _ hM hLM
    · rw [bt_1 (by omega)] at hb
      rw [if_neg (fun e => hb e.1)] at nx
      exact nx _ hM hLM
  · obtain rfl : j = nC w := by omega
    exact hQ _ hM hLM
theorem fbn_hi {fo : Int32} (hL : L.1 ≤ 12) : ∀ k, 12 ≤ k → k < 32 → tb (fo &&& fbn L w c) k = false := fun k h1 h2 => by
  unfold fbn
  rw [tb_and, tb_bs _ _ (by omega) _ h2, decide_eq_false (by omega)]
  simp
theorem c_judge {fo : Int32} {Q : MM → Prop} (h : CW M a w s) (hw : WF w) (hL : LawC M 8 L) (ha : 13 ≤ a) (hd : dOK w) (hc : c < nC w) (hQ : ∀ M', CW M' a (judgeS L fo f c (w, s)).1 (judgeS L fo f c (w, s)).2 → LawC M' 8 L → Q M') : W_World_judge a (i32 c) f fo N M Q := by
  have hn := (nC_i hw).2.1
  obtain ⟨em, bm⟩ := md_i (k := 0) (hw.2.2.2 c hc)
  have b8 : ni (md w c 0 / 8) < 8 := by
    rw [em, show i32 (ni (md w c 0)) / 8 = i32 (ni (md w c 0) / 8) from i32_d (y := 8) (by omega) (by omega), ni_i (by omega)]
    omega
  unfold W_World_judge
  refine c_fb h hw hL hd hc ?_
  rw [show V_World_matterAhead a (i32 c) 0 M = md w c 0 from c_ahead h hw hc (k := 0) (by omega)]
  have hJ := judgeS_W (L := L) (fo := fo) (f := f) (c := c) (x := (w, s)) hw
  unfold judgeS at hQ hJ
  refine ⟨fun h0 => ?_, fun h0 => ?_⟩
  · rw [if_pos h0] at hQ
    exact hQ M h hL
  · rw [if_neg h0] at hQ hJ
    rw [h.1.2.2.2.2.1, h.2.1 _ b8]
    have h1 : CW (wi M a 17 (w 4 + w (10 + ni (md w c 0 / 8)))) a (hrmS w c) s := CW_sc h (Or.inr (Or.inr (Or.inr (Or.inl ⟨rfl, rfl⟩))))
    have l1 : LawC (wi M a 17 (w 4 + w (10 + ni (md w c 0 / 8)))) 8 L := LawC_wi (by omega) hL
    generalize wi M a 17 (w 4 + w (10 + ni (md w c 0 / 8))) = M1 at *
    unfold W_World_draw
    rw [h1.1.2.2.2.2.2.2.2.2, wi_1e, su_sr]
    have e9 : 1103515245 * hrmS w c 9 + 12345 = sd (w 9) := by
      rw [show hrmS w c 9 = w 9 from up1_n (by omega)]
      rfl
    rw [e9]
    have h2 : CW (wi M1 a 14 (sd (w 9))) a (up1 (hrmS w c) 9 (sd (w 9))) s := CW_sc h1 (Or.inr (Or.inr (Or.inr (Or.inr (Or.inr (Or.inr (Or.inr ⟨rfl, rfl⟩)))))))
    have l2 : LawC (wi M1 a 14 (sd (w 9))) 8 L := LawC_wi (by omega) l1
    have w9 : WF (up1 (hrmS w c) 9 (sd (w 9))) := WF_sc (WF_sc hw (by omega) (by omega) (by omega) (by omega)) (by omega) (by omega) (by omega) (by omega)
    have p9 : PJ w (up1 (hrmS w c) 9 (sd (w 9))) := PJ_tr (PJ_up (Or.inr (Or.inl rfl))) (PJ_up (Or.inr (Or.inr (Or.inr rfl))))
    generalize wi M1 a 14 (sd (w 9)) = M2 at *
    dsimp only at hQ hJ ⊢
    generalize up1 (hrmS w c) 9 (sd (w 9)) = y at *
    rw [h2.1.2.2.2.2.2.2.1, show y 7 = w 7 from p9.1 7 (by omega) (by omega) (by omega) (by omega) (by omega)]
    refine ⟨fun hb => ?_, fun hb => ?_⟩
    · rw [if_pos (show dr (sd (w 9)) < w 7 from hb)] at hQ hJ
      have hcy : c < nC y := by rw [PJ_nC p9]; exact hc
      rw [h2.1.2.2.2.2.2.2.2.1, ni_i (by omega), show (wi M2 (a + 3) c (y 8)).1 a 16 = M2.1 a 16 from wi_1n (by omega), h2.1.2.2.2.1]
      have h3 : CW (wi (wi M2 (a + 3) c (y 8)) a 16 (y 3 + 1)) a (takeS y c) s := by
        have h4 := CW_sc (x := y 3 + 1) (CW_ct (x := y 8) h2 (by rw [PJ_nC p9]; exact hn) hcy (Or.inr (Or.inr (Or.inl ⟨rfl, rfl⟩)))) (Or.inr (Or.inr (Or.inl ⟨rfl, rfl⟩)))
        rw [up1_c (by omega)] at h4
        exact h4
      have l3 : LawC (wi (wi M2 (a + 3) c (y 8)) a 16 (y 3 + 1)) 8 L := LawC_wi (by omega) (LawC_wi (by omega) l2)
      generalize wi (wi M2 (a + 3) c (y 8)) a 16 (y 3 + 1) = M3 at *
      have ht : PJ y (takeS y c) := PJ_tk
      have wt : WF (takeS y c) := PJ_WF ht w9 (by unfold takeS; rw [up1_n (by omega), up1_n (by omega)]; exact w9.2.1) (fun c' hc' => by
        unfold takeS
        rw [cl_up (by omega) (by omega)]
        by_cases e : c' = c
        · rw [if_pos ⟨e, rfl⟩]; exact w9.2.2.1
        · rw [if_neg (by omega), cl_lo (by omega)]; exact (w9.2.2.2 c' hc').2.1)
      refine c_low ?_
      rw [low_ntz h0 (fbn_hi hL.2.1), h3.1.2.2.1]
      refine c_log h3 wt l3 ha (fun M4 h4 l4 => ?_)
      refine c_see h4 hJ.2 l4 ha (fun M5 h5 l5 => ?_)
      refine hQ M5 ?_ l5
      have hl : PJ w (logS (takeS y c) (i32 c) (md w c 0) (ntz (fo &&& fbn L w c))) := PJ_tr p9 (PJ_tr ht PJ_lg)
      rw [PJ_nC hl, seeS_w hl hw (Nat.le_refl _)] at h5
      exact h5
    · rw [if_neg (show ¬ dr (sd (w 9)) < w 7 from hb)] at hQ
      exact hQ M2 h2 l2
end CJ
