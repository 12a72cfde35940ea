/-! THE LAW: each of its cases, both sides coupled (printed by wip/eq/gen93.py) -/
section LWC
variable {X : List AI} {N : Nat} {cl : List (Nat × AV)} {C : List AC} {K : Option AV ⊕ Nat → List AC → Prop} {i : Int32} {iN : Nat} {s h B : Int}
set_option maxRecDepth 20000 in
set_option maxHeartbeats 1000000 in
theorem lc_0 (hX : lw_X X) (hS : lt_S s h s h C) (hM : LM B C) (hB : 0 ≤ B ∧ B ≤ 28000) (hl : lw_L cl i) (hi : i.toInt = (iN : Int)) (hlen : iN + 6 ≤ X.length) (next : ∀ cl' C', (∃ s h, lt_S s h s h C') → LM (B + 50) C' → lw_L cl' i → okb (tb_P (some X)) N 0 1725 cl' [] C' K) : okb (tb_P (some X)) (1 + N) 0 244 cl [] C K := by
  refine okb_more (N := N) (by omega) ?_
  refine okb_an rfl hl.2.1 rfl ?_
  refine lw_ld hX hl hi (k := 1) (by decide) (by omega) rfl rfl rfl rfl rfl (fun y1 hy1 => ?_)
  refine lw_ld hX hl hi (k := 2) (by decide) (by omega) rfl rfl rfl rfl rfl (fun y2 hy2 => ?_)
  refine lw_ld hX hl hi (k := 3) (by decide) (by omega) rfl rfl rfl rfl rfl (fun y3 hy3 => ?_)
  refine lw_ld hX hl hi (k := 4) (by decide) (by omega) rfl rfl rfl rfl rfl (fun y4 hy4 => ?_)
  refine lw_ld hX hl hi (k := 5) (by decide) (by omega) rfl rfl rfl rfl rfl (fun y5 hy5 => ?_)
  obtain ⟨xs, x1, -, -⟩ := hI_f hS.1 (show tb_G 0 = some (.inl (11, _)) from rfl)
  obtain ⟨M, hm, hCP⟩ := hM
  refine okb_cv0 (mj := 131) (as := [.inl (.inl y1), .inl (.inl y2), .inl (.inl y3), .inl (.inl y4), .inl (.inl y5)]) (T := []) rfl rfl x1 rfl rfl rfl (ok_pa (cm_feed (some X) hS.1) (jc_feed hm hCP)) (fun o C1 hq => ?_)
  obtain ⟨⟨w, rfl, hw⟩, M1, hm1, hJ⟩ := hq
  refine ⟨_, rfl, ?_⟩
  rw [hS.2.2.2.1, hS.2.2.2.2.1] at hw
  obtain ⟨s1, hS1, hw1⟩ : ∃ s1, lt_S s1 h s h C1 ∧ ((s ≤ 380 ∧ w.toInt = s + 20 ∧ s1 = s + 20) ∨ (381 ≤ s ∧ w.toInt = -1 ∧ s1 = s)) := by
    rcases hw with ⟨e1, e2, e3⟩ | ⟨e1, e2, e3⟩
    · exact ⟨_, lt_cm hS e3, Or.inl ⟨e1, e2, rfl⟩⟩
    · exact ⟨_, lt_cm hS e3, Or.inr ⟨e1, e2, rfl⟩⟩
  have hWx : ∀ N', W_m_feed y1 y2 y3 y4 y5 N' M1 (fun b M2 => CP B M2 ∧ w = b) := by
    rcases hJ with ⟨v, e, y, e2, hY⟩ | ⟨ce, e, -⟩
    · cases e
      cases e2
      exact fun N' => and_m_feed (fun b M2 h _ => ⟨h.1, h.2.2⟩) (hY N') (hY N')
    · cases e
  have hmx := hm1
  show okb (tb_P (some X)) N 0 278 _ [.inl (.inl w)] C1 K
  refine okb_p rfl rfl rfl ?_
  refine okb_an rfl hl.2.2.1 rfl ?_
  refine lw_ld hX hl hi (k := 1) (by decide) (by omega) rfl rfl rfl rfl rfl (fun y6 hy6 => ?_)
  have ey6 : y6 = y1 := by
    have := hy6.symm.trans hy1
    cases this
    rfl
  rw [ey6]
  refine lw_ld hX hl hi (k := 2) (by decide) (by omega) rfl rfl rfl rfl rfl (fun y7 hy7 => ?_)
  have ey7 : y7 = y2 := by
    have := hy7.symm.trans hy2
    cases this
    rfl
  rw [ey7]
  refine lw_ld hX hl hi (k := 3) (by decide) (by omega) rfl rfl rfl rfl rfl (fun y8 hy8 => ?_)
  have ey8 : y8 = y3 := by
    have := hy8.symm.trans hy3
    cases this
    rfl
  rw [ey8]
  refine lw_ld hX hl hi (k := 4) (by decide) (by omega) rfl rfl rfl rfl rfl (fun y9 hy9 => ?_)
  have ey9 : y9 = y4 := by
    have := hy9.symm.trans hy4
    cases this
    rfl
  rw [ey9]
  refine lw_ld hX hl hi (k := 5) (by decide) (by omega) rfl rfl rfl rfl rfl (fun y10 hy10 => ?_)
  have ey10 : y10 = y5 := by
    have := hy10.symm.trans hy5
    cases this
    rfl
  rw [ey10]
  obtain ⟨ns, n1, -, -⟩ := hI_f hS1.1 (show tb_G 190 = some (.inl (12, _)) from rfl)
  refine okb_cv0 (mj := 211) (as := [.inl (.inl y1), .inl (.inl y2), .inl (.inl y3), .inl (.inl y4), .inl (.inl y5)]) (T := []) rfl rfl n1 rfl rfl rfl (ok_pa (rm_feed (some X) hS1) (fun N' => q_m_feed (hWx N') C1 hmx _ (lo_ar _ 0))) (fun o C2 hq => ?_)
  obtain ⟨⟨w2, rfl, hw2⟩, M2, hm2, w2r, er, hR⟩ := hq
  cases er
  refine ⟨_, rfl, ?_⟩
  obtain ⟨hS2, hww⟩ : lt_S s1 h s1 h C2 ∧ w2.toInt = w.toInt := by
    rcases hw1 with ⟨a1, a2, rfl⟩ | ⟨a1, a2, rfl⟩
    · rcases hw2 with ⟨b1, b2, b3⟩ | ⟨b1, b2, b3⟩
      · exact ⟨b3, by omega⟩
      · omega
    · rcases hw2 with ⟨b1, b2, b3⟩ | ⟨b1, b2, b3⟩
      · omega
      · exact ⟨b3, by omega⟩
  show okb (tb_P (some X)) N 0 313 _ [.inl (.inl w2)] C2 K
  refine okb_p rfl rfl rfl ?_
  refine okb_p rfl rfl rfl ?_
  exact next _ C2 ⟨_, _, hS2⟩ ⟨M2, hm2, CP_le hR.1 (by omega)⟩ hl
set_option maxRecDepth 20000 in
set_option maxHeartbeats 1000000 in
theorem lc_1 (hX : lw_X X) (hS : lt_S s h s h C) (hM : LM B C) (hB : 0 ≤ B ∧ B ≤ 28000) (hl : lw_L cl i) (hi : i.toInt = (iN : Int)) (hlen : iN + 6 ≤ X.length) (next : ∀ cl' C', (∃ s h, lt_S s h s h C') → LM (B + 50) C' → lw_L cl' i → okb (tb_P (some X)) N 0 1725 cl' [] C' K) : okb (tb_P (some X)) (1 + N) 0 317 cl [] C K := by
  refine okb_more (N := N) (by omega) ?_
  refine okb_an rfl hl.2.1 rfl ?_
  refine lw_ld hX hl hi (k := 1) (by decide) (by omega) rfl rfl rfl rfl rfl (fun y1 hy1 => ?_)
  obtain ⟨xs, x1, -, -⟩ := hI_f hS.1 (show tb_G 0 = some (.inl (11, _)) from rfl)
  obtain ⟨M, hm, hCP⟩ := hM
  refine okb_cv0 (mj := 132) (as := [.inl (.inl y1)]) (T := []) rfl rfl x1 rfl rfl rfl (ok_pa (cm_end (some X) hS.1) (jc_end hm hCP)) (fun o C1 hq => ?_)
  obtain ⟨⟨w, rfl, hw⟩, M1, hm1, hJ⟩ := hq
  refine ⟨_, rfl, ?_⟩
  rw [hS.2.2.2.1, hS.2.2.2.2.1] at hw
  obtain ⟨s1, hS1, hw1⟩ : ∃ s1, lt_S s1 h s h C1 ∧ ((0 ≤ y1.toInt ∧ y1.toInt ≤ s ∧ w = Int32.ofInt 1 ∧ s1 = y1.toInt) ∨ (¬ (0 ≤ y1.toInt ∧ y1.toInt ≤ s) ∧ w = Int32.ofInt 0 ∧ s1 = s)) := by
    rcases hw with ⟨e1, e2, e3, e4⟩ | ⟨e1, e2, e3⟩
    · exact ⟨_, lt_cm hS e4, Or.inl ⟨e1, e2, e3, rfl⟩⟩
    · exact ⟨_, lt_cm hS e3, Or.inr ⟨e1, e2, rfl⟩⟩
  have hWx : ∀ N', W_m_end y1 N' M1 (fun b M2 => CP B M2 ∧ w = b) := by
    rcases hJ with ⟨v, e, y, e2, hY⟩ | ⟨ce, e, -⟩
    · cases e
      cases e2
      exact fun N' => and_m_end (fun b M2 h _ => ⟨h.1, h.2.2⟩) (hY N') (hY N')
    · cases e
  have hmx := hm1
  show okb (tb_P (some X)) N 0 327 _ [.inl (.inl w)] C1 K
  refine okb_p rfl rfl rfl ?_
  refine okb_an rfl hl.2.2.1 rfl ?_
  refine lw_ld hX hl hi (k := 1) (by decide) (by omega) rfl rfl rfl rfl rfl (fun y2 hy2 => ?_)
  have ey2 : y2 = y1 := by
    have := hy2.symm.trans hy1
    cases this
    rfl
  rw [ey2]
  obtain ⟨ns, n1, -, -⟩ := hI_f hS1.1 (show tb_G 190 = some (.inl (12, _)) from rfl)
  refine okb_cv0 (mj := 212) (as := [.inl (.inl y1)]) (T := []) rfl rfl n1 rfl rfl rfl (ok_pa (rm_end (some X) hS1) (fun N' => q_m_end (hWx N') C1 hmx _ (lo_ar _ 0))) (fun o C2 hq => ?_)
  obtain ⟨⟨w2, rfl, hw2⟩, M2, hm2, w2r, er, hR⟩ := hq
  cases er
  refine ⟨_, rfl, ?_⟩
  obtain ⟨hS2, hww⟩ : lt_S s1 h s1 h C2 ∧ w2 = w := by
    rcases hw1 with ⟨a1, a2, a3, rfl⟩ | ⟨a1, a2, rfl⟩
    · rcases hw2 with ⟨b1, b2, b3, b4⟩ | ⟨b1, b2, b3⟩
      · exact ⟨b4, by rw [a3, b3]⟩
      · exact absurd ⟨a1, a2⟩ b1
    · rcases hw2 with ⟨b1, b2, b3, b4⟩ | ⟨b1, b2, b3⟩
      · exact absurd ⟨b1, b2⟩ a1
      · exact ⟨b3, by rw [a2, b2]⟩
  show okb (tb_P (some X)) N 0 338 _ [.inl (.inl w2)] C2 K
  refine okb_p rfl rfl rfl ?_
  refine okb_p rfl rfl rfl ?_
  exact next _ C2 ⟨_, _, hS2⟩ ⟨M2, hm2, CP_le hR.1 (by omega)⟩ hl
set_option maxRecDepth 20000 in
set_option maxHeartbeats 1000000 in
theorem lc_2 (hX : lw_X X) (hS : lt_S s h s h C) (hM : LM B C) (hB : 0 ≤ B ∧ B ≤ 28000) (hl : lw_L cl i) (hi : i.toInt = (iN : Int)) (hlen : iN + 6 ≤ X.length) (next : ∀ cl' C', (∃ s h, lt_S s h s h C') → LM (B + 50) C' → lw_L cl' i → okb (tb_P (some X)) N 0 1725 cl' [] C' K) : okb (tb_P (some X)) (1 + N) 0 342 cl [] C K := by
  refine okb_an rfl hl.2.1 rfl ?_
  refine okb_an rfl hl.2.2.2.1 rfl ?_
  obtain ⟨M, hm, hCP⟩ := hM
  refine okb_cs (N := N) (N' := 1) (mj := 326) (as := [.inr (.inl (some 0)), .inr (.inl (some 215))]) (T := []) rfl rfl rfl rfl (okb_post (wz_code (some X) hS (ok_pa (cm_code (some X) hS.1) (jc_code hm hCP))) (fun o C1 hq => ?_))
  obtain ⟨hS1, w, rfl, hZ⟩ := hq
  rw [hS.2.2.2.2.1] at hS1
  show okb (tb_P (some X)) N 0 347 _ [.inl (.inl w)] C1 K
  obtain ⟨Mx, hmx, hWx⟩ : ∃ Mx : MM, mm tb_G Mx.1 Mx.2 C1 ∧ ∀ N', W_m_code N' Mx (fun _ M2 => CP B M2) := by
    rcases hZ with ⟨rfl, v, y, M1, hv, ⟨y', rfl, hY⟩, hm1⟩ | ⟨ce, M1, hk, hX, hm1⟩
    · exact ⟨_, hm1, fun N' => and_m_code (fun b M2 h _ => h.1) (hY y N') (hY y N')⟩
    · exact ⟨_, hm1, fun N' => and_m_code (fun b M2 h _ => h.1) (hX N') (hX N')⟩
  refine okb_p rfl rfl rfl ?_
  have hl5 := lw_L_s hl (j := 5) (by decide) (.inl (.inl w))
  revert hl5
  generalize ea_s1 cl 5 (.inl (.inl w)) = cl5
  intro hl5
  refine okb_an rfl hl5.2.2.1 rfl ?_
  obtain ⟨ns, n1, -, -⟩ := hI_f hS1.1 (show tb_G 190 = some (.inl (12, _)) from rfl)
  obtain ⟨z22, p22⟩ := lt_22 hS1
  refine okb_cv0 (mj := 243) (as := []) (T := []) rfl rfl n1 rfl rfl rfl (ok_pa (rm_use (some X) (show cx_ok (tb_P (some X)) tb_G (rf_G 0) trk_104 from tr_yes (some X) 104 (by decide) 0) hS1 (vs := [.inr (.inl (some 190))]) ⟨rfl, trivial⟩ (pre := [(190, 22, 0, 6)]) rfl p22 rfl rfl rfl rfl rfl) (fun N' => q_m_code (hWx N') C1 hmx _ (lo_ar _ 0))) (fun o C2 hq => ?_)
  obtain ⟨⟨hE, hS2⟩, M2, hm2, w2, rfl, hR⟩ := hq
  refine ⟨_, rfl, ?_⟩
  show okb (tb_P (some X)) N 0 353 _ [.inl (.inl w2)] C2 K
  refine okb_p rfl rfl rfl ?_
  have hl6 := lw_L_s hl5 (j := 6) (by decide) (.inl (.inl w2))
  revert hl6
  generalize ea_s1 cl5 6 (.inl (.inl w2)) = cl6
  intro hl6
  refine okb_p rfl rfl rfl ?_
  exact next _ C2 ⟨_, _, hS2⟩ ⟨M2, hm2, CP_le hR (by omega)⟩ hl6
set_option maxRecDepth 20000 in
set_option maxHeartbeats 1000000 in
theorem lc_3 (hX : lw_X X) (hS : lt_S s h s h C) (hM : LM B C) (hB : 0 ≤ B ∧ B ≤ 28000) (hl : lw_L cl i) (hi : i.toInt = (iN : Int)) (hlen : iN + 6 ≤ X.length) (next : ∀ cl' C', (∃ s h, lt_S s h s h C') → LM (B + 50) C' → lw_L cl' i → okb (tb_P (some X)) N 0 1725 cl' [] C' K) : okb (tb_P (some X)) (1 + N) 0 358 cl [] C K := by
  refine okb_an rfl hl.2.1 rfl ?_
  refine okb_an rfl hl.2.2.2.1 rfl ?_
  obtain ⟨M, hm, hCP⟩ := hM
  refine okb_cs (N := N) (N' := 1) (mj := 327) (as := [.inr (.inl (some 0)), .inr (.inl (some 215))]) (T := []) rfl rfl rfl rfl (okb_post (wz_republic (some X) hS (ok_pa (cm_republic (some X) hS.1) (jc_republic hm hCP))) (fun o C1 hq => ?_))
  obtain ⟨hS1, w, rfl, hZ⟩ := hq
  rw [hS.2.2.2.2.1] at hS1
  show okb (tb_P (some X)) N 0 363 _ [.inl (.inl w)] C1 K
  obtain ⟨Mx, hmx, hWx⟩ : ∃ Mx : MM, mm tb_G Mx.1 Mx.2 C1 ∧ ∀ N', W_m_republic N' Mx (fun _ M2 => CP B M2) := by
    rcases hZ with ⟨rfl, v, y, M1, hv, ⟨y', rfl, hY⟩, hm1⟩ | ⟨ce, M1, hk, hX, hm1⟩
    · exact ⟨_, hm1, fun N' => and_m_republic (fun b M2 h _ => h.1) (hY y N') (hY y N')⟩
    · exact ⟨_, hm1, fun N' => and_m_republic (fun b M2 h _ => h.1) (hX N') (hX N')⟩
  refine okb_p rfl rfl rfl ?_
  have hl5 := lw_L_s hl (j := 5) (by decide) (.inl (.inl w))
  revert hl5
  generalize ea_s1 cl 5 (.inl (.inl w)) = cl5
  intro hl5
  refine okb_an rfl hl5.2.2.1 rfl ?_
  obtain ⟨ns, n1, -, -⟩ := hI_f hS1.1 (show tb_G 190 = some (.inl (12, _)) from rfl)
  obtain ⟨z22, p22⟩ := lt_22 hS1
  refine okb_cv0 (mj := 244) (as := []) (T := []) rfl rfl n1 rfl rfl rfl (ok_pa (rm_use (some X) (show cx_ok (tb_P (some X)) tb_G (rf_G 0) trk_105 from tr_yes (some X) 105 (by decide) 0) hS1 (vs := [.inr (.inl (some 190))]) ⟨rfl, trivial⟩ (pre := [(190, 22, 0, 6)]) rfl p22 rfl rfl rfl rfl rfl) (fun N' => q_m_republic (hWx N') C1 hmx _ (lo_ar _ 0))) (fun o C2 hq => ?_)
  obtain ⟨⟨hE, hS2⟩, M2, hm2, w2, rfl, hR⟩ := hq
  refine ⟨_, rfl, ?_⟩
  show okb (tb_P (some X)) N 0 369 _ [.inl (.inl w2)] C2 K
  refine okb_p rfl rfl rfl ?_
  have hl6 := lw_L_s hl5 (j := 6) (by decide) (.inl (.inl w2))
  revert hl6
  generalize ea_s1 cl5 6 (.inl (.inl w2)) = cl6
  intro hl6
  refine okb_p rfl rfl rfl ?_
  exact next _ C2 ⟨_, _, hS2⟩ ⟨M2, hm2, CP_le hR (by omega)⟩ hl6
set_option maxRecDepth 20000 in
set_option maxHeartbeats 1000000 in
theorem lc_4 (hX : lw_X X) (hS : lt_S s h s h C) (hM : LM B C) (hB : 0 ≤ B ∧ B ≤ 28000) (hl : lw_L cl i) (hi : i.toInt = (iN : Int)) (hlen : iN + 6 ≤ X.length) (next : ∀ cl' C', (∃ s h, lt_S s h s h C') → LM (B + 50) C' → lw_L cl' i → okb (tb_P (some X)) N 0 1725 cl' [] C' K) : okb (tb_P (some X)) (1 + N) 0 374 cl [] C K := by
  refine okb_more (N := N) (by omega) ?_
  refine okb_an rfl hl.2.1 rfl ?_
  obtain ⟨xs, x1, -, -⟩ := hI_f hS.1 (show tb_G 0 = some (.inl (11, _)) from rfl)
  obtain ⟨M, hm, hCP⟩ := hM
  refine okb_cv0 (mj := 135) (as := []) (T := []) rfl rfl x1 rfl rfl rfl (ok_pa (cm_norm (some X) (show cn_ok (tb_P (some X)) tb_G tk_155 from tk_yes (some X) 155 (by decide)) (vs := [.inr (.inl (some 0))]) ⟨rfl, trivial⟩ hS.1 rfl rfl rfl rfl) (jc_fault hm hCP)) (fun o C1 hq => ?_)
  obtain ⟨⟨hP, hE⟩, M1, hm1, hJ⟩ := hq
  have hS1 := lt_cm hS hP
  rw [hS.2.2.2.1, hS.2.2.2.2.1] at hS1
  cases o with
  | inr ce => exact nomatch (show ce ∈ ([] : List Nat) from hE)
  | inl v =>
    obtain ⟨w, rfl⟩ := hE
    refine ⟨_, rfl, ?_⟩
    have hWx : ∀ N', W_m_fault N' M1 (fun b M2 => CP B M2 ∧ w = b) := by
      rcases hJ with ⟨v, e, y, e2, hY⟩ | ⟨ce, e, -⟩
      · cases e
        cases e2
        exact fun N' => and_m_fault (fun b M2 h _ => ⟨h.1, h.2.2⟩) (hY N') (hY N')
      · cases e
    have hmx := hm1
    show okb (tb_P (some X)) N 0 378 _ [.inl (.inl w)] C1 K
    refine okb_p rfl rfl rfl ?_
    refine okb_an rfl hl.2.2.1 rfl ?_
    obtain ⟨ns, n1, -, -⟩ := hI_f hS1.1 (show tb_G 190 = some (.inl (12, _)) from rfl)
    refine okb_cv0 (mj := 222) (as := []) (T := []) rfl rfl n1 rfl rfl rfl (ok_pa (rm_norm (some X) (show cx_ok (tb_P (some X)) tb_G (rf_G 0) trk_70 from tr_yes (some X) 70 (by decide) 0) hS1 (vs := [.inr (.inl (some 190))]) ⟨rfl, trivial⟩ rfl rfl rfl rfl rfl rfl rfl) (fun N' => q_m_fault (hWx N') C1 hmx _ (lo_ar _ 0))) (fun o C2 hq => ?_)
    obtain ⟨⟨hE, hS2⟩, M2, hm2, w2, rfl, hR⟩ := hq
    refine ⟨_, rfl, ?_⟩
    show okb (tb_P (some X)) N 0 383 _ [.inl (.inl w2)] C2 K
    refine okb_p rfl rfl rfl ?_
    refine okb_p rfl rfl rfl ?_
    exact next _ C2 ⟨_, _, hS2⟩ ⟨M2, hm2, CP_le hR.1 (by omega)⟩ hl
set_option maxRecDepth 20000 in
set_option maxHeartbeats 1000000 in
theorem lc_5 (hX : lw_X X) (hS : lt_S s h s h C) (hM : LM B C) (hB : 0 ≤ B ∧ B ≤ 28000) (hl : lw_L cl i) (hi : i.toInt = (iN : Int)) (hlen : iN + 6 ≤ X.length) (next : ∀ cl' C', (∃ s h, lt_S s h s h C') → LM (B + 50) C' → lw_L cl' i → okb (tb_P (some X)) N 0 1725 cl' [] C' K) : okb (tb_P (some X)) (1 + N) 0 387 cl [] C K := by
  refine okb_an rfl hl.2.1 rfl ?_
  refine lw_ld hX hl hi (k := 1) (by decide) (by omega) rfl rfl rfl rfl rfl (fun y1 hy1 => ?_)
  refine lw_ld hX hl hi (k := 2) (by decide) (by omega) rfl rfl rfl rfl rfl (fun y2 hy2 => ?_)
  refine okb_an rfl hl.2.2.2.1 rfl ?_
  obtain ⟨M, hm, hCP⟩ := hM
  refine okb_cs (N := N) (N' := 1) (mj := 328) (as := [.inr (.inl (some 0)), .inl (.inl y1), .inl (.inl y2), .inr (.inl (some 215))]) (T := []) rfl rfl rfl rfl (okb_post (wz_clause (some X) hS (ok_pa (cm_norm (some X) (show cn_ok (tb_P (some X)) tb_G tk_156 from tk_yes (some X) 156 (by decide)) (vs := [.inr (.inl (some 0)), .inl (.inl y1), .inl (.inl y2)]) ⟨rfl, at_any y1, at_any y2, trivial⟩ hS.1 rfl rfl rfl rfl) (jc_clause hm hCP))) (fun o C1 hq => ?_))
  obtain ⟨hS1, w, rfl, hZ⟩ := hq
  rw [hS.2.2.2.1, hS.2.2.2.2.1] at hS1
  show okb (tb_P (some X)) N 0 404 _ [.inl (.inl w)] C1 K
  obtain ⟨Mx, hmx, hCx⟩ := wz_w hZ
  have hWx : ∀ N', W_m_clause y1 y2 N' Mx (fun _ M2 => CP B M2) := fun N' => fm_clause hCx
  refine okb_p rfl rfl rfl ?_
  have hl5 := lw_L_s hl (j := 5) (by decide) (.inl (.inl w))
  revert hl5
  generalize ea_s1 cl 5 (.inl (.inl w)) = cl5
  intro hl5
  refine okb_an rfl hl5.2.2.1 rfl ?_
  refine lw_ld hX hl5 hi (k := 1) (by decide) (by omega) rfl rfl rfl rfl rfl (fun y3 hy3 => ?_)
  have ey3 : y3 = y1 := by
    have := hy3.symm.trans hy1
    cases this
    rfl
  rw [ey3]
  refine lw_ld hX hl5 hi (k := 2) (by decide) (by omega) rfl rfl rfl rfl rfl (fun y4 hy4 => ?_)
  have ey4 : y4 = y2 := by
    have := hy4.symm.trans hy2
    cases this
    rfl
  rw [ey4]
  obtain ⟨ns, n1, -, -⟩ := hI_f hS1.1 (show tb_G 190 = some (.inl (12, _)) from rfl)
  refine okb_cv0 (mj := 255) (as := [.inl (.inl y1), .inl (.inl y2)]) (T := []) rfl rfl n1 rfl rfl rfl (ok_pa (rm_norm (some X) (show cx_ok (tb_P (some X)) tb_G (rf_G 0) trk_113 from tr_yes (some X) 113 (by decide) 0) hS1 (vs := [.inr (.inl (some 190)), .inl (.inl y1), .inl (.inl y2)]) ⟨rfl, at_any y1, at_any y2, trivial⟩ rfl rfl rfl rfl rfl rfl rfl) (fun N' => q_m_clause (hWx N') C1 hmx _ (lo_ar _ 0))) (fun o C2 hq => ?_)
  obtain ⟨⟨hE, hS2⟩, M2, hm2, w2, rfl, hR⟩ := hq
  refine ⟨_, rfl, ?_⟩
  show okb (tb_P (some X)) N 0 422 _ [.inl (.inl w2)] C2 K
  refine okb_p rfl rfl rfl ?_
  have hl6 := lw_L_s hl5 (j := 6) (by decide) (.inl (.inl w2))
  revert hl6
  generalize ea_s1 cl5 6 (.inl (.inl w2)) = cl6
  intro hl6
  refine okb_p rfl rfl rfl ?_
  exact next _ C2 ⟨_, _, hS2⟩ ⟨M2, hm2, CP_le hR (by omega)⟩ hl6
set_option maxRecDepth 20000 in
set_option maxHeartbeats 1000000 in
theorem lc_6 (hX : lw_X X) (hS : lt_S s h s h C) (hM : LM B C) (hB : 0 ≤ B ∧ B ≤ 28000) (hl : lw_L cl i) (hi : i.toInt = (iN : Int)) (hlen : iN + 6 ≤ X.length) (next : ∀ cl' C', (∃ s h, lt_S s h s h C') → LM (B + 50) C' → lw_L cl' i → okb (tb_P (some X)) N 0 1725 cl' [] C' K) : okb (tb_P (some X)) (1 + N) 0 427 cl [] C K := by
  refine okb_an rfl hl.2.1 rfl ?_
  refine lw_ld hX hl hi (k := 1) (by decide) (by omega) rfl rfl rfl rfl rfl (fun y1 hy1 => ?_)
  refine lw_ld hX hl hi (k := 2) (by decide) (by omega) rfl rfl rfl rfl rfl (fun y2 hy2 => ?_)
  refine okb_an rfl hl.2.2.2.1 rfl ?_
  obtain ⟨M, hm, hCP⟩ := hM
  refine okb_cs (N := N) (N' := 1) (mj := 329) (as := [.inr (.inl (some 0)), .inl (.inl y1), .inl (.inl y2), .inr (.inl (some 215))]) (T := []) rfl rfl rfl rfl (okb_post (wz_citizen (some X) hS (ok_pa (cm_norm (some X) (show cn_ok (tb_P (some X)) tb_G tk_157 from tk_yes (some X) 157 (by decide)) (vs := [.inr (.inl (some 0)), .inl (.inl y1), .inl (.inl y2)]) ⟨rfl, at_any y1, at_any y2, trivial⟩ hS.1 rfl rfl rfl rfl) (jc_citizen hm hCP))) (fun o C1 hq => ?_))
  obtain ⟨hS1, w, rfl, hZ⟩ := hq
  rw [hS.2.2.2.1, hS.2.2.2.2.1] at hS1
  show okb (tb_P (some X)) N 0 444 _ [.inl (.inl w)] C1 K
  obtain ⟨Mx, hmx, hCx⟩ := wz_w hZ
  have hWx : ∀ N', W_m_citizen y1 y2 N' Mx (fun _ M2 => CP B M2) := fun N' => fm_citizen hCx
  refine okb_p rfl rfl rfl ?_
  have hl5 := lw_L_s hl (j := 5) (by decide) (.inl (.inl w))
  revert hl5
  generalize ea_s1 cl 5 (.inl (.inl w)) = cl5
  intro hl5
  refine okb_an rfl hl5.2.2.1 rfl ?_
  refine lw_ld hX hl5 hi (k := 1) (by decide) (by omega) rfl rfl rfl rfl rfl (fun y3 hy3 => ?_)
  have ey3 : y3 = y1 := by
    have := hy3.symm.trans hy1
    cases this
    rfl
  rw [ey3]
  refine lw_ld hX hl5 hi (k := 2) (by decide) (by omega) rfl rfl rfl rfl rfl (fun y4 hy4 => ?_)
  have ey4 : y4 = y2 := by
    have := hy4.symm.trans hy2
    cases this
    rfl
  rw [ey4]
  obtain ⟨ns, n1, -, -⟩ := hI_f hS1.1 (show tb_G 190 = some (.inl (12, _)) from rfl)
  refine okb_cv0 (mj := 257) (as := [.inl (.inl y1), .inl (.inl y2)]) (T := []) rfl rfl n1 rfl rfl rfl (ok_pa (rm_norm (some X) (show cx_ok (tb_P (some X)) tb_G (rf_G 0) trk_115 from tr_yes (some X) 115 (by decide) 0) hS1 (vs := [.inr (.inl (some 190)), .inl (.inl y1), .inl (.inl y2)]) ⟨rfl, at_any y1, at_any y2, trivial⟩ rfl rfl rfl rfl rfl rfl rfl) (fun N' => q_m_citizen (hWx N') C1 hmx _ (lo_ar _ 0))) (fun o C2 hq => ?_)
  obtain ⟨⟨hE, hS2⟩, M2, hm2, w2, rfl, hR⟩ := hq
  refine ⟨_, rfl, ?_⟩
  show okb (tb_P (some X)) N 0 462 _ [.inl (.inl w2)] C2 K
  refine okb_p rfl rfl rfl ?_
  have hl6 := lw_L_s hl5 (j := 6) (by decide) (.inl (.inl w2))
  revert hl6
  generalize ea_s1 cl5 6 (.inl (.inl w2)) = cl6
  intro hl6
  refine okb_p rfl rfl rfl ?_
  exact next _ C2 ⟨_, _, hS2⟩ ⟨M2, hm2, CP_le hR (by omega)⟩ hl6
set_option maxRecDepth 20000 in
set_option maxHeartbeats 1000000 in
theorem lc_7 (hX : lw_X X) (hS : lt_S s h s h C) (hM : LM B C) (hB : 0 ≤ B ∧ B ≤ 28000) (hl : lw_L cl i) (hi : i.toInt = (iN : Int)) (hlen : iN + 6 ≤ X.length) (next : ∀ cl' C', (∃ s h, lt_S s h s h C') → LM (B + 50) C' → lw_L cl' i → okb (tb_P (some X)) N 0 1725 cl' [] C' K) : okb (tb_P (some X)) (1 + N) 0 467 cl [] C K := by
  refine okb_an rfl hl.2.1 rfl ?_
  refine lw_ld hX hl hi (k := 1) (by decide) (by omega) rfl rfl rfl rfl rfl (fun y1 hy1 => ?_)
  refine okb_an rfl hl.2.2.2.1 rfl ?_
  obtain ⟨M, hm, hCP⟩ := hM
  refine okb_cs (N := N) (N' := 1) (mj := 330) (as := [.inr (.inl (some 0)), .inl (.inl y1), .inr (.inl (some 215))]) (T := []) rfl rfl rfl rfl (okb_post (wz_seen (some X) hS (ok_pa (cm_norm (some X) (show cn_ok (tb_P (some X)) tb_G tk_158 from tk_yes (some X) 158 (by decide)) (vs := [.inr (.inl (some 0)), .inl (.inl y1)]) ⟨rfl, at_any y1, trivial⟩ hS.1 rfl rfl rfl rfl) (jc_seen hm hCP))) (fun o C1 hq => ?_))
  obtain ⟨hS1, w, rfl, hZ⟩ := hq
  rw [hS.2.2.2.1, hS.2.2.2.2.1] at hS1
  show okb (tb_P (some X)) N 0 478 _ [.inl (.inl w)] C1 K
  obtain ⟨Mx, hmx, hCx⟩ := wz_w hZ
  have hWx : ∀ N', W_m_seen y1 N' Mx (fun _ M2 => CP B M2) := fun N' => fm_seen hCx
  refine okb_p rfl rfl rfl ?_
  have hl5 := lw_L_s hl (j := 5) (by decide) (.inl (.inl w))
  revert hl5
  generalize ea_s1 cl 5 (.inl (.inl w)) = cl5
  intro hl5
  refine okb_an rfl hl5.2.2.1 rfl ?_
  refine lw_ld hX hl5 hi (k := 1) (by decide) (by omega) rfl rfl rfl rfl rfl (fun y2 hy2 => ?_)
  have ey2 : y2 = y1 := by
    have := hy2.symm.trans hy1
    cases this
    rfl
  rw [ey2]
  obtain ⟨ns, n1, -, -⟩ := hI_f hS1.1 (show tb_G 190 = some (.inl (12, _)) from rfl)
  refine okb_cv0 (mj := 258) (as := [.inl (.inl y1)]) (T := []) rfl rfl n1 rfl rfl rfl (ok_pa (rm_norm (some X) (show cx_ok (tb_P (some X)) tb_G (rf_G 0) trk_116 from tr_yes (some X) 116 (by decide) 0) hS1 (vs := [.inr (.inl (some 190)), .inl (.inl y1)]) ⟨rfl, at_any y1, trivial⟩ rfl rfl rfl rfl rfl rfl rfl) (fun N' => q_m_seen (hWx N') C1 hmx _ (lo_ar _ 0))) (fun o C2 hq => ?_)
  obtain ⟨⟨hE, hS2⟩, M2, hm2, w2, rfl, hR⟩ := hq
  refine ⟨_, rfl, ?_⟩
  show okb (tb_P (some X)) N 0 490 _ [.inr (.inr (.inl (some w2)))] C2 K
  refine okb_p rfl rfl rfl ?_
  have hl6 := lw_L_l hl5 (j := 6) (by decide) (.inr (.inr (.inl (some w2))))
  revert hl6
  generalize ea_s2 cl5 6 (.inr (.inr (.inl (some w2)))) = cl6
  intro hl6
  refine okb_p rfl rfl rfl ?_
  exact next _ C2 ⟨_, _, hS2⟩ ⟨M2, hm2, CP_le hR (by omega)⟩ hl6
set_option maxRecDepth 20000 in
set_option maxHeartbeats 1000000 in
theorem lc_8 (hX : lw_X X) (hS : lt_S s h s h C) (hM : LM B C) (hB : 0 ≤ B ∧ B ≤ 28000) (hl : lw_L cl i) (hi : i.toInt = (iN : Int)) (hlen : iN + 6 ≤ X.length) (next : ∀ cl' C', (∃ s h, lt_S s h s h C') → LM (B + 50) C' → lw_L cl' i → okb (tb_P (some X)) N 0 1725 cl' [] C' K) : okb (tb_P (some X)) (1 + N) 0 495 cl [] C K := by
  refine okb_an rfl hl.2.1 rfl ?_
  refine lw_ld hX hl hi (k := 1) (by decide) (by omega) rfl rfl rfl rfl rfl (fun y1 hy1 => ?_)
  refine lw_ld hX hl hi (k := 2) (by decide) (by omega) rfl rfl rfl rfl rfl (fun y2 hy2 => ?_)
  refine okb_an rfl hl.2.2.2.1 rfl ?_
  obtain ⟨M, hm, hCP⟩ := hM
  refine okb_cs (N := N) (N' := 1) (mj := 331) (as := [.inr (.inl (some 0)), .inl (.inl y1), .inl (.inl y2), .inr (.inl (some 215))]) (T := []) rfl rfl rfl rfl (okb_post (wz_habit (some X) hS (ok_pa (cm_norm (some X) (show cn_ok (tb_P (some X)) tb_G tk_159 from tk_yes (some X) 159 (by decide)) (vs := [.inr (.inl (some 0)), .inl (.inl y1), .inl (.inl y2)]) ⟨rfl, at_any y1, at_any y2, trivial⟩ hS.1 rfl rfl rfl rfl) (jc_habit hm hCP))) (fun o C1 hq => ?_))
  obtain ⟨hS1, w, rfl, hZ⟩ := hq
  rw [hS.2.2.2.1, hS.2.2.2.2.1] at hS1
  show okb (tb_P (some X)) N 0 512 _ [.inl (.inl w)] C1 K
  obtain ⟨Mx, hmx, hCx⟩ := wz_w hZ
  have hWx : ∀ N', W_m_habit y1 y2 N' Mx (fun _ M2 => CP B M2) := fun N' => fm_habit hCx
  refine okb_p rfl rfl rfl ?_
  have hl5 := lw_L_s hl (j := 5) (by decide) (.inl (.inl w))
  revert hl5
  generalize ea_s1 cl 5 (.inl (.inl w)) = cl5
  intro hl5
  refine okb_an rfl hl5.2.2.1 rfl ?_
  refine lw_ld hX hl5 hi (k := 1) (by decide) (by omega) rfl rfl rfl rfl rfl (fun y3 hy3 => ?_)
  have ey3 : y3 = y1 := by
    have := hy3.symm.trans hy1
    cases this
    rfl
  rw [ey3]
  refine lw_ld hX hl5 hi (k := 2) (by decide) (by omega) rfl rfl rfl rfl rfl (fun y4 hy4 => ?_)
  have ey4 : y4 = y2 := by
    have := hy4.symm.trans hy2
    cases this
    rfl
  rw [ey4]
  obtain ⟨ns, n1, -, -⟩ := hI_f hS1.1 (show tb_G 190 = some (.inl (12, _)) from rfl)
  refine okb_cv0 (mj := 259) (as := [.inl (.inl y1), .inl (.inl y2)]) (T := []) rfl rfl n1 rfl rfl rfl (ok_pa (rm_norm (some X) (show cx_ok (tb_P (some X)) tb_G (rf_G 0) trk_117 from tr_yes (some X) 117 (by decide) 0) hS1 (vs := [.inr (.inl (some 190)), .inl (.inl y1), .inl (.inl y2)]) ⟨rfl, at_any y1, at_any y2, trivial⟩ rfl rfl rfl rfl rfl rfl rfl) (fun N' => q_m_habit (hWx N') C1 hmx _ (lo_ar _ 0))) (fun o C2 hq => ?_)
  obtain ⟨⟨hE, hS2⟩, M2, hm2, w2, rfl, hR⟩ := hq
  refine ⟨_, rfl, ?_⟩
  show okb (tb_P (some X)) N 0 530 _ [.inl (.inl w2)] C2 K
  refine okb_p rfl rfl rfl ?_
  have hl6 := lw_L_s hl5 (j := 6) (by decide) (.inl (.inl w2))
  revert hl6
  generalize ea_s1 cl5 6 (.inl (.inl w2)) = cl6
  intro hl6
  refine okb_p rfl rfl rfl ?_
  exact next _ C2 ⟨_, _, hS2⟩ ⟨M2, hm2, CP_le hR (by omega)⟩ hl6
set_option maxRecDepth 20000 in
set_option maxHeartbeats 1000000 in
theorem lc_9 (hX : lw_X X) (hS : lt_S s h s h C) (hM : LM B C) (hB : 0 ≤ B ∧ B ≤ 28000) (hl : lw_L cl i) (hi : i.toInt = (iN : Int)) (hlen : iN + 6 ≤ X.length) (next : ∀ cl' C', (∃ s h, lt_S s h s h C') → LM (B + 50) C' → lw_L cl' i → okb (tb_P (some X)) N 0 1725 cl' [] C' K) : okb (tb_P (some X)) (1 + N) 0 535 cl [] C K := by
  refine okb_an rfl hl.2.1 rfl ?_
  refine lw_ld hX hl hi (k := 1) (by decide) (by omega) rfl rfl rfl rfl rfl (fun y1 hy1 => ?_)
  refine lw_ld hX hl hi (k := 2) (by decide) (by omega) rfl rfl rfl rfl rfl (fun y2 hy2 => ?_)
  refine lw_ld hX hl hi (k := 3) (by decide) (by omega) rfl rfl rfl rfl rfl (fun y3 hy3 => ?_)
  refine okb_an rfl hl.2.2.2.1 rfl ?_
  obtain ⟨M, hm, hCP⟩ := hM
  refine okb_cs (N := N) (N' := 1) (mj := 332) (as := [.inr (.inl (some 0)), .inl (.inl y1), .inl (.inl y2), .inl (.inl y3), .inr (.inl (some 215))]) (T := []) rfl rfl rfl rfl (okb_post (wz_matter (some X) hS (ok_pa (cm_norm (some X) (show cn_ok (tb_P (some X)) tb_G tk_160 from tk_yes (some X) 160 (by decide)) (vs := [.inr (.inl (some 0)), .inl (.inl y1), .inl (.inl y2), .inl (.inl y3)]) ⟨rfl, at_any y1, at_any y2, at_any y3, trivial⟩ hS.1 rfl rfl rfl rfl) (jc_matter hm hCP hB))) (fun o C1 hq => ?_))
  obtain ⟨hS1, w, rfl, hZ⟩ := hq
  rw [hS.2.2.2.1, hS.2.2.2.2.1] at hS1
  show okb (tb_P (some X)) N 0 558 _ [.inl (.inl w)] C1 K
  obtain ⟨Mx, hmx, hWx⟩ : ∃ Mx : MM, mm tb_G Mx.1 Mx.2 C1 ∧ ∀ N', W_m_matter y1 y2 y3 N' Mx (fun b M2 => CP B M2 ∧ M2.1 190 0 = w ∧ (w = Int32.ofInt 0 → M2.2 215 0 = b.toInt64)) := by
    rcases hZ with ⟨rfl, v, y, M1, hv, ⟨y', rfl, hY⟩, hm1⟩ | ⟨ce, M1, hk, hX, hm1⟩
    · refine ⟨_, hm1, fun N' => and_m_matter (Q2 := fun _ M2 => Eqo fp_m_matter _ M2) (fun b M2 h e => ⟨h.1, h.2.1, fun _ => ?_⟩) (hY y N') (an_m_matter (fun r M h => h))⟩
      rw [eqb2 e (lo := 215) (hi := 215) rfl (Nat.le_refl _) (Nat.le_refl _), wj_2e, ← h.2.2]
      cases hv
      rfl
    rcases List.mem_cons.mp hk with e | hk
    · cases e
      exact ⟨_, hm1, fun N' => and_m_matter (fun b M2 h _ => ⟨h.1, h.2.trans (by decide), fun e => absurd e (by decide)⟩) (hX N') (hX N')⟩
    rcases List.mem_cons.mp hk with e | hk
    · cases e
      exact ⟨_, hm1, fun N' => and_m_matter (fun b M2 h _ => ⟨h.1, h.2.trans (by decide), fun e => absurd e (by decide)⟩) (hX N') (hX N')⟩
    rcases List.mem_cons.mp hk with e | hk
    · cases e
      exact ⟨_, hm1, fun N' => and_m_matter (fun b M2 h _ => ⟨h.1, h.2.trans (by decide), fun e => absurd e (by decide)⟩) (hX N') (hX N')⟩
    exact nomatch hk
  refine okb_p rfl rfl rfl ?_
  have hl5 := lw_L_s hl (j := 5) (by decide) (.inl (.inl w))
  have hk5 := lk_s1 cl 5 (.inl (.inl w))
  revert hl5 hk5
  generalize ea_s1 cl 5 (.inl (.inl w)) = cl5
  intro hl5 hk5
  refine okb_an rfl hl5.2.2.1 rfl ?_
  refine lw_ld hX hl5 hi (k := 1) (by decide) (by omega) rfl rfl rfl rfl rfl (fun y4 hy4 => ?_)
  have ey4 : y4 = y1 := by
    have := hy4.symm.trans hy1
    cases this
    rfl
  rw [ey4]
  refine lw_ld hX hl5 hi (k := 2) (by decide) (by omega) rfl rfl rfl rfl rfl (fun y5 hy5 => ?_)
  have ey5 : y5 = y2 := by
    have := hy5.symm.trans hy2
    cases this
    rfl
  rw [ey5]
  refine lw_ld hX hl5 hi (k := 3) (by decide) (by omega) rfl rfl rfl rfl rfl (fun y6 hy6 => ?_)
  have ey6 : y6 = y3 := by
    have := hy6.symm.trans hy3
    cases this
    rfl
  rw [ey6]
  obtain ⟨ns, n1, -, -⟩ := hI_f hS1.1 (show tb_G 190 = some (.inl (12, _)) from rfl)
  refine okb_cv0 (mj := 261) (as := [.inl (.inl y1), .inl (.inl y2), .inl (.inl y3)]) (T := []) rfl rfl n1 rfl rfl rfl (ok_pa (rm_norm (some X) (show cx_ok (tb_P (some X)) tb_G (rf_G 0) trk_118 from tr_yes (some X) 118 (by decide) 0) hS1 (vs := [.inr (.inl (some 190)), .inl (.inl y1), .inl (.inl y2), .inl (.inl y3)]) ⟨rfl, at_any y1, at_any y2, at_any y3, trivial⟩ rfl rfl rfl rfl rfl rfl rfl) (fun N' => q_m_matter (hWx N') C1 hmx _ (lo_ar _ 0))) (fun o C2 hq => ?_)
  obtain ⟨⟨hE, hS2⟩, M2, hm2, w2, rfl, hR⟩ := hq
  refine ⟨_, rfl, ?_⟩
  show okb (tb_P (some X)) N 0 582 _ [.inl (.inl w2)] C2 K
  refine okb_p rfl rfl rfl ?_
  have hl6 := lw_L_s hl5 (j := 6) (by decide) (.inl (.inl w2))
  have hk6 := lk_s1 cl5 6 (.inl (.inl w2))
  have hk56 := lk_s1_n1 (i := 6) (a := .inl (.inl w2)) hk5 rfl (by decide)
  revert hl6 hk6 hk56
  generalize ea_s1 cl5 6 (.inl (.inl w2)) = cl6
  intro hl6 hk6 hk56
  refine okb_an rfl hl6.2.2.1 rfl ?_
  obtain ⟨ns2, n2, -, -⟩ := hI_f hS2.1 (show tb_G 190 = some (.inl (12, _)) from rfl)
  refine okb_cv0 (mj := 388) (as := []) (T := []) rfl rfl n2 rfl rfl rfl (th_ok hm2) (fun o C3 hq => ?_)
  obtain ⟨rfl, rfl⟩ := hq
  refine ⟨_, rfl, ?_⟩
  show okb (tb_P (some X)) N 0 588 _ [.inl (.inl (M2.1 190 0))] C3 K
  refine okb_il rfl hk56 ?_
  refine okb_ic true rfl rfl (show decide (M2.1 190 0 = w) = true from decide_eq_true hR.2.1) ?_
  show okb (tb_P (some X)) N 0 595 _ [] C3 K
  refine okb_il rfl hk56 ?_
  have fin : okb (tb_P (some X)) N 0 612 cl6 [] C3 K := by
    refine okb_p rfl rfl rfl ?_
    exact next _ C3 ⟨_, _, hS2⟩ ⟨M2, hm2, CP_le hR.1 (by omega)⟩ hl6
  by_cases hw0 : w = 0
  · refine okb_if false rfl rfl (show (!decide (w = 0)) = false from by rw [decide_eq_true hw0]; rfl) ?_
    show okb (tb_P (some X)) N 0 600 _ [] C3 K
    obtain ⟨d, us, u1, u2⟩ := row_215 hm2
    refine okb_an rfl hl6.2.2.2.1 rfl ?_
    refine okb_p rfl rfl rfl ?_
    refine okb_la rfl u1 (ix_of (x := Int32.ofInt 0) (j := 0) (by decide) (by decide)) u2 ?_
    rw [hR.2.2 hw0]
    refine okb_il rfl hk6 ?_
    refine okb_p rfl rfl rfl ?_
    refine okb_p (pc' := 607) (L' := cl6) (S' := [.inl (.inl 0)]) rfl rfl (by
      show some (_, cl6, [(.inl (.inl (lg_cmp _ _)) : AV)]) = _
      rw [lg_same]) ?_
    exact okb_if true rfl rfl (show decide ((0 : Int32) = 0) = true from by decide) fin
  · exact okb_if true rfl rfl (show (!decide (w = 0)) = true from by rw [decide_eq_false hw0]; rfl) fin
set_option maxRecDepth 20000 in
set_option maxHeartbeats 1000000 in
theorem lc_10 (hX : lw_X X) (hS : lt_S s h s h C) (hM : LM B C) (hB : 0 ≤ B ∧ B ≤ 28000) (hl : lw_L cl i) (hi : i.toInt = (iN : Int)) (hlen : iN + 6 ≤ X.length) (next : ∀ cl' C', (∃ s h, lt_S s h s h C') → LM (B + 50) C' → lw_L cl' i → okb (tb_P (some X)) N 0 1725 cl' [] C' K) : okb (tb_P (some X)) (1 + N) 0 615 cl [] C K := by
  refine okb_an rfl hl.2.1 rfl ?_
  refine lw_ld hX hl hi (k := 1) (by decide) (by omega) rfl rfl rfl rfl rfl (fun y1 hy1 => ?_)
  refine lw_ld hX hl hi (k := 2) (by decide) (by omega) rfl rfl rfl rfl rfl (fun y2 hy2 => ?_)
  refine okb_an rfl hl.2.2.2.1 rfl ?_
  obtain ⟨M, hm, hCP⟩ := hM
  refine okb_cs (N := N) (N' := 1) (mj := 333) (as := [.inr (.inl (some 0)), .inl (.inl y1), .inl (.inl y2), .inr (.inl (some 215))]) (T := []) rfl rfl rfl rfl (okb_post (wz_tell (some X) hS (ok_pa (cm_norm (some X) (show cn_ok (tb_P (some X)) tb_G tk_161 from tk_yes (some X) 161 (by decide)) (vs := [.inr (.inl (some 0)), .inl (.inl y1), .inl (.inl y2)]) ⟨rfl, at_any y1, at_any y2, trivial⟩ hS.1 rfl rfl rfl rfl) (jc_tell hm hCP))) (fun o C1 hq => ?_))
  obtain ⟨hS1, w, rfl, hZ⟩ := hq
  rw [hS.2.2.2.1, hS.2.2.2.2.1] at hS1
  show okb (tb_P (some X)) N 0 632 _ [.inl (.inl w)] C1 K
  obtain ⟨Mx, hmx, hWx⟩ : ∃ Mx : MM, mm tb_G Mx.1 Mx.2 C1 ∧ ∀ N', W_m_tell y1 y2 N' Mx (fun _ M2 => CP B M2) := by
    rcases hZ with ⟨rfl, v, y, M1, hv, ⟨y', rfl, hY⟩, hm1⟩ | ⟨ce, M1, hk, hX, hm1⟩
    · exact ⟨_, hm1, fun N' => and_m_tell (fun b M2 h _ => h.1) (hY y N') (hY y N')⟩
    · exact ⟨_, hm1, fun N' => and_m_tell (fun b M2 h _ => h.1) (hX N') (hX N')⟩
  refine okb_p rfl rfl rfl ?_
  have hl5 := lw_L_s hl (j := 5) (by decide) (.inl (.inl w))
  revert hl5
  generalize ea_s1 cl 5 (.inl (.inl w)) = cl5
  intro hl5
  refine okb_an rfl hl5.2.2.1 rfl ?_
  refine lw_ld hX hl5 hi (k := 1) (by decide) (by omega) rfl rfl rfl rfl rfl (fun y3 hy3 => ?_)
  have ey3 : y3 = y1 := by
    have := hy3.symm.trans hy1
    cases this
    rfl
  rw [ey3]
  refine lw_ld hX hl5 hi (k := 2) (by decide) (by omega) rfl rfl rfl rfl rfl (fun y4 hy4 => ?_)
  have ey4 : y4 = y2 := by
    have := hy4.symm.trans hy2
    cases this
    rfl
  rw [ey4]
  obtain ⟨ns, n1, -, -⟩ := hI_f hS1.1 (show tb_G 190 = some (.inl (12, _)) from rfl)
  refine okb_cv0 (mj := 262) (as := [.inl (.inl y1), .inl (.inl y2)]) (T := []) rfl rfl n1 rfl rfl rfl (ok_pa (rm_norm (some X) (show cx_ok (tb_P (some X)) tb_G (rf_G 0) trk_120 from tr_yes (some X) 120 (by decide) 0) hS1 (vs := [.inr (.inl (some 190)), .inl (.inl y1), .inl (.inl y2)]) ⟨rfl, at_any y1, at_any y2, trivial⟩ rfl rfl rfl rfl rfl rfl rfl) (fun N' => q_m_tell (hWx N') C1 hmx _ (lo_ar _ 0))) (fun o C2 hq => ?_)
  obtain ⟨⟨hE, hS2⟩, M2, hm2, w2, rfl, hR⟩ := hq
  refine ⟨_, rfl, ?_⟩
  show okb (tb_P (some X)) N 0 650 _ [.inl (.inl w2)] C2 K
  refine okb_p rfl rfl rfl ?_
  have hl6 := lw_L_s hl5 (j := 6) (by decide) (.inl (.inl w2))
  revert hl6
  generalize ea_s1 cl5 6 (.inl (.inl w2)) = cl6
  intro hl6
  refine okb_p rfl rfl rfl ?_
  exact next _ C2 ⟨_, _, hS2⟩ ⟨M2, hm2, CP_le hR (by omega)⟩ hl6
set_option maxRecDepth 20000 in
set_option maxHeartbeats 1000000 in
theorem lc_11 (hX : lw_X X) (hS : lt_S s h s h C) (hM : LM B C) (hB : 0 ≤ B ∧ B ≤ 28000) (hl : lw_L cl i) (hi : i.toInt = (iN : Int)) (hlen : iN + 6 ≤ X.length) (next : ∀ cl' C', (∃ s h, lt_S s h s h C') → LM (B + 50) C' → lw_L cl' i → okb (tb_P (some X)) N 0 1725 cl' [] C' K) : okb (tb_P (some X)) (1 + N) 0 655 cl [] C K := by
  refine okb_an rfl hl.2.1 rfl ?_
  refine lw_ld hX hl hi (k := 1) (by decide) (by omega) rfl rfl rfl rfl rfl (fun y1 hy1 => ?_)
  refine okb_an rfl hl.2.2.2.1 rfl ?_
  obtain ⟨M, hm, hCP⟩ := hM
  refine okb_cs (N := N) (N' := 1) (mj := 334) (as := [.inr (.inl (some 0)), .inl (.inl y1), .inr (.inl (some 215))]) (T := []) rfl rfl rfl rfl (okb_post (wz_die (some X) hS (ok_pa (cm_norm (some X) (show cn_ok (tb_P (some X)) tb_G tk_162 from tk_yes (some X) 162 (by decide)) (vs := [.inr (.inl (some 0)), .inl (.inl y1)]) ⟨rfl, at_any y1, trivial⟩ hS.1 rfl rfl rfl rfl) (jc_die hm hCP))) (fun o C1 hq => ?_))
  obtain ⟨hS1, w, rfl, hZ⟩ := hq
  rw [hS.2.2.2.1, hS.2.2.2.2.1] at hS1
  show okb (tb_P (some X)) N 0 666 _ [.inl (.inl w)] C1 K
  obtain ⟨Mx, hmx, hWx⟩ : ∃ Mx : MM, mm tb_G Mx.1 Mx.2 C1 ∧ ∀ N', W_m_die y1 N' Mx (fun _ M2 => CP B M2) := by
    rcases hZ with ⟨rfl, v, y, M1, hv, ⟨y', rfl, hY⟩, hm1⟩ | ⟨ce, M1, hk, hX, hm1⟩
    · exact ⟨_, hm1, fun N' => and_m_die (fun b M2 h _ => h.1) (hY y N') (hY y N')⟩
    · exact ⟨_, hm1, fun N' => and_m_die (fun b M2 h _ => h.1) (hX N') (hX N')⟩
  refine okb_p rfl rfl rfl ?_
  have hl5 := lw_L_s hl (j := 5) (by decide) (.inl (.inl w))
  revert hl5
  generalize ea_s1 cl 5 (.inl (.inl w)) = cl5
  intro hl5
  refine okb_an rfl hl5.2.2.1 rfl ?_
  refine lw_ld hX hl5 hi (k := 1) (by decide) (by omega) rfl rfl rfl rfl rfl (fun y2 hy2 => ?_)
  have ey2 : y2 = y1 := by
    have := hy2.symm.trans hy1
    cases this
    rfl
  rw [ey2]
  obtain ⟨ns, n1, -, -⟩ := hI_f hS1.1 (show tb_G 190 = some (.inl (12, _)) from rfl)
  refine okb_cv0 (mj := 263) (as := [.inl (.inl y1)]) (T := []) rfl rfl n1 rfl rfl rfl (ok_pa (rm_norm (some X) (show cx_ok (tb_P (some X)) tb_G (rf_G 0) trk_121 from tr_yes (some X) 121 (by decide) 0) hS1 (vs := [.inr (.inl (some 190)), .inl (.inl y1)]) ⟨rfl, at_any y1, trivial⟩ rfl rfl rfl rfl rfl rfl rfl) (fun N' => q_m_die (hWx N') C1 hmx _ (lo_ar _ 0))) (fun o C2 hq => ?_)
  obtain ⟨⟨hE, hS2⟩, M2, hm2, w2, rfl, hR⟩ := hq
  refine ⟨_, rfl, ?_⟩
  show okb (tb_P (some X)) N 0 678 _ [.inl (.inl w2)] C2 K
  refine okb_p rfl rfl rfl ?_
  have hl6 := lw_L_s hl5 (j := 6) (by decide) (.inl (.inl w2))
  revert hl6
  generalize ea_s1 cl5 6 (.inl (.inl w2)) = cl6
  intro hl6
  refine okb_p rfl rfl rfl ?_
  exact next _ C2 ⟨_, _, hS2⟩ ⟨M2, hm2, CP_le hR (by omega)⟩ hl6
set_option maxRecDepth 20000 in
set_option maxHeartbeats 1000000 in
theorem lc_12 (hX : lw_X X) (hS : lt_S s h s h C) (hM : LM B C) (hB : 0 ≤ B ∧ B ≤ 28000) (hl : lw_L cl i) (hi : i.toInt = (iN : Int)) (hlen : iN + 6 ≤ X.length) (next : ∀ cl' C', (∃ s h, lt_S s h s h C') → LM (B + 50) C' → lw_L cl' i → okb (tb_P (some X)) N 0 1725 cl' [] C' K) : okb (tb_P (some X)) (1 + N) 0 683 cl [] C K := by
  refine okb_an rfl hl.2.1 rfl ?_
  refine lw_ld hX hl hi (k := 1) (by decide) (by omega) rfl rfl rfl rfl rfl (fun y1 hy1 => ?_)
  refine lw_ld hX hl hi (k := 2) (by decide) (by omega) rfl rfl rfl rfl rfl (fun y2 hy2 => ?_)
  refine okb_an rfl hl.2.2.2.1 rfl ?_
  obtain ⟨M, hm, hCP⟩ := hM
  refine okb_cs (N := N) (N' := 1) (mj := 335) (as := [.inr (.inl (some 0)), .inl (.inl y1), .inl (.inl y2), .inr (.inl (some 215))]) (T := []) rfl rfl rfl rfl (okb_post (wz_wed (some X) hS (ok_pa (cm_norm (some X) (show cn_ok (tb_P (some X)) tb_G tk_163 from tk_yes (some X) 163 (by decide)) (vs := [.inr (.inl (some 0)), .inl (.inl y1), .inl (.inl y2)]) ⟨rfl, at_any y1, at_any y2, trivial⟩ hS.1 rfl rfl rfl rfl) (jc_wed hm hCP))) (fun o C1 hq => ?_))
  obtain ⟨hS1, w, rfl, hZ⟩ := hq
  rw [hS.2.2.2.1, hS.2.2.2.2.1] at hS1
  show okb (tb_P (some X)) N 0 700 _ [.inl (.inl w)] C1 K
  obtain ⟨Mx, hmx, hWx⟩ : ∃ Mx : MM, mm tb_G Mx.1 Mx.2 C1 ∧ ∀ N', W_m_wed y1 y2 N' Mx (fun _ M2 => CP B M2) := by
    rcases hZ with ⟨rfl, v, y, M1, hv, ⟨y', rfl, hY⟩, hm1⟩ | ⟨ce, M1, hk, hX, hm1⟩
    · exact ⟨_, hm1, fun N' => and_m_wed (fun b M2 h _ => h.1) (hY y N') (hY y N')⟩
    · exact ⟨_, hm1, fun N' => and_m_wed (fun b M2 h _ => h.1) (hX N') (hX N')⟩
  refine okb_p rfl rfl rfl ?_
  have hl5 := lw_L_s hl (j := 5) (by decide) (.inl (.inl w))
  revert hl5
  generalize ea_s1 cl 5 (.inl (.inl w)) = cl5
  intro hl5
  refine okb_an rfl hl5.2.2.1 rfl ?_
  refine lw_ld hX hl5 hi (k := 1) (by decide) (by omega) rfl rfl rfl rfl rfl (fun y3 hy3 => ?_)
  have ey3 : y3 = y1 := by
    have := hy3.symm.trans hy1
    cases this
    rfl
  rw [ey3]
  refine lw_ld hX hl5 hi (k := 2) (by decide) (by omega) rfl rfl rfl rfl rfl (fun y4 hy4 => ?_)
  have ey4 : y4 = y2 := by
    have := hy4.symm.trans hy2
    cases this
    rfl
  rw [ey4]
  obtain ⟨ns, n1, -, -⟩ := hI_f hS1.1 (show tb_G 190 = some (.inl (12, _)) from rfl)
  refine okb_cv0 (mj := 264) (as := [.inl (.inl y1), .inl (.inl y2)]) (T := []) rfl rfl n1 rfl rfl rfl (ok_pa (rm_norm (some X) (show cx_ok (tb_P (some X)) tb_G (rf_G 0) trk_122 from tr_yes (some X) 122 (by decide) 0) hS1 (vs := [.inr (.inl (some 190)), .inl (.inl y1), .inl (.inl y2)]) ⟨rfl, at_any y1, at_any y2, trivial⟩ rfl rfl rfl rfl rfl rfl rfl) (fun N' => q_m_wed (hWx N') C1 hmx _ (lo_ar _ 0))) (fun o C2 hq => ?_)
  obtain ⟨⟨hE, hS2⟩, M2, hm2, w2, rfl, hR⟩ := hq
  refine ⟨_, rfl, ?_⟩
  show okb (tb_P (some X)) N 0 718 _ [.inl (.inl w2)] C2 K
  refine okb_p rfl rfl rfl ?_
  have hl6 := lw_L_s hl5 (j := 6) (by decide) (.inl (.inl w2))
  revert hl6
  generalize ea_s1 cl5 6 (.inl (.inl w2)) = cl6
  intro hl6
  refine okb_p rfl rfl rfl ?_
  exact next _ C2 ⟨_, _, hS2⟩ ⟨M2, hm2, CP_le hR (by omega)⟩ hl6
set_option maxRecDepth 20000 in
set_option maxHeartbeats 1000000 in
theorem lc_13 (hX : lw_X X) (hS : lt_S s h s h C) (hM : LM B C) (hB : 0 ≤ B ∧ B ≤ 28000) (hl : lw_L cl i) (hi : i.toInt = (iN : Int)) (hlen : iN + 6 ≤ X.length) (next : ∀ cl' C', (∃ s h, lt_S s h s h C') → LM (B + 50) C' → lw_L cl' i → okb (tb_P (some X)) N 0 1725 cl' [] C' K) : okb (tb_P (some X)) (1 + N) 0 723 cl [] C K := by
  refine okb_an rfl hl.2.1 rfl ?_
  refine lw_ld hX hl hi (k := 1) (by decide) (by omega) rfl rfl rfl rfl rfl (fun y1 hy1 => ?_)
  refine okb_an rfl hl.2.2.2.1 rfl ?_
  obtain ⟨M, hm, hCP⟩ := hM
  refine okb_cs (N := N) (N' := 1) (mj := 336) (as := [.inr (.inl (some 0)), .inl (.inl y1), .inr (.inl (some 215))]) (T := []) rfl rfl rfl rfl (okb_post (wz_baby (some X) hS (ok_pa (cm_norm (some X) (show cn_ok (tb_P (some X)) tb_G tk_164 from tk_yes (some X) 164 (by decide)) (vs := [.inr (.inl (some 0)), .inl (.inl y1)]) ⟨rfl, at_any y1, trivial⟩ hS.1 rfl rfl rfl rfl) (jc_baby hm hCP))) (fun o C1 hq => ?_))
  obtain ⟨hS1, w, rfl, hZ⟩ := hq
  rw [hS.2.2.2.1, hS.2.2.2.2.1] at hS1
  show okb (tb_P (some X)) N 0 734 _ [.inl (.inl w)] C1 K
  obtain ⟨Mx, hmx, hWx⟩ : ∃ Mx : MM, mm tb_G Mx.1 Mx.2 C1 ∧ ∀ N', W_m_baby y1 N' Mx (fun _ M2 => CP B M2) := by
    rcases hZ with ⟨rfl, v, y, M1, hv, ⟨y', rfl, hY⟩, hm1⟩ | ⟨ce, M1, hk, hX, hm1⟩
    · exact ⟨_, hm1, fun N' => and_m_baby (fun b M2 h _ => h.1) (hY y N') (hY y N')⟩
    · exact ⟨_, hm1, fun N' => and_m_baby (fun b M2 h _ => h.1) (hX N') (hX N')⟩
  refine okb_p rfl rfl rfl ?_
  have hl5 := lw_L_s hl (j := 5) (by decide) (.inl (.inl w))
  revert hl5
  generalize ea_s1 cl 5 (.inl (.inl w)) = cl5
  intro hl5
  refine okb_an rfl hl5.2.2.1 rfl ?_
  refine lw_ld hX hl5 hi (k := 1) (by decide) (by omega) rfl rfl rfl rfl rfl (fun y2 hy2 => ?_)
  have ey2 : y2 = y1 := by
    have := hy2.symm.trans hy1
    cases this
    rfl
  rw [ey2]
  obtain ⟨ns, n1, -, -⟩ := hI_f hS1.1 (show tb_G 190 = some (.inl (12, _)) from rfl)
  refine okb_cv0 (mj := 265) (as := [.inl (.inl y1)]) (T := []) rfl rfl n1 rfl rfl rfl (ok_pa (rm_norm (some X) (show cx_ok (tb_P (some X)) tb_G (rf_G 0) trk_123 from tr_yes (some X) 123 (by decide) 0) hS1 (vs := [.inr (.inl (some 190)), .inl (.inl y1)]) ⟨rfl, at_any y1, trivial⟩ rfl rfl rfl rfl rfl rfl rfl) (fun N' => q_m_baby (hWx N') C1 hmx _ (lo_ar _ 0))) (fun o C2 hq => ?_)
  obtain ⟨⟨hE, hS2⟩, M2, hm2, w2, rfl, hR⟩ := hq
  refine ⟨_, rfl, ?_⟩
  show okb (tb_P (some X)) N 0 746 _ [.inl (.inl w2)] C2 K
  refine okb_p rfl rfl rfl ?_
  have hl6 := lw_L_s hl5 (j := 6) (by decide) (.inl (.inl w2))
  revert hl6
  generalize ea_s1 cl5 6 (.inl (.inl w2)) = cl6
  intro hl6
  refine okb_p rfl rfl rfl ?_
  exact next _ C2 ⟨_, _, hS2⟩ ⟨M2, hm2, CP_le hR (by omega)⟩ hl6
set_option maxRecDepth 20000 in
set_option maxHeartbeats 1000000 in
theorem lc_14 (hX : lw_X X) (hS : lt_S s h s h C) (hM : LM B C) (hB : 0 ≤ B ∧ B ≤ 28000) (hl : lw_L cl i) (hi : i.toInt = (iN : Int)) (hlen : iN + 6 ≤ X.length) (next : ∀ cl' C', (∃ s h, lt_S s h s h C') → LM (B + 50) C' → lw_L cl' i → okb (tb_P (some X)) N 0 1725 cl' [] C' K) : okb (tb_P (some X)) (1 + N) 0 751 cl [] C K := by
  refine okb_an rfl hl.2.1 rfl ?_
  refine lw_ld hX hl hi (k := 1) (by decide) (by omega) rfl rfl rfl rfl rfl (fun y1 hy1 => ?_)
  refine okb_an rfl hl.2.2.2.1 rfl ?_
  obtain ⟨M, hm, hCP⟩ := hM
  refine okb_cs (N := N) (N' := 1) (mj := 337) (as := [.inr (.inl (some 0)), .inl (.inl y1), .inr (.inl (some 215))]) (T := []) rfl rfl rfl rfl (okb_post (wz_release (some X) hS (ok_pa (cm_norm (some X) (show cn_ok (tb_P (some X)) tb_G tk_165 from tk_yes (some X) 165 (by decide)) (vs := [.inr (.inl (some 0)), .inl (.inl y1)]) ⟨rfl, at_any y1, trivial⟩ hS.1 rfl rfl rfl rfl) (jc_release hm hCP))) (fun o C1 hq => ?_))
  obtain ⟨hS1, w, rfl, hZ⟩ := hq
  rw [hS.2.2.2.1, hS.2.2.2.2.1] at hS1
  show okb (tb_P (some X)) N 0 762 _ [.inl (.inl w)] C1 K
  obtain ⟨Mx, hmx, hWx⟩ : ∃ Mx : MM, mm tb_G Mx.1 Mx.2 C1 ∧ ∀ N', W_m_release y1 N' Mx (fun _ M2 => CP B M2) := by
    rcases hZ with ⟨rfl, v, y, M1, hv, ⟨y', rfl, hY⟩, hm1⟩ | ⟨ce, M1, hk, hX, hm1⟩
    · exact ⟨_, hm1, fun N' => and_m_release (fun b M2 h _ => h.1) (hY y N') (hY y N')⟩
    · exact ⟨_, hm1, fun N' => and_m_release (fun b M2 h _ => h.1) (hX N') (hX N')⟩
  refine okb_p rfl rfl rfl ?_
  have hl5 := lw_L_s hl (j := 5) (by decide) (.inl (.inl w))
  revert hl5
  generalize ea_s1 cl 5 (.inl (.inl w)) = cl5
  intro hl5
  refine okb_an rfl hl5.2.2.1 rfl ?_
  refine lw_ld hX hl5 hi (k := 1) (by decide) (by omega) rfl rfl rfl rfl rfl (fun y2 hy2 => ?_)
  have ey2 : y2 = y1 := by
    have := hy2.symm.trans hy1
    cases this
    rfl
  rw [ey2]
  obtain ⟨ns, n1, -, -⟩ := hI_f hS1.1 (show tb_G 190 = some (.inl (12, _)) from rfl)
  refine okb_cv0 (mj := 266) (as := [.inl (.inl y1)]) (T := []) rfl rfl n1 rfl rfl rfl (ok_pa (rm_norm (some X) (show cx_ok (tb_P (some X)) tb_G (rf_G 0) trk_124 from tr_yes (some X) 124 (by decide) 0) hS1 (vs := [.inr (.inl (some 190)), .inl (.inl y1)]) ⟨rfl, at_any y1, trivial⟩ rfl rfl rfl rfl rfl rfl rfl) (fun N' => q_m_release (hWx N') C1 hmx _ (lo_ar _ 0))) (fun o C2 hq => ?_)
  obtain ⟨⟨hE, hS2⟩, M2, hm2, w2, rfl, hR⟩ := hq
  refine ⟨_, rfl, ?_⟩
  show okb (tb_P (some X)) N 0 774 _ [.inl (.inl w2)] C2 K
  refine okb_p rfl rfl rfl ?_
  have hl6 := lw_L_s hl5 (j := 6) (by decide) (.inl (.inl w2))
  revert hl6
  generalize ea_s1 cl5 6 (.inl (.inl w2)) = cl6
  intro hl6
  refine okb_p rfl rfl rfl ?_
  exact next _ C2 ⟨_, _, hS2⟩ ⟨M2, hm2, CP_le hR (by omega)⟩ hl6
set_option maxRecDepth 20000 in
set_option maxHeartbeats 1000000 in
theorem lc_15 (hX : lw_X X) (hS : lt_S s h s h C) (hM : LM B C) (hB : 0 ≤ B ∧ B ≤ 28000) (hl : lw_L cl i) (hi : i.toInt = (iN : Int)) (hlen : iN + 6 ≤ X.length) (next : ∀ cl' C', (∃ s h, lt_S s h s h C') → LM (B + 50) C' → lw_L cl' i → okb (tb_P (some X)) N 0 1725 cl' [] C' K) : okb (tb_P (some X)) (1 + N) 0 779 cl [] C K := by
  refine okb_an rfl hl.2.1 rfl ?_
  refine lw_ld hX hl hi (k := 1) (by decide) (by omega) rfl rfl rfl rfl rfl (fun y1 hy1 => ?_)
  refine okb_an rfl hl.2.2.2.1 rfl ?_
  obtain ⟨M, hm, hCP⟩ := hM
  refine okb_cs (N := N) (N' := 1) (mj := 338) (as := [.inr (.inl (some 0)), .inl (.inl y1), .inr (.inl (some 215))]) (T := []) rfl rfl rfl rfl (okb_post (wz_days (some X) hS (ok_pa (cm_norm (some X) (show cn_ok (tb_P (some X)) tb_G tk_166 from tk_yes (some X) 166 (by decide)) (vs := [.inr (.inl (some 0)), .inl (.inl y1)]) ⟨rfl, at_any y1, trivial⟩ hS.1 rfl rfl rfl rfl) (jc_days hm hCP hB))) (fun o C1 hq => ?_))
  obtain ⟨hS1, w, rfl, hZ⟩ := hq
  rw [hS.2.2.2.1, hS.2.2.2.2.1] at hS1
  show okb (tb_P (some X)) N 0 790 _ [.inl (.inl w)] C1 K
  obtain ⟨Mx, hmx, hWx⟩ : ∃ Mx : MM, mm tb_G Mx.1 Mx.2 C1 ∧ ∀ N', W_m_days y1 N' Mx (fun _ M2 => CP (B + 50) M2) := by
    rcases hZ with ⟨rfl, v, y, M1, hv, ⟨y', rfl, hY⟩, hm1⟩ | ⟨ce, M1, hk, hX, hm1⟩
    · exact ⟨_, hm1, fun N' => and_m_days (fun b M2 h _ => h.1) (hY y N') (hY y N')⟩
    · exact ⟨_, hm1, fun N' => and_m_days (fun b M2 h _ => h.1) (hX N') (hX N')⟩
  refine okb_p rfl rfl rfl ?_
  have hl5 := lw_L_s hl (j := 5) (by decide) (.inl (.inl w))
  revert hl5
  generalize ea_s1 cl 5 (.inl (.inl w)) = cl5
  intro hl5
  refine okb_an rfl hl5.2.2.1 rfl ?_
  refine lw_ld hX hl5 hi (k := 1) (by decide) (by omega) rfl rfl rfl rfl rfl (fun y2 hy2 => ?_)
  have ey2 : y2 = y1 := by
    have := hy2.symm.trans hy1
    cases this
    rfl
  rw [ey2]
  obtain ⟨ns, n1, -, -⟩ := hI_f hS1.1 (show tb_G 190 = some (.inl (12, _)) from rfl)
  refine okb_cv0 (mj := 271) (as := [.inl (.inl y1)]) (T := []) rfl rfl n1 rfl rfl rfl (ok_pa (rm_norm (some X) (show cx_ok (tb_P (some X)) tb_G (rf_G 0) trk_129 from tr_yes (some X) 129 (by decide) 0) hS1 (vs := [.inr (.inl (some 190)), .inl (.inl y1)]) ⟨rfl, at_any y1, trivial⟩ rfl rfl rfl rfl rfl rfl rfl) (fun N' => q_m_days (hWx N') C1 hmx _ (lo_ar _ 0))) (fun o C2 hq => ?_)
  obtain ⟨⟨hE, hS2⟩, M2, hm2, w2, rfl, hR⟩ := hq
  refine ⟨_, rfl, ?_⟩
  show okb (tb_P (some X)) N 0 802 _ [.inl (.inl w2)] C2 K
  refine okb_p rfl rfl rfl ?_
  have hl6 := lw_L_s hl5 (j := 6) (by decide) (.inl (.inl w2))
  revert hl6
  generalize ea_s1 cl5 6 (.inl (.inl w2)) = cl6
  intro hl6
  refine okb_p rfl rfl rfl ?_
  exact next _ C2 ⟨_, _, hS2⟩ ⟨M2, hm2, CP_le hR (by omega)⟩ hl6
set_option maxRecDepth 20000 in
set_option maxHeartbeats 1000000 in
theorem lc_16 (hX : lw_X X) (hS : lt_S s h s h C) (hM : LM B C) (hB : 0 ≤ B ∧ B ≤ 28000) (hl : lw_L cl i) (hi : i.toInt = (iN : Int)) (hlen : iN + 6 ≤ X.length) (next : ∀ cl' C', (∃ s h, lt_S s h s h C') → LM (B + 50) C' → lw_L cl' i → okb (tb_P (some X)) N 0 1725 cl' [] C' K) : okb (tb_P (some X)) (1 + N) 0 807 cl [] C K := by
  refine okb_more (N := N) (by omega) ?_
  refine okb_an rfl hl.2.1 rfl ?_
  obtain ⟨xs, x1, -, -⟩ := hI_f hS.1 (show tb_G 0 = some (.inl (11, _)) from rfl)
  obtain ⟨M, hm, hCP⟩ := hM
  refine okb_cv0 (mj := 147) (as := []) (T := []) rfl rfl x1 rfl rfl rfl (ok_pa (cm_norm (some X) (show cn_ok (tb_P (some X)) tb_G tk_167 from tk_yes (some X) 167 (by decide)) (vs := [.inr (.inl (some 0))]) ⟨rfl, trivial⟩ hS.1 rfl rfl rfl rfl) (jc_nobody hm hCP)) (fun o C1 hq => ?_)
  obtain ⟨⟨hP, hE⟩, M1, hm1, hJ⟩ := hq
  have hS1 := lt_cm hS hP
  rw [hS.2.2.2.1, hS.2.2.2.2.1] at hS1
  cases o with
  | inr ce => exact nomatch (show ce ∈ ([] : List Nat) from hE)
  | inl v =>
    obtain ⟨w, rfl⟩ := hE
    refine ⟨_, rfl, ?_⟩
    have hCx : CP B M1 := by
      rcases hJ with ⟨v, e, hY⟩ | ⟨ce, e, hY⟩
      · exact hY
      · exact hY
    have hWx : ∀ N', W_m_nobody N' M1 (fun _ M2 => CP B M2) := fun N' => fm_nobody hCx
    have hmx := hm1
    show okb (tb_P (some X)) N 0 811 _ [.inl (.inl w)] C1 K
    refine okb_p rfl rfl rfl ?_
    refine okb_an rfl hl.2.2.1 rfl ?_
    obtain ⟨ns, n1, -, -⟩ := hI_f hS1.1 (show tb_G 190 = some (.inl (12, _)) from rfl)
    refine okb_cv0 (mj := 272) (as := []) (T := []) rfl rfl n1 rfl rfl rfl (ok_pa (rm_norm (some X) (show cx_ok (tb_P (some X)) tb_G (rf_G 0) trk_130 from tr_yes (some X) 130 (by decide) 0) hS1 (vs := [.inr (.inl (some 190))]) ⟨rfl, trivial⟩ rfl rfl rfl rfl rfl rfl rfl) (fun N' => q_m_nobody (hWx N') C1 hmx _ (lo_ar _ 0))) (fun o C2 hq => ?_)
    obtain ⟨⟨hE, hS2⟩, M2, hm2, w2, rfl, hR⟩ := hq
    refine ⟨_, rfl, ?_⟩
    show okb (tb_P (some X)) N 0 816 _ [.inl (.inl w2)] C2 K
    refine okb_p rfl rfl rfl ?_
    refine okb_p rfl rfl rfl ?_
    exact next _ C2 ⟨_, _, hS2⟩ ⟨M2, hm2, CP_le hR (by omega)⟩ hl
set_option maxRecDepth 20000 in
set_option maxHeartbeats 1000000 in
theorem lc_17 (hX : lw_X X) (hS : lt_S s h s h C) (hM : LM B C) (hB : 0 ≤ B ∧ B ≤ 28000) (hl : lw_L cl i) (hi : i.toInt = (iN : Int)) (hlen : iN + 6 ≤ X.length) (next : ∀ cl' C', (∃ s h, lt_S s h s h C') → LM (B + 50) C' → lw_L cl' i → okb (tb_P (some X)) N 0 1725 cl' [] C' K) : okb (tb_P (some X)) (1 + N) 0 820 cl [] C K := by
  refine okb_more (N := N) (by omega) ?_
  refine okb_an rfl hl.2.1 rfl ?_
  obtain ⟨xs, x1, -, -⟩ := hI_f hS.1 (show tb_G 0 = some (.inl (11, _)) from rfl)
  obtain ⟨M, hm, hCP⟩ := hM
  refine okb_cv0 (mj := 148) (as := []) (T := []) rfl rfl x1 rfl rfl rfl (ok_pa (cm_norm (some X) (show cn_ok (tb_P (some X)) tb_G tk_168 from tk_yes (some X) 168 (by decide)) (vs := [.inr (.inl (some 0))]) ⟨rfl, trivial⟩ hS.1 rfl rfl rfl rfl) (jc_relief hm hCP)) (fun o C1 hq => ?_)
  obtain ⟨⟨hP, hE⟩, M1, hm1, hJ⟩ := hq
  have hS1 := lt_cm hS hP
  rw [hS.2.2.2.1, hS.2.2.2.2.1] at hS1
  cases o with
  | inr ce => exact nomatch (show ce ∈ ([] : List Nat) from hE)
  | inl v =>
    obtain ⟨w, rfl⟩ := hE
    refine ⟨_, rfl, ?_⟩
    have hCx : CP B M1 := by
      rcases hJ with ⟨v, e, hY⟩ | ⟨ce, e, hY⟩
      · exact hY
      · exact hY
    have hWx : ∀ N', W_m_relief N' M1 (fun _ M2 => CP B M2) := fun N' => fm_relief hCx
    have hmx := hm1
    show okb (tb_P (some X)) N 0 824 _ [.inl (.inl w)] C1 K
    refine okb_p rfl rfl rfl ?_
    refine okb_an rfl hl.2.2.1 rfl ?_
    obtain ⟨ns, n1, -, -⟩ := hI_f hS1.1 (show tb_G 190 = some (.inl (12, _)) from rfl)
    refine okb_cv0 (mj := 273) (as := []) (T := []) rfl rfl n1 rfl rfl rfl (ok_pa (rm_norm (some X) (show cx_ok (tb_P (some X)) tb_G (rf_G 0) trk_131 from tr_yes (some X) 131 (by decide) 0) hS1 (vs := [.inr (.inl (some 190))]) ⟨rfl, trivial⟩ rfl rfl rfl rfl rfl rfl rfl) (fun N' => q_m_relief (hWx N') C1 hmx _ (lo_ar _ 0))) (fun o C2 hq => ?_)
    obtain ⟨⟨hE, hS2⟩, M2, hm2, w2, rfl, hR⟩ := hq
    refine ⟨_, rfl, ?_⟩
    show okb (tb_P (some X)) N 0 829 _ [.inl (.inl w2)] C2 K
    refine okb_p rfl rfl rfl ?_
    refine okb_p rfl rfl rfl ?_
    exact next _ C2 ⟨_, _, hS2⟩ ⟨M2, hm2, CP_le hR (by omega)⟩ hl
set_option maxRecDepth 20000 in
set_option maxHeartbeats 1000000 in
theorem lc_18 (hX : lw_X X) (hS : lt_S s h s h C) (hM : LM B C) (hB : 0 ≤ B ∧ B ≤ 28000) (hl : lw_L cl i) (hi : i.toInt = (iN : Int)) (hlen : iN + 6 ≤ X.length) (next : ∀ cl' C', (∃ s h, lt_S s h s h C') → LM (B + 50) C' → lw_L cl' i → okb (tb_P (some X)) N 0 1725 cl' [] C' K) : okb (tb_P (some X)) (1 + N) 0 833 cl [] C K := by
  refine okb_an rfl hl.2.1 rfl ?_
  refine lw_ld hX hl hi (k := 1) (by decide) (by omega) rfl rfl rfl rfl rfl (fun y1 hy1 => ?_)
  refine okb_an rfl hl.2.2.2.1 rfl ?_
  obtain ⟨M, hm, hCP⟩ := hM
  refine okb_cs (N := N) (N' := 1) (mj := 339) (as := [.inr (.inl (some 0)), .inl (.inl y1), .inr (.inl (some 215))]) (T := []) rfl rfl rfl rfl (okb_post (wz_read (some X) hS (ok_pa (cm_read (some X) hS.1) (jc_read hm hCP))) (fun o C1 hq => ?_))
  obtain ⟨hS1, w, rfl, hZ⟩ := hq
  rw [hS.2.2.2.2.1] at hS1
  show okb (tb_P (some X)) N 0 844 _ [.inl (.inl w)] C1 K
  obtain ⟨Mx, hmx, hWx⟩ : ∃ Mx : MM, mm tb_G Mx.1 Mx.2 C1 ∧ ∀ N', W_m_read y1 N' Mx (fun _ M2 => CP B M2) := by
    rcases hZ with ⟨rfl, v, y, M1, hv, hY, hm1⟩ | ⟨ce, M1, hk, hX, hm1⟩
    · exact ⟨_, hm1, fun N' => hY y N'⟩
    · exact ⟨_, hm1, fun N' => hX N'⟩
  refine okb_p rfl rfl rfl ?_
  have hl5 := lw_L_s hl (j := 5) (by decide) (.inl (.inl w))
  revert hl5
  generalize ea_s1 cl 5 (.inl (.inl w)) = cl5
  intro hl5
  refine okb_an rfl hl5.2.2.1 rfl ?_
  refine lw_ld hX hl5 hi (k := 1) (by decide) (by omega) rfl rfl rfl rfl rfl (fun y2 hy2 => ?_)
  have ey2 : y2 = y1 := by
    have := hy2.symm.trans hy1
    cases this
    rfl
  rw [ey2]
  obtain ⟨ns, n1, -, -⟩ := hI_f hS1.1 (show tb_G 190 = some (.inl (12, _)) from rfl)
  refine okb_cv0 (mj := 278) (as := [.inl (.inl y1)]) (T := []) rfl rfl n1 rfl rfl rfl (ok_pa (rm_use (some X) (show cx_ok (tb_P (some X)) tb_G (rf_G 0) trk_136 from tr_yes (some X) 136 (by decide) 0) hS1 (vs := [.inr (.inl (some 190)), .inl (.inl y1)]) ⟨rfl, at_any y1, trivial⟩ (pre := []) (EV := []) rfl trivial rfl rfl rfl rfl rfl) (fun N' => q_m_read (hWx N') C1 hmx _ (lo_ar _ 0))) (fun o C2 hq => ?_)
  obtain ⟨⟨hE, hS2⟩, M2, hm2, w2, rfl, hR⟩ := hq
  refine ⟨_, rfl, ?_⟩
  show okb (tb_P (some X)) N 0 856 _ [.inl (.inl w2)] C2 K
  refine okb_p rfl rfl rfl ?_
  have hl6 := lw_L_s hl5 (j := 6) (by decide) (.inl (.inl w2))
  revert hl6
  generalize ea_s1 cl5 6 (.inl (.inl w2)) = cl6
  intro hl6
  refine okb_p rfl rfl rfl ?_
  exact next _ C2 ⟨_, _, hS2⟩ ⟨M2, hm2, CP_le hR (by omega)⟩ hl6
set_option maxRecDepth 20000 in
set_option maxHeartbeats 1000000 in
theorem lc_19 (hX : lw_X X) (hS : lt_S s h s h C) (hM : LM B C) (hB : 0 ≤ B ∧ B ≤ 28000) (hl : lw_L cl i) (hi : i.toInt = (iN : Int)) (hlen : iN + 6 ≤ X.length) (next : ∀ cl' C', (∃ s h, lt_S s h s h C') → LM (B + 50) C' → lw_L cl' i → okb (tb_P (some X)) N 0 1725 cl' [] C' K) : okb (tb_P (some X)) (1 + N) 0 861 cl [] C K := by
  refine okb_an rfl hl.2.1 rfl ?_
  refine lw_ld hX hl hi (k := 1) (by decide) (by omega) rfl rfl rfl rfl rfl (fun y1 hy1 => ?_)
  refine okb_an rfl hl.2.2.2.1 rfl ?_
  obtain ⟨M, hm, hCP⟩ := hM
  refine okb_cs (N := N) (N' := 1) (mj := 340) (as := [.inr (.inl (some 0)), .inl (.inl y1), .inr (.inl (some 215))]) (T := []) rfl rfl rfl rfl (okb_post (wz_next (some X) hS (ok_pa (cm_next (some X) hS.1) (jc_next hm hCP))) (fun o C1 hq => ?_))
  obtain ⟨hS1, w, rfl, hZ⟩ := hq
  rw [hS.2.2.2.2.1] at hS1
  show okb (tb_P (some X)) N 0 872 _ [.inl (.inl w)] C1 K
  obtain ⟨Mx, hmx, hWx⟩ : ∃ Mx : MM, mm tb_G Mx.1 Mx.2 C1 ∧ ∀ N', W_m_next y1 N' Mx (fun _ M2 => CP B M2) := by
    rcases hZ with ⟨rfl, v, y, M1, hv, hY, hm1⟩ | ⟨ce, M1, hk, hX, hm1⟩
    · exact ⟨_, hm1, fun N' => hY y N'⟩
    · exact ⟨_, hm1, fun N' => hX N'⟩
  refine okb_p rfl rfl rfl ?_
  have hl5 := lw_L_s hl (j := 5) (by decide) (.inl (.inl w))
  revert hl5
  generalize ea_s1 cl 5 (.inl (.inl w)) = cl5
  intro hl5
  refine okb_an rfl hl5.2.2.1 rfl ?_
  refine lw_ld hX hl5 hi (k := 1) (by decide) (by omega) rfl rfl rfl rfl rfl (fun y2 hy2 => ?_)
  have ey2 : y2 = y1 := by
    have := hy2.symm.trans hy1
    cases this
    rfl
  rw [ey2]
  obtain ⟨ns, n1, -, -⟩ := hI_f hS1.1 (show tb_G 190 = some (.inl (12, _)) from rfl)
  refine okb_cv0 (mj := 279) (as := [.inl (.inl y1)]) (T := []) rfl rfl n1 rfl rfl rfl (ok_pa (rm_use (some X) (show cx_ok (tb_P (some X)) tb_G (rf_G 0) trk_137 from tr_yes (some X) 137 (by decide) 0) hS1 (vs := [.inr (.inl (some 190)), .inl (.inl y1)]) ⟨rfl, at_any y1, trivial⟩ (pre := []) (EV := []) rfl trivial rfl rfl rfl rfl rfl) (fun N' => q_m_next (hWx N') C1 hmx _ (lo_ar _ 0))) (fun o C2 hq => ?_)
  obtain ⟨⟨hE, hS2⟩, M2, hm2, w2, rfl, hR⟩ := hq
  refine ⟨_, rfl, ?_⟩
  show okb (tb_P (some X)) N 0 884 _ [.inl (.inl w2)] C2 K
  refine okb_p rfl rfl rfl ?_
  have hl6 := lw_L_s hl5 (j := 6) (by decide) (.inl (.inl w2))
  revert hl6
  generalize ea_s1 cl5 6 (.inl (.inl w2)) = cl6
  intro hl6
  refine okb_p rfl rfl rfl ?_
  exact next _ C2 ⟨_, _, hS2⟩ ⟨M2, hm2, CP_le hR (by omega)⟩ hl6
set_option maxRecDepth 20000 in
set_option maxHeartbeats 1000000 in
theorem lc_20 (hX : lw_X X) (hS : lt_S s h s h C) (hM : LM B C) (hB : 0 ≤ B ∧ B ≤ 28000) (hl : lw_L cl i) (hi : i.toInt = (iN : Int)) (hlen : iN + 6 ≤ X.length) (next : ∀ cl' C', (∃ s h, lt_S s h s h C') → LM (B + 50) C' → lw_L cl' i → okb (tb_P (some X)) N 0 1725 cl' [] C' K) : okb (tb_P (some X)) (1 + N) 0 889 cl [] C K := by
  refine okb_more (N := N) (by omega) ?_
  refine okb_an rfl hl.2.1 rfl ?_
  obtain ⟨xs, x1, -, -⟩ := hI_f hS.1 (show tb_G 0 = some (.inl (11, _)) from rfl)
  obtain ⟨M, hm, hCP⟩ := hM
  refine okb_cv0 (mj := 151) (as := []) (T := []) rfl rfl x1 rfl rfl rfl (ok_pa (cm_norm (some X) (show cn_ok (tb_P (some X)) tb_G tk_171 from tk_yes (some X) 171 (by decide)) (vs := [.inr (.inl (some 0))]) ⟨rfl, trivial⟩ hS.1 rfl rfl rfl rfl) (jc_cover hm hCP)) (fun o C1 hq => ?_)
  obtain ⟨⟨hP, hE⟩, M1, hm1, hJ⟩ := hq
  have hS1 := lt_cm hS hP
  rw [hS.2.2.2.1, hS.2.2.2.2.1] at hS1
  cases o with
  | inr ce => exact nomatch (show ce ∈ ([] : List Nat) from hE)
  | inl v =>
    obtain ⟨w, rfl⟩ := hE
    refine ⟨_, rfl, ?_⟩
    have hCx : CP B M1 := by
      rcases hJ with ⟨v, e, hY⟩ | ⟨ce, e, hY⟩
      · exact hY
      · exact hY
    have hWx : ∀ N', W_m_cover N' M1 (fun _ M2 => CP B M2) := fun N' => fm_cover hCx
    have hmx := hm1
    show okb (tb_P (some X)) N 0 893 _ [.inl (.inl w)] C1 K
    refine okb_p rfl rfl rfl ?_
    refine okb_an rfl hl.2.2.1 rfl ?_
    obtain ⟨ns, n1, -, -⟩ := hI_f hS1.1 (show tb_G 190 = some (.inl (12, _)) from rfl)
    refine okb_cv0 (mj := 280) (as := []) (T := []) rfl rfl n1 rfl rfl rfl (ok_pa (rm_norm (some X) (show cx_ok (tb_P (some X)) tb_G (rf_G 0) trk_138 from tr_yes (some X) 138 (by decide) 0) hS1 (vs := [.inr (.inl (some 190))]) ⟨rfl, trivial⟩ rfl rfl rfl rfl rfl rfl rfl) (fun N' => q_m_cover (hWx N') C1 hmx _ (lo_ar _ 0))) (fun o C2 hq => ?_)
    obtain ⟨⟨hE, hS2⟩, M2, hm2, w2, rfl, hR⟩ := hq
    refine ⟨_, rfl, ?_⟩
    show okb (tb_P (some X)) N 0 898 _ [.inl (.inl w2)] C2 K
    refine okb_p rfl rfl rfl ?_
    refine okb_p rfl rfl rfl ?_
    exact next _ C2 ⟨_, _, hS2⟩ ⟨M2, hm2, CP_le hR (by omega)⟩ hl
set_option maxRecDepth 20000 in
set_option maxHeartbeats 1000000 in
theorem lc_21 (hX : lw_X X) (hS : lt_S s h s h C) (hM : LM B C) (hB : 0 ≤ B ∧ B ≤ 28000) (hl : lw_L cl i) (hi : i.toInt = (iN : Int)) (hlen : iN + 6 ≤ X.length) (next : ∀ cl' C', (∃ s h, lt_S s h s h C') → LM (B + 50) C' → lw_L cl' i → okb (tb_P (some X)) N 0 1725 cl' [] C' K) : okb (tb_P (some X)) (1 + N) 0 902 cl [] C K := by
  refine okb_an rfl hl.2.1 rfl ?_
  refine lw_ld hX hl hi (k := 1) (by decide) (by omega) rfl rfl rfl rfl rfl (fun y1 hy1 => ?_)
  refine okb_an rfl hl.2.2.2.1 rfl ?_
  obtain ⟨M, hm, hCP⟩ := hM
  refine okb_cs (N := N) (N' := 1) (mj := 341) (as := [.inr (.inl (some 0)), .inl (.inl y1), .inr (.inl (some 215))]) (T := []) rfl rfl rfl rfl (okb_post (wz_dies (some X) hS (ok_pa (cm_norm (some X) (show cn_ok (tb_P (some X)) tb_G tk_172 from tk_yes (some X) 172 (by decide)) (vs := [.inr (.inl (some 0)), .inl (.inl y1)]) ⟨rfl, at_any y1, trivial⟩ hS.1 rfl rfl rfl rfl) (jc_dies hm hCP))) (fun o C1 hq => ?_))
  obtain ⟨hS1, w, rfl, hZ⟩ := hq
  rw [hS.2.2.2.1, hS.2.2.2.2.1] at hS1
  show okb (tb_P (some X)) N 0 913 _ [.inl (.inl w)] C1 K
  obtain ⟨Mx, hmx, hCx⟩ := wz_w hZ
  have hWx : ∀ N', W_m_dies y1 N' Mx (fun _ M2 => CP B M2) := fun N' => fm_dies hCx
  refine okb_p rfl rfl rfl ?_
  have hl5 := lw_L_s hl (j := 5) (by decide) (.inl (.inl w))
  revert hl5
  generalize ea_s1 cl 5 (.inl (.inl w)) = cl5
  intro hl5
  refine okb_an rfl hl5.2.2.1 rfl ?_
  refine lw_ld hX hl5 hi (k := 1) (by decide) (by omega) rfl rfl rfl rfl rfl (fun y2 hy2 => ?_)
  have ey2 : y2 = y1 := by
    have := hy2.symm.trans hy1
    cases this
    rfl
  rw [ey2]
  obtain ⟨ns, n1, -, -⟩ := hI_f hS1.1 (show tb_G 190 = some (.inl (12, _)) from rfl)
  refine okb_cv0 (mj := 281) (as := [.inl (.inl y1)]) (T := []) rfl rfl n1 rfl rfl rfl (ok_pa (rm_norm (some X) (show cx_ok (tb_P (some X)) tb_G (rf_G 0) trk_139 from tr_yes (some X) 139 (by decide) 0) hS1 (vs := [.inr (.inl (some 190)), .inl (.inl y1)]) ⟨rfl, at_any y1, trivial⟩ rfl rfl rfl rfl rfl rfl rfl) (fun N' => q_m_dies (hWx N') C1 hmx _ (lo_ar _ 0))) (fun o C2 hq => ?_)
  obtain ⟨⟨hE, hS2⟩, M2, hm2, w2, rfl, hR⟩ := hq
  refine ⟨_, rfl, ?_⟩
  show okb (tb_P (some X)) N 0 925 _ [.inl (.inl w2)] C2 K
  refine okb_p rfl rfl rfl ?_
  have hl6 := lw_L_s hl5 (j := 6) (by decide) (.inl (.inl w2))
  revert hl6
  generalize ea_s1 cl5 6 (.inl (.inl w2)) = cl6
  intro hl6
  refine okb_p rfl rfl rfl ?_
  exact next _ C2 ⟨_, _, hS2⟩ ⟨M2, hm2, CP_le hR (by omega)⟩ hl6
set_option maxRecDepth 20000 in
set_option maxHeartbeats 1000000 in
theorem lc_22 (hX : lw_X X) (hS : lt_S s h s h C) (hM : LM B C) (hB : 0 ≤ B ∧ B ≤ 28000) (hl : lw_L cl i) (hi : i.toInt = (iN : Int)) (hlen : iN + 6 ≤ X.length) (next : ∀ cl' C', (∃ s h, lt_S s h s h C') → LM (B + 50) C' → lw_L cl' i → okb (tb_P (some X)) N 0 1725 cl' [] C' K) : okb (tb_P (some X)) (1 + N) 0 930 cl [] C K := by
  refine okb_an rfl hl.2.1 rfl ?_
  refine lw_ld hX hl hi (k := 1) (by decide) (by omega) rfl rfl rfl rfl rfl (fun y1 hy1 => ?_)
  refine okb_an rfl hl.2.2.2.1 rfl ?_
  obtain ⟨M, hm, hCP⟩ := hM
  refine okb_cs (N := N) (N' := 1) (mj := 342) (as := [.inr (.inl (some 0)), .inl (.inl y1), .inr (.inl (some 215))]) (T := []) rfl rfl rfl rfl (okb_post (wz_heirs (some X) hS (ok_pa (cm_norm (some X) (show cn_ok (tb_P (some X)) tb_G tk_173 from tk_yes (some X) 173 (by decide)) (vs := [.inr (.inl (some 0)), .inl (.inl y1)]) ⟨rfl, at_any y1, trivial⟩ hS.1 rfl rfl rfl rfl) (jc_heirs hm hCP))) (fun o C1 hq => ?_))
  obtain ⟨hS1, w, rfl, hZ⟩ := hq
  rw [hS.2.2.2.1, hS.2.2.2.2.1] at hS1
  show okb (tb_P (some X)) N 0 941 _ [.inl (.inl w)] C1 K
  obtain ⟨Mx, hmx, hCx⟩ := wz_w hZ
  have hWx : ∀ N', W_m_heirs y1 N' Mx (fun _ M2 => CP B M2) := fun N' => fm_heirs hCx
  refine okb_p rfl rfl rfl ?_
  have hl5 := lw_L_s hl (j := 5) (by decide) (.inl (.inl w))
  revert hl5
  generalize ea_s1 cl 5 (.inl (.inl w)) = cl5
  intro hl5
  refine okb_an rfl hl5.2.2.1 rfl ?_
  refine lw_ld hX hl5 hi (k := 1) (by decide) (by omega) rfl rfl rfl rfl rfl (fun y2 hy2 => ?_)
  have ey2 : y2 = y1 := by
    have := hy2.symm.trans hy1
    cases this
    rfl
  rw [ey2]
  obtain ⟨ns, n1, -, -⟩ := hI_f hS1.1 (show tb_G 190 = some (.inl (12, _)) from rfl)
  refine okb_cv0 (mj := 282) (as := [.inl (.inl y1)]) (T := []) rfl rfl n1 rfl rfl rfl (ok_pa (rm_norm (some X) (show cx_ok (tb_P (some X)) tb_G (rf_G 0) trk_140 from tr_yes (some X) 140 (by decide) 0) hS1 (vs := [.inr (.inl (some 190)), .inl (.inl y1)]) ⟨rfl, at_any y1, trivial⟩ rfl rfl rfl rfl rfl rfl rfl) (fun N' => q_m_heirs (hWx N') C1 hmx _ (lo_ar _ 0))) (fun o C2 hq => ?_)
  obtain ⟨⟨hE, hS2⟩, M2, hm2, w2, rfl, hR⟩ := hq
  refine ⟨_, rfl, ?_⟩
  show okb (tb_P (some X)) N 0 953 _ [.inl (.inl w2)] C2 K
  refine okb_p rfl rfl rfl ?_
  have hl6 := lw_L_s hl5 (j := 6) (by decide) (.inl (.inl w2))
  revert hl6
  generalize ea_s1 cl5 6 (.inl (.inl w2)) = cl6
  intro hl6
  refine okb_p rfl rfl rfl ?_
  exact next _ C2 ⟨_, _, hS2⟩ ⟨M2, hm2, CP_le hR (by omega)⟩ hl6
set_option maxRecDepth 20000 in
set_option maxHeartbeats 1000000 in
theorem lc_23 (hX : lw_X X) (hS : lt_S s h s h C) (hM : LM B C) (hB : 0 ≤ B ∧ B ≤ 28000) (hl : lw_L cl i) (hi : i.toInt = (iN : Int)) (hlen : iN + 6 ≤ X.length) (next : ∀ cl' C', (∃ s h, lt_S s h s h C') → LM (B + 50) C' → lw_L cl' i → okb (tb_P (some X)) N 0 1725 cl' [] C' K) : okb (tb_P (some X)) (1 + N) 0 958 cl [] C K := by
  refine okb_an rfl hl.2.1 rfl ?_
  refine lw_ld hX hl hi (k := 1) (by decide) (by omega) rfl rfl rfl rfl rfl (fun y1 hy1 => ?_)
  refine lw_ld hX hl hi (k := 2) (by decide) (by omega) rfl rfl rfl rfl rfl (fun y2 hy2 => ?_)
  refine okb_an rfl hl.2.2.2.1 rfl ?_
  obtain ⟨M, hm, hCP⟩ := hM
  refine okb_cs (N := N) (N' := 1) (mj := 343) (as := [.inr (.inl (some 0)), .inl (.inl y1), .inl (.inl y2), .inr (.inl (some 215))]) (T := []) rfl rfl rfl rfl (okb_post (wz_risk (some X) hS (ok_pa (cm_norm (some X) (show cn_ok (tb_P (some X)) tb_G tk_174 from tk_yes (some X) 174 (by decide)) (vs := [.inr (.inl (some 0)), .inl (.inl y1), .inl (.inl y2)]) ⟨rfl, at_any y1, at_any y2, trivial⟩ hS.1 rfl rfl rfl rfl) (jc_risk hm hCP))) (fun o C1 hq => ?_))
  obtain ⟨hS1, w, rfl, hZ⟩ := hq
  rw [hS.2.2.2.1, hS.2.2.2.2.1] at hS1
  show okb (tb_P (some X)) N 0 975 _ [.inl (.inl w)] C1 K
  obtain ⟨Mx, hmx, hCx⟩ := wz_w hZ
  have hWx : ∀ N', W_m_risk y1 y2 N' Mx (fun _ M2 => CP B M2) := fun N' => fm_risk hCx
  refine okb_p rfl rfl rfl ?_
  have hl5 := lw_L_s hl (j := 5) (by decide) (.inl (.inl w))
  revert hl5
  generalize ea_s1 cl 5 (.inl (.inl w)) = cl5
  intro hl5
  refine okb_an rfl hl5.2.2.1 rfl ?_
  refine lw_ld hX hl5 hi (k := 1) (by decide) (by omega) rfl rfl rfl rfl rfl (fun y3 hy3 => ?_)
  have ey3 : y3 = y1 := by
    have := hy3.symm.trans hy1
    cases this
    rfl
  rw [ey3]
  refine lw_ld hX hl5 hi (k := 2) (by decide) (by omega) rfl rfl rfl rfl rfl (fun y4 hy4 => ?_)
  have ey4 : y4 = y2 := by
    have := hy4.symm.trans hy2
    cases this
    rfl
  rw [ey4]
  obtain ⟨ns, n1, -, -⟩ := hI_f hS1.1 (show tb_G 190 = some (.inl (12, _)) from rfl)
  refine okb_cv0 (mj := 285) (as := [.inl (.inl y1), .inl (.inl y2)]) (T := []) rfl rfl n1 rfl rfl rfl (ok_pa (rm_norm (some X) (show cx_ok (tb_P (some X)) tb_G (rf_G 0) trk_142 from tr_yes (some X) 142 (by decide) 0) hS1 (vs := [.inr (.inl (some 190)), .inl (.inl y1), .inl (.inl y2)]) ⟨rfl, at_any y1, at_any y2, trivial⟩ rfl rfl rfl rfl rfl rfl rfl) (fun N' => q_m_risk (hWx N') C1 hmx _ (lo_ar _ 0))) (fun o C2 hq => ?_)
  obtain ⟨⟨hE, hS2⟩, M2, hm2, w2, rfl, hR⟩ := hq
  refine ⟨_, rfl, ?_⟩
  show okb (tb_P (some X)) N 0 993 _ [.inl (.inl w2)] C2 K
  refine okb_p rfl rfl rfl ?_
  have hl6 := lw_L_s hl5 (j := 6) (by decide) (.inl (.inl w2))
  revert hl6
  generalize ea_s1 cl5 6 (.inl (.inl w2)) = cl6
  intro hl6
  refine okb_p rfl rfl rfl ?_
  exact next _ C2 ⟨_, _, hS2⟩ ⟨M2, hm2, CP_le hR (by omega)⟩ hl6
set_option maxRecDepth 20000 in
set_option maxHeartbeats 1000000 in
theorem lc_24 (hX : lw_X X) (hS : lt_S s h s h C) (hM : LM B C) (hB : 0 ≤ B ∧ B ≤ 28000) (hl : lw_L cl i) (hi : i.toInt = (iN : Int)) (hlen : iN + 6 ≤ X.length) (next : ∀ cl' C', (∃ s h, lt_S s h s h C') → LM (B + 50) C' → lw_L cl' i → okb (tb_P (some X)) N 0 1725 cl' [] C' K) : okb (tb_P (some X)) (1 + N) 0 998 cl [] C K := by
  refine okb_an rfl hl.2.1 rfl ?_
  refine lw_ld hX hl hi (k := 1) (by decide) (by omega) rfl rfl rfl rfl rfl (fun y1 hy1 => ?_)
  refine lw_ld hX hl hi (k := 2) (by decide) (by omega) rfl rfl rfl rfl rfl (fun y2 hy2 => ?_)
  refine okb_an rfl hl.2.2.2.1 rfl ?_
  obtain ⟨M, hm, hCP⟩ := hM
  refine okb_cs (N := N) (N' := 1) (mj := 344) (as := [.inr (.inl (some 0)), .inl (.inl y1), .inl (.inl y2), .inr (.inl (some 215))]) (T := []) rfl rfl rfl rfl (okb_post (wz_safe (some X) hS (ok_pa (cm_norm (some X) (show cn_ok (tb_P (some X)) tb_G tk_175 from tk_yes (some X) 175 (by decide)) (vs := [.inr (.inl (some 0)), .inl (.inl y1), .inl (.inl y2)]) ⟨rfl, at_any y1, at_any y2, trivial⟩ hS.1 rfl rfl rfl rfl) (jc_safe hm hCP))) (fun o C1 hq => ?_))
  obtain ⟨hS1, w, rfl, hZ⟩ := hq
  rw [hS.2.2.2.1, hS.2.2.2.2.1] at hS1
  show okb (tb_P (some X)) N 0 1015 _ [.inl (.inl w)] C1 K
  obtain ⟨Mx, hmx, hCx⟩ := wz_w hZ
  have hWx : ∀ N', W_m_safe y1 y2 N' Mx (fun _ M2 => CP B M2) := fun N' => fm_safe hCx
  refine okb_p rfl rfl rfl ?_
  have hl5 := lw_L_s hl (j := 5) (by decide) (.inl (.inl w))
  revert hl5
  generalize ea_s1 cl 5 (.inl (.inl w)) = cl5
  intro hl5
  refine okb_an rfl hl5.2.2.1 rfl ?_
  refine lw_ld hX hl5 hi (k := 1) (by decide) (by omega) rfl rfl rfl rfl rfl (fun y3 hy3 => ?_)
  have ey3 : y3 = y1 := by
    have := hy3.symm.trans hy1
    cases this
    rfl
  rw [ey3]
  refine lw_ld hX hl5 hi (k := 2) (by decide) (by omega) rfl rfl rfl rfl rfl (fun y4 hy4 => ?_)
  have ey4 : y4 = y2 := by
    have := hy4.symm.trans hy2
    cases this
    rfl
  rw [ey4]
  obtain ⟨ns, n1, -, -⟩ := hI_f hS1.1 (show tb_G 190 = some (.inl (12, _)) from rfl)
  refine okb_cv0 (mj := 286) (as := [.inl (.inl y1), .inl (.inl y2)]) (T := []) rfl rfl n1 rfl rfl rfl (ok_pa (rm_norm (some X) (show cx_ok (tb_P (some X)) tb_G (rf_G 0) trk_143 from tr_yes (some X) 143 (by decide) 0) hS1 (vs := [.inr (.inl (some 190)), .inl (.inl y1), .inl (.inl y2)]) ⟨rfl, at_any y1, at_any y2, trivial⟩ rfl rfl rfl rfl rfl rfl rfl) (fun N' => q_m_safe (hWx N') C1 hmx _ (lo_ar _ 0))) (fun o C2 hq => ?_)
  obtain ⟨⟨hE, hS2⟩, M2, hm2, w2, rfl, hR⟩ := hq
  refine ⟨_, rfl, ?_⟩
  show okb (tb_P (some X)) N 0 1033 _ [.inl (.inl w2)] C2 K
  refine okb_p rfl rfl rfl ?_
  have hl6 := lw_L_s hl5 (j := 6) (by decide) (.inl (.inl w2))
  revert hl6
  generalize ea_s1 cl5 6 (.inl (.inl w2)) = cl6
  intro hl6
  refine okb_p rfl rfl rfl ?_
  exact next _ C2 ⟨_, _, hS2⟩ ⟨M2, hm2, CP_le hR (by omega)⟩ hl6
set_option maxRecDepth 20000 in
set_option maxHeartbeats 1000000 in
theorem lc_25 (hX : lw_X X) (hS : lt_S s h s h C) (hM : LM B C) (hB : 0 ≤ B ∧ B ≤ 28000) (hl : lw_L cl i) (hi : i.toInt = (iN : Int)) (hlen : iN + 6 ≤ X.length) (next : ∀ cl' C', (∃ s h, lt_S s h s h C') → LM (B + 50) C' → lw_L cl' i → okb (tb_P (some X)) N 0 1725 cl' [] C' K) : okb (tb_P (some X)) (1 + N) 0 1038 cl [] C K := by
  refine okb_an rfl hl.2.1 rfl ?_
  refine lw_ld hX hl hi (k := 1) (by decide) (by omega) rfl rfl rfl rfl rfl (fun y1 hy1 => ?_)
  refine lw_ld hX hl hi (k := 2) (by decide) (by omega) rfl rfl rfl rfl rfl (fun y2 hy2 => ?_)
  refine okb_an rfl hl.2.2.2.1 rfl ?_
  obtain ⟨M, hm, hCP⟩ := hM
  refine okb_cs (N := N) (N' := 1) (mj := 345) (as := [.inr (.inl (some 0)), .inl (.inl y1), .inl (.inl y2), .inr (.inl (some 215))]) (T := []) rfl rfl rfl rfl (okb_post (wz_better (some X) hS (ok_pa (cm_norm (some X) (show cn_ok (tb_P (some X)) tb_G tk_176 from tk_yes (some X) 176 (by decide)) (vs := [.inr (.inl (some 0)), .inl (.inl y1), .inl (.inl y2)]) ⟨rfl, at_any y1, at_any y2, trivial⟩ hS.1 rfl rfl rfl rfl) (jc_better hm hCP))) (fun o C1 hq => ?_))
  obtain ⟨hS1, w, rfl, hZ⟩ := hq
  rw [hS.2.2.2.1, hS.2.2.2.2.1] at hS1
  show okb (tb_P (some X)) N 0 1055 _ [.inl (.inl w)] C1 K
  obtain ⟨Mx, hmx, hCx⟩ := wz_w hZ
  have hWx : ∀ N', W_m_better y1 y2 N' Mx (fun _ M2 => CP B M2) := fun N' => fm_better hCx
  refine okb_p rfl rfl rfl ?_
  have hl5 := lw_L_s hl (j := 5) (by decide) (.inl (.inl w))
  revert hl5
  generalize ea_s1 cl 5 (.inl (.inl w)) = cl5
  intro hl5
  refine okb_an rfl hl5.2.2.1 rfl ?_
  refine lw_ld hX hl5 hi (k := 1) (by decide) (by omega) rfl rfl rfl rfl rfl (fun y3 hy3 => ?_)
  have ey3 : y3 = y1 := by
    have := hy3.symm.trans hy1
    cases this
    rfl
  rw [ey3]
  refine lw_ld hX hl5 hi (k := 2) (by decide) (by omega) rfl rfl rfl rfl rfl (fun y4 hy4 => ?_)
  have ey4 : y4 = y2 := by
    have := hy4.symm.trans hy2
    cases this
    rfl
  rw [ey4]
  obtain ⟨ns, n1, -, -⟩ := hI_f hS1.1 (show tb_G 190 = some (.inl (12, _)) from rfl)
  refine okb_cv0 (mj := 287) (as := [.inl (.inl y1), .inl (.inl y2)]) (T := []) rfl rfl n1 rfl rfl rfl (ok_pa (rm_norm (some X) (show cx_ok (tb_P (some X)) tb_G (rf_G 0) trk_144 from tr_yes (some X) 144 (by decide) 0) hS1 (vs := [.inr (.inl (some 190)), .inl (.inl y1), .inl (.inl y2)]) ⟨rfl, at_any y1, at_any y2, trivial⟩ rfl rfl rfl rfl rfl rfl rfl) (fun N' => q_m_better (hWx N') C1 hmx _ (lo_ar _ 0))) (fun o C2 hq => ?_)
  obtain ⟨⟨hE, hS2⟩, M2, hm2, w2, rfl, hR⟩ := hq
  refine ⟨_, rfl, ?_⟩
  show okb (tb_P (some X)) N 0 1073 _ [.inl (.inl w2)] C2 K
  refine okb_p rfl rfl rfl ?_
  have hl6 := lw_L_s hl5 (j := 6) (by decide) (.inl (.inl w2))
  revert hl6
  generalize ea_s1 cl5 6 (.inl (.inl w2)) = cl6
  intro hl6
  refine okb_p rfl rfl rfl ?_
  exact next _ C2 ⟨_, _, hS2⟩ ⟨M2, hm2, CP_le hR (by omega)⟩ hl6
set_option maxRecDepth 20000 in
set_option maxHeartbeats 1000000 in
theorem lc_26 (hX : lw_X X) (hS : lt_S s h s h C) (hM : LM B C) (hB : 0 ≤ B ∧ B ≤ 28000) (hl : lw_L cl i) (hi : i.toInt = (iN : Int)) (hlen : iN + 6 ≤ X.length) (next : ∀ cl' C', (∃ s h, lt_S s h s h C') → LM (B + 50) C' → lw_L cl' i → okb (tb_P (some X)) N 0 1725 cl' [] C' K) : okb (tb_P (some X)) (1 + N) 0 1078 cl [] C K := by
  refine okb_an rfl hl.2.1 rfl ?_
  refine lw_ld hX hl hi (k := 1) (by decide) (by omega) rfl rfl rfl rfl rfl (fun y1 hy1 => ?_)
  refine lw_ld hX hl hi (k := 2) (by decide) (by omega) rfl rfl rfl rfl rfl (fun y2 hy2 => ?_)
  refine lw_bq rfl rfl rfl rfl rfl rfl (fun by2 hby2 => ?_)
  refine okb_an rfl hl.2.2.2.1 rfl ?_
  obtain ⟨M, hm, hCP⟩ := hM
  refine okb_cs (N := N) (N' := 1) (mj := 346) (as := [.inr (.inl (some 0)), .inl (.inl y1), .inl (.inl by2), .inr (.inl (some 215))]) (T := []) rfl rfl rfl rfl (okb_post (wz_telling (some X) hS (ok_pa (cm_norm (some X) (show cn_ok (tb_P (some X)) tb_G tk_177 from tk_yes (some X) 177 (by decide)) (vs := [.inr (.inl (some 0)), .inl (.inl y1), .inl (.inl by2)]) ⟨rfl, at_any y1, at_bo (bq_o hby2), trivial⟩ hS.1 rfl rfl rfl rfl) (jc_telling hm hCP))) (fun o C1 hq => ?_))
  obtain ⟨hS1, w, rfl, hZ⟩ := hq
  rw [hS.2.2.2.1, hS.2.2.2.2.1] at hS1
  show okb (tb_P (some X)) N 0 1103 _ [.inl (.inl w)] C1 K
  obtain ⟨Mx, hmx, hCx⟩ := wz_w hZ
  have hWx : ∀ N', W_m_telling y1 by2 N' Mx (fun _ M2 => CP B M2) := fun N' => fm_telling hCx
  refine okb_p rfl rfl rfl ?_
  have hl5 := lw_L_s hl (j := 5) (by decide) (.inl (.inl w))
  revert hl5
  generalize ea_s1 cl 5 (.inl (.inl w)) = cl5
  intro hl5
  refine okb_an rfl hl5.2.2.1 rfl ?_
  refine lw_ld hX hl5 hi (k := 1) (by decide) (by omega) rfl rfl rfl rfl rfl (fun y3 hy3 => ?_)
  have ey3 : y3 = y1 := by
    have := hy3.symm.trans hy1
    cases this
    rfl
  rw [ey3]
  refine lw_ld hX hl5 hi (k := 2) (by decide) (by omega) rfl rfl rfl rfl rfl (fun y4 hy4 => ?_)
  have ey4 : y4 = y2 := by
    have := hy4.symm.trans hy2
    cases this
    rfl
  rw [ey4]
  refine lw_bq rfl rfl rfl rfl rfl rfl (fun cy2 hcy2 => ?_)
  have ecy2 : cy2 = by2 := hcy2.trans hby2.symm
  rw [ecy2]
  obtain ⟨ns, n1, -, -⟩ := hI_f hS1.1 (show tb_G 190 = some (.inl (12, _)) from rfl)
  refine okb_cv0 (mj := 288) (as := [.inl (.inl y1), .inl (.inl by2)]) (T := []) rfl rfl n1 rfl rfl rfl (ok_pa (rm_norm (some X) (show cx_ok (tb_P (some X)) tb_G (rf_G 0) trk_145 from tr_yes (some X) 145 (by decide) 0) hS1 (vs := [.inr (.inl (some 190)), .inl (.inl y1), .inl (.inl by2)]) ⟨rfl, at_any y1, at_bo (bq_o hby2), trivial⟩ rfl rfl rfl rfl rfl rfl rfl) (fun N' => q_m_telling (hWx N') C1 hmx _ (lo_ar _ 0))) (fun o C2 hq => ?_)
  obtain ⟨⟨hE, hS2⟩, M2, hm2, w2, rfl, hR⟩ := hq
  refine ⟨_, rfl, ?_⟩
  show okb (tb_P (some X)) N 0 1129 _ [.inl (.inl w2)] C2 K
  refine okb_p rfl rfl rfl ?_
  have hl6 := lw_L_s hl5 (j := 6) (by decide) (.inl (.inl w2))
  revert hl6
  generalize ea_s1 cl5 6 (.inl (.inl w2)) = cl6
  intro hl6
  refine okb_p rfl rfl rfl ?_
  exact next _ C2 ⟨_, _, hS2⟩ ⟨M2, hm2, CP_le hR (by omega)⟩ hl6
set_option maxRecDepth 20000 in
set_option maxHeartbeats 1000000 in
theorem lc_27 (hX : lw_X X) (hS : lt_S s h s h C) (hM : LM B C) (hB : 0 ≤ B ∧ B ≤ 28000) (hl : lw_L cl i) (hi : i.toInt = (iN : Int)) (hlen : iN + 6 ≤ X.length) (next : ∀ cl' C', (∃ s h, lt_S s h s h C') → LM (B + 50) C' → lw_L cl' i → okb (tb_P (some X)) N 0 1725 cl' [] C' K) : okb (tb_P (some X)) (1 + N) 0 1134 cl [] C K := by
  refine okb_an rfl hl.2.1 rfl ?_
  refine lw_ld hX hl hi (k := 1) (by decide) (by omega) rfl rfl rfl rfl rfl (fun y1 hy1 => ?_)
  refine okb_an rfl hl.2.2.2.1 rfl ?_
  obtain ⟨M, hm, hCP⟩ := hM
  refine okb_cs (N := N) (N' := 1) (mj := 347) (as := [.inr (.inl (some 0)), .inl (.inl y1), .inr (.inl (some 215))]) (T := []) rfl rfl rfl rfl (okb_post (wz_deduced (some X) hS (ok_pa (cm_norm (some X) (show cn_ok (tb_P (some X)) tb_G tk_178 from tk_yes (some X) 178 (by decide)) (vs := [.inr (.inl (some 0)), .inl (.inl y1)]) ⟨rfl, at_any y1, trivial⟩ hS.1 rfl rfl rfl rfl) (jc_deduced hm hCP))) (fun o C1 hq => ?_))
  obtain ⟨hS1, w, rfl, hZ⟩ := hq
  rw [hS.2.2.2.1, hS.2.2.2.2.1] at hS1
  show okb (tb_P (some X)) N 0 1145 _ [.inl (.inl w)] C1 K
  obtain ⟨Mx, hmx, hCx⟩ := wz_w hZ
  have hWx : ∀ N', W_m_deduced y1 N' Mx (fun _ M2 => CP B M2) := fun N' => fm_deduced hCx
  refine okb_p rfl rfl rfl ?_
  have hl5 := lw_L_s hl (j := 5) (by decide) (.inl (.inl w))
  revert hl5
  generalize ea_s1 cl 5 (.inl (.inl w)) = cl5
  intro hl5
  refine okb_an rfl hl5.2.2.1 rfl ?_
  refine lw_ld hX hl5 hi (k := 1) (by decide) (by omega) rfl rfl rfl rfl rfl (fun y2 hy2 => ?_)
  have ey2 : y2 = y1 := by
    have := hy2.symm.trans hy1
    cases this
    rfl
  rw [ey2]
  obtain ⟨ns, n1, -, -⟩ := hI_f hS1.1 (show tb_G 190 = some (.inl (12, _)) from rfl)
  refine okb_cv0 (mj := 289) (as := [.inl (.inl y1)]) (T := []) rfl rfl n1 rfl rfl rfl (ok_pa (rm_norm (some X) (show cx_ok (tb_P (some X)) tb_G (rf_G 0) trk_146 from tr_yes (some X) 146 (by decide) 0) hS1 (vs := [.inr (.inl (some 190)), .inl (.inl y1)]) ⟨rfl, at_any y1, trivial⟩ rfl rfl rfl rfl rfl rfl rfl) (fun N' => q_m_deduced (hWx N') C1 hmx _ (lo_ar _ 0))) (fun o C2 hq => ?_)
  obtain ⟨⟨hE, hS2⟩, M2, hm2, w2, rfl, hR⟩ := hq
  refine ⟨_, rfl, ?_⟩
  show okb (tb_P (some X)) N 0 1157 _ [.inl (.inl w2)] C2 K
  refine okb_p rfl rfl rfl ?_
  have hl6 := lw_L_s hl5 (j := 6) (by decide) (.inl (.inl w2))
  revert hl6
  generalize ea_s1 cl5 6 (.inl (.inl w2)) = cl6
  intro hl6
  refine okb_p rfl rfl rfl ?_
  exact next _ C2 ⟨_, _, hS2⟩ ⟨M2, hm2, CP_le hR (by omega)⟩ hl6
set_option maxRecDepth 20000 in
set_option maxHeartbeats 1000000 in
theorem lc_28 (hX : lw_X X) (hS : lt_S s h s h C) (hM : LM B C) (hB : 0 ≤ B ∧ B ≤ 28000) (hl : lw_L cl i) (hi : i.toInt = (iN : Int)) (hlen : iN + 6 ≤ X.length) (next : ∀ cl' C', (∃ s h, lt_S s h s h C') → LM (B + 50) C' → lw_L cl' i → okb (tb_P (some X)) N 0 1725 cl' [] C' K) : okb (tb_P (some X)) (1 + N) 0 1162 cl [] C K := by
  refine okb_an rfl hl.2.1 rfl ?_
  refine lw_ld hX hl hi (k := 1) (by decide) (by omega) rfl rfl rfl rfl rfl (fun y1 hy1 => ?_)
  refine okb_an rfl hl.2.2.2.1 rfl ?_
  obtain ⟨M, hm, hCP⟩ := hM
  refine okb_cs (N := N) (N' := 1) (mj := 348) (as := [.inr (.inl (some 0)), .inl (.inl y1), .inr (.inl (some 215))]) (T := []) rfl rfl rfl rfl (okb_post (wz_hush (some X) hS (ok_pa (cm_norm (some X) (show cn_ok (tb_P (some X)) tb_G tk_179 from tk_yes (some X) 179 (by decide)) (vs := [.inr (.inl (some 0)), .inl (.inl y1)]) ⟨rfl, at_any y1, trivial⟩ hS.1 rfl rfl rfl rfl) (jc_hush hm hCP))) (fun o C1 hq => ?_))
  obtain ⟨hS1, w, rfl, hZ⟩ := hq
  rw [hS.2.2.2.1, hS.2.2.2.2.1] at hS1
  show okb (tb_P (some X)) N 0 1173 _ [.inl (.inl w)] C1 K
  obtain ⟨Mx, hmx, hCx⟩ := wz_w hZ
  have hWx : ∀ N', W_m_hush y1 N' Mx (fun _ M2 => CP B M2) := fun N' => fm_hush hCx
  refine okb_p rfl rfl rfl ?_
  have hl5 := lw_L_s hl (j := 5) (by decide) (.inl (.inl w))
  revert hl5
  generalize ea_s1 cl 5 (.inl (.inl w)) = cl5
  intro hl5
  refine okb_an rfl hl5.2.2.1 rfl ?_
  refine lw_ld hX hl5 hi (k := 1) (by decide) (by omega) rfl rfl rfl rfl rfl (fun y2 hy2 => ?_)
  have ey2 : y2 = y1 := by
    have := hy2.symm.trans hy1
    cases this
    rfl
  rw [ey2]
  obtain ⟨ns, n1, -, -⟩ := hI_f hS1.1 (show tb_G 190 = some (.inl (12, _)) from rfl)
  refine okb_cv0 (mj := 290) (as := [.inl (.inl y1)]) (T := []) rfl rfl n1 rfl rfl rfl (ok_pa (rm_norm (some X) (show cx_ok (tb_P (some X)) tb_G (rf_G 0) trk_147 from tr_yes (some X) 147 (by decide) 0) hS1 (vs := [.inr (.inl (some 190)), .inl (.inl y1)]) ⟨rfl, at_any y1, trivial⟩ rfl rfl rfl rfl rfl rfl rfl) (fun N' => q_m_hush (hWx N') C1 hmx _ (lo_ar _ 0))) (fun o C2 hq => ?_)
  obtain ⟨⟨hE, hS2⟩, M2, hm2, w2, rfl, hR⟩ := hq
  refine ⟨_, rfl, ?_⟩
  show okb (tb_P (some X)) N 0 1185 _ [.inl (.inl w2)] C2 K
  refine okb_p rfl rfl rfl ?_
  have hl6 := lw_L_s hl5 (j := 6) (by decide) (.inl (.inl w2))
  revert hl6
  generalize ea_s1 cl5 6 (.inl (.inl w2)) = cl6
  intro hl6
  refine okb_p rfl rfl rfl ?_
  exact next _ C2 ⟨_, _, hS2⟩ ⟨M2, hm2, CP_le hR (by omega)⟩ hl6
set_option maxRecDepth 20000 in
set_option maxHeartbeats 1000000 in
theorem lc_29 (hX : lw_X X) (hS : lt_S s h s h C) (hM : LM B C) (hB : 0 ≤ B ∧ B ≤ 28000) (hl : lw_L cl i) (hi : i.toInt = (iN : Int)) (hlen : iN + 6 ≤ X.length) (next : ∀ cl' C', (∃ s h, lt_S s h s h C') → LM (B + 50) C' → lw_L cl' i → okb (tb_P (some X)) N 0 1725 cl' [] C' K) : okb (tb_P (some X)) (1 + N) 0 1190 cl [] C K := by
  refine okb_an rfl hl.2.1 rfl ?_
  refine lw_ld hX hl hi (k := 1) (by decide) (by omega) rfl rfl rfl rfl rfl (fun y1 hy1 => ?_)
  refine okb_an rfl hl.2.2.2.1 rfl ?_
  obtain ⟨M, hm, hCP⟩ := hM
  refine okb_cs (N := N) (N' := 1) (mj := 349) (as := [.inr (.inl (some 0)), .inl (.inl y1), .inr (.inl (some 215))]) (T := []) rfl rfl rfl rfl (okb_post (wz_usual (some X) hS (ok_pa (cm_norm (some X) (show cn_ok (tb_P (some X)) tb_G tk_180 from tk_yes (some X) 180 (by decide)) (vs := [.inr (.inl (some 0)), .inl (.inl y1)]) ⟨rfl, at_any y1, trivial⟩ hS.1 rfl rfl rfl rfl) (jc_usual hm hCP))) (fun o C1 hq => ?_))
  obtain ⟨hS1, w, rfl, hZ⟩ := hq
  rw [hS.2.2.2.1, hS.2.2.2.2.1] at hS1
  show okb (tb_P (some X)) N 0 1201 _ [.inl (.inl w)] C1 K
  obtain ⟨Mx, hmx, hCx⟩ := wz_w hZ
  have hWx : ∀ N', W_m_usual y1 N' Mx (fun _ M2 => CP B M2) := fun N' => fm_usual hCx
  refine okb_p rfl rfl rfl ?_
  have hl5 := lw_L_s hl (j := 5) (by decide) (.inl (.inl w))
  revert hl5
  generalize ea_s1 cl 5 (.inl (.inl w)) = cl5
  intro hl5
  refine okb_an rfl hl5.2.2.1 rfl ?_
  refine lw_ld hX hl5 hi (k := 1) (by decide) (by omega) rfl rfl rfl rfl rfl (fun y2 hy2 => ?_)
  have ey2 : y2 = y1 := by
    have := hy2.symm.trans hy1
    cases this
    rfl
  rw [ey2]
  obtain ⟨ns, n1, -, -⟩ := hI_f hS1.1 (show tb_G 190 = some (.inl (12, _)) from rfl)
  refine okb_cv0 (mj := 291) (as := [.inl (.inl y1)]) (T := []) rfl rfl n1 rfl rfl rfl (ok_pa (rm_norm (some X) (show cx_ok (tb_P (some X)) tb_G (rf_G 0) trk_148 from tr_yes (some X) 148 (by decide) 0) hS1 (vs := [.inr (.inl (some 190)), .inl (.inl y1)]) ⟨rfl, at_any y1, trivial⟩ rfl rfl rfl rfl rfl rfl rfl) (fun N' => q_m_usual (hWx N') C1 hmx _ (lo_ar _ 0))) (fun o C2 hq => ?_)
  obtain ⟨⟨hE, hS2⟩, M2, hm2, w2, rfl, hR⟩ := hq
  refine ⟨_, rfl, ?_⟩
  show okb (tb_P (some X)) N 0 1213 _ [.inl (.inl w2)] C2 K
  refine okb_p rfl rfl rfl ?_
  have hl6 := lw_L_s hl5 (j := 6) (by decide) (.inl (.inl w2))
  revert hl6
  generalize ea_s1 cl5 6 (.inl (.inl w2)) = cl6
  intro hl6
  refine okb_p rfl rfl rfl ?_
  exact next _ C2 ⟨_, _, hS2⟩ ⟨M2, hm2, CP_le hR (by omega)⟩ hl6
set_option maxRecDepth 20000 in
set_option maxHeartbeats 1000000 in
theorem lc_30 (hX : lw_X X) (hS : lt_S s h s h C) (hM : LM B C) (hB : 0 ≤ B ∧ B ≤ 28000) (hl : lw_L cl i) (hi : i.toInt = (iN : Int)) (hlen : iN + 6 ≤ X.length) (next : ∀ cl' C', (∃ s h, lt_S s h s h C') → LM (B + 50) C' → lw_L cl' i → okb (tb_P (some X)) N 0 1725 cl' [] C' K) : okb (tb_P (some X)) (1 + N) 0 1218 cl [] C K := by
  refine okb_more (N := N) (by omega) ?_
  refine okb_an rfl hl.2.1 rfl ?_
  refine lw_ld hX hl hi (k := 1) (by decide) (by omega) rfl rfl rfl rfl rfl (fun y1 hy1 => ?_)
  refine lw_bq rfl rfl rfl rfl rfl rfl (fun by1 hby1 => ?_)
  obtain ⟨xs, x1, -, -⟩ := hI_f hS.1 (show tb_G 0 = some (.inl (11, _)) from rfl)
  obtain ⟨M, hm, hCP⟩ := hM
  refine okb_cv0 (mj := 161) (as := [.inl (.inl by1)]) (T := []) rfl rfl x1 rfl rfl rfl (ok_pa (cm_norm (some X) (show cn_ok (tb_P (some X)) tb_G tk_181 from tk_yes (some X) 181 (by decide)) (vs := [.inr (.inl (some 0)), .inl (.inl by1)]) ⟨rfl, at_bo (bq_o hby1), trivial⟩ hS.1 rfl rfl rfl rfl) (jc_feared hm hCP)) (fun o C1 hq => ?_)
  obtain ⟨⟨hP, hE⟩, M1, hm1, hJ⟩ := hq
  have hS1 := lt_cm hS hP
  rw [hS.2.2.2.1, hS.2.2.2.2.1] at hS1
  cases o with
  | inr ce => exact nomatch (show ce ∈ ([] : List Nat) from hE)
  | inl v =>
    obtain ⟨w, rfl⟩ := hE
    refine ⟨_, rfl, ?_⟩
    have hCx : CP B M1 := by
      rcases hJ with ⟨v, e, hY⟩ | ⟨ce, e, hY⟩
      · exact hY
      · exact hY
    have hWx : ∀ N', W_m_feared by1 N' M1 (fun _ M2 => CP B M2) := fun N' => fm_feared hCx
    have hmx := hm1
    show okb (tb_P (some X)) N 0 1236 _ [.inr (.inr (.inl (some w)))] C1 K
    refine okb_p rfl rfl rfl ?_
    refine okb_an rfl hl.2.2.1 rfl ?_
    refine lw_ld hX hl hi (k := 1) (by decide) (by omega) rfl rfl rfl rfl rfl (fun y2 hy2 => ?_)
    have ey2 : y2 = y1 := by
      have := hy2.symm.trans hy1
      cases this
      rfl
    rw [ey2]
    refine lw_bq rfl rfl rfl rfl rfl rfl (fun cy1 hcy1 => ?_)
    have ecy1 : cy1 = by1 := hcy1.trans hby1.symm
    rw [ecy1]
    obtain ⟨ns, n1, -, -⟩ := hI_f hS1.1 (show tb_G 190 = some (.inl (12, _)) from rfl)
    refine okb_cv0 (mj := 292) (as := [.inl (.inl by1)]) (T := []) rfl rfl n1 rfl rfl rfl (ok_pa (rm_norm (some X) (show cx_ok (tb_P (some X)) tb_G (rf_G 0) trk_149 from tr_yes (some X) 149 (by decide) 0) hS1 (vs := [.inr (.inl (some 190)), .inl (.inl by1)]) ⟨rfl, at_bo (bq_o hby1), trivial⟩ rfl rfl rfl rfl rfl rfl rfl) (fun N' => q_m_feared (hWx N') C1 hmx _ (lo_ar _ 0))) (fun o C2 hq => ?_)
    obtain ⟨⟨hE, hS2⟩, M2, hm2, w2, rfl, hR⟩ := hq
    refine ⟨_, rfl, ?_⟩
    show okb (tb_P (some X)) N 0 1255 _ [.inr (.inr (.inl (some w2)))] C2 K
    refine okb_p rfl rfl rfl ?_
    refine okb_p rfl rfl rfl ?_
    exact next _ C2 ⟨_, _, hS2⟩ ⟨M2, hm2, CP_le hR (by omega)⟩ hl
set_option maxRecDepth 20000 in
set_option maxHeartbeats 1000000 in
theorem lc_31 (hX : lw_X X) (hS : lt_S s h s h C) (hM : LM B C) (hB : 0 ≤ B ∧ B ≤ 28000) (hl : lw_L cl i) (hi : i.toInt = (iN : Int)) (hlen : iN + 6 ≤ X.length) (next : ∀ cl' C', (∃ s h, lt_S s h s h C') → LM (B + 50) C' → lw_L cl' i → okb (tb_P (some X)) N 0 1725 cl' [] C' K) : okb (tb_P (some X)) (1 + N) 0 1259 cl [] C K := by
  refine okb_an rfl hl.2.1 rfl ?_
  refine lw_ld hX hl hi (k := 1) (by decide) (by omega) rfl rfl rfl rfl rfl (fun y1 hy1 => ?_)
  refine okb_an rfl hl.2.2.2.1 rfl ?_
  obtain ⟨M, hm, hCP⟩ := hM
  refine okb_cs (N := N) (N' := 1) (mj := 350) (as := [.inr (.inl (some 0)), .inl (.inl y1), .inr (.inl (some 215))]) (T := []) rfl rfl rfl rfl (okb_post (wz_custom (some X) hS (ok_pa (cm_norm (some X) (show cn_ok (tb_P (some X)) tb_G tk_182 from tk_yes (some X) 182 (by decide)) (vs := [.inr (.inl (some 0)), .inl (.inl y1)]) ⟨rfl, at_any y1, trivial⟩ hS.1 rfl rfl rfl rfl) (jc_custom hm hCP))) (fun o C1 hq => ?_))
  obtain ⟨hS1, w, rfl, hZ⟩ := hq
  rw [hS.2.2.2.1, hS.2.2.2.2.1] at hS1
  show okb (tb_P (some X)) N 0 1270 _ [.inl (.inl w)] C1 K
  obtain ⟨Mx, hmx, hCx⟩ := wz_w hZ
  have hWx : ∀ N', W_m_custom y1 N' Mx (fun _ M2 => CP B M2) := fun N' => fm_custom hCx
  refine okb_p rfl rfl rfl ?_
  have hl5 := lw_L_s hl (j := 5) (by decide) (.inl (.inl w))
  revert hl5
  generalize ea_s1 cl 5 (.inl (.inl w)) = cl5
  intro hl5
  refine okb_an rfl hl5.2.2.1 rfl ?_
  refine lw_ld hX hl5 hi (k := 1) (by decide) (by omega) rfl rfl rfl rfl rfl (fun y2 hy2 => ?_)
  have ey2 : y2 = y1 := by
    have := hy2.symm.trans hy1
    cases this
    rfl
  rw [ey2]
  obtain ⟨ns, n1, -, -⟩ := hI_f hS1.1 (show tb_G 190 = some (.inl (12, _)) from rfl)
  refine okb_cv0 (mj := 296) (as := [.inl (.inl y1)]) (T := []) rfl rfl n1 rfl rfl rfl (ok_pa (rm_norm (some X) (show cx_ok (tb_P (some X)) tb_G (rf_G 0) trk_154 from tr_yes (some X) 154 (by decide) 0) hS1 (vs := [.inr (.inl (some 190)), .inl (.inl y1)]) ⟨rfl, at_any y1, trivial⟩ rfl rfl rfl rfl rfl rfl rfl) (fun N' => q_m_custom (hWx N') C1 hmx _ (lo_ar _ 0))) (fun o C2 hq => ?_)
  obtain ⟨⟨hE, hS2⟩, M2, hm2, w2, rfl, hR⟩ := hq
  refine ⟨_, rfl, ?_⟩
  show okb (tb_P (some X)) N 0 1282 _ [.inl (.inl w2)] C2 K
  refine okb_p rfl rfl rfl ?_
  have hl6 := lw_L_s hl5 (j := 6) (by decide) (.inl (.inl w2))
  revert hl6
  generalize ea_s1 cl5 6 (.inl (.inl w2)) = cl6
  intro hl6
  refine okb_p rfl rfl rfl ?_
  exact next _ C2 ⟨_, _, hS2⟩ ⟨M2, hm2, CP_le hR (by omega)⟩ hl6
set_option maxRecDepth 20000 in
set_option maxHeartbeats 1000000 in
theorem lc_32 (hX : lw_X X) (hS : lt_S s h s h C) (hM : LM B C) (hB : 0 ≤ B ∧ B ≤ 28000) (hl : lw_L cl i) (hi : i.toInt = (iN : Int)) (hlen : iN + 6 ≤ X.length) (next : ∀ cl' C', (∃ s h, lt_S s h s h C') → LM (B + 50) C' → lw_L cl' i → okb (tb_P (some X)) N 0 1725 cl' [] C' K) : okb (tb_P (some X)) (1 + N) 0 1287 cl [] C K := by
  refine okb_more (N := N) (by omega) ?_
  refine okb_an rfl hl.2.1 rfl ?_
  obtain ⟨xs, x1, -, -⟩ := hI_f hS.1 (show tb_G 0 = some (.inl (11, _)) from rfl)
  obtain ⟨M, hm, hCP⟩ := hM
  refine okb_cv0 (mj := 163) (as := []) (T := []) rfl rfl x1 rfl rfl rfl (ok_pa (cm_norm (some X) (show cn_ok (tb_P (some X)) tb_G tk_183 from tk_yes (some X) 183 (by decide)) (vs := [.inr (.inl (some 0))]) ⟨rfl, trivial⟩ hS.1 rfl rfl rfl rfl) (jc_settles hm hCP)) (fun o C1 hq => ?_)
  obtain ⟨⟨hP, hE⟩, M1, hm1, hJ⟩ := hq
  have hS1 := lt_cm hS hP
  rw [hS.2.2.2.1, hS.2.2.2.2.1] at hS1
  cases o with
  | inr ce => exact nomatch (show ce ∈ ([] : List Nat) from hE)
  | inl v =>
    obtain ⟨w, rfl⟩ := hE
    refine ⟨_, rfl, ?_⟩
    have hCx : CP B M1 := by
      rcases hJ with ⟨v, e, hY⟩ | ⟨ce, e, hY⟩
      · exact hY
      · exact hY
    have hWx : ∀ N', W_m_settles N' M1 (fun _ M2 => CP B M2) := fun N' => fm_settles hCx
    have hmx := hm1
    show okb (tb_P (some X)) N 0 1291 _ [.inl (.inl w)] C1 K
    refine okb_p rfl rfl rfl ?_
    refine okb_an rfl hl.2.2.1 rfl ?_
    obtain ⟨ns, n1, -, -⟩ := hI_f hS1.1 (show tb_G 190 = some (.inl (12, _)) from rfl)
    refine okb_cv0 (mj := 297) (as := []) (T := []) rfl rfl n1 rfl rfl rfl (ok_pa (rm_norm (some X) (show cx_ok (tb_P (some X)) tb_G (rf_G 0) trk_155 from tr_yes (some X) 155 (by decide) 0) hS1 (vs := [.inr (.inl (some 190))]) ⟨rfl, trivial⟩ rfl rfl rfl rfl rfl rfl rfl) (fun N' => q_m_settles (hWx N') C1 hmx _ (lo_ar _ 0))) (fun o C2 hq => ?_)
    obtain ⟨⟨hE, hS2⟩, M2, hm2, w2, rfl, hR⟩ := hq
    refine ⟨_, rfl, ?_⟩
    show okb (tb_P (some X)) N 0 1296 _ [.inl (.inl w2)] C2 K
    refine okb_p rfl rfl rfl ?_
    refine okb_p rfl rfl rfl ?_
    exact next _ C2 ⟨_, _, hS2⟩ ⟨M2, hm2, CP_le hR (by omega)⟩ hl
set_option maxRecDepth 20000 in
set_option maxHeartbeats 1000000 in
theorem lc_33 (hX : lw_X X) (hS : lt_S s h s h C) (hM : LM B C) (hB : 0 ≤ B ∧ B ≤ 28000) (hl : lw_L cl i) (hi : i.toInt = (iN : Int)) (hlen : iN + 6 ≤ X.length) (next : ∀ cl' C', (∃ s h, lt_S s h s h C') → LM (B + 50) C' → lw_L cl' i → okb (tb_P (some X)) N 0 1725 cl' [] C' K) : okb (tb_P (some X)) (1 + N) 0 1300 cl [] C K := by
  refine okb_an rfl hl.2.1 rfl ?_
  refine lw_ld hX hl hi (k := 1) (by decide) (by omega) rfl rfl rfl rfl rfl (fun y1 hy1 => ?_)
  refine lw_ld hX hl hi (k := 2) (by decide) (by omega) rfl rfl rfl rfl rfl (fun y2 hy2 => ?_)
  refine lw_bq rfl rfl rfl rfl rfl rfl (fun by2 hby2 => ?_)
  refine okb_an rfl hl.2.2.2.1 rfl ?_
  obtain ⟨M, hm, hCP⟩ := hM
  refine okb_cs (N := N) (N' := 1) (mj := 351) (as := [.inr (.inl (some 0)), .inl (.inl y1), .inl (.inl by2), .inr (.inl (some 215))]) (T := []) rfl rfl rfl rfl (okb_post (wz_provoked (some X) hS (ok_pa (cm_norm (some X) (show cn_ok (tb_P (some X)) tb_G tk_184 from tk_yes (some X) 184 (by decide)) (vs := [.inr (.inl (some 0)), .inl (.inl y1), .inl (.inl by2)]) ⟨rfl, at_any y1, at_bo (bq_o hby2), trivial⟩ hS.1 rfl rfl rfl rfl) (jc_provoked hm hCP))) (fun o C1 hq => ?_))
  obtain ⟨hS1, w, rfl, hZ⟩ := hq
  rw [hS.2.2.2.1, hS.2.2.2.2.1] at hS1
  show okb (tb_P (some X)) N 0 1325 _ [.inl (.inl w)] C1 K
  obtain ⟨Mx, hmx, hCx⟩ := wz_w hZ
  have hWx : ∀ N', W_m_provoked y1 by2 N' Mx (fun _ M2 => CP B M2) := fun N' => fm_provoked hCx
  refine okb_p rfl rfl rfl ?_
  have hl5 := lw_L_s hl (j := 5) (by decide) (.inl (.inl w))
  revert hl5
  generalize ea_s1 cl 5 (.inl (.inl w)) = cl5
  intro hl5
  refine okb_an rfl hl5.2.2.1 rfl ?_
  refine lw_ld hX hl5 hi (k := 1) (by decide) (by omega) rfl rfl rfl rfl rfl (fun y3 hy3 => ?_)
  have ey3 : y3 = y1 := by
    have := hy3.symm.trans hy1
    cases this
    rfl
  rw [ey3]
  refine lw_ld hX hl5 hi (k := 2) (by decide) (by omega) rfl rfl rfl rfl rfl (fun y4 hy4 => ?_)
  have ey4 : y4 = y2 := by
    have := hy4.symm.trans hy2
    cases this
    rfl
  rw [ey4]
  refine lw_bq rfl rfl rfl rfl rfl rfl (fun cy2 hcy2 => ?_)
  have ecy2 : cy2 = by2 := hcy2.trans hby2.symm
  rw [ecy2]
  obtain ⟨ns, n1, -, -⟩ := hI_f hS1.1 (show tb_G 190 = some (.inl (12, _)) from rfl)
  refine okb_cv0 (mj := 300) (as := [.inl (.inl y1), .inl (.inl by2)]) (T := []) rfl rfl n1 rfl rfl rfl (ok_pa (rm_norm (some X) (show cx_ok (tb_P (some X)) tb_G (rf_G 0) trk_158 from tr_yes (some X) 158 (by decide) 0) hS1 (vs := [.inr (.inl (some 190)), .inl (.inl y1), .inl (.inl by2)]) ⟨rfl, at_any y1, at_bo (bq_o hby2), trivial⟩ rfl rfl rfl rfl rfl rfl rfl) (fun N' => q_m_provoked (hWx N') C1 hmx _ (lo_ar _ 0))) (fun o C2 hq => ?_)
  obtain ⟨⟨hE, hS2⟩, M2, hm2, w2, rfl, hR⟩ := hq
  refine ⟨_, rfl, ?_⟩
  show okb (tb_P (some X)) N 0 1351 _ [.inl (.inl w2)] C2 K
  refine okb_p rfl rfl rfl ?_
  have hl6 := lw_L_s hl5 (j := 6) (by decide) (.inl (.inl w2))
  revert hl6
  generalize ea_s1 cl5 6 (.inl (.inl w2)) = cl6
  intro hl6
  refine okb_p rfl rfl rfl ?_
  exact next _ C2 ⟨_, _, hS2⟩ ⟨M2, hm2, CP_le hR (by omega)⟩ hl6
set_option maxRecDepth 20000 in
set_option maxHeartbeats 1000000 in
theorem lc_34 (hX : lw_X X) (hS : lt_S s h s h C) (hM : LM B C) (hB : 0 ≤ B ∧ B ≤ 28000) (hl : lw_L cl i) (hi : i.toInt = (iN : Int)) (hlen : iN + 6 ≤ X.length) (next : ∀ cl' C', (∃ s h, lt_S s h s h C') → LM (B + 50) C' → lw_L cl' i → okb (tb_P (some X)) N 0 1725 cl' [] C' K) : okb (tb_P (some X)) (1 + N) 0 1356 cl [] C K := by
  refine okb_an rfl hl.2.1 rfl ?_
  refine lw_ld hX hl hi (k := 1) (by decide) (by omega) rfl rfl rfl rfl rfl (fun y1 hy1 => ?_)
  refine lw_ld hX hl hi (k := 2) (by decide) (by omega) rfl rfl rfl rfl rfl (fun y2 hy2 => ?_)
  refine okb_an rfl hl.2.2.2.1 rfl ?_
  obtain ⟨M, hm, hCP⟩ := hM
  refine okb_cs (N := N) (N' := 1) (mj := 352) (as := [.inr (.inl (some 0)), .inl (.inl y1), .inl (.inl y2), .inr (.inl (some 215))]) (T := []) rfl rfl rfl rfl (okb_post (wz_crowd (some X) hS (ok_pa (cm_norm (some X) (show cn_ok (tb_P (some X)) tb_G tk_185 from tk_yes (some X) 185 (by decide)) (vs := [.inr (.inl (some 0)), .inl (.inl y1), .inl (.inl y2)]) ⟨rfl, at_any y1, at_any y2, trivial⟩ hS.1 rfl rfl rfl rfl) (jc_crowd hm hCP))) (fun o C1 hq => ?_))
  obtain ⟨hS1, w, rfl, hZ⟩ := hq
  rw [hS.2.2.2.1, hS.2.2.2.2.1] at hS1
  show okb (tb_P (some X)) N 0 1373 _ [.inl (.inl w)] C1 K
  obtain ⟨Mx, hmx, hCx⟩ := wz_w hZ
  have hWx : ∀ N', W_m_crowd y1 y2 N' Mx (fun _ M2 => CP B M2) := fun N' => fm_crowd hCx
  refine okb_p rfl rfl rfl ?_
  have hl5 := lw_L_s hl (j := 5) (by decide) (.inl (.inl w))
  revert hl5
  generalize ea_s1 cl 5 (.inl (.inl w)) = cl5
  intro hl5
  refine okb_an rfl hl5.2.2.1 rfl ?_
  refine lw_ld hX hl5 hi (k := 1) (by decide) (by omega) rfl rfl rfl rfl rfl (fun y3 hy3 => ?_)
  have ey3 : y3 = y1 := by
    have := hy3.symm.trans hy1
    cases this
    rfl
  rw [ey3]
  refine lw_ld hX hl5 hi (k := 2) (by decide) (by omega) rfl rfl rfl rfl rfl (fun y4 hy4 => ?_)
  have ey4 : y4 = y2 := by
    have := hy4.symm.trans hy2
    cases this
    rfl
  rw [ey4]
  obtain ⟨ns, n1, -, -⟩ := hI_f hS1.1 (show tb_G 190 = some (.inl (12, _)) from rfl)
  refine okb_cv0 (mj := 301) (as := [.inl (.inl y1), .inl (.inl y2)]) (T := []) rfl rfl n1 rfl rfl rfl (ok_pa (rm_norm (some X) (show cx_ok (tb_P (some X)) tb_G (rf_G 0) trk_159 from tr_yes (some X) 159 (by decide) 0) hS1 (vs := [.inr (.inl (some 190)), .inl (.inl y1), .inl (.inl y2)]) ⟨rfl, at_any y1, at_any y2, trivial⟩ rfl rfl rfl rfl rfl rfl rfl) (fun N' => q_m_crowd (hWx N') C1 hmx _ (lo_ar _ 0))) (fun o C2 hq => ?_)
  obtain ⟨⟨hE, hS2⟩, M2, hm2, w2, rfl, hR⟩ := hq
  refine ⟨_, rfl, ?_⟩
  show okb (tb_P (some X)) N 0 1391 _ [.inl (.inl w2)] C2 K
  refine okb_p rfl rfl rfl ?_
  have hl6 := lw_L_s hl5 (j := 6) (by decide) (.inl (.inl w2))
  revert hl6
  generalize ea_s1 cl5 6 (.inl (.inl w2)) = cl6
  intro hl6
  refine okb_p rfl rfl rfl ?_
  exact next _ C2 ⟨_, _, hS2⟩ ⟨M2, hm2, CP_le hR (by omega)⟩ hl6
set_option maxRecDepth 20000 in
set_option maxHeartbeats 1000000 in
theorem lc_35 (hX : lw_X X) (hS : lt_S s h s h C) (hM : LM B C) (hB : 0 ≤ B ∧ B ≤ 28000) (hl : lw_L cl i) (hi : i.toInt = (iN : Int)) (hlen : iN + 6 ≤ X.length) (next : ∀ cl' C', (∃ s h, lt_S s h s h C') → LM (B + 50) C' → lw_L cl' i → okb (tb_P (some X)) N 0 1725 cl' [] C' K) : okb (tb_P (some X)) (1 + N) 0 1396 cl [] C K := by
  refine okb_an rfl hl.2.1 rfl ?_
  refine lw_ld hX hl hi (k := 1) (by decide) (by omega) rfl rfl rfl rfl rfl (fun y1 hy1 => ?_)
  refine lw_ld hX hl hi (k := 2) (by decide) (by omega) rfl rfl rfl rfl rfl (fun y2 hy2 => ?_)
  refine lw_ld hX hl hi (k := 3) (by decide) (by omega) rfl rfl rfl rfl rfl (fun y3 hy3 => ?_)
  refine okb_an rfl hl.2.2.2.1 rfl ?_
  obtain ⟨M, hm, hCP⟩ := hM
  refine okb_cs (N := N) (N' := 1) (mj := 353) (as := [.inr (.inl (some 0)), .inl (.inl y1), .inl (.inl y2), .inl (.inl y3), .inr (.inl (some 215))]) (T := []) rfl rfl rfl rfl (okb_post (wz_witnesses (some X) hS (ok_pa (cm_norm (some X) (show cn_ok (tb_P (some X)) tb_G tk_186 from tk_yes (some X) 186 (by decide)) (vs := [.inr (.inl (some 0)), .inl (.inl y1), .inl (.inl y2), .inl (.inl y3)]) ⟨rfl, at_any y1, at_any y2, at_any y3, trivial⟩ hS.1 rfl rfl rfl rfl) (jc_witnesses hm hCP))) (fun o C1 hq => ?_))
  obtain ⟨hS1, w, rfl, hZ⟩ := hq
  rw [hS.2.2.2.1, hS.2.2.2.2.1] at hS1
  show okb (tb_P (some X)) N 0 1419 _ [.inl (.inl w)] C1 K
  obtain ⟨Mx, hmx, hCx⟩ := wz_w hZ
  have hWx : ∀ N', W_m_witnesses y1 y2 y3 N' Mx (fun _ M2 => CP B M2) := fun N' => fm_witnesses hCx
  refine okb_p rfl rfl rfl ?_
  have hl5 := lw_L_s hl (j := 5) (by decide) (.inl (.inl w))
  revert hl5
  generalize ea_s1 cl 5 (.inl (.inl w)) = cl5
  intro hl5
  refine okb_an rfl hl5.2.2.1 rfl ?_
  refine lw_ld hX hl5 hi (k := 1) (by decide) (by omega) rfl rfl rfl rfl rfl (fun y4 hy4 => ?_)
  have ey4 : y4 = y1 := by
    have := hy4.symm.trans hy1
    cases this
    rfl
  rw [ey4]
  refine lw_ld hX hl5 hi (k := 2) (by decide) (by omega) rfl rfl rfl rfl rfl (fun y5 hy5 => ?_)
  have ey5 : y5 = y2 := by
    have := hy5.symm.trans hy2
    cases this
    rfl
  rw [ey5]
  refine lw_ld hX hl5 hi (k := 3) (by decide) (by omega) rfl rfl rfl rfl rfl (fun y6 hy6 => ?_)
  have ey6 : y6 = y3 := by
    have := hy6.symm.trans hy3
    cases this
    rfl
  rw [ey6]
  obtain ⟨ns, n1, -, -⟩ := hI_f hS1.1 (show tb_G 190 = some (.inl (12, _)) from rfl)
  refine okb_cv0 (mj := 302) (as := [.inl (.inl y1), .inl (.inl y2), .inl (.inl y3)]) (T := []) rfl rfl n1 rfl rfl rfl (ok_pa (rm_norm (some X) (show cx_ok (tb_P (some X)) tb_G (rf_G 0) trk_160 from tr_yes (some X) 160 (by decide) 0) hS1 (vs := [.inr (.inl (some 190)), .inl (.inl y1), .inl (.inl y2), .inl (.inl y3)]) ⟨rfl, at_any y1, at_any y2, at_any y3, trivial⟩ rfl rfl rfl rfl rfl rfl rfl) (fun N' => q_m_witnesses (hWx N') C1 hmx _ (lo_ar _ 0))) (fun o C2 hq => ?_)
  obtain ⟨⟨hE, hS2⟩, M2, hm2, w2, rfl, hR⟩ := hq
  refine ⟨_, rfl, ?_⟩
  show okb (tb_P (some X)) N 0 1443 _ [.inl (.inl w2)] C2 K
  refine okb_p rfl rfl rfl ?_
  have hl6 := lw_L_s hl5 (j := 6) (by decide) (.inl (.inl w2))
  revert hl6
  generalize ea_s1 cl5 6 (.inl (.inl w2)) = cl6
  intro hl6
  refine okb_p rfl rfl rfl ?_
  exact next _ C2 ⟨_, _, hS2⟩ ⟨M2, hm2, CP_le hR (by omega)⟩ hl6
set_option maxRecDepth 20000 in
set_option maxHeartbeats 1000000 in
theorem lc_36 (hX : lw_X X) (hS : lt_S s h s h C) (hM : LM B C) (hB : 0 ≤ B ∧ B ≤ 28000) (hl : lw_L cl i) (hi : i.toInt = (iN : Int)) (hlen : iN + 6 ≤ X.length) (next : ∀ cl' C', (∃ s h, lt_S s h s h C') → LM (B + 50) C' → lw_L cl' i → okb (tb_P (some X)) N 0 1725 cl' [] C' K) : okb (tb_P (some X)) (1 + N) 0 1448 cl [] C K := by
  refine okb_an rfl hl.2.1 rfl ?_
  refine lw_ld hX hl hi (k := 1) (by decide) (by omega) rfl rfl rfl rfl rfl (fun y1 hy1 => ?_)
  refine lw_ld hX hl hi (k := 2) (by decide) (by omega) rfl rfl rfl rfl rfl (fun y2 hy2 => ?_)
  refine okb_an rfl hl.2.2.2.1 rfl ?_
  obtain ⟨M, hm, hCP⟩ := hM
  refine okb_cs (N := N) (N' := 1) (mj := 354) (as := [.inr (.inl (some 0)), .inl (.inl y1), .inl (.inl y2), .inr (.inl (some 215))]) (T := []) rfl rfl rfl rfl (okb_post (wz_trial (some X) hS (ok_pa (cm_norm (some X) (show cn_ok (tb_P (some X)) tb_G tk_188 from tk_yes (some X) 188 (by decide)) (vs := [.inr (.inl (some 0)), .inl (.inl y1), .inl (.inl y2)]) ⟨rfl, at_any y1, at_any y2, trivial⟩ hS.1 rfl rfl rfl rfl) (jc_trial hm hCP))) (fun o C1 hq => ?_))
  obtain ⟨hS1, w, rfl, hZ⟩ := hq
  rw [hS.2.2.2.1, hS.2.2.2.2.1] at hS1
  show okb (tb_P (some X)) N 0 1465 _ [.inl (.inl w)] C1 K
  obtain ⟨Mx, hmx, hCx⟩ := wz_w hZ
  have hWx : ∀ N', W_m_trial y1 y2 N' Mx (fun _ M2 => CP B M2) := fun N' => fm_trial hCx
  refine okb_p rfl rfl rfl ?_
  have hl5 := lw_L_s hl (j := 5) (by decide) (.inl (.inl w))
  revert hl5
  generalize ea_s1 cl 5 (.inl (.inl w)) = cl5
  intro hl5
  refine okb_an rfl hl5.2.2.1 rfl ?_
  refine lw_ld hX hl5 hi (k := 1) (by decide) (by omega) rfl rfl rfl rfl rfl (fun y3 hy3 => ?_)
  have ey3 : y3 = y1 := by
    have := hy3.symm.trans hy1
    cases this
    rfl
  rw [ey3]
  refine lw_ld hX hl5 hi (k := 2) (by decide) (by omega) rfl rfl rfl rfl rfl (fun y4 hy4 => ?_)
  have ey4 : y4 = y2 := by
    have := hy4.symm.trans hy2
    cases this
    rfl
  rw [ey4]
  obtain ⟨ns, n1, -, -⟩ := hI_f hS1.1 (show tb_G 190 = some (.inl (12, _)) from rfl)
  refine okb_cv0 (mj := 306) (as := [.inl (.inl y1), .inl (.inl y2)]) (T := []) rfl rfl n1 rfl rfl rfl (ok_pa (rm_norm (some X) (show cx_ok (tb_P (some X)) tb_G (rf_G 0) trk_162 from tr_yes (some X) 162 (by decide) 0) hS1 (vs := [.inr (.inl (some 190)), .inl (.inl y1), .inl (.inl y2)]) ⟨rfl, at_any y1, at_any y2, trivial⟩ rfl rfl rfl rfl rfl rfl rfl) (fun N' => q_m_trial (hWx N') C1 hmx _ (lo_ar _ 0))) (fun o C2 hq => ?_)
  obtain ⟨⟨hE, hS2⟩, M2, hm2, w2, rfl, hR⟩ := hq
  refine ⟨_, rfl, ?_⟩
  show okb (tb_P (some X)) N 0 1483 _ [.inl (.inl w2)] C2 K
  refine okb_p rfl rfl rfl ?_
  have hl6 := lw_L_s hl5 (j := 6) (by decide) (.inl (.inl w2))
  revert hl6
  generalize ea_s1 cl5 6 (.inl (.inl w2)) = cl6
  intro hl6
  refine okb_p rfl rfl rfl ?_
  exact next _ C2 ⟨_, _, hS2⟩ ⟨M2, hm2, CP_le hR (by omega)⟩ hl6
set_option maxRecDepth 20000 in
set_option maxHeartbeats 1000000 in
theorem lc_37 (hX : lw_X X) (hS : lt_S s h s h C) (hM : LM B C) (hB : 0 ≤ B ∧ B ≤ 28000) (hl : lw_L cl i) (hi : i.toInt = (iN : Int)) (hlen : iN + 6 ≤ X.length) (next : ∀ cl' C', (∃ s h, lt_S s h s h C') → LM (B + 50) C' → lw_L cl' i → okb (tb_P (some X)) N 0 1725 cl' [] C' K) : okb (tb_P (some X)) (1 + N) 0 1488 cl [] C K := by
  refine okb_an rfl hl.2.1 rfl ?_
  refine lw_ld hX hl hi (k := 1) (by decide) (by omega) rfl rfl rfl rfl rfl (fun y1 hy1 => ?_)
  refine lw_ld hX hl hi (k := 2) (by decide) (by omega) rfl rfl rfl rfl rfl (fun y2 hy2 => ?_)
  refine lw_bq rfl rfl rfl rfl rfl rfl (fun by2 hby2 => ?_)
  refine okb_an rfl hl.2.2.2.1 rfl ?_
  obtain ⟨M, hm, hCP⟩ := hM
  refine okb_cs (N := N) (N' := 1) (mj := 355) (as := [.inr (.inl (some 0)), .inl (.inl y1), .inl (.inl by2), .inr (.inl (some 215))]) (T := []) rfl rfl rfl rfl (okb_post (wz_span (some X) hS (ok_pa (cm_norm (some X) (show cn_ok (tb_P (some X)) tb_G tk_189 from tk_yes (some X) 189 (by decide)) (vs := [.inr (.inl (some 0)), .inl (.inl y1), .inl (.inl by2)]) ⟨rfl, at_any y1, at_bo (bq_o hby2), trivial⟩ hS.1 rfl rfl rfl rfl) (jc_span hm hCP))) (fun o C1 hq => ?_))
  obtain ⟨hS1, w, rfl, hZ⟩ := hq
  rw [hS.2.2.2.1, hS.2.2.2.2.1] at hS1
  show okb (tb_P (some X)) N 0 1513 _ [.inl (.inl w)] C1 K
  obtain ⟨Mx, hmx, hCx⟩ := wz_w hZ
  have hWx : ∀ N', W_m_span y1 by2 N' Mx (fun _ M2 => CP B M2) := fun N' => fm_span hCx
  refine okb_p rfl rfl rfl ?_
  have hl5 := lw_L_s hl (j := 5) (by decide) (.inl (.inl w))
  revert hl5
  generalize ea_s1 cl 5 (.inl (.inl w)) = cl5
  intro hl5
  refine okb_an rfl hl5.2.2.1 rfl ?_
  refine lw_ld hX hl5 hi (k := 1) (by decide) (by omega) rfl rfl rfl rfl rfl (fun y3 hy3 => ?_)
  have ey3 : y3 = y1 := by
    have := hy3.symm.trans hy1
    cases this
    rfl
  rw [ey3]
  refine lw_ld hX hl5 hi (k := 2) (by decide) (by omega) rfl rfl rfl rfl rfl (fun y4 hy4 => ?_)
  have ey4 : y4 = y2 := by
    have := hy4.symm.trans hy2
    cases this
    rfl
  rw [ey4]
  refine lw_bq rfl rfl rfl rfl rfl rfl (fun cy2 hcy2 => ?_)
  have ecy2 : cy2 = by2 := hcy2.trans hby2.symm
  rw [ecy2]
  obtain ⟨ns, n1, -, -⟩ := hI_f hS1.1 (show tb_G 190 = some (.inl (12, _)) from rfl)
  refine okb_cv0 (mj := 307) (as := [.inl (.inl y1), .inl (.inl by2)]) (T := []) rfl rfl n1 rfl rfl rfl (ok_pa (rm_norm (some X) (show cx_ok (tb_P (some X)) tb_G (rf_G 0) trk_163 from tr_yes (some X) 163 (by decide) 0) hS1 (vs := [.inr (.inl (some 190)), .inl (.inl y1), .inl (.inl by2)]) ⟨rfl, at_any y1, at_bo (bq_o hby2), trivial⟩ rfl rfl rfl rfl rfl rfl rfl) (fun N' => q_m_span (hWx N') C1 hmx _ (lo_ar _ 0))) (fun o C2 hq => ?_)
  obtain ⟨⟨hE, hS2⟩, M2, hm2, w2, rfl, hR⟩ := hq
  refine ⟨_, rfl, ?_⟩
  show okb (tb_P (some X)) N 0 1539 _ [.inl (.inl w2)] C2 K
  refine okb_p rfl rfl rfl ?_
  have hl6 := lw_L_s hl5 (j := 6) (by decide) (.inl (.inl w2))
  revert hl6
  generalize ea_s1 cl5 6 (.inl (.inl w2)) = cl6
  intro hl6
  refine okb_p rfl rfl rfl ?_
  exact next _ C2 ⟨_, _, hS2⟩ ⟨M2, hm2, CP_le hR (by omega)⟩ hl6
set_option maxRecDepth 20000 in
set_option maxHeartbeats 1000000 in
theorem lc_38 (hX : lw_X X) (hS : lt_S s h s h C) (hM : LM B C) (hB : 0 ≤ B ∧ B ≤ 28000) (hl : lw_L cl i) (hi : i.toInt = (iN : Int)) (hlen : iN + 6 ≤ X.length) (next : ∀ cl' C', (∃ s h, lt_S s h s h C') → LM (B + 50) C' → lw_L cl' i → okb (tb_P (some X)) N 0 1725 cl' [] C' K) : okb (tb_P (some X)) (1 + N) 0 1544 cl [] C K := by
  refine okb_more (N := N) (by omega) ?_
  refine okb_an rfl hl.2.1 rfl ?_
  obtain ⟨xs, x1, -, -⟩ := hI_f hS.1 (show tb_G 0 = some (.inl (11, _)) from rfl)
  obtain ⟨M, hm, hCP⟩ := hM
  refine okb_cv0 (mj := 169) (as := []) (T := []) rfl rfl x1 rfl rfl rfl (ok_pa (cm_norm (some X) (show cn_ok (tb_P (some X)) tb_G tk_190 from tk_yes (some X) 190 (by decide)) (vs := [.inr (.inl (some 0))]) ⟨rfl, trivial⟩ hS.1 rfl rfl rfl rfl) (jc_first hm hCP)) (fun o C1 hq => ?_)
  obtain ⟨⟨hP, hE⟩, M1, hm1, hJ⟩ := hq
  have hS1 := lt_cm hS hP
  rw [hS.2.2.2.1, hS.2.2.2.2.1] at hS1
  cases o with
  | inr ce => exact nomatch (show ce ∈ ([] : List Nat) from hE)
  | inl v =>
    obtain ⟨w, rfl⟩ := hE
    refine ⟨_, rfl, ?_⟩
    have hCx : CP B M1 := by
      rcases hJ with ⟨v, e, hY⟩ | ⟨ce, e, hY⟩
      · exact hY
      · exact hY
    have hWx : ∀ N', W_m_first N' M1 (fun _ M2 => CP B M2) := fun N' => fm_first hCx
    have hmx := hm1
    show okb (tb_P (some X)) N 0 1548 _ [.inl (.inl w)] C1 K
    refine okb_p rfl rfl rfl ?_
    refine okb_an rfl hl.2.2.1 rfl ?_
    obtain ⟨ns, n1, -, -⟩ := hI_f hS1.1 (show tb_G 190 = some (.inl (12, _)) from rfl)
    refine okb_cv0 (mj := 308) (as := []) (T := []) rfl rfl n1 rfl rfl rfl (ok_pa (rm_norm (some X) (show cx_ok (tb_P (some X)) tb_G (rf_G 0) trk_164 from tr_yes (some X) 164 (by decide) 0) hS1 (vs := [.inr (.inl (some 190))]) ⟨rfl, trivial⟩ rfl rfl rfl rfl rfl rfl rfl) (fun N' => q_m_first (hWx N') C1 hmx _ (lo_ar _ 0))) (fun o C2 hq => ?_)
    obtain ⟨⟨hE, hS2⟩, M2, hm2, w2, rfl, hR⟩ := hq
    refine ⟨_, rfl, ?_⟩
    show okb (tb_P (some X)) N 0 1553 _ [.inl (.inl w2)] C2 K
    refine okb_p rfl rfl rfl ?_
    refine okb_p rfl rfl rfl ?_
    exact next _ C2 ⟨_, _, hS2⟩ ⟨M2, hm2, CP_le hR (by omega)⟩ hl
set_option maxRecDepth 20000 in
set_option maxHeartbeats 1000000 in
theorem lc_39 (hX : lw_X X) (hS : lt_S s h s h C) (hM : LM B C) (hB : 0 ≤ B ∧ B ≤ 28000) (hl : lw_L cl i) (hi : i.toInt = (iN : Int)) (hlen : iN + 6 ≤ X.length) (next : ∀ cl' C', (∃ s h, lt_S s h s h C') → LM (B + 50) C' → lw_L cl' i → okb (tb_P (some X)) N 0 1725 cl' [] C' K) : okb (tb_P (some X)) (1 + N) 0 1557 cl [] C K := by
  refine okb_an rfl hl.2.1 rfl ?_
  refine lw_ld hX hl hi (k := 1) (by decide) (by omega) rfl rfl rfl rfl rfl (fun y1 hy1 => ?_)
  refine okb_an rfl hl.2.2.2.1 rfl ?_
  obtain ⟨M, hm, hCP⟩ := hM
  refine okb_cs (N := N) (N' := 1) (mj := 356) (as := [.inr (.inl (some 0)), .inl (.inl y1), .inr (.inl (some 215))]) (T := []) rfl rfl rfl rfl (okb_post (wz_led (some X) hS (ok_pa (cm_norm (some X) (show cn_ok (tb_P (some X)) tb_G tk_191 from tk_yes (some X) 191 (by decide)) (vs := [.inr (.inl (some 0)), .inl (.inl y1)]) ⟨rfl, at_any y1, trivial⟩ hS.1 rfl rfl rfl rfl) (jc_led hm hCP))) (fun o C1 hq => ?_))
  obtain ⟨hS1, w, rfl, hZ⟩ := hq
  rw [hS.2.2.2.1, hS.2.2.2.2.1] at hS1
  show okb (tb_P (some X)) N 0 1568 _ [.inl (.inl w)] C1 K
  obtain ⟨Mx, hmx, hCx⟩ := wz_w hZ
  have hWx : ∀ N', W_m_led y1 N' Mx (fun _ M2 => CP B M2) := fun N' => fm_led hCx
  refine okb_p rfl rfl rfl ?_
  have hl5 := lw_L_s hl (j := 5) (by decide) (.inl (.inl w))
  revert hl5
  generalize ea_s1 cl 5 (.inl (.inl w)) = cl5
  intro hl5
  refine okb_an rfl hl5.2.2.1 rfl ?_
  refine lw_ld hX hl5 hi (k := 1) (by decide) (by omega) rfl rfl rfl rfl rfl (fun y2 hy2 => ?_)
  have ey2 : y2 = y1 := by
    have := hy2.symm.trans hy1
    cases this
    rfl
  rw [ey2]
  obtain ⟨ns, n1, -, -⟩ := hI_f hS1.1 (show tb_G 190 = some (.inl (12, _)) from rfl)
  refine okb_cv0 (mj := 310) (as := [.inl (.inl y1)]) (T := []) rfl rfl n1 rfl rfl rfl (ok_pa (rm_norm (some X) (show cx_ok (tb_P (some X)) tb_G (rf_G 0) trk_165 from tr_yes (some X) 165 (by decide) 0) hS1 (vs := [.inr (.inl (some 190)), .inl (.inl y1)]) ⟨rfl, at_any y1, trivial⟩ rfl rfl rfl rfl rfl rfl rfl) (fun N' => q_m_led (hWx N') C1 hmx _ (lo_ar _ 0))) (fun o C2 hq => ?_)
  obtain ⟨⟨hE, hS2⟩, M2, hm2, w2, rfl, hR⟩ := hq
  refine ⟨_, rfl, ?_⟩
  show okb (tb_P (some X)) N 0 1580 _ [.inl (.inl w2)] C2 K
  refine okb_p rfl rfl rfl ?_
  have hl6 := lw_L_s hl5 (j := 6) (by decide) (.inl (.inl w2))
  revert hl6
  generalize ea_s1 cl5 6 (.inl (.inl w2)) = cl6
  intro hl6
  refine okb_p rfl rfl rfl ?_
  exact next _ C2 ⟨_, _, hS2⟩ ⟨M2, hm2, CP_le hR (by omega)⟩ hl6
set_option maxRecDepth 20000 in
set_option maxHeartbeats 1000000 in
theorem lc_40 (hX : lw_X X) (hS : lt_S s h s h C) (hM : LM B C) (hB : 0 ≤ B ∧ B ≤ 28000) (hl : lw_L cl i) (hi : i.toInt = (iN : Int)) (hlen : iN + 6 ≤ X.length) (next : ∀ cl' C', (∃ s h, lt_S s h s h C') → LM (B + 50) C' → lw_L cl' i → okb (tb_P (some X)) N 0 1725 cl' [] C' K) : okb (tb_P (some X)) (1 + N) 0 1585 cl [] C K := by
  refine okb_more (N := N) (by omega) ?_
  refine okb_an rfl hl.2.1 rfl ?_
  obtain ⟨xs, x1, -, -⟩ := hI_f hS.1 (show tb_G 0 = some (.inl (11, _)) from rfl)
  obtain ⟨M, hm, hCP⟩ := hM
  refine okb_cv0 (mj := 171) (as := []) (T := []) rfl rfl x1 rfl rfl rfl (ok_pa (cm_norm (some X) (show cn_ok (tb_P (some X)) tb_G tk_192 from tk_yes (some X) 192 (by decide)) (vs := [.inr (.inl (some 0))]) ⟨rfl, trivial⟩ hS.1 rfl rfl rfl rfl) (jc_worst hm hCP)) (fun o C1 hq => ?_)
  obtain ⟨⟨hP, hE⟩, M1, hm1, hJ⟩ := hq
  have hS1 := lt_cm hS hP
  rw [hS.2.2.2.1, hS.2.2.2.2.1] at hS1
  cases o with
  | inr ce => exact nomatch (show ce ∈ ([] : List Nat) from hE)
  | inl v =>
    obtain ⟨w, rfl⟩ := hE
    refine ⟨_, rfl, ?_⟩
    have hCx : CP B M1 := by
      rcases hJ with ⟨v, e, hY⟩ | ⟨ce, e, hY⟩
      · exact hY
      · exact hY
    have hWx : ∀ N', W_m_worst N' M1 (fun _ M2 => CP B M2) := fun N' => fm_worst hCx
    have hmx := hm1
    show okb (tb_P (some X)) N 0 1589 _ [.inl (.inl w)] C1 K
    refine okb_p rfl rfl rfl ?_
    refine okb_an rfl hl.2.2.1 rfl ?_
    obtain ⟨ns, n1, -, -⟩ := hI_f hS1.1 (show tb_G 190 = some (.inl (12, _)) from rfl)
    refine okb_cv0 (mj := 312) (as := []) (T := []) rfl rfl n1 rfl rfl rfl (ok_pa (rm_norm (some X) (show cx_ok (tb_P (some X)) tb_G (rf_G 0) trk_167 from tr_yes (some X) 167 (by decide) 0) hS1 (vs := [.inr (.inl (some 190))]) ⟨rfl, trivial⟩ rfl rfl rfl rfl rfl rfl rfl) (fun N' => q_m_worst (hWx N') C1 hmx _ (lo_ar _ 0))) (fun o C2 hq => ?_)
    obtain ⟨⟨hE, hS2⟩, M2, hm2, w2, rfl, hR⟩ := hq
    refine ⟨_, rfl, ?_⟩
    show okb (tb_P (some X)) N 0 1594 _ [.inl (.inl w2)] C2 K
    refine okb_p rfl rfl rfl ?_
    refine okb_p rfl rfl rfl ?_
    exact next _ C2 ⟨_, _, hS2⟩ ⟨M2, hm2, CP_le hR (by omega)⟩ hl
set_option maxRecDepth 20000 in
set_option maxHeartbeats 1000000 in
theorem lc_41 (hX : lw_X X) (hS : lt_S s h s h C) (hM : LM B C) (hB : 0 ≤ B ∧ B ≤ 28000) (hl : lw_L cl i) (hi : i.toInt = (iN : Int)) (hlen : iN + 6 ≤ X.length) (next : ∀ cl' C', (∃ s h, lt_S s h s h C') → LM (B + 50) C' → lw_L cl' i → okb (tb_P (some X)) N 0 1725 cl' [] C' K) : okb (tb_P (some X)) (1 + N) 0 1598 cl [] C K := by
  refine okb_an rfl hl.2.1 rfl ?_
  refine lw_ld hX hl hi (k := 1) (by decide) (by omega) rfl rfl rfl rfl rfl (fun y1 hy1 => ?_)
  refine lw_ld hX hl hi (k := 2) (by decide) (by omega) rfl rfl rfl rfl rfl (fun y2 hy2 => ?_)
  refine okb_an rfl hl.2.2.2.1 rfl ?_
  obtain ⟨M, hm, hCP⟩ := hM
  refine okb_cs (N := N) (N' := 1) (mj := 357) (as := [.inr (.inl (some 0)), .inl (.inl y1), .inl (.inl y2), .inr (.inl (some 215))]) (T := []) rfl rfl rfl rfl (okb_post (wz_log (some X) hS (ok_pa (cm_norm (some X) (show cn_ok (tb_P (some X)) tb_G tk_193 from tk_yes (some X) 193 (by decide)) (vs := [.inr (.inl (some 0)), .inl (.inl y1), .inl (.inl y2)]) ⟨rfl, at_any y1, at_any y2, trivial⟩ hS.1 rfl rfl rfl rfl) (jc_log hm hCP))) (fun o C1 hq => ?_))
  obtain ⟨hS1, w, rfl, hZ⟩ := hq
  rw [hS.2.2.2.1, hS.2.2.2.2.1] at hS1
  show okb (tb_P (some X)) N 0 1615 _ [.inl (.inl w)] C1 K
  obtain ⟨Mx, hmx, hCx⟩ := wz_w hZ
  have hWx : ∀ N', W_m_log y1 y2 N' Mx (fun _ M2 => CP B M2) := fun N' => fm_log hCx
  refine okb_p rfl rfl rfl ?_
  have hl5 := lw_L_s hl (j := 5) (by decide) (.inl (.inl w))
  revert hl5
  generalize ea_s1 cl 5 (.inl (.inl w)) = cl5
  intro hl5
  refine okb_an rfl hl5.2.2.1 rfl ?_
  refine lw_ld hX hl5 hi (k := 1) (by decide) (by omega) rfl rfl rfl rfl rfl (fun y3 hy3 => ?_)
  have ey3 : y3 = y1 := by
    have := hy3.symm.trans hy1
    cases this
    rfl
  rw [ey3]
  refine lw_ld hX hl5 hi (k := 2) (by decide) (by omega) rfl rfl rfl rfl rfl (fun y4 hy4 => ?_)
  have ey4 : y4 = y2 := by
    have := hy4.symm.trans hy2
    cases this
    rfl
  rw [ey4]
  obtain ⟨ns, n1, -, -⟩ := hI_f hS1.1 (show tb_G 190 = some (.inl (12, _)) from rfl)
  refine okb_cv0 (mj := 313) (as := [.inl (.inl y1), .inl (.inl y2)]) (T := []) rfl rfl n1 rfl rfl rfl (ok_pa (rm_norm (some X) (show cx_ok (tb_P (some X)) tb_G (rf_G 0) trk_168 from tr_yes (some X) 168 (by decide) 0) hS1 (vs := [.inr (.inl (some 190)), .inl (.inl y1), .inl (.inl y2)]) ⟨rfl, at_any y1, at_any y2, trivial⟩ rfl rfl rfl rfl rfl rfl rfl) (fun N' => q_m_log (hWx N') C1 hmx _ (lo_ar _ 0))) (fun o C2 hq => ?_)
  obtain ⟨⟨hE, hS2⟩, M2, hm2, w2, rfl, hR⟩ := hq
  refine ⟨_, rfl, ?_⟩
  show okb (tb_P (some X)) N 0 1633 _ [.inl (.inl w2)] C2 K
  refine okb_p rfl rfl rfl ?_
  have hl6 := lw_L_s hl5 (j := 6) (by decide) (.inl (.inl w2))
  revert hl6
  generalize ea_s1 cl5 6 (.inl (.inl w2)) = cl6
  intro hl6
  refine okb_p rfl rfl rfl ?_
  exact next _ C2 ⟨_, _, hS2⟩ ⟨M2, hm2, CP_le hR (by omega)⟩ hl6
set_option maxRecDepth 20000 in
set_option maxHeartbeats 1000000 in
theorem lc_42 (hX : lw_X X) (hS : lt_S s h s h C) (hM : LM B C) (hB : 0 ≤ B ∧ B ≤ 28000) (hl : lw_L cl i) (hi : i.toInt = (iN : Int)) (hlen : iN + 6 ≤ X.length) (next : ∀ cl' C', (∃ s h, lt_S s h s h C') → LM (B + 50) C' → lw_L cl' i → okb (tb_P (some X)) N 0 1725 cl' [] C' K) : okb (tb_P (some X)) (1 + N) 0 1638 cl [] C K := by
  refine okb_more (N := N) (by omega) ?_
  refine okb_an rfl hl.2.1 rfl ?_
  refine lw_ld hX hl hi (k := 1) (by decide) (by omega) rfl rfl rfl rfl rfl (fun y1 hy1 => ?_)
  obtain ⟨xs, x1, -, -⟩ := hI_f hS.1 (show tb_G 0 = some (.inl (11, _)) from rfl)
  obtain ⟨M, hm, hCP⟩ := hM
  refine okb_cv0 (mj := 173) (as := [.inl (.inl y1)]) (T := []) rfl rfl x1 rfl rfl rfl (ok_pa (cm_norm (some X) (show cn_ok (tb_P (some X)) tb_G tk_194 from tk_yes (some X) 194 (by decide)) (vs := [.inr (.inl (some 0)), .inl (.inl y1)]) ⟨rfl, at_any y1, trivial⟩ hS.1 rfl rfl rfl rfl) (jc_seed hm hCP)) (fun o C1 hq => ?_)
  obtain ⟨⟨hP, hE⟩, M1, hm1, hJ⟩ := hq
  have hS1 := lt_cm hS hP
  rw [hS.2.2.2.1, hS.2.2.2.2.1] at hS1
  cases o with
  | inr ce => exact nomatch (show ce ∈ ([] : List Nat) from hE)
  | inl v =>
    obtain ⟨w, rfl⟩ := hE
    refine ⟨_, rfl, ?_⟩
    have hWx : ∀ N', W_m_seed y1 N' M1 (fun b M2 => CP B M2 ∧ w = b) := by
      rcases hJ with ⟨v, e, y, e2, hY⟩ | ⟨ce, e, -⟩
      · cases e
        cases e2
        exact fun N' => and_m_seed (fun b M2 h _ => ⟨h.1, h.2.2⟩) (hY N') (hY N')
      · cases e
    have hmx := hm1
    show okb (tb_P (some X)) N 0 1648 _ [.inl (.inl w)] C1 K
    refine okb_p rfl rfl rfl ?_
    refine okb_an rfl hl.2.2.1 rfl ?_
    refine lw_ld hX hl hi (k := 1) (by decide) (by omega) rfl rfl rfl rfl rfl (fun y2 hy2 => ?_)
    have ey2 : y2 = y1 := by
      have := hy2.symm.trans hy1
      cases this
      rfl
    rw [ey2]
    obtain ⟨ns, n1, -, -⟩ := hI_f hS1.1 (show tb_G 190 = some (.inl (12, _)) from rfl)
    refine okb_cv0 (mj := 314) (as := [.inl (.inl y1)]) (T := []) rfl rfl n1 rfl rfl rfl (ok_pa (rm_norm (some X) (show cx_ok (tb_P (some X)) tb_G (rf_G 0) trk_169 from tr_yes (some X) 169 (by decide) 0) hS1 (vs := [.inr (.inl (some 190)), .inl (.inl y1)]) ⟨rfl, at_any y1, trivial⟩ rfl rfl rfl rfl rfl rfl rfl) (fun N' => q_m_seed (hWx N') C1 hmx _ (lo_ar _ 0))) (fun o C2 hq => ?_)
    obtain ⟨⟨hE, hS2⟩, M2, hm2, w2, rfl, hR⟩ := hq
    refine ⟨_, rfl, ?_⟩
    show okb (tb_P (some X)) N 0 1659 _ [.inl (.inl w2)] C2 K
    refine okb_p rfl rfl rfl ?_
    refine okb_p rfl rfl rfl ?_
    exact next _ C2 ⟨_, _, hS2⟩ ⟨M2, hm2, CP_le hR.1 (by omega)⟩ hl
set_option maxRecDepth 20000 in
set_option maxHeartbeats 1000000 in
theorem lc_43 (hX : lw_X X) (hS : lt_S s h s h C) (hM : LM B C) (hB : 0 ≤ B ∧ B ≤ 28000) (hl : lw_L cl i) (hi : i.toInt = (iN : Int)) (hlen : iN + 6 ≤ X.length) (next : ∀ cl' C', (∃ s h, lt_S s h s h C') → LM (B + 50) C' → lw_L cl' i → okb (tb_P (some X)) N 0 1725 cl' [] C' K) : okb (tb_P (some X)) (1 + N) 0 1663 cl [] C K := by
  refine okb_more (N := N) (by omega) ?_
  refine okb_an rfl hl.2.1 rfl ?_
  obtain ⟨xs, x1, -, -⟩ := hI_f hS.1 (show tb_G 0 = some (.inl (11, _)) from rfl)
  obtain ⟨M, hm, hCP⟩ := hM
  refine okb_cv0 (mj := 174) (as := []) (T := []) rfl rfl x1 rfl rfl rfl (ok_pa (cm_norm (some X) (show cn_ok (tb_P (some X)) tb_G tk_195 from tk_yes (some X) 195 (by decide)) (vs := [.inr (.inl (some 0))]) ⟨rfl, trivial⟩ hS.1 rfl rfl rfl rfl) (jc_undo hm hCP)) (fun o C1 hq => ?_)
  obtain ⟨⟨hP, hE⟩, M1, hm1, hJ⟩ := hq
  have hS1 := lt_cm hS hP
  rw [hS.2.2.2.1, hS.2.2.2.2.1] at hS1
  cases o with
  | inr ce => exact nomatch (show ce ∈ ([] : List Nat) from hE)
  | inl v =>
    obtain ⟨w, rfl⟩ := hE
    refine ⟨_, rfl, ?_⟩
    have hWx : ∀ N', W_m_undo N' M1 (fun b M2 => CP B M2 ∧ w = b) := by
      rcases hJ with ⟨v, e, y, e2, hY⟩ | ⟨ce, e, -⟩
      · cases e
        cases e2
        exact fun N' => and_m_undo (fun b M2 h _ => ⟨h.1, h.2.2⟩) (hY N') (hY N')
      · cases e
    have hmx := hm1
    show okb (tb_P (some X)) N 0 1667 _ [.inl (.inl w)] C1 K
    refine okb_p rfl rfl rfl ?_
    refine okb_an rfl hl.2.2.1 rfl ?_
    obtain ⟨ns, n1, -, -⟩ := hI_f hS1.1 (show tb_G 190 = some (.inl (12, _)) from rfl)
    refine okb_cv0 (mj := 196) (as := []) (T := []) rfl rfl n1 rfl rfl rfl (ok_pa (rm_norm (some X) (show cx_ok (tb_P (some X)) tb_G (rf_G 0) trk_58 from tr_yes (some X) 58 (by decide) 0) hS1 (vs := [.inr (.inl (some 190))]) ⟨rfl, trivial⟩ rfl rfl rfl rfl rfl rfl rfl) (fun N' => q_m_undo (hWx N') C1 hmx _ (lo_ar _ 0))) (fun o C2 hq => ?_)
    obtain ⟨⟨hE, hS2⟩, M2, hm2, w2, rfl, hR⟩ := hq
    refine ⟨_, rfl, ?_⟩
    show okb (tb_P (some X)) N 0 1672 _ [.inl (.inl w2)] C2 K
    refine okb_p rfl rfl rfl ?_
    refine okb_p rfl rfl rfl ?_
    exact next _ C2 ⟨_, _, hS2⟩ ⟨M2, hm2, CP_le hR.1 (by omega)⟩ hl
set_option maxRecDepth 20000 in
set_option maxHeartbeats 1000000 in
theorem lc_44 (hX : lw_X X) (hS : lt_S s h s h C) (hM : LM B C) (hB : 0 ≤ B ∧ B ≤ 28000) (hl : lw_L cl i) (hi : i.toInt = (iN : Int)) (hlen : iN + 6 ≤ X.length) (next : ∀ cl' C', (∃ s h, lt_S s h s h C') → LM (B + 50) C' → lw_L cl' i → okb (tb_P (some X)) N 0 1725 cl' [] C' K) : okb (tb_P (some X)) (1 + N) 0 1676 cl [] C K := by
  refine okb_more (N := N) (by omega) ?_
  refine okb_an rfl hl.2.1 rfl ?_
  obtain ⟨xs, x1, -, -⟩ := hI_f hS.1 (show tb_G 0 = some (.inl (11, _)) from rfl)
  obtain ⟨M, hm, hCP⟩ := hM
  refine okb_cv0 (mj := 175) (as := []) (T := []) rfl rfl x1 rfl rfl rfl (ok_pa (cm_image (some X) hS.1) (jc_image hm hCP)) (fun o C1 hq => ?_)
  obtain ⟨⟨hP, rfl⟩, M1, hm1, hJ⟩ := hq
  refine ⟨_, rfl, ?_⟩
  have hS1 := lt_cm hS hP
  rw [hS.2.2.2.1] at hS1
  have hWx : ∀ N', W_m_image N' M1 (fun M2 => CP B M2) := by
    rcases hJ with ⟨v, e, hY⟩ | ⟨ce, e, -⟩
    · exact fun N' => and_m_image (fun M2 h _ => h.1) (hY N') (hY N')
    · cases e
  have hmx := hm1
  show okb (tb_P (some X)) N 0 1680 _ [] C1 K
  refine okb_an rfl hl.2.2.1 rfl ?_
  obtain ⟨ns, n1, -, -⟩ := hI_f hS1.1 (show tb_G 190 = some (.inl (12, _)) from rfl)
  refine okb_cv0 (mj := 193) (as := []) (T := []) rfl rfl n1 rfl rfl rfl (ok_pa (rm_image (some X) hS1) (fun N' => q_m_image (hWx N') C1 hmx _ (lo_ar _ 0))) (fun o C2 hq => ?_)
  obtain ⟨⟨rfl, hS2⟩, M2, hm2, er, hR⟩ := hq
  refine ⟨_, rfl, ?_⟩
  show okb (tb_P (some X)) N 0 1684 _ [] C2 K
  refine okb_p rfl rfl rfl ?_
  exact next _ C2 ⟨_, _, hS2⟩ ⟨M2, hm2, CP_le hR (by omega)⟩ hl
set_option maxRecDepth 20000 in
set_option maxHeartbeats 1000000 in
theorem lc_45 (hX : lw_X X) (hS : lt_S s h s h C) (hM : LM B C) (hB : 0 ≤ B ∧ B ≤ 28000) (hl : lw_L cl i) (hi : i.toInt = (iN : Int)) (hlen : iN + 6 ≤ X.length) (next : ∀ cl' C', (∃ s h, lt_S s h s h C') → LM (B + 50) C' → lw_L cl' i → okb (tb_P (some X)) N 0 1725 cl' [] C' K) : okb (tb_P (some X)) (1 + N) 0 1687 cl [] C K := by
  refine okb_more (N := N) (by omega) ?_
  refine okb_an rfl hl.2.1 rfl ?_
  obtain ⟨xs, x1, -, -⟩ := hI_f hS.1 (show tb_G 0 = some (.inl (11, _)) from rfl)
  obtain ⟨M, hm, hCP⟩ := hM
  refine okb_cv0 (mj := 176) (as := []) (T := []) rfl rfl x1 rfl rfl rfl (ok_pa (cm_norm (some X) (show cn_ok (tb_P (some X)) tb_G tk_197 from tk_yes (some X) 197 (by decide)) (vs := [.inr (.inl (some 0))]) ⟨rfl, trivial⟩ hS.1 rfl rfl rfl rfl) (jc_back hm hCP)) (fun o C1 hq => ?_)
  obtain ⟨⟨hP, hE⟩, M1, hm1, hJ⟩ := hq
  have hS1 := lt_cm hS hP
  rw [hS.2.2.2.1, hS.2.2.2.2.1] at hS1
  cases o with
  | inr ce => exact nomatch (show ce ∈ ([] : List Nat) from hE)
  | inl v =>
    obtain ⟨w, rfl⟩ := hE
    refine ⟨_, rfl, ?_⟩
    have hWx : ∀ N', W_m_back N' M1 (fun b M2 => CP B M2 ∧ w = b) := by
      rcases hJ with ⟨v, e, y, e2, hY⟩ | ⟨ce, e, -⟩
      · cases e
        cases e2
        exact fun N' => and_m_back (fun b M2 h _ => ⟨h.1, h.2.2⟩) (hY N') (hY N')
      · cases e
    have hmx := hm1
    show okb (tb_P (some X)) N 0 1691 _ [.inl (.inl w)] C1 K
    refine okb_p rfl rfl rfl ?_
    refine okb_an rfl hl.2.2.1 rfl ?_
    obtain ⟨ns, n1, -, -⟩ := hI_f hS1.1 (show tb_G 190 = some (.inl (12, _)) from rfl)
    refine okb_cv0 (mj := 194) (as := []) (T := []) rfl rfl n1 rfl rfl rfl (ok_pa (rm_norm (some X) (show cx_ok (tb_P (some X)) tb_G (rf_G 0) trk_56 from tr_yes (some X) 56 (by decide) 0) hS1 (vs := [.inr (.inl (some 190))]) ⟨rfl, trivial⟩ rfl rfl rfl rfl rfl rfl rfl) (fun N' => q_m_back (hWx N') C1 hmx _ (lo_ar _ 0))) (fun o C2 hq => ?_)
    obtain ⟨⟨hE, hS2⟩, M2, hm2, w2, rfl, hR⟩ := hq
    refine ⟨_, rfl, ?_⟩
    show okb (tb_P (some X)) N 0 1696 _ [.inl (.inl w2)] C2 K
    refine okb_p rfl rfl rfl ?_
    refine okb_p rfl rfl rfl ?_
    exact next _ C2 ⟨_, _, hS2⟩ ⟨M2, hm2, CP_le hR.1 (by omega)⟩ hl
set_option maxRecDepth 20000 in
set_option maxHeartbeats 1000000 in
theorem lc_46 (hX : lw_X X) (hS : lt_S s h s h C) (hM : LM B C) (hB : 0 ≤ B ∧ B ≤ 28000) (hl : lw_L cl i) (hi : i.toInt = (iN : Int)) (hlen : iN + 6 ≤ X.length) (next : ∀ cl' C', (∃ s h, lt_S s h s h C') → LM (B + 50) C' → lw_L cl' i → okb (tb_P (some X)) N 0 1725 cl' [] C' K) : okb (tb_P (some X)) (1 + N) 0 1700 cl [] C K := by
  refine okb_more (N := N) (by omega) ?_
  refine okb_an rfl hl.2.1 rfl ?_
  refine lw_ld hX hl hi (k := 1) (by decide) (by omega) rfl rfl rfl rfl rfl (fun y1 hy1 => ?_)
  obtain ⟨xs, x1, -, -⟩ := hI_f hS.1 (show tb_G 0 = some (.inl (11, _)) from rfl)
  obtain ⟨M, hm, hCP⟩ := hM
  refine okb_cv0 (mj := 177) (as := [.inl (.inl y1)]) (T := []) rfl rfl x1 rfl rfl rfl (ok_pa (cm_norm (some X) (show cn_ok (tb_P (some X)) tb_G tk_198 from tk_yes (some X) 198 (by decide)) (vs := [.inr (.inl (some 0)), .inl (.inl y1)]) ⟨rfl, at_any y1, trivial⟩ hS.1 rfl rfl rfl rfl) (jc_count hm hCP)) (fun o C1 hq => ?_)
  obtain ⟨⟨hP, hE⟩, M1, hm1, hJ⟩ := hq
  have hS1 := lt_cm hS hP
  rw [hS.2.2.2.1, hS.2.2.2.2.1] at hS1
  cases o with
  | inr ce => exact nomatch (show ce ∈ ([] : List Nat) from hE)
  | inl v =>
    obtain ⟨w, rfl⟩ := hE
    refine ⟨_, rfl, ?_⟩
    have hCx : CP B M1 := by
      rcases hJ with ⟨v, e, hY⟩ | ⟨ce, e, hY⟩
      · exact hY
      · exact hY
    have hWx : ∀ N', W_m_count y1 N' M1 (fun _ M2 => CP B M2) := fun N' => fm_count hCx
    have hmx := hm1
    show okb (tb_P (some X)) N 0 1710 _ [.inl (.inl w)] C1 K
    refine okb_p rfl rfl rfl ?_
    refine okb_an rfl hl.2.2.1 rfl ?_
    refine lw_ld hX hl hi (k := 1) (by decide) (by omega) rfl rfl rfl rfl rfl (fun y2 hy2 => ?_)
    have ey2 : y2 = y1 := by
      have := hy2.symm.trans hy1
      cases this
      rfl
    rw [ey2]
    obtain ⟨ns, n1, -, -⟩ := hI_f hS1.1 (show tb_G 190 = some (.inl (12, _)) from rfl)
    refine okb_cv0 (mj := 315) (as := [.inl (.inl y1)]) (T := []) rfl rfl n1 rfl rfl rfl (ok_pa (rm_norm (some X) (show cx_ok (tb_P (some X)) tb_G (rf_G 0) trk_170 from tr_yes (some X) 170 (by decide) 0) hS1 (vs := [.inr (.inl (some 190)), .inl (.inl y1)]) ⟨rfl, at_any y1, trivial⟩ rfl rfl rfl rfl rfl rfl rfl) (fun N' => q_m_count (hWx N') C1 hmx _ (lo_ar _ 0))) (fun o C2 hq => ?_)
    obtain ⟨⟨hE, hS2⟩, M2, hm2, w2, rfl, hR⟩ := hq
    refine ⟨_, rfl, ?_⟩
    show okb (tb_P (some X)) N 0 1721 _ [.inl (.inl w2)] C2 K
    refine okb_p rfl rfl rfl ?_
    refine okb_p rfl rfl rfl ?_
    exact next _ C2 ⟨_, _, hS2⟩ ⟨M2, hm2, CP_le hR (by omega)⟩ hl
end LWC
