/-! THE LAW: each of its cases (printed by wip/p2/gen73.py) -/
section LWC
variable {X : List AI} {N : Nat} {cl : List (Nat × AV)} {C : List AC} {K : Option AV ⊕ Nat → List AC → Prop} {i : Int32} {iN : Nat} {s h : Int}
set_option maxRecDepth 20000 in
set_option maxHeartbeats 1000000 in
theorem lc_0 (hX : lw_X X) (hS : lt_S s h s h C) (hl : lw_L cl i) (hi : i.toInt = (iN : Int)) (hlen : iN + 6 ≤ X.length) (next : ∀ cl' C', (∃ s h, lt_S s h s h C') → lw_L cl' i → okb (tb_P (some X)) N 0 1697 cl' [] C' K) : okb (tb_P (some X)) (1 + N) 0 244 cl [] C K := by
  refine okb_more (N := N) (by omega) ?_
  refine okb_an rfl hl.2.1 rfl ?_
  refine lw_ld hX hl hi (k := 1) (by decide) (by omega) rfl rfl rfl rfl rfl (fun y1 hy1 => ?_)
  refine lw_ld hX hl hi (k := 2) (by decide) (by omega) rfl rfl rfl rfl rfl (fun y2 hy2 => ?_)
  refine lw_ld hX hl hi (k := 3) (by decide) (by omega) rfl rfl rfl rfl rfl (fun y3 hy3 => ?_)
  refine lw_ld hX hl hi (k := 4) (by decide) (by omega) rfl rfl rfl rfl rfl (fun y4 hy4 => ?_)
  refine lw_ld hX hl hi (k := 5) (by decide) (by omega) rfl rfl rfl rfl rfl (fun y5 hy5 => ?_)
  obtain ⟨xs, x1, -, -⟩ := hI_f hS.1 (show tb_G 0 = some (.inl (11, _)) from rfl)
  refine okb_cv0 (mj := 131) (as := [.inl (.inl y1), .inl (.inl y2), .inl (.inl y3), .inl (.inl y4), .inl (.inl y5)]) (T := []) rfl rfl x1 rfl rfl rfl (cm_feed (some X) hS.1) (fun o C1 hq => ?_)
  obtain ⟨w, rfl, hw⟩ := hq
  refine ⟨_, rfl, ?_⟩
  rw [hS.2.2.2.1, hS.2.2.2.2.1] at hw
  obtain ⟨s1, hS1, hw1⟩ : ∃ s1, lt_S s1 h s h C1 ∧ ((s ≤ 380 ∧ w.toInt = s + 20 ∧ s1 = s + 20) ∨ (381 ≤ s ∧ w.toInt = -1 ∧ s1 = s)) := by
    rcases hw with ⟨e1, e2, e3⟩ | ⟨e1, e2, e3⟩
    · exact ⟨_, lt_cm hS e3, Or.inl ⟨e1, e2, rfl⟩⟩
    · exact ⟨_, lt_cm hS e3, Or.inr ⟨e1, e2, rfl⟩⟩
  show okb (tb_P (some X)) N 0 278 _ [.inl (.inl w)] C1 K
  refine okb_p rfl rfl rfl ?_
  refine okb_an rfl hl.2.2.1 rfl ?_
  refine lw_ld hX hl hi (k := 1) (by decide) (by omega) rfl rfl rfl rfl rfl (fun y6 hy6 => ?_)
  refine lw_ld hX hl hi (k := 2) (by decide) (by omega) rfl rfl rfl rfl rfl (fun y7 hy7 => ?_)
  refine lw_ld hX hl hi (k := 3) (by decide) (by omega) rfl rfl rfl rfl rfl (fun y8 hy8 => ?_)
  refine lw_ld hX hl hi (k := 4) (by decide) (by omega) rfl rfl rfl rfl rfl (fun y9 hy9 => ?_)
  refine lw_ld hX hl hi (k := 5) (by decide) (by omega) rfl rfl rfl rfl rfl (fun y10 hy10 => ?_)
  obtain ⟨ns, n1, -, -⟩ := hI_f hS1.1 (show tb_G 190 = some (.inl (12, _)) from rfl)
  refine okb_cv0 (mj := 211) (as := [.inl (.inl y6), .inl (.inl y7), .inl (.inl y8), .inl (.inl y9), .inl (.inl y10)]) (T := []) rfl rfl n1 rfl rfl rfl (rm_feed (some X) hS1) (fun o C2 hq => ?_)
  obtain ⟨w2, rfl, hw2⟩ := hq
  refine ⟨_, rfl, ?_⟩
  obtain ⟨hS2, hww⟩ : lt_S s1 h s1 h C2 ∧ w2.toInt = w.toInt := by
    rcases hw1 with ⟨a1, a2, rfl⟩ | ⟨a1, a2, rfl⟩
    · rcases hw2 with ⟨b1, b2, b3⟩ | ⟨b1, b2, b3⟩
      · exact ⟨b3, by omega⟩
      · omega
    · rcases hw2 with ⟨b1, b2, b3⟩ | ⟨b1, b2, b3⟩
      · omega
      · exact ⟨b3, by omega⟩
  show okb (tb_P (some X)) N 0 313 _ [.inl (.inl w2)] C2 K
  refine okb_p rfl rfl rfl ?_
  refine okb_p rfl rfl rfl ?_
  exact next _ C2 ⟨_, _, hS2⟩ hl
set_option maxRecDepth 20000 in
set_option maxHeartbeats 1000000 in
theorem lc_1 (hX : lw_X X) (hS : lt_S s h s h C) (hl : lw_L cl i) (hi : i.toInt = (iN : Int)) (hlen : iN + 6 ≤ X.length) (next : ∀ cl' C', (∃ s h, lt_S s h s h C') → lw_L cl' i → okb (tb_P (some X)) N 0 1697 cl' [] C' K) : okb (tb_P (some X)) (1 + N) 0 317 cl [] C K := by
  refine okb_more (N := N) (by omega) ?_
  refine okb_an rfl hl.2.1 rfl ?_
  refine lw_ld hX hl hi (k := 1) (by decide) (by omega) rfl rfl rfl rfl rfl (fun y1 hy1 => ?_)
  obtain ⟨xs, x1, -, -⟩ := hI_f hS.1 (show tb_G 0 = some (.inl (11, _)) from rfl)
  refine okb_cv0 (mj := 132) (as := [.inl (.inl y1)]) (T := []) rfl rfl x1 rfl rfl rfl (cm_end (some X) hS.1) (fun o C1 hq => ?_)
  obtain ⟨w, rfl, hw⟩ := hq
  refine ⟨_, rfl, ?_⟩
  rw [hS.2.2.2.1, hS.2.2.2.2.1] at hw
  obtain ⟨s1, hS1, hw1⟩ : ∃ s1, lt_S s1 h s h C1 ∧ ((0 ≤ y1.toInt ∧ y1.toInt ≤ s ∧ w = Int32.ofInt 1 ∧ s1 = y1.toInt) ∨ (¬ (0 ≤ y1.toInt ∧ y1.toInt ≤ s) ∧ w = Int32.ofInt 0 ∧ s1 = s)) := by
    rcases hw with ⟨e1, e2, e3, e4⟩ | ⟨e1, e2, e3⟩
    · exact ⟨_, lt_cm hS e4, Or.inl ⟨e1, e2, e3, rfl⟩⟩
    · exact ⟨_, lt_cm hS e3, Or.inr ⟨e1, e2, rfl⟩⟩
  show okb (tb_P (some X)) N 0 327 _ [.inl (.inl w)] C1 K
  refine okb_p rfl rfl rfl ?_
  refine okb_an rfl hl.2.2.1 rfl ?_
  refine lw_ld hX hl hi (k := 1) (by decide) (by omega) rfl rfl rfl rfl rfl (fun y2 hy2 => ?_)
  obtain ⟨ns, n1, -, -⟩ := hI_f hS1.1 (show tb_G 190 = some (.inl (12, _)) from rfl)
  refine okb_cv0 (mj := 212) (as := [.inl (.inl y2)]) (T := []) rfl rfl n1 rfl rfl rfl (rm_end (some X) hS1) (fun o C2 hq => ?_)
  obtain ⟨w2, rfl, hw2⟩ := hq
  refine ⟨_, rfl, ?_⟩
  obtain ⟨hS2, hww⟩ : lt_S s1 h s1 h C2 ∧ w2 = w := by
    have he : y2 = y1 := by
      have := hy2.symm.trans hy1
      cases this
      rfl
    rw [he] at hw2
    rcases hw1 with ⟨a1, a2, a3, rfl⟩ | ⟨a1, a2, rfl⟩
    · rcases hw2 with ⟨b1, b2, b3, b4⟩ | ⟨b1, b2, b3⟩
      · exact ⟨b4, by rw [a3, b3]⟩
      · exact absurd ⟨a1, a2⟩ b1
    · rcases hw2 with ⟨b1, b2, b3, b4⟩ | ⟨b1, b2, b3⟩
      · exact absurd ⟨b1, b2⟩ a1
      · exact ⟨b3, by rw [a2, b2]⟩
  show okb (tb_P (some X)) N 0 338 _ [.inl (.inl w2)] C2 K
  refine okb_p rfl rfl rfl ?_
  refine okb_p rfl rfl rfl ?_
  exact next _ C2 ⟨_, _, hS2⟩ hl
set_option maxRecDepth 20000 in
set_option maxHeartbeats 1000000 in
theorem lc_2 (hX : lw_X X) (hS : lt_S s h s h C) (hl : lw_L cl i) (hi : i.toInt = (iN : Int)) (hlen : iN + 6 ≤ X.length) (next : ∀ cl' C', (∃ s h, lt_S s h s h C') → lw_L cl' i → okb (tb_P (some X)) N 0 1697 cl' [] C' K) : okb (tb_P (some X)) (1 + N) 0 342 cl [] C K := by
  refine okb_an rfl hl.2.1 rfl ?_
  refine okb_an rfl hl.2.2.2.1 rfl ?_
  refine okb_cs (N := N) (N' := 1) (mj := 326) (as := [.inr (.inl (some 0)), .inr (.inl (some 215))]) (T := []) rfl rfl rfl rfl (okb_post (wr_code (some X) hS (cm_code (some X) hS.1)) (fun o C1 hq => ?_))
  obtain ⟨⟨w, rfl⟩, hS1⟩ := hq
  rw [hS.2.2.2.2.1] at hS1
  show okb (tb_P (some X)) N 0 347 _ [.inl (.inl w)] C1 K
  refine okb_p rfl rfl rfl ?_
  have hl5 := lw_L_s hl (j := 5) (by decide) (.inl (.inl w))
  revert hl5
  generalize ea_s1 cl 5 (.inl (.inl w)) = cl5
  intro hl5
  refine okb_an rfl hl5.2.2.1 rfl ?_
  obtain ⟨ns, n1, -, -⟩ := hI_f hS1.1 (show tb_G 190 = some (.inl (12, _)) from rfl)
  obtain ⟨z22, p22⟩ := lt_22 hS1
  refine okb_cv0 (mj := 243) (as := []) (T := []) rfl rfl n1 rfl rfl rfl (rm_use (some X) (show cx_ok (tb_P (some X)) tb_G (rf_G 0) trk_104 from tr_yes (some X) 104 (by decide) 0) hS1 (vs := [.inr (.inl (some 190))]) ⟨rfl, trivial⟩ (pre := [(190, 22, 0, 6)]) rfl p22 rfl rfl rfl rfl rfl) (fun o C2 hq => ?_)
  obtain ⟨hE, hS2⟩ := hq
  cases o with
  | inr ce => exact nomatch (show ce ∈ ([] : List Nat) from hE)
  | inl v =>
    obtain ⟨w2, rfl⟩ := hE
    refine ⟨_, rfl, ?_⟩
    show okb (tb_P (some X)) N 0 353 _ [.inl (.inl w2)] C2 K
    refine okb_p rfl rfl rfl ?_
    have hl6 := lw_L_s hl5 (j := 6) (by decide) (.inl (.inl w2))
    revert hl6
    generalize ea_s1 cl5 6 (.inl (.inl w2)) = cl6
    intro hl6
    refine okb_p rfl rfl rfl ?_
    exact next _ C2 ⟨_, _, hS2⟩ hl6
set_option maxRecDepth 20000 in
set_option maxHeartbeats 1000000 in
theorem lc_3 (hX : lw_X X) (hS : lt_S s h s h C) (hl : lw_L cl i) (hi : i.toInt = (iN : Int)) (hlen : iN + 6 ≤ X.length) (next : ∀ cl' C', (∃ s h, lt_S s h s h C') → lw_L cl' i → okb (tb_P (some X)) N 0 1697 cl' [] C' K) : okb (tb_P (some X)) (1 + N) 0 358 cl [] C K := by
  refine okb_an rfl hl.2.1 rfl ?_
  refine okb_an rfl hl.2.2.2.1 rfl ?_
  refine okb_cs (N := N) (N' := 1) (mj := 327) (as := [.inr (.inl (some 0)), .inr (.inl (some 215))]) (T := []) rfl rfl rfl rfl (okb_post (wr_republic (some X) hS (cm_republic (some X) hS.1)) (fun o C1 hq => ?_))
  obtain ⟨⟨w, rfl⟩, hS1⟩ := hq
  rw [hS.2.2.2.2.1] at hS1
  show okb (tb_P (some X)) N 0 363 _ [.inl (.inl w)] C1 K
  refine okb_p rfl rfl rfl ?_
  have hl5 := lw_L_s hl (j := 5) (by decide) (.inl (.inl w))
  revert hl5
  generalize ea_s1 cl 5 (.inl (.inl w)) = cl5
  intro hl5
  refine okb_an rfl hl5.2.2.1 rfl ?_
  obtain ⟨ns, n1, -, -⟩ := hI_f hS1.1 (show tb_G 190 = some (.inl (12, _)) from rfl)
  obtain ⟨z22, p22⟩ := lt_22 hS1
  refine okb_cv0 (mj := 244) (as := []) (T := []) rfl rfl n1 rfl rfl rfl (rm_use (some X) (show cx_ok (tb_P (some X)) tb_G (rf_G 0) trk_105 from tr_yes (some X) 105 (by decide) 0) hS1 (vs := [.inr (.inl (some 190))]) ⟨rfl, trivial⟩ (pre := [(190, 22, 0, 6)]) rfl p22 rfl rfl rfl rfl rfl) (fun o C2 hq => ?_)
  obtain ⟨hE, hS2⟩ := hq
  cases o with
  | inr ce => exact nomatch (show ce ∈ ([] : List Nat) from hE)
  | inl v =>
    obtain ⟨w2, rfl⟩ := hE
    refine ⟨_, rfl, ?_⟩
    show okb (tb_P (some X)) N 0 369 _ [.inl (.inl w2)] C2 K
    refine okb_p rfl rfl rfl ?_
    have hl6 := lw_L_s hl5 (j := 6) (by decide) (.inl (.inl w2))
    revert hl6
    generalize ea_s1 cl5 6 (.inl (.inl w2)) = cl6
    intro hl6
    refine okb_p rfl rfl rfl ?_
    exact next _ C2 ⟨_, _, hS2⟩ hl6
set_option maxRecDepth 20000 in
set_option maxHeartbeats 1000000 in
theorem lc_4 (hX : lw_X X) (hS : lt_S s h s h C) (hl : lw_L cl i) (hi : i.toInt = (iN : Int)) (hlen : iN + 6 ≤ X.length) (next : ∀ cl' C', (∃ s h, lt_S s h s h C') → lw_L cl' i → okb (tb_P (some X)) N 0 1697 cl' [] C' K) : okb (tb_P (some X)) (1 + N) 0 374 cl [] C K := by
  refine okb_more (N := N) (by omega) ?_
  refine okb_an rfl hl.2.1 rfl ?_
  obtain ⟨xs, x1, -, -⟩ := hI_f hS.1 (show tb_G 0 = some (.inl (11, _)) from rfl)
  refine okb_cv0 (mj := 135) (as := []) (T := []) rfl rfl x1 rfl rfl rfl (cm_norm (some X) (show cn_ok (tb_P (some X)) tb_G tk_155 from tk_yes (some X) 155 (by decide)) (vs := [.inr (.inl (some 0))]) ⟨rfl, trivial⟩ hS.1 rfl rfl rfl rfl) (fun o C1 hq => ?_)
  obtain ⟨hP, hE⟩ := hq
  have hS1 := lt_cm hS hP
  rw [hS.2.2.2.1, hS.2.2.2.2.1] at hS1
  cases o with
  | inr ce => exact nomatch (show ce ∈ ([] : List Nat) from hE)
  | inl v =>
    obtain ⟨w, rfl⟩ := hE
    refine ⟨_, rfl, ?_⟩
    show okb (tb_P (some X)) N 0 378 _ [.inl (.inl w)] C1 K
    refine okb_p rfl rfl rfl ?_
    refine okb_an rfl hl.2.2.1 rfl ?_
    obtain ⟨ns, n1, -, -⟩ := hI_f hS1.1 (show tb_G 190 = some (.inl (12, _)) from rfl)
    refine okb_cv0 (mj := 222) (as := []) (T := []) rfl rfl n1 rfl rfl rfl (rm_norm (some X) (show cx_ok (tb_P (some X)) tb_G (rf_G 0) trk_70 from tr_yes (some X) 70 (by decide) 0) hS1 (vs := [.inr (.inl (some 190))]) ⟨rfl, trivial⟩ rfl rfl rfl rfl rfl rfl rfl) (fun o C2 hq => ?_)
    obtain ⟨hE, hS2⟩ := hq
    cases o with
    | inr ce => exact nomatch (show ce ∈ ([] : List Nat) from hE)
    | inl v =>
      obtain ⟨w2, rfl⟩ := hE
      refine ⟨_, rfl, ?_⟩
      show okb (tb_P (some X)) N 0 383 _ [.inl (.inl w2)] C2 K
      refine okb_p rfl rfl rfl ?_
      refine okb_p rfl rfl rfl ?_
      exact next _ C2 ⟨_, _, hS2⟩ hl
set_option maxRecDepth 20000 in
set_option maxHeartbeats 1000000 in
theorem lc_5 (hX : lw_X X) (hS : lt_S s h s h C) (hl : lw_L cl i) (hi : i.toInt = (iN : Int)) (hlen : iN + 6 ≤ X.length) (next : ∀ cl' C', (∃ s h, lt_S s h s h C') → lw_L cl' i → okb (tb_P (some X)) N 0 1697 cl' [] C' K) : okb (tb_P (some X)) (1 + N) 0 387 cl [] C K := by
  refine okb_an rfl hl.2.1 rfl ?_
  refine lw_ld hX hl hi (k := 1) (by decide) (by omega) rfl rfl rfl rfl rfl (fun y1 hy1 => ?_)
  refine lw_ld hX hl hi (k := 2) (by decide) (by omega) rfl rfl rfl rfl rfl (fun y2 hy2 => ?_)
  refine okb_an rfl hl.2.2.2.1 rfl ?_
  refine okb_cs (N := N) (N' := 1) (mj := 328) (as := [.inr (.inl (some 0)), .inl (.inl y1), .inl (.inl y2), .inr (.inl (some 215))]) (T := []) rfl rfl rfl rfl (okb_post (wr_clause (some X) hS (cm_norm (some X) (show cn_ok (tb_P (some X)) tb_G tk_156 from tk_yes (some X) 156 (by decide)) (vs := [.inr (.inl (some 0)), .inl (.inl y1), .inl (.inl y2)]) ⟨rfl, at_any y1, at_any y2, trivial⟩ hS.1 rfl rfl rfl rfl)) (fun o C1 hq => ?_))
  obtain ⟨⟨w, rfl⟩, hS1⟩ := hq
  rw [hS.2.2.2.1, hS.2.2.2.2.1] at hS1
  show okb (tb_P (some X)) N 0 404 _ [.inl (.inl w)] C1 K
  refine okb_p rfl rfl rfl ?_
  have hl5 := lw_L_s hl (j := 5) (by decide) (.inl (.inl w))
  revert hl5
  generalize ea_s1 cl 5 (.inl (.inl w)) = cl5
  intro hl5
  refine okb_an rfl hl5.2.2.1 rfl ?_
  refine lw_ld hX hl5 hi (k := 1) (by decide) (by omega) rfl rfl rfl rfl rfl (fun y3 hy3 => ?_)
  refine lw_ld hX hl5 hi (k := 2) (by decide) (by omega) rfl rfl rfl rfl rfl (fun y4 hy4 => ?_)
  obtain ⟨ns, n1, -, -⟩ := hI_f hS1.1 (show tb_G 190 = some (.inl (12, _)) from rfl)
  refine okb_cv0 (mj := 255) (as := [.inl (.inl y3), .inl (.inl y4)]) (T := []) rfl rfl n1 rfl rfl rfl (rm_norm (some X) (show cx_ok (tb_P (some X)) tb_G (rf_G 0) trk_113 from tr_yes (some X) 113 (by decide) 0) hS1 (vs := [.inr (.inl (some 190)), .inl (.inl y3), .inl (.inl y4)]) ⟨rfl, at_any y3, at_any y4, trivial⟩ rfl rfl rfl rfl rfl rfl rfl) (fun o C2 hq => ?_)
  obtain ⟨hE, hS2⟩ := hq
  cases o with
  | inr ce => exact nomatch (show ce ∈ ([] : List Nat) from hE)
  | inl v =>
    obtain ⟨w2, rfl⟩ := hE
    refine ⟨_, rfl, ?_⟩
    show okb (tb_P (some X)) N 0 422 _ [.inl (.inl w2)] C2 K
    refine okb_p rfl rfl rfl ?_
    have hl6 := lw_L_s hl5 (j := 6) (by decide) (.inl (.inl w2))
    revert hl6
    generalize ea_s1 cl5 6 (.inl (.inl w2)) = cl6
    intro hl6
    refine okb_p rfl rfl rfl ?_
    exact next _ C2 ⟨_, _, hS2⟩ hl6
set_option maxRecDepth 20000 in
set_option maxHeartbeats 1000000 in
theorem lc_6 (hX : lw_X X) (hS : lt_S s h s h C) (hl : lw_L cl i) (hi : i.toInt = (iN : Int)) (hlen : iN + 6 ≤ X.length) (next : ∀ cl' C', (∃ s h, lt_S s h s h C') → lw_L cl' i → okb (tb_P (some X)) N 0 1697 cl' [] C' K) : okb (tb_P (some X)) (1 + N) 0 427 cl [] C K := by
  refine okb_an rfl hl.2.1 rfl ?_
  refine lw_ld hX hl hi (k := 1) (by decide) (by omega) rfl rfl rfl rfl rfl (fun y1 hy1 => ?_)
  refine lw_ld hX hl hi (k := 2) (by decide) (by omega) rfl rfl rfl rfl rfl (fun y2 hy2 => ?_)
  refine okb_an rfl hl.2.2.2.1 rfl ?_
  refine okb_cs (N := N) (N' := 1) (mj := 329) (as := [.inr (.inl (some 0)), .inl (.inl y1), .inl (.inl y2), .inr (.inl (some 215))]) (T := []) rfl rfl rfl rfl (okb_post (wr_citizen (some X) hS (cm_norm (some X) (show cn_ok (tb_P (some X)) tb_G tk_157 from tk_yes (some X) 157 (by decide)) (vs := [.inr (.inl (some 0)), .inl (.inl y1), .inl (.inl y2)]) ⟨rfl, at_any y1, at_any y2, trivial⟩ hS.1 rfl rfl rfl rfl)) (fun o C1 hq => ?_))
  obtain ⟨⟨w, rfl⟩, hS1⟩ := hq
  rw [hS.2.2.2.1, hS.2.2.2.2.1] at hS1
  show okb (tb_P (some X)) N 0 444 _ [.inl (.inl w)] C1 K
  refine okb_p rfl rfl rfl ?_
  have hl5 := lw_L_s hl (j := 5) (by decide) (.inl (.inl w))
  revert hl5
  generalize ea_s1 cl 5 (.inl (.inl w)) = cl5
  intro hl5
  refine okb_an rfl hl5.2.2.1 rfl ?_
  refine lw_ld hX hl5 hi (k := 1) (by decide) (by omega) rfl rfl rfl rfl rfl (fun y3 hy3 => ?_)
  refine lw_ld hX hl5 hi (k := 2) (by decide) (by omega) rfl rfl rfl rfl rfl (fun y4 hy4 => ?_)
  obtain ⟨ns, n1, -, -⟩ := hI_f hS1.1 (show tb_G 190 = some (.inl (12, _)) from rfl)
  refine okb_cv0 (mj := 257) (as := [.inl (.inl y3), .inl (.inl y4)]) (T := []) rfl rfl n1 rfl rfl rfl (rm_norm (some X) (show cx_ok (tb_P (some X)) tb_G (rf_G 0) trk_115 from tr_yes (some X) 115 (by decide) 0) hS1 (vs := [.inr (.inl (some 190)), .inl (.inl y3), .inl (.inl y4)]) ⟨rfl, at_any y3, at_any y4, trivial⟩ rfl rfl rfl rfl rfl rfl rfl) (fun o C2 hq => ?_)
  obtain ⟨hE, hS2⟩ := hq
  cases o with
  | inr ce => exact nomatch (show ce ∈ ([] : List Nat) from hE)
  | inl v =>
    obtain ⟨w2, rfl⟩ := hE
    refine ⟨_, rfl, ?_⟩
    show okb (tb_P (some X)) N 0 462 _ [.inl (.inl w2)] C2 K
    refine okb_p rfl rfl rfl ?_
    have hl6 := lw_L_s hl5 (j := 6) (by decide) (.inl (.inl w2))
    revert hl6
    generalize ea_s1 cl5 6 (.inl (.inl w2)) = cl6
    intro hl6
    refine okb_p rfl rfl rfl ?_
    exact next _ C2 ⟨_, _, hS2⟩ hl6
set_option maxRecDepth 20000 in
set_option maxHeartbeats 1000000 in
theorem lc_7 (hX : lw_X X) (hS : lt_S s h s h C) (hl : lw_L cl i) (hi : i.toInt = (iN : Int)) (hlen : iN + 6 ≤ X.length) (next : ∀ cl' C', (∃ s h, lt_S s h s h C') → lw_L cl' i → okb (tb_P (some X)) N 0 1697 cl' [] C' K) : okb (tb_P (some X)) (1 + N) 0 467 cl [] C K := by
  refine okb_an rfl hl.2.1 rfl ?_
  refine lw_ld hX hl hi (k := 1) (by decide) (by omega) rfl rfl rfl rfl rfl (fun y1 hy1 => ?_)
  refine okb_an rfl hl.2.2.2.1 rfl ?_
  refine okb_cs (N := N) (N' := 1) (mj := 330) (as := [.inr (.inl (some 0)), .inl (.inl y1), .inr (.inl (some 215))]) (T := []) rfl rfl rfl rfl (okb_post (wr_seen (some X) hS (cm_norm (some X) (show cn_ok (tb_P (some X)) tb_G tk_158 from tk_yes (some X) 158 (by decide)) (vs := [.inr (.inl (some 0)), .inl (.inl y1)]) ⟨rfl, at_any y1, trivial⟩ hS.1 rfl rfl rfl rfl)) (fun o C1 hq => ?_))
  obtain ⟨⟨w, rfl⟩, hS1⟩ := hq
  rw [hS.2.2.2.1, hS.2.2.2.2.1] at hS1
  show okb (tb_P (some X)) N 0 478 _ [.inl (.inl w)] C1 K
  refine okb_p rfl rfl rfl ?_
  have hl5 := lw_L_s hl (j := 5) (by decide) (.inl (.inl w))
  revert hl5
  generalize ea_s1 cl 5 (.inl (.inl w)) = cl5
  intro hl5
  refine okb_an rfl hl5.2.2.1 rfl ?_
  refine lw_ld hX hl5 hi (k := 1) (by decide) (by omega) rfl rfl rfl rfl rfl (fun y2 hy2 => ?_)
  obtain ⟨ns, n1, -, -⟩ := hI_f hS1.1 (show tb_G 190 = some (.inl (12, _)) from rfl)
  refine okb_cv0 (mj := 258) (as := [.inl (.inl y2)]) (T := []) rfl rfl n1 rfl rfl rfl (rm_norm (some X) (show cx_ok (tb_P (some X)) tb_G (rf_G 0) trk_116 from tr_yes (some X) 116 (by decide) 0) hS1 (vs := [.inr (.inl (some 190)), .inl (.inl y2)]) ⟨rfl, at_any y2, trivial⟩ rfl rfl rfl rfl rfl rfl rfl) (fun o C2 hq => ?_)
  obtain ⟨hE, hS2⟩ := hq
  cases o with
  | inr ce => exact nomatch (show ce ∈ ([] : List Nat) from hE)
  | inl v =>
    obtain ⟨w2, rfl⟩ := hE
    refine ⟨_, rfl, ?_⟩
    show okb (tb_P (some X)) N 0 490 _ [.inr (.inr (.inl (some w2)))] C2 K
    refine okb_p rfl rfl rfl ?_
    have hl6 := lw_L_l hl5 (j := 6) (by decide) (.inr (.inr (.inl (some w2))))
    revert hl6
    generalize ea_s2 cl5 6 (.inr (.inr (.inl (some w2)))) = cl6
    intro hl6
    refine okb_p rfl rfl rfl ?_
    exact next _ C2 ⟨_, _, hS2⟩ hl6
set_option maxRecDepth 20000 in
set_option maxHeartbeats 1000000 in
theorem lc_8 (hX : lw_X X) (hS : lt_S s h s h C) (hl : lw_L cl i) (hi : i.toInt = (iN : Int)) (hlen : iN + 6 ≤ X.length) (next : ∀ cl' C', (∃ s h, lt_S s h s h C') → lw_L cl' i → okb (tb_P (some X)) N 0 1697 cl' [] C' K) : okb (tb_P (some X)) (1 + N) 0 495 cl [] C K := by
  refine okb_an rfl hl.2.1 rfl ?_
  refine lw_ld hX hl hi (k := 1) (by decide) (by omega) rfl rfl rfl rfl rfl (fun y1 hy1 => ?_)
  refine lw_ld hX hl hi (k := 2) (by decide) (by omega) rfl rfl rfl rfl rfl (fun y2 hy2 => ?_)
  refine okb_an rfl hl.2.2.2.1 rfl ?_
  refine okb_cs (N := N) (N' := 1) (mj := 331) (as := [.inr (.inl (some 0)), .inl (.inl y1), .inl (.inl y2), .inr (.inl (some 215))]) (T := []) rfl rfl rfl rfl (okb_post (wr_habit (some X) hS (cm_norm (some X) (show cn_ok (tb_P (some X)) tb_G tk_159 from tk_yes (some X) 159 (by decide)) (vs := [.inr (.inl (some 0)), .inl (.inl y1), .inl (.inl y2)]) ⟨rfl, at_any y1, at_any y2, trivial⟩ hS.1 rfl rfl rfl rfl)) (fun o C1 hq => ?_))
  obtain ⟨⟨w, rfl⟩, hS1⟩ := hq
  rw [hS.2.2.2.1, hS.2.2.2.2.1] at hS1
  show okb (tb_P (some X)) N 0 512 _ [.inl (.inl w)] C1 K
  refine okb_p rfl rfl rfl ?_
  have hl5 := lw_L_s hl (j := 5) (by decide) (.inl (.inl w))
  revert hl5
  generalize ea_s1 cl 5 (.inl (.inl w)) = cl5
  intro hl5
  refine okb_an rfl hl5.2.2.1 rfl ?_
  refine lw_ld hX hl5 hi (k := 1) (by decide) (by omega) rfl rfl rfl rfl rfl (fun y3 hy3 => ?_)
  refine lw_ld hX hl5 hi (k := 2) (by decide) (by omega) rfl rfl rfl rfl rfl (fun y4 hy4 => ?_)
  obtain ⟨ns, n1, -, -⟩ := hI_f hS1.1 (show tb_G 190 = some (.inl (12, _)) from rfl)
  refine okb_cv0 (mj := 259) (as := [.inl (.inl y3), .inl (.inl y4)]) (T := []) rfl rfl n1 rfl rfl rfl (rm_norm (some X) (show cx_ok (tb_P (some X)) tb_G (rf_G 0) trk_117 from tr_yes (some X) 117 (by decide) 0) hS1 (vs := [.inr (.inl (some 190)), .inl (.inl y3), .inl (.inl y4)]) ⟨rfl, at_any y3, at_any y4, trivial⟩ rfl rfl rfl rfl rfl rfl rfl) (fun o C2 hq => ?_)
  obtain ⟨hE, hS2⟩ := hq
  cases o with
  | inr ce => exact nomatch (show ce ∈ ([] : List Nat) from hE)
  | inl v =>
    obtain ⟨w2, rfl⟩ := hE
    refine ⟨_, rfl, ?_⟩
    show okb (tb_P (some X)) N 0 530 _ [.inl (.inl w2)] C2 K
    refine okb_p rfl rfl rfl ?_
    have hl6 := lw_L_s hl5 (j := 6) (by decide) (.inl (.inl w2))
    revert hl6
    generalize ea_s1 cl5 6 (.inl (.inl w2)) = cl6
    intro hl6
    refine okb_p rfl rfl rfl ?_
    exact next _ C2 ⟨_, _, hS2⟩ hl6
set_option maxRecDepth 20000 in
set_option maxHeartbeats 1000000 in
theorem lc_9 (hX : lw_X X) (hS : lt_S s h s h C) (hl : lw_L cl i) (hi : i.toInt = (iN : Int)) (hlen : iN + 6 ≤ X.length) (next : ∀ cl' C', (∃ s h, lt_S s h s h C') → lw_L cl' i → okb (tb_P (some X)) N 0 1697 cl' [] C' K) : okb (tb_P (some X)) (1 + N) 0 535 cl [] C K := by
  refine okb_an rfl hl.2.1 rfl ?_
  refine lw_ld hX hl hi (k := 1) (by decide) (by omega) rfl rfl rfl rfl rfl (fun y1 hy1 => ?_)
  refine lw_ld hX hl hi (k := 2) (by decide) (by omega) rfl rfl rfl rfl rfl (fun y2 hy2 => ?_)
  refine lw_ld hX hl hi (k := 3) (by decide) (by omega) rfl rfl rfl rfl rfl (fun y3 hy3 => ?_)
  refine okb_an rfl hl.2.2.2.1 rfl ?_
  refine okb_cs (N := N) (N' := 1) (mj := 332) (as := [.inr (.inl (some 0)), .inl (.inl y1), .inl (.inl y2), .inl (.inl y3), .inr (.inl (some 215))]) (T := []) rfl rfl rfl rfl (okb_post (wr_matter (some X) hS (cm_norm (some X) (show cn_ok (tb_P (some X)) tb_G tk_160 from tk_yes (some X) 160 (by decide)) (vs := [.inr (.inl (some 0)), .inl (.inl y1), .inl (.inl y2), .inl (.inl y3)]) ⟨rfl, at_any y1, at_any y2, at_any y3, trivial⟩ hS.1 rfl rfl rfl rfl)) (fun o C1 hq => ?_))
  obtain ⟨⟨w, rfl⟩, hS1⟩ := hq
  rw [hS.2.2.2.1, hS.2.2.2.2.1] at hS1
  show okb (tb_P (some X)) N 0 558 _ [.inl (.inl w)] C1 K
  refine okb_p rfl rfl rfl ?_
  have hl5 := lw_L_s hl (j := 5) (by decide) (.inl (.inl w))
  revert hl5
  generalize ea_s1 cl 5 (.inl (.inl w)) = cl5
  intro hl5
  refine okb_an rfl hl5.2.2.1 rfl ?_
  refine lw_ld hX hl5 hi (k := 1) (by decide) (by omega) rfl rfl rfl rfl rfl (fun y4 hy4 => ?_)
  refine lw_ld hX hl5 hi (k := 2) (by decide) (by omega) rfl rfl rfl rfl rfl (fun y5 hy5 => ?_)
  refine lw_ld hX hl5 hi (k := 3) (by decide) (by omega) rfl rfl rfl rfl rfl (fun y6 hy6 => ?_)
  obtain ⟨ns, n1, -, -⟩ := hI_f hS1.1 (show tb_G 190 = some (.inl (12, _)) from rfl)
  refine okb_cv0 (mj := 261) (as := [.inl (.inl y4), .inl (.inl y5), .inl (.inl y6)]) (T := []) rfl rfl n1 rfl rfl rfl (rm_norm (some X) (show cx_ok (tb_P (some X)) tb_G (rf_G 0) trk_118 from tr_yes (some X) 118 (by decide) 0) hS1 (vs := [.inr (.inl (some 190)), .inl (.inl y4), .inl (.inl y5), .inl (.inl y6)]) ⟨rfl, at_any y4, at_any y5, at_any y6, trivial⟩ rfl rfl rfl rfl rfl rfl rfl) (fun o C2 hq => ?_)
  obtain ⟨hE, hS2⟩ := hq
  cases o with
  | inr ce => exact nomatch (show ce ∈ ([] : List Nat) from hE)
  | inl v =>
    obtain ⟨w2, rfl⟩ := hE
    refine ⟨_, rfl, ?_⟩
    show okb (tb_P (some X)) N 0 582 _ [.inl (.inl w2)] C2 K
    refine okb_p rfl rfl rfl ?_
    have hl6 := lw_L_s hl5 (j := 6) (by decide) (.inl (.inl w2))
    revert hl6
    generalize ea_s1 cl5 6 (.inl (.inl w2)) = cl6
    intro hl6
    refine okb_p rfl rfl rfl ?_
    exact next _ C2 ⟨_, _, hS2⟩ hl6
set_option maxRecDepth 20000 in
set_option maxHeartbeats 1000000 in
theorem lc_10 (hX : lw_X X) (hS : lt_S s h s h C) (hl : lw_L cl i) (hi : i.toInt = (iN : Int)) (hlen : iN + 6 ≤ X.length) (next : ∀ cl' C', (∃ s h, lt_S s h s h C') → lw_L cl' i → okb (tb_P (some X)) N 0 1697 cl' [] C' K) : okb (tb_P (some X)) (1 + N) 0 587 cl [] C K := by
  refine okb_an rfl hl.2.1 rfl ?_
  refine lw_ld hX hl hi (k := 1) (by decide) (by omega) rfl rfl rfl rfl rfl (fun y1 hy1 => ?_)
  refine lw_ld hX hl hi (k := 2) (by decide) (by omega) rfl rfl rfl rfl rfl (fun y2 hy2 => ?_)
  refine okb_an rfl hl.2.2.2.1 rfl ?_
  refine okb_cs (N := N) (N' := 1) (mj := 333) (as := [.inr (.inl (some 0)), .inl (.inl y1), .inl (.inl y2), .inr (.inl (some 215))]) (T := []) rfl rfl rfl rfl (okb_post (wr_tell (some X) hS (cm_norm (some X) (show cn_ok (tb_P (some X)) tb_G tk_161 from tk_yes (some X) 161 (by decide)) (vs := [.inr (.inl (some 0)), .inl (.inl y1), .inl (.inl y2)]) ⟨rfl, at_any y1, at_any y2, trivial⟩ hS.1 rfl rfl rfl rfl)) (fun o C1 hq => ?_))
  obtain ⟨⟨w, rfl⟩, hS1⟩ := hq
  rw [hS.2.2.2.1, hS.2.2.2.2.1] at hS1
  show okb (tb_P (some X)) N 0 604 _ [.inl (.inl w)] C1 K
  refine okb_p rfl rfl rfl ?_
  have hl5 := lw_L_s hl (j := 5) (by decide) (.inl (.inl w))
  revert hl5
  generalize ea_s1 cl 5 (.inl (.inl w)) = cl5
  intro hl5
  refine okb_an rfl hl5.2.2.1 rfl ?_
  refine lw_ld hX hl5 hi (k := 1) (by decide) (by omega) rfl rfl rfl rfl rfl (fun y3 hy3 => ?_)
  refine lw_ld hX hl5 hi (k := 2) (by decide) (by omega) rfl rfl rfl rfl rfl (fun y4 hy4 => ?_)
  obtain ⟨ns, n1, -, -⟩ := hI_f hS1.1 (show tb_G 190 = some (.inl (12, _)) from rfl)
  refine okb_cv0 (mj := 262) (as := [.inl (.inl y3), .inl (.inl y4)]) (T := []) rfl rfl n1 rfl rfl rfl (rm_norm (some X) (show cx_ok (tb_P (some X)) tb_G (rf_G 0) trk_120 from tr_yes (some X) 120 (by decide) 0) hS1 (vs := [.inr (.inl (some 190)), .inl (.inl y3), .inl (.inl y4)]) ⟨rfl, at_any y3, at_any y4, trivial⟩ rfl rfl rfl rfl rfl rfl rfl) (fun o C2 hq => ?_)
  obtain ⟨hE, hS2⟩ := hq
  cases o with
  | inr ce => exact nomatch (show ce ∈ ([] : List Nat) from hE)
  | inl v =>
    obtain ⟨w2, rfl⟩ := hE
    refine ⟨_, rfl, ?_⟩
    show okb (tb_P (some X)) N 0 622 _ [.inl (.inl w2)] C2 K
    refine okb_p rfl rfl rfl ?_
    have hl6 := lw_L_s hl5 (j := 6) (by decide) (.inl (.inl w2))
    revert hl6
    generalize ea_s1 cl5 6 (.inl (.inl w2)) = cl6
    intro hl6
    refine okb_p rfl rfl rfl ?_
    exact next _ C2 ⟨_, _, hS2⟩ hl6
set_option maxRecDepth 20000 in
set_option maxHeartbeats 1000000 in
theorem lc_11 (hX : lw_X X) (hS : lt_S s h s h C) (hl : lw_L cl i) (hi : i.toInt = (iN : Int)) (hlen : iN + 6 ≤ X.length) (next : ∀ cl' C', (∃ s h, lt_S s h s h C') → lw_L cl' i → okb (tb_P (some X)) N 0 1697 cl' [] C' K) : okb (tb_P (some X)) (1 + N) 0 627 cl [] C K := by
  refine okb_an rfl hl.2.1 rfl ?_
  refine lw_ld hX hl hi (k := 1) (by decide) (by omega) rfl rfl rfl rfl rfl (fun y1 hy1 => ?_)
  refine okb_an rfl hl.2.2.2.1 rfl ?_
  refine okb_cs (N := N) (N' := 1) (mj := 334) (as := [.inr (.inl (some 0)), .inl (.inl y1), .inr (.inl (some 215))]) (T := []) rfl rfl rfl rfl (okb_post (wr_die (some X) hS (cm_norm (some X) (show cn_ok (tb_P (some X)) tb_G tk_162 from tk_yes (some X) 162 (by decide)) (vs := [.inr (.inl (some 0)), .inl (.inl y1)]) ⟨rfl, at_any y1, trivial⟩ hS.1 rfl rfl rfl rfl)) (fun o C1 hq => ?_))
  obtain ⟨⟨w, rfl⟩, hS1⟩ := hq
  rw [hS.2.2.2.1, hS.2.2.2.2.1] at hS1
  show okb (tb_P (some X)) N 0 638 _ [.inl (.inl w)] C1 K
  refine okb_p rfl rfl rfl ?_
  have hl5 := lw_L_s hl (j := 5) (by decide) (.inl (.inl w))
  revert hl5
  generalize ea_s1 cl 5 (.inl (.inl w)) = cl5
  intro hl5
  refine okb_an rfl hl5.2.2.1 rfl ?_
  refine lw_ld hX hl5 hi (k := 1) (by decide) (by omega) rfl rfl rfl rfl rfl (fun y2 hy2 => ?_)
  obtain ⟨ns, n1, -, -⟩ := hI_f hS1.1 (show tb_G 190 = some (.inl (12, _)) from rfl)
  refine okb_cv0 (mj := 263) (as := [.inl (.inl y2)]) (T := []) rfl rfl n1 rfl rfl rfl (rm_norm (some X) (show cx_ok (tb_P (some X)) tb_G (rf_G 0) trk_121 from tr_yes (some X) 121 (by decide) 0) hS1 (vs := [.inr (.inl (some 190)), .inl (.inl y2)]) ⟨rfl, at_any y2, trivial⟩ rfl rfl rfl rfl rfl rfl rfl) (fun o C2 hq => ?_)
  obtain ⟨hE, hS2⟩ := hq
  cases o with
  | inr ce => exact nomatch (show ce ∈ ([] : List Nat) from hE)
  | inl v =>
    obtain ⟨w2, rfl⟩ := hE
    refine ⟨_, rfl, ?_⟩
    show okb (tb_P (some X)) N 0 650 _ [.inl (.inl w2)] C2 K
    refine okb_p rfl rfl rfl ?_
    have hl6 := lw_L_s hl5 (j := 6) (by decide) (.inl (.inl w2))
    revert hl6
    generalize ea_s1 cl5 6 (.inl (.inl w2)) = cl6
    intro hl6
    refine okb_p rfl rfl rfl ?_
    exact next _ C2 ⟨_, _, hS2⟩ hl6
set_option maxRecDepth 20000 in
set_option maxHeartbeats 1000000 in
theorem lc_12 (hX : lw_X X) (hS : lt_S s h s h C) (hl : lw_L cl i) (hi : i.toInt = (iN : Int)) (hlen : iN + 6 ≤ X.length) (next : ∀ cl' C', (∃ s h, lt_S s h s h C') → lw_L cl' i → okb (tb_P (some X)) N 0 1697 cl' [] C' K) : okb (tb_P (some X)) (1 + N) 0 655 cl [] C K := by
  refine okb_an rfl hl.2.1 rfl ?_
  refine lw_ld hX hl hi (k := 1) (by decide) (by omega) rfl rfl rfl rfl rfl (fun y1 hy1 => ?_)
  refine lw_ld hX hl hi (k := 2) (by decide) (by omega) rfl rfl rfl rfl rfl (fun y2 hy2 => ?_)
  refine okb_an rfl hl.2.2.2.1 rfl ?_
  refine okb_cs (N := N) (N' := 1) (mj := 335) (as := [.inr (.inl (some 0)), .inl (.inl y1), .inl (.inl y2), .inr (.inl (some 215))]) (T := []) rfl rfl rfl rfl (okb_post (wr_wed (some X) hS (cm_norm (some X) (show cn_ok (tb_P (some X)) tb_G tk_163 from tk_yes (some X) 163 (by decide)) (vs := [.inr (.inl (some 0)), .inl (.inl y1), .inl (.inl y2)]) ⟨rfl, at_any y1, at_any y2, trivial⟩ hS.1 rfl rfl rfl rfl)) (fun o C1 hq => ?_))
  obtain ⟨⟨w, rfl⟩, hS1⟩ := hq
  rw [hS.2.2.2.1, hS.2.2.2.2.1] at hS1
  show okb (tb_P (some X)) N 0 672 _ [.inl (.inl w)] C1 K
  refine okb_p rfl rfl rfl ?_
  have hl5 := lw_L_s hl (j := 5) (by decide) (.inl (.inl w))
  revert hl5
  generalize ea_s1 cl 5 (.inl (.inl w)) = cl5
  intro hl5
  refine okb_an rfl hl5.2.2.1 rfl ?_
  refine lw_ld hX hl5 hi (k := 1) (by decide) (by omega) rfl rfl rfl rfl rfl (fun y3 hy3 => ?_)
  refine lw_ld hX hl5 hi (k := 2) (by decide) (by omega) rfl rfl rfl rfl rfl (fun y4 hy4 => ?_)
  obtain ⟨ns, n1, -, -⟩ := hI_f hS1.1 (show tb_G 190 = some (.inl (12, _)) from rfl)
  refine okb_cv0 (mj := 264) (as := [.inl (.inl y3), .inl (.inl y4)]) (T := []) rfl rfl n1 rfl rfl rfl (rm_norm (some X) (show cx_ok (tb_P (some X)) tb_G (rf_G 0) trk_122 from tr_yes (some X) 122 (by decide) 0) hS1 (vs := [.inr (.inl (some 190)), .inl (.inl y3), .inl (.inl y4)]) ⟨rfl, at_any y3, at_any y4, trivial⟩ rfl rfl rfl rfl rfl rfl rfl) (fun o C2 hq => ?_)
  obtain ⟨hE, hS2⟩ := hq
  cases o with
  | inr ce => exact nomatch (show ce ∈ ([] : List Nat) from hE)
  | inl v =>
    obtain ⟨w2, rfl⟩ := hE
    refine ⟨_, rfl, ?_⟩
    show okb (tb_P (some X)) N 0 690 _ [.inl (.inl w2)] C2 K
    refine okb_p rfl rfl rfl ?_
    have hl6 := lw_L_s hl5 (j := 6) (by decide) (.inl (.inl w2))
    revert hl6
    generalize ea_s1 cl5 6 (.inl (.inl w2)) = cl6
    intro hl6
    refine okb_p rfl rfl rfl ?_
    exact next _ C2 ⟨_, _, hS2⟩ hl6
set_option maxRecDepth 20000 in
set_option maxHeartbeats 1000000 in
theorem lc_13 (hX : lw_X X) (hS : lt_S s h s h C) (hl : lw_L cl i) (hi : i.toInt = (iN : Int)) (hlen : iN + 6 ≤ X.length) (next : ∀ cl' C', (∃ s h, lt_S s h s h C') → lw_L cl' i → okb (tb_P (some X)) N 0 1697 cl' [] C' K) : okb (tb_P (some X)) (1 + N) 0 695 cl [] C K := by
  refine okb_an rfl hl.2.1 rfl ?_
  refine lw_ld hX hl hi (k := 1) (by decide) (by omega) rfl rfl rfl rfl rfl (fun y1 hy1 => ?_)
  refine okb_an rfl hl.2.2.2.1 rfl ?_
  refine okb_cs (N := N) (N' := 1) (mj := 336) (as := [.inr (.inl (some 0)), .inl (.inl y1), .inr (.inl (some 215))]) (T := []) rfl rfl rfl rfl (okb_post (wr_baby (some X) hS (cm_norm (some X) (show cn_ok (tb_P (some X)) tb_G tk_164 from tk_yes (some X) 164 (by decide)) (vs := [.inr (.inl (some 0)), .inl (.inl y1)]) ⟨rfl, at_any y1, trivial⟩ hS.1 rfl rfl rfl rfl)) (fun o C1 hq => ?_))
  obtain ⟨⟨w, rfl⟩, hS1⟩ := hq
  rw [hS.2.2.2.1, hS.2.2.2.2.1] at hS1
  show okb (tb_P (some X)) N 0 706 _ [.inl (.inl w)] C1 K
  refine okb_p rfl rfl rfl ?_
  have hl5 := lw_L_s hl (j := 5) (by decide) (.inl (.inl w))
  revert hl5
  generalize ea_s1 cl 5 (.inl (.inl w)) = cl5
  intro hl5
  refine okb_an rfl hl5.2.2.1 rfl ?_
  refine lw_ld hX hl5 hi (k := 1) (by decide) (by omega) rfl rfl rfl rfl rfl (fun y2 hy2 => ?_)
  obtain ⟨ns, n1, -, -⟩ := hI_f hS1.1 (show tb_G 190 = some (.inl (12, _)) from rfl)
  refine okb_cv0 (mj := 265) (as := [.inl (.inl y2)]) (T := []) rfl rfl n1 rfl rfl rfl (rm_norm (some X) (show cx_ok (tb_P (some X)) tb_G (rf_G 0) trk_123 from tr_yes (some X) 123 (by decide) 0) hS1 (vs := [.inr (.inl (some 190)), .inl (.inl y2)]) ⟨rfl, at_any y2, trivial⟩ rfl rfl rfl rfl rfl rfl rfl) (fun o C2 hq => ?_)
  obtain ⟨hE, hS2⟩ := hq
  cases o with
  | inr ce => exact nomatch (show ce ∈ ([] : List Nat) from hE)
  | inl v =>
    obtain ⟨w2, rfl⟩ := hE
    refine ⟨_, rfl, ?_⟩
    show okb (tb_P (some X)) N 0 718 _ [.inl (.inl w2)] C2 K
    refine okb_p rfl rfl rfl ?_
    have hl6 := lw_L_s hl5 (j := 6) (by decide) (.inl (.inl w2))
    revert hl6
    generalize ea_s1 cl5 6 (.inl (.inl w2)) = cl6
    intro hl6
    refine okb_p rfl rfl rfl ?_
    exact next _ C2 ⟨_, _, hS2⟩ hl6
set_option maxRecDepth 20000 in
set_option maxHeartbeats 1000000 in
theorem lc_14 (hX : lw_X X) (hS : lt_S s h s h C) (hl : lw_L cl i) (hi : i.toInt = (iN : Int)) (hlen : iN + 6 ≤ X.length) (next : ∀ cl' C', (∃ s h, lt_S s h s h C') → lw_L cl' i → okb (tb_P (some X)) N 0 1697 cl' [] C' K) : okb (tb_P (some X)) (1 + N) 0 723 cl [] C K := by
  refine okb_an rfl hl.2.1 rfl ?_
  refine lw_ld hX hl hi (k := 1) (by decide) (by omega) rfl rfl rfl rfl rfl (fun y1 hy1 => ?_)
  refine okb_an rfl hl.2.2.2.1 rfl ?_
  refine okb_cs (N := N) (N' := 1) (mj := 337) (as := [.inr (.inl (some 0)), .inl (.inl y1), .inr (.inl (some 215))]) (T := []) rfl rfl rfl rfl (okb_post (wr_release (some X) hS (cm_norm (some X) (show cn_ok (tb_P (some X)) tb_G tk_165 from tk_yes (some X) 165 (by decide)) (vs := [.inr (.inl (some 0)), .inl (.inl y1)]) ⟨rfl, at_any y1, trivial⟩ hS.1 rfl rfl rfl rfl)) (fun o C1 hq => ?_))
  obtain ⟨⟨w, rfl⟩, hS1⟩ := hq
  rw [hS.2.2.2.1, hS.2.2.2.2.1] at hS1
  show okb (tb_P (some X)) N 0 734 _ [.inl (.inl w)] C1 K
  refine okb_p rfl rfl rfl ?_
  have hl5 := lw_L_s hl (j := 5) (by decide) (.inl (.inl w))
  revert hl5
  generalize ea_s1 cl 5 (.inl (.inl w)) = cl5
  intro hl5
  refine okb_an rfl hl5.2.2.1 rfl ?_
  refine lw_ld hX hl5 hi (k := 1) (by decide) (by omega) rfl rfl rfl rfl rfl (fun y2 hy2 => ?_)
  obtain ⟨ns, n1, -, -⟩ := hI_f hS1.1 (show tb_G 190 = some (.inl (12, _)) from rfl)
  refine okb_cv0 (mj := 266) (as := [.inl (.inl y2)]) (T := []) rfl rfl n1 rfl rfl rfl (rm_norm (some X) (show cx_ok (tb_P (some X)) tb_G (rf_G 0) trk_124 from tr_yes (some X) 124 (by decide) 0) hS1 (vs := [.inr (.inl (some 190)), .inl (.inl y2)]) ⟨rfl, at_any y2, trivial⟩ rfl rfl rfl rfl rfl rfl rfl) (fun o C2 hq => ?_)
  obtain ⟨hE, hS2⟩ := hq
  cases o with
  | inr ce => exact nomatch (show ce ∈ ([] : List Nat) from hE)
  | inl v =>
    obtain ⟨w2, rfl⟩ := hE
    refine ⟨_, rfl, ?_⟩
    show okb (tb_P (some X)) N 0 746 _ [.inl (.inl w2)] C2 K
    refine okb_p rfl rfl rfl ?_
    have hl6 := lw_L_s hl5 (j := 6) (by decide) (.inl (.inl w2))
    revert hl6
    generalize ea_s1 cl5 6 (.inl (.inl w2)) = cl6
    intro hl6
    refine okb_p rfl rfl rfl ?_
    exact next _ C2 ⟨_, _, hS2⟩ hl6
set_option maxRecDepth 20000 in
set_option maxHeartbeats 1000000 in
theorem lc_15 (hX : lw_X X) (hS : lt_S s h s h C) (hl : lw_L cl i) (hi : i.toInt = (iN : Int)) (hlen : iN + 6 ≤ X.length) (next : ∀ cl' C', (∃ s h, lt_S s h s h C') → lw_L cl' i → okb (tb_P (some X)) N 0 1697 cl' [] C' K) : okb (tb_P (some X)) (1 + N) 0 751 cl [] C K := by
  refine okb_an rfl hl.2.1 rfl ?_
  refine lw_ld hX hl hi (k := 1) (by decide) (by omega) rfl rfl rfl rfl rfl (fun y1 hy1 => ?_)
  refine okb_an rfl hl.2.2.2.1 rfl ?_
  refine okb_cs (N := N) (N' := 1) (mj := 338) (as := [.inr (.inl (some 0)), .inl (.inl y1), .inr (.inl (some 215))]) (T := []) rfl rfl rfl rfl (okb_post (wr_days (some X) hS (cm_norm (some X) (show cn_ok (tb_P (some X)) tb_G tk_166 from tk_yes (some X) 166 (by decide)) (vs := [.inr (.inl (some 0)), .inl (.inl y1)]) ⟨rfl, at_any y1, trivial⟩ hS.1 rfl rfl rfl rfl)) (fun o C1 hq => ?_))
  obtain ⟨⟨w, rfl⟩, hS1⟩ := hq
  rw [hS.2.2.2.1, hS.2.2.2.2.1] at hS1
  show okb (tb_P (some X)) N 0 762 _ [.inl (.inl w)] C1 K
  refine okb_p rfl rfl rfl ?_
  have hl5 := lw_L_s hl (j := 5) (by decide) (.inl (.inl w))
  revert hl5
  generalize ea_s1 cl 5 (.inl (.inl w)) = cl5
  intro hl5
  refine okb_an rfl hl5.2.2.1 rfl ?_
  refine lw_ld hX hl5 hi (k := 1) (by decide) (by omega) rfl rfl rfl rfl rfl (fun y2 hy2 => ?_)
  obtain ⟨ns, n1, -, -⟩ := hI_f hS1.1 (show tb_G 190 = some (.inl (12, _)) from rfl)
  refine okb_cv0 (mj := 271) (as := [.inl (.inl y2)]) (T := []) rfl rfl n1 rfl rfl rfl (rm_norm (some X) (show cx_ok (tb_P (some X)) tb_G (rf_G 0) trk_129 from tr_yes (some X) 129 (by decide) 0) hS1 (vs := [.inr (.inl (some 190)), .inl (.inl y2)]) ⟨rfl, at_any y2, trivial⟩ rfl rfl rfl rfl rfl rfl rfl) (fun o C2 hq => ?_)
  obtain ⟨hE, hS2⟩ := hq
  cases o with
  | inr ce => exact nomatch (show ce ∈ ([] : List Nat) from hE)
  | inl v =>
    obtain ⟨w2, rfl⟩ := hE
    refine ⟨_, rfl, ?_⟩
    show okb (tb_P (some X)) N 0 774 _ [.inl (.inl w2)] C2 K
    refine okb_p rfl rfl rfl ?_
    have hl6 := lw_L_s hl5 (j := 6) (by decide) (.inl (.inl w2))
    revert hl6
    generalize ea_s1 cl5 6 (.inl (.inl w2)) = cl6
    intro hl6
    refine okb_p rfl rfl rfl ?_
    exact next _ C2 ⟨_, _, hS2⟩ hl6
set_option maxRecDepth 20000 in
set_option maxHeartbeats 1000000 in
theorem lc_16 (hX : lw_X X) (hS : lt_S s h s h C) (hl : lw_L cl i) (hi : i.toInt = (iN : Int)) (hlen : iN + 6 ≤ X.length) (next : ∀ cl' C', (∃ s h, lt_S s h s h C') → lw_L cl' i → okb (tb_P (some X)) N 0 1697 cl' [] C' K) : okb (tb_P (some X)) (1 + N) 0 779 cl [] C K := by
  refine okb_more (N := N) (by omega) ?_
  refine okb_an rfl hl.2.1 rfl ?_
  obtain ⟨xs, x1, -, -⟩ := hI_f hS.1 (show tb_G 0 = some (.inl (11, _)) from rfl)
  refine okb_cv0 (mj := 147) (as := []) (T := []) rfl rfl x1 rfl rfl rfl (cm_norm (some X) (show cn_ok (tb_P (some X)) tb_G tk_167 from tk_yes (some X) 167 (by decide)) (vs := [.inr (.inl (some 0))]) ⟨rfl, trivial⟩ hS.1 rfl rfl rfl rfl) (fun o C1 hq => ?_)
  obtain ⟨hP, hE⟩ := hq
  have hS1 := lt_cm hS hP
  rw [hS.2.2.2.1, hS.2.2.2.2.1] at hS1
  cases o with
  | inr ce => exact nomatch (show ce ∈ ([] : List Nat) from hE)
  | inl v =>
    obtain ⟨w, rfl⟩ := hE
    refine ⟨_, rfl, ?_⟩
    show okb (tb_P (some X)) N 0 783 _ [.inl (.inl w)] C1 K
    refine okb_p rfl rfl rfl ?_
    refine okb_an rfl hl.2.2.1 rfl ?_
    obtain ⟨ns, n1, -, -⟩ := hI_f hS1.1 (show tb_G 190 = some (.inl (12, _)) from rfl)
    refine okb_cv0 (mj := 272) (as := []) (T := []) rfl rfl n1 rfl rfl rfl (rm_norm (some X) (show cx_ok (tb_P (some X)) tb_G (rf_G 0) trk_130 from tr_yes (some X) 130 (by decide) 0) hS1 (vs := [.inr (.inl (some 190))]) ⟨rfl, trivial⟩ rfl rfl rfl rfl rfl rfl rfl) (fun o C2 hq => ?_)
    obtain ⟨hE, hS2⟩ := hq
    cases o with
    | inr ce => exact nomatch (show ce ∈ ([] : List Nat) from hE)
    | inl v =>
      obtain ⟨w2, rfl⟩ := hE
      refine ⟨_, rfl, ?_⟩
      show okb (tb_P (some X)) N 0 788 _ [.inl (.inl w2)] C2 K
      refine okb_p rfl rfl rfl ?_
      refine okb_p rfl rfl rfl ?_
      exact next _ C2 ⟨_, _, hS2⟩ hl
set_option maxRecDepth 20000 in
set_option maxHeartbeats 1000000 in
theorem lc_17 (hX : lw_X X) (hS : lt_S s h s h C) (hl : lw_L cl i) (hi : i.toInt = (iN : Int)) (hlen : iN + 6 ≤ X.length) (next : ∀ cl' C', (∃ s h, lt_S s h s h C') → lw_L cl' i → okb (tb_P (some X)) N 0 1697 cl' [] C' K) : okb (tb_P (some X)) (1 + N) 0 792 cl [] C K := by
  refine okb_more (N := N) (by omega) ?_
  refine okb_an rfl hl.2.1 rfl ?_
  obtain ⟨xs, x1, -, -⟩ := hI_f hS.1 (show tb_G 0 = some (.inl (11, _)) from rfl)
  refine okb_cv0 (mj := 148) (as := []) (T := []) rfl rfl x1 rfl rfl rfl (cm_norm (some X) (show cn_ok (tb_P (some X)) tb_G tk_168 from tk_yes (some X) 168 (by decide)) (vs := [.inr (.inl (some 0))]) ⟨rfl, trivial⟩ hS.1 rfl rfl rfl rfl) (fun o C1 hq => ?_)
  obtain ⟨hP, hE⟩ := hq
  have hS1 := lt_cm hS hP
  rw [hS.2.2.2.1, hS.2.2.2.2.1] at hS1
  cases o with
  | inr ce => exact nomatch (show ce ∈ ([] : List Nat) from hE)
  | inl v =>
    obtain ⟨w, rfl⟩ := hE
    refine ⟨_, rfl, ?_⟩
    show okb (tb_P (some X)) N 0 796 _ [.inl (.inl w)] C1 K
    refine okb_p rfl rfl rfl ?_
    refine okb_an rfl hl.2.2.1 rfl ?_
    obtain ⟨ns, n1, -, -⟩ := hI_f hS1.1 (show tb_G 190 = some (.inl (12, _)) from rfl)
    refine okb_cv0 (mj := 273) (as := []) (T := []) rfl rfl n1 rfl rfl rfl (rm_norm (some X) (show cx_ok (tb_P (some X)) tb_G (rf_G 0) trk_131 from tr_yes (some X) 131 (by decide) 0) hS1 (vs := [.inr (.inl (some 190))]) ⟨rfl, trivial⟩ rfl rfl rfl rfl rfl rfl rfl) (fun o C2 hq => ?_)
    obtain ⟨hE, hS2⟩ := hq
    cases o with
    | inr ce => exact nomatch (show ce ∈ ([] : List Nat) from hE)
    | inl v =>
      obtain ⟨w2, rfl⟩ := hE
      refine ⟨_, rfl, ?_⟩
      show okb (tb_P (some X)) N 0 801 _ [.inl (.inl w2)] C2 K
      refine okb_p rfl rfl rfl ?_
      refine okb_p rfl rfl rfl ?_
      exact next _ C2 ⟨_, _, hS2⟩ hl
set_option maxRecDepth 20000 in
set_option maxHeartbeats 1000000 in
theorem lc_18 (hX : lw_X X) (hS : lt_S s h s h C) (hl : lw_L cl i) (hi : i.toInt = (iN : Int)) (hlen : iN + 6 ≤ X.length) (next : ∀ cl' C', (∃ s h, lt_S s h s h C') → lw_L cl' i → okb (tb_P (some X)) N 0 1697 cl' [] C' K) : okb (tb_P (some X)) (1 + N) 0 805 cl [] C K := by
  refine okb_an rfl hl.2.1 rfl ?_
  refine lw_ld hX hl hi (k := 1) (by decide) (by omega) rfl rfl rfl rfl rfl (fun y1 hy1 => ?_)
  refine okb_an rfl hl.2.2.2.1 rfl ?_
  refine okb_cs (N := N) (N' := 1) (mj := 339) (as := [.inr (.inl (some 0)), .inl (.inl y1), .inr (.inl (some 215))]) (T := []) rfl rfl rfl rfl (okb_post (wr_read (some X) hS (cm_read (some X) hS.1)) (fun o C1 hq => ?_))
  obtain ⟨⟨w, rfl⟩, hS1⟩ := hq
  rw [hS.2.2.2.2.1] at hS1
  show okb (tb_P (some X)) N 0 816 _ [.inl (.inl w)] C1 K
  refine okb_p rfl rfl rfl ?_
  have hl5 := lw_L_s hl (j := 5) (by decide) (.inl (.inl w))
  revert hl5
  generalize ea_s1 cl 5 (.inl (.inl w)) = cl5
  intro hl5
  refine okb_an rfl hl5.2.2.1 rfl ?_
  refine lw_ld hX hl5 hi (k := 1) (by decide) (by omega) rfl rfl rfl rfl rfl (fun y2 hy2 => ?_)
  obtain ⟨ns, n1, -, -⟩ := hI_f hS1.1 (show tb_G 190 = some (.inl (12, _)) from rfl)
  refine okb_cv0 (mj := 278) (as := [.inl (.inl y2)]) (T := []) rfl rfl n1 rfl rfl rfl (rm_use (some X) (show cx_ok (tb_P (some X)) tb_G (rf_G 0) trk_136 from tr_yes (some X) 136 (by decide) 0) hS1 (vs := [.inr (.inl (some 190)), .inl (.inl y2)]) ⟨rfl, at_any y2, trivial⟩ (pre := []) (EV := []) rfl trivial rfl rfl rfl rfl rfl) (fun o C2 hq => ?_)
  obtain ⟨hE, hS2⟩ := hq
  cases o with
  | inr ce => exact nomatch (show ce ∈ ([] : List Nat) from hE)
  | inl v =>
    obtain ⟨w2, rfl⟩ := hE
    refine ⟨_, rfl, ?_⟩
    show okb (tb_P (some X)) N 0 828 _ [.inl (.inl w2)] C2 K
    refine okb_p rfl rfl rfl ?_
    have hl6 := lw_L_s hl5 (j := 6) (by decide) (.inl (.inl w2))
    revert hl6
    generalize ea_s1 cl5 6 (.inl (.inl w2)) = cl6
    intro hl6
    refine okb_p rfl rfl rfl ?_
    exact next _ C2 ⟨_, _, hS2⟩ hl6
set_option maxRecDepth 20000 in
set_option maxHeartbeats 1000000 in
theorem lc_19 (hX : lw_X X) (hS : lt_S s h s h C) (hl : lw_L cl i) (hi : i.toInt = (iN : Int)) (hlen : iN + 6 ≤ X.length) (next : ∀ cl' C', (∃ s h, lt_S s h s h C') → lw_L cl' i → okb (tb_P (some X)) N 0 1697 cl' [] C' K) : okb (tb_P (some X)) (1 + N) 0 833 cl [] C K := by
  refine okb_an rfl hl.2.1 rfl ?_
  refine lw_ld hX hl hi (k := 1) (by decide) (by omega) rfl rfl rfl rfl rfl (fun y1 hy1 => ?_)
  refine okb_an rfl hl.2.2.2.1 rfl ?_
  refine okb_cs (N := N) (N' := 1) (mj := 340) (as := [.inr (.inl (some 0)), .inl (.inl y1), .inr (.inl (some 215))]) (T := []) rfl rfl rfl rfl (okb_post (wr_next (some X) hS (cm_next (some X) hS.1)) (fun o C1 hq => ?_))
  obtain ⟨⟨w, rfl⟩, hS1⟩ := hq
  rw [hS.2.2.2.2.1] at hS1
  show okb (tb_P (some X)) N 0 844 _ [.inl (.inl w)] C1 K
  refine okb_p rfl rfl rfl ?_
  have hl5 := lw_L_s hl (j := 5) (by decide) (.inl (.inl w))
  revert hl5
  generalize ea_s1 cl 5 (.inl (.inl w)) = cl5
  intro hl5
  refine okb_an rfl hl5.2.2.1 rfl ?_
  refine lw_ld hX hl5 hi (k := 1) (by decide) (by omega) rfl rfl rfl rfl rfl (fun y2 hy2 => ?_)
  obtain ⟨ns, n1, -, -⟩ := hI_f hS1.1 (show tb_G 190 = some (.inl (12, _)) from rfl)
  refine okb_cv0 (mj := 279) (as := [.inl (.inl y2)]) (T := []) rfl rfl n1 rfl rfl rfl (rm_use (some X) (show cx_ok (tb_P (some X)) tb_G (rf_G 0) trk_137 from tr_yes (some X) 137 (by decide) 0) hS1 (vs := [.inr (.inl (some 190)), .inl (.inl y2)]) ⟨rfl, at_any y2, trivial⟩ (pre := []) (EV := []) rfl trivial rfl rfl rfl rfl rfl) (fun o C2 hq => ?_)
  obtain ⟨hE, hS2⟩ := hq
  cases o with
  | inr ce => exact nomatch (show ce ∈ ([] : List Nat) from hE)
  | inl v =>
    obtain ⟨w2, rfl⟩ := hE
    refine ⟨_, rfl, ?_⟩
    show okb (tb_P (some X)) N 0 856 _ [.inl (.inl w2)] C2 K
    refine okb_p rfl rfl rfl ?_
    have hl6 := lw_L_s hl5 (j := 6) (by decide) (.inl (.inl w2))
    revert hl6
    generalize ea_s1 cl5 6 (.inl (.inl w2)) = cl6
    intro hl6
    refine okb_p rfl rfl rfl ?_
    exact next _ C2 ⟨_, _, hS2⟩ hl6
set_option maxRecDepth 20000 in
set_option maxHeartbeats 1000000 in
theorem lc_20 (hX : lw_X X) (hS : lt_S s h s h C) (hl : lw_L cl i) (hi : i.toInt = (iN : Int)) (hlen : iN + 6 ≤ X.length) (next : ∀ cl' C', (∃ s h, lt_S s h s h C') → lw_L cl' i → okb (tb_P (some X)) N 0 1697 cl' [] C' K) : okb (tb_P (some X)) (1 + N) 0 861 cl [] C K := by
  refine okb_more (N := N) (by omega) ?_
  refine okb_an rfl hl.2.1 rfl ?_
  obtain ⟨xs, x1, -, -⟩ := hI_f hS.1 (show tb_G 0 = some (.inl (11, _)) from rfl)
  refine okb_cv0 (mj := 151) (as := []) (T := []) rfl rfl x1 rfl rfl rfl (cm_norm (some X) (show cn_ok (tb_P (some X)) tb_G tk_171 from tk_yes (some X) 171 (by decide)) (vs := [.inr (.inl (some 0))]) ⟨rfl, trivial⟩ hS.1 rfl rfl rfl rfl) (fun o C1 hq => ?_)
  obtain ⟨hP, hE⟩ := hq
  have hS1 := lt_cm hS hP
  rw [hS.2.2.2.1, hS.2.2.2.2.1] at hS1
  cases o with
  | inr ce => exact nomatch (show ce ∈ ([] : List Nat) from hE)
  | inl v =>
    obtain ⟨w, rfl⟩ := hE
    refine ⟨_, rfl, ?_⟩
    show okb (tb_P (some X)) N 0 865 _ [.inl (.inl w)] C1 K
    refine okb_p rfl rfl rfl ?_
    refine okb_an rfl hl.2.2.1 rfl ?_
    obtain ⟨ns, n1, -, -⟩ := hI_f hS1.1 (show tb_G 190 = some (.inl (12, _)) from rfl)
    refine okb_cv0 (mj := 280) (as := []) (T := []) rfl rfl n1 rfl rfl rfl (rm_norm (some X) (show cx_ok (tb_P (some X)) tb_G (rf_G 0) trk_138 from tr_yes (some X) 138 (by decide) 0) hS1 (vs := [.inr (.inl (some 190))]) ⟨rfl, trivial⟩ rfl rfl rfl rfl rfl rfl rfl) (fun o C2 hq => ?_)
    obtain ⟨hE, hS2⟩ := hq
    cases o with
    | inr ce => exact nomatch (show ce ∈ ([] : List Nat) from hE)
    | inl v =>
      obtain ⟨w2, rfl⟩ := hE
      refine ⟨_, rfl, ?_⟩
      show okb (tb_P (some X)) N 0 870 _ [.inl (.inl w2)] C2 K
      refine okb_p rfl rfl rfl ?_
      refine okb_p rfl rfl rfl ?_
      exact next _ C2 ⟨_, _, hS2⟩ hl
set_option maxRecDepth 20000 in
set_option maxHeartbeats 1000000 in
theorem lc_21 (hX : lw_X X) (hS : lt_S s h s h C) (hl : lw_L cl i) (hi : i.toInt = (iN : Int)) (hlen : iN + 6 ≤ X.length) (next : ∀ cl' C', (∃ s h, lt_S s h s h C') → lw_L cl' i → okb (tb_P (some X)) N 0 1697 cl' [] C' K) : okb (tb_P (some X)) (1 + N) 0 874 cl [] C K := by
  refine okb_an rfl hl.2.1 rfl ?_
  refine lw_ld hX hl hi (k := 1) (by decide) (by omega) rfl rfl rfl rfl rfl (fun y1 hy1 => ?_)
  refine okb_an rfl hl.2.2.2.1 rfl ?_
  refine okb_cs (N := N) (N' := 1) (mj := 341) (as := [.inr (.inl (some 0)), .inl (.inl y1), .inr (.inl (some 215))]) (T := []) rfl rfl rfl rfl (okb_post (wr_dies (some X) hS (cm_norm (some X) (show cn_ok (tb_P (some X)) tb_G tk_172 from tk_yes (some X) 172 (by decide)) (vs := [.inr (.inl (some 0)), .inl (.inl y1)]) ⟨rfl, at_any y1, trivial⟩ hS.1 rfl rfl rfl rfl)) (fun o C1 hq => ?_))
  obtain ⟨⟨w, rfl⟩, hS1⟩ := hq
  rw [hS.2.2.2.1, hS.2.2.2.2.1] at hS1
  show okb (tb_P (some X)) N 0 885 _ [.inl (.inl w)] C1 K
  refine okb_p rfl rfl rfl ?_
  have hl5 := lw_L_s hl (j := 5) (by decide) (.inl (.inl w))
  revert hl5
  generalize ea_s1 cl 5 (.inl (.inl w)) = cl5
  intro hl5
  refine okb_an rfl hl5.2.2.1 rfl ?_
  refine lw_ld hX hl5 hi (k := 1) (by decide) (by omega) rfl rfl rfl rfl rfl (fun y2 hy2 => ?_)
  obtain ⟨ns, n1, -, -⟩ := hI_f hS1.1 (show tb_G 190 = some (.inl (12, _)) from rfl)
  refine okb_cv0 (mj := 281) (as := [.inl (.inl y2)]) (T := []) rfl rfl n1 rfl rfl rfl (rm_norm (some X) (show cx_ok (tb_P (some X)) tb_G (rf_G 0) trk_139 from tr_yes (some X) 139 (by decide) 0) hS1 (vs := [.inr (.inl (some 190)), .inl (.inl y2)]) ⟨rfl, at_any y2, trivial⟩ rfl rfl rfl rfl rfl rfl rfl) (fun o C2 hq => ?_)
  obtain ⟨hE, hS2⟩ := hq
  cases o with
  | inr ce => exact nomatch (show ce ∈ ([] : List Nat) from hE)
  | inl v =>
    obtain ⟨w2, rfl⟩ := hE
    refine ⟨_, rfl, ?_⟩
    show okb (tb_P (some X)) N 0 897 _ [.inl (.inl w2)] C2 K
    refine okb_p rfl rfl rfl ?_
    have hl6 := lw_L_s hl5 (j := 6) (by decide) (.inl (.inl w2))
    revert hl6
    generalize ea_s1 cl5 6 (.inl (.inl w2)) = cl6
    intro hl6
    refine okb_p rfl rfl rfl ?_
    exact next _ C2 ⟨_, _, hS2⟩ hl6
set_option maxRecDepth 20000 in
set_option maxHeartbeats 1000000 in
theorem lc_22 (hX : lw_X X) (hS : lt_S s h s h C) (hl : lw_L cl i) (hi : i.toInt = (iN : Int)) (hlen : iN + 6 ≤ X.length) (next : ∀ cl' C', (∃ s h, lt_S s h s h C') → lw_L cl' i → okb (tb_P (some X)) N 0 1697 cl' [] C' K) : okb (tb_P (some X)) (1 + N) 0 902 cl [] C K := by
  refine okb_an rfl hl.2.1 rfl ?_
  refine lw_ld hX hl hi (k := 1) (by decide) (by omega) rfl rfl rfl rfl rfl (fun y1 hy1 => ?_)
  refine okb_an rfl hl.2.2.2.1 rfl ?_
  refine okb_cs (N := N) (N' := 1) (mj := 342) (as := [.inr (.inl (some 0)), .inl (.inl y1), .inr (.inl (some 215))]) (T := []) rfl rfl rfl rfl (okb_post (wr_heirs (some X) hS (cm_norm (some X) (show cn_ok (tb_P (some X)) tb_G tk_173 from tk_yes (some X) 173 (by decide)) (vs := [.inr (.inl (some 0)), .inl (.inl y1)]) ⟨rfl, at_any y1, trivial⟩ hS.1 rfl rfl rfl rfl)) (fun o C1 hq => ?_))
  obtain ⟨⟨w, rfl⟩, hS1⟩ := hq
  rw [hS.2.2.2.1, hS.2.2.2.2.1] at hS1
  show okb (tb_P (some X)) N 0 913 _ [.inl (.inl w)] C1 K
  refine okb_p rfl rfl rfl ?_
  have hl5 := lw_L_s hl (j := 5) (by decide) (.inl (.inl w))
  revert hl5
  generalize ea_s1 cl 5 (.inl (.inl w)) = cl5
  intro hl5
  refine okb_an rfl hl5.2.2.1 rfl ?_
  refine lw_ld hX hl5 hi (k := 1) (by decide) (by omega) rfl rfl rfl rfl rfl (fun y2 hy2 => ?_)
  obtain ⟨ns, n1, -, -⟩ := hI_f hS1.1 (show tb_G 190 = some (.inl (12, _)) from rfl)
  refine okb_cv0 (mj := 282) (as := [.inl (.inl y2)]) (T := []) rfl rfl n1 rfl rfl rfl (rm_norm (some X) (show cx_ok (tb_P (some X)) tb_G (rf_G 0) trk_140 from tr_yes (some X) 140 (by decide) 0) hS1 (vs := [.inr (.inl (some 190)), .inl (.inl y2)]) ⟨rfl, at_any y2, trivial⟩ rfl rfl rfl rfl rfl rfl rfl) (fun o C2 hq => ?_)
  obtain ⟨hE, hS2⟩ := hq
  cases o with
  | inr ce => exact nomatch (show ce ∈ ([] : List Nat) from hE)
  | inl v =>
    obtain ⟨w2, rfl⟩ := hE
    refine ⟨_, rfl, ?_⟩
    show okb (tb_P (some X)) N 0 925 _ [.inl (.inl w2)] C2 K
    refine okb_p rfl rfl rfl ?_
    have hl6 := lw_L_s hl5 (j := 6) (by decide) (.inl (.inl w2))
    revert hl6
    generalize ea_s1 cl5 6 (.inl (.inl w2)) = cl6
    intro hl6
    refine okb_p rfl rfl rfl ?_
    exact next _ C2 ⟨_, _, hS2⟩ hl6
set_option maxRecDepth 20000 in
set_option maxHeartbeats 1000000 in
theorem lc_23 (hX : lw_X X) (hS : lt_S s h s h C) (hl : lw_L cl i) (hi : i.toInt = (iN : Int)) (hlen : iN + 6 ≤ X.length) (next : ∀ cl' C', (∃ s h, lt_S s h s h C') → lw_L cl' i → okb (tb_P (some X)) N 0 1697 cl' [] C' K) : okb (tb_P (some X)) (1 + N) 0 930 cl [] C K := by
  refine okb_an rfl hl.2.1 rfl ?_
  refine lw_ld hX hl hi (k := 1) (by decide) (by omega) rfl rfl rfl rfl rfl (fun y1 hy1 => ?_)
  refine lw_ld hX hl hi (k := 2) (by decide) (by omega) rfl rfl rfl rfl rfl (fun y2 hy2 => ?_)
  refine okb_an rfl hl.2.2.2.1 rfl ?_
  refine okb_cs (N := N) (N' := 1) (mj := 343) (as := [.inr (.inl (some 0)), .inl (.inl y1), .inl (.inl y2), .inr (.inl (some 215))]) (T := []) rfl rfl rfl rfl (okb_post (wr_risk (some X) hS (cm_norm (some X) (show cn_ok (tb_P (some X)) tb_G tk_174 from tk_yes (some X) 174 (by decide)) (vs := [.inr (.inl (some 0)), .inl (.inl y1), .inl (.inl y2)]) ⟨rfl, at_any y1, at_any y2, trivial⟩ hS.1 rfl rfl rfl rfl)) (fun o C1 hq => ?_))
  obtain ⟨⟨w, rfl⟩, hS1⟩ := hq
  rw [hS.2.2.2.1, hS.2.2.2.2.1] at hS1
  show okb (tb_P (some X)) N 0 947 _ [.inl (.inl w)] C1 K
  refine okb_p rfl rfl rfl ?_
  have hl5 := lw_L_s hl (j := 5) (by decide) (.inl (.inl w))
  revert hl5
  generalize ea_s1 cl 5 (.inl (.inl w)) = cl5
  intro hl5
  refine okb_an rfl hl5.2.2.1 rfl ?_
  refine lw_ld hX hl5 hi (k := 1) (by decide) (by omega) rfl rfl rfl rfl rfl (fun y3 hy3 => ?_)
  refine lw_ld hX hl5 hi (k := 2) (by decide) (by omega) rfl rfl rfl rfl rfl (fun y4 hy4 => ?_)
  obtain ⟨ns, n1, -, -⟩ := hI_f hS1.1 (show tb_G 190 = some (.inl (12, _)) from rfl)
  refine okb_cv0 (mj := 285) (as := [.inl (.inl y3), .inl (.inl y4)]) (T := []) rfl rfl n1 rfl rfl rfl (rm_norm (some X) (show cx_ok (tb_P (some X)) tb_G (rf_G 0) trk_142 from tr_yes (some X) 142 (by decide) 0) hS1 (vs := [.inr (.inl (some 190)), .inl (.inl y3), .inl (.inl y4)]) ⟨rfl, at_any y3, at_any y4, trivial⟩ rfl rfl rfl rfl rfl rfl rfl) (fun o C2 hq => ?_)
  obtain ⟨hE, hS2⟩ := hq
  cases o with
  | inr ce => exact nomatch (show ce ∈ ([] : List Nat) from hE)
  | inl v =>
    obtain ⟨w2, rfl⟩ := hE
    refine ⟨_, rfl, ?_⟩
    show okb (tb_P (some X)) N 0 965 _ [.inl (.inl w2)] C2 K
    refine okb_p rfl rfl rfl ?_
    have hl6 := lw_L_s hl5 (j := 6) (by decide) (.inl (.inl w2))
    revert hl6
    generalize ea_s1 cl5 6 (.inl (.inl w2)) = cl6
    intro hl6
    refine okb_p rfl rfl rfl ?_
    exact next _ C2 ⟨_, _, hS2⟩ hl6
set_option maxRecDepth 20000 in
set_option maxHeartbeats 1000000 in
theorem lc_24 (hX : lw_X X) (hS : lt_S s h s h C) (hl : lw_L cl i) (hi : i.toInt = (iN : Int)) (hlen : iN + 6 ≤ X.length) (next : ∀ cl' C', (∃ s h, lt_S s h s h C') → lw_L cl' i → okb (tb_P (some X)) N 0 1697 cl' [] C' K) : okb (tb_P (some X)) (1 + N) 0 970 cl [] C K := by
  refine okb_an rfl hl.2.1 rfl ?_
  refine lw_ld hX hl hi (k := 1) (by decide) (by omega) rfl rfl rfl rfl rfl (fun y1 hy1 => ?_)
  refine lw_ld hX hl hi (k := 2) (by decide) (by omega) rfl rfl rfl rfl rfl (fun y2 hy2 => ?_)
  refine okb_an rfl hl.2.2.2.1 rfl ?_
  refine okb_cs (N := N) (N' := 1) (mj := 344) (as := [.inr (.inl (some 0)), .inl (.inl y1), .inl (.inl y2), .inr (.inl (some 215))]) (T := []) rfl rfl rfl rfl (okb_post (wr_safe (some X) hS (cm_norm (some X) (show cn_ok (tb_P (some X)) tb_G tk_175 from tk_yes (some X) 175 (by decide)) (vs := [.inr (.inl (some 0)), .inl (.inl y1), .inl (.inl y2)]) ⟨rfl, at_any y1, at_any y2, trivial⟩ hS.1 rfl rfl rfl rfl)) (fun o C1 hq => ?_))
  obtain ⟨⟨w, rfl⟩, hS1⟩ := hq
  rw [hS.2.2.2.1, hS.2.2.2.2.1] at hS1
  show okb (tb_P (some X)) N 0 987 _ [.inl (.inl w)] C1 K
  refine okb_p rfl rfl rfl ?_
  have hl5 := lw_L_s hl (j := 5) (by decide) (.inl (.inl w))
  revert hl5
  generalize ea_s1 cl 5 (.inl (.inl w)) = cl5
  intro hl5
  refine okb_an rfl hl5.2.2.1 rfl ?_
  refine lw_ld hX hl5 hi (k := 1) (by decide) (by omega) rfl rfl rfl rfl rfl (fun y3 hy3 => ?_)
  refine lw_ld hX hl5 hi (k := 2) (by decide) (by omega) rfl rfl rfl rfl rfl (fun y4 hy4 => ?_)
  obtain ⟨ns, n1, -, -⟩ := hI_f hS1.1 (show tb_G 190 = some (.inl (12, _)) from rfl)
  refine okb_cv0 (mj := 286) (as := [.inl (.inl y3), .inl (.inl y4)]) (T := []) rfl rfl n1 rfl rfl rfl (rm_norm (some X) (show cx_ok (tb_P (some X)) tb_G (rf_G 0) trk_143 from tr_yes (some X) 143 (by decide) 0) hS1 (vs := [.inr (.inl (some 190)), .inl (.inl y3), .inl (.inl y4)]) ⟨rfl, at_any y3, at_any y4, trivial⟩ rfl rfl rfl rfl rfl rfl rfl) (fun o C2 hq => ?_)
  obtain ⟨hE, hS2⟩ := hq
  cases o with
  | inr ce => exact nomatch (show ce ∈ ([] : List Nat) from hE)
  | inl v =>
    obtain ⟨w2, rfl⟩ := hE
    refine ⟨_, rfl, ?_⟩
    show okb (tb_P (some X)) N 0 1005 _ [.inl (.inl w2)] C2 K
    refine okb_p rfl rfl rfl ?_
    have hl6 := lw_L_s hl5 (j := 6) (by decide) (.inl (.inl w2))
    revert hl6
    generalize ea_s1 cl5 6 (.inl (.inl w2)) = cl6
    intro hl6
    refine okb_p rfl rfl rfl ?_
    exact next _ C2 ⟨_, _, hS2⟩ hl6
set_option maxRecDepth 20000 in
set_option maxHeartbeats 1000000 in
theorem lc_25 (hX : lw_X X) (hS : lt_S s h s h C) (hl : lw_L cl i) (hi : i.toInt = (iN : Int)) (hlen : iN + 6 ≤ X.length) (next : ∀ cl' C', (∃ s h, lt_S s h s h C') → lw_L cl' i → okb (tb_P (some X)) N 0 1697 cl' [] C' K) : okb (tb_P (some X)) (1 + N) 0 1010 cl [] C K := by
  refine okb_an rfl hl.2.1 rfl ?_
  refine lw_ld hX hl hi (k := 1) (by decide) (by omega) rfl rfl rfl rfl rfl (fun y1 hy1 => ?_)
  refine lw_ld hX hl hi (k := 2) (by decide) (by omega) rfl rfl rfl rfl rfl (fun y2 hy2 => ?_)
  refine okb_an rfl hl.2.2.2.1 rfl ?_
  refine okb_cs (N := N) (N' := 1) (mj := 345) (as := [.inr (.inl (some 0)), .inl (.inl y1), .inl (.inl y2), .inr (.inl (some 215))]) (T := []) rfl rfl rfl rfl (okb_post (wr_better (some X) hS (cm_norm (some X) (show cn_ok (tb_P (some X)) tb_G tk_176 from tk_yes (some X) 176 (by decide)) (vs := [.inr (.inl (some 0)), .inl (.inl y1), .inl (.inl y2)]) ⟨rfl, at_any y1, at_any y2, trivial⟩ hS.1 rfl rfl rfl rfl)) (fun o C1 hq => ?_))
  obtain ⟨⟨w, rfl⟩, hS1⟩ := hq
  rw [hS.2.2.2.1, hS.2.2.2.2.1] at hS1
  show okb (tb_P (some X)) N 0 1027 _ [.inl (.inl w)] C1 K
  refine okb_p rfl rfl rfl ?_
  have hl5 := lw_L_s hl (j := 5) (by decide) (.inl (.inl w))
  revert hl5
  generalize ea_s1 cl 5 (.inl (.inl w)) = cl5
  intro hl5
  refine okb_an rfl hl5.2.2.1 rfl ?_
  refine lw_ld hX hl5 hi (k := 1) (by decide) (by omega) rfl rfl rfl rfl rfl (fun y3 hy3 => ?_)
  refine lw_ld hX hl5 hi (k := 2) (by decide) (by omega) rfl rfl rfl rfl rfl (fun y4 hy4 => ?_)
  obtain ⟨ns, n1, -, -⟩ := hI_f hS1.1 (show tb_G 190 = some (.inl (12, _)) from rfl)
  refine okb_cv0 (mj := 287) (as := [.inl (.inl y3), .inl (.inl y4)]) (T := []) rfl rfl n1 rfl rfl rfl (rm_norm (some X) (show cx_ok (tb_P (some X)) tb_G (rf_G 0) trk_144 from tr_yes (some X) 144 (by decide) 0) hS1 (vs := [.inr (.inl (some 190)), .inl (.inl y3), .inl (.inl y4)]) ⟨rfl, at_any y3, at_any y4, trivial⟩ rfl rfl rfl rfl rfl rfl rfl) (fun o C2 hq => ?_)
  obtain ⟨hE, hS2⟩ := hq
  cases o with
  | inr ce => exact nomatch (show ce ∈ ([] : List Nat) from hE)
  | inl v =>
    obtain ⟨w2, rfl⟩ := hE
    refine ⟨_, rfl, ?_⟩
    show okb (tb_P (some X)) N 0 1045 _ [.inl (.inl w2)] C2 K
    refine okb_p rfl rfl rfl ?_
    have hl6 := lw_L_s hl5 (j := 6) (by decide) (.inl (.inl w2))
    revert hl6
    generalize ea_s1 cl5 6 (.inl (.inl w2)) = cl6
    intro hl6
    refine okb_p rfl rfl rfl ?_
    exact next _ C2 ⟨_, _, hS2⟩ hl6
set_option maxRecDepth 20000 in
set_option maxHeartbeats 1000000 in
theorem lc_26 (hX : lw_X X) (hS : lt_S s h s h C) (hl : lw_L cl i) (hi : i.toInt = (iN : Int)) (hlen : iN + 6 ≤ X.length) (next : ∀ cl' C', (∃ s h, lt_S s h s h C') → lw_L cl' i → okb (tb_P (some X)) N 0 1697 cl' [] C' K) : okb (tb_P (some X)) (1 + N) 0 1050 cl [] C K := by
  refine okb_an rfl hl.2.1 rfl ?_
  refine lw_ld hX hl hi (k := 1) (by decide) (by omega) rfl rfl rfl rfl rfl (fun y1 hy1 => ?_)
  refine lw_ld hX hl hi (k := 2) (by decide) (by omega) rfl rfl rfl rfl rfl (fun y2 hy2 => ?_)
  refine lw_bo rfl rfl rfl rfl rfl rfl (fun by2 hby2 => ?_)
  refine okb_an rfl hl.2.2.2.1 rfl ?_
  refine okb_cs (N := N) (N' := 1) (mj := 346) (as := [.inr (.inl (some 0)), .inl (.inl y1), .inl (.inl by2), .inr (.inl (some 215))]) (T := []) rfl rfl rfl rfl (okb_post (wr_telling (some X) hS (cm_norm (some X) (show cn_ok (tb_P (some X)) tb_G tk_177 from tk_yes (some X) 177 (by decide)) (vs := [.inr (.inl (some 0)), .inl (.inl y1), .inl (.inl by2)]) ⟨rfl, at_any y1, at_bo hby2, trivial⟩ hS.1 rfl rfl rfl rfl)) (fun o C1 hq => ?_))
  obtain ⟨⟨w, rfl⟩, hS1⟩ := hq
  rw [hS.2.2.2.1, hS.2.2.2.2.1] at hS1
  show okb (tb_P (some X)) N 0 1075 _ [.inl (.inl w)] C1 K
  refine okb_p rfl rfl rfl ?_
  have hl5 := lw_L_s hl (j := 5) (by decide) (.inl (.inl w))
  revert hl5
  generalize ea_s1 cl 5 (.inl (.inl w)) = cl5
  intro hl5
  refine okb_an rfl hl5.2.2.1 rfl ?_
  refine lw_ld hX hl5 hi (k := 1) (by decide) (by omega) rfl rfl rfl rfl rfl (fun y3 hy3 => ?_)
  refine lw_ld hX hl5 hi (k := 2) (by decide) (by omega) rfl rfl rfl rfl rfl (fun y4 hy4 => ?_)
  refine lw_bo rfl rfl rfl rfl rfl rfl (fun by4 hby4 => ?_)
  obtain ⟨ns, n1, -, -⟩ := hI_f hS1.1 (show tb_G 190 = some (.inl (12, _)) from rfl)
  refine okb_cv0 (mj := 288) (as := [.inl (.inl y3), .inl (.inl by4)]) (T := []) rfl rfl n1 rfl rfl rfl (rm_norm (some X) (show cx_ok (tb_P (some X)) tb_G (rf_G 0) trk_145 from tr_yes (some X) 145 (by decide) 0) hS1 (vs := [.inr (.inl (some 190)), .inl (.inl y3), .inl (.inl by4)]) ⟨rfl, at_any y3, at_bo hby4, trivial⟩ rfl rfl rfl rfl rfl rfl rfl) (fun o C2 hq => ?_)
  obtain ⟨hE, hS2⟩ := hq
  cases o with
  | inr ce => exact nomatch (show ce ∈ ([] : List Nat) from hE)
  | inl v =>
    obtain ⟨w2, rfl⟩ := hE
    refine ⟨_, rfl, ?_⟩
    show okb (tb_P (some X)) N 0 1101 _ [.inl (.inl w2)] C2 K
    refine okb_p rfl rfl rfl ?_
    have hl6 := lw_L_s hl5 (j := 6) (by decide) (.inl (.inl w2))
    revert hl6
    generalize ea_s1 cl5 6 (.inl (.inl w2)) = cl6
    intro hl6
    refine okb_p rfl rfl rfl ?_
    exact next _ C2 ⟨_, _, hS2⟩ hl6
set_option maxRecDepth 20000 in
set_option maxHeartbeats 1000000 in
theorem lc_27 (hX : lw_X X) (hS : lt_S s h s h C) (hl : lw_L cl i) (hi : i.toInt = (iN : Int)) (hlen : iN + 6 ≤ X.length) (next : ∀ cl' C', (∃ s h, lt_S s h s h C') → lw_L cl' i → okb (tb_P (some X)) N 0 1697 cl' [] C' K) : okb (tb_P (some X)) (1 + N) 0 1106 cl [] C K := by
  refine okb_an rfl hl.2.1 rfl ?_
  refine lw_ld hX hl hi (k := 1) (by decide) (by omega) rfl rfl rfl rfl rfl (fun y1 hy1 => ?_)
  refine okb_an rfl hl.2.2.2.1 rfl ?_
  refine okb_cs (N := N) (N' := 1) (mj := 347) (as := [.inr (.inl (some 0)), .inl (.inl y1), .inr (.inl (some 215))]) (T := []) rfl rfl rfl rfl (okb_post (wr_deduced (some X) hS (cm_norm (some X) (show cn_ok (tb_P (some X)) tb_G tk_178 from tk_yes (some X) 178 (by decide)) (vs := [.inr (.inl (some 0)), .inl (.inl y1)]) ⟨rfl, at_any y1, trivial⟩ hS.1 rfl rfl rfl rfl)) (fun o C1 hq => ?_))
  obtain ⟨⟨w, rfl⟩, hS1⟩ := hq
  rw [hS.2.2.2.1, hS.2.2.2.2.1] at hS1
  show okb (tb_P (some X)) N 0 1117 _ [.inl (.inl w)] C1 K
  refine okb_p rfl rfl rfl ?_
  have hl5 := lw_L_s hl (j := 5) (by decide) (.inl (.inl w))
  revert hl5
  generalize ea_s1 cl 5 (.inl (.inl w)) = cl5
  intro hl5
  refine okb_an rfl hl5.2.2.1 rfl ?_
  refine lw_ld hX hl5 hi (k := 1) (by decide) (by omega) rfl rfl rfl rfl rfl (fun y2 hy2 => ?_)
  obtain ⟨ns, n1, -, -⟩ := hI_f hS1.1 (show tb_G 190 = some (.inl (12, _)) from rfl)
  refine okb_cv0 (mj := 289) (as := [.inl (.inl y2)]) (T := []) rfl rfl n1 rfl rfl rfl (rm_norm (some X) (show cx_ok (tb_P (some X)) tb_G (rf_G 0) trk_146 from tr_yes (some X) 146 (by decide) 0) hS1 (vs := [.inr (.inl (some 190)), .inl (.inl y2)]) ⟨rfl, at_any y2, trivial⟩ rfl rfl rfl rfl rfl rfl rfl) (fun o C2 hq => ?_)
  obtain ⟨hE, hS2⟩ := hq
  cases o with
  | inr ce => exact nomatch (show ce ∈ ([] : List Nat) from hE)
  | inl v =>
    obtain ⟨w2, rfl⟩ := hE
    refine ⟨_, rfl, ?_⟩
    show okb (tb_P (some X)) N 0 1129 _ [.inl (.inl w2)] C2 K
    refine okb_p rfl rfl rfl ?_
    have hl6 := lw_L_s hl5 (j := 6) (by decide) (.inl (.inl w2))
    revert hl6
    generalize ea_s1 cl5 6 (.inl (.inl w2)) = cl6
    intro hl6
    refine okb_p rfl rfl rfl ?_
    exact next _ C2 ⟨_, _, hS2⟩ hl6
set_option maxRecDepth 20000 in
set_option maxHeartbeats 1000000 in
theorem lc_28 (hX : lw_X X) (hS : lt_S s h s h C) (hl : lw_L cl i) (hi : i.toInt = (iN : Int)) (hlen : iN + 6 ≤ X.length) (next : ∀ cl' C', (∃ s h, lt_S s h s h C') → lw_L cl' i → okb (tb_P (some X)) N 0 1697 cl' [] C' K) : okb (tb_P (some X)) (1 + N) 0 1134 cl [] C K := by
  refine okb_an rfl hl.2.1 rfl ?_
  refine lw_ld hX hl hi (k := 1) (by decide) (by omega) rfl rfl rfl rfl rfl (fun y1 hy1 => ?_)
  refine okb_an rfl hl.2.2.2.1 rfl ?_
  refine okb_cs (N := N) (N' := 1) (mj := 348) (as := [.inr (.inl (some 0)), .inl (.inl y1), .inr (.inl (some 215))]) (T := []) rfl rfl rfl rfl (okb_post (wr_hush (some X) hS (cm_norm (some X) (show cn_ok (tb_P (some X)) tb_G tk_179 from tk_yes (some X) 179 (by decide)) (vs := [.inr (.inl (some 0)), .inl (.inl y1)]) ⟨rfl, at_any y1, trivial⟩ hS.1 rfl rfl rfl rfl)) (fun o C1 hq => ?_))
  obtain ⟨⟨w, rfl⟩, hS1⟩ := hq
  rw [hS.2.2.2.1, hS.2.2.2.2.1] at hS1
  show okb (tb_P (some X)) N 0 1145 _ [.inl (.inl w)] C1 K
  refine okb_p rfl rfl rfl ?_
  have hl5 := lw_L_s hl (j := 5) (by decide) (.inl (.inl w))
  revert hl5
  generalize ea_s1 cl 5 (.inl (.inl w)) = cl5
  intro hl5
  refine okb_an rfl hl5.2.2.1 rfl ?_
  refine lw_ld hX hl5 hi (k := 1) (by decide) (by omega) rfl rfl rfl rfl rfl (fun y2 hy2 => ?_)
  obtain ⟨ns, n1, -, -⟩ := hI_f hS1.1 (show tb_G 190 = some (.inl (12, _)) from rfl)
  refine okb_cv0 (mj := 290) (as := [.inl (.inl y2)]) (T := []) rfl rfl n1 rfl rfl rfl (rm_norm (some X) (show cx_ok (tb_P (some X)) tb_G (rf_G 0) trk_147 from tr_yes (some X) 147 (by decide) 0) hS1 (vs := [.inr (.inl (some 190)), .inl (.inl y2)]) ⟨rfl, at_any y2, trivial⟩ rfl rfl rfl rfl rfl rfl rfl) (fun o C2 hq => ?_)
  obtain ⟨hE, hS2⟩ := hq
  cases o with
  | inr ce => exact nomatch (show ce ∈ ([] : List Nat) from hE)
  | inl v =>
    obtain ⟨w2, rfl⟩ := hE
    refine ⟨_, rfl, ?_⟩
    show okb (tb_P (some X)) N 0 1157 _ [.inl (.inl w2)] C2 K
    refine okb_p rfl rfl rfl ?_
    have hl6 := lw_L_s hl5 (j := 6) (by decide) (.inl (.inl w2))
    revert hl6
    generalize ea_s1 cl5 6 (.inl (.inl w2)) = cl6
    intro hl6
    refine okb_p rfl rfl rfl ?_
    exact next _ C2 ⟨_, _, hS2⟩ hl6
set_option maxRecDepth 20000 in
set_option maxHeartbeats 1000000 in
theorem lc_29 (hX : lw_X X) (hS : lt_S s h s h C) (hl : lw_L cl i) (hi : i.toInt = (iN : Int)) (hlen : iN + 6 ≤ X.length) (next : ∀ cl' C', (∃ s h, lt_S s h s h C') → lw_L cl' i → okb (tb_P (some X)) N 0 1697 cl' [] C' K) : okb (tb_P (some X)) (1 + N) 0 1162 cl [] C K := by
  refine okb_an rfl hl.2.1 rfl ?_
  refine lw_ld hX hl hi (k := 1) (by decide) (by omega) rfl rfl rfl rfl rfl (fun y1 hy1 => ?_)
  refine okb_an rfl hl.2.2.2.1 rfl ?_
  refine okb_cs (N := N) (N' := 1) (mj := 349) (as := [.inr (.inl (some 0)), .inl (.inl y1), .inr (.inl (some 215))]) (T := []) rfl rfl rfl rfl (okb_post (wr_usual (some X) hS (cm_norm (some X) (show cn_ok (tb_P (some X)) tb_G tk_180 from tk_yes (some X) 180 (by decide)) (vs := [.inr (.inl (some 0)), .inl (.inl y1)]) ⟨rfl, at_any y1, trivial⟩ hS.1 rfl rfl rfl rfl)) (fun o C1 hq => ?_))
  obtain ⟨⟨w, rfl⟩, hS1⟩ := hq
  rw [hS.2.2.2.1, hS.2.2.2.2.1] at hS1
  show okb (tb_P (some X)) N 0 1173 _ [.inl (.inl w)] C1 K
  refine okb_p rfl rfl rfl ?_
  have hl5 := lw_L_s hl (j := 5) (by decide) (.inl (.inl w))
  revert hl5
  generalize ea_s1 cl 5 (.inl (.inl w)) = cl5
  intro hl5
  refine okb_an rfl hl5.2.2.1 rfl ?_
  refine lw_ld hX hl5 hi (k := 1) (by decide) (by omega) rfl rfl rfl rfl rfl (fun y2 hy2 => ?_)
  obtain ⟨ns, n1, -, -⟩ := hI_f hS1.1 (show tb_G 190 = some (.inl (12, _)) from rfl)
  refine okb_cv0 (mj := 291) (as := [.inl (.inl y2)]) (T := []) rfl rfl n1 rfl rfl rfl (rm_norm (some X) (show cx_ok (tb_P (some X)) tb_G (rf_G 0) trk_148 from tr_yes (some X) 148 (by decide) 0) hS1 (vs := [.inr (.inl (some 190)), .inl (.inl y2)]) ⟨rfl, at_any y2, trivial⟩ rfl rfl rfl rfl rfl rfl rfl) (fun o C2 hq => ?_)
  obtain ⟨hE, hS2⟩ := hq
  cases o with
  | inr ce => exact nomatch (show ce ∈ ([] : List Nat) from hE)
  | inl v =>
    obtain ⟨w2, rfl⟩ := hE
    refine ⟨_, rfl, ?_⟩
    show okb (tb_P (some X)) N 0 1185 _ [.inl (.inl w2)] C2 K
    refine okb_p rfl rfl rfl ?_
    have hl6 := lw_L_s hl5 (j := 6) (by decide) (.inl (.inl w2))
    revert hl6
    generalize ea_s1 cl5 6 (.inl (.inl w2)) = cl6
    intro hl6
    refine okb_p rfl rfl rfl ?_
    exact next _ C2 ⟨_, _, hS2⟩ hl6
set_option maxRecDepth 20000 in
set_option maxHeartbeats 1000000 in
theorem lc_30 (hX : lw_X X) (hS : lt_S s h s h C) (hl : lw_L cl i) (hi : i.toInt = (iN : Int)) (hlen : iN + 6 ≤ X.length) (next : ∀ cl' C', (∃ s h, lt_S s h s h C') → lw_L cl' i → okb (tb_P (some X)) N 0 1697 cl' [] C' K) : okb (tb_P (some X)) (1 + N) 0 1190 cl [] C K := by
  refine okb_more (N := N) (by omega) ?_
  refine okb_an rfl hl.2.1 rfl ?_
  refine lw_ld hX hl hi (k := 1) (by decide) (by omega) rfl rfl rfl rfl rfl (fun y1 hy1 => ?_)
  refine lw_bo rfl rfl rfl rfl rfl rfl (fun by1 hby1 => ?_)
  obtain ⟨xs, x1, -, -⟩ := hI_f hS.1 (show tb_G 0 = some (.inl (11, _)) from rfl)
  refine okb_cv0 (mj := 161) (as := [.inl (.inl by1)]) (T := []) rfl rfl x1 rfl rfl rfl (cm_norm (some X) (show cn_ok (tb_P (some X)) tb_G tk_181 from tk_yes (some X) 181 (by decide)) (vs := [.inr (.inl (some 0)), .inl (.inl by1)]) ⟨rfl, at_bo hby1, trivial⟩ hS.1 rfl rfl rfl rfl) (fun o C1 hq => ?_)
  obtain ⟨hP, hE⟩ := hq
  have hS1 := lt_cm hS hP
  rw [hS.2.2.2.1, hS.2.2.2.2.1] at hS1
  cases o with
  | inr ce => exact nomatch (show ce ∈ ([] : List Nat) from hE)
  | inl v =>
    obtain ⟨w, rfl⟩ := hE
    refine ⟨_, rfl, ?_⟩
    show okb (tb_P (some X)) N 0 1208 _ [.inr (.inr (.inl (some w)))] C1 K
    refine okb_p rfl rfl rfl ?_
    refine okb_an rfl hl.2.2.1 rfl ?_
    refine lw_ld hX hl hi (k := 1) (by decide) (by omega) rfl rfl rfl rfl rfl (fun y2 hy2 => ?_)
    refine lw_bo rfl rfl rfl rfl rfl rfl (fun by2 hby2 => ?_)
    obtain ⟨ns, n1, -, -⟩ := hI_f hS1.1 (show tb_G 190 = some (.inl (12, _)) from rfl)
    refine okb_cv0 (mj := 292) (as := [.inl (.inl by2)]) (T := []) rfl rfl n1 rfl rfl rfl (rm_norm (some X) (show cx_ok (tb_P (some X)) tb_G (rf_G 0) trk_149 from tr_yes (some X) 149 (by decide) 0) hS1 (vs := [.inr (.inl (some 190)), .inl (.inl by2)]) ⟨rfl, at_bo hby2, trivial⟩ rfl rfl rfl rfl rfl rfl rfl) (fun o C2 hq => ?_)
    obtain ⟨hE, hS2⟩ := hq
    cases o with
    | inr ce => exact nomatch (show ce ∈ ([] : List Nat) from hE)
    | inl v =>
      obtain ⟨w2, rfl⟩ := hE
      refine ⟨_, rfl, ?_⟩
      show okb (tb_P (some X)) N 0 1227 _ [.inr (.inr (.inl (some w2)))] C2 K
      refine okb_p rfl rfl rfl ?_
      refine okb_p rfl rfl rfl ?_
      exact next _ C2 ⟨_, _, hS2⟩ hl
set_option maxRecDepth 20000 in
set_option maxHeartbeats 1000000 in
theorem lc_31 (hX : lw_X X) (hS : lt_S s h s h C) (hl : lw_L cl i) (hi : i.toInt = (iN : Int)) (hlen : iN + 6 ≤ X.length) (next : ∀ cl' C', (∃ s h, lt_S s h s h C') → lw_L cl' i → okb (tb_P (some X)) N 0 1697 cl' [] C' K) : okb (tb_P (some X)) (1 + N) 0 1231 cl [] C K := by
  refine okb_an rfl hl.2.1 rfl ?_
  refine lw_ld hX hl hi (k := 1) (by decide) (by omega) rfl rfl rfl rfl rfl (fun y1 hy1 => ?_)
  refine okb_an rfl hl.2.2.2.1 rfl ?_
  refine okb_cs (N := N) (N' := 1) (mj := 350) (as := [.inr (.inl (some 0)), .inl (.inl y1), .inr (.inl (some 215))]) (T := []) rfl rfl rfl rfl (okb_post (wr_custom (some X) hS (cm_norm (some X) (show cn_ok (tb_P (some X)) tb_G tk_182 from tk_yes (some X) 182 (by decide)) (vs := [.inr (.inl (some 0)), .inl (.inl y1)]) ⟨rfl, at_any y1, trivial⟩ hS.1 rfl rfl rfl rfl)) (fun o C1 hq => ?_))
  obtain ⟨⟨w, rfl⟩, hS1⟩ := hq
  rw [hS.2.2.2.1, hS.2.2.2.2.1] at hS1
  show okb (tb_P (some X)) N 0 1242 _ [.inl (.inl w)] C1 K
  refine okb_p rfl rfl rfl ?_
  have hl5 := lw_L_s hl (j := 5) (by decide) (.inl (.inl w))
  revert hl5
  generalize ea_s1 cl 5 (.inl (.inl w)) = cl5
  intro hl5
  refine okb_an rfl hl5.2.2.1 rfl ?_
  refine lw_ld hX hl5 hi (k := 1) (by decide) (by omega) rfl rfl rfl rfl rfl (fun y2 hy2 => ?_)
  obtain ⟨ns, n1, -, -⟩ := hI_f hS1.1 (show tb_G 190 = some (.inl (12, _)) from rfl)
  refine okb_cv0 (mj := 296) (as := [.inl (.inl y2)]) (T := []) rfl rfl n1 rfl rfl rfl (rm_norm (some X) (show cx_ok (tb_P (some X)) tb_G (rf_G 0) trk_154 from tr_yes (some X) 154 (by decide) 0) hS1 (vs := [.inr (.inl (some 190)), .inl (.inl y2)]) ⟨rfl, at_any y2, trivial⟩ rfl rfl rfl rfl rfl rfl rfl) (fun o C2 hq => ?_)
  obtain ⟨hE, hS2⟩ := hq
  cases o with
  | inr ce => exact nomatch (show ce ∈ ([] : List Nat) from hE)
  | inl v =>
    obtain ⟨w2, rfl⟩ := hE
    refine ⟨_, rfl, ?_⟩
    show okb (tb_P (some X)) N 0 1254 _ [.inl (.inl w2)] C2 K
    refine okb_p rfl rfl rfl ?_
    have hl6 := lw_L_s hl5 (j := 6) (by decide) (.inl (.inl w2))
    revert hl6
    generalize ea_s1 cl5 6 (.inl (.inl w2)) = cl6
    intro hl6
    refine okb_p rfl rfl rfl ?_
    exact next _ C2 ⟨_, _, hS2⟩ hl6
set_option maxRecDepth 20000 in
set_option maxHeartbeats 1000000 in
theorem lc_32 (hX : lw_X X) (hS : lt_S s h s h C) (hl : lw_L cl i) (hi : i.toInt = (iN : Int)) (hlen : iN + 6 ≤ X.length) (next : ∀ cl' C', (∃ s h, lt_S s h s h C') → lw_L cl' i → okb (tb_P (some X)) N 0 1697 cl' [] C' K) : okb (tb_P (some X)) (1 + N) 0 1259 cl [] C K := by
  refine okb_more (N := N) (by omega) ?_
  refine okb_an rfl hl.2.1 rfl ?_
  obtain ⟨xs, x1, -, -⟩ := hI_f hS.1 (show tb_G 0 = some (.inl (11, _)) from rfl)
  refine okb_cv0 (mj := 163) (as := []) (T := []) rfl rfl x1 rfl rfl rfl (cm_norm (some X) (show cn_ok (tb_P (some X)) tb_G tk_183 from tk_yes (some X) 183 (by decide)) (vs := [.inr (.inl (some 0))]) ⟨rfl, trivial⟩ hS.1 rfl rfl rfl rfl) (fun o C1 hq => ?_)
  obtain ⟨hP, hE⟩ := hq
  have hS1 := lt_cm hS hP
  rw [hS.2.2.2.1, hS.2.2.2.2.1] at hS1
  cases o with
  | inr ce => exact nomatch (show ce ∈ ([] : List Nat) from hE)
  | inl v =>
    obtain ⟨w, rfl⟩ := hE
    refine ⟨_, rfl, ?_⟩
    show okb (tb_P (some X)) N 0 1263 _ [.inl (.inl w)] C1 K
    refine okb_p rfl rfl rfl ?_
    refine okb_an rfl hl.2.2.1 rfl ?_
    obtain ⟨ns, n1, -, -⟩ := hI_f hS1.1 (show tb_G 190 = some (.inl (12, _)) from rfl)
    refine okb_cv0 (mj := 297) (as := []) (T := []) rfl rfl n1 rfl rfl rfl (rm_norm (some X) (show cx_ok (tb_P (some X)) tb_G (rf_G 0) trk_155 from tr_yes (some X) 155 (by decide) 0) hS1 (vs := [.inr (.inl (some 190))]) ⟨rfl, trivial⟩ rfl rfl rfl rfl rfl rfl rfl) (fun o C2 hq => ?_)
    obtain ⟨hE, hS2⟩ := hq
    cases o with
    | inr ce => exact nomatch (show ce ∈ ([] : List Nat) from hE)
    | inl v =>
      obtain ⟨w2, rfl⟩ := hE
      refine ⟨_, rfl, ?_⟩
      show okb (tb_P (some X)) N 0 1268 _ [.inl (.inl w2)] C2 K
      refine okb_p rfl rfl rfl ?_
      refine okb_p rfl rfl rfl ?_
      exact next _ C2 ⟨_, _, hS2⟩ hl
set_option maxRecDepth 20000 in
set_option maxHeartbeats 1000000 in
theorem lc_33 (hX : lw_X X) (hS : lt_S s h s h C) (hl : lw_L cl i) (hi : i.toInt = (iN : Int)) (hlen : iN + 6 ≤ X.length) (next : ∀ cl' C', (∃ s h, lt_S s h s h C') → lw_L cl' i → okb (tb_P (some X)) N 0 1697 cl' [] C' K) : okb (tb_P (some X)) (1 + N) 0 1272 cl [] C K := by
  refine okb_an rfl hl.2.1 rfl ?_
  refine lw_ld hX hl hi (k := 1) (by decide) (by omega) rfl rfl rfl rfl rfl (fun y1 hy1 => ?_)
  refine lw_ld hX hl hi (k := 2) (by decide) (by omega) rfl rfl rfl rfl rfl (fun y2 hy2 => ?_)
  refine lw_bo rfl rfl rfl rfl rfl rfl (fun by2 hby2 => ?_)
  refine okb_an rfl hl.2.2.2.1 rfl ?_
  refine okb_cs (N := N) (N' := 1) (mj := 351) (as := [.inr (.inl (some 0)), .inl (.inl y1), .inl (.inl by2), .inr (.inl (some 215))]) (T := []) rfl rfl rfl rfl (okb_post (wr_provoked (some X) hS (cm_norm (some X) (show cn_ok (tb_P (some X)) tb_G tk_184 from tk_yes (some X) 184 (by decide)) (vs := [.inr (.inl (some 0)), .inl (.inl y1), .inl (.inl by2)]) ⟨rfl, at_any y1, at_bo hby2, trivial⟩ hS.1 rfl rfl rfl rfl)) (fun o C1 hq => ?_))
  obtain ⟨⟨w, rfl⟩, hS1⟩ := hq
  rw [hS.2.2.2.1, hS.2.2.2.2.1] at hS1
  show okb (tb_P (some X)) N 0 1297 _ [.inl (.inl w)] C1 K
  refine okb_p rfl rfl rfl ?_
  have hl5 := lw_L_s hl (j := 5) (by decide) (.inl (.inl w))
  revert hl5
  generalize ea_s1 cl 5 (.inl (.inl w)) = cl5
  intro hl5
  refine okb_an rfl hl5.2.2.1 rfl ?_
  refine lw_ld hX hl5 hi (k := 1) (by decide) (by omega) rfl rfl rfl rfl rfl (fun y3 hy3 => ?_)
  refine lw_ld hX hl5 hi (k := 2) (by decide) (by omega) rfl rfl rfl rfl rfl (fun y4 hy4 => ?_)
  refine lw_bo rfl rfl rfl rfl rfl rfl (fun by4 hby4 => ?_)
  obtain ⟨ns, n1, -, -⟩ := hI_f hS1.1 (show tb_G 190 = some (.inl (12, _)) from rfl)
  refine okb_cv0 (mj := 300) (as := [.inl (.inl y3), .inl (.inl by4)]) (T := []) rfl rfl n1 rfl rfl rfl (rm_norm (some X) (show cx_ok (tb_P (some X)) tb_G (rf_G 0) trk_158 from tr_yes (some X) 158 (by decide) 0) hS1 (vs := [.inr (.inl (some 190)), .inl (.inl y3), .inl (.inl by4)]) ⟨rfl, at_any y3, at_bo hby4, trivial⟩ rfl rfl rfl rfl rfl rfl rfl) (fun o C2 hq => ?_)
  obtain ⟨hE, hS2⟩ := hq
  cases o with
  | inr ce => exact nomatch (show ce ∈ ([] : List Nat) from hE)
  | inl v =>
    obtain ⟨w2, rfl⟩ := hE
    refine ⟨_, rfl, ?_⟩
    show okb (tb_P (some X)) N 0 1323 _ [.inl (.inl w2)] C2 K
    refine okb_p rfl rfl rfl ?_
    have hl6 := lw_L_s hl5 (j := 6) (by decide) (.inl (.inl w2))
    revert hl6
    generalize ea_s1 cl5 6 (.inl (.inl w2)) = cl6
    intro hl6
    refine okb_p rfl rfl rfl ?_
    exact next _ C2 ⟨_, _, hS2⟩ hl6
set_option maxRecDepth 20000 in
set_option maxHeartbeats 1000000 in
theorem lc_34 (hX : lw_X X) (hS : lt_S s h s h C) (hl : lw_L cl i) (hi : i.toInt = (iN : Int)) (hlen : iN + 6 ≤ X.length) (next : ∀ cl' C', (∃ s h, lt_S s h s h C') → lw_L cl' i → okb (tb_P (some X)) N 0 1697 cl' [] C' K) : okb (tb_P (some X)) (1 + N) 0 1328 cl [] C K := by
  refine okb_an rfl hl.2.1 rfl ?_
  refine lw_ld hX hl hi (k := 1) (by decide) (by omega) rfl rfl rfl rfl rfl (fun y1 hy1 => ?_)
  refine lw_ld hX hl hi (k := 2) (by decide) (by omega) rfl rfl rfl rfl rfl (fun y2 hy2 => ?_)
  refine okb_an rfl hl.2.2.2.1 rfl ?_
  refine okb_cs (N := N) (N' := 1) (mj := 352) (as := [.inr (.inl (some 0)), .inl (.inl y1), .inl (.inl y2), .inr (.inl (some 215))]) (T := []) rfl rfl rfl rfl (okb_post (wr_crowd (some X) hS (cm_norm (some X) (show cn_ok (tb_P (some X)) tb_G tk_185 from tk_yes (some X) 185 (by decide)) (vs := [.inr (.inl (some 0)), .inl (.inl y1), .inl (.inl y2)]) ⟨rfl, at_any y1, at_any y2, trivial⟩ hS.1 rfl rfl rfl rfl)) (fun o C1 hq => ?_))
  obtain ⟨⟨w, rfl⟩, hS1⟩ := hq
  rw [hS.2.2.2.1, hS.2.2.2.2.1] at hS1
  show okb (tb_P (some X)) N 0 1345 _ [.inl (.inl w)] C1 K
  refine okb_p rfl rfl rfl ?_
  have hl5 := lw_L_s hl (j := 5) (by decide) (.inl (.inl w))
  revert hl5
  generalize ea_s1 cl 5 (.inl (.inl w)) = cl5
  intro hl5
  refine okb_an rfl hl5.2.2.1 rfl ?_
  refine lw_ld hX hl5 hi (k := 1) (by decide) (by omega) rfl rfl rfl rfl rfl (fun y3 hy3 => ?_)
  refine lw_ld hX hl5 hi (k := 2) (by decide) (by omega) rfl rfl rfl rfl rfl (fun y4 hy4 => ?_)
  obtain ⟨ns, n1, -, -⟩ := hI_f hS1.1 (show tb_G 190 = some (.inl (12, _)) from rfl)
  refine okb_cv0 (mj := 301) (as := [.inl (.inl y3), .inl (.inl y4)]) (T := []) rfl rfl n1 rfl rfl rfl (rm_norm (some X) (show cx_ok (tb_P (some X)) tb_G (rf_G 0) trk_159 from tr_yes (some X) 159 (by decide) 0) hS1 (vs := [.inr (.inl (some 190)), .inl (.inl y3), .inl (.inl y4)]) ⟨rfl, at_any y3, at_any y4, trivial⟩ rfl rfl rfl rfl rfl rfl rfl) (fun o C2 hq => ?_)
  obtain ⟨hE, hS2⟩ := hq
  cases o with
  | inr ce => exact nomatch (show ce ∈ ([] : List Nat) from hE)
  | inl v =>
    obtain ⟨w2, rfl⟩ := hE
    refine ⟨_, rfl, ?_⟩
    show okb (tb_P (some X)) N 0 1363 _ [.inl (.inl w2)] C2 K
    refine okb_p rfl rfl rfl ?_
    have hl6 := lw_L_s hl5 (j := 6) (by decide) (.inl (.inl w2))
    revert hl6
    generalize ea_s1 cl5 6 (.inl (.inl w2)) = cl6
    intro hl6
    refine okb_p rfl rfl rfl ?_
    exact next _ C2 ⟨_, _, hS2⟩ hl6
set_option maxRecDepth 20000 in
set_option maxHeartbeats 1000000 in
theorem lc_35 (hX : lw_X X) (hS : lt_S s h s h C) (hl : lw_L cl i) (hi : i.toInt = (iN : Int)) (hlen : iN + 6 ≤ X.length) (next : ∀ cl' C', (∃ s h, lt_S s h s h C') → lw_L cl' i → okb (tb_P (some X)) N 0 1697 cl' [] C' K) : okb (tb_P (some X)) (1 + N) 0 1368 cl [] C K := by
  refine okb_an rfl hl.2.1 rfl ?_
  refine lw_ld hX hl hi (k := 1) (by decide) (by omega) rfl rfl rfl rfl rfl (fun y1 hy1 => ?_)
  refine lw_ld hX hl hi (k := 2) (by decide) (by omega) rfl rfl rfl rfl rfl (fun y2 hy2 => ?_)
  refine lw_ld hX hl hi (k := 3) (by decide) (by omega) rfl rfl rfl rfl rfl (fun y3 hy3 => ?_)
  refine okb_an rfl hl.2.2.2.1 rfl ?_
  refine okb_cs (N := N) (N' := 1) (mj := 353) (as := [.inr (.inl (some 0)), .inl (.inl y1), .inl (.inl y2), .inl (.inl y3), .inr (.inl (some 215))]) (T := []) rfl rfl rfl rfl (okb_post (wr_witnesses (some X) hS (cm_norm (some X) (show cn_ok (tb_P (some X)) tb_G tk_186 from tk_yes (some X) 186 (by decide)) (vs := [.inr (.inl (some 0)), .inl (.inl y1), .inl (.inl y2), .inl (.inl y3)]) ⟨rfl, at_any y1, at_any y2, at_any y3, trivial⟩ hS.1 rfl rfl rfl rfl)) (fun o C1 hq => ?_))
  obtain ⟨⟨w, rfl⟩, hS1⟩ := hq
  rw [hS.2.2.2.1, hS.2.2.2.2.1] at hS1
  show okb (tb_P (some X)) N 0 1391 _ [.inl (.inl w)] C1 K
  refine okb_p rfl rfl rfl ?_
  have hl5 := lw_L_s hl (j := 5) (by decide) (.inl (.inl w))
  revert hl5
  generalize ea_s1 cl 5 (.inl (.inl w)) = cl5
  intro hl5
  refine okb_an rfl hl5.2.2.1 rfl ?_
  refine lw_ld hX hl5 hi (k := 1) (by decide) (by omega) rfl rfl rfl rfl rfl (fun y4 hy4 => ?_)
  refine lw_ld hX hl5 hi (k := 2) (by decide) (by omega) rfl rfl rfl rfl rfl (fun y5 hy5 => ?_)
  refine lw_ld hX hl5 hi (k := 3) (by decide) (by omega) rfl rfl rfl rfl rfl (fun y6 hy6 => ?_)
  obtain ⟨ns, n1, -, -⟩ := hI_f hS1.1 (show tb_G 190 = some (.inl (12, _)) from rfl)
  refine okb_cv0 (mj := 302) (as := [.inl (.inl y4), .inl (.inl y5), .inl (.inl y6)]) (T := []) rfl rfl n1 rfl rfl rfl (rm_norm (some X) (show cx_ok (tb_P (some X)) tb_G (rf_G 0) trk_160 from tr_yes (some X) 160 (by decide) 0) hS1 (vs := [.inr (.inl (some 190)), .inl (.inl y4), .inl (.inl y5), .inl (.inl y6)]) ⟨rfl, at_any y4, at_any y5, at_any y6, trivial⟩ rfl rfl rfl rfl rfl rfl rfl) (fun o C2 hq => ?_)
  obtain ⟨hE, hS2⟩ := hq
  cases o with
  | inr ce => exact nomatch (show ce ∈ ([] : List Nat) from hE)
  | inl v =>
    obtain ⟨w2, rfl⟩ := hE
    refine ⟨_, rfl, ?_⟩
    show okb (tb_P (some X)) N 0 1415 _ [.inl (.inl w2)] C2 K
    refine okb_p rfl rfl rfl ?_
    have hl6 := lw_L_s hl5 (j := 6) (by decide) (.inl (.inl w2))
    revert hl6
    generalize ea_s1 cl5 6 (.inl (.inl w2)) = cl6
    intro hl6
    refine okb_p rfl rfl rfl ?_
    exact next _ C2 ⟨_, _, hS2⟩ hl6
set_option maxRecDepth 20000 in
set_option maxHeartbeats 1000000 in
theorem lc_36 (hX : lw_X X) (hS : lt_S s h s h C) (hl : lw_L cl i) (hi : i.toInt = (iN : Int)) (hlen : iN + 6 ≤ X.length) (next : ∀ cl' C', (∃ s h, lt_S s h s h C') → lw_L cl' i → okb (tb_P (some X)) N 0 1697 cl' [] C' K) : okb (tb_P (some X)) (1 + N) 0 1420 cl [] C K := by
  refine okb_an rfl hl.2.1 rfl ?_
  refine lw_ld hX hl hi (k := 1) (by decide) (by omega) rfl rfl rfl rfl rfl (fun y1 hy1 => ?_)
  refine lw_ld hX hl hi (k := 2) (by decide) (by omega) rfl rfl rfl rfl rfl (fun y2 hy2 => ?_)
  refine okb_an rfl hl.2.2.2.1 rfl ?_
  refine okb_cs (N := N) (N' := 1) (mj := 354) (as := [.inr (.inl (some 0)), .inl (.inl y1), .inl (.inl y2), .inr (.inl (some 215))]) (T := []) rfl rfl rfl rfl (okb_post (wr_trial (some X) hS (cm_norm (some X) (show cn_ok (tb_P (some X)) tb_G tk_188 from tk_yes (some X) 188 (by decide)) (vs := [.inr (.inl (some 0)), .inl (.inl y1), .inl (.inl y2)]) ⟨rfl, at_any y1, at_any y2, trivial⟩ hS.1 rfl rfl rfl rfl)) (fun o C1 hq => ?_))
  obtain ⟨⟨w, rfl⟩, hS1⟩ := hq
  rw [hS.2.2.2.1, hS.2.2.2.2.1] at hS1
  show okb (tb_P (some X)) N 0 1437 _ [.inl (.inl w)] C1 K
  refine okb_p rfl rfl rfl ?_
  have hl5 := lw_L_s hl (j := 5) (by decide) (.inl (.inl w))
  revert hl5
  generalize ea_s1 cl 5 (.inl (.inl w)) = cl5
  intro hl5
  refine okb_an rfl hl5.2.2.1 rfl ?_
  refine lw_ld hX hl5 hi (k := 1) (by decide) (by omega) rfl rfl rfl rfl rfl (fun y3 hy3 => ?_)
  refine lw_ld hX hl5 hi (k := 2) (by decide) (by omega) rfl rfl rfl rfl rfl (fun y4 hy4 => ?_)
  obtain ⟨ns, n1, -, -⟩ := hI_f hS1.1 (show tb_G 190 = some (.inl (12, _)) from rfl)
  refine okb_cv0 (mj := 306) (as := [.inl (.inl y3), .inl (.inl y4)]) (T := []) rfl rfl n1 rfl rfl rfl (rm_norm (some X) (show cx_ok (tb_P (some X)) tb_G (rf_G 0) trk_162 from tr_yes (some X) 162 (by decide) 0) hS1 (vs := [.inr (.inl (some 190)), .inl (.inl y3), .inl (.inl y4)]) ⟨rfl, at_any y3, at_any y4, trivial⟩ rfl rfl rfl rfl rfl rfl rfl) (fun o C2 hq => ?_)
  obtain ⟨hE, hS2⟩ := hq
  cases o with
  | inr ce => exact nomatch (show ce ∈ ([] : List Nat) from hE)
  | inl v =>
    obtain ⟨w2, rfl⟩ := hE
    refine ⟨_, rfl, ?_⟩
    show okb (tb_P (some X)) N 0 1455 _ [.inl (.inl w2)] C2 K
    refine okb_p rfl rfl rfl ?_
    have hl6 := lw_L_s hl5 (j := 6) (by decide) (.inl (.inl w2))
    revert hl6
    generalize ea_s1 cl5 6 (.inl (.inl w2)) = cl6
    intro hl6
    refine okb_p rfl rfl rfl ?_
    exact next _ C2 ⟨_, _, hS2⟩ hl6
set_option maxRecDepth 20000 in
set_option maxHeartbeats 1000000 in
theorem lc_37 (hX : lw_X X) (hS : lt_S s h s h C) (hl : lw_L cl i) (hi : i.toInt = (iN : Int)) (hlen : iN + 6 ≤ X.length) (next : ∀ cl' C', (∃ s h, lt_S s h s h C') → lw_L cl' i → okb (tb_P (some X)) N 0 1697 cl' [] C' K) : okb (tb_P (some X)) (1 + N) 0 1460 cl [] C K := by
  refine okb_an rfl hl.2.1 rfl ?_
  refine lw_ld hX hl hi (k := 1) (by decide) (by omega) rfl rfl rfl rfl rfl (fun y1 hy1 => ?_)
  refine lw_ld hX hl hi (k := 2) (by decide) (by omega) rfl rfl rfl rfl rfl (fun y2 hy2 => ?_)
  refine lw_bo rfl rfl rfl rfl rfl rfl (fun by2 hby2 => ?_)
  refine okb_an rfl hl.2.2.2.1 rfl ?_
  refine okb_cs (N := N) (N' := 1) (mj := 355) (as := [.inr (.inl (some 0)), .inl (.inl y1), .inl (.inl by2), .inr (.inl (some 215))]) (T := []) rfl rfl rfl rfl (okb_post (wr_span (some X) hS (cm_norm (some X) (show cn_ok (tb_P (some X)) tb_G tk_189 from tk_yes (some X) 189 (by decide)) (vs := [.inr (.inl (some 0)), .inl (.inl y1), .inl (.inl by2)]) ⟨rfl, at_any y1, at_bo hby2, trivial⟩ hS.1 rfl rfl rfl rfl)) (fun o C1 hq => ?_))
  obtain ⟨⟨w, rfl⟩, hS1⟩ := hq
  rw [hS.2.2.2.1, hS.2.2.2.2.1] at hS1
  show okb (tb_P (some X)) N 0 1485 _ [.inl (.inl w)] C1 K
  refine okb_p rfl rfl rfl ?_
  have hl5 := lw_L_s hl (j := 5) (by decide) (.inl (.inl w))
  revert hl5
  generalize ea_s1 cl 5 (.inl (.inl w)) = cl5
  intro hl5
  refine okb_an rfl hl5.2.2.1 rfl ?_
  refine lw_ld hX hl5 hi (k := 1) (by decide) (by omega) rfl rfl rfl rfl rfl (fun y3 hy3 => ?_)
  refine lw_ld hX hl5 hi (k := 2) (by decide) (by omega) rfl rfl rfl rfl rfl (fun y4 hy4 => ?_)
  refine lw_bo rfl rfl rfl rfl rfl rfl (fun by4 hby4 => ?_)
  obtain ⟨ns, n1, -, -⟩ := hI_f hS1.1 (show tb_G 190 = some (.inl (12, _)) from rfl)
  refine okb_cv0 (mj := 307) (as := [.inl (.inl y3), .inl (.inl by4)]) (T := []) rfl rfl n1 rfl rfl rfl (rm_norm (some X) (show cx_ok (tb_P (some X)) tb_G (rf_G 0) trk_163 from tr_yes (some X) 163 (by decide) 0) hS1 (vs := [.inr (.inl (some 190)), .inl (.inl y3), .inl (.inl by4)]) ⟨rfl, at_any y3, at_bo hby4, trivial⟩ rfl rfl rfl rfl rfl rfl rfl) (fun o C2 hq => ?_)
  obtain ⟨hE, hS2⟩ := hq
  cases o with
  | inr ce => exact nomatch (show ce ∈ ([] : List Nat) from hE)
  | inl v =>
    obtain ⟨w2, rfl⟩ := hE
    refine ⟨_, rfl, ?_⟩
    show okb (tb_P (some X)) N 0 1511 _ [.inl (.inl w2)] C2 K
    refine okb_p rfl rfl rfl ?_
    have hl6 := lw_L_s hl5 (j := 6) (by decide) (.inl (.inl w2))
    revert hl6
    generalize ea_s1 cl5 6 (.inl (.inl w2)) = cl6
    intro hl6
    refine okb_p rfl rfl rfl ?_
    exact next _ C2 ⟨_, _, hS2⟩ hl6
set_option maxRecDepth 20000 in
set_option maxHeartbeats 1000000 in
theorem lc_38 (hX : lw_X X) (hS : lt_S s h s h C) (hl : lw_L cl i) (hi : i.toInt = (iN : Int)) (hlen : iN + 6 ≤ X.length) (next : ∀ cl' C', (∃ s h, lt_S s h s h C') → lw_L cl' i → okb (tb_P (some X)) N 0 1697 cl' [] C' K) : okb (tb_P (some X)) (1 + N) 0 1516 cl [] C K := by
  refine okb_more (N := N) (by omega) ?_
  refine okb_an rfl hl.2.1 rfl ?_
  obtain ⟨xs, x1, -, -⟩ := hI_f hS.1 (show tb_G 0 = some (.inl (11, _)) from rfl)
  refine okb_cv0 (mj := 169) (as := []) (T := []) rfl rfl x1 rfl rfl rfl (cm_norm (some X) (show cn_ok (tb_P (some X)) tb_G tk_190 from tk_yes (some X) 190 (by decide)) (vs := [.inr (.inl (some 0))]) ⟨rfl, trivial⟩ hS.1 rfl rfl rfl rfl) (fun o C1 hq => ?_)
  obtain ⟨hP, hE⟩ := hq
  have hS1 := lt_cm hS hP
  rw [hS.2.2.2.1, hS.2.2.2.2.1] at hS1
  cases o with
  | inr ce => exact nomatch (show ce ∈ ([] : List Nat) from hE)
  | inl v =>
    obtain ⟨w, rfl⟩ := hE
    refine ⟨_, rfl, ?_⟩
    show okb (tb_P (some X)) N 0 1520 _ [.inl (.inl w)] C1 K
    refine okb_p rfl rfl rfl ?_
    refine okb_an rfl hl.2.2.1 rfl ?_
    obtain ⟨ns, n1, -, -⟩ := hI_f hS1.1 (show tb_G 190 = some (.inl (12, _)) from rfl)
    refine okb_cv0 (mj := 308) (as := []) (T := []) rfl rfl n1 rfl rfl rfl (rm_norm (some X) (show cx_ok (tb_P (some X)) tb_G (rf_G 0) trk_164 from tr_yes (some X) 164 (by decide) 0) hS1 (vs := [.inr (.inl (some 190))]) ⟨rfl, trivial⟩ rfl rfl rfl rfl rfl rfl rfl) (fun o C2 hq => ?_)
    obtain ⟨hE, hS2⟩ := hq
    cases o with
    | inr ce => exact nomatch (show ce ∈ ([] : List Nat) from hE)
    | inl v =>
      obtain ⟨w2, rfl⟩ := hE
      refine ⟨_, rfl, ?_⟩
      show okb (tb_P (some X)) N 0 1525 _ [.inl (.inl w2)] C2 K
      refine okb_p rfl rfl rfl ?_
      refine okb_p rfl rfl rfl ?_
      exact next _ C2 ⟨_, _, hS2⟩ hl
set_option maxRecDepth 20000 in
set_option maxHeartbeats 1000000 in
theorem lc_39 (hX : lw_X X) (hS : lt_S s h s h C) (hl : lw_L cl i) (hi : i.toInt = (iN : Int)) (hlen : iN + 6 ≤ X.length) (next : ∀ cl' C', (∃ s h, lt_S s h s h C') → lw_L cl' i → okb (tb_P (some X)) N 0 1697 cl' [] C' K) : okb (tb_P (some X)) (1 + N) 0 1529 cl [] C K := by
  refine okb_an rfl hl.2.1 rfl ?_
  refine lw_ld hX hl hi (k := 1) (by decide) (by omega) rfl rfl rfl rfl rfl (fun y1 hy1 => ?_)
  refine okb_an rfl hl.2.2.2.1 rfl ?_
  refine okb_cs (N := N) (N' := 1) (mj := 356) (as := [.inr (.inl (some 0)), .inl (.inl y1), .inr (.inl (some 215))]) (T := []) rfl rfl rfl rfl (okb_post (wr_led (some X) hS (cm_norm (some X) (show cn_ok (tb_P (some X)) tb_G tk_191 from tk_yes (some X) 191 (by decide)) (vs := [.inr (.inl (some 0)), .inl (.inl y1)]) ⟨rfl, at_any y1, trivial⟩ hS.1 rfl rfl rfl rfl)) (fun o C1 hq => ?_))
  obtain ⟨⟨w, rfl⟩, hS1⟩ := hq
  rw [hS.2.2.2.1, hS.2.2.2.2.1] at hS1
  show okb (tb_P (some X)) N 0 1540 _ [.inl (.inl w)] C1 K
  refine okb_p rfl rfl rfl ?_
  have hl5 := lw_L_s hl (j := 5) (by decide) (.inl (.inl w))
  revert hl5
  generalize ea_s1 cl 5 (.inl (.inl w)) = cl5
  intro hl5
  refine okb_an rfl hl5.2.2.1 rfl ?_
  refine lw_ld hX hl5 hi (k := 1) (by decide) (by omega) rfl rfl rfl rfl rfl (fun y2 hy2 => ?_)
  obtain ⟨ns, n1, -, -⟩ := hI_f hS1.1 (show tb_G 190 = some (.inl (12, _)) from rfl)
  refine okb_cv0 (mj := 310) (as := [.inl (.inl y2)]) (T := []) rfl rfl n1 rfl rfl rfl (rm_norm (some X) (show cx_ok (tb_P (some X)) tb_G (rf_G 0) trk_165 from tr_yes (some X) 165 (by decide) 0) hS1 (vs := [.inr (.inl (some 190)), .inl (.inl y2)]) ⟨rfl, at_any y2, trivial⟩ rfl rfl rfl rfl rfl rfl rfl) (fun o C2 hq => ?_)
  obtain ⟨hE, hS2⟩ := hq
  cases o with
  | inr ce => exact nomatch (show ce ∈ ([] : List Nat) from hE)
  | inl v =>
    obtain ⟨w2, rfl⟩ := hE
    refine ⟨_, rfl, ?_⟩
    show okb (tb_P (some X)) N 0 1552 _ [.inl (.inl w2)] C2 K
    refine okb_p rfl rfl rfl ?_
    have hl6 := lw_L_s hl5 (j := 6) (by decide) (.inl (.inl w2))
    revert hl6
    generalize ea_s1 cl5 6 (.inl (.inl w2)) = cl6
    intro hl6
    refine okb_p rfl rfl rfl ?_
    exact next _ C2 ⟨_, _, hS2⟩ hl6
set_option maxRecDepth 20000 in
set_option maxHeartbeats 1000000 in
theorem lc_40 (hX : lw_X X) (hS : lt_S s h s h C) (hl : lw_L cl i) (hi : i.toInt = (iN : Int)) (hlen : iN + 6 ≤ X.length) (next : ∀ cl' C', (∃ s h, lt_S s h s h C') → lw_L cl' i → okb (tb_P (some X)) N 0 1697 cl' [] C' K) : okb (tb_P (some X)) (1 + N) 0 1557 cl [] C K := by
  refine okb_more (N := N) (by omega) ?_
  refine okb_an rfl hl.2.1 rfl ?_
  obtain ⟨xs, x1, -, -⟩ := hI_f hS.1 (show tb_G 0 = some (.inl (11, _)) from rfl)
  refine okb_cv0 (mj := 171) (as := []) (T := []) rfl rfl x1 rfl rfl rfl (cm_norm (some X) (show cn_ok (tb_P (some X)) tb_G tk_192 from tk_yes (some X) 192 (by decide)) (vs := [.inr (.inl (some 0))]) ⟨rfl, trivial⟩ hS.1 rfl rfl rfl rfl) (fun o C1 hq => ?_)
  obtain ⟨hP, hE⟩ := hq
  have hS1 := lt_cm hS hP
  rw [hS.2.2.2.1, hS.2.2.2.2.1] at hS1
  cases o with
  | inr ce => exact nomatch (show ce ∈ ([] : List Nat) from hE)
  | inl v =>
    obtain ⟨w, rfl⟩ := hE
    refine ⟨_, rfl, ?_⟩
    show okb (tb_P (some X)) N 0 1561 _ [.inl (.inl w)] C1 K
    refine okb_p rfl rfl rfl ?_
    refine okb_an rfl hl.2.2.1 rfl ?_
    obtain ⟨ns, n1, -, -⟩ := hI_f hS1.1 (show tb_G 190 = some (.inl (12, _)) from rfl)
    refine okb_cv0 (mj := 312) (as := []) (T := []) rfl rfl n1 rfl rfl rfl (rm_norm (some X) (show cx_ok (tb_P (some X)) tb_G (rf_G 0) trk_167 from tr_yes (some X) 167 (by decide) 0) hS1 (vs := [.inr (.inl (some 190))]) ⟨rfl, trivial⟩ rfl rfl rfl rfl rfl rfl rfl) (fun o C2 hq => ?_)
    obtain ⟨hE, hS2⟩ := hq
    cases o with
    | inr ce => exact nomatch (show ce ∈ ([] : List Nat) from hE)
    | inl v =>
      obtain ⟨w2, rfl⟩ := hE
      refine ⟨_, rfl, ?_⟩
      show okb (tb_P (some X)) N 0 1566 _ [.inl (.inl w2)] C2 K
      refine okb_p rfl rfl rfl ?_
      refine okb_p rfl rfl rfl ?_
      exact next _ C2 ⟨_, _, hS2⟩ hl
set_option maxRecDepth 20000 in
set_option maxHeartbeats 1000000 in
theorem lc_41 (hX : lw_X X) (hS : lt_S s h s h C) (hl : lw_L cl i) (hi : i.toInt = (iN : Int)) (hlen : iN + 6 ≤ X.length) (next : ∀ cl' C', (∃ s h, lt_S s h s h C') → lw_L cl' i → okb (tb_P (some X)) N 0 1697 cl' [] C' K) : okb (tb_P (some X)) (1 + N) 0 1570 cl [] C K := by
  refine okb_an rfl hl.2.1 rfl ?_
  refine lw_ld hX hl hi (k := 1) (by decide) (by omega) rfl rfl rfl rfl rfl (fun y1 hy1 => ?_)
  refine lw_ld hX hl hi (k := 2) (by decide) (by omega) rfl rfl rfl rfl rfl (fun y2 hy2 => ?_)
  refine okb_an rfl hl.2.2.2.1 rfl ?_
  refine okb_cs (N := N) (N' := 1) (mj := 357) (as := [.inr (.inl (some 0)), .inl (.inl y1), .inl (.inl y2), .inr (.inl (some 215))]) (T := []) rfl rfl rfl rfl (okb_post (wr_log (some X) hS (cm_norm (some X) (show cn_ok (tb_P (some X)) tb_G tk_193 from tk_yes (some X) 193 (by decide)) (vs := [.inr (.inl (some 0)), .inl (.inl y1), .inl (.inl y2)]) ⟨rfl, at_any y1, at_any y2, trivial⟩ hS.1 rfl rfl rfl rfl)) (fun o C1 hq => ?_))
  obtain ⟨⟨w, rfl⟩, hS1⟩ := hq
  rw [hS.2.2.2.1, hS.2.2.2.2.1] at hS1
  show okb (tb_P (some X)) N 0 1587 _ [.inl (.inl w)] C1 K
  refine okb_p rfl rfl rfl ?_
  have hl5 := lw_L_s hl (j := 5) (by decide) (.inl (.inl w))
  revert hl5
  generalize ea_s1 cl 5 (.inl (.inl w)) = cl5
  intro hl5
  refine okb_an rfl hl5.2.2.1 rfl ?_
  refine lw_ld hX hl5 hi (k := 1) (by decide) (by omega) rfl rfl rfl rfl rfl (fun y3 hy3 => ?_)
  refine lw_ld hX hl5 hi (k := 2) (by decide) (by omega) rfl rfl rfl rfl rfl (fun y4 hy4 => ?_)
  obtain ⟨ns, n1, -, -⟩ := hI_f hS1.1 (show tb_G 190 = some (.inl (12, _)) from rfl)
  refine okb_cv0 (mj := 313) (as := [.inl (.inl y3), .inl (.inl y4)]) (T := []) rfl rfl n1 rfl rfl rfl (rm_norm (some X) (show cx_ok (tb_P (some X)) tb_G (rf_G 0) trk_168 from tr_yes (some X) 168 (by decide) 0) hS1 (vs := [.inr (.inl (some 190)), .inl (.inl y3), .inl (.inl y4)]) ⟨rfl, at_any y3, at_any y4, trivial⟩ rfl rfl rfl rfl rfl rfl rfl) (fun o C2 hq => ?_)
  obtain ⟨hE, hS2⟩ := hq
  cases o with
  | inr ce => exact nomatch (show ce ∈ ([] : List Nat) from hE)
  | inl v =>
    obtain ⟨w2, rfl⟩ := hE
    refine ⟨_, rfl, ?_⟩
    show okb (tb_P (some X)) N 0 1605 _ [.inl (.inl w2)] C2 K
    refine okb_p rfl rfl rfl ?_
    have hl6 := lw_L_s hl5 (j := 6) (by decide) (.inl (.inl w2))
    revert hl6
    generalize ea_s1 cl5 6 (.inl (.inl w2)) = cl6
    intro hl6
    refine okb_p rfl rfl rfl ?_
    exact next _ C2 ⟨_, _, hS2⟩ hl6
set_option maxRecDepth 20000 in
set_option maxHeartbeats 1000000 in
theorem lc_42 (hX : lw_X X) (hS : lt_S s h s h C) (hl : lw_L cl i) (hi : i.toInt = (iN : Int)) (hlen : iN + 6 ≤ X.length) (next : ∀ cl' C', (∃ s h, lt_S s h s h C') → lw_L cl' i → okb (tb_P (some X)) N 0 1697 cl' [] C' K) : okb (tb_P (some X)) (1 + N) 0 1610 cl [] C K := by
  refine okb_more (N := N) (by omega) ?_
  refine okb_an rfl hl.2.1 rfl ?_
  refine lw_ld hX hl hi (k := 1) (by decide) (by omega) rfl rfl rfl rfl rfl (fun y1 hy1 => ?_)
  obtain ⟨xs, x1, -, -⟩ := hI_f hS.1 (show tb_G 0 = some (.inl (11, _)) from rfl)
  refine okb_cv0 (mj := 173) (as := [.inl (.inl y1)]) (T := []) rfl rfl x1 rfl rfl rfl (cm_norm (some X) (show cn_ok (tb_P (some X)) tb_G tk_194 from tk_yes (some X) 194 (by decide)) (vs := [.inr (.inl (some 0)), .inl (.inl y1)]) ⟨rfl, at_any y1, trivial⟩ hS.1 rfl rfl rfl rfl) (fun o C1 hq => ?_)
  obtain ⟨hP, hE⟩ := hq
  have hS1 := lt_cm hS hP
  rw [hS.2.2.2.1, hS.2.2.2.2.1] at hS1
  cases o with
  | inr ce => exact nomatch (show ce ∈ ([] : List Nat) from hE)
  | inl v =>
    obtain ⟨w, rfl⟩ := hE
    refine ⟨_, rfl, ?_⟩
    show okb (tb_P (some X)) N 0 1620 _ [.inl (.inl w)] C1 K
    refine okb_p rfl rfl rfl ?_
    refine okb_an rfl hl.2.2.1 rfl ?_
    refine lw_ld hX hl hi (k := 1) (by decide) (by omega) rfl rfl rfl rfl rfl (fun y2 hy2 => ?_)
    obtain ⟨ns, n1, -, -⟩ := hI_f hS1.1 (show tb_G 190 = some (.inl (12, _)) from rfl)
    refine okb_cv0 (mj := 314) (as := [.inl (.inl y2)]) (T := []) rfl rfl n1 rfl rfl rfl (rm_norm (some X) (show cx_ok (tb_P (some X)) tb_G (rf_G 0) trk_169 from tr_yes (some X) 169 (by decide) 0) hS1 (vs := [.inr (.inl (some 190)), .inl (.inl y2)]) ⟨rfl, at_any y2, trivial⟩ rfl rfl rfl rfl rfl rfl rfl) (fun o C2 hq => ?_)
    obtain ⟨hE, hS2⟩ := hq
    cases o with
    | inr ce => exact nomatch (show ce ∈ ([] : List Nat) from hE)
    | inl v =>
      obtain ⟨w2, rfl⟩ := hE
      refine ⟨_, rfl, ?_⟩
      show okb (tb_P (some X)) N 0 1631 _ [.inl (.inl w2)] C2 K
      refine okb_p rfl rfl rfl ?_
      refine okb_p rfl rfl rfl ?_
      exact next _ C2 ⟨_, _, hS2⟩ hl
set_option maxRecDepth 20000 in
set_option maxHeartbeats 1000000 in
theorem lc_43 (hX : lw_X X) (hS : lt_S s h s h C) (hl : lw_L cl i) (hi : i.toInt = (iN : Int)) (hlen : iN + 6 ≤ X.length) (next : ∀ cl' C', (∃ s h, lt_S s h s h C') → lw_L cl' i → okb (tb_P (some X)) N 0 1697 cl' [] C' K) : okb (tb_P (some X)) (1 + N) 0 1635 cl [] C K := by
  refine okb_more (N := N) (by omega) ?_
  refine okb_an rfl hl.2.1 rfl ?_
  obtain ⟨xs, x1, -, -⟩ := hI_f hS.1 (show tb_G 0 = some (.inl (11, _)) from rfl)
  refine okb_cv0 (mj := 174) (as := []) (T := []) rfl rfl x1 rfl rfl rfl (cm_norm (some X) (show cn_ok (tb_P (some X)) tb_G tk_195 from tk_yes (some X) 195 (by decide)) (vs := [.inr (.inl (some 0))]) ⟨rfl, trivial⟩ hS.1 rfl rfl rfl rfl) (fun o C1 hq => ?_)
  obtain ⟨hP, hE⟩ := hq
  have hS1 := lt_cm hS hP
  rw [hS.2.2.2.1, hS.2.2.2.2.1] at hS1
  cases o with
  | inr ce => exact nomatch (show ce ∈ ([] : List Nat) from hE)
  | inl v =>
    obtain ⟨w, rfl⟩ := hE
    refine ⟨_, rfl, ?_⟩
    show okb (tb_P (some X)) N 0 1639 _ [.inl (.inl w)] C1 K
    refine okb_p rfl rfl rfl ?_
    refine okb_an rfl hl.2.2.1 rfl ?_
    obtain ⟨ns, n1, -, -⟩ := hI_f hS1.1 (show tb_G 190 = some (.inl (12, _)) from rfl)
    refine okb_cv0 (mj := 196) (as := []) (T := []) rfl rfl n1 rfl rfl rfl (rm_norm (some X) (show cx_ok (tb_P (some X)) tb_G (rf_G 0) trk_58 from tr_yes (some X) 58 (by decide) 0) hS1 (vs := [.inr (.inl (some 190))]) ⟨rfl, trivial⟩ rfl rfl rfl rfl rfl rfl rfl) (fun o C2 hq => ?_)
    obtain ⟨hE, hS2⟩ := hq
    cases o with
    | inr ce => exact nomatch (show ce ∈ ([] : List Nat) from hE)
    | inl v =>
      obtain ⟨w2, rfl⟩ := hE
      refine ⟨_, rfl, ?_⟩
      show okb (tb_P (some X)) N 0 1644 _ [.inl (.inl w2)] C2 K
      refine okb_p rfl rfl rfl ?_
      refine okb_p rfl rfl rfl ?_
      exact next _ C2 ⟨_, _, hS2⟩ hl
set_option maxRecDepth 20000 in
set_option maxHeartbeats 1000000 in
theorem lc_44 (hX : lw_X X) (hS : lt_S s h s h C) (hl : lw_L cl i) (hi : i.toInt = (iN : Int)) (hlen : iN + 6 ≤ X.length) (next : ∀ cl' C', (∃ s h, lt_S s h s h C') → lw_L cl' i → okb (tb_P (some X)) N 0 1697 cl' [] C' K) : okb (tb_P (some X)) (1 + N) 0 1648 cl [] C K := by
  refine okb_more (N := N) (by omega) ?_
  refine okb_an rfl hl.2.1 rfl ?_
  obtain ⟨xs, x1, -, -⟩ := hI_f hS.1 (show tb_G 0 = some (.inl (11, _)) from rfl)
  refine okb_cv0 (mj := 175) (as := []) (T := []) rfl rfl x1 rfl rfl rfl (cm_image (some X) hS.1) (fun o C1 hq => ?_)
  obtain ⟨hP, rfl⟩ := hq
  refine ⟨_, rfl, ?_⟩
  have hS1 := lt_cm hS hP
  rw [hS.2.2.2.1] at hS1
  show okb (tb_P (some X)) N 0 1652 _ [] C1 K
  refine okb_an rfl hl.2.2.1 rfl ?_
  obtain ⟨ns, n1, -, -⟩ := hI_f hS1.1 (show tb_G 190 = some (.inl (12, _)) from rfl)
  refine okb_cv0 (mj := 193) (as := []) (T := []) rfl rfl n1 rfl rfl rfl (rm_image (some X) hS1) (fun o C2 hq => ?_)
  obtain ⟨rfl, hS2⟩ := hq
  refine ⟨_, rfl, ?_⟩
  show okb (tb_P (some X)) N 0 1656 _ [] C2 K
  refine okb_p rfl rfl rfl ?_
  exact next _ C2 ⟨_, _, hS2⟩ hl
set_option maxRecDepth 20000 in
set_option maxHeartbeats 1000000 in
theorem lc_45 (hX : lw_X X) (hS : lt_S s h s h C) (hl : lw_L cl i) (hi : i.toInt = (iN : Int)) (hlen : iN + 6 ≤ X.length) (next : ∀ cl' C', (∃ s h, lt_S s h s h C') → lw_L cl' i → okb (tb_P (some X)) N 0 1697 cl' [] C' K) : okb (tb_P (some X)) (1 + N) 0 1659 cl [] C K := by
  refine okb_more (N := N) (by omega) ?_
  refine okb_an rfl hl.2.1 rfl ?_
  obtain ⟨xs, x1, -, -⟩ := hI_f hS.1 (show tb_G 0 = some (.inl (11, _)) from rfl)
  refine okb_cv0 (mj := 176) (as := []) (T := []) rfl rfl x1 rfl rfl rfl (cm_back (some X) hS.1) (fun o C1 hq => ?_)
  obtain ⟨w, rfl, hw, hP⟩ := hq
  refine ⟨_, rfl, ?_⟩
  have hS1 := lt_cm hS hP
  rw [hS.2.2.2.1, hS.2.2.2.2.1] at hS1
  rw [hS.2.2.2.2.1] at hw
  show okb (tb_P (some X)) N 0 1663 _ [.inl (.inl w)] C1 K
  refine okb_an rfl hl.2.2.1 rfl ?_
  obtain ⟨ns, n1, -, -⟩ := hI_f hS1.1 (show tb_G 190 = some (.inl (12, _)) from rfl)
  refine okb_cv0 (mj := 194) (as := []) (T := [.inl (.inl w)]) rfl rfl n1 rfl rfl rfl (rm_back (some X) hS1) (fun o C2 hq => ?_)
  obtain ⟨w2, rfl, hw2, hS2⟩ := hq
  refine ⟨_, rfl, ?_⟩
  have hww : w2 = w := by
    rcases hw with ⟨a1, a2⟩ | ⟨a1, a2⟩
    · rcases hw2 with ⟨b1, b2⟩ | ⟨b1, b2⟩
      · rw [a2, b2]
      · exact absurd a1 b1
    · rcases hw2 with ⟨b1, b2⟩ | ⟨b1, b2⟩
      · exact absurd b1 a1
      · rw [a2, b2]
  show okb (tb_P (some X)) N 0 1667 _ [.inl (.inl w2), .inl (.inl w)] C2 K
  refine okb_ic true rfl rfl ?_ ?_
  · show decide (w = w2) = true
    rw [decide_eq_true_eq]
    exact hww.symm
  exact next _ C2 ⟨_, _, hS2⟩ hl
set_option maxRecDepth 20000 in
set_option maxHeartbeats 1000000 in
theorem lc_46 (hX : lw_X X) (hS : lt_S s h s h C) (hl : lw_L cl i) (hi : i.toInt = (iN : Int)) (hlen : iN + 6 ≤ X.length) (next : ∀ cl' C', (∃ s h, lt_S s h s h C') → lw_L cl' i → okb (tb_P (some X)) N 0 1697 cl' [] C' K) : okb (tb_P (some X)) (1 + N) 0 1672 cl [] C K := by
  refine okb_more (N := N) (by omega) ?_
  refine okb_an rfl hl.2.1 rfl ?_
  refine lw_ld hX hl hi (k := 1) (by decide) (by omega) rfl rfl rfl rfl rfl (fun y1 hy1 => ?_)
  obtain ⟨xs, x1, -, -⟩ := hI_f hS.1 (show tb_G 0 = some (.inl (11, _)) from rfl)
  refine okb_cv0 (mj := 177) (as := [.inl (.inl y1)]) (T := []) rfl rfl x1 rfl rfl rfl (cm_norm (some X) (show cn_ok (tb_P (some X)) tb_G tk_198 from tk_yes (some X) 198 (by decide)) (vs := [.inr (.inl (some 0)), .inl (.inl y1)]) ⟨rfl, at_any y1, trivial⟩ hS.1 rfl rfl rfl rfl) (fun o C1 hq => ?_)
  obtain ⟨hP, hE⟩ := hq
  have hS1 := lt_cm hS hP
  rw [hS.2.2.2.1, hS.2.2.2.2.1] at hS1
  cases o with
  | inr ce => exact nomatch (show ce ∈ ([] : List Nat) from hE)
  | inl v =>
    obtain ⟨w, rfl⟩ := hE
    refine ⟨_, rfl, ?_⟩
    show okb (tb_P (some X)) N 0 1682 _ [.inl (.inl w)] C1 K
    refine okb_p rfl rfl rfl ?_
    refine okb_an rfl hl.2.2.1 rfl ?_
    refine lw_ld hX hl hi (k := 1) (by decide) (by omega) rfl rfl rfl rfl rfl (fun y2 hy2 => ?_)
    obtain ⟨ns, n1, -, -⟩ := hI_f hS1.1 (show tb_G 190 = some (.inl (12, _)) from rfl)
    refine okb_cv0 (mj := 315) (as := [.inl (.inl y2)]) (T := []) rfl rfl n1 rfl rfl rfl (rm_norm (some X) (show cx_ok (tb_P (some X)) tb_G (rf_G 0) trk_170 from tr_yes (some X) 170 (by decide) 0) hS1 (vs := [.inr (.inl (some 190)), .inl (.inl y2)]) ⟨rfl, at_any y2, trivial⟩ rfl rfl rfl rfl rfl rfl rfl) (fun o C2 hq => ?_)
    obtain ⟨hE, hS2⟩ := hq
    cases o with
    | inr ce => exact nomatch (show ce ∈ ([] : List Nat) from hE)
    | inl v =>
      obtain ⟨w2, rfl⟩ := hE
      refine ⟨_, rfl, ?_⟩
      show okb (tb_P (some X)) N 0 1693 _ [.inl (.inl w2)] C2 K
      refine okb_p rfl rfl rfl ?_
      refine okb_p rfl rfl rfl ?_
      exact next _ C2 ⟨_, _, hS2⟩ hl
end LWC
