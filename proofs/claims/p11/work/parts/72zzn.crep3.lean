/-! A REPUBLIC'S TEXT: the class reads it all -/
section C3
variable {f : BY} {n t i N : Nat} {K V S6 : Nat → Int32} {b e : Nat → Nat} {M M' : MM} {w w' : RW} {s s' : RS} {x : Int32} {Q : Int32 → MM → Prop}
theorem c_cit {F : Nat} {C : Int32} (hS : ∀ i, i ≤ t → (S6 i = 2 ↔ sz b e i = 2)) (hT : TKS f n t K V b e) (hF : 400 < F) (hx : x - 1 = C) (h : CST t K V S6 x M i w s) (hw : WF w) (hn : nC w < 10) (hi : i ≤ t) (hQ : ∀ r M', COK t K V S6 x (pCit K V (sz b e) C F (w, s) i) r M' → Q r M') : W_RepublicReader_readCitizen N M Q := by
  unfold W_RepublicReader_readCitizen W_Text_goOn
  unfold pCit at hQ
  dsimp only at hQ
  rw [ckd h hT hi]
  refine ⟨fun hk => ?_, fun hk => ?_⟩
  · rw [if_pos hk] at hQ
    have i1 := tk_lt hT hi (by rw [hk]; decide)
    refine c_nm hT (CST_g h) (i := i + 1) (by omega) (fun M5 hneg i2 h5 => ?_) (fun hneg _ => ?_)
    · rw [if_neg hneg] at hQ
      refine ⟨fun y => absurd ((nm_n hT (by omega)).mpr y) hneg, fun _ => ?_⟩
      rw [ckd h5 hT (by omega)]
      refine ⟨fun hk2 => ?_, fun hk2 => ?_⟩
      · rw [if_pos (show K (i + 2) = 13 from hk2)] at hQ
        have i3 := tk_lt hT (i := i + 1 + 1) (by omega) (by rw [hk2]; decide)
        have h9 := CST_g h5
        refine c_addC h9.2.2.1 hw hn (fun M11 c11 e11 => ?_)
        have h11 := CST_e h9 e11 rfl c11
        have hnm1 : ¬ i32 (nC w) = -1 := fun y => by
          have := congrArg Int32.toInt y
          rw [i32_i (by omega)] at this
          have e3 : ((-1 : Int32)).toInt = -1 := rfl
          omega
        refine ⟨fun y => absurd y hnm1, fun _ => ?_⟩
        refine c_hab hS hT hn h11 (i := i + 1 + 1 + 1) (by omega) (fun r13 M14 h14 => ?_)
        replace hQ : ∀ r M', COK t K V S6 x (match pHab K V (sz b e) (nC w) 6 0 (i + 3) (citW w (nC w) (nm K V 0 100 (i + 1))) with
            | (none, j) => (none, j)
            | (some w2, j) => if K j = 14 then (match pKn K V C (nC w) F (j + 1) w2 with
              | (none, j') => (none, j')
              | (some w3, j') => (some (morW w3, us s (nC w) (Int64.ofNat 0)), j')) else (some (morW w2, us s (nC w) (Int64.ofNat 0)), j)) r M' → Q r M' := hQ
        rcases h14 with ⟨rfl, w2, j, j1, j2, j3⟩ | ⟨rfl, j, j1, j2, j3⟩
        · replace j1 : pHab K V (sz b e) (nC w) 6 0 (i + 3) (citW w (nC w) (nm K V 0 100 (i + 1))) = (some w2, j) := j1
          rw [j1] at hQ
          refine ⟨fun y => absurd y (by decide), fun _ => ?_⟩
          obtain ⟨r1, -⟩ := pHab_ok hT 6 0 (i + 3) _ w2 j (by omega) rfl (fun y hy => by omega) j1
          have w20 : w2 0 = i32 (nC w) := by rw [r1 0 (by omega), cit_k (by omega)]; exact (nC_i hw).2.2
          have fin : ∀ w3 : RW, w3 0 = w2 0 → mo (nC w) w3 = morW w3 := fun w3 h3 => by
            unfold mo morW
            rw [h3, w20, i32_s]
          rw [ckd j3 hT j2]
          refine ⟨fun hk3 => ?_, fun hk3 => ?_⟩
          · replace hQ : ∀ r M', COK t K V S6 x (match pKn K V C (nC w) F (j + 1) w2 with
              | (none, j') => (none, j')
              | (some w3, j') => (some (morW w3, us s (nC w) (Int64.ofNat 0)), j')) r M' → Q r M' := fun r M' hh => hQ r M' (by
                show COK t K V S6 x (if K j = 14 then _ else _) r M'
                rw [if_pos hk3]
                exact hh)
            refine c_kno hT hF hn hx j3 hk3 j2 (fun r17 M18 h18 => ?_)
            rcases h18 with ⟨rfl, w3, j', l1, l2, l3⟩ | ⟨rfl, j', l1, l2, l3⟩
            · rw [l1] at hQ
              rw [fin w3 (pKn_ok F (j + 1) w2 w3 j' l1 0 (by omega))] at l3
              exact ⟨fun y => absurd y (by decide), fun _ => hQ 1 _ (Or.inl ⟨rfl, _, j', rfl, l2, l3⟩)⟩
            · rw [l1] at hQ
              exact ⟨fun _ => hQ 0 _ (Or.inr ⟨rfl, j', rfl, l2, l3⟩), fun y => absurd rfl y⟩
          · replace hQ : ∀ r M', COK t K V S6 x (some (morW w2, us s (nC w) (Int64.ofNat 0)), j) r M' → Q r M' := fun r M' hh => hQ r M' (by
                show COK t K V S6 x (if K j = 14 then _ else _) r M'
                rw [if_neg hk3]
                exact hh)
            rw [fin w2 rfl] at j3
            exact hQ 1 _ (Or.inl ⟨rfl, _, j, rfl, j2, j3⟩)
        · replace j1 : pHab K V (sz b e) (nC w) 6 0 (i + 3) (citW w (nC w) (nm K V 0 100 (i + 1))) = (none, j) := j1
          rw [j1] at hQ
          exact ⟨fun _ => hQ 0 _ (Or.inr ⟨rfl, j, rfl, j2, j3⟩), fun y => absurd rfl y⟩
      · rw [if_neg (show ¬ K (i + 2) = 13 from hk2)] at hQ
        exact hQ 0 _ (Or.inr ⟨rfl, i + 2, rfl, by omega, h5.1⟩)
    · rw [if_pos hneg] at hQ
      exact ⟨fun _ => hQ 0 _ (Or.inr ⟨rfl, i + 1, rfl, by omega, (CST_g h).1⟩), fun y => absurd rfl y⟩
  · rw [if_neg hk] at hQ
    exact hQ 0 M (Or.inr ⟨rfl, i, rfl, hi, h.1⟩)
theorem c_wat (hT : TKS f n t K V b e) (h : CST t K V S6 x M i w s) (hi : i ≤ t) (hQ : ∀ r M', COK t K V S6 x (pNum K V 7 0 100 (w, s) i) r M' → Q r M') : W_RepublicReader_readWatch N M Q := by
  unfold W_RepublicReader_readWatch
  unfold pNum at hQ
  refine c_nm hT h hi (fun M2 hneg hlt h2 => ?_) (fun hneg hm1 => ?_)
  · rw [if_neg hneg] at hQ
    exact ⟨fun y => absurd ((nm_n hT hi).mpr y) hneg, fun _ => hQ 1 _ (Or.inl ⟨rfl, _, i + 1, rfl, by omega, CST_e h2 (eqo_1 (a := 30) (k := 11)) rfl (CW_sc (fa := 11) (k := 7) h2.2.2.1 (by omega))⟩)⟩
  · rw [if_pos hneg] at hQ
    exact ⟨fun _ => hQ 0 _ (Or.inr ⟨rfl, i, rfl, hi, TKc_e h.1 (eqo_1 (a := 30) (k := 11)) rfl⟩), fun y => absurd rfl y⟩
theorem c_ter (hT : TKS f n t K V b e) (h : CST t K V S6 x M i w s) (hi : i ≤ t) (hQ : ∀ r M', COK t K V S6 x (pNum K V 8 1 30 (w, s) i) r M' → Q r M') : W_RepublicReader_readTerm N M Q := by
  unfold W_RepublicReader_readTerm
  unfold pNum at hQ
  refine c_nm hT h hi (fun M2 hneg hlt h2 => ?_) (fun hneg hm1 => ?_)
  · rw [if_neg hneg] at hQ
    exact ⟨fun y => absurd ((nm_n hT hi).mpr y) hneg, fun _ => hQ 1 _ (Or.inl ⟨rfl, _, i + 1, rfl, by omega, CST_e h2 (eqo_1 (a := 30) (k := 12)) rfl (CW_sc (fa := 12) (k := 8) h2.2.2.1 (by omega))⟩)⟩
  · rw [if_pos hneg] at hQ
    exact ⟨fun _ => hQ 0 _ (Or.inr ⟨rfl, i, rfl, hi, TKc_e h.1 (eqo_1 (a := 30) (k := 12)) rfl⟩), fun y => absurd rfl y⟩
theorem c_har (hT : TKS f n t K V b e) (h : CST t K V S6 x M i w s) (hi : i ≤ t) (hQ : ∀ r M', COK t K V S6 x (pHarm K V (w, s) i) r M' → Q r M') : W_RepublicReader_readHarm N M Q := by
  unfold W_RepublicReader_readHarm
  unfold pHarm pNum at hQ
  refine c_nm hT h hi (fun M2 hneg hlt h2 => ?_) (fun hneg hm1 => ?_)
  · rw [if_neg hneg] at hQ
    refine ⟨fun y => absurd ((nm_n hT hi).mpr y) hneg, fun _ => ?_⟩
    obtain ⟨m, m1, m2, m3, m4, m5, m6, m7⟩ := nm_ok hT hi hneg
    rw [m3] at m6
    have hm7 : m ≤ 7 := by
      have : ¬ 7 < m := fun y => m6 ((i32_lt (j := 7) (by omega) (by omega)).mpr y)
      omega
    rw [m2, ni_i (by omega)] at hQ ⊢
    refine c_nm hT h2 (i := i + 1) (by omega) (fun M5 hneg2 hlt2 h5 => ?_) (fun hneg2 hm2 => ?_)
    · rw [if_neg hneg2] at hQ
      exact ⟨fun y => absurd ((nm_n hT (by omega)).mpr y) hneg2, fun _ => hQ 1 _ (Or.inl ⟨rfl, _, i + 1 + 1, rfl, by omega, CST_e h5 (eqo_a (a := 39) (k := m)) rfl (CW_hm (d := m) h5.2.2.1 (by omega))⟩)⟩
    · rw [if_pos hneg2] at hQ
      exact ⟨fun _ => hQ 0 _ (Or.inr ⟨rfl, i + 1, rfl, by omega, TKc_e h2.1 (eqo_a (a := 39) (k := m)) rfl⟩), fun y => absurd rfl y⟩
  · rw [if_pos hneg] at hQ
    exact ⟨fun _ => hQ 0 _ (Or.inr ⟨rfl, i, rfl, hi, h.1⟩), fun y => absurd rfl y⟩
theorem i32_nm1 {m : Nat} (h : m < 2147483648) : ¬ i32 m = -1 := fun y => by
  have := congrArg Int32.toInt y
  rw [i32_i h] at this
  have e3 : ((-1 : Int32)).toInt = -1 := rfl
  omega
theorem c_wed (hT : TKS f n t K V b e) (h : CST t K V S6 x M i w s) (hw : WF w) (hi : i ≤ t) (hQ : ∀ r M', COK t K V S6 x (pWed K V (w, s) i) r M' → Q r M') : W_RepublicReader_readWed N M Q := by
  unfold W_RepublicReader_readWed
  unfold pWed at hQ
  dsimp only at hQ
  have hle := (nC_i hw).2.1
  refine c_liv hT h hw hi (fun M2 hneg hlt hnp hsg h2 => ?_) (fun hbad => ?_)
  · have hs : sng w (tol K V w i) = true := by
      rcases hsg with c | c
      · exact absurd c (by decide)
      · exact c
    obtain ⟨c, k1, k2, -⟩ := tol_ok hT hi hw hneg
    rw [if_pos hs] at hQ
    rw [k2]
    refine ⟨fun y => absurd y (i32_nm1 (by omega)), fun _ => ?_⟩
    refine c_liv hT h2 hw (i := i + 1) (by omega) (fun M5 hneg2 hlt2 hnp2 hsg2 h5 => ?_) (fun hbad2 => ?_)
    · have hs2 : sng w (tol K V w (i + 1)) = true := by
        rcases hsg2 with c | c
        · exact absurd c (by decide)
        · exact c
      obtain ⟨d, l1, l2, -⟩ := tol_ok hT (i := i + 1) (by omega) hw hneg2
      rw [if_pos ⟨hs2, fun y => hnp2 (by rw [← y, k2])⟩, k2, l2, ni_i (by omega), ni_i (by omega)] at hQ
      rw [l2]
      refine ⟨fun y => absurd y (i32_nm1 (by omega)), fun _ => ?_⟩
      unfold W_World_marry
      have hcd : c ≠ d := fun e => hnp2 (by rw [l2, e])
      rw [ni_i (by omega), ni_i (by omega)]
      have h5' := h5.2.2.1
      have q1 : M5.1 31 c = cl w c 1 := (h5'.2.2.2.1 c k1).1
      have q2 : M5.1 31 d = cl w d 1 := (h5'.2.2.2.1 d l1).1
      have r31 : ∀ j, (wi (wi M5 (30 + 4) c (i32 d)) (30 + 4) d (i32 c)).1 (30 + 1) j = M5.1 31 j := fun j => by rw [wi_1n (by omega), wi_1n (by omega)]
      rw [r31, r31, q1, q2, wi_1e]
      have g1 := CW_ct (x := i32 d) h5' hle k1 (Or.inr (Or.inr (Or.inr (Or.inl ⟨rfl, rfl⟩))))
      have n1 : nC (up1 w (18 + 13 * c + 4) (i32 d)) = nC w := by unfold nC; rw [up1_n (by omega)]
      have g2 := CW_ct (x := i32 c) g1 (by rw [n1]; exact hle) (by rw [n1]; exact l1) (Or.inr (Or.inr (Or.inr (Or.inl ⟨rfl, rfl⟩))))
      have n2 : nC (up1 (up1 w (18 + 13 * c + 4) (i32 d)) (18 + 13 * d + 4) (i32 c)) = nC w := by unfold nC; rw [up1_n (by omega), up1_n (by omega)]
      have g3 := CW_ct (x := cl w c 1 ||| cl w d 1) g2 (by rw [n2]; exact hle) (by rw [n2]; exact k1) (Or.inl ⟨rfl, rfl⟩)
      have n3 : nC (up1 (up1 (up1 w (18 + 13 * c + 4) (i32 d)) (18 + 13 * d + 4) (i32 c)) (18 + 13 * c + 1) (cl w c 1 ||| cl w d 1)) = nC w := by unfold nC; rw [up1_n (by omega), up1_n (by omega), up1_n (by omega)]
      have g4 := CW_ct (x := cl w c 1 ||| cl w d 1) g3 (by rw [n3]; exact hle) (by rw [n3]; exact l1) (Or.inl ⟨rfl, rfl⟩)
      have e4 : Eqo ([(34, 34, none)] ++ ([(34, 34, none)] ++ ([(31, 31, none)] ++ [(31, 31, none)]))) M5 (wi (wi (wi (wi M5 (30 + 4) c (i32 d)) (30 + 4) d (i32 c)) (30 + 1) c (cl w c 1 ||| cl w d 1)) (30 + 1) d (cl w c 1 ||| cl w d 1)) := eqo_app eqo_a (eqo_app eqo_a (eqo_app eqo_a eqo_a))
      exact hQ 1 _ (Or.inl ⟨rfl, _, i + 2, rfl, by omega, CST_e h5 e4 rfl g4⟩)
    · have : ¬ (sng w (tol K V w (i + 1)) = true ∧ ¬ tol K V w i = tol K V w (i + 1)) := fun ⟨y1, y2⟩ => by
        rcases hbad2 with c1 | ⟨c1, c2⟩ | ⟨c1, c2⟩
        · exact sng_m y1 c1
        · exact y2 (by rw [c2, k2])
        · exact c2 y1
      rw [if_neg this] at hQ
      exact ⟨fun _ => hQ 0 _ (Or.inr ⟨rfl, i + 1, rfl, by omega, h2.1⟩), fun y => absurd rfl y⟩
  · have : ¬ sng w (tol K V w i) = true := fun y => by
      rcases hbad with c1 | ⟨c1, c2⟩ | ⟨c1, c2⟩
      · exact sng_m y c1
      · rw [c2] at c1
        exact c1 (by decide)
      · exact c2 y
    rw [if_neg this] at hQ
    exact ⟨fun _ => hQ 0 _ (Or.inr ⟨rfl, i, rfl, hi, h.1⟩), fun y => absurd rfl y⟩
theorem c_sen (hS : ∀ i, i ≤ t → (S6 i = 2 ↔ sz b e i = 2)) (hT : TKS f n t K V b e) (h : CST t K V S6 x M i w s) (hw : WF w) (hi : i ≤ t) (hQ : ∀ r M', COK t K V S6 x (pSeen K V (sz b e) (w, s) i) r M' → Q r M') : W_RepublicReader_readSeen N M Q := by
  unfold W_RepublicReader_readSeen
  unfold pSeen at hQ
  dsimp only at hQ
  have hle := (nC_i hw).2.1
  refine c_liv hT h hw hi (fun M2 hneg hlt hnp hsg h2 => ?_) (fun hbad => ?_)
  · obtain ⟨c, k1, k2, -⟩ := tol_ok hT hi hw hneg
    rw [if_neg hneg, k2, ni_i (by omega)] at hQ
    rw [k2]
    refine ⟨fun y => absurd y (i32_nm1 (by omega)), fun _ => ?_⟩
    refine c_mt hS hT h2 (i := i + 1) (by omega) (fun M5 hm hlt2 h5 => ?_) (fun hm => ?_)
    · rw [if_pos hm] at hQ
      obtain ⟨m1, m2, m3, m4, m5, m6, m7⟩ := mtq_ok hT (i := i + 1) (by omega) hm
      refine ⟨fun y => absurd y m7, fun _ => ?_⟩
      rw [ni_i (by omega), show M5.2 38 c = s c from (h5.2.2.1.2.2.2.1 c k1).2.2.2.2.2.2.2]
      exact hQ 1 _ (Or.inl ⟨rfl, _, i + 2, rfl, by omega, CST_e h5 (eqo_b (a := 38) (k := c)) rfl (CW_sn h5.2.2.1)⟩)
    · rw [if_neg hm] at hQ
      exact ⟨fun _ => hQ 0 _ (Or.inr ⟨rfl, i + 1, rfl, by omega, h2.1⟩), fun y => absurd rfl y⟩
  · have : tol K V w i < 0 := by
      rcases hbad with c1 | ⟨c1, c2⟩ | ⟨c1, c2⟩
      · exact c1
      · rw [c2]; decide
      · exact absurd rfl c1
    rw [if_pos this] at hQ
    exact ⟨fun _ => hQ 0 _ (Or.inr ⟨rfl, i, rfl, hi, h.1⟩), fun y => absurd rfl y⟩
end C3
