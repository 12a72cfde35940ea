/-! A REPUBLIC'S TEXT: the reference reads it all -/
section R3
variable {f : BY} {n t i p g N : Nat} {K V : Nat → Int32} {b e : Nat → Nat} {M : MM} {w : RW} {s : RS} {M0 : MM} {Q : Int32 → MM → Prop}
theorem r_num (hb : BOK f n) (hn : n ≤ 400) (hT : TKS f n t K V b e) {k : Nat} {lo hi' : Int32} (h1 : hi' < 1000) (h : RST f n M0 M p g w s) (hi : i ≤ t) (hp : PT e b i p) (hQ : ∀ r M', ROK f n t b e M0 (pNum K V k lo hi' (w, s) i) r M' → Q r M') {y : Int32} (hy : ni y = k) : W_m_readNumber y lo hi' N M Q := by
  unfold W_m_readNumber
  rw [hy]
  refine r_nm hb hn hT h1 h hi hp (fun M2 h2 => ?_)
  unfold pNum at hQ
  refine ⟨fun c => ?_, fun c => ?_⟩
  · rw [if_pos c] at hQ
    exact hQ 0 _ (Or.inr ⟨rfl, i, rfl, hi, RST_g (RST_w h2)⟩)
  · rw [if_neg c] at hQ
    obtain ⟨m, m1, m2, m3, m4, -⟩ := nm_ok hT hi c
    obtain ⟨a1, a2⟩ := np_T hb hn hT hi m4
    exact hQ 1 _ (Or.inl ⟨rfl, _, i + 1, _, _, rfl, by omega, RST_w h2, a1⟩)
theorem tol_lt (hb : BOK f n) (hn : n ≤ 400) (hT : TKS f n t K V b e) {m : Nat} (hi : i ≤ t) (hw : WF w) : tol K V w i < 0 ∨ ∃ m, m < 1000 ∧ tol K V w i = i32 m := by
  rcases Classical.em (tol K V w i < 0) with c | c
  · exact Or.inl c
  · obtain ⟨m, m1, m2, -⟩ := tol_ok hT hi hw c
    have := (nC_i hw).2.1
    exact Or.inr ⟨m, by omega, m2⟩
theorem v_sn2 (hb : BOK f n) (hn : n ≤ 400) (hT : TKS f n t K V b e) {j : Nat} (h : RST f n M0 M p g w s) (hj : j ≤ t) (hw : WF w) : V_m_isSingle (tol K V w j) M = b32 (sng w (tol K V w j)) := by
  rcases tol_lt hb hn hT (m := 0) hj hw with c | ⟨m, m1, m2⟩
  · exact v_sng hb hn hT (m := 0) h (by omega) (Or.inl c)
  · exact v_sng hb hn hT (m := m) h m1 (Or.inr m2)
theorem r_wed (hb : BOK f n) (hn : n ≤ 400) (hT : TKS f n t K V b e) (h : RST f n M0 M p g w s) (hw : WF w) (hi : i ≤ t) (hp : PT e b i p) (hQ : ∀ r M', ROK f n t b e M0 (pWed K V (w, s) i) r M' → Q r M') : W_m_readWed N M Q := by
  unfold W_m_readWed
  refine r_tol hb hn hT h hw hi hp (fun M2 h2 => ?_)
  unfold pWed at hQ
  dsimp only at hQ
  rw [v_sn2 hb hn hT h2 hi hw]
  by_cases c1 : sng w (tol K V w i) = true
  · rw [if_pos c1] at hQ
    rw [c1]
    refine ⟨fun y => absurd y (by decide), fun _ => ?_⟩
    obtain ⟨a1, a2⟩ := tol_T hb hn hT hw hi (sng_m c1)
    obtain ⟨c, k1, k2, -⟩ := tol_ok hT hi hw (sng_m c1)
    have hle := (nC_i hw).2.1
    refine r_tol hb hn hT h2 hw (i := i + 1) (by omega) a1 (fun M5 h5 => ?_)
    rw [v_sn2 hb hn hT h5 (by omega) hw]
    by_cases c2 : sng w (tol K V w (i + 1)) = true
    · rw [c2]
      refine ⟨fun y => absurd y (by decide), fun _ => ⟨fun y => ?_, fun y => ?_⟩⟩
      · rw [if_neg (fun z => z.2 y)] at hQ
        exact hQ 0 _ (Or.inr ⟨rfl, i + 1, rfl, by omega, RST_g h5⟩)
      · rw [if_pos ⟨c2, y⟩] at hQ
        obtain ⟨a3, a4⟩ := tol_T hb hn hT hw (i := i + 1) (by omega) (sng_m c2)
        obtain ⟨d, l1, l2, -⟩ := tol_ok hT (i := i + 1) (by omega) hw (sng_m c2)
        rw [k2, l2, ni_i (by omega), ni_i (by omega)] at hQ
        rw [k2, l2]
        unfold W_m_weds
        rw [show V_m_of (i32 c) 1 M5 = cl w c 1 from of_row (i := 1) h5.2.1 (by omega) (by omega), show V_m_of (i32 d) 1 M5 = cl w d 1 from of_row (i := 1) h5.2.1 (by omega) (by omega)]
        refine r_set (c := c) (k := 4) h5 (by omega) (by omega) rfl (fun M6 h6 => ?_)
        refine r_set (c := d) (k := 4) h6 (by omega) (by omega) rfl (fun M7 h7 => ?_)
        refine r_set (c := c) (k := 1) h7 (by omega) (by omega) rfl (fun M8 h8 => ?_)
        refine r_set (c := d) (k := 1) h8 (by omega) (by omega) rfl (fun M9 h9 => ?_)
        exact hQ 1 _ (Or.inl ⟨rfl, _, i + 2, _, _, rfl, by omega, h9, a3⟩)
    · rw [if_neg (fun z => c2 z.1)] at hQ
      rw [Bool.not_eq_true] at c2
      rw [c2]
      exact ⟨fun _ => hQ 0 _ (Or.inr ⟨rfl, i + 1, rfl, by omega, RST_g h5⟩), fun y => absurd rfl y⟩
  · rw [if_neg c1] at hQ
    rw [Bool.not_eq_true] at c1
    rw [c1]
    exact ⟨fun _ => hQ 0 _ (Or.inr ⟨rfl, i, rfl, hi, RST_g h2⟩), fun y => absurd rfl y⟩
theorem r_sen (hb : BOK f n) (hn : n ≤ 400) (hT : TKS f n t K V b e) (h : RST f n M0 M p g w s) (hw : WF w) (hi : i ≤ t) (hp : PT e b i p) (hQ : ∀ r M', ROK f n t b e M0 (pSeen K V (sz b e) (w, s) i) r M' → Q r M') : W_m_readSeen N M Q := by
  unfold W_m_readSeen
  refine r_tol hb hn hT h hw hi hp (fun M2 h2 => ?_)
  unfold pSeen at hQ
  dsimp only at hQ
  refine ⟨fun c1 => ?_, fun c1 => ?_⟩
  · rw [if_pos c1] at hQ
    exact hQ 0 _ (Or.inr ⟨rfl, i, rfl, hi, RST_g h2⟩)
  · rw [if_neg c1] at hQ
    obtain ⟨a1, a2⟩ := tol_T hb hn hT hw hi c1
    obtain ⟨c, k1, k2, -⟩ := tol_ok hT hi hw c1
    have hle := (nC_i hw).2.1
    refine r_mt hb hn hT h2 (i := i + 1) (by omega) a1 (fun M7 h7 => ?_)
    by_cases c2 : mtq K V (sz b e) (i + 1) = true
    · rw [if_pos c2] at hQ ⊢
      obtain ⟨m1, m2, m3, m4, m5, m6, m7⟩ := mtq_ok hT (i := i + 1) (by omega) c2
      refine ⟨fun y => absurd y m6, fun _ => ⟨fun y => absurd y m6, fun _ => ?_⟩⟩
      rw [k2, ni_i (by omega)] at hQ
      rw [k2, ni_i (by omega), h7.2.2.1]
      exact hQ 1 _ (Or.inl ⟨rfl, _, i + 2, _, _, rfl, by omega, RST_j h7, (np_T hb hn hT (i := i + 1) (by omega) m1).1⟩)
    · rw [if_neg c2] at hQ ⊢
      have := hQ 0 M7 (Or.inr ⟨rfl, i + 1, rfl, by omega, RST_g h7⟩)
      exact ⟨fun _ => ⟨fun _ => this, fun y => absurd (by decide) y⟩, fun y => absurd (by decide) y⟩
theorem r_rln (hb : BOK f n) (hn : n ≤ 400) (hT : TKS f n t K V b e) {k F : Nat} {C : Int32} (hF : 400 < F) (hC : C < 1000) (hx : mx 0 (M0.1 190 15) - 1 = C) (hk : k ≤ 14) (h : RST f n M0 M p g w s) (hw : WF w) (hi : i ≤ t) (hp : PT e b i p) (hQ : ∀ r M', ROK f n t b e M0 (if k = 14 then (none, i) else pRL K V (sz b e) C F (w, s) i) r M' → Q r M') : W_m_readLine 0 (i32 k) N M Q := by
  unfold W_m_readLine
  refine r_lts hb hn hT h hi hp (fun e' M2 he h2 => ?_)
  refine ⟨fun _ => ?_, fun y => absurd rfl y⟩
  unfold W_m_readRepublicLine
  refine ⟨fun h14 => ?_, fun h14 => ?_⟩
  · rw [if_pos ((i32_ij (b := 14) (by omega) (by omega)).mp h14)] at hQ
    exact hQ 0 _ (Or.inr ⟨rfl, i, rfl, hi, RST_g h2⟩)
  · rw [if_neg (fun y => h14 (by rw [y]; rfl))] at hQ
    unfold pRL at hQ
    dsimp only at hQ
    refine r_isw hb hn hT st_citizen (by omega) h2 hi he (fun hk1 ee hlt hp' => ?_) (fun hk1 => ?_)
    · rw [if_pos (show K i = 11 from hk1)] at hQ
      refine ⟨fun y => absurd y (by decide), fun _ => ?_⟩
      exact r_cit hb hn hT hF hC hx h2 hw (by omega) hp' rfl hQ
    rw [if_neg (show ¬ K i = 11 from hk1)] at hQ
    refine ⟨fun _ => ?_, fun y => absurd rfl y⟩
    refine r_isw hb hn hT st_watch (by omega) h2 hi he (fun hk2 ee hlt hp' => ?_) (fun hk2 => ?_)
    · rw [if_pos (show K i = 15 from hk2)] at hQ
      refine ⟨fun y => absurd y (by decide), fun _ => ?_⟩
      exact r_num hb hn hT (by decide) h2 (i := i + 1) (by omega) hp' hQ rfl
    rw [if_neg (show ¬ K i = 15 from hk2)] at hQ
    refine ⟨fun _ => ?_, fun y => absurd rfl y⟩
    refine r_isw hb hn hT st_term (by omega) h2 hi he (fun hk3 ee hlt hp' => ?_) (fun hk3 => ?_)
    · rw [if_pos (show K i = 16 from hk3)] at hQ
      refine ⟨fun y => absurd y (by decide), fun _ => ?_⟩
      exact r_num hb hn hT (by decide) h2 (i := i + 1) (by omega) hp' hQ rfl
    rw [if_neg (show ¬ K i = 16 from hk3)] at hQ
    refine ⟨fun _ => ?_, fun y => absurd rfl y⟩
    refine r_isw hb hn hT st_wed (by omega) h2 hi he (fun hk4 ee hlt hp' => ?_) (fun hk4 => ?_)
    · rw [if_pos (show K i = 18 from hk4)] at hQ
      refine ⟨fun y => absurd y (by decide), fun _ => ?_⟩
      exact r_wed hb hn hT h2 hw (i := i + 1) (by omega) hp' hQ
    rw [if_neg (show ¬ K i = 18 from hk4)] at hQ
    refine ⟨fun _ => ?_, fun y => absurd rfl y⟩
    refine r_isw hb hn hT st_seen (by omega) h2 hi he (fun hk5 ee hlt hp' => ?_) (fun hk5 => ?_)
    · rw [if_pos (show K i = 19 from hk5)] at hQ
      refine ⟨fun y => absurd y (by decide), fun _ => ?_⟩
      exact r_sen hb hn hT h2 hw (i := i + 1) (by omega) hp' hQ
    rw [if_neg (show ¬ K i = 19 from hk5)] at hQ
    refine ⟨fun _ => ?_, fun y => absurd rfl y⟩
    refine r_isw hb hn hT st_harm (by omega) h2 hi he (fun hk6 ee hlt hp' => ?_) (fun hk6 => ?_)
    · rw [if_pos (show K i = 17 from hk6)] at hQ
      refine ⟨fun y => absurd y (by decide), fun _ => ?_⟩
      unfold pHarm at hQ
      refine r_nm hb hn hT (by decide) h2 (i := i + 1) (by omega) hp' (fun M21 h21 => ?_)
      refine ⟨fun c => ?_, fun c => ?_⟩
      · rw [if_pos c] at hQ
        exact hQ 0 _ (Or.inr ⟨rfl, i + 1, rfl, by omega, RST_g h21⟩)
      · rw [if_neg c] at hQ
        obtain ⟨m, m1, m2, m3, m4, m5, m6, m7⟩ := nm_ok hT (i := i + 1) (by omega) c
        refine r_num hb hn hT (by decide) h21 (i := i + 1 + 1) (by omega) (np_T hb hn hT (i := i + 1) (by omega) m4).1 (fun r M' hh => ?_) (k := 10 + ni (nm K V 0 7 (i + 1))) (by rw [m2, show (10 : Int32) + i32 m = i32 (10 + m) from i32_a 10 m, ni_i (by omega), ni_i (by omega)])
        have hq := hQ r M' hh
        rcases hh with ⟨rfl, -⟩ | ⟨rfl, -⟩
        · exact ⟨fun y => absurd y (by decide), fun _ => hq⟩
        · exact ⟨fun _ => hq, fun y => absurd rfl y⟩
    · rw [if_neg (show ¬ K i = 17 from hk6)] at hQ
      exact ⟨fun _ => hQ 0 _ (Or.inr ⟨rfl, i, rfl, hi, RST_g h2⟩), fun y => absurd rfl y⟩
theorem r_all0 (hb : BOK f n) (hn : n ≤ 400) (hT : TKS f n t K V b e) {F : Nat} {C : Int32} (hF : 400 < F) (hC : C < 1000) (hx : mx 0 (M.1 190 15) - 1 = C) (h18 : M.1 190 18 = i32 n) (h203 : ∀ j, j < n → M.1 203 j = (f j).toInt8.toInt32) (h191 : M.1 191 = w) (h196 : M.2 196 = s) (hw : WF w) (hQ : ∀ r M', ((∃ q j, pRep K V (sz b e) C F (w, s) = (some q, j) ∧ ¬ r < 0 ∧ M'.1 191 = q.1 ∧ M'.2 196 = q.2 ∧ WKP w q.1) ∨ (∃ j, pRep K V (sz b e) C F (w, s) = (none, j) ∧ j ≤ t ∧ r < 0 ∧ M'.1 190 21 = i32 (b j))) → Eqo ([(190, 190, some 0), (190, 190, some 20), (190, 190, some 18), (190, 190, some 19), (190, 190, some 25)] ++ fq3) M M' → M'.1 190 18 = 0 → M'.1 190 0 = 0 → Q r M') : W_m_readAll 0 N M Q := by
  have ht := hT.1
  unfold W_m_readAll W_m_uses
  dsimp only
  have e1 : Eqo [(190, 190, some 0), (190, 190, some 20), (190, 190, some 18), (190, 190, some 19), (190, 190, some 25)] M (wi (wi (wi (wi (wi M 190 0 0) 190 20 ((wi M 190 0 0).1 190 18)) 190 18 0) 190 19 0) 190 25 0) := eqo_wi (i := 4) (eqo_wi (i := 3) (eqo_wi (i := 2) (eqo_wi (i := 1) (eqo_wi (i := 0) (eqo_rf _) rfl (Or.inr rfl)) rfl (Or.inr rfl)) rfl (Or.inr rfl)) rfl (Or.inr rfl)) rfl (Or.inr rfl)
  have z1 : (wi (wi (wi (wi (wi M 190 0 0) 190 20 ((wi M 190 0 0).1 190 18)) 190 18 0) 190 19 0) 190 25 0).1 190 18 = 0 := by simp (disch := omega) only [wi_1n, wi_1e]
  have z0 : (wi (wi (wi (wi (wi M 190 0 0) 190 20 ((wi M 190 0 0).1 190 18)) 190 18 0) 190 19 0) 190 25 0).1 190 0 = 0 := by simp (disch := omega) only [wi_1n, wi_1e]
  generalize hM1 : wi (wi (wi (wi (wi M 190 0 0) 190 20 ((wi M 190 0 0).1 190 18)) 190 18 0) 190 19 0) 190 25 0 = M1 at *
  have s20 : M1.1 190 20 = i32 n := by
    rw [← hM1]
    simp (disch := omega) only [wi_1n, wi_1e]
    exact h18
  have s19 : M1.1 190 19 = i32 0 := by
    rw [← hM1]
    simp (disch := omega) only [wi_1n, wi_1e]
    rfl
  have s203 : ∀ j, j < n → M1.1 203 j = (f j).toInt8.toInt32 := fun j hj => by
    rw [← hM1]
    simp (disch := omega) only [wi_1n]
    exact h203 j hj
  have s15 : mx 0 (M1.1 190 15) - 1 = C := by
    rw [← hM1]
    simp (disch := omega) only [wi_1n]
    exact hx
  have s191 : M1.1 191 = w := by
    rw [← hM1, ← h191]
    funext j
    simp (disch := omega) only [wi_1n]
  have s196 : M1.2 196 = s := by
    rw [← hM1]
    exact h196
  obtain ⟨g1, hg1⟩ := i32_ex (M1.1 190 21)
  have tx : RST f n M1 M1 0 g1 w s := ⟨⟨s20, s19, hg1, s203⟩, s191, s196, eqo_rf _⟩
  replace hQ : ∀ r M', ((∃ q j, pRep K V (sz b e) C F (w, s) = (some q, j) ∧ ¬ r < 0 ∧ M'.1 191 = q.1 ∧ M'.2 196 = q.2 ∧ WKP w q.1) ∨ (∃ j, pRep K V (sz b e) C F (w, s) = (none, j) ∧ j ≤ t ∧ r < 0 ∧ M'.1 190 21 = i32 (b j))) → Eqo fq3 M1 M' → Q r M' := fun r M' h1 h2 => hQ r M' h1 (eqo_app e1 h2) (by rw [eq1 h2 (b := 190) (k := 18) rfl]; exact z1) (by rw [eq1 h2 (b := 190) (k := 0) rfl]; exact z0)
  have p0 : PT e b 0 0 := PT_0.mpr (Nat.zero_le _)
  refine r_blanks tx.1 hb hn (by omega) (fun q hq => ?_)
  obtain rfl := NB_u hq (tk_nb hT (by omega) p0)
  rw [show (atP M1 (b 0) (b 0)).1 190 19 = i32 (b 0) from rfl, show (atP M1 (b 0) (b 0)).1 190 20 = i32 n from s20]
  have hb0 := (hT.2.2.2 0 (by omega)).2.1
  refine ⟨fun h0 => ?_, fun h0 => ?_⟩
  · have hk := (tkn_21 hT (by omega)).mp ((i32_ij (by omega) (by omega)).mp h0)
    refine hQ 0 _ (Or.inl ⟨(w, s), 0, ?_, by decide, s191, s196, hw, rfl, rfl⟩) (RST_at tx).2.2.2
    unfold pRep
    rw [if_pos hk]
  · have hk : ¬ K 0 = 21 := fun x => h0 (by rw [(tkn_21 hT (by omega)).mpr x])
    have hpc : pRep K V (sz b e) C F (w, s) = pRs K V (sz b e) C F 14 (w, s) 0 := by
      unfold pRep
      rw [if_neg hk]
    rw [hpc] at hQ
    refine I_m_readAll_28 0 Q (fun v M' => ∃ (m k : Nat) (q : WRS) (i p g : Nat), k + m = 14 ∧ v = i32 k ∧ i ≤ t ∧ RST f n M1 M' p g q.1 q.2 ∧ PT e b i p ∧ WKP w q.1 ∧ pRs K V (sz b e) C F 14 (w, s) 0 = pRs K V (sz b e) C F m q i) (fun N ih v M' hih hv => ?_) N _ _ ⟨14, 0, (w, s), 0, b 0, b 0, rfl, rfl, by omega, RST_at tx, PT_b hT (by omega), ⟨hw, rfl, rfl⟩, rfl⟩
    obtain ⟨m, k, q, i, p, g, k1, rfl, k2, k3, k4, k5, k8⟩ := hv
    unfold B_m_readAll_28
    refine r_rln hb hn hT hF hC s15 (by omega) k3 k5.1 k2 k4 (fun r M7 hr => ?_)
    rcases hr with ⟨rfl, q', j, p', g', j1, j2, j3, j4⟩ | ⟨rfl, j, j1, j2, j3, e7⟩
    · refine ⟨fun x => absurd x (by decide), fun _ => ?_⟩
      have hne : ¬ k = 14 := fun x => by
        rw [if_pos x] at j1
        exact non j1
      rw [if_neg hne] at j1
      have hW := pRL_ok hT k2 k5.1 j1
      have hW' : WKP w q'.1 := ⟨hW.1, hW.2.1.trans k5.2.1, hW.2.2.trans k5.2.2⟩
      obtain ⟨m2, rfl⟩ : ∃ m2, m = m2 + 1 := ⟨m - 1, by omega⟩
      have k8' : pRs K V (sz b e) C F 14 (w, s) 0 = (if K j = 21 then (some q', j) else if K j = 59 then pRs K V (sz b e) C F m2 q' (j + 1) else (none, j)) := by
        rw [k8]
        show (match pRL K V (sz b e) C F (q.1, q.2) i with | (none, j) => (none, j) | (some q', j) => _) = _
        rw [j1]
      refine r_blanks j3.1 hb hn (tk_pn hT j2 j4) (fun z hz => ?_)
      obtain rfl := NB_u hz (tk_nb hT j2 j4)
      have h8 := RST_at (p' := b j) (g' := b j) j3
      have hbj := (hT.2.2.2 j j2).2.1
      rw [show (atP M7 (b j) (b j)).1 190 19 = i32 (b j) from rfl, show (atP M7 (b j) (b j)).1 190 20 = i32 n from j3.1.1]
      rw [show ((i32 (b j)) = i32 n) = (K j = 21) from propext ((i32_ij (by omega) (by omega)).trans (tkn_21 hT j2))]
      refine ⟨fun h21 => ?_, fun h21 => ?_⟩
      · rw [if_pos h21] at k8'
        refine hQ _ _ (Or.inl ⟨q', j, k8', ?_, h8.2.1, h8.2.2.1, hW'⟩) h8.2.2.2
        rw [i32_s, lt_lit, i32_i (by omega)]
        show ¬ (((k + 1 : Nat) : Int) < 0)
        omega
      · rw [if_neg h21] at k8'
        obtain ⟨q1, q2⟩ := tkn_59 hT j2
        rw [v_at h8.1 hb hn (by omega) (by decide) (by decide)]
        rw [show (59 : Int32).toInt = 59 from rfl]
        refine ⟨fun h59 => ?_, fun h59 => ?_⟩
        · have hno : ¬ K j = 59 := fun y => by
            rw [b32_eq0, decide_eq_false_iff_not] at h59
            exact h59 (q1.mpr y)
          rw [if_neg hno] at k8'
          exact hQ _ _ (Or.inr ⟨j, k8', j2, by decide, (RST_g h8).1⟩) h8.2.2.2
        · have hyes : K j = 59 := by
            rw [b32_ne0, decide_eq_true_eq] at h59
            exact q1.mp h59
          rw [if_pos hyes] at k8'
          have hlt := tk_lt hT j2 h21
          refine hih _ _ ⟨m2, k + 1, q', j + 1, b j + 1, b j, by omega, i32_s k, by omega, ?_, ?_, hW', k8'⟩
          · rw [i32_s, atP_p]
            exact RST_at j3
          · have := PT_s hT hlt
            rw [q2 hyes] at this
            exact this
    · refine ⟨fun _ => ?_, fun x => absurd rfl x⟩
      refine hQ _ _ (Or.inr ⟨j, ?_, j2, by decide, j3⟩) e7
      rw [k8]
      by_cases h14 : k = 14
      · rw [if_pos h14] at j1
        obtain rfl : m = 0 := by omega
        show (none, i) = (none, j)
        exact congrArg _ (congrArg Prod.snd j1)
      · rw [if_neg h14] at j1
        obtain ⟨m2, rfl⟩ : ∃ m2, m = m2 + 1 := ⟨m - 1, by omega⟩
        show (match pRL K V (sz b e) C F (q.1, q.2) i with | (none, j) => (none, j) | (some q', j) => _) = _
        rw [j1]
end R3
