/-! ACTS: undone; THE IMAGE -/
section LB
variable {a b N : Nat} {M : MM} {Q : MM → Prop}
theorem sp_lawb (hab : a + 5 ≤ b ∨ b + 5 ≤ a) (hQ : ∀ M', M'.1 a 0 = M.1 b 0 → M'.1 a 1 = M.1 b 1 → (∀ L, LawC M b L → LawC M' a L) → (∀ j, M'.1 (a + 2) j = M.1 (b + 2) j) → Eqo (fp_Law_become a b) M M' → Q M') : W_Law_become a b N M Q := by
  refine and_Law_become (Q1 := fun M' => M'.1 a 0 = M.1 b 0 ∧ M'.1 a 1 = M.1 b 1 ∧ (∀ L, LawC M b L → LawC M' a L) ∧ (∀ j, M'.1 (a + 2) j = M.1 (b + 2) j)) (fun M' h1 h2 => hQ M' h1.1 h1.2.1 h1.2.2.1 h1.2.2.2 h2) ?_ (an_Law_become (Q := fun M' => Eqo (fp_Law_become a b) M M') (fun M1 h => h))
  unfold W_Law_become
  refine ⟨?_, ?_, fun L hL => ?_, fun j => ?_⟩
  · simp (disch := omega) only [wi_1n, wi_1e, cp0_1n, cp0_1e]
  · simp (disch := omega) only [wi_1n, wi_1e, cp0_1n, cp0_1e]
  · unfold LawC cT cfrom at *
    obtain ⟨l1, l2, l3, l4⟩ := hL
    refine ⟨?_, l2, fun j hj => ?_, fun k hk => ?_⟩
    · simp (disch := omega) only [wi_1n, wi_1e, cp0_1n, cp0_1e]
      exact l1
    · simp (disch := omega) only [wi_1n, wi_1e, cp0_1n, cp0_1e]
      exact l3 j hj
    · have e2 : ∀ i, 1 ≤ i → i ≤ 4 → (cpM (cpM (cpM (cpM (wi (wi (wi (wi (wi M a 0 (M.1 b 0)) a 1 ((wi M a 0 (M.1 b 0)).1 b 1)) a 2 ((wi (wi M a 0 (M.1 b 0)) a 1 ((wi M a 0 (M.1 b 0)).1 b 1)).1 b 2)) a 6 ((wi (wi (wi M a 0 (M.1 b 0)) a 1 ((wi M a 0 (M.1 b 0)).1 b 1)) a 2 ((wi (wi M a 0 (M.1 b 0)) a 1 ((wi M a 0 (M.1 b 0)).1 b 1)).1 b 2)).1 b 6)) a 8 ((wi (wi (wi (wi M a 0 (M.1 b 0)) a 1 ((wi M a 0 (M.1 b 0)).1 b 1)) a 2 ((wi (wi M a 0 (M.1 b 0)) a 1 ((wi M a 0 (M.1 b 0)).1 b 1)).1 b 2)) a 6 ((wi (wi (wi M a 0 (M.1 b 0)) a 1 ((wi M a 0 (M.1 b 0)).1 b 1)) a 2 ((wi (wi M a 0 (M.1 b 0)) a 1 ((wi M a 0 (M.1 b 0)).1 b 1)).1 b 2)).1 b 6)).1 b 8)) 0 (b + 1) (a + 1)) 0 (b + 2) (a + 2)) 0 (b + 3) (a + 3)) 0 (b + 4) (a + 4)).1 (a + i) = M.1 (b + i) := fun i h1 h2 => by
        funext j
        have : i = 1 ∨ i = 2 ∨ i = 3 ∨ i = 4 := by omega
        rcases this with rfl | rfl | rfl | rfl <;> simp (disch := omega) only [wi_1n, wi_1e, cp0_1n, cp0_1e]
      rw [e2 1 (by omega) (by omega), e2 2 (by omega) (by omega), e2 3 (by omega) (by omega), e2 4 (by omega) (by omega)]
      simp (disch := omega) only [wi_1n, wi_1e, cp0_1n, cp0_1e]
      exact l4 k hk
  · simp (disch := omega) only [wi_1n, wi_1e, cp0_1n, cp0_1e]
end LB
section AC5
variable {B : Int} {M : MM} {p q : Int32}
theorem GW_w {w w' : RW} (h : GW B w) (hw : ∀ k, k < 388 → w' k = w k) : GW B w' := ⟨WF_w h.1 hw, by rw [hw 2 (by omega)]; exact h.2.1, by rw [hw 2 (by omega), hw 1 (by omega)]; exact h.2.2⟩
theorem CW_g {M' : MM} {a : Nat} {w w' : RW} {s s' : RS} (h : CW M' a w s) (hg : GW B w) (hw : ∀ k, k < 388 → w' k = w k) (hs : ∀ c, c < 10 → s' c = s c) : CW M' a w' s' := CW_w h (nC_i hg.1).2.1 hg.1.2.1.2 hw hs
/-- undone -/
theorem a_undo (h : CP B M) {N : Nat} : W_E_undo N M (fun y M1 => ∀ N', W_m_undo N' M1 (fun b M2 => CP B M2 ∧ M2.1 190 0 = 0 ∧ y = b)) := by
  have h' := h
  obtain ⟨-, -, -, ⟨hc, hg⟩, m, hh, hm, hr, hi⟩ := h'
  unfold W_E_undo
  refine c_back hm (fun hm0 N' => ?_) (fun hmp M1 h1 h2 e1 N' => ?_)
  · unfold W_m_undo
    have e12 : (wi M 190 0 0).1 190 12 = 0 := by rw [wi_1n (by omega), hr.2.1, hm0]; rfl
    rw [e12]
    exact ⟨fun _ => ⟨CP_0 h 0, wi_1e, rfl⟩, fun h => absurd rfl h⟩
  · obtain ⟨m1, m2, m3⟩ := hr
    obtain ⟨m', rfl⟩ : ∃ m', m = m' + 1 := ⟨m - 1, by omega⟩
    have hh0 := m3 0 (by omega)
    have g0 := hi 0 (by omega)
    have e12 : M1.1 190 12 = i32 (m' + 1) := (eq1 e1 (b := 190) (k := 12) rfl).trans m2
    have e195 := eqb e1 (lo := 195) (hi := 195) rfl (Nat.le_refl _) (Nat.le_refl _)
    have e200 := eqb2 e1 (lo := 200) (hi := 200) rfl (Nat.le_refl _) (Nat.le_refl _)
    refine and_m_undo (Q1 := fun b M2 => Eqo fp_m_undo M1 M2) (Q2 := fun b M2 => b = 1 ∧ M2.1 190 0 = 0 ∧ M2.1 190 12 = i32 m' ∧ M2.1 195 = M.1 195 ∧ M2.2 200 = M.2 200 ∧ (∀ k, k < 388 → M2.1 191 k = (hh 0).1 k) ∧ ∀ c, c < 10 → M2.2 196 c = (hh 0).2 c) (fun b M2 e2 q => ?_) (an_m_undo (fun r M1 h => h)) ?_
    · obtain ⟨rfl, z0, z12, z195, z200, zw, zs⟩ := q
      refine ⟨CP_mk (m := m') (hh := fun i => hh (i + 1)) h (eqo_app e1 e2) rfl rfl rfl (CW_g (CW_eq h2 e2 rfl) g0 zw zs) (GW_w g0 zw) (CM_eq h1 e2 rfl) ⟨by omega, z12, fun i hi' => ?_⟩ (fun i hi' => hi (i + 1) (by omega)) (Int.le_refl _), z0, rfl⟩
      rw [z195, z200]
      have := m3 (i + 1) (by omega)
      rw [show m' + 1 - 1 - (i + 1) = m' - 1 - i by omega] at this
      exact this
    · unfold W_m_undo
      rw [show (wi M1 190 0 0).1 190 12 = i32 (m' + 1) from by rw [wi_1n (by omega)]; exact e12]
      rw [show i32 (m' + 1) - 1 = i32 m' from i32_sb m' 1, wi_1e, show (388 : Int32) * i32 m' = i32 (388 * m') from i32_m 388 m']
      refine ⟨fun hz => absurd ((i32_inj (j := m' + 1) (k := 0) (by omega) (by omega)).mp hz) (by omega), fun _ => ?_⟩
      refine sp_likens (R := 0) (by omega) (by omega) (Or.inl (by decide)) ?_
      have e2 : (lkM (wi (wi M1 190 0 0) 190 12 (i32 m')) 195 (388 * m') 191 0 388).1 190 12 = i32 m' := by
        unfold lkM
        dsimp only
        rw [if_neg (by omega), wi_1e]
      rw [e2, show (10 : Int32) * i32 m' = i32 (10 * m') from i32_m 10 m']
      refine sp_likensS (R := 0) (by omega) (by omega) (Or.inl (by decide)) ?_
      refine ⟨rfl, ?_, e2, ?_, ?_, fun k hk => ?_, fun c hc => ?_⟩
      · show (lkM (wi (wi M1 190 0 0) 190 12 (i32 m')) 195 (388 * m') 191 0 388).1 190 0 = 0
        unfold lkM
        dsimp only
        rw [if_neg (by omega), wi_1n (by omega), wi_1e]
      · rw [← e195]
        funext j
        show (lkM (wi (wi M1 190 0 0) 190 12 (i32 m')) 195 (388 * m') 191 0 388).1 195 j = _
        unfold lkM
        dsimp only
        rw [if_neg (by omega), wi_1n (by omega), wi_1n (by omega)]
      · rw [← e200]
        funext j
        unfold lkS
        dsimp only
        rw [if_neg (by omega)]
        rfl
      · show (lkM (wi (wi M1 190 0 0) 190 12 (i32 m')) 195 (388 * m') 191 0 388).1 191 k = _
        unfold lkM
        dsimp only
        rw [if_pos (by omega), wi_1n (by omega), wi_1n (by omega), e195, show 388 * m' + (k - 0) = 388 * (m' + 1 - 1 - 0) + k by omega]
        exact hh0.1 k hk
      · unfold lkS
        dsimp only
        rw [if_pos (by omega)]
        show M1.2 200 (10 * m' + (c - 0)) = _
        rw [e200, show 10 * m' + (c - 0) = 10 * (m' + 1 - 1 - 0) + c by omega]
        exact hh0.2 c hc
/-- the image -/
theorem a_image (h : CP B M) {N : Nat} : W_E_image N M (fun M1 => ∀ N', W_m_image N' M1 (fun M2 => CP B M2 ∧ M2.1 190 0 = 0)) := by
  obtain ⟨hT, hF, ⟨L, hL, hR, hTL, hI⟩, ⟨hc, hg⟩, m, hh, hm, hr, hi⟩ := h
  refine and_E_image (Q1 := fun M1 => Eqo fp_E_image M M1) (Q2 := fun M1 => M1.1 173 0 = M.1 8 0 ∧ M1.1 173 1 = M.1 8 1 ∧ LawC M1 173 L ∧ (∀ j, M1.1 175 j = M.1 10 j) ∧ CW M1 178 (M.1 191) (M.2 196) ∧ M1.1 0 14 = 1) (fun M1 e1 q N' => ?_) (an_E_image (fun M1 h => h)) ?_
  · obtain ⟨q0, q1, q2, q3, q4, q5⟩ := q
    have a191 := eqb e1 (lo := 191) (hi := 191) rfl (Nat.le_refl _) (Nat.le_refl _)
    have a196 := eqb2 e1 (lo := 196) (hi := 196) rfl (Nat.le_refl _) (Nat.le_refl _)
    refine and_m_image (Q1 := fun M2 => Eqo fp_m_image M1 M2) (Q2 := fun M2 => M2.1 190 0 = 0 ∧ M2.1 190 16 = M.1 190 15 ∧ M2.1 190 11 = 1 ∧ (∀ k, k < 388 → M2.1 192 k = M.1 191 k) ∧ ∀ c, c < 10 → M2.2 197 c = M.2 196 c) (fun M2 e2 z => ?_) (an_m_image (fun M1 h => h)) ?_
    · obtain ⟨z0, z16, z11, zw, zs⟩ := z
      have e := eqo_app e1 e2
      refine ⟨⟨TP_fr hT e rfl, by rw [eq1 e (b := 0) (k := 15) rfl, eq1 e (b := 190) (k := 23) rfl]; exact hF, ⟨L, LawC_eq hL e rfl, LawR_eq hR e rfl, TLD_eq hTL e rfl, ?_⟩, WLD_eq ⟨hc, hg⟩ e rfl, m, hh, CM_eq hm e rfl, RMm_eq hr e rfl, hi⟩, z0⟩
      refine ⟨by rw [eq1 e2 (b := 0) (k := 14) rfl, q5, z11], Or.inr ⟨z11, CW_g (CW_eq q4 e2 rfl) hg zw zs, GW_w hg zw, ?_⟩⟩
      unfold IML
      rw [eq1 e (b := 190) (k := 15) rfl, z16, eq1 e2 (b := 173) (k := 0) rfl, eq1 e2 (b := 173) (k := 1) rfl, q0, q1, eqb e2 (lo := 175) (hi := 175) rfl (Nat.le_refl _) (Nat.le_refl _)]
      rcases hTL with ⟨t1, t2, t3⟩ | ⟨t1, t2⟩
      · refine Or.inl ⟨t1, t2, ?_, fun j hj => by rw [q3]; exact hL.2.2.1 j (by omega)⟩
        rw [hL.1, t3]
        rfl
      · exact Or.inr ⟨t1, t1, t2, LawC_eq q2 e2 rfl⟩
    · unfold W_m_image
      refine sp_likens (P := 0) (R := 0) (by omega) (by omega) (Or.inl (by decide)) ?_
      refine sp_likensS (P := 0) (R := 0) (by omega) (by omega) (Or.inl (by decide)) ?_
      refine ⟨?_, ?_, wi_1e, fun k hk => ?_, fun c hc => ?_⟩
      · rw [wi_1n (by omega), wi_1n (by omega)]
        show (lkM (wi M1 190 0 0) 191 0 192 0 388).1 190 0 = 0
        unfold lkM
        dsimp only
        rw [if_neg (by omega), wi_1e]
      · rw [wi_1n (by omega), wi_1e]
        show (lkM (wi M1 190 0 0) 191 0 192 0 388).1 190 15 = _
        unfold lkM
        dsimp only
        rw [if_neg (by omega), wi_1n (by omega)]
        exact eq1 e1 (b := 190) (k := 15) rfl
      · rw [wi_1n (by omega), wi_1n (by omega)]
        show (lkM (wi M1 190 0 0) 191 0 192 0 388).1 192 k = _
        unfold lkM
        dsimp only
        rw [if_pos (by omega), wi_1n (by omega), a191, show 0 + (k - 0) = k by omega]
      · show (lkS (lkM (wi M1 190 0 0) 191 0 192 0 388) 196 0 197 0 10).2 197 c = _
        unfold lkS
        dsimp only
        rw [if_pos (by omega)]
        show M1.2 196 (0 + (c - 0)) = _
        rw [a196, show 0 + (c - 0) = c by omega]
  · unfold W_E_image
    refine sp_lawb (Or.inr (by omega)) (fun M2 l0 l1 l2 l3 le => ?_)
    refine sp_become (w := M.1 191) (s := M.2 196) (Or.inr (by omega)) (CW_eq hc le rfl) (fun M4 h4 e4 => ?_)
    have e0 : ∀ b j, b < 178 → M4.1 b j = M2.1 b j := fun b j hb => (e4 b j (fpb_out (by omega))).1
    refine ⟨?_, ?_, ?_, fun j => ?_, ?_, wi_1e⟩
    · rw [wi_1n (by omega), e0 _ _ (by omega), l0]
    · rw [wi_1n (by omega), e0 _ _ (by omega), l1]
    · have lf : LawC M4 173 L := LawC_fr (fun i hi => by funext j; exact e0 _ _ (by omega)) (l2 L hL)
      exact LawC_fr (fun i hi => by funext j; exact wi_1n (by omega)) lf
    · rw [wi_1n (by omega), e0 _ _ (by omega)]
      exact l3 j
    · exact CW_eq h4 (eqo_1 (a := 0) (k := 14) (x := 1)) rfl
/-- back to the image -/
theorem a_back (h : CP B M) {N : Nat} : W_E_back N M (fun y M1 => ∀ N', W_m_back N' M1 (fun b M2 => CP B M2 ∧ M2.1 190 0 = 0 ∧ y = b)) := by
  have h' := h
  obtain ⟨hT, hF, ⟨L, hL, hR, hTL, hI⟩, ⟨hc, hg⟩, m, hh, hm, hr, hi⟩ := h'
  have e11 : (wi M 190 0 0).1 190 11 = M.1 190 11 := wi_1n (by omega)
  by_cases him : M.1 0 14 = 0
  · unfold W_E_back
    refine ⟨fun _ N' => ?_, fun h => absurd him h⟩
    unfold W_m_back
    rw [e11, ← hI.1, him]
    exact ⟨fun _ => ⟨CP_0 h 0, wi_1e, rfl⟩, fun h => absurd rfl h⟩
  · obtain ⟨i1, i2, i3, i4⟩ : M.1 190 11 = 1 ∧ CW M 178 (M.1 192) (M.2 197) ∧ GW B (M.1 192) ∧ IML M L := by
      rcases hI.2 with h | h
      · exact absurd (hI.1.trans h) him
      · exact h
    refine and_E_back (Q1 := fun y M1 => Eqo fp_E_back M M1) (Q2 := fun y M1 => y = 1 ∧ M1.1 8 0 = M.1 173 0 ∧ M1.1 8 1 = M.1 173 1 ∧ (∀ L, LawC M 173 L → LawC M1 8 L) ∧ (∀ j, M1.1 10 j = M.1 175 j) ∧ CW M1 18 (M.1 192) (M.2 197) ∧ M1.1 44 2 = 0 ∧ M1.1 44 1 = M.1 44 1) (fun y M1 e1 q N' => ?_) (an_E_back (fun r M1 h => h)) ?_
    · obtain ⟨rfl, q0, q1, q2, q3, q4, q5, q6⟩ := q
      have a192 := eqb e1 (lo := 192) (hi := 192) rfl (Nat.le_refl _) (Nat.le_refl _)
      have a197 := eqb2 e1 (lo := 197) (hi := 197) rfl (Nat.le_refl _) (Nat.le_refl _)
      refine and_m_back (Q1 := fun b M2 => Eqo fp_m_back M1 M2) (Q2 := fun b M2 => b = 1 ∧ M2.1 190 0 = 0 ∧ M2.1 190 15 = M.1 190 16 ∧ M2.1 190 12 = 0 ∧ (∀ k, k < 388 → M2.1 191 k = M.1 192 k) ∧ ∀ c, c < 10 → M2.2 196 c = M.2 197 c) (fun b M2 e2 z => ?_) (an_m_back (fun r M1 h => h)) ?_
      · obtain ⟨rfl, z0, z15, z12, zw, zs⟩ := z
        have e := eqo_app e1 e2
        have hW : WLD B M2 := ⟨CW_g (CW_eq q4 e2 rfl) i3 zw zs, GW_w i3 zw⟩
        have hMm : MEM B M2 := ⟨0, hh, ⟨by omega, by rw [eq1 e2 (b := 44) (k := 2) rfl, q5]; rfl, by rw [eq1 e2 (b := 44) (k := 1) rfl, q6]; exact hm.2.2.1, fun i hi => by omega⟩, ⟨by omega, by rw [z12]; rfl, fun i hi => by omega⟩, fun i hi => by omega⟩
        have c192 := eqb e (lo := 192) (hi := 192) rfl (Nat.le_refl _) (Nat.le_refl _)
        have c197 := eqb2 e (lo := 197) (hi := 197) rfl (Nat.le_refl _) (Nat.le_refl _)
        have g0 : M2.1 0 14 = M2.1 190 11 := by rw [eq1 e (b := 0) (k := 14) rfl, eq1 e (b := 190) (k := 11) rfl]; exact hI.1
        have g1 : M2.1 190 11 = 1 := by rw [eq1 e (b := 190) (k := 11) rfl]; exact i1
        have g2 : CW M2 178 (M2.1 192) (M2.2 197) := by rw [c192, c197]; exact CW_eq i2 e rfl
        have g3 : GW B (M2.1 192) := by rw [c192]; exact i3
        have k0 : M2.1 8 0 = M.1 173 0 := (eq1 e2 (b := 8) (k := 0) rfl).trans q0
        have k1 : M2.1 8 1 = M.1 173 1 := (eq1 e2 (b := 8) (k := 1) rfl).trans q1
        have k16 := eq1 e (b := 190) (k := 16) rfl
        have k173 := eq1 e (b := 173) (k := 0) rfl
        have k173' := eq1 e (b := 173) (k := 1) rfl
        have k175 := eqb e (lo := 175) (hi := 175) rfl (Nat.le_refl _) (Nat.le_refl _)
        refine ⟨⟨TP_fr hT e rfl, by rw [eq1 e (b := 0) (k := 15) rfl, eq1 e (b := 190) (k := 23) rfl]; exact hF, ?_, hW, hMm⟩, z0, rfl⟩
        rcases i4 with ⟨t1, t2, t3, t4⟩ | ⟨t1, t2, t3, t4⟩
        · refine ⟨(0, L.2), ⟨by rw [k1, t3]; rfl, by show 0 ≤ 12; omega, fun j hj => ?_, fun k hk => absurd hk (by show ¬ k < 0; omega)⟩, ⟨by show 0 ≤ 12; omega, fun k hk => absurd hk (by show ¬ k < 0; omega)⟩, Or.inl ⟨z15.trans t1, k0.trans t2, rfl⟩, g0, Or.inr ⟨g1, g2, g3, Or.inl ⟨k16.trans t1, k173.trans t2, k173'.trans t3, fun j hj => by rw [k175]; exact t4 j hj⟩⟩⟩
          rw [show M2.1 (8 + 2) j = M.1 175 j from by rw [eqb e2 (lo := 10) (hi := 10) rfl (b := 8 + 2) (by omega) (by omega)]; exact q3 j]
          exact t4 j hj
        · exact ⟨L, LawC_eq (q2 L t4) e2 rfl, LawR_eq hR e rfl, Or.inr ⟨z15.trans t1, k0.trans t3⟩, g0, Or.inr ⟨g1, g2, g3, Or.inr ⟨k16.trans t1, z15.trans t1, k173.trans t3, LawC_eq t4 e rfl⟩⟩⟩
      · unfold W_m_back
        rw [show (wi M1 190 0 0).1 190 11 = 1 from by rw [wi_1n (by omega), eq1 e1 (b := 190) (k := 11) rfl]; exact i1]
        refine ⟨fun h => absurd h (by decide), fun _ => ?_⟩
        refine sp_likens (P := 0) (R := 0) (by omega) (by omega) (Or.inl (by decide)) ?_
        refine sp_likensS (P := 0) (R := 0) (by omega) (by omega) (Or.inl (by decide)) ?_
        refine ⟨rfl, ?_, ?_, wi_1e, fun k hk => ?_, fun c hc => ?_⟩
        · rw [wi_1n (by omega), wi_1n (by omega)]
          show (lkM (wi M1 190 0 0) 192 0 191 0 388).1 190 0 = 0
          unfold lkM
          dsimp only
          rw [if_neg (by omega), wi_1e]
        · rw [wi_1n (by omega), wi_1e]
          show (lkM (wi M1 190 0 0) 192 0 191 0 388).1 190 16 = _
          unfold lkM
          dsimp only
          rw [if_neg (by omega), wi_1n (by omega)]
          exact eq1 e1 (b := 190) (k := 16) rfl
        · rw [wi_1n (by omega), wi_1n (by omega)]
          show (lkM (wi M1 190 0 0) 192 0 191 0 388).1 191 k = _
          unfold lkM
          dsimp only
          rw [if_pos (by omega), wi_1n (by omega), a192, show 0 + (k - 0) = k by omega]
        · show (lkS (lkM (wi M1 190 0 0) 192 0 191 0 388) 197 0 196 0 10).2 196 c = _
          unfold lkS
          dsimp only
          rw [if_pos (by omega)]
          show M1.2 197 (0 + (c - 0)) = _
          rw [a197, show 0 + (c - 0) = c by omega]
    · unfold W_E_back
      refine ⟨fun h => absurd h him, fun _ => ?_⟩
      refine sp_lawb (Or.inl (by omega)) (fun M2 l0 l1 l2 l3 le => ?_)
      refine sp_become (w := M.1 192) (s := M.2 197) (Or.inl (by omega)) (CW_eq i2 le rfl) (fun M4 h4 e4 => ?_)
      unfold W_Memory_forget
      have e0 : ∀ b j, b < 18 ∨ 29 < b → M4.1 b j = M2.1 b j := fun b j hb => (e4 b j (fpb_out (by omega))).1
      refine ⟨rfl, ?_, ?_, fun L' hL' => ?_, fun j => ?_, ?_, wi_1e, ?_⟩
      · rw [wi_1n (by omega), e0 _ _ (by omega), l0]
      · rw [wi_1n (by omega), e0 _ _ (by omega), l1]
      · have lf : LawC M4 8 L' := LawC_fr (fun i hi => by funext j; exact e0 _ _ (by omega)) (l2 L' hL')
        exact LawC_wi (by omega) lf
      · rw [wi_1n (by omega), e0 _ _ (by omega)]
        exact l3 j
      · exact CW_44 h4 (by omega) (by omega)
      · rw [wi_1n (by omega), e0 _ _ (by omega), eq1 le (b := 44) (k := 1) rfl]
end AC5
