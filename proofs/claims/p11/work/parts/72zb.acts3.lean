/-! ACTS: set free, wed, dead -/
theorem WF_sp {w : RW} {c : Nat} {x : Int32} (h : WF w) (hx : x = -1 ∨ (0 ≤ x.toInt ∧ x.toInt < (w 0).toInt)) : WF (up1 w (18 + 13 * c + 4) x) := by
  have en : nC (up1 w (18 + 13 * c + 4) x) = nC w := by unfold nC; rw [up1_n (by omega)]
  obtain ⟨g0, g6, g8, gc⟩ := h
  have ec : ∀ c' i', i' < 13 → cl (up1 w (18 + 13 * c + 4) x) c' i' = if c' = c ∧ i' = 4 then x else cl w c' i' := fun c' i' hi' => cl_up (by omega) hi'
  refine ⟨by rw [up1_n (by omega)]; exact g0, by rw [up1_n (by omega)]; exact g6, by rw [up1_n (by omega)]; exact g8, fun c' hc' => ?_⟩
  rw [en] at hc'
  obtain ⟨c1, c2, c3, c4, c5, c6⟩ := gc c' hc'
  refine ⟨by rw [ec c' 0 (by omega), if_neg (by omega)]; exact c1, by rw [ec c' 3 (by omega), if_neg (by omega)]; exact c2, ?_, by rw [ec c' 5 (by omega), if_neg (by omega)]; exact c4, by rw [ec c' 5 (by omega), if_neg (by omega), ec c' 6 (by omega), if_neg (by omega)]; exact c5, fun k hk hl => ?_⟩
  · rw [ec c' 4 (by omega), up1_n (by omega)]
    by_cases e : c' = c
    · rw [if_pos ⟨e, rfl⟩]; exact hx
    · rw [if_neg (by omega)]; exact c3
  · rw [ec c' 5 (by omega), if_neg (by omega)] at hl
    rw [ec c' (7 + k) (by omega), if_neg (by omega)]
    exact c6 k hk hl
theorem WF_dd {w : RW} {c : Nat} (h : WF w) : WF (up1 w (18 + 13 * c + 0) 0) := by
  have en : nC (up1 w (18 + 13 * c + 0) 0) = nC w := by unfold nC; rw [up1_n (by omega)]
  obtain ⟨g0, g6, g8, gc⟩ := h
  have ec : ∀ c' i', i' < 13 → cl (up1 w (18 + 13 * c + 0) 0) c' i' = if c' = c ∧ i' = 0 then 0 else cl w c' i' := fun c' i' hi' => cl_up (by omega) hi'
  refine ⟨by rw [up1_n (by omega)]; exact g0, by rw [up1_n (by omega)]; exact g6, by rw [up1_n (by omega)]; exact g8, fun c' hc' => ?_⟩
  rw [en] at hc'
  obtain ⟨c1, c2, c3, c4, c5, c6⟩ := gc c' hc'
  refine ⟨?_, by rw [ec c' 3 (by omega), if_neg (by omega)]; exact c2, by rw [ec c' 4 (by omega), if_neg (by omega), up1_n (by omega)]; exact c3, by rw [ec c' 5 (by omega), if_neg (by omega)]; exact c4, by rw [ec c' 5 (by omega), if_neg (by omega), ec c' 6 (by omega), if_neg (by omega)]; exact c5, fun k hk hl => ?_⟩
  · rw [ec c' 0 (by omega)]
    by_cases e : c' = c
    · rw [if_pos ⟨e, rfl⟩]; exact Or.inl rfl
    · rw [if_neg (by omega)]; exact c1
  · rw [ec c' 5 (by omega), if_neg (by omega)] at hl
    rw [ec c' (7 + k) (by omega), if_neg (by omega)]
    exact c6 k hk hl
theorem CWc_fr' {M M' : MM} {a : Nat} {w w' : RW} {s s' : RS} {c : Nat} (h : CWc M a w s c) (h1 : ∀ i, i = 1 ∨ i = 2 ∨ i = 3 ∨ i = 4 ∨ i = 6 ∨ i = 7 → M'.1 (a + i) c = M.1 (a + i) c) (h5 : ∀ k, k < 6 → M'.1 (a + 5) (6 * c + k) = M.1 (a + 5) (6 * c + k)) (h8 : M'.2 (a + 8) c = M.2 (a + 8) c) (hw : ∀ i, i < 13 → i ≠ 0 → cl w' c i = cl w c i) (hs : s' c = s c) : CWc M' a w' s' c := by
  obtain ⟨c1, c2, c3, c4, c5, c6, c7, c8⟩ := h
  refine ⟨?_, ?_, ?_, ?_, ?_, ?_, fun k hk hl => ?_, ?_⟩
  · rw [h1 1 (by omega), hw 1 (by omega) (by omega)]; exact c1
  · rw [h1 2 (by omega), hw 2 (by omega) (by omega)]; exact c2
  · rw [h1 3 (by omega), hw 3 (by omega) (by omega)]; exact c3
  · rw [h1 4 (by omega), hw 4 (by omega) (by omega)]; exact c4
  · rw [h1 6 (by omega), hw 5 (by omega) (by omega)]; exact c5
  · rw [h1 7 (by omega), hw 6 (by omega) (by omega)]; exact c6
  · rw [hw 5 (by omega) (by omega)] at hl
    rw [h5 k hk, hw (7 + k) (by omega) (by omega)]; exact c7 k hk hl
  · rw [h8, hs]; exact c8
theorem CW_dd {M : MM} {a c : Nat} {w : RW} {s : RS} (h : CW M a w s) (hn : nC w ≤ 10) (hc : c < nC w) : CW (wi M a 1 (M.1 a 1 &&& (sl 1 (i32 c) ^^^ (-1)))) a (up1 w (18 + 13 * c + 0) 0) s := by
  obtain ⟨⟨a0, a1, a2, a3, a4, a5, a6, a7, a8⟩, b1, b2, b3, b4⟩ := h
  have en : nC (up1 w (18 + 13 * c + 0) 0) = nC w := by unfold nC; rw [up1_n (by omega)]
  refine ⟨?_, fun d' hd' => ?_, ?_, fun c' hc' => ?_, ?_⟩
  · unfold CWs
    simp (disch := omega) only [wi_1n, up1_n, a0, a1, a2, a3, a4, a5, a6, a7, a8, and_self]
  · rw [wi_1n (by omega), up1_n (by omega)]
    exact b1 d' hd'
  · rw [wi_1e, en, b2]
    apply tb_ext
    intro k hk
    rw [tb_and, tb_not hk, tb_sl (by omega) hk, tb_bs _ _ (by omega) _ hk, tb_bs _ _ (by omega) _ hk]
    unfold alv
    rw [cl_up (by omega) (by omega)]
    by_cases e : k = c
    · rw [if_pos ⟨e, rfl⟩, decide_eq_true e]
      simp
    · rw [if_neg (by omega), decide_eq_false e]
      simp
  · rw [en] at hc'
    refine CWc_fr' (b3 c' hc') (fun i _ => wi_1n (by omega)) (fun k' _ => wi_1n (by omega)) rfl (fun i hi h0 => by rw [cl_up (by omega) hi, if_neg (by omega)]) rfl
  · exact CWl_fr b4 (wi_1n (by omega)) (wi_1n (by omega)) (fun j => wi_1n (by omega)) (up1_n (by omega)) (fun k' _ _ => up1_n (by omega))
section AC3
variable {B : Int} {M : MM} {p q : Int32}
theorem GW_r {w w' : RW} (h : GW B w) (hw : WF w') (h2 : w' 2 = w 2) (h1 : w' 1 = w 1) : GW B w' := ⟨hw, by rw [h2]; exact h.2.1, by rw [h2, h1]; exact h.2.2⟩
/-- set free -/
theorem a_release (h : CP B M) {N : Nat} : W_E_release p N M (fun y M1 => ∀ z N', W_m_release p N' (wj M1 215 0 z) (fun b M2 => CP B M2 ∧ M2.1 190 0 = 0 ∧ y = b)) (fun ce M1 => ∀ N', W_m_release p N' M1 (fun _ M2 => CP B M2 ∧ M2.1 190 0 = if ce = 2 then 1 else 2)) := by
  obtain ⟨hc, hg⟩ := h.2.2.2.1
  unfold W_E_release
  refine s_cit hc (fun hp => ?_) (fun hp N' => ?_)
  · obtain ⟨c, rfl, hcn, hc10⟩ := okc_c hg.1 hp
    refine s_alive hc hg.1 hcn (fun ha => ?_) (fun ha N' => ?_)
    · rw [ni_i (by omega), show M.1 21 c = cl (M.1 191) c 3 from (hc.2.2.2.1 c hcn).2.2.1]
      have f3 : V_m_of (i32 c) 3 (wi M 190 0 0) = cl (M.1 191) c 3 := of_row (i := 3) rfl hc10 (by omega)
      refine ⟨fun hb N' => ?_, fun hb => ?_⟩
      · unfold W_m_release W_m_throwsIf
        simp only [noc_1 hg.1 hp, al_1 hc10 ha, f3, hb, e10, e10n, true_implies, false_implies, not_true_eq_false, not_false_eq_true, and_true, true_and, if_true]
        exact CP_t h 2 (fun e => e)
      · refine s_rem h (fun M9 m hh hr hi hm hw e9 z N' => ?_)
        have h1 := CW_ct (x := 0) hw (by have := (nC_i hg.1).2.1; omega) hcn (Or.inr (Or.inr (Or.inl ⟨rfl, rfl⟩)))
        unfold W_m_release W_m_throwsIf
        have eM : Eqo (fp_Memory_remember ++ [(21, 21, none)]) M (wi M9 21 c 0) := eqo_app e9 eqo_a
        have hm1 := CM_eq hm (eqo_a (M := M9) (a := 21) (k := c) (x := 0)) rfl
        have eM := eqo_app eM (eqo_z (z := z))
        have hm1 := CM_eq hm1 (eqo_z (z := z)) rfl
        have h1 := CW_eq h1 (eqo_z (z := z)) rfl
        have a1 := eqb eM (lo := 191) (hi := 191) rfl (Nat.le_refl _) (Nat.le_refl _)
        generalize wj (wi M9 21 c 0) 215 0 z = M1 at *
        simp only [noc_e a1, al_e a1, of_e a1, noc_1 hg.1 hp, al_1 hc10 ha, f3, hb, e10, e10n, true_implies, false_implies, not_true_eq_false, not_false_eq_true, and_true, true_and, if_true]
        refine t_rem hr eM rfl (fun M11 r1 r2 r3 r4 z0 => ?_)
        unfold W_m_sets
        rw [show ni ((18 + (13 * i32 c)) + 3) = 18 + 13 * c + 3 from ofs (i := 3) (by omega) (by omega), show V_m_of (i32 c) 3 M11 = cl (M.1 191) c 3 from of_row (i := 3) r2 hc10 (by omega)]
        have e2 := eqo_app r4 (eqo_a (M := M11) (a := 191) (k := 18 + 13 * c + 3) (x := 0))
        refine ⟨CP_mk h (eqo_app eM e2) rfl (wi_row r2) r3 (CW_eq h1 e2 rfl) (GW_r hg (tk_W hg.1 hcn (by decide)).1 (up1_n (by omega)) (up1_n (by omega))) (CM_eq hm1 e2 rfl) (RMm_eq r1 eqo_a rfl) hi (Int.le_refl _), z0, rfl⟩
    · unfold W_m_release W_m_throwsIf
      simp only [noc_1 hg.1 hp, al_0 hc10 ha, e10, e10n, true_implies, false_implies, not_true_eq_false, not_false_eq_true, and_true, true_and, if_true]
      exact CP_t h 2 (fun e => e)
  · unfold W_m_release W_m_throwsIf
    simp only [noc_0 hg.1 hp, e10, e10n, true_implies, false_implies, not_true_eq_false, not_false_eq_true, and_true, true_and, if_true]
    exact CP_t h 1 (fun e => e)
theorem sp_neg {w : RW} {c : Nat} (hw : WFc w c) : (cl w c 4 < 0) ↔ cl w c 4 = -1 := by
  obtain ⟨-, -, h, -⟩ := hw
  rw [Int32.lt_iff_toInt_lt, show (0 : Int32).toInt = 0 from rfl]
  constructor
  · intro h1
    rcases h with h | h
    · exact h
    · omega
  · intro h1
    rw [h1]
    decide
theorem single_e {M1 : MM} (a : M1.1 191 = M.1 191) : V_m_isSingle p (wi M1 190 0 0) = V_m_isSingle p (wi M 190 0 0) := by
  unfold V_m_isSingle
  rw [of_e a]
theorem v_single {c : Nat} (hw : WFc (M.1 191) c) (hc : c < 10) : V_m_isSingle (i32 c) (wi M 190 0 0) = b32 (decide (cl (M.1 191) c 4 = -1)) := by
  unfold V_m_isSingle
  rw [show V_m_of (i32 c) 4 (wi M 190 0 0) = cl (M.1 191) c 4 from of_row (i := 4) rfl hc (by omega), if_neg (by
    rw [Int32.lt_iff_toInt_lt, show (0 : Int32).toInt = 0 from rfl, i32_i (by omega)]; omega)]
  by_cases h : cl (M.1 191) c 4 < 0
  · rw [if_pos h, decide_eq_true ((sp_neg hw).mp h)]; rfl
  · rw [if_neg h, decide_eq_false (fun e => h ((sp_neg hw).mpr e))]; rfl
/-- wed -/
theorem a_wed (h : CP B M) {N : Nat} : W_E_wed p q N M (fun y M1 => ∀ z N', W_m_wed p q N' (wj M1 215 0 z) (fun b M2 => CP B M2 ∧ M2.1 190 0 = 0 ∧ y = b)) (fun ce M1 => ∀ N', W_m_wed p q N' M1 (fun _ M2 => CP B M2 ∧ M2.1 190 0 = if ce = 2 then 1 else if ce = 0 then 2 else 3)) := by
  obtain ⟨hc, hg⟩ := h.2.2.2.1
  have hn := (nC_i hg.1).2.1
  have e0 := (nC_i hg.1).1
  unfold W_E_wed
  refine s_cit hc (fun hp => s_cit hc (fun hq => ?_) (fun hq N' => ?_)) (fun hp N' => ?_)
  · obtain ⟨c, rfl, hcn, hc10⟩ := okc_c hg.1 hp
    obtain ⟨d, rfl, hdn, hd10⟩ := okc_c hg.1 hq
    unfold W_E_needTwo
    refine ⟨fun he N' => ?_, fun he => ?_⟩
    · unfold W_m_wed W_m_throwsIf
      simp only [noc_1 hg.1 hp, noc_1 hg.1 hq, he, e10, e10n, true_implies, false_implies, not_true_eq_false, not_false_eq_true, and_true, true_and, if_true]
      exact CP_t h 2 (fun e => e)
    · have hcd : c ≠ d := fun e => he (by rw [e])
      have hef : (i32 c = i32 d) = False := eq_false he
      refine s_alive hc hg.1 hcn (fun ha => s_alive hc hg.1 hdn (fun hb => ?_) (fun hb N' => ?_)) (fun ha N' => ?_)
      · rw [ni_i (by omega), ni_i (by omega), show M.1 22 c = cl (M.1 191) c 4 from (hc.2.2.2.1 c hcn).2.2.2.1, show M.1 22 d = cl (M.1 191) d 4 from (hc.2.2.2.1 d hdn).2.2.2.1]
        have fs := v_single (M := M) (hg.1.2.2.2 c hcn) hc10
        have fd := v_single (M := M) (hg.1.2.2.2 d hdn) hd10
        refine ⟨fun h1 => ⟨fun h2 => ?_, fun h2 N' => ?_⟩, fun h1 N' => ?_⟩
        · rw [decide_eq_true h1, b32_1] at fs
          rw [decide_eq_true h2, b32_1] at fd
          refine s_rem h (fun M9 m hh hr hi hm hw e9 => ?_)
          unfold W_World_marry
          have k1 : M9.1 19 c = cl (M.1 191) c 1 := (hw.2.2.2.1 c hcn).1
          have k2 : M9.1 19 d = cl (M.1 191) d 1 := (hw.2.2.2.1 d hdn).1
          rw [ni_i (by omega), ni_i (by omega)]
          have r19 : ∀ j, (wi (wi M9 (18 + 4) c (i32 d)) (18 + 4) d (i32 c)).1 (18 + 1) j = M9.1 19 j := fun j => by rw [wi_1n (by omega), wi_1n (by omega)]
          rw [r19, r19, k1, k2, wi_1e]
          have h1' := CW_ct (x := i32 d) hw hn hcn (Or.inr (Or.inr (Or.inr (Or.inl ⟨rfl, rfl⟩))))
          have n1 : nC (up1 (M.1 191) (18 + 13 * c + 4) (i32 d)) = nC (M.1 191) := by unfold nC; rw [up1_n (by omega)]
          have h2' := CW_ct (x := i32 c) h1' (by rw [n1]; exact hn) (by rw [n1]; exact hdn) (Or.inr (Or.inr (Or.inr (Or.inl ⟨rfl, rfl⟩))))
          have n2 : nC (up1 (up1 (M.1 191) (18 + 13 * c + 4) (i32 d)) (18 + 13 * d + 4) (i32 c)) = nC (M.1 191) := by unfold nC; rw [up1_n (by omega), up1_n (by omega)]
          have h3' := CW_ct (x := cl (M.1 191) c 1 ||| cl (M.1 191) d 1) h2' (by rw [n2]; exact hn) (by rw [n2]; exact hcn) (Or.inl ⟨rfl, rfl⟩)
          have n3 : nC (up1 (up1 (up1 (M.1 191) (18 + 13 * c + 4) (i32 d)) (18 + 13 * d + 4) (i32 c)) (18 + 13 * c + 1) (cl (M.1 191) c 1 ||| cl (M.1 191) d 1)) = nC (M.1 191) := by unfold nC; rw [up1_n (by omega), up1_n (by omega), up1_n (by omega)]
          have h4' := CW_ct (x := cl (M.1 191) c 1 ||| cl (M.1 191) d 1) h3' (by rw [n3]; exact hn) (by rw [n3]; exact hdn) (Or.inl ⟨rfl, rfl⟩)
          have e4 : Eqo ([(22, 22, none)] ++ ([(22, 22, none)] ++ ([(19, 19, none)] ++ [(19, 19, none)]))) M9 (wi (wi (wi (wi M9 (18 + 4) c (i32 d)) (18 + 4) d (i32 c)) (18 + 1) c (cl (M.1 191) c 1 ||| cl (M.1 191) d 1)) (18 + 1) d (cl (M.1 191) c 1 ||| cl (M.1 191) d 1)) := eqo_app eqo_a (eqo_app eqo_a (eqo_app eqo_a eqo_a))
          have eM := eqo_app e9 e4
          have hm1 := CM_eq hm e4 rfl
          have a1 := eqb eM (lo := 191) (hi := 191) rfl (Nat.le_refl _) (Nat.le_refl _)
          have ey : (wi (wi (wi (wi M9 (18 + 4) c (i32 d)) (18 + 4) d (i32 c)) (18 + 1) c (cl (M.1 191) c 1 ||| cl (M.1 191) d 1)) (18 + 1) d (cl (M.1 191) c 1 ||| cl (M.1 191) d 1)).1 19 c = cl (M.1 191) c 1 ||| cl (M.1 191) d 1 := by
            rw [wi_1n (by omega)]
            exact wi_1e
          dsimp only
          rw [ey]
          intro z N'
          have eM := eqo_app eM (eqo_z (z := z))
          have hm1 := CM_eq hm1 (eqo_z (z := z)) rfl
          have h4' := CW_eq h4' (eqo_z (z := z)) rfl
          have a1 := eqb eM (lo := 191) (hi := 191) rfl (Nat.le_refl _) (Nat.le_refl _)
          generalize wj (wi (wi (wi (wi M9 (18 + 4) c (i32 d)) (18 + 4) d (i32 c)) (18 + 1) c (cl (M.1 191) c 1 ||| cl (M.1 191) d 1)) (18 + 1) d (cl (M.1 191) c 1 ||| cl (M.1 191) d 1)) 215 0 z = M1 at *
          unfold W_m_wed W_m_throwsIf
          simp only [noc_e a1, al_e a1, single_e a1, noc_1 hg.1 hp, noc_1 hg.1 hq, hef, al_1 hc10 ha, al_1 hd10 hb, fs, fd, e10, e10n, true_implies, false_implies, not_true_eq_false, not_false_eq_true, and_true, true_and, if_true]
          refine t_rem hr eM rfl (fun M11 r1 r2 r3 r4 z0 => ?_)
          unfold W_m_weds W_m_sets
          rw [show ni ((18 + (13 * i32 c)) + 1) = 18 + 13 * c + 1 from ofs (i := 1) (by omega) (by omega), show ni ((18 + (13 * i32 d)) + 1) = 18 + 13 * d + 1 from ofs (i := 1) (by omega) (by omega), show ni ((18 + (13 * i32 c)) + 4) = 18 + 13 * c + 4 from ofs (i := 4) (by omega) (by omega), show ni ((18 + (13 * i32 d)) + 4) = 18 + 13 * d + 4 from ofs (i := 4) (by omega) (by omega), show V_m_of (i32 c) 1 M11 = cl (M.1 191) c 1 from of_row (i := 1) r2 hc10 (by omega), show V_m_of (i32 d) 1 M11 = cl (M.1 191) d 1 from of_row (i := 1) r2 hd10 (by omega)]
          have e2 := eqo_app r4 (eqo_app (eqo_a (M := M11) (a := 191) (k := 18 + 13 * c + 4) (x := i32 d)) (eqo_app (eqo_a (a := 191) (k := 18 + 13 * d + 4) (x := i32 c)) (eqo_app (eqo_a (a := 191) (k := 18 + 13 * c + 1) (x := cl (M.1 191) c 1 ||| cl (M.1 191) d 1)) (eqo_a (a := 191) (k := 18 + 13 * d + 1) (x := cl (M.1 191) c 1 ||| cl (M.1 191) d 1)))))
          have er := eqo_app (eqo_a (M := M11) (a := 191) (k := 18 + 13 * c + 4) (x := i32 d)) (eqo_app (eqo_a (a := 191) (k := 18 + 13 * d + 4) (x := i32 c)) (eqo_app (eqo_a (a := 191) (k := 18 + 13 * c + 1) (x := cl (M.1 191) c 1 ||| cl (M.1 191) d 1)) (eqo_a (a := 191) (k := 18 + 13 * d + 1) (x := cl (M.1 191) c 1 ||| cl (M.1 191) d 1))))
          have hrow := wi_row (k := 18 + 13 * d + 1) (x := cl (M.1 191) c 1 ||| cl (M.1 191) d 1) (wi_row (k := 18 + 13 * c + 1) (x := cl (M.1 191) c 1 ||| cl (M.1 191) d 1) (wi_row (k := 18 + 13 * d + 4) (x := i32 c) (wi_row (k := 18 + 13 * c + 4) (x := i32 d) r2)))
          refine ⟨CP_mk h (eqo_app eM e2) rfl hrow r3 (CW_eq h4' e2 rfl) (GW_r hg (WF_ct (WF_ct (WF_sp (WF_sp hg.1 (Or.inr (by rw [i32_i (by omega)]; omega))) (Or.inr (by rw [i32_i (by omega), up1_n (by omega)]; omega))) (Or.inl rfl)) (Or.inl rfl)) (by rw [up1_n (by omega), up1_n (by omega), up1_n (by omega), up1_n (by omega)]) (by rw [up1_n (by omega), up1_n (by omega), up1_n (by omega), up1_n (by omega)])) (CM_eq hm1 e2 rfl) (RMm_eq r1 er rfl) hi (Int.le_refl _), z0, ?_⟩
          rw [show V_m_of (i32 c) 1 _ = _ from of_row (i := 1) hrow hc10 (by omega), cl_up (by omega) (by omega), if_neg (by omega), cl_up (by omega) (by omega), if_pos ⟨rfl, rfl⟩]
        · rw [decide_eq_true h1, b32_1] at fs
          rw [decide_eq_false h2, b32_0] at fd
          unfold W_m_wed W_m_throwsIf
          simp only [noc_1 hg.1 hp, noc_1 hg.1 hq, hef, al_1 hc10 ha, al_1 hd10 hb, fs, fd, e10, e10n, true_implies, false_implies, not_true_eq_false, not_false_eq_true, and_true, true_and, if_true]
          exact CP_t h 3 (fun e => e)
        · rw [decide_eq_false h1, b32_0] at fs
          unfold W_m_wed W_m_throwsIf
          simp only [noc_1 hg.1 hp, noc_1 hg.1 hq, hef, al_1 hc10 ha, al_1 hd10 hb, fs, e10, e10n, true_implies, false_implies, not_true_eq_false, not_false_eq_true, and_true, true_and, if_true]
          exact CP_t h 3 (fun e => e)
      · unfold W_m_wed W_m_throwsIf
        simp only [noc_1 hg.1 hp, noc_1 hg.1 hq, hef, al_1 hc10 ha, al_0 hd10 hb, e10, e10n, true_implies, false_implies, not_true_eq_false, not_false_eq_true, and_true, true_and, if_true]
        exact CP_t h 3 (fun e => e)
      · unfold W_m_wed W_m_throwsIf
        simp only [noc_1 hg.1 hp, noc_1 hg.1 hq, hef, al_0 hc10 ha, e10, e10n, true_implies, false_implies, not_true_eq_false, not_false_eq_true, and_true, true_and, if_true]
        exact CP_t h 3 (fun e => e)
  · unfold W_m_wed W_m_throwsIf
    simp only [noc_1 hg.1 hp, noc_0 hg.1 hq, e10, e10n, true_implies, false_implies, not_true_eq_false, not_false_eq_true, and_true, true_and, if_true]
    exact CP_t h 1 (fun e => e)
  · unfold W_m_wed W_m_throwsIf
    simp only [noc_0 hg.1 hp, e10, e10n, true_implies, false_implies, not_true_eq_false, not_false_eq_true, and_true, true_and, if_true]
    exact CP_t h 1 (fun e => e)
end AC3
