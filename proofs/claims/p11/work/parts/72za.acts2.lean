/-! ACTS: told, set free, wed, dead -/
theorem e10n : (¬ (1 : Int32) = 0) = True := eq_true (by decide)
theorem pM_i {w : RW} {B : Int} {M : MM} {m : Nat} {hh : HW} (hg : GW B (M.1 191)) (hi : ∀ i, i < m → GW B (hh i).1) : ∀ i, i < min (m + 1) 10 → GW B ((hpush (M.1 191, M.2 196) hh) i).1
  | 0, _ => hg
  | i + 1, h => hi i (by omega)
section AC2
variable {B : Int} {M : MM} {p q : Int32}
theorem CW_eq {l : List (Nat × Nat × Option Nat)} {M M' : MM} {a : Nat} {w : RW} {s : RS} (h : CW M a w s) (e : Eqo l M M') (hl : fpo l a (a + 11) = true) : CW M' a w s := CW_fr h (fun b j q1 q2 => e b j (fpo_ok hl q1 q2))
theorem s_rem {N : Nat} {Q : MM → Prop} (h : CP B M) (hQ : ∀ M9 m hh, RMm M m hh → (∀ i, i < min (m + 1) 10 → GW B ((hpush (M.1 191, M.2 196) hh) i).1) → CM M9 (min (m + 1) 10) (hpush (M.1 191, M.2 196) hh) → CW M9 18 (M.1 191) (M.2 196) → Eqo fp_Memory_remember M M9 → Q M9) : W_Memory_remember N M Q := by
  obtain ⟨-, -, -, ⟨hc, hg⟩, m, hh, hm, hr, hi⟩ := h
  exact c_rem hm hc (fun M' h1 h2 h3 => hQ M' m hh hr (pM_i (w := M.1 191) hg hi) h1 h2 h3)
theorem t_rem {N m : Nat} {hh : HW} {l : List (Nat × Nat × Option Nat)} {M1 : MM} {Q : MM → Prop} (hr : RMm M m hh) (e : Eqo l M M1) (hl : (rmk l && (fpo l 191 191 && fpo l 196 196)) = true) (hQ : ∀ M11, RMm M11 (min (m + 1) 10) (hpush (M.1 191, M.2 196) hh) → M11.1 191 = M.1 191 → M11.2 196 = M.2 196 → Eqo ([(190, 190, some 0)] ++ fp_m_remembers) M1 M11 → M11.1 190 0 = 0 → Q M11) : W_m_remembers N (wi M1 190 0 0) Q := by
  simp only [Bool.and_eq_true] at hl
  have a1 : M1.1 191 = M.1 191 := eqb e hl.2.1 (Nat.le_refl _) (Nat.le_refl _)
  have a2 : M1.2 196 = M.2 196 := eqb2 e hl.2.2 (Nat.le_refl _) (Nat.le_refl _)
  have hr1 : RMm (wi M1 190 0 0) m hh := RMm_eq (RMm_eq hr e hl.1) (eqo_1 (x := 0)) (by decide)
  refine r_rem hr1 (fun M11 h1 h2 => hQ M11 ?_ ?_ ?_ (eqo_app eqo_1 h2) ((eq1 h2 (b := 190) (k := 0) rfl).trans wi_1e))
  · have b1 : (wi M1 190 0 0).1 191 = M.1 191 := a1
    have b2 : (wi M1 190 0 0).2 196 = M.2 196 := a2
    rw [b1, b2] at h1
    exact h1
  · exact (eqb h2 (lo := 191) (hi := 191) rfl (Nat.le_refl _) (Nat.le_refl _)).trans a1
  · exact (eqb2 h2 (lo := 196) (hi := 196) rfl (Nat.le_refl _) (Nat.le_refl _)).trans a2
theorem wi_row {M1 : MM} {k : Nat} {x : Int32} {w : RW} (h : M1.1 191 = w) : (wi M1 191 k x).1 191 = up1 w k x := by
  funext j
  by_cases hj : j = k
  · subst hj; rw [up1_e]; exact wi_1e
  · rw [up1_n hj, wi_1n (by omega), h]
theorem of_row {M1 : MM} {w : RW} {c i : Nat} (h : M1.1 191 = w) (hc : c < 10) (hi : i < 1000) : V_m_of (i32 c) (i32 i) M1 = cl w c i := by rw [v_of (by omega) hi, h]
def okk (M : MM) (q : Int32) : Bool := decide (0 ≤ q.toInt ∧ q.toInt < (M.1 8 1).toInt)
theorem CP_n (h : CP B M) : ∃ n, n ≤ 12 ∧ M.1 8 1 = i32 n ∧ V_m_clauses M = i32 n := by
  obtain ⟨-, -, ⟨L, h3, h4, h5, -⟩, -⟩ := h
  refine ⟨L.1, h3.2.1, h3.1, ?_⟩
  unfold V_m_clauses
  rcases h5 with ⟨h, -, h0⟩ | ⟨h, -⟩
  · rw [h, h0]; rfl
  · rw [h]
    unfold mx
    have hL := h3.2.1
    by_cases hp : (0 : Int32) < i32 L.1
    · rw [if_pos hp]
    · rw [if_neg hp]
      rw [show (0 : Int32) < i32 L.1 ↔ 0 < L.1 from i32_lt (j := 0) (by omega) (by omega)] at hp
      rw [show L.1 = 0 by omega]
      rfl
theorem v_nok (h : CP B M) : V_m_noClause q M = b32 (!okk M q) := by
  obtain ⟨n, n1, n2, n3⟩ := CP_n h
  unfold V_m_noClause
  have ec : (V_m_clauses M - 1).toInt = (n : Int) - 1 := by
    rw [n3, i32_sub (by rw [i32_i (by omega), show (1 : Int32).toInt = 1 from rfl]; omega) (by rw [i32_i (by omega), show (1 : Int32).toInt = 1 from rfl]; omega), i32_i (by omega)]
    rfl
  rw [v_in, ec, show (0 : Int32).toInt = 0 from rfl]
  unfold okk
  rw [n2, i32_i (by omega)]
  by_cases h : 0 ≤ q.toInt ∧ q.toInt < (n : Int)
  · rw [decide_eq_true h, decide_eq_true (by omega), b32_1, if_neg (by decide)]; rfl
  · rw [decide_eq_false h, decide_eq_false (by omega), b32_0, if_pos rfl]; rfl
theorem s_cla {N : Nat} {Q : Prop} {E : Nat → Prop} (hQ : okk M q = true → Q) (hE : okk M q = false → E 2) : W_E_needClause q N M Q E := by
  unfold W_E_needClause W_E_needIndex
  unfold okk at hQ hE
  refine ⟨fun h1 => hE (decide_eq_false ?_), fun h1 => ⟨fun h2 => hQ (decide_eq_true ?_), fun h2 => hE (decide_eq_false ?_)⟩⟩
  · rw [Int32.lt_iff_toInt_lt, show (0 : Int32).toInt = 0 from rfl] at h1; omega
  · rw [Int32.lt_iff_toInt_lt, show (0 : Int32).toInt = 0 from rfl] at h1
    rw [Int32.lt_iff_toInt_lt] at h2; omega
  · rw [Int32.lt_iff_toInt_lt] at h2; omega
theorem okk_k (h : CP B M) (hk : okk M q = true) : ∃ k, q = i32 k ∧ k < 12 := by
  obtain ⟨n, n1, n2, n3⟩ := CP_n h
  unfold okk at hk
  rw [n2, i32_i (by omega)] at hk
  obtain ⟨h1, h2⟩ := of_decide_eq_true hk
  exact ⟨ni q, i32_ni h1, by unfold ni; omega⟩
theorem noc_1 (hw : WF (M.1 191)) (h : okc M p = true) : V_m_noCitizen p (wi M 190 0 0) = 0 := by
  rw [show V_m_noCitizen p (wi M 190 0 0) = V_m_noCitizen p M from rfl, v_noc hw, h]; rfl
theorem noc_0 (hw : WF (M.1 191)) (h : okc M p = false) : V_m_noCitizen p (wi M 190 0 0) = 1 := by
  rw [show V_m_noCitizen p (wi M 190 0 0) = V_m_noCitizen p M from rfl, v_noc hw, h]; rfl
theorem nok_1 (hC : CP B M) (h : okk M q = true) : V_m_noClause q (wi M 190 0 0) = 0 := by
  rw [show V_m_noClause q (wi M 190 0 0) = V_m_noClause q M from rfl, v_nok hC, h]; rfl
theorem nok_0 (hC : CP B M) (h : okk M q = false) : V_m_noClause q (wi M 190 0 0) = 1 := by
  rw [show V_m_noClause q (wi M 190 0 0) = V_m_noClause q M from rfl, v_nok hC, h]; rfl
theorem al_1 {c : Nat} (hc : c < 10) (h : alv (M.1 191) c = true) : V_m_isAlive (i32 c) (wi M 190 0 0) = 1 := by
  rw [v_alive (by omega), show (wi M 190 0 0).1 191 = M.1 191 from rfl, h]; rfl
theorem al_0 {c : Nat} (hc : c < 10) (h : alv (M.1 191) c = false) : V_m_isAlive (i32 c) (wi M 190 0 0) = 0 := by
  rw [v_alive (by omega), show (wi M 190 0 0).1 191 = M.1 191 from rfl, h]; rfl
section EE
variable {M1 : MM}
theorem noc_e (a : M1.1 191 = M.1 191) : V_m_noCitizen p (wi M1 190 0 0) = V_m_noCitizen p (wi M 190 0 0) := by
  show (if V_m_in p 0 (M1.1 191 (ni 0) - 1) M = 0 then (1 : Int32) else 0) = (if V_m_in p 0 (M.1 191 (ni 0) - 1) M = 0 then 1 else 0)
  rw [a]
theorem nok_e (a : M1.1 190 15 = M.1 190 15) : V_m_noClause q (wi M1 190 0 0) = V_m_noClause q (wi M 190 0 0) := by
  show (if V_m_in q 0 (mx 0 (M1.1 190 15) - 1) M = 0 then (1 : Int32) else 0) = (if V_m_in q 0 (mx 0 (M.1 190 15) - 1) M = 0 then 1 else 0)
  rw [a]
theorem al_e (a : M1.1 191 = M.1 191) : V_m_isAlive p (wi M1 190 0 0) = V_m_isAlive p (wi M 190 0 0) := by
  show (if M1.1 191 (ni ((18 + (13 * p)) + 0)) = 1 then (1 : Int32) else 0) = (if M.1 191 (ni ((18 + (13 * p)) + 0)) = 1 then 1 else 0)
  rw [a]
theorem of_e {i : Int32} (a : M1.1 191 = M.1 191) : V_m_of p i (wi M1 190 0 0) = V_m_of p i (wi M 190 0 0) := by
  show M1.1 191 (ni ((18 + (13 * p)) + i)) = M.1 191 (ni ((18 + (13 * p)) + i))
  rw [a]
theorem kn_e (a : M1.1 191 = M.1 191) : V_m_knows p q (wi M1 190 0 0) = V_m_knows p q (wi M 190 0 0) := by
  unfold V_m_knows
  rw [of_e a]
  rfl
end EE
/-- a call that throws -/
theorem CP_t {P : Prop} (h : CP B M) (x : Int32) (hP : (wi (wi M 190 0 0) 190 0 x).1 190 0 = x → P) : CP B (wi (wi M 190 0 0) 190 0 x) ∧ P := ⟨CP_0 (CP_0 h 0) x, hP wi_1e⟩
theorem WF_ct {w : RW} {c i : Nat} {x : Int32} (h : WF w) (hi : i = 1 ∨ i = 2) : WF (up1 w (18 + 13 * c + i) x) := by
  have en : nC (up1 w (18 + 13 * c + i) x) = nC w := by unfold nC; rw [up1_n (by omega)]
  obtain ⟨g0, g6, g8, gc⟩ := h
  have ec : ∀ c' i', i' < 13 → cl (up1 w (18 + 13 * c + i) x) c' i' = if c' = c ∧ i' = i then x else cl w c' i' := fun c' i' hi' => cl_up (by omega) hi'
  refine ⟨by rw [up1_n (by omega)]; exact g0, by rw [up1_n (by omega)]; exact g6, by rw [up1_n (by omega)]; exact g8, fun c' hc' => ?_⟩
  rw [en] at hc'
  obtain ⟨c1, c2, c3, c4, c5, c6⟩ := gc c' hc'
  refine ⟨by rw [ec c' 0 (by omega), if_neg (by omega)]; exact c1, by rw [ec c' 3 (by omega), if_neg (by omega)]; exact c2, by rw [ec c' 4 (by omega), if_neg (by omega), up1_n (by omega)]; exact c3, by rw [ec c' 5 (by omega), if_neg (by omega)]; exact c4, by rw [ec c' 5 (by omega), if_neg (by omega), ec c' 6 (by omega), if_neg (by omega)]; exact c5, fun k hk hl => ?_⟩
  rw [ec c' 5 (by omega), if_neg (by omega)] at hl
  rw [ec c' (7 + k) (by omega), if_neg (by omega)]
  exact c6 k hk hl
/-- told -/
theorem a_tell (h : CP B M) {N : Nat} : W_E_tell p q N M (fun y M1 => ∀ z N', W_m_tell p q N' (wj M1 215 0 z) (fun b M2 => CP B M2 ∧ M2.1 190 0 = 0 ∧ y = b)) (fun ce M1 => ∀ N', W_m_tell p q N' M1 (fun _ M2 => CP B M2 ∧ M2.1 190 0 = if ce = 2 then 1 else 2)) := by
  obtain ⟨hc, hg⟩ := h.2.2.2.1
  unfold W_E_tell
  refine s_cit hc (fun hp => ?_) (fun hp N' => ?_)
  · obtain ⟨c, rfl, hcn, hc10⟩ := okc_c hg.1 hp
    refine s_cla (fun hq => ?_) (fun hq N' => ?_)
    · obtain ⟨k, rfl, hk⟩ := okk_k h hq
      refine s_alive hc hg.1 hcn (fun ha => ?_) (fun ha N' => ?_)
      · unfold V_E_bit
        rw [ni_i (by omega), show M.1 19 c = cl (M.1 191) c 1 from (hc.2.2.2.1 c hcn).1]
        have fk : V_m_knows (i32 c) (i32 k) (wi M 190 0 0) = b32 (tb (cl (M.1 191) c 1) k) := by
          unfold V_m_knows
          rw [show V_m_of (i32 c) 1 (wi M 190 0 0) = cl (M.1 191) c 1 from of_row (i := 1) rfl hc10 (by omega), v_has (by omega)]
        refine ⟨fun hb N' => ?_, fun hb => ?_⟩
        · rw [bt_1 (by omega)] at hb
          rw [hb] at fk
          unfold W_m_tell W_m_throwsIf
          simp only [noc_1 hg.1 hp, nok_1 h hq, al_1 hc10 ha, fk, b32_1, e10, e10n, true_implies, false_implies, not_true_eq_false, not_false_eq_true, and_true, true_and, if_true]
          exact CP_t h 2 (fun e => e)
        · rw [bt_1 (by omega), Bool.not_eq_true] at hb
          rw [hb] at fk
          refine s_rem h (fun M9 m hh hr hi hm hw e9 z N' => ?_)
          have ek : M9.1 19 c = cl (M.1 191) c 1 := (hw.2.2.2.1 c hcn).1
          rw [ek]
          have h1 := CW_ct (x := cl (M.1 191) c 1 ||| sl 1 (i32 k)) hw (by have := (nC_i hg.1).2.1; omega) hcn (Or.inl ⟨rfl, rfl⟩)
          unfold W_m_tell W_m_throwsIf
          have eM : Eqo (fp_Memory_remember ++ [(19, 19, none)]) M (wi M9 19 c (cl (M.1 191) c 1 ||| sl 1 (i32 k))) := eqo_app e9 eqo_a
          have hm1 := CM_eq hm (eqo_a (M := M9) (a := 19) (k := c) (x := cl (M.1 191) c 1 ||| sl 1 (i32 k))) rfl
          have ey : V_World_knownBy 18 (i32 c) (wi M9 19 c (cl (M.1 191) c 1 ||| sl 1 (i32 k))) = bcn (cl (M.1 191) c 1 ||| sl 1 (i32 k)) := by
            unfold V_World_knownBy
            rw [ni_i (by omega), wi_1e]
            rfl
          have eM := eqo_app eM (eqo_z (z := z))
          have hm1 := CM_eq hm1 (eqo_z (z := z)) rfl
          have h1 := CW_eq h1 (eqo_z (z := z)) rfl
          have a1 := eqb eM (lo := 191) (hi := 191) rfl (Nat.le_refl _) (Nat.le_refl _)
          have a2 := eq1 eM (b := 190) (k := 15) rfl
          generalize wj (wi M9 19 c (cl (M.1 191) c 1 ||| sl 1 (i32 k))) 215 0 z = M1 at *
          simp only [noc_e a1, nok_e a2, al_e a1, kn_e a1, noc_1 hg.1 hp, nok_1 h hq, al_1 hc10 ha, fk, b32_0, e10, e10n, true_implies, false_implies, not_true_eq_false, not_false_eq_true, and_true, true_and, if_true]
          refine t_rem hr eM rfl (fun M11 r1 r2 r3 r4 z0 => ?_)
          unfold W_m_sets
          rw [show ni ((18 + (13 * i32 c)) + 1) = 18 + 13 * c + 1 from ofs (i := 1) (by omega) (by omega), show V_m_of (i32 c) 1 M11 = cl (M.1 191) c 1 from of_row (i := 1) r2 hc10 (by omega)]
          have e2 := eqo_app r4 (eqo_a (M := M11) (a := 191) (k := 18 + 13 * c + 1) (x := cl (M.1 191) c 1 ||| sl 1 (i32 k)))
          have hrow : (wi M11 191 (18 + 13 * c + 1) (cl (M.1 191) c 1 ||| sl 1 (i32 k))).1 191 = up1 (M.1 191) (18 + 13 * c + 1) (cl (M.1 191) c 1 ||| sl 1 (i32 k)) := wi_row r2
          refine ⟨CP_mk h (eqo_app eM e2) rfl hrow r3 (CW_eq h1 e2 rfl) ⟨WF_ct hg.1 (Or.inl rfl), by rw [up1_n (by omega)]; exact hg.2.1, by rw [up1_n (by omega), up1_n (by omega)]; exact hg.2.2⟩ (CM_eq hm1 e2 rfl) (RMm_eq r1 eqo_a rfl) hi (Int.le_refl _), z0, ?_⟩
          rw [ey, show V_m_of (i32 c) 1 (wi M11 191 (18 + 13 * c + 1) (cl (M.1 191) c 1 ||| sl 1 (i32 k))) = cl (up1 (M.1 191) (18 + 13 * c + 1) (cl (M.1 191) c 1 ||| sl 1 (i32 k))) c 1 from of_row (i := 1) hrow hc10 (by omega), cl_up (by omega) (by omega), if_pos ⟨rfl, rfl⟩]
          rfl
      · unfold W_m_tell W_m_throwsIf
        simp only [noc_1 hg.1 hp, nok_1 h hq, al_0 hc10 ha, e10, e10n, true_implies, false_implies, not_true_eq_false, not_false_eq_true, and_true, true_and, if_true]
        exact CP_t h 2 (fun e => e)
    · unfold W_m_tell W_m_throwsIf
      simp only [noc_1 hg.1 hp, nok_0 h hq, e10, e10n, true_implies, false_implies, not_true_eq_false, not_false_eq_true, and_true, true_and, if_true]
      exact CP_t h 1 (fun e => e)
  · unfold W_m_tell W_m_throwsIf
    simp only [noc_0 hg.1 hp, e10, e10n, true_implies, false_implies, not_true_eq_false, not_false_eq_true, and_true, true_and, if_true]
    exact CP_t h 1 (fun e => e)
end AC2
