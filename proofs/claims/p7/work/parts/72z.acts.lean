section
/-! ACTS: class and reference, one behind the other -/
theorem e10 : ((1 : Int32) = 0) = False := eq_false (by decide)
theorem eqo_app {l1 l2 : List (Nat × Nat × Option Nat)} {M M1 M2 : MM} (h1 : Eqo l1 M M1) (h2 : Eqo l2 M1 M2) : Eqo (l1 ++ l2) M M2 := fun b j hb => by
  unfold fpm at hb
  rw [List.any_append, Bool.or_eq_false_iff] at hb
  exact ⟨(h2 b j hb.2).1.trans (h1 b j hb.1).1, (h2 b j hb.2).2.trans (h1 b j hb.1).2⟩
theorem eqo_1 {M : MM} {a k : Nat} {x : Int32} : Eqo [(a, a, some k)] M (wi M a k x) := eqo_wi (i := 0) (eqo_rf M) rfl (Or.inr rfl)
theorem eqo_a {M : MM} {a k : Nat} {x : Int32} : Eqo [(a, a, none)] M (wi M a k x) := eqo_wi (i := 0) (eqo_rf M) rfl (Or.inl rfl)
theorem eqo_b {M : MM} {a k : Nat} {x : Int64} : Eqo [(a, a, none)] M (wj M a k x) := eqo_wj (i := 0) (eqo_rf M) rfl (Or.inl rfl)
theorem eqo_z {M : MM} {z : Int64} : Eqo [(215, 215, none)] M (wj M 215 0 z) := eqo_wj (i := 0) (eqo_rf M) rfl (Or.inl rfl)
theorem CP_0 {B : Int} {M : MM} (h : CP B M) (x : Int32) : CP B (wi M 190 0 x) := CP_eq h eqo_1 (by decide)
theorem GW_le {B B' : Int} {w : RW} (h : GW B w) (hB : B ≤ B') : GW B' w := ⟨h.1, h.2.1, by have := h.2.2.1; omega, h.2.2.2⟩
def acl (l : List (Nat × Nat × Option Nat)) : Bool := (tpk l && (fpf l 0 15 && fpf l 190 23)) && (lwk l && imk l)
theorem IMG_le {B B' : Int} {M : MM} {L : LWT} (h : IMG B M L) (hB : B ≤ B') : IMG B' M L := by
  refine ⟨h.1, ?_⟩
  rcases h.2 with h2 | ⟨h2, h3, h4, h5⟩
  · exact Or.inl h2
  · exact Or.inr ⟨h2, h3, GW_le h4 hB, h5⟩
theorem CP_mk {l : List (Nat × Nat × Option Nat)} {M M2 : MM} {B B' : Int} {w : RW} {s : RS} {m : Nat} {hh : HW} (h : CP B M) (e : Eqo l M M2) (hl : acl l = true) (hw : M2.1 191 = w) (hs : M2.2 196 = s) (hc : CW M2 18 w s) (hg : GW B' w) (hm : CM M2 m hh) (hr : RMm M2 m hh) (hi : ∀ i, i < m → GW B' (hh i).1) (hB : B ≤ B') : CP B' M2 := by
  simp only [acl, Bool.and_eq_true] at hl
  obtain ⟨⟨k1, k2, k3⟩, k4, k5⟩ := hl
  obtain ⟨h1, h2, ⟨L, h3, h4, h5, h6⟩, -⟩ := h
  exact ⟨TP_fr h1 e k1, by rw [eq1 e k2, eq1 e k3]; exact h2, ⟨L, LawC_eq h3 e (lwk_C k4), LawR_eq h4 e (lwk_R k4), TLD_eq h5 e k4, IMG_le (IMG_eq h6 e k5) hB⟩, ⟨by rw [hw, hs]; exact hc, by rw [hw]; exact hg⟩, m, hh, hm, hr, hi⟩
/-- there is such a citizen -/
def okc (M : MM) (p : Int32) : Bool := decide (0 ≤ p.toInt ∧ p.toInt < (M.1 191 0).toInt)
theorem v_in {p lo hi : Int32} {M : MM} : V_m_in p lo hi M = b32 (decide (lo.toInt ≤ p.toInt ∧ p.toInt ≤ hi.toInt)) := by
  unfold V_m_in
  by_cases h1 : p < lo
  · rw [if_pos h1]
    rw [Int32.lt_iff_toInt_lt] at h1
    rw [decide_eq_false (by omega)]; rfl
  · rw [if_neg h1]
    rw [Int32.lt_iff_toInt_lt] at h1
    by_cases h2 : hi < p
    · rw [if_pos h2]
      rw [Int32.lt_iff_toInt_lt] at h2
      rw [decide_eq_false (by omega)]; rfl
    · rw [if_neg h2]
      rw [Int32.lt_iff_toInt_lt] at h2
      rw [decide_eq_true (by omega)]; rfl
section ACT
variable {B : Int} {M : MM} {p : Int32}
theorem v_noc (hw : WF (M.1 191)) : V_m_noCitizen p M = b32 (!okc M p) := by
  obtain ⟨e0, hn, ei⟩ := nC_i hw
  unfold V_m_noCitizen
  have ec : (V_m_citizens M - 1).toInt = (M.1 191 0).toInt - 1 := by
    unfold V_m_citizens
    rw [n0, i32_sub (by rw [show (1 : Int32).toInt = 1 from rfl]; omega) (by rw [show (1 : Int32).toInt = 1 from rfl]; omega)]
    rfl
  rw [v_in, ec, show (0 : Int32).toInt = 0 from rfl]
  unfold okc
  by_cases h : 0 ≤ p.toInt ∧ p.toInt < (M.1 191 0).toInt
  · rw [decide_eq_true h, decide_eq_true (by omega), b32_1, if_neg (by decide)]; rfl
  · rw [decide_eq_false h, decide_eq_false (by omega), b32_0, if_pos rfl]; rfl
theorem s_cit {N : Nat} {Q : Prop} {E : Nat → Prop} (h : CW M 18 (M.1 191) (M.2 196)) (hQ : okc M p = true → Q) (hE : okc M p = false → E 2) : W_E_needCitizen p N M Q E := by
  unfold W_E_needCitizen W_E_needIndex
  rw [h.1.1]
  unfold okc at hQ hE
  refine ⟨fun h1 => hE (decide_eq_false ?_), fun h1 => ⟨fun h2 => hQ (decide_eq_true ?_), fun h2 => hE (decide_eq_false ?_)⟩⟩
  · rw [Int32.lt_iff_toInt_lt, show (0 : Int32).toInt = 0 from rfl] at h1; omega
  · rw [Int32.lt_iff_toInt_lt, show (0 : Int32).toInt = 0 from rfl] at h1
    rw [Int32.lt_iff_toInt_lt] at h2; omega
  · rw [Int32.lt_iff_toInt_lt] at h2; omega
theorem okc_c (hw : WF (M.1 191)) (h : okc M p = true) : ∃ c, p = i32 c ∧ c < nC (M.1 191) ∧ c < 10 := by
  obtain ⟨e0, hn, ei⟩ := nC_i hw
  obtain ⟨h1, h2⟩ := of_decide_eq_true h
  exact ⟨ni p, i32_ni h1, by unfold ni; omega, by unfold ni; omega⟩
theorem s_alive {N : Nat} {Q : Prop} {E : Nat → Prop} {c : Nat} (h : CW M 18 (M.1 191) (M.2 196)) (hw : WF (M.1 191)) (hc : c < nC (M.1 191)) (hQ : alv (M.1 191) c = true → Q) (hE : alv (M.1 191) c = false → E 1) : W_E_needAlive (i32 c) N M Q E := by
  unfold W_E_needAlive
  rw [c_alive h hw hc]
  exact ⟨fun h => hE (b32_eq0.mp h), fun h => hQ (b32_ne0.mp h)⟩
theorem a_seed (h : CP B M) {N : Nat} : W_E_seed p N M (fun y M1 => ∀ N', W_m_seed p N' M1 (fun b M2 => CP B M2 ∧ M2.1 190 0 = 0 ∧ y = b)) := by
  have h' := h
  obtain ⟨-, -, -, ⟨hc, hg⟩, m, hh, hm, hr, hi⟩ := h'
  unfold W_E_seed
  intro N'
  unfold W_m_seed
  have hw := nC_i hg.1
  have e : Eqo ([(18, 18, some 14)] ++ ([(190, 190, some 0)] ++ [(191, 191, none)])) M (wi (wi (wi M 18 14 p) 190 0 0) 191 (ni 9) p) := eqo_app eqo_1 (eqo_app eqo_1 eqo_a)
  have hr1 : (wi (wi (wi M 18 14 p) 190 0 0) 191 (ni 9) p).1 191 = up1 (M.1 191) 9 p := by
    funext j
    by_cases hj : j = 9
    · subst hj; rw [up1_e]; exact wi_1e
    · rw [up1_n hj, wi_1n (by rw [n9]; omega), wi_1n (by omega), wi_1n (by omega)]
  refine ⟨CP_mk (w := up1 (M.1 191) 9 p) (s := M.2 196) h e (by decide) hr1 rfl ?_ ?_ (CM_eq hm e (by decide)) (RMm_eq hr e (by decide)) hi (Int.le_refl _), ?_, ?_⟩
  · have h1 := CW_sc (x := p) hc (Or.inr (Or.inr (Or.inr (Or.inr (Or.inr (Or.inr (Or.inr ⟨rfl, rfl⟩)))))))
    exact CW_fr h1 (fun b j q1 q2 => ⟨by rw [wi_1n (by omega), wi_1n (by omega)], rfl⟩)
  · exact ⟨WF_sc hg.1 (by omega) (by omega) (by omega) (by omega), by rw [up1_n (by omega)]; exact hg.2.1, by rw [up1_n (by omega), up1_n (by omega)]; exact hg.2.2⟩
  · rw [wi_1n (by omega), wi_1e]
  · rw [hc.1.2.2.2.2.2.2.2.2, wi_1n (by omega), wi_1n (by omega)]
    rfl
end ACT
end
section
/-! ACTS: told, set free, wed, dead -/
theorem e10n : (¬ (1 : Int32) = 0) = True := eq_true (by decide)
theorem pM_i {w : RW} {B : Int} {M : MM} {m : Nat} {hh : HW} (hg : GW B (M.1 191)) (hi : ∀ i, i < m → GW B (hh i).1) : ∀ i, i < min (m + 1) 10 → GW B ((hpush (M.1 191, M.2 196) hh) i).1
  | 0, _ => hg
  | i + 1, h => hi i (by omega)
section AC2
variable {B : Int} {M : MM} {p q : Int32}
theorem CW_eq {l : List (Nat × Nat × Option Nat)} {M M' : MM} {a : Nat} {w : RW} {s : RS} (h : CW M a w s) (e : Eqo l M M') (hl : fpo l a (a + 11) = true) : CW M' a w s := CW_fr h (fun b j q1 q2 => e b j (fpo_ok hl q1 q2))
theorem s_rem {N : Nat} {Q : MM → Prop} (h : CP B M) (hQ : ∀ M9 m hh, RMm M m hh → (∀ i, i < min (m + 1) 10 → GW B ((hpush (M.1 191, M.2 196) hh) i).1) → CM M9 (min (m + 1) 10) (hpush (M.1 191, M.2 196) hh) → CW M9 18 (M.1 191) (M.2 196) → Eqo fp_Memory_remember M M9 → Q M9) : W_Memory_remember N M Q := by
  obtain ⟨-, -, -, ⟨hc, hg⟩, m, hh, hm, hr, hi⟩ := h
  exact c_rem hm hc (fun M' h1 h2 h3 => hQ M' m hh hr (pM_i (w := M.1 191) hg hi) h1 h2 h3)
theorem t_rem {N m : Nat} {hh : HW} {l : List (Nat × Nat × Option Nat)} {M1 : MM} {Q : MM → Prop} (hr : RMm M m hh) (e : Eqo l M M1) (hl : (rmk l && (fpo l 191 191 && fpo l 196 196)) = true) (hQ : ∀ M11, RMm M11 (min (m + 1) 10) (hpush (M.1 191, M.2 196) hh) → M11.1 191 = M.1 191 → M11.2 196 = M.2 196 → Eqo ([(190, 190, some 0)] ++ fp_m_remembers) M1 M11 → M11.1 190 0 = 0 → Q M11) : W_m_remembers N (wi M1 190 0 0) Q := by
  simp only [Bool.and_eq_true] at hl
  have a1 : M1.1 191 = M.1 191 := eqb e hl.2.1 (Nat.le_refl _) (Nat.le_refl _)
  have a2 : M1.2 196 = M.2 196 := eqb2 e hl.2.2 (Nat.le_refl _) (Nat.le_refl _)
  have hr1 : RMm (wi M1 190 0 0) m hh := RMm_eq (RMm_eq hr e hl.1) (eqo_1 (x := 0)) (by decide)
  refine r_rem hr1 (fun M11 h1 h2 => hQ M11 ?_ ?_ ?_ (eqo_app eqo_1 h2) ((eq1 h2 (b := 190) (k := 0) rfl).trans wi_1e))
  · have b1 : (wi M1 190 0 0).1 191 = M.1 191 := a1
    have b2 : (wi M1 190 0 0).2 196 = M.2 196 := a2
    rw [b1, b2] at h1
    exact h1
  · exact (eqb h2 (lo := 191) (hi := 191) rfl (Nat.le_refl _) (Nat.le_refl _)).trans a1
  · exact (eqb2 h2 (lo := 196) (hi := 196) rfl (Nat.le_refl _) (Nat.le_refl _)).trans a2
theorem wi_row {M1 : MM} {k : Nat} {x : Int32} {w : RW} (h : M1.1 191 = w) : (wi M1 191 k x).1 191 = up1 w k x := by
  funext j
  by_cases hj : j = k
  · subst hj; rw [up1_e]; exact wi_1e
  · rw [up1_n hj, wi_1n (by omega), h]
theorem of_row {M1 : MM} {w : RW} {c i : Nat} (h : M1.1 191 = w) (hc : c < 10) (hi : i < 1000) : V_m_of (i32 c) (i32 i) M1 = cl w c i := by rw [v_of (by omega) hi, h]
def okk (M : MM) (q : Int32) : Bool := decide (0 ≤ q.toInt ∧ q.toInt < (M.1 8 1).toInt)
theorem CP_n (h : CP B M) : ∃ n, n ≤ 12 ∧ M.1 8 1 = i32 n ∧ V_m_clauses M = i32 n := by
  obtain ⟨-, -, ⟨L, h3, h4, h5, -⟩, -⟩ := h
  refine ⟨L.1, h3.2.1, h3.1, ?_⟩
  unfold V_m_clauses
  rcases h5 with ⟨h, -, h0⟩ | ⟨h, -⟩
  · rw [h, h0]; rfl
  · rw [h]
    unfold mx
    have hL := h3.2.1
    by_cases hp : (0 : Int32) < i32 L.1
    · rw [if_pos hp]
    · rw [if_neg hp]
      rw [show (0 : Int32) < i32 L.1 ↔ 0 < L.1 from i32_lt (j := 0) (by omega) (by omega)] at hp
      rw [show L.1 = 0 by omega]
      rfl
theorem v_nok (h : CP B M) : V_m_noClause q M = b32 (!okk M q) := by
  obtain ⟨n, n1, n2, n3⟩ := CP_n h
  unfold V_m_noClause
  have ec : (V_m_clauses M - 1).toInt = (n : Int) - 1 := by
    rw [n3, i32_sub (by rw [i32_i (by omega), show (1 : Int32).toInt = 1 from rfl]; omega) (by rw [i32_i (by omega), show (1 : Int32).toInt = 1 from rfl]; omega), i32_i (by omega)]
    rfl
  rw [v_in, ec, show (0 : Int32).toInt = 0 from rfl]
  unfold okk
  rw [n2, i32_i (by omega)]
  by_cases h : 0 ≤ q.toInt ∧ q.toInt < (n : Int)
  · rw [decide_eq_true h, decide_eq_true (by omega), b32_1, if_neg (by decide)]; rfl
  · rw [decide_eq_false h, decide_eq_false (by omega), b32_0, if_pos rfl]; rfl
theorem s_cla {N : Nat} {Q : Prop} {E : Nat → Prop} (hQ : okk M q = true → Q) (hE : okk M q = false → E 2) : W_E_needClause q N M Q E := by
  unfold W_E_needClause W_E_needIndex
  unfold okk at hQ hE
  refine ⟨fun h1 => hE (decide_eq_false ?_), fun h1 => ⟨fun h2 => hQ (decide_eq_true ?_), fun h2 => hE (decide_eq_false ?_)⟩⟩
  · rw [Int32.lt_iff_toInt_lt, show (0 : Int32).toInt = 0 from rfl] at h1; omega
  · rw [Int32.lt_iff_toInt_lt, show (0 : Int32).toInt = 0 from rfl] at h1
    rw [Int32.lt_iff_toInt_lt] at h2; omega
  · rw [Int32.lt_iff_toInt_lt] at h2; omega
theorem okk_k (h : CP B M) (hk : okk M q = true) : ∃ k, q = i32 k ∧ k < 12 := by
  obtain ⟨n, n1, n2, n3⟩ := CP_n h
  unfold okk at hk
  rw [n2, i32_i (by omega)] at hk
  obtain ⟨h1, h2⟩ := of_decide_eq_true hk
  exact ⟨ni q, i32_ni h1, by unfold ni; omega⟩
theorem noc_1 (hw : WF (M.1 191)) (h : okc M p = true) : V_m_noCitizen p (wi M 190 0 0) = 0 := by
  rw [show V_m_noCitizen p (wi M 190 0 0) = V_m_noCitizen p M from rfl, v_noc hw, h]; rfl
theorem noc_0 (hw : WF (M.1 191)) (h : okc M p = false) : V_m_noCitizen p (wi M 190 0 0) = 1 := by
  rw [show V_m_noCitizen p (wi M 190 0 0) = V_m_noCitizen p M from rfl, v_noc hw, h]; rfl
theorem nok_1 (hC : CP B M) (h : okk M q = true) : V_m_noClause q (wi M 190 0 0) = 0 := by
  rw [show V_m_noClause q (wi M 190 0 0) = V_m_noClause q M from rfl, v_nok hC, h]; rfl
theorem nok_0 (hC : CP B M) (h : okk M q = false) : V_m_noClause q (wi M 190 0 0) = 1 := by
  rw [show V_m_noClause q (wi M 190 0 0) = V_m_noClause q M from rfl, v_nok hC, h]; rfl
theorem al_1 {c : Nat} (hc : c < 10) (h : alv (M.1 191) c = true) : V_m_isAlive (i32 c) (wi M 190 0 0) = 1 := by
  rw [v_alive (by omega), show (wi M 190 0 0).1 191 = M.1 191 from rfl, h]; rfl
theorem al_0 {c : Nat} (hc : c < 10) (h : alv (M.1 191) c = false) : V_m_isAlive (i32 c) (wi M 190 0 0) = 0 := by
  rw [v_alive (by omega), show (wi M 190 0 0).1 191 = M.1 191 from rfl, h]; rfl
section EE
variable {M1 : MM}
theorem noc_e (a : M1.1 191 = M.1 191) : V_m_noCitizen p (wi M1 190 0 0) = V_m_noCitizen p (wi M 190 0 0) := by
  show (if V_m_in p 0 (M1.1 191 (ni 0) - 1) M = 0 then (1 : Int32) else 0) = (if V_m_in p 0 (M.1 191 (ni 0) - 1) M = 0 then 1 else 0)
  rw [a]
theorem nok_e (a : M1.1 190 15 = M.1 190 15) : V_m_noClause q (wi M1 190 0 0) = V_m_noClause q (wi M 190 0 0) := by
  show (if V_m_in q 0 (mx 0 (M1.1 190 15) - 1) M = 0 then (1 : Int32) else 0) = (if V_m_in q 0 (mx 0 (M.1 190 15) - 1) M = 0 then 1 else 0)
  rw [a]
theorem al_e (a : M1.1 191 = M.1 191) : V_m_isAlive p (wi M1 190 0 0) = V_m_isAlive p (wi M 190 0 0) := by
  show (if M1.1 191 (ni ((18 + (13 * p)) + 0)) = 1 then (1 : Int32) else 0) = (if M.1 191 (ni ((18 + (13 * p)) + 0)) = 1 then 1 else 0)
  rw [a]
theorem of_e {i : Int32} (a : M1.1 191 = M.1 191) : V_m_of p i (wi M1 190 0 0) = V_m_of p i (wi M 190 0 0) := by
  show M1.1 191 (ni ((18 + (13 * p)) + i)) = M.1 191 (ni ((18 + (13 * p)) + i))
  rw [a]
theorem kn_e (a : M1.1 191 = M.1 191) : V_m_knows p q (wi M1 190 0 0) = V_m_knows p q (wi M 190 0 0) := by
  unfold V_m_knows
  rw [of_e a]
  rfl
end EE
/-- a call that throws -/
theorem CP_t {P : Prop} (h : CP B M) (x : Int32) (hP : (wi (wi M 190 0 0) 190 0 x).1 190 0 = x → P) : CP B (wi (wi M 190 0 0) 190 0 x) ∧ P := ⟨CP_0 (CP_0 h 0) x, hP wi_1e⟩
theorem WF_ct {w : RW} {c i : Nat} {x : Int32} (h : WF w) (hi : i = 1 ∨ i = 2) : WF (up1 w (18 + 13 * c + i) x) := by
  have en : nC (up1 w (18 + 13 * c + i) x) = nC w := by unfold nC; rw [up1_n (by omega)]
  obtain ⟨g0, g6, g8, gc⟩ := h
  have ec : ∀ c' i', i' < 13 → cl (up1 w (18 + 13 * c + i) x) c' i' = if c' = c ∧ i' = i then x else cl w c' i' := fun c' i' hi' => cl_up (by omega) hi'
  refine ⟨by rw [up1_n (by omega)]; exact g0, by rw [up1_n (by omega)]; exact g6, by rw [up1_n (by omega)]; exact g8, fun c' hc' => ?_⟩
  rw [en] at hc'
  obtain ⟨c1, c2, c3, c4, c5, c6⟩ := gc c' hc'
  refine ⟨by rw [ec c' 0 (by omega), if_neg (by omega)]; exact c1, by rw [ec c' 3 (by omega), if_neg (by omega)]; exact c2, by rw [ec c' 4 (by omega), if_neg (by omega), up1_n (by omega)]; exact c3, by rw [ec c' 5 (by omega), if_neg (by omega)]; exact c4, by rw [ec c' 5 (by omega), if_neg (by omega), ec c' 6 (by omega), if_neg (by omega)]; exact c5, fun k hk hl => ?_⟩
  rw [ec c' 5 (by omega), if_neg (by omega)] at hl
  rw [ec c' (7 + k) (by omega), if_neg (by omega)]
  exact c6 k hk hl
/-- told -/
theorem a_tell (h : CP B M) {N : Nat} : W_E_tell p q N M (fun y M1 => ∀ z N', W_m_tell p q N' (wj M1 215 0 z) (fun b M2 => CP B M2 ∧ M2.1 190 0 = 0 ∧ y = b)) (fun ce M1 => ∀ N', W_m_tell p q N' M1 (fun _ M2 => CP B M2 ∧ M2.1 190 0 = if ce = 2 then 1 else 2)) := by
  obtain ⟨hc, hg⟩ := h.2.2.2.1
  unfold W_E_tell
  refine s_cit hc (fun hp => ?_) (fun hp N' => ?_)
  · obtain ⟨c, rfl, hcn, hc10⟩ := okc_c hg.1 hp
    refine s_cla (fun hq => ?_) (fun hq N' => ?_)
    · obtain ⟨k, rfl, hk⟩ := okk_k h hq
      refine s_alive hc hg.1 hcn (fun ha => ?_) (fun ha N' => ?_)
      · unfold V_E_bit
        rw [ni_i (by omega), show M.1 19 c = cl (M.1 191) c 1 from (hc.2.2.2.1 c hcn).1]
        have fk : V_m_knows (i32 c) (i32 k) (wi M 190 0 0) = b32 (tb (cl (M.1 191) c 1) k) := by
          unfold V_m_knows
          rw [show V_m_of (i32 c) 1 (wi M 190 0 0) = cl (M.1 191) c 1 from of_row (i := 1) rfl hc10 (by omega), v_has (by omega)]
        refine ⟨fun hb N' => ?_, fun hb => ?_⟩
        · rw [bt_1 (by omega)] at hb
          rw [hb] at fk
          unfold W_m_tell W_m_throwsIf
          simp only [noc_1 hg.1 hp, nok_1 h hq, al_1 hc10 ha, fk, b32_1, e10, e10n, true_implies, false_implies, not_true_eq_false, not_false_eq_true, and_true, true_and, if_true]
          exact CP_t h 2 (fun e => e)
        · rw [bt_1 (by omega), Bool.not_eq_true] at hb
          rw [hb] at fk
          refine s_rem h (fun M9 m hh hr hi hm hw e9 z N' => ?_)
          have ek : M9.1 19 c = cl (M.1 191) c 1 := (hw.2.2.2.1 c hcn).1
          rw [ek]
          have h1 := CW_ct (x := cl (M.1 191) c 1 ||| sl 1 (i32 k)) hw (by have := (nC_i hg.1).2.1; omega) hcn (Or.inl ⟨rfl, rfl⟩)
          unfold W_m_tell W_m_throwsIf
          have eM : Eqo (fp_Memory_remember ++ [(19, 19, none)]) M (wi M9 19 c (cl (M.1 191) c 1 ||| sl 1 (i32 k))) := eqo_app e9 eqo_a
          have hm1 := CM_eq hm (eqo_a (M := M9) (a := 19) (k := c) (x := cl (M.1 191) c 1 ||| sl 1 (i32 k))) rfl
          have ey : V_World_knownBy 18 (i32 c) (wi M9 19 c (cl (M.1 191) c 1 ||| sl 1 (i32 k))) = bcn (cl (M.1 191) c 1 ||| sl 1 (i32 k)) := by
            unfold V_World_knownBy
            rw [ni_i (by omega), wi_1e]
            rfl
          have eM := eqo_app eM (eqo_z (z := z))
          have hm1 := CM_eq hm1 (eqo_z (z := z)) rfl
          have h1 := CW_eq h1 (eqo_z (z := z)) rfl
          have a1 := eqb eM (lo := 191) (hi := 191) rfl (Nat.le_refl _) (Nat.le_refl _)
          have a2 := eq1 eM (b := 190) (k := 15) rfl
          generalize wj (wi M9 19 c (cl (M.1 191) c 1 ||| sl 1 (i32 k))) 215 0 z = M1 at *
          simp only [noc_e a1, nok_e a2, al_e a1, kn_e a1, noc_1 hg.1 hp, nok_1 h hq, al_1 hc10 ha, fk, b32_0, e10, e10n, true_implies, false_implies, not_true_eq_false, not_false_eq_true, and_true, true_and, if_true]
          refine t_rem hr eM rfl (fun M11 r1 r2 r3 r4 z0 => ?_)
          unfold W_m_sets
          rw [show ni ((18 + (13 * i32 c)) + 1) = 18 + 13 * c + 1 from ofs (i := 1) (by omega) (by omega), show V_m_of (i32 c) 1 M11 = cl (M.1 191) c 1 from of_row (i := 1) r2 hc10 (by omega)]
          have e2 := eqo_app r4 (eqo_a (M := M11) (a := 191) (k := 18 + 13 * c + 1) (x := cl (M.1 191) c 1 ||| sl 1 (i32 k)))
          have hrow : (wi M11 191 (18 + 13 * c + 1) (cl (M.1 191) c 1 ||| sl 1 (i32 k))).1 191 = up1 (M.1 191) (18 + 13 * c + 1) (cl (M.1 191) c 1 ||| sl 1 (i32 k)) := wi_row r2
          refine ⟨CP_mk h (eqo_app eM e2) rfl hrow r3 (CW_eq h1 e2 rfl) ⟨WF_ct hg.1 (Or.inl rfl), by rw [up1_n (by omega)]; exact hg.2.1, by rw [up1_n (by omega), up1_n (by omega)]; exact hg.2.2⟩ (CM_eq hm1 e2 rfl) (RMm_eq r1 eqo_a rfl) hi (Int.le_refl _), z0, ?_⟩
          rw [ey, show V_m_of (i32 c) 1 (wi M11 191 (18 + 13 * c + 1) (cl (M.1 191) c 1 ||| sl 1 (i32 k))) = cl (up1 (M.1 191) (18 + 13 * c + 1) (cl (M.1 191) c 1 ||| sl 1 (i32 k))) c 1 from of_row (i := 1) hrow hc10 (by omega), cl_up (by omega) (by omega), if_pos ⟨rfl, rfl⟩]
          rfl
      · unfold W_m_tell W_m_throwsIf
        simp only [noc_1 hg.1 hp, nok_1 h hq, al_0 hc10 ha, e10, e10n, true_implies, false_implies, not_true_eq_false, not_false_eq_true, and_true, true_and, if_true]
        exact CP_t h 2 (fun e => e)
    · unfold W_m_tell W_m_throwsIf
      simp only [noc_1 hg.1 hp, nok_0 h hq, e10, e10n, true_implies, false_implies, not_true_eq_false, not_false_eq_true, and_true, true_and, if_true]
      exact CP_t h 1 (fun e => e)
  · unfold W_m_tell W_m_throwsIf
    simp only [noc_0 hg.1 hp, e10, e10n, true_implies, false_implies, not_true_eq_false, not_false_eq_true, and_true, true_and, if_true]
    exact CP_t h 1 (fun e => e)
end AC2
end
section
/-! ACTS: set free, wed, dead -/
theorem WF_sp {w : RW} {c : Nat} {x : Int32} (h : WF w) (hx : x = -1 ∨ (0 ≤ x.toInt ∧ x.toInt < (w 0).toInt)) : WF (up1 w (18 + 13 * c + 4) x) := by
  have en : nC (up1 w (18 + 13 * c + 4) x) = nC w := by unfold nC; rw [up1_n (by omega)]
  obtain ⟨g0, g6, g8, gc⟩ := h
  have ec : ∀ c' i', i' < 13 → cl (up1 w (18 + 13 * c + 4) x) c' i' = if c' = c ∧ i' = 4 then x else cl w c' i' := fun c' i' hi' => cl_up (by omega) hi'
  refine ⟨by rw [up1_n (by omega)]; exact g0, by rw [up1_n (by omega)]; exact g6, by rw [up1_n (by omega)]; exact g8, fun c' hc' => ?_⟩
  rw [en] at hc'
  obtain ⟨c1, c2, c3, c4, c5, c6⟩ := gc c' hc'
  refine ⟨by rw [ec c' 0 (by omega), if_neg (by omega)]; exact c1, by rw [ec c' 3 (by omega), if_neg (by omega)]; exact c2, ?_, by rw [ec c' 5 (by omega), if_neg (by omega)]; exact c4, by rw [ec c' 5 (by omega), if_neg (by omega), ec c' 6 (by omega), if_neg (by omega)]; exact c5, fun k hk hl => ?_⟩
  · rw [ec c' 4 (by omega), up1_n (by omega)]
    by_cases e : c' = c
    · rw [if_pos ⟨e, rfl⟩]; exact hx
    · rw [if_neg (by omega)]; exact c3
  · rw [ec c' 5 (by omega), if_neg (by omega)] at hl
    rw [ec c' (7 + k) (by omega), if_neg (by omega)]
    exact c6 k hk hl
theorem WF_dd {w : RW} {c : Nat} (h : WF w) : WF (up1 w (18 + 13 * c + 0) 0) := by
  have en : nC (up1 w (18 + 13 * c + 0) 0) = nC w := by unfold nC; rw [up1_n (by omega)]
  obtain ⟨g0, g6, g8, gc⟩ := h
  have ec : ∀ c' i', i' < 13 → cl (up1 w (18 + 13 * c + 0) 0) c' i' = if c' = c ∧ i' = 0 then 0 else cl w c' i' := fun c' i' hi' => cl_up (by omega) hi'
  refine ⟨by rw [up1_n (by omega)]; exact g0, by rw [up1_n (by omega)]; exact g6, by rw [up1_n (by omega)]; exact g8, fun c' hc' => ?_⟩
  rw [en] at hc'
  obtain ⟨c1, c2, c3, c4, c5, c6⟩ := gc c' hc'
  refine ⟨?_, by rw [ec c' 3 (by omega), if_neg (by omega)]; exact c2, by rw [ec c' 4 (by omega), if_neg (by omega), up1_n (by omega)]; exact c3, by rw [ec c' 5 (by omega), if_neg (by omega)]; exact c4, by rw [ec c' 5 (by omega), if_neg (by omega), ec c' 6 (by omega), if_neg (by omega)]; exact c5, fun k hk hl => ?_⟩
  · rw [ec c' 0 (by omega)]
    by_cases e : c' = c
    · rw [if_pos ⟨e, rfl⟩]; exact Or.inl rfl
    · rw [if_neg (by omega)]; exact c1
  · rw [ec c' 5 (by omega), if_neg (by omega)] at hl
    rw [ec c' (7 + k) (by omega), if_neg (by omega)]
    exact c6 k hk hl
theorem CWc_fr' {M M' : MM} {a : Nat} {w w' : RW} {s s' : RS} {c : Nat} (h : CWc M a w s c) (h1 : ∀ i, i = 1 ∨ i = 2 ∨ i = 3 ∨ i = 4 ∨ i = 6 ∨ i = 7 → M'.1 (a + i) c = M.1 (a + i) c) (h5 : ∀ k, k < 6 → M'.1 (a + 5) (6 * c + k) = M.1 (a + 5) (6 * c + k)) (h8 : M'.2 (a + 8) c = M.2 (a + 8) c) (hw : ∀ i, i < 13 → i ≠ 0 → cl w' c i = cl w c i) (hs : s' c = s c) : CWc M' a w' s' c := by
  obtain ⟨c1, c2, c3, c4, c5, c6, c7, c8⟩ := h
  refine ⟨?_, ?_, ?_, ?_, ?_, ?_, fun k hk hl => ?_, ?_⟩
  · rw [h1 1 (by omega), hw 1 (by omega) (by omega)]; exact c1
  · rw [h1 2 (by omega), hw 2 (by omega) (by omega)]; exact c2
  · rw [h1 3 (by omega), hw 3 (by omega) (by omega)]; exact c3
  · rw [h1 4 (by omega), hw 4 (by omega) (by omega)]; exact c4
  · rw [h1 6 (by omega), hw 5 (by omega) (by omega)]; exact c5
  · rw [h1 7 (by omega), hw 6 (by omega) (by omega)]; exact c6
  · rw [hw 5 (by omega) (by omega)] at hl
    rw [h5 k hk, hw (7 + k) (by omega) (by omega)]; exact c7 k hk hl
  · rw [h8, hs]; exact c8
theorem CW_dd {M : MM} {a c : Nat} {w : RW} {s : RS} (h : CW M a w s) (hn : nC w ≤ 10) (hc : c < nC w) : CW (wi M a 1 (M.1 a 1 &&& (sl 1 (i32 c) ^^^ (-1)))) a (up1 w (18 + 13 * c + 0) 0) s := by
  obtain ⟨⟨a0, a1, a2, a3, a4, a5, a6, a7, a8⟩, b1, b2, b3, b4⟩ := h
  have en : nC (up1 w (18 + 13 * c + 0) 0) = nC w := by unfold nC; rw [up1_n (by omega)]
  refine ⟨?_, fun d' hd' => ?_, ?_, fun c' hc' => ?_, ?_⟩
  · unfold CWs
    simp (disch := omega) only [wi_1n, up1_n, a0, a1, a2, a3, a4, a5, a6, a7, a8, and_self]
  · rw [wi_1n (by omega), up1_n (by omega)]
    exact b1 d' hd'
  · rw [wi_1e, en, b2]
    apply tb_ext
    intro k hk
    rw [tb_and, tb_not hk, tb_sl (by omega) hk, tb_bs _ _ (by omega) _ hk, tb_bs _ _ (by omega) _ hk]
    unfold alv
    rw [cl_up (by omega) (by omega)]
    by_cases e : k = c
    · rw [if_pos ⟨e, rfl⟩, decide_eq_true e]
      simp
    · rw [if_neg (by omega), decide_eq_false e]
      simp
  · rw [en] at hc'
    refine CWc_fr' (b3 c' hc') (fun i _ => wi_1n (by omega)) (fun k' _ => wi_1n (by omega)) rfl (fun i hi h0 => by rw [cl_up (by omega) hi, if_neg (by omega)]) rfl
  · exact CWl_fr b4 (wi_1n (by omega)) (wi_1n (by omega)) (fun j => wi_1n (by omega)) (up1_n (by omega)) (fun k' _ _ => up1_n (by omega))
section AC3
variable {B : Int} {M : MM} {p q : Int32}
theorem GW_r {w w' : RW} (h : GW B w) (hw : WF w') (h2 : w' 2 = w 2) (h1 : w' 1 = w 1) : GW B w' := ⟨hw, by rw [h2]; exact h.2.1, by rw [h2, h1]; exact h.2.2⟩
/-- set free -/
theorem a_release (h : CP B M) {N : Nat} : W_E_release p N M (fun y M1 => ∀ z N', W_m_release p N' (wj M1 215 0 z) (fun b M2 => CP B M2 ∧ M2.1 190 0 = 0 ∧ y = b)) (fun ce M1 => ∀ N', W_m_release p N' M1 (fun _ M2 => CP B M2 ∧ M2.1 190 0 = if ce = 2 then 1 else 2)) := by
  obtain ⟨hc, hg⟩ := h.2.2.2.1
  unfold W_E_release
  refine s_cit hc (fun hp => ?_) (fun hp N' => ?_)
  · obtain ⟨c, rfl, hcn, hc10⟩ := okc_c hg.1 hp
    refine s_alive hc hg.1 hcn (fun ha => ?_) (fun ha N' => ?_)
    · rw [ni_i (by omega), show M.1 21 c = cl (M.1 191) c 3 from (hc.2.2.2.1 c hcn).2.2.1]
      have f3 : V_m_of (i32 c) 3 (wi M 190 0 0) = cl (M.1 191) c 3 := of_row (i := 3) rfl hc10 (by omega)
      refine ⟨fun hb N' => ?_, fun hb => ?_⟩
      · unfold W_m_release W_m_throwsIf
        simp only [noc_1 hg.1 hp, al_1 hc10 ha, f3, hb, e10, e10n, true_implies, false_implies, not_true_eq_false, not_false_eq_true, and_true, true_and, if_true]
        exact CP_t h 2 (fun e => e)
      · refine s_rem h (fun M9 m hh hr hi hm hw e9 z N' => ?_)
        have h1 := CW_ct (x := 0) hw (by have := (nC_i hg.1).2.1; omega) hcn (Or.inr (Or.inr (Or.inl ⟨rfl, rfl⟩)))
        unfold W_m_release W_m_throwsIf
        have eM : Eqo (fp_Memory_remember ++ [(21, 21, none)]) M (wi M9 21 c 0) := eqo_app e9 eqo_a
        have hm1 := CM_eq hm (eqo_a (M := M9) (a := 21) (k := c) (x := 0)) rfl
        have eM := eqo_app eM (eqo_z (z := z))
        have hm1 := CM_eq hm1 (eqo_z (z := z)) rfl
        have h1 := CW_eq h1 (eqo_z (z := z)) rfl
        have a1 := eqb eM (lo := 191) (hi := 191) rfl (Nat.le_refl _) (Nat.le_refl _)
        generalize wj (wi M9 21 c 0) 215 0 z = M1 at *
        simp only [noc_e a1, al_e a1, of_e a1, noc_1 hg.1 hp, al_1 hc10 ha, f3, hb, e10, e10n, true_implies, false_implies, not_true_eq_false, not_false_eq_true, and_true, true_and, if_true]
        refine t_rem hr eM rfl (fun M11 r1 r2 r3 r4 z0 => ?_)
        unfold W_m_sets
        rw [show ni ((18 + (13 * i32 c)) + 3) = 18 + 13 * c + 3 from ofs (i := 3) (by omega) (by omega), show V_m_of (i32 c) 3 M11 = cl (M.1 191) c 3 from of_row (i := 3) r2 hc10 (by omega)]
        have e2 := eqo_app r4 (eqo_a (M := M11) (a := 191) (k := 18 + 13 * c + 3) (x := 0))
        refine ⟨CP_mk h (eqo_app eM e2) rfl (wi_row r2) r3 (CW_eq h1 e2 rfl) (GW_r hg (tk_W hg.1 hcn (by decide)).1 (up1_n (by omega)) (up1_n (by omega))) (CM_eq hm1 e2 rfl) (RMm_eq r1 eqo_a rfl) hi (Int.le_refl _), z0, rfl⟩
    · unfold W_m_release W_m_throwsIf
      simp only [noc_1 hg.1 hp, al_0 hc10 ha, e10, e10n, true_implies, false_implies, not_true_eq_false, not_false_eq_true, and_true, true_and, if_true]
      exact CP_t h 2 (fun e => e)
  · unfold W_m_release W_m_throwsIf
    simp only [noc_0 hg.1 hp, e10, e10n, true_implies, false_implies, not_true_eq_false, not_false_eq_true, and_true, true_and, if_true]
    exact CP_t h 1 (fun e => e)
theorem sp_neg {w : RW} {c : Nat} (hw : WFc w c) : (cl w c 4 < 0) ↔ cl w c 4 = -1 := by
  obtain ⟨-, -, h, -⟩ := hw
  rw [Int32.lt_iff_toInt_lt, show (0 : Int32).toInt = 0 from rfl]
  constructor
  · intro h1
    rcases h with h | h
    · exact h
    · omega
  · intro h1
    rw [h1]
    decide
theorem single_e {M1 : MM} (a : M1.1 191 = M.1 191) : V_m_isSingle p (wi M1 190 0 0) = V_m_isSingle p (wi M 190 0 0) := by
  unfold V_m_isSingle
  rw [of_e a]
theorem v_single {c : Nat} (hw : WFc (M.1 191) c) (hc : c < 10) : V_m_isSingle (i32 c) (wi M 190 0 0) = b32 (decide (cl (M.1 191) c 4 = -1)) := by
  unfold V_m_isSingle
  rw [show V_m_of (i32 c) 4 (wi M 190 0 0) = cl (M.1 191) c 4 from of_row (i := 4) rfl hc (by omega), if_neg (by
    rw [Int32.lt_iff_toInt_lt, show (0 : Int32).toInt = 0 from rfl, i32_i (by omega)]; omega)]
  by_cases h : cl (M.1 191) c 4 < 0
  · rw [if_pos h, decide_eq_true ((sp_neg hw).mp h)]; rfl
  · rw [if_neg h, decide_eq_false (fun e => h ((sp_neg hw).mpr e))]; rfl
/-- wed -/
theorem a_wed (h : CP B M) {N : Nat} : W_E_wed p q N M (fun y M1 => ∀ z N', W_m_wed p q N' (wj M1 215 0 z) (fun b M2 => CP B M2 ∧ M2.1 190 0 = 0 ∧ y = b)) (fun ce M1 => ∀ N', W_m_wed p q N' M1 (fun _ M2 => CP B M2 ∧ M2.1 190 0 = if ce = 2 then 1 else if ce = 0 then 2 else 3)) := by
  obtain ⟨hc, hg⟩ := h.2.2.2.1
  have hn := (nC_i hg.1).2.1
  have e0 := (nC_i hg.1).1
  unfold W_E_wed
  refine s_cit hc (fun hp => s_cit hc (fun hq => ?_) (fun hq N' => ?_)) (fun hp N' => ?_)
  · obtain ⟨c, rfl, hcn, hc10⟩ := okc_c hg.1 hp
    obtain ⟨d, rfl, hdn, hd10⟩ := okc_c hg.1 hq
    unfold W_E_needTwo
    refine ⟨fun he N' => ?_, fun he => ?_⟩
    · unfold W_m_wed W_m_throwsIf
      simp only [noc_1 hg.1 hp, noc_1 hg.1 hq, he, e10, e10n, true_implies, false_implies, not_true_eq_false, not_false_eq_true, and_true, true_and, if_true]
      exact CP_t h 2 (fun e => e)
    · have hcd : c ≠ d := fun e => he (by rw [e])
      have hef : (i32 c = i32 d) = False := eq_false he
      refine s_alive hc hg.1 hcn (fun ha => s_alive hc hg.1 hdn (fun hb => ?_) (fun hb N' => ?_)) (fun ha N' => ?_)
      · rw [ni_i (by omega), ni_i (by omega), show M.1 22 c = cl (M.1 191) c 4 from (hc.2.2.2.1 c hcn).2.2.2.1, show M.1 22 d = cl (M.1 191) d 4 from (hc.2.2.2.1 d hdn).2.2.2.1]
        have fs := v_single (M := M) (hg.1.2.2.2 c hcn) hc10
        have fd := v_single (M := M) (hg.1.2.2.2 d hdn) hd10
        refine ⟨fun h1 => ⟨fun h2 => ?_, fun h2 N' => ?_⟩, fun h1 N' => ?_⟩
        · rw [decide_eq_true h1, b32_1] at fs
          rw [decide_eq_true h2, b32_1] at fd
          refine s_rem h (fun M9 m hh hr hi hm hw e9 => ?_)
          unfold W_World_marry
          have k1 : M9.1 19 c = cl (M.1 191) c 1 := (hw.2.2.2.1 c hcn).1
          have k2 : M9.1 19 d = cl (M.1 191) d 1 := (hw.2.2.2.1 d hdn).1
          rw [ni_i (by omega), ni_i (by omega)]
          have r19 : ∀ j, (wi (wi M9 (18 + 4) c (i32 d)) (18 + 4) d (i32 c)).1 (18 + 1) j = M9.1 19 j := fun j => by rw [wi_1n (by omega), wi_1n (by omega)]
          rw [r19, r19, k1, k2, wi_1e]
          have h1' := CW_ct (x := i32 d) hw hn hcn (Or.inr (Or.inr (Or.inr (Or.inl ⟨rfl, rfl⟩))))
          have n1 : nC (up1 (M.1 191) (18 + 13 * c + 4) (i32 d)) = nC (M.1 191) := by unfold nC; rw [up1_n (by omega)]
          have h2' := CW_ct (x := i32 c) h1' (by rw [n1]; exact hn) (by rw [n1]; exact hdn) (Or.inr (Or.inr (Or.inr (Or.inl ⟨rfl, rfl⟩))))
          have n2 : nC (up1 (up1 (M.1 191) (18 + 13 * c + 4) (i32 d)) (18 + 13 * d + 4) (i32 c)) = nC (M.1 191) := by unfold nC; rw [up1_n (by omega), up1_n (by omega)]
          have h3' := CW_ct (x := cl (M.1 191) c 1 ||| cl (M.1 191) d 1) h2' (by rw [n2]; exact hn) (by rw [n2]; exact hcn) (Or.inl ⟨rfl, rfl⟩)
          have n3 : nC (up1 (up1 (up1 (M.1 191) (18 + 13 * c + 4) (i32 d)) (18 + 13 * d + 4) (i32 c)) (18 + 13 * c + 1) (cl (M.1 191) c 1 ||| cl (M.1 191) d 1)) = nC (M.1 191) := by unfold nC; rw [up1_n (by omega), up1_n (by omega), up1_n (by omega)]
          have h4' := CW_ct (x := cl (M.1 191) c 1 ||| cl (M.1 191) d 1) h3' (by rw [n3]; exact hn) (by rw [n3]; exact hdn) (Or.inl ⟨rfl, rfl⟩)
          have e4 : Eqo ([(22, 22, none)] ++ ([(22, 22, none)] ++ ([(19, 19, none)] ++ [(19, 19, none)]))) M9 (wi (wi (wi (wi M9 (18 + 4) c (i32 d)) (18 + 4) d (i32 c)) (18 + 1) c (cl (M.1 191) c 1 ||| cl (M.1 191) d 1)) (18 + 1) d (cl (M.1 191) c 1 ||| cl (M.1 191) d 1)) := eqo_app eqo_a (eqo_app eqo_a (eqo_app eqo_a eqo_a))
          have eM := eqo_app e9 e4
          have hm1 := CM_eq hm e4 rfl
          have a1 := eqb eM (lo := 191) (hi := 191) rfl (Nat.le_refl _) (Nat.le_refl _)
          have ey : (wi (wi (wi (wi M9 (18 + 4) c (i32 d)) (18 + 4) d (i32 c)) (18 + 1) c (cl (M.1 191) c 1 ||| cl (M.1 191) d 1)) (18 + 1) d (cl (M.1 191) c 1 ||| cl (M.1 191) d 1)).1 19 c = cl (M.1 191) c 1 ||| cl (M.1 191) d 1 := by
            rw [wi_1n (by omega)]
            exact wi_1e
          dsimp only
          rw [ey]
          intro z N'
          have eM := eqo_app eM (eqo_z (z := z))
          have hm1 := CM_eq hm1 (eqo_z (z := z)) rfl
          have h4' := CW_eq h4' (eqo_z (z := z)) rfl
          have a1 := eqb eM (lo := 191) (hi := 191) rfl (Nat.le_refl _) (Nat.le_refl _)
          generalize wj (wi (wi (wi (wi M9 (18 + 4) c (i32 d)) (18 + 4) d (i32 c)) (18 + 1) c (cl (M.1 191) c 1 ||| cl (M.1 191) d 1)) (18 + 1) d (cl (M.1 191) c 1 ||| cl (M.1 191) d 1)) 215 0 z = M1 at *
          unfold W_m_wed W_m_throwsIf
          simp only [noc_e a1, al_e a1, single_e a1, noc_1 hg.1 hp, noc_1 hg.1 hq, hef, al_1 hc10 ha, al_1 hd10 hb, fs, fd, e10, e10n, true_implies, false_implies, not_true_eq_false, not_false_eq_true, and_true, true_and, if_true]
          refine t_rem hr eM rfl (fun M11 r1 r2 r3 r4 z0 => ?_)
          unfold W_m_weds W_m_sets
          rw [show ni ((18 + (13 * i32 c)) + 1) = 18 + 13 * c + 1 from ofs (i := 1) (by omega) (by omega), show ni ((18 + (13 * i32 d)) + 1) = 18 + 13 * d + 1 from ofs (i := 1) (by omega) (by omega), show ni ((18 + (13 * i32 c)) + 4) = 18 + 13 * c + 4 from ofs (i := 4) (by omega) (by omega), show ni ((18 + (13 * i32 d)) + 4) = 18 + 13 * d + 4 from ofs (i := 4) (by omega) (by omega), show V_m_of (i32 c) 1 M11 = cl (M.1 191) c 1 from of_row (i := 1) r2 hc10 (by omega), show V_m_of (i32 d) 1 M11 = cl (M.1 191) d 1 from of_row (i := 1) r2 hd10 (by omega)]
          have e2 := eqo_app r4 (eqo_app (eqo_a (M := M11) (a := 191) (k := 18 + 13 * c + 4) (x := i32 d)) (eqo_app (eqo_a (a := 191) (k := 18 + 13 * d + 4) (x := i32 c)) (eqo_app (eqo_a (a := 191) (k := 18 + 13 * c + 1) (x := cl (M.1 191) c 1 ||| cl (M.1 191) d 1)) (eqo_a (a := 191) (k := 18 + 13 * d + 1) (x := cl (M.1 191) c 1 ||| cl (M.1 191) d 1)))))
          have er := eqo_app (eqo_a (M := M11) (a := 191) (k := 18 + 13 * c + 4) (x := i32 d)) (eqo_app (eqo_a (a := 191) (k := 18 + 13 * d + 4) (x := i32 c)) (eqo_app (eqo_a (a := 191) (k := 18 + 13 * c + 1) (x := cl (M.1 191) c 1 ||| cl (M.1 191) d 1)) (eqo_a (a := 191) (k := 18 + 13 * d + 1) (x := cl (M.1 191) c 1 ||| cl (M.1 191) d 1))))
          have hrow := wi_row (k := 18 + 13 * d + 1) (x := cl (M.1 191) c 1 ||| cl (M.1 191) d 1) (wi_row (k := 18 + 13 * c + 1) (x := cl (M.1 191) c 1 ||| cl (M.1 191) d 1) (wi_row (k := 18 + 13 * d + 4) (x := i32 c) (wi_row (k := 18 + 13 * c + 4) (x := i32 d) r2)))
          refine ⟨CP_mk h (eqo_app eM e2) rfl hrow r3 (CW_eq h4' e2 rfl) (GW_r hg (WF_ct (WF_ct (WF_sp (WF_sp hg.1 (Or.inr (by rw [i32_i (by omega)]; omega))) (Or.inr (by rw [i32_i (by omega), up1_n (by omega)]; omega))) (Or.inl rfl)) (Or.inl rfl)) (by rw [up1_n (by omega), up1_n (by omega), up1_n (by omega), up1_n (by omega)]) (by rw [up1_n (by omega), up1_n (by omega), up1_n (by omega), up1_n (by omega)])) (CM_eq hm1 e2 rfl) (RMm_eq r1 er rfl) hi (Int.le_refl _), z0, ?_⟩
          rw [show V_m_of (i32 c) 1 _ = _ from of_row (i := 1) hrow hc10 (by omega), cl_up (by omega) (by omega), if_neg (by omega), cl_up (by omega) (by omega), if_pos ⟨rfl, rfl⟩]
        · rw [decide_eq_true h1, b32_1] at fs
          rw [decide_eq_false h2, b32_0] at fd
          unfold W_m_wed W_m_throwsIf
          simp only [noc_1 hg.1 hp, noc_1 hg.1 hq, hef, al_1 hc10 ha, al_1 hd10 hb, fs, fd, e10, e10n, true_implies, false_implies, not_true_eq_false, not_false_eq_true, and_true, true_and, if_true]
          exact CP_t h 3 (fun e => e)
        · rw [decide_eq_false h1, b32_0] at fs
          unfold W_m_wed W_m_throwsIf
          simp only [noc_1 hg.1 hp, noc_1 hg.1 hq, hef, al_1 hc10 ha, al_1 hd10 hb, fs, e10, e10n, true_implies, false_implies, not_true_eq_false, not_false_eq_true, and_true, true_and, if_true]
          exact CP_t h 3 (fun e => e)
      · unfold W_m_wed W_m_throwsIf
        simp only [noc_1 hg.1 hp, noc_1 hg.1 hq, hef, al_1 hc10 ha, al_0 hd10 hb, e10, e10n, true_implies, false_implies, not_true_eq_false, not_false_eq_true, and_true, true_and, if_true]
        exact CP_t h 3 (fun e => e)
      · unfold W_m_wed W_m_throwsIf
        simp only [noc_1 hg.1 hp, noc_1 hg.1 hq, hef, al_0 hc10 ha, e10, e10n, true_implies, false_implies, not_true_eq_false, not_false_eq_true, and_true, true_and, if_true]
        exact CP_t h 3 (fun e => e)
  · unfold W_m_wed W_m_throwsIf
    simp only [noc_1 hg.1 hp, noc_0 hg.1 hq, e10, e10n, true_implies, false_implies, not_true_eq_false, not_false_eq_true, and_true, true_and, if_true]
    exact CP_t h 1 (fun e => e)
  · unfold W_m_wed W_m_throwsIf
    simp only [noc_0 hg.1 hp, e10, e10n, true_implies, false_implies, not_true_eq_false, not_false_eq_true, and_true, true_and, if_true]
    exact CP_t h 1 (fun e => e)
end AC3
end
section
/-! ACTS: dead; days; undone -/
def dieS (w : RW) (c : Nat) : RW := if cl w c 4 = -1 then up1 (up1 (up1 w (18 + 13 * c + 0) 0) (18 + 13 * c + 3) 0) (18 + 13 * c + 4) (-1) else up1 (up1 (up1 (up1 w (18 + 13 * c + 0) 0) (18 + 13 * c + 3) 0) (18 + 13 * ni (cl w c 4) + 4) (-1)) (18 + 13 * c + 4) (-1)
theorem dieS_W {w : RW} {c : Nat} (hw : WF w) (hc : c < nC w) : WF (dieS w c) ∧ nC (dieS w c) = nC w ∧ dieS w c 2 = w 2 := by
  have h0 : WF (up1 w (18 + 13 * c + 0) 0) := WF_dd hw
  have n0' : nC (up1 w (18 + 13 * c + 0) 0) = nC w := by unfold nC; rw [up1_n (by omega)]
  have h3 := (tk_W (x := 0) h0 (by rw [n0']; exact hc) (by decide)).1
  unfold dieS
  split
  · exact ⟨WF_sp h3 (Or.inl rfl), by unfold nC; rw [up1_n (by omega), up1_n (by omega), up1_n (by omega)], by rw [up1_n (by omega), up1_n (by omega), up1_n (by omega)]⟩
  · exact ⟨WF_sp (WF_sp h3 (Or.inl rfl)) (Or.inl rfl), by unfold nC; rw [up1_n (by omega), up1_n (by omega), up1_n (by omega), up1_n (by omega)], by rw [up1_n (by omega), up1_n (by omega), up1_n (by omega), up1_n (by omega)]⟩
theorem dieS_1 {w : RW} {c : Nat} : dieS w c 1 = w 1 := by
  unfold dieS
  split
  · rw [up1_n (by omega), up1_n (by omega), up1_n (by omega)]
  · rw [up1_n (by omega), up1_n (by omega), up1_n (by omega), up1_n (by omega)]
section AC4
variable {B : Int} {M : MM} {p q : Int32}
theorem c_bury {a c N : Nat} {w : RW} {s : RS} {Q : MM → Prop} (h : CW M a w s) (hw : WF w) (hc : c < nC w) (hQ : ∀ M', CW M' a (dieS w c) s → Eqo (fp_World_bury a) M M' → Q M') : W_World_bury a (i32 c) N M Q := by
  have hn := (nC_i hw).2.1
  refine and_World_bury (Q1 := fun M' => CW M' a (dieS w c) s) (fun M' h1 h2 => hQ M' h1 h2) ?_ (an_World_bury (Q := fun M' => Eqo (fp_World_bury a) M M') (fun M1 h => h))
  unfold W_World_bury
  rw [ni_i (by omega)]
  have h1 := CW_dd h hn hc
  have n1 : nC (up1 w (18 + 13 * c + 0) 0) = nC w := by unfold nC; rw [up1_n (by omega)]
  have h2 := CW_ct (x := 0) h1 (by rw [n1]; exact hn) (by rw [n1]; exact hc) (Or.inr (Or.inr (Or.inl ⟨rfl, rfl⟩)))
  have n2 : nC (up1 (up1 w (18 + 13 * c + 0) 0) (18 + 13 * c + 3) 0) = nC w := by unfold nC; rw [up1_n (by omega), up1_n (by omega)]
  have e4 : cl (up1 (up1 w (18 + 13 * c + 0) 0) (18 + 13 * c + 3) 0) c 4 = cl w c 4 := by rw [cl_up (by omega) (by omega), if_neg (by omega), cl_up (by omega) (by omega), if_neg (by omega)]
  have e0 : (up1 (up1 w (18 + 13 * c + 0) 0) (18 + 13 * c + 3) 0) 0 = w 0 := by rw [up1_n (by omega), up1_n (by omega)]
  have q4 := (h2.2.2.2.1 c (by rw [n2]; exact hc)).2.2.2.1
  have q0 := h2.1.1
  rw [e4] at q4
  rw [e0] at q0
  generalize wi (wi M a 1 (M.1 a 1 &&& (sl 1 (i32 c) ^^^ (-1)))) (a + 3) c 0 = M2 at *
  rw [q4]
  unfold V_World_isThere
  rw [q0]
  have hsp := (hw.2.2.2 c hc).2.2.1
  unfold dieS
  refine ⟨fun hz => ?_, fun hz => ?_⟩
  · have hm1 : cl w c 4 = -1 := by
      rcases hsp with h | h
      · exact h
      · rw [if_neg (by rw [Int32.lt_iff_toInt_lt, show (0 : Int32).toInt = 0 from rfl]; omega), if_pos (by rw [Int32.lt_iff_toInt_lt]; omega)] at hz
        exact absurd hz (by decide)
    rw [if_pos hm1]
    exact CW_ct (x := -1) h2 (by rw [n2]; exact hn) (by rw [n2]; exact hc) (Or.inr (Or.inr (Or.inr (Or.inl ⟨rfl, rfl⟩))))
  · have hnm : ¬ cl w c 4 = -1 := fun e => hz (by rw [e, if_pos (by decide)])
    rw [if_neg hnm]
    have hs2 : 0 ≤ (cl w c 4).toInt ∧ (cl w c 4).toInt < (w 0).toInt := by
      rcases hsp with h | h
      · exact absurd h hnm
      · exact h
    have hsn : ni (cl w c 4) < nC w := by
      have := (nC_i hw).1
      unfold ni
      omega
    have h3 := CW_ct (x := -1) h2 (by rw [n2]; exact hn) (by rw [n2]; exact hsn) (Or.inr (Or.inr (Or.inr (Or.inl ⟨rfl, rfl⟩))))
    have n3 : nC (up1 (up1 (up1 w (18 + 13 * c + 0) 0) (18 + 13 * c + 3) 0) (18 + 13 * ni (cl w c 4) + 4) (-1)) = nC w := by unfold nC; rw [up1_n (by omega), up1_n (by omega), up1_n (by omega)]
    exact CW_ct (x := -1) h3 (by rw [n3]; exact hn) (by rw [n3]; exact hc) (Or.inr (Or.inr (Or.inr (Or.inl ⟨rfl, rfl⟩))))
/-- dead -/
theorem a_die (h : CP B M) {N : Nat} : W_E_die p N M (fun y M1 => ∀ z N', W_m_die p N' (wj M1 215 0 z) (fun b M2 => CP B M2 ∧ M2.1 190 0 = 0 ∧ y = b)) (fun ce M1 => ∀ N', W_m_die p N' M1 (fun _ M2 => CP B M2 ∧ M2.1 190 0 = if ce = 2 then 1 else 2)) := by
  obtain ⟨hc, hg⟩ := h.2.2.2.1
  have hn := (nC_i hg.1).2.1
  unfold W_E_die
  refine s_cit hc (fun hp => ?_) (fun hp N' => ?_)
  · obtain ⟨c, rfl, hcn, hc10⟩ := okc_c hg.1 hp
    refine s_alive hc hg.1 hcn (fun ha => ?_) (fun ha N' => ?_)
    · refine s_rem h (fun M9 m hh hr hi hm hw e9 => ?_)
      obtain ⟨wd, nd, d2⟩ := dieS_W hg.1 hcn
      refine c_force hw hg.1 ?_
      refine c_bury hw hg.1 hcn (fun M1 h1 eb => ?_)
      refine c_force h1 wd (fun z N' => ?_)
      rw [nd]
      unfold W_m_die W_m_throwsIf
      have eM := eqo_app (eqo_app e9 eb) (eqo_z (z := z))
      have hm1 := CM_eq (CM_eq hm eb rfl) (eqo_z (z := z)) rfl
      have h1 := CW_eq h1 (eqo_z (z := z)) rfl
      generalize wj M1 215 0 z = M1 at *
      have a1 := eqb eM (lo := 191) (hi := 191) rfl (Nat.le_refl _) (Nat.le_refl _)
      simp only [noc_e a1, al_e a1, noc_1 hg.1 hp, al_1 hc10 ha, e10, e10n, true_implies, false_implies, not_true_eq_false, not_false_eq_true, and_true, true_and, if_true]
      refine t_rem hr eM rfl (fun M11 r1 r2 r3 r4 z0 => ?_)
      refine r_force hg.1 r2 ?_
      rw [show V_m_of (i32 c) 4 M11 = cl (M.1 191) c 4 from of_row (i := 4) r2 hc10 (by omega)]
      unfold W_m_sets
      rw [show ni ((18 + (13 * i32 c)) + 3) = 18 + 13 * c + 3 from ofs (i := 3) (by omega) (by omega), show ni ((18 + (13 * i32 c)) + 4) = 18 + 13 * c + 4 from ofs (i := 4) (by omega) (by omega), show ni ((18 + (13 * i32 c)) + 0) = 18 + 13 * c + 0 from ofs (i := 0) (by omega) (by omega)]
      have hs := hg.1.2.2.2 c hcn
      refine ⟨fun hz => ?_, fun hz => ?_⟩
      · have hm1' := (sp_neg hs).mp hz
        have er := eqo_app (eqo_a (M := M11) (a := 191) (k := 18 + 13 * c + 4) (x := -1)) (eqo_app (eqo_a (a := 191) (k := 18 + 13 * c + 3) (x := 0)) (eqo_a (a := 191) (k := 18 + 13 * c + 0) (x := 0)))
        have hrow := wi_row (k := 18 + 13 * c + 0) (x := 0) (wi_row (k := 18 + 13 * c + 3) (x := 0) (wi_row (k := 18 + 13 * c + 4) (x := -1) r2))
        have hd : up1 (up1 (up1 (M.1 191) (18 + 13 * c + 4) (-1)) (18 + 13 * c + 3) 0) (18 + 13 * c + 0) 0 = dieS (M.1 191) c := by
          unfold dieS
          rw [if_pos hm1', up1_c (k := 18 + 13 * c + 4) (k' := 18 + 13 * c + 3) (by omega), up1_c (k := 18 + 13 * c + 4) (k' := 18 + 13 * c + 0) (by omega), up1_c (k := 18 + 13 * c + 3) (k' := 18 + 13 * c + 0) (by omega)]
        rw [hd] at hrow
        have e2 := eqo_app r4 er
        refine r_force wd hrow ?_
        rw [nd]
        exact ⟨CP_mk h (eqo_app eM e2) rfl hrow r3 (CW_eq h1 e2 rfl) (GW_r hg wd d2 dieS_1) (CM_eq hm1 e2 rfl) (RMm_eq r1 er rfl) hi (Int.le_refl _), z0, rfl⟩
      · have hnm : ¬ cl (M.1 191) c 4 = -1 := fun e => hz ((sp_neg hs).mpr e)
        have hs2 : 0 ≤ (cl (M.1 191) c 4).toInt ∧ (cl (M.1 191) c 4).toInt < (M.1 191 0).toInt := by
          rcases hs.2.2.1 with h | h
          · exact absurd h hnm
          · exact h
        have hsn : ni (cl (M.1 191) c 4) < 10 := by
          have := (nC_i hg.1).1
          unfold ni
          omega
        have o4 : ni ((18 + (13 * cl (M.1 191) c 4)) + 4) = 18 + 13 * ni (cl (M.1 191) c 4) + 4 := by
          have := ofs (c := ni (cl (M.1 191) c 4)) (i := 4) (by omega) (by omega)
          rw [← i32_ni hs2.1] at this
          exact this
        rw [o4]
        have hcne : ni (cl (M.1 191) c 4) = ni (cl (M.1 191) c 4) := rfl
        generalize hsp : ni (cl (M.1 191) c 4) = sp at *
        have er := eqo_app (eqo_a (M := M11) (a := 191) (k := 18 + 13 * sp + 4) (x := -1)) (eqo_app (eqo_a (a := 191) (k := 18 + 13 * c + 4) (x := -1)) (eqo_app (eqo_a (a := 191) (k := 18 + 13 * c + 3) (x := 0)) (eqo_a (a := 191) (k := 18 + 13 * c + 0) (x := 0))))
        have hrow := wi_row (k := 18 + 13 * c + 0) (x := 0) (wi_row (k := 18 + 13 * c + 3) (x := 0) (wi_row (k := 18 + 13 * c + 4) (x := -1) (wi_row (k := 18 + 13 * sp + 4) (x := -1) r2)))
        have hd : up1 (up1 (up1 (up1 (M.1 191) (18 + 13 * sp + 4) (-1)) (18 + 13 * c + 4) (-1)) (18 + 13 * c + 3) 0) (18 + 13 * c + 0) 0 = dieS (M.1 191) c := by
          unfold dieS
          rw [if_neg hnm, hsp, up1_c (k := 18 + 13 * c + 4) (k' := 18 + 13 * c + 3) (by omega), up1_c (k := 18 + 13 * c + 4) (k' := 18 + 13 * c + 0) (by omega), up1_c (k := 18 + 13 * sp + 4) (k' := 18 + 13 * c + 3) (by omega), up1_c (k := 18 + 13 * sp + 4) (k' := 18 + 13 * c + 0) (by omega), up1_c (k := 18 + 13 * c + 3) (k' := 18 + 13 * c + 0) (by omega)]
        rw [hd] at hrow
        have e2 := eqo_app r4 er
        refine r_force wd hrow ?_
        rw [nd]
        exact ⟨CP_mk h (eqo_app eM e2) rfl hrow r3 (CW_eq h1 e2 rfl) (GW_r hg wd d2 dieS_1) (CM_eq hm1 e2 rfl) (RMm_eq r1 er rfl) hi (Int.le_refl _), z0, rfl⟩
    · unfold W_m_die W_m_throwsIf
      simp only [noc_1 hg.1 hp, al_0 hc10 ha, e10, e10n, true_implies, false_implies, not_true_eq_false, not_false_eq_true, and_true, true_and, if_true]
      exact CP_t h 2 (fun e => e)
  · unfold W_m_die W_m_throwsIf
    simp only [noc_0 hg.1 hp, e10, e10n, true_implies, false_implies, not_true_eq_false, not_false_eq_true, and_true, true_and, if_true]
    exact CP_t h 1 (fun e => e)
/-! days -/
def dayI (L : LWT) : Nat → RW × RS → RW × RS
  | 0, x => x
  | n + 1, x => dayS L (dayI L n x).1 (dayI L n x).2
theorem dayI_s {L : LWT} {n : Nat} {x : RW × RS} : dayI L (n + 1) x = dayS L (dayI L n x).1 (dayI L n x).2 := rfl
theorem dayI_W {L : LWT} {x : RW × RS} (hw : WF x.1) (h0 : 0 ≤ (x.1 2).toInt) : ∀ n : Nat, (x.1 2).toInt + n ≤ 29000 → WF (dayI L n x).1 ∧ ((dayI L n x).1 2).toInt = (x.1 2).toInt + n
  | 0, _ => ⟨hw, by show (x.1 2).toInt = _; omega⟩
  | n + 1, hn => by
    obtain ⟨h1, h2⟩ := dayI_W (L := L) hw h0 n (by omega)
    obtain ⟨h3, -, h4⟩ := dayS_W (L := L) (s := (dayI L n x).2) h1
    refine ⟨h3, ?_⟩
    rw [dayI_s, h4, i32_add (by rw [show (1 : Int32).toInt = 1 from rfl]; omega) (by rw [show (1 : Int32).toInt = 1 from rfl]; omega), show (1 : Int32).toInt = 1 from rfl]
    omega
theorem dayI_1 {L : LWT} {x : RW × RS} (hw : WF x.1) (h0 : 0 ≤ (x.1 2).toInt) : ∀ n : Nat, (x.1 2).toInt + n ≤ 29000 → (dayI L n x).1 1 = x.1 1
  | 0, _ => rfl
  | n + 1, hn => by
    obtain ⟨h1, h2⟩ := dayI_W (L := L) hw h0 n (by omega)
    obtain ⟨h3, h5, h4⟩ := dayS_W (L := L) (s := (dayI L n x).2) h1
    rw [dayI_s, h5 1 (by omega) (by omega) (by omega) (by omega) (by omega) (by omega) (by omega)]
    exact dayI_1 hw h0 n (by omega)
theorem c_dayE {a N : Nat} {w : RW} {s : RS} {L : LWT} {Q : MM → Prop} (h : CW M a w s) (hw : WF w) (hL : LawC M 8 L) (ha : 13 ≤ a) (hd : dOK w) (hQ : ∀ M', CW M' a (dayS L w s).1 (dayS L w s).2 → LawC M' 8 L → Eqo (fp_World_passDay a) M M' → Q M') : W_World_passDay a N M Q :=
  and_World_passDay (Q1 := fun M' => CW M' a (dayS L w s).1 (dayS L w s).2 ∧ LawC M' 8 L) (fun M' h1 h2 => hQ M' h1.1 h1.2 h2) (c_day h hw hL ha hd (fun M' h1 h2 => ⟨h1, h2⟩)) (an_World_passDay (Q := fun M' => Eqo (fp_World_passDay a) M M') (fun M1 h => h))
theorem a_days (h : CP B M) (hB : 0 ≤ B ∧ B ≤ 28000) {N : Nat} : W_E_days p N M (fun y M1 => ∀ z N', W_m_days p N' (wj M1 215 0 z) (fun b M2 => CP (B + 50) M2 ∧ M2.1 190 0 = 0 ∧ y = b)) (fun _ M1 => ∀ N', W_m_days p N' M1 (fun _ M2 => CP (B + 50) M2 ∧ M2.1 190 0 = 1)) := by
  obtain ⟨hT, hF, ⟨L, hL, hR, hTL, hI⟩, ⟨hc, hg⟩, hMem⟩ := h
  have h : CP B M := ⟨hT, hF, ⟨L, hL, hR, hTL, hI⟩, ⟨hc, hg⟩, hMem⟩
  have hmono : ∀ M', CP B M' → CP (B + 50) M' := fun M' ⟨q1, q2, ⟨L, l1, l2, l3, l4⟩, ⟨w1, w2⟩, m, hh, m1, m2, m3⟩ => ⟨q1, q2, ⟨L, l1, l2, l3, IMG_le l4 (by omega)⟩, ⟨w1, GW_le w2 (by omega)⟩, m, hh, m1, m2, fun i hi => GW_le (m3 i hi) (by omega)⟩
  by_cases hp : 1 ≤ p.toInt ∧ p.toInt ≤ 50
  · have fin : ∀ X : MM, V_m_in p 1 50 X = 1 := fun X => by rw [v_in, show (1 : Int32).toInt = 1 from rfl, show (50 : Int32).toInt = 50 from rfl, decide_eq_true hp]; rfl
    refine and_E_days (Q1 := fun y M1 => Eqo fp_E_days M M1) (E1 := fun _ _ => True) (Q2 := fun y M1 => ∃ m hh, RMm M m hh ∧ (∀ i, i < min (m + 1) 10 → GW B ((hpush (M.1 191, M.2 196) hh) i).1) ∧ CM M1 (min (m + 1) 10) (hpush (M.1 191, M.2 196) hh) ∧ CW M1 18 (dayI L (ni p) (M.1 191, M.2 196)).1 (dayI L (ni p) (M.1 191, M.2 196)).2 ∧ y = (dayI L (ni p) (M.1 191, M.2 196)).1 3 - M.1 191 3) (E2 := fun _ _ => False) (fun y M1 e1 h2 z N' => ?_) (fun ce M1 _ hf => hf.elim) (an_E_days (fun r M1 h => h) (fun ce M1 h => trivial)) ?_
    · obtain ⟨m, hh, hr, hi, hm, hw, rfl⟩ := h2
      have e1 := eqo_app e1 (eqo_z (z := z))
      have hm := CM_eq hm (eqo_z (z := z)) rfl
      have hw := CW_eq hw (eqo_z (z := z)) rfl
      generalize wj M1 215 0 z = M1 at *
      have a1 := eqb e1 (lo := 191) (hi := 191) rfl (Nat.le_refl _) (Nat.le_refl _)
      have a2 := eqb2 e1 (lo := 196) (hi := 196) rfl (Nat.le_refl _) (Nat.le_refl _)
      refine and_m_days (Q1 := fun b M2 => Eqo fp_m_days M1 M2) (Q2 := fun b M2 => RMm M2 (min (m + 1) 10) (hpush (M.1 191, M.2 196) hh) ∧ M2.1 191 = (dayI L (ni p) (M.1 191, M.2 196)).1 ∧ M2.2 196 = (dayI L (ni p) (M.1 191, M.2 196)).2 ∧ M2.1 190 0 = 0 ∧ (dayI L (ni p) (M.1 191, M.2 196)).1 3 - M.1 191 3 = b) (fun b M2 e2 h2 => ?_) (an_m_days (fun r M1 h => h)) ?_
      · obtain ⟨r1, r2, r3, z0, hy⟩ := h2
        obtain ⟨dW, dD⟩ := dayI_W (L := L) (x := (M.1 191, M.2 196)) hg.1 hg.2.1 (ni p) (by
          have h1 := hg.2.2
          have h2 : ((ni p : Nat) : Int) = p.toInt := by unfold ni; omega
          show (M.1 191 2).toInt + _ ≤ _
          omega)
        have d1 := dayI_1 (L := L) (x := (M.1 191, M.2 196)) hg.1 hg.2.1 (ni p) (by
          have h1 := hg.2.2
          have h2 : ((ni p : Nat) : Int) = p.toInt := by unfold ni; omega
          show (M.1 191 2).toInt + _ ≤ _
          omega)
        have hnp : ((ni p : Nat) : Int) = p.toInt := by unfold ni; omega
        refine ⟨CP_mk h (eqo_app e1 e2) rfl r2 r3 (CW_eq hw e2 rfl) ⟨dW, by rw [dD]; have := hg.2.1; show 0 ≤ (M.1 191 2).toInt + _; omega, by rw [dD]; have := hg.2.2; show (M.1 191 2).toInt + _ ≤ _; omega, by rw [d1]; exact hg.2.2.2⟩ (CM_eq hm e2 rfl) r1 (fun i h => GW_le (hi i h) (by omega)) (by omega), z0, hy⟩
      · unfold W_m_days W_m_throwsIf
        simp only [fin, e10, e10n, true_implies, false_implies, not_true_eq_false, not_false_eq_true, and_true, true_and, if_true]
        refine t_rem hr e1 rfl (fun M11 r1 r2 r3 r4 z0 => ?_)
        have hL11 : LawR M11 L := LawR_eq hR (eqo_app e1 r4) rfl
        have hn11 : V_m_clauses M11 = i32 L.1 := by
          obtain ⟨n, n1, n2, n3⟩ := CP_n h
          have : V_m_clauses M11 = V_m_clauses M := by
            unfold V_m_clauses
            rw [eq1 (eqo_app e1 r4) (b := 190) (k := 15) rfl]
          rw [this, n3, ← n2, hL.1]
        have ep := i32_ni (x := p) (by omega)
        have bp : ni p ≤ 50 := by unfold ni; omega
        have hnp : ((ni p : Nat) : Int) = p.toInt := by unfold ni; omega
        rw [n3, r2]
        refine I_m_days_43 p _ _ (fun v M' => ∃ j f d v', j ≤ ni p ∧ v = i32 j ∧ M' = rM M11 (dayI L j (M.1 191, M.2 196)).1 (dayI L j (M.1 191, M.2 196)).2 f d v') (fun N ih v M' hih hv => ?_) N' _ _ ⟨0, M11.1 190 29, M11.1 190 30, M11.1 207, by omega, rfl, by
          show M11 = rM M11 (M.1 191) (M.2 196) _ _ _
          rw [← r2, ← r3, rM_id]⟩
        obtain ⟨j, f, d, v', hj, rfl, rfl⟩ := hv
        obtain ⟨dW, dD⟩ := dayI_W (L := L) (x := (M.1 191, M.2 196)) hg.1 hg.2.1 j (by have := hg.2.2; show (M.1 191 2).toInt + _ ≤ _; omega)
        unfold B_m_days_43
        have hlt' : (i32 j < p) ↔ j < ni p := by
          have := i32_lt (j := j) (k := ni p) (by omega) (by omega)
          rw [← ep] at this
          exact this
        rw [hlt']
        refine ⟨fun hlt => ?_, fun hlt => ?_⟩
        · refine r_day hL11 hn11 dW ⟨by rw [dD]; have := hg.2.1; show 0 ≤ (M.1 191 2).toInt + _; omega, by rw [dD]; have := hg.2.2; show (M.1 191 2).toInt + _ ≤ _; omega⟩ (fun f' d' v'' => ?_)
          exact hih _ _ ⟨j + 1, f', d', v'', by omega, i32_s j, rfl⟩
        · obtain rfl : j = ni p := by omega
          refine ⟨RMm_eq (M := M11) (l := [(190, 190, some 29), (190, 190, some 30), (191, 191, none), (196, 196, none), (207, 207, none)]) r1 (fun b j hb => ?_) rfl, rM_191, rM_196, ?_, by rw [rM_191, n3]⟩
          · unfold rM
            dsimp only
            have nb : ∀ x o, (x, x, o) ∈ [(190, 190, some 29), (190, 190, some 30), (191, 191, none), (196, 196, none), (207, 207, none)] → (o = none ∨ o = some j) → b ≠ x := fun x o hm ho e => by
              subst e
              have : fpm [(190, 190, some 29), (190, 190, some 30), (191, 191, none), (196, 196, none), (207, 207, none)] b j = true := by
                unfold fpm
                rw [List.any_eq_true]
                refine ⟨_, hm, ?_⟩
                rcases ho with rfl | rfl
                · simp
                · simp
              rw [this] at hb
              cases hb
            have m1 := nb 191 none (by decide) (Or.inl rfl)
            have m2 := nb 207 none (by decide) (Or.inl rfl)
            have m3 := nb 196 none (by decide) (Or.inl rfl)
            refine ⟨?_, by rw [if_neg m3]⟩
            rw [if_neg m1, if_neg m2]
            by_cases q1 : b = 190 ∧ j = 29
            · exact absurd q1.1 (nb 190 (some 29) (by decide) (Or.inr (by rw [q1.2])))
            · rw [if_neg q1]
              by_cases q2 : b = 190 ∧ j = 30
              · exact absurd q2.1 (nb 190 (some 30) (by decide) (Or.inr (by rw [q2.2])))
              · rw [if_neg q2]
          · exact z0
    · unfold W_E_days W_E_needNumber
      refine ⟨fun hlt => ?_, fun _ => ⟨fun hlt => ?_, fun _ => ?_⟩⟩
      · rw [Int32.lt_iff_toInt_lt, show (1 : Int32).toInt = 1 from rfl] at hlt; omega
      · rw [Int32.lt_iff_toInt_lt, show (50 : Int32).toInt = 50 from rfl] at hlt; omega
      · refine s_rem h (fun M9 m hh hr hi hm hw e9 => ?_)
        have ep := i32_ni (x := p) (by omega)
        have bp : ni p ≤ 50 := by unfold ni; omega
        have hL9 : LawC M9 8 L := LawC_eq hL e9 rfl
        rw [hw.1.2.2.2.1]
        refine I_E_days_28 p _ _ _ (fun v M' => ∃ j, j ≤ ni p ∧ v = i32 j ∧ CW M' 18 (dayI L j (M.1 191, M.2 196)).1 (dayI L j (M.1 191, M.2 196)).2 ∧ LawC M' 8 L ∧ CM M' (min (m + 1) 10) (hpush (M.1 191, M.2 196) hh)) (fun N ih v M' hih hv => ?_) N _ _ ⟨0, by omega, rfl, hw, hL9, hm⟩
        obtain ⟨j, hj, rfl, q1, q2, q3⟩ := hv
        obtain ⟨dW, dD⟩ := dayI_W (L := L) (x := (M.1 191, M.2 196)) hg.1 hg.2.1 j (by have := hg.2.2; show (M.1 191 2).toInt + _ ≤ _; omega)
        unfold B_E_days_28
        have hlt' : (i32 j < p) ↔ j < ni p := by
          have := i32_lt (j := j) (k := ni p) (by omega) (by omega)
          rw [← ep] at this
          exact this
        rw [hlt']
        refine ⟨fun hlt => ?_, fun hlt => ?_⟩
        · refine c_dayE q1 dW q2 (by omega) ⟨by rw [dD]; have := hg.2.1; show 0 ≤ (M.1 191 2).toInt + _; omega, by rw [dD]; have := hg.2.2; show (M.1 191 2).toInt + _ ≤ _; omega⟩ (fun M'' s1 s2 s3 => ?_)
          exact hih _ _ ⟨j + 1, by omega, i32_s j, s1, s2, CM_eq q3 s3 rfl⟩
        · obtain rfl : j = ni p := by omega
          exact ⟨m, hh, hr, hi, q3, q1, by rw [q1.1.2.2.2.1]⟩
  · have fin : ∀ X : MM, V_m_in p 1 50 X = 0 := fun X => by rw [v_in, show (1 : Int32).toInt = 1 from rfl, show (50 : Int32).toInt = 50 from rfl, decide_eq_false hp]; rfl
    have thr : ∀ N', W_m_days p N' M (fun _ M2 => CP (B + 50) M2 ∧ M2.1 190 0 = 1) := fun N' => by
      unfold W_m_days W_m_throwsIf
      simp only [fin, e10, e10n, true_implies, false_implies, not_true_eq_false, not_false_eq_true, and_true, true_and, if_true]
      exact ⟨hmono _ (CP_0 (CP_0 h 0) 1), wi_1e⟩
    unfold W_E_days W_E_needNumber
    refine ⟨fun _ => thr, fun h1 => ⟨fun _ => thr, fun h2 => ?_⟩⟩
    rw [Int32.lt_iff_toInt_lt, show (1 : Int32).toInt = 1 from rfl] at h1
    rw [Int32.lt_iff_toInt_lt, show (50 : Int32).toInt = 50 from rfl] at h2
    omega
end AC4
end
section
/-! ACTS: undone; THE IMAGE -/
section LB
variable {a b N : Nat} {M : MM} {Q : MM → Prop}
theorem sp_lawb (hab : a + 5 ≤ b ∨ b + 5 ≤ a) (hQ : ∀ M', M'.1 a 0 = M.1 b 0 → M'.1 a 1 = M.1 b 1 → (∀ L, LawC M b L → LawC M' a L) → (∀ j, M'.1 (a + 2) j = M.1 (b + 2) j) → Eqo (fp_Law_become a b) M M' → Q M') : W_Law_become a b N M Q := by
  refine and_Law_become (Q1 := fun M' => M'.1 a 0 = M.1 b 0 ∧ M'.1 a 1 = M.1 b 1 ∧ (∀ L, LawC M b L → LawC M' a L) ∧ (∀ j, M'.1 (a + 2) j = M.1 (b + 2) j)) (fun M' h1 h2 => hQ M' h1.1 h1.2.1 h1.2.2.1 h1.2.2.2 h2) ?_ (an_Law_become (Q := fun M' => Eqo (fp_Law_become a b) M M') (fun M1 h => h))
  unfold W_Law_become
  refine ⟨?_, ?_, fun L hL => ?_, fun j => ?_⟩
  · simp (disch := omega) only [wi_1n, wi_1e, cp0_1n, cp0_1e]
  · simp (disch := omega) only [wi_1n, wi_1e, cp0_1n, cp0_1e]
  · unfold LawC cT cfrom at *
    obtain ⟨l1, l2, l3, l4⟩ := hL
    refine ⟨?_, l2, fun j hj => ?_, fun k hk => ?_⟩
    · simp (disch := omega) only [wi_1n, wi_1e, cp0_1n, cp0_1e]
      exact l1
    · simp (disch := omega) only [wi_1n, wi_1e, cp0_1n, cp0_1e]
      exact l3 j hj
    · have e2 : ∀ i, 1 ≤ i → i ≤ 4 → (cpM (cpM (cpM (cpM (wi (wi (wi (wi (wi M a 0 (M.1 b 0)) a 1 ((wi M a 0 (M.1 b 0)).1 b 1)) a 2 ((wi (wi M a 0 (M.1 b 0)) a 1 ((wi M a 0 (M.1 b 0)).1 b 1)).1 b 2)) a 6 ((wi (wi (wi M a 0 (M.1 b 0)) a 1 ((wi M a 0 (M.1 b 0)).1 b 1)) a 2 ((wi (wi M a 0 (M.1 b 0)) a 1 ((wi M a 0 (M.1 b 0)).1 b 1)).1 b 2)).1 b 6)) a 8 ((wi (wi (wi (wi M a 0 (M.1 b 0)) a 1 ((wi M a 0 (M.1 b 0)).1 b 1)) a 2 ((wi (wi M a 0 (M.1 b 0)) a 1 ((wi M a 0 (M.1 b 0)).1 b 1)).1 b 2)) a 6 ((wi (wi (wi M a 0 (M.1 b 0)) a 1 ((wi M a 0 (M.1 b 0)).1 b 1)) a 2 ((wi (wi M a 0 (M.1 b 0)) a 1 ((wi M a 0 (M.1 b 0)).1 b 1)).1 b 2)).1 b 6)).1 b 8)) 0 (b + 1) (a + 1)) 0 (b + 2) (a + 2)) 0 (b + 3) (a + 3)) 0 (b + 4) (a + 4)).1 (a + i) = M.1 (b + i) := fun i h1 h2 => by
        funext j
        have : i = 1 ∨ i = 2 ∨ i = 3 ∨ i = 4 := by omega
        rcases this with rfl | rfl | rfl | rfl <;> simp (disch := omega) only [wi_1n, wi_1e, cp0_1n, cp0_1e]
      rw [e2 1 (by omega) (by omega), e2 2 (by omega) (by omega), e2 3 (by omega) (by omega), e2 4 (by omega) (by omega)]
      simp (disch := omega) only [wi_1n, wi_1e, cp0_1n, cp0_1e]
      exact l4 k hk
  · simp (disch := omega) only [wi_1n, wi_1e, cp0_1n, cp0_1e]
end LB
section AC5
variable {B : Int} {M : MM} {p q : Int32}
theorem GW_w {w w' : RW} (h : GW B w) (hw : ∀ k, k < 388 → w' k = w k) : GW B w' := ⟨WF_w h.1 hw, by rw [hw 2 (by omega)]; exact h.2.1, by rw [hw 2 (by omega), hw 1 (by omega)]; exact h.2.2⟩
theorem CW_g {M' : MM} {a : Nat} {w w' : RW} {s s' : RS} (h : CW M' a w s) (hg : GW B w) (hw : ∀ k, k < 388 → w' k = w k) (hs : ∀ c, c < 10 → s' c = s c) : CW M' a w' s' := CW_w h (nC_i hg.1).2.1 hg.1.2.1.2 hw hs
/-- undone -/
theorem a_undo (h : CP B M) {N : Nat} : W_E_undo N M (fun y M1 => ∀ N', W_m_undo N' M1 (fun b M2 => CP B M2 ∧ M2.1 190 0 = 0 ∧ y = b)) := by
  have h' := h
  obtain ⟨-, -, -, ⟨hc, hg⟩, m, hh, hm, hr, hi⟩ := h'
  unfold W_E_undo
  refine c_back hm (fun hm0 N' => ?_) (fun hmp M1 h1 h2 e1 N' => ?_)
  · unfold W_m_undo
    have e12 : (wi M 190 0 0).1 190 12 = 0 := by rw [wi_1n (by omega), hr.2.1, hm0]; rfl
    rw [e12]
    exact ⟨fun _ => ⟨CP_0 h 0, wi_1e, rfl⟩, fun h => absurd rfl h⟩
  · obtain ⟨m1, m2, m3⟩ := hr
    obtain ⟨m', rfl⟩ : ∃ m', m = m' + 1 := ⟨m - 1, by omega⟩
    have hh0 := m3 0 (by omega)
    have g0 := hi 0 (by omega)
    have e12 : M1.1 190 12 = i32 (m' + 1) := (eq1 e1 (b := 190) (k := 12) rfl).trans m2
    have e195 := eqb e1 (lo := 195) (hi := 195) rfl (Nat.le_refl _) (Nat.le_refl _)
    have e200 := eqb2 e1 (lo := 200) (hi := 200) rfl (Nat.le_refl _) (Nat.le_refl _)
    refine and_m_undo (Q1 := fun b M2 => Eqo fp_m_undo M1 M2) (Q2 := fun b M2 => b = 1 ∧ M2.1 190 0 = 0 ∧ M2.1 190 12 = i32 m' ∧ M2.1 195 = M.1 195 ∧ M2.2 200 = M.2 200 ∧ (∀ k, k < 388 → M2.1 191 k = (hh 0).1 k) ∧ ∀ c, c < 10 → M2.2 196 c = (hh 0).2 c) (fun b M2 e2 q => ?_) (an_m_undo (fun r M1 h => h)) ?_
    · obtain ⟨rfl, z0, z12, z195, z200, zw, zs⟩ := q
      refine ⟨CP_mk (m := m') (hh := fun i => hh (i + 1)) h (eqo_app e1 e2) rfl rfl rfl (CW_g (CW_eq h2 e2 rfl) g0 zw zs) (GW_w g0 zw) (CM_eq h1 e2 rfl) ⟨by omega, z12, fun i hi' => ?_⟩ (fun i hi' => hi (i + 1) (by omega)) (Int.le_refl _), z0, rfl⟩
      rw [z195, z200]
      have := m3 (i + 1) (by omega)
      rw [show m' + 1 - 1 - (i + 1) = m' - 1 - i by omega] at this
      exact this
    · unfold W_m_undo
      rw [show (wi M1 190 0 0).1 190 12 = i32 (m' + 1) from by rw [wi_1n (by omega)]; exact e12]
      rw [show i32 (m' + 1) - 1 = i32 m' from i32_sb m' 1, wi_1e, show (388 : Int32) * i32 m' = i32 (388 * m') from i32_m 388 m']
      refine ⟨fun hz => absurd ((i32_inj (j := m' + 1) (k := 0) (by omega) (by omega)).mp hz) (by omega), fun _ => ?_⟩
      refine sp_likens (R := 0) (by omega) (by omega) (Or.inl (by decide)) ?_
      have e2 : (lkM (wi (wi M1 190 0 0) 190 12 (i32 m')) 195 (388 * m') 191 0 388).1 190 12 = i32 m' := by
        unfold lkM
        dsimp only
        rw [if_neg (by omega), wi_1e]
      rw [e2, show (10 : Int32) * i32 m' = i32 (10 * m') from i32_m 10 m']
      refine sp_likensS (R := 0) (by omega) (by omega) (Or.inl (by decide)) ?_
      refine ⟨rfl, ?_, e2, ?_, ?_, fun k hk => ?_, fun c hc => ?_⟩
      · show (lkM (wi (wi M1 190 0 0) 190 12 (i32 m')) 195 (388 * m') 191 0 388).1 190 0 = 0
        unfold lkM
        dsimp only
        rw [if_neg (by omega), wi_1n (by omega), wi_1e]
      · rw [← e195]
        funext j
        show (lkM (wi (wi M1 190 0 0) 190 12 (i32 m')) 195 (388 * m') 191 0 388).1 195 j = _
        unfold lkM
        dsimp only
        rw [if_neg (by omega), wi_1n (by omega), wi_1n (by omega)]
      · rw [← e200]
        funext j
        unfold lkS
        dsimp only
        rw [if_neg (by omega)]
        rfl
      · show (lkM (wi (wi M1 190 0 0) 190 12 (i32 m')) 195 (388 * m') 191 0 388).1 191 k = _
        unfold lkM
        dsimp only
        rw [if_pos (by omega), wi_1n (by omega), wi_1n (by omega), e195, show 388 * m' + (k - 0) = 388 * (m' + 1 - 1 - 0) + k by omega]
        exact hh0.1 k hk
      · unfold lkS
        dsimp only
        rw [if_pos (by omega)]
        show M1.2 200 (10 * m' + (c - 0)) = _
        rw [e200, show 10 * m' + (c - 0) = 10 * (m' + 1 - 1 - 0) + c by omega]
        exact hh0.2 c hc
/-- the image -/
theorem a_image (h : CP B M) {N : Nat} : W_E_image N M (fun M1 => ∀ N', W_m_image N' M1 (fun M2 => CP B M2 ∧ M2.1 190 0 = 0)) := by
  obtain ⟨hT, hF, ⟨L, hL, hR, hTL, hI⟩, ⟨hc, hg⟩, m, hh, hm, hr, hi⟩ := h
  refine and_E_image (Q1 := fun M1 => Eqo fp_E_image M M1) (Q2 := fun M1 => M1.1 173 0 = M.1 8 0 ∧ M1.1 173 1 = M.1 8 1 ∧ LawC M1 173 L ∧ (∀ j, M1.1 175 j = M.1 10 j) ∧ CW M1 178 (M.1 191) (M.2 196) ∧ M1.1 0 14 = 1) (fun M1 e1 q N' => ?_) (an_E_image (fun M1 h => h)) ?_
  · obtain ⟨q0, q1, q2, q3, q4, q5⟩ := q
    have a191 := eqb e1 (lo := 191) (hi := 191) rfl (Nat.le_refl _) (Nat.le_refl _)
    have a196 := eqb2 e1 (lo := 196) (hi := 196) rfl (Nat.le_refl _) (Nat.le_refl _)
    refine and_m_image (Q1 := fun M2 => Eqo fp_m_image M1 M2) (Q2 := fun M2 => M2.1 190 0 = 0 ∧ M2.1 190 16 = M.1 190 15 ∧ M2.1 190 11 = 1 ∧ (∀ k, k < 388 → M2.1 192 k = M.1 191 k) ∧ ∀ c, c < 10 → M2.2 197 c = M.2 196 c) (fun M2 e2 z => ?_) (an_m_image (fun M1 h => h)) ?_
    · obtain ⟨z0, z16, z11, zw, zs⟩ := z
      have e := eqo_app e1 e2
      refine ⟨⟨TP_fr hT e rfl, by rw [eq1 e (b := 0) (k := 15) rfl, eq1 e (b := 190) (k := 23) rfl]; exact hF, ⟨L, LawC_eq hL e rfl, LawR_eq hR e rfl, TLD_eq hTL e rfl, ?_⟩, WLD_eq ⟨hc, hg⟩ e rfl, m, hh, CM_eq hm e rfl, RMm_eq hr e rfl, hi⟩, z0⟩
      refine ⟨by rw [eq1 e2 (b := 0) (k := 14) rfl, q5, z11], Or.inr ⟨z11, CW_g (CW_eq q4 e2 rfl) hg zw zs, GW_w hg zw, ?_⟩⟩
      unfold IML
      rw [eq1 e (b := 190) (k := 15) rfl, z16, eq1 e2 (b := 173) (k := 0) rfl, eq1 e2 (b := 173) (k := 1) rfl, q0, q1, eqb e2 (lo := 175) (hi := 175) rfl (Nat.le_refl _) (Nat.le_refl _)]
      rcases hTL with ⟨t1, t2, t3⟩ | ⟨t1, t2⟩
      · refine Or.inl ⟨t1, t2, ?_, fun j hj => by rw [q3]; exact hL.2.2.1 j (by omega)⟩
        rw [hL.1, t3]
        rfl
      · exact Or.inr ⟨t1, t1, t2, LawC_eq q2 e2 rfl⟩
    · unfold W_m_image
      refine sp_likens (P := 0) (R := 0) (by omega) (by omega) (Or.inl (by decide)) ?_
      refine sp_likensS (P := 0) (R := 0) (by omega) (by omega) (Or.inl (by decide)) ?_
      refine ⟨?_, ?_, wi_1e, fun k hk => ?_, fun c hc => ?_⟩
      · rw [wi_1n (by omega), wi_1n (by omega)]
        show (lkM (wi M1 190 0 0) 191 0 192 0 388).1 190 0 = 0
        unfold lkM
        dsimp only
        rw [if_neg (by omega), wi_1e]
      · rw [wi_1n (by omega), wi_1e]
        show (lkM (wi M1 190 0 0) 191 0 192 0 388).1 190 15 = _
        unfold lkM
        dsimp only
        rw [if_neg (by omega), wi_1n (by omega)]
        exact eq1 e1 (b := 190) (k := 15) rfl
      · rw [wi_1n (by omega), wi_1n (by omega)]
        show (lkM (wi M1 190 0 0) 191 0 192 0 388).1 192 k = _
        unfold lkM
        dsimp only
        rw [if_pos (by omega), wi_1n (by omega), a191, show 0 + (k - 0) = k by omega]
      · show (lkS (lkM (wi M1 190 0 0) 191 0 192 0 388) 196 0 197 0 10).2 197 c = _
        unfold lkS
        dsimp only
        rw [if_pos (by omega)]
        show M1.2 196 (0 + (c - 0)) = _
        rw [a196, show 0 + (c - 0) = c by omega]
  · unfold W_E_image
    refine sp_lawb (Or.inr (by omega)) (fun M2 l0 l1 l2 l3 le => ?_)
    refine sp_become (w := M.1 191) (s := M.2 196) (Or.inr (by omega)) (CW_eq hc le rfl) (fun M4 h4 e4 => ?_)
    have e0 : ∀ b j, b < 178 → M4.1 b j = M2.1 b j := fun b j hb => (e4 b j (fpb_out (by omega))).1
    refine ⟨?_, ?_, ?_, fun j => ?_, ?_, wi_1e⟩
    · rw [wi_1n (by omega), e0 _ _ (by omega), l0]
    · rw [wi_1n (by omega), e0 _ _ (by omega), l1]
    · have lf : LawC M4 173 L := LawC_fr (fun i hi => by funext j; exact e0 _ _ (by omega)) (l2 L hL)
      exact LawC_fr (fun i hi => by funext j; exact wi_1n (by omega)) lf
    · rw [wi_1n (by omega), e0 _ _ (by omega)]
      exact l3 j
    · exact CW_eq h4 (eqo_1 (a := 0) (k := 14) (x := 1)) rfl
/-- back to the image -/
theorem a_back (h : CP B M) {N : Nat} : W_E_back N M (fun y M1 => ∀ N', W_m_back N' M1 (fun b M2 => CP B M2 ∧ M2.1 190 0 = 0 ∧ y = b)) := by
  have h' := h
  obtain ⟨hT, hF, ⟨L, hL, hR, hTL, hI⟩, ⟨hc, hg⟩, m, hh, hm, hr, hi⟩ := h'
  have e11 : (wi M 190 0 0).1 190 11 = M.1 190 11 := wi_1n (by omega)
  by_cases him : M.1 0 14 = 0
  · unfold W_E_back
    refine ⟨fun _ N' => ?_, fun h => absurd him h⟩
    unfold W_m_back
    rw [e11, ← hI.1, him]
    exact ⟨fun _ => ⟨CP_0 h 0, wi_1e, rfl⟩, fun h => absurd rfl h⟩
  · obtain ⟨i1, i2, i3, i4⟩ : M.1 190 11 = 1 ∧ CW M 178 (M.1 192) (M.2 197) ∧ GW B (M.1 192) ∧ IML M L := by
      rcases hI.2 with h | h
      · exact absurd (hI.1.trans h) him
      · exact h
    refine and_E_back (Q1 := fun y M1 => Eqo fp_E_back M M1) (Q2 := fun y M1 => y = 1 ∧ M1.1 8 0 = M.1 173 0 ∧ M1.1 8 1 = M.1 173 1 ∧ (∀ L, LawC M 173 L → LawC M1 8 L) ∧ (∀ j, M1.1 10 j = M.1 175 j) ∧ CW M1 18 (M.1 192) (M.2 197) ∧ M1.1 44 2 = 0 ∧ M1.1 44 1 = M.1 44 1) (fun y M1 e1 q N' => ?_) (an_E_back (fun r M1 h => h)) ?_
    · obtain ⟨rfl, q0, q1, q2, q3, q4, q5, q6⟩ := q
      have a192 := eqb e1 (lo := 192) (hi := 192) rfl (Nat.le_refl _) (Nat.le_refl _)
      have a197 := eqb2 e1 (lo := 197) (hi := 197) rfl (Nat.le_refl _) (Nat.le_refl _)
      refine and_m_back (Q1 := fun b M2 => Eqo fp_m_back M1 M2) (Q2 := fun b M2 => b = 1 ∧ M2.1 190 0 = 0 ∧ M2.1 190 15 = M.1 190 16 ∧ M2.1 190 12 = 0 ∧ (∀ k, k < 388 → M2.1 191 k = M.1 192 k) ∧ ∀ c, c < 10 → M2.2 196 c = M.2 197 c) (fun b M2 e2 z => ?_) (an_m_back (fun r M1 h => h)) ?_
      · obtain ⟨rfl, z0, z15, z12, zw, zs⟩ := z
        have e := eqo_app e1 e2
        have hW : WLD B M2 := ⟨CW_g (CW_eq q4 e2 rfl) i3 zw zs, GW_w i3 zw⟩
        have hMm : MEM B M2 := ⟨0, hh, ⟨by omega, by rw [eq1 e2 (b := 44) (k := 2) rfl, q5]; rfl, by rw [eq1 e2 (b := 44) (k := 1) rfl, q6]; exact hm.2.2.1, fun i hi => by omega⟩, ⟨by omega, by rw [z12]; rfl, fun i hi => by omega⟩, fun i hi => by omega⟩
        have c192 := eqb e (lo := 192) (hi := 192) rfl (Nat.le_refl _) (Nat.le_refl _)
        have c197 := eqb2 e (lo := 197) (hi := 197) rfl (Nat.le_refl _) (Nat.le_refl _)
        have g0 : M2.1 0 14 = M2.1 190 11 := by rw [eq1 e (b := 0) (k := 14) rfl, eq1 e (b := 190) (k := 11) rfl]; exact hI.1
        have g1 : M2.1 190 11 = 1 := by rw [eq1 e (b := 190) (k := 11) rfl]; exact i1
        have g2 : CW M2 178 (M2.1 192) (M2.2 197) := by rw [c192, c197]; exact CW_eq i2 e rfl
        have g3 : GW B (M2.1 192) := by rw [c192]; exact i3
        have k0 : M2.1 8 0 = M.1 173 0 := (eq1 e2 (b := 8) (k := 0) rfl).trans q0
        have k1 : M2.1 8 1 = M.1 173 1 := (eq1 e2 (b := 8) (k := 1) rfl).trans q1
        have k16 := eq1 e (b := 190) (k := 16) rfl
        have k173 := eq1 e (b := 173) (k := 0) rfl
        have k173' := eq1 e (b := 173) (k := 1) rfl
        have k175 := eqb e (lo := 175) (hi := 175) rfl (Nat.le_refl _) (Nat.le_refl _)
        refine ⟨⟨TP_fr hT e rfl, by rw [eq1 e (b := 0) (k := 15) rfl, eq1 e (b := 190) (k := 23) rfl]; exact hF, ?_, hW, hMm⟩, z0, rfl⟩
        rcases i4 with ⟨t1, t2, t3, t4⟩ | ⟨t1, t2, t3, t4⟩
        · refine ⟨(0, L.2), ⟨by rw [k1, t3]; rfl, by show 0 ≤ 12; omega, fun j hj => ?_, fun k hk => absurd hk (by show ¬ k < 0; omega)⟩, ⟨by show 0 ≤ 12; omega, fun k hk => absurd hk (by show ¬ k < 0; omega)⟩, Or.inl ⟨z15.trans t1, k0.trans t2, rfl⟩, g0, Or.inr ⟨g1, g2, g3, Or.inl ⟨k16.trans t1, k173.trans t2, k173'.trans t3, fun j hj => by rw [k175]; exact t4 j hj⟩⟩⟩
          rw [show M2.1 (8 + 2) j = M.1 175 j from by rw [eqb e2 (lo := 10) (hi := 10) rfl (b := 8 + 2) (by omega) (by omega)]; exact q3 j]
          exact t4 j hj
        · exact ⟨L, LawC_eq (q2 L t4) e2 rfl, LawR_eq hR e rfl, Or.inr ⟨z15.trans t1, k0.trans t3⟩, g0, Or.inr ⟨g1, g2, g3, Or.inr ⟨k16.trans t1, z15.trans t1, k173.trans t3, LawC_eq t4 e rfl⟩⟩⟩
      · unfold W_m_back
        rw [show (wi M1 190 0 0).1 190 11 = 1 from by rw [wi_1n (by omega), eq1 e1 (b := 190) (k := 11) rfl]; exact i1]
        refine ⟨fun h => absurd h (by decide), fun _ => ?_⟩
        refine sp_likens (P := 0) (R := 0) (by omega) (by omega) (Or.inl (by decide)) ?_
        refine sp_likensS (P := 0) (R := 0) (by omega) (by omega) (Or.inl (by decide)) ?_
        refine ⟨rfl, ?_, ?_, wi_1e, fun k hk => ?_, fun c hc => ?_⟩
        · rw [wi_1n (by omega), wi_1n (by omega)]
          show (lkM (wi M1 190 0 0) 192 0 191 0 388).1 190 0 = 0
          unfold lkM
          dsimp only
          rw [if_neg (by omega), wi_1e]
        · rw [wi_1n (by omega), wi_1e]
          show (lkM (wi M1 190 0 0) 192 0 191 0 388).1 190 16 = _
          unfold lkM
          dsimp only
          rw [if_neg (by omega), wi_1n (by omega)]
          exact eq1 e1 (b := 190) (k := 16) rfl
        · rw [wi_1n (by omega), wi_1n (by omega)]
          show (lkM (wi M1 190 0 0) 192 0 191 0 388).1 191 k = _
          unfold lkM
          dsimp only
          rw [if_pos (by omega), wi_1n (by omega), a192, show 0 + (k - 0) = k by omega]
        · show (lkS (lkM (wi M1 190 0 0) 192 0 191 0 388) 197 0 196 0 10).2 196 c = _
          unfold lkS
          dsimp only
          rw [if_pos (by omega)]
          show M1.2 197 (0 + (c - 0)) = _
          rw [a197, show 0 + (c - 0) = c by omega]
    · unfold W_E_back
      refine ⟨fun h => absurd h him, fun _ => ?_⟩
      refine sp_lawb (Or.inl (by omega)) (fun M2 l0 l1 l2 l3 le => ?_)
      refine sp_become (w := M.1 192) (s := M.2 197) (Or.inl (by omega)) (CW_eq i2 le rfl) (fun M4 h4 e4 => ?_)
      unfold W_Memory_forget
      have e0 : ∀ b j, b < 18 ∨ 29 < b → M4.1 b j = M2.1 b j := fun b j hb => (e4 b j (fpb_out (by omega))).1
      refine ⟨rfl, ?_, ?_, fun L' hL' => ?_, fun j => ?_, ?_, wi_1e, ?_⟩
      · rw [wi_1n (by omega), e0 _ _ (by omega), l0]
      · rw [wi_1n (by omega), e0 _ _ (by omega), l1]
      · have lf : LawC M4 8 L' := LawC_fr (fun i hi => by funext j; exact e0 _ _ (by omega)) (l2 L' hL')
        exact LawC_wi (by omega) lf
      · rw [wi_1n (by omega), e0 _ _ (by omega)]
        exact l3 j
      · exact CW_44 h4 (by omega) (by omega)
      · rw [wi_1n (by omega), e0 _ _ (by omega), eq1 le (b := 44) (k := 1) rfl]
end AC5
end
section
/-! ACTS: a baby -/
def babS (w : RW) (c : Nat) : RW := fun j => if j = 0 then w 0 + 1 else if 18 + 13 * nC w ≤ j ∧ j < 18 + 13 * nC w + 13 then (if j = 18 + 13 * nC w + 1 then 0 else if j = 18 + 13 * nC w + 3 then 0 else if j = 18 + 13 * nC w + 4 then -1 else if j = 18 + 13 * nC w + 6 then 0 else cl w c (j - (18 + 13 * nC w))) else w j
section BB
variable {w : RW} {s : RS} {c : Nat}
theorem bab_o {c' i : Nat} (hc : c' ≠ nC w) (hi : i < 13) : cl (babS w c) c' i = cl w c' i := by
  unfold cl babS
  rw [if_neg (by omega), if_neg (by omega)]
theorem bab_n {i : Nat} (hi : i < 13) : cl (babS w c) (nC w) i = if i = 1 then 0 else if i = 3 then 0 else if i = 4 then -1 else if i = 6 then 0 else cl w c i := by
  show babS w c (18 + 13 * nC w + i) = _
  unfold babS
  rw [if_neg (by omega), if_pos (by omega), show 18 + 13 * nC w + i - (18 + 13 * nC w) = i by omega]
  by_cases h1 : i = 1
  · rw [if_pos (by omega), if_pos h1]
  · rw [if_neg (by omega), if_neg h1]
    by_cases h3 : i = 3
    · rw [if_pos (by omega), if_pos h3]
    · rw [if_neg (by omega), if_neg h3]
      by_cases h4 : i = 4
      · rw [if_pos (by omega), if_pos h4]
      · rw [if_neg (by omega), if_neg h4]
        by_cases h6 : i = 6
        · rw [if_pos (by omega), if_pos h6]
        · rw [if_neg (by omega), if_neg h6]
theorem bab_k {k : Nat} (hk : k < 18) (h0 : k ≠ 0) : babS w c k = w k := by
  unfold babS
  rw [if_neg h0, if_neg (by omega)]
theorem bab_l {k : Nat} (hn : nC w < 10) (hk : 148 ≤ k) : babS w c k = w k := by
  unfold babS
  rw [if_neg (by omega), if_neg (by omega)]
theorem bab_0 (hw : WF w) : babS w c 0 = i32 (nC w + 1) ∧ nC (babS w c) = nC w + 1 := by
  obtain ⟨e0, hn, ei⟩ := nC_i hw
  have e : babS w c 0 = i32 (nC w + 1) := by
    show w 0 + 1 = _
    rw [← i32_s, ← ei]
  refine ⟨e, ?_⟩
  show ni (babS w c 0) = _
  rw [e, ni_i (by omega)]
theorem bab_W (hw : WF w) (hc : c < nC w) (hn : nC w < 10) : WF (babS w c) := by
  obtain ⟨e0, -, ei⟩ := nC_i hw
  obtain ⟨b0, b1⟩ := bab_0 (c := c) hw
  obtain ⟨g0, g6, g8, gc⟩ := hw
  have et : (babS w c 0).toInt = nC w + 1 := by rw [b0, i32_i (by omega)]; omega
  refine ⟨by omega, by rw [bab_k (by omega) (by omega)]; exact g6, by rw [bab_k (by omega) (by omega)]; exact g8, fun c' hc' => ?_⟩
  rw [b1] at hc'
  by_cases e : c' = nC w
  · subst e
    obtain ⟨c1, c2, c3, c4, c5, c6⟩ := gc c hc
    refine ⟨?_, ?_, ?_, ?_, ?_, fun k hk hl => ?_⟩
    · rw [bab_n (by omega)]; exact c1
    · rw [bab_n (by omega)]; show 0 ≤ (0 : Int32).toInt; decide
    · rw [bab_n (by omega)]; exact Or.inl rfl
    · rw [bab_n (by omega)]; exact c4
    · rw [bab_n (by omega), bab_n (i := 5) (by omega)]
      show 0 ≤ (0 : Int32).toInt ∧ (0 : Int32).toInt < (cl w c 5).toInt
      rw [show (0 : Int32).toInt = 0 from rfl]
      omega
    · rw [bab_n (by omega)] at hl
      rw [bab_n (by omega), if_neg (by omega), if_neg (by omega), if_neg (by omega), if_neg (by omega)]
      exact c6 k hk hl
  · obtain ⟨c1, c2, c3, c4, c5, c6⟩ := gc c' (by omega)
    refine ⟨by rw [bab_o e (by omega)]; exact c1, by rw [bab_o e (by omega)]; exact c2, by rw [bab_o e (by omega), et]; exact c3.imp_right (fun hh => ⟨hh.1, by omega⟩), by rw [bab_o e (by omega)]; exact c4, by rw [bab_o e (by omega), bab_o e (by omega)]; exact c5, fun k hk hl => ?_⟩
    rw [bab_o e (by omega)] at hl
    rw [bab_o e (by omega)]
    exact c6 k hk hl
end BB
def hbM (M : MM) (a n : Nat) (f : Nat → Int32) (k : Nat) : MM := (fun b j => if b = a + 5 ∧ 6 * n ≤ j ∧ j < 6 * n + k then f (j - 6 * n) else if b = a + 6 ∧ j = n then i32 k else M.1 b j, M.2)
theorem hbM_0 {M : MM} {a n : Nat} {f : Nat → Int32} (h : M.1 (a + 6) n = 0) : hbM M a n f 0 = M := by
  unfold hbM
  apply Prod.ext
  · funext b j
    dsimp only
    rw [if_neg (by omega)]
    by_cases e : b = a + 6 ∧ j = n
    · rw [if_pos e, e.1, e.2, h]; rfl
    · rw [if_neg e]
  · rfl
theorem hbM_s {M : MM} {a n k : Nat} {f : Nat → Int32} : wi (wi (hbM M a n f k) (a + 5) (6 * n + k) (f k)) (a + 6) n (i32 (k + 1)) = hbM M a n f (k + 1) := by
  unfold wi hbM up
  apply Prod.ext
  · funext b j
    dsimp only
    by_cases e6 : b = a + 6 ∧ j = n
    · rw [if_pos e6, if_neg (by omega), if_pos e6]
    · rw [if_neg e6]
      by_cases e5 : b = a + 5 ∧ j = 6 * n + k
      · rw [if_pos e5, if_pos (by omega), e5.2, show 6 * n + k - 6 * n = k by omega]
      · rw [if_neg e5]
        by_cases e : b = a + 5 ∧ 6 * n ≤ j ∧ j < 6 * n + k
        · rw [if_pos e, if_pos (by omega)]
        · rw [if_neg e, if_neg e6, if_neg (by omega), if_neg e6]
  · rfl
section BC
variable {a c N : Nat} {M : MM} {w : RW} {s : RS}
theorem c_bear {Q : Int32 → MM → Prop} (h : CW M a w s) (hw : WF w) (hc : c < nC w) (hal : alv w c = true) (hn : nC w < 10) (hQ : ∀ M', CW M' a (babS w c) (us s (nC w) (Int64.ofNat 0)) → Eqo (fp_World_bear a) M M' → Q (w 0) M') : W_World_bear a (i32 c) N M Q := by
  obtain ⟨e0, -, ei⟩ := nC_i hw
  refine and_World_bear (Q1 := fun r M' => r = w 0 ∧ CW M' a (babS w c) (us s (nC w) (Int64.ofNat 0))) (fun r M' h1 h2 => by rw [h1.1]; exact hQ M' h1.2 h2) ?_ (an_World_bear (Q := fun r M' => Eqo (fp_World_bear a) M M') (fun r M1 h => h))
  unfold W_World_bear W_World_addCitizen
  have hcc := h.2.2.2.1 c hc
  have hlen := (hw.2.2.2 c hc).2.2.2.1
  rw [h.1.1, ni_i (show c < 2147483648 by omega), hcc.2.1, ei]
  refine ⟨fun _ => ?_, fun hbad => absurd ((i32_lt (k := 10) (by omega) (by omega)).mpr hn) hbad⟩
  refine ⟨fun hneg => ?_, fun _ => ?_⟩
  · have := i32_i (j := nC w) (by omega)
    rw [hneg] at this
    rw [show ((-1 : Int32)).toInt = -1 from rfl] at this
    omega
  rw [wi_1n (by omega), h.2.2.1, ni_i (show nC w < 2147483648 by omega), i32_s]
  generalize hM2 : (wj (wi (wi (wi (wi (wi (wi (wi (wi M a 0 (i32 (nC w + 1))) a 1 (bs (alv w) (nC w) ||| sl 1 (i32 (nC w)))) (a + 1) (nC w) 0) (a + 2) (nC w) (cl w c 2)) (a + 3) (nC w) 0) (a + 4) (nC w) (-1)) (a + 6) (nC w) 0) (a + 7) (nC w) 0) (a + 8) (nC w) (Int64.ofNat 0)) = M2
  have z6 : M2.1 (a + 6) (nC w) = 0 := by
    rw [← hM2, wj_1, wi_1n (by omega), wi_1e]
  have f6 : M2.1 (a + 6) c = cl w c 5 := by
    rw [← hM2]
    simp (disch := omega) only [wj_1, wi_1n]
    exact hcc.2.2.2.2.1
  have f5 : ∀ k : Nat, k < 6 → (k : Int) < (cl w c 5).toInt → M2.1 (a + 5) (6 * c + k) = cl w c (7 + k) := fun k hk hl => by
    rw [← hM2]
    simp (disch := omega) only [wj_1, wi_1n]
    exact hcc.2.2.2.2.2.2.1 k hk hl
  have b5 : ((ni (cl w c 5) : Nat) : Int) = (cl w c 5).toInt := by unfold ni; omega
  have e5 := i32_ni (x := cl w c 5) (by omega)
  refine I_World_bear_18 a _ _ _ (fun v M' => ∃ k, k ≤ ni (cl w c 5) ∧ v = i32 k ∧ M' = hbM M2 a (nC w) (fun k => cl w c (7 + k)) k) (fun N ih v M' hih hv => ?_) N _ _ ⟨0, by omega, rfl, (hbM_0 z6).symm⟩
  obtain ⟨k, hk, rfl, rfl⟩ := hv
  unfold B_World_bear_18
  have g6 : (hbM M2 a (nC w) (fun k => cl w c (7 + k)) k).1 (a + 6) c = cl w c 5 := by
    unfold hbM
    dsimp only
    rw [if_neg (by omega), if_neg (by omega)]
    exact f6
  have hlt' : (i32 k < cl w c 5) ↔ k < ni (cl w c 5) := by
    have := i32_lt (j := k) (k := ni (cl w c 5)) (by omega) (by omega)
    rw [← e5] at this
    exact this
  rw [ni_i (show c < 2147483648 by omega), g6, hlt']
  refine ⟨fun hlt => ?_, fun hlt => ?_⟩
  · unfold W_World_addToHabit V_World_matterAt
    rw [ni_i (show nC w < 2147483648 by omega)]
    have gn : (hbM M2 a (nC w) (fun k => cl w c (7 + k)) k).1 (a + 6) (nC w) = i32 k := by
      unfold hbM
      dsimp only
      rw [if_neg (by omega), if_pos ⟨rfl, rfl⟩]
    have gx : ni (i32 c * 6 + i32 k) = 6 * c + k := by
      rw [show i32 c * 6 = i32 (c * 6) from i32_m c 6, i32_a, ni_i (by omega)]
      omega
    have gy : ni (i32 (nC w) * 6 + i32 k) = 6 * nC w + k := by
      rw [show i32 (nC w) * 6 = i32 (nC w * 6) from i32_m _ 6, i32_a, ni_i (by omega)]
      omega
    have gm : (hbM M2 a (nC w) (fun k => cl w c (7 + k)) k).1 (a + 5) (6 * c + k) = cl w c (7 + k) := by
      unfold hbM
      dsimp only
      rw [if_neg (by omega), if_neg (by omega)]
      exact f5 k (by omega) (by omega)
    rw [gn, gx, gy, gm]
    have gn2 : (wi (hbM M2 a (nC w) (fun k => cl w c (7 + k)) k) (a + 5) (6 * nC w + k) (cl w c (7 + k))).1 (a + 6) (nC w) = i32 k := by rw [wi_1n (by omega)]; exact gn
    rw [gn2, i32_s, hbM_s (f := fun k => cl w c (7 + k))]
    refine ⟨fun _ => hih _ _ ⟨k + 1, by omega, rfl, rfl⟩, fun hbad => absurd ((i32_lt (k := 6) (by omega) (by omega)).mpr (by omega)) hbad⟩
  · obtain rfl : k = ni (cl w c 5) := by omega
    refine ⟨rfl, ?_⟩
    have r1 : ∀ b j, ¬ b = a + 5 → ¬ (b = a + 6 ∧ j = nC w) → (hbM M2 a (nC w) (fun k => cl w c (7 + k)) (ni (cl w c 5))).1 b j = M2.1 b j := fun b j q1 q2 => by
      unfold hbM
      dsimp only
      rw [if_neg (by omega), if_neg q2]
    have r5o : ∀ j, j < 6 * nC w → (hbM M2 a (nC w) (fun k => cl w c (7 + k)) (ni (cl w c 5))).1 (a + 5) j = M2.1 (a + 5) j := fun j hj => by
      unfold hbM
      dsimp only
      rw [if_neg (by omega), if_neg (by omega)]
    have r2 : (hbM M2 a (nC w) (fun k => cl w c (7 + k)) (ni (cl w c 5))).2 = M2.2 := rfl
    obtain ⟨b0, b1⟩ := bab_0 (c := c) hw
    obtain ⟨⟨a0, a1, a2, a3, a4, a5, a6, a7, a8⟩, q1, q2, q3, q4, q5, q6⟩ := h
    refine ⟨⟨?_, ?_, ?_, ?_, ?_, ?_, ?_, ?_, ?_⟩, fun d hd => ?_, ?_, fun c' hc' => ?_, ?_, ?_, fun k q hk hl hq => ?_⟩
    · rw [r1 _ _ (by omega) (by omega), ← hM2, b0]
      simp (disch := omega) only [wj_1, wi_1n, wi_1e]
    · rw [r1 _ _ (by omega) (by omega), ← hM2, bab_k (by omega) (by omega)]
      simp (disch := omega) only [wj_1, wi_1n]
      exact a1
    · rw [r1 _ _ (by omega) (by omega), ← hM2, bab_k (by omega) (by omega)]
      simp (disch := omega) only [wj_1, wi_1n]
      exact a2
    · rw [r1 _ _ (by omega) (by omega), ← hM2, bab_k (by omega) (by omega)]
      simp (disch := omega) only [wj_1, wi_1n]
      exact a3
    · rw [r1 _ _ (by omega) (by omega), ← hM2, bab_k (by omega) (by omega)]
      simp (disch := omega) only [wj_1, wi_1n]
      exact a4
    · rw [r1 _ _ (by omega) (by omega), ← hM2, bab_k (by omega) (by omega)]
      simp (disch := omega) only [wj_1, wi_1n]
      exact a5
    · rw [r1 _ _ (by omega) (by omega), ← hM2, bab_k (by omega) (by omega)]
      simp (disch := omega) only [wj_1, wi_1n]
      exact a6
    · rw [r1 _ _ (by omega) (by omega), ← hM2, bab_k (by omega) (by omega)]
      simp (disch := omega) only [wj_1, wi_1n]
      exact a7
    · rw [r1 _ _ (by omega) (by omega), ← hM2, bab_k (by omega) (by omega)]
      simp (disch := omega) only [wj_1, wi_1n]
      exact a8
    · rw [r1 _ _ (by omega) (by omega), ← hM2, bab_k (by omega) (by omega)]
      simp (disch := omega) only [wj_1, wi_1n]
      exact q1 d hd
    · rw [r1 _ _ (by omega) (by omega), ← hM2, b1, bs_s]
      simp (disch := omega) only [wj_1, wi_1n, wi_1e]
      rw [if_pos (by unfold alv; rw [bab_n (by omega)]; exact hal), bs_congr (P := alv (babS w c)) (P' := alv w) (fun k hk => by unfold alv; rw [bab_o (by omega) (by omega)])]
    · rw [b1] at hc'
      by_cases e : c' = nC w
      · subst e
        refine ⟨?_, ?_, ?_, ?_, ?_, ?_, fun k hk hl => ?_, ?_⟩
        · rw [r1 _ _ (by omega) (by omega), ← hM2, bab_n (by omega)]
          simp (disch := omega) only [wj_1, wi_1n, wi_1e]
          rfl
        · rw [r1 _ _ (by omega) (by omega), ← hM2, bab_n (by omega)]
          simp (disch := omega) only [wj_1, wi_1n, wi_1e]
          rfl
        · rw [r1 _ _ (by omega) (by omega), ← hM2, bab_n (by omega)]
          simp (disch := omega) only [wj_1, wi_1n, wi_1e]
          rfl
        · rw [r1 _ _ (by omega) (by omega), ← hM2, bab_n (by omega)]
          simp (disch := omega) only [wj_1, wi_1n, wi_1e]
          rfl
        · rw [bab_n (by omega)]
          show (hbM M2 a (nC w) (fun k => cl w c (7 + k)) (ni (cl w c 5))).1 (a + 6) (nC w) = cl w c 5
          unfold hbM
          dsimp only
          rw [if_neg (by omega), if_pos ⟨rfl, rfl⟩]
          exact e5.symm
        · rw [r1 _ _ (by omega) (by omega), ← hM2, bab_n (by omega)]
          simp (disch := omega) only [wj_1, wi_1n, wi_1e]
          rfl
        · rw [bab_n (by omega)] at hl
          rw [bab_n (by omega), if_neg (by omega), if_neg (by omega), if_neg (by omega), if_neg (by omega)]
          have hl' : (k : Int) < (cl w c 5).toInt := hl
          unfold hbM
          dsimp only
          rw [if_pos (by omega), show 6 * nC w + k - 6 * nC w = k by omega]
        · rw [r2, ← hM2, wj_2e]
          unfold us
          rw [if_pos rfl]
      · have hcl : c' < nC w := by omega
        refine CWc_fr (q3 c' hcl) (fun i hi => ?_) (fun k hk => ?_) ?_ (fun i hi => bab_o (by omega) hi) ?_
        · rw [r1 _ _ (by omega) (by omega), ← hM2]
          simp (disch := omega) only [wj_1, wi_1n]
        · rw [r5o _ (by omega), ← hM2]
          simp (disch := omega) only [wj_1, wi_1n]
        · rw [r2, ← hM2, wj_2n (by omega)]
          rfl
        · unfold us
          rw [if_neg e]
    · rw [r1 _ _ (by omega) (by omega), ← hM2, bab_k (by omega) (by omega)]
      simp (disch := omega) only [wj_1, wi_1n]
      exact q4
    · rw [r1 _ _ (by omega) (by omega), ← hM2]
      simp (disch := omega) only [wj_1, wi_1n]
      exact q5
    · rw [bab_k (by omega) (by omega)] at hl
      rw [r1 _ _ (by omega) (by omega), r1 _ _ (by omega) (by omega), ← hM2, bab_l hn (by omega)]
      simp (disch := omega) only [wj_1, wi_1n]
      exact q6 k q hk hl hq
end BC
end
section
/-! ACTS: a baby on both sides -/
def cpR (w : RW) (c n k : Nat) : RW := fun j => if 18 + 13 * n ≤ j ∧ j < 18 + 13 * n + k then cl w c (j - (18 + 13 * n)) else w j
theorem cpR_0 {w : RW} {c n : Nat} : cpR w c n 0 = w := by
  funext j
  unfold cpR
  rw [if_neg (by omega)]
theorem cpR_s {w : RW} {c n k : Nat} : up1 (cpR w c n k) (18 + 13 * n + k) (cl w c k) = cpR w c n (k + 1) := by
  funext j
  unfold up1 cpR
  by_cases e : j = 18 + 13 * n + k
  · rw [if_pos e, if_pos (by omega), e, show 18 + 13 * n + k - (18 + 13 * n) = k by omega]
  · rw [if_neg e]
    by_cases e2 : 18 + 13 * n ≤ j ∧ j < 18 + 13 * n + k
    · rw [if_pos e2, if_pos (by omega)]
    · rw [if_neg e2, if_neg (by omega)]
theorem cpR_e {w : RW} {c : Nat} : up1 (up1 (up1 (up1 (up1 (cpR w c (nC w) 13) (18 + 13 * nC w + 1) 0) (18 + 13 * nC w + 3) 0) (18 + 13 * nC w + 4) (-1)) (18 + 13 * nC w + 6) 0) 0 (w 0 + 1) = babS w c := by
  funext j
  unfold up1 cpR babS
  by_cases e0 : j = 0
  · rw [if_pos e0, if_pos e0]
  · rw [if_neg e0, if_neg e0]
    by_cases e : 18 + 13 * nC w ≤ j ∧ j < 18 + 13 * nC w + 13
    · rw [if_pos e, if_pos e]
      by_cases e1 : j = 18 + 13 * nC w + 1
      · rw [if_neg (by omega), if_neg (by omega), if_neg (by omega), if_pos e1, if_pos e1]
      · by_cases e3 : j = 18 + 13 * nC w + 3
        · rw [if_neg (by omega), if_neg (by omega), if_pos e3, if_neg e1, if_pos e3]
        · by_cases e4 : j = 18 + 13 * nC w + 4
          · rw [if_neg (by omega), if_pos e4, if_neg e1, if_neg e3, if_pos e4]
          · by_cases e6 : j = 18 + 13 * nC w + 6
            · rw [if_pos e6, if_neg e1, if_neg e3, if_neg e4, if_pos e6]
            · rw [if_neg e6, if_neg e4, if_neg e3, if_neg e1, if_neg e1, if_neg e3, if_neg e4, if_neg e6]
    · rw [if_neg e, if_neg e, if_neg (by omega), if_neg (by omega), if_neg (by omega), if_neg (by omega)]
section BD
variable {B : Int} {M : MM} {p : Int32}
theorem r_bab {N c n : Nat} {w : RW} {k98 : MM → Prop} {Q : Int32 → MM → Prop} {M11 : MM} (hr : M11.1 191 = w) (hcn : c < n) (hn : n < 10) (hQ : ∀ M', M'.1 191 = cpR w c n 13 → Eqo [(191, 191, none)] M11 M' → k98 M') : W_m_baby_74 (i32 c) (i32 n) k98 Q N 0 M11 := by
  refine I_m_baby_74 _ _ k98 Q (fun v M' => ∃ k, k ≤ 13 ∧ v = i32 k ∧ M'.1 191 = cpR w c n k ∧ Eqo [(191, 191, none)] M11 M') (fun N ih v M' hih hv => ?_) N _ _ ⟨0, by omega, rfl, by rw [cpR_0]; exact hr, eqo_rf M11⟩
  obtain ⟨k, hk, rfl, h1, h2⟩ := hv
  unfold B_m_baby_74
  refine ⟨fun hl => ?_, fun hl => ?_⟩
  · have hl' : k < 13 := (i32_lt (k := 13) (by omega) (by omega)).mp hl
    unfold W_m_sets
    refine hih _ _ ⟨k + 1, by omega, i32_s k, ?_, fun b j hb => (eqo_wi (i := 0) h2 rfl (Or.inl rfl)) b j hb⟩
    rw [show V_m_of (i32 c) (i32 k) M' = cl (cpR w c n k) c k from of_row (i := k) h1 (by omega) (by omega), show ni ((18 + (13 * i32 n)) + i32 k) = 18 + 13 * n + k from ofs (i := k) (by omega) (by omega), wi_row h1, ← cpR_s]
    rw [show cl (cpR w c n k) c k = cl w c k from if_neg (by omega)]
  · have : k = 13 := by
      have : ¬ k < 13 := fun e => hl ((i32_lt (j := k) (k := 13) (by omega) (by omega)).mpr e)
      omega
    subst this
    exact hQ _ h1 h2
theorem a_baby (h : CP B M) {N : Nat} : W_E_baby p N M (fun y M1 => ∀ z N', W_m_baby p N' (wj M1 215 0 z) (fun b M2 => CP B M2 ∧ M2.1 190 0 = 0 ∧ y = b)) (fun ce M1 => ∀ N', W_m_baby p N' M1 (fun _ M2 => CP B M2 ∧ M2.1 190 0 = if ce = 2 then 1 else if ce = 3 then 3 else 2)) := by
  obtain ⟨hc, hg⟩ := h.2.2.2.1
  unfold W_E_baby
  refine s_cit hc (fun hp => ?_) (fun hp N' => ?_)
  · obtain ⟨c, rfl, hcn, hc10⟩ := okc_c hg.1 hp
    refine s_alive hc hg.1 hcn (fun ha => ?_) (fun ha N' => ?_)
    · obtain ⟨e0, hle, ei⟩ := nC_i hg.1
      rw [show M.1 18 0 = i32 (nC (M.1 191)) by rw [hc.1.1]; exact ei]
      have fc : ∀ M1 : MM, M1.1 191 = M.1 191 → V_m_citizens M1 = i32 (nC (M.1 191)) := fun M1 a => by
        show M1.1 191 0 = _
        rw [a]
        exact ei
      refine ⟨fun hb => ?_, fun hb N' => ?_⟩
      · have hn : nC (M.1 191) < 10 := (i32_lt (k := 10) (by omega) (by omega)).mp hb
        have ne : (i32 (nC (M.1 191)) = 10) = False := eq_false (fun e => by
          have := congrArg Int32.toInt e
          rw [i32_i (by omega), show (10 : Int32).toInt = 10 from rfl] at this
          omega)
        refine s_rem h (fun M9 m hh hr hi hm hw e9 => ?_)
        refine c_bear hw hg.1 hcn ha hn (fun M1 h1 eb z N' => ?_)
        have eM := eqo_app (eqo_app e9 eb) (eqo_z (z := z))
        have hm1 := CM_eq (CM_eq hm eb rfl) (eqo_z (z := z)) rfl
        have h1 := CW_eq h1 (eqo_z (z := z)) rfl
        generalize wj M1 215 0 z = M1 at *
        have a1 := eqb eM (lo := 191) (hi := 191) rfl (Nat.le_refl _) (Nat.le_refl _)
        unfold W_m_baby W_m_throwsIf
        simp only [noc_e a1, al_e a1, noc_1 hg.1 hp, al_1 hc10 ha, fc (wi M1 190 0 0) a1, ne, e10, e10n, true_implies, false_implies, not_true_eq_false, not_false_eq_true, and_true, true_and, if_true]
        refine t_rem hr eM rfl (fun M11 r1 r2 r3 r4 z0 => ?_)
        rw [fc M11 r2]
        refine r_bab r2 hcn hn (fun M12 t1 t2 => ?_)
        unfold W_m_sets
        dsimp only
        rw [show ni ((18 + (13 * i32 (nC (M.1 191)))) + 1) = 18 + 13 * nC (M.1 191) + 1 from ofs (i := 1) (by omega) (by omega), show ni ((18 + (13 * i32 (nC (M.1 191)))) + 3) = 18 + 13 * nC (M.1 191) + 3 from ofs (i := 3) (by omega) (by omega), show ni ((18 + (13 * i32 (nC (M.1 191)))) + 4) = 18 + 13 * nC (M.1 191) + 4 from ofs (i := 4) (by omega) (by omega), show ni ((18 + (13 * i32 (nC (M.1 191)))) + 6) = 18 + 13 * nC (M.1 191) + 6 from ofs (i := 6) (by omega) (by omega), ni_i (show nC (M.1 191) < 2147483648 by omega)]
        have er := eqo_app t2 (eqo_app (eqo_a (M := M12) (a := 191) (k := 18 + 13 * nC (M.1 191) + 1) (x := 0)) (eqo_app (eqo_a (a := 191) (k := 18 + 13 * nC (M.1 191) + 3) (x := 0)) (eqo_app (eqo_a (a := 191) (k := 18 + 13 * nC (M.1 191) + 4) (x := -1)) (eqo_app (eqo_a (a := 191) (k := 18 + 13 * nC (M.1 191) + 6) (x := 0)) (eqo_app (eqo_b (a := 196) (k := nC (M.1 191)) (x := Int64.ofNat 0)) (eqo_a (a := 191) (k := 0) (x := M.1 191 0 + 1)))))))
        have e2 := eqo_app r4 er
        have hrow := wi_row (k := 18 + 13 * nC (M.1 191) + 6) (x := 0) (wi_row (k := 18 + 13 * nC (M.1 191) + 4) (x := -1) (wi_row (k := 18 + 13 * nC (M.1 191) + 3) (x := 0) (wi_row (k := 18 + 13 * nC (M.1 191) + 1) (x := 0) t1)))
        have h0 : (wj (wi (wi (wi (wi M12 191 (18 + 13 * nC (M.1 191) + 1) 0) 191 (18 + 13 * nC (M.1 191) + 3) 0) 191 (18 + 13 * nC (M.1 191) + 4) (-1)) 191 (18 + 13 * nC (M.1 191) + 6) 0) 196 (nC (M.1 191)) (Int64.ofNat 0)).1 191 (ni 0) = M.1 191 0 := by
          rw [wj_1, hrow]
          show up1 _ _ _ 0 = _
          rw [up1_n (by omega), up1_n (by omega), up1_n (by omega), up1_n (by omega)]
          exact if_neg (by omega)
        rw [h0]
        have hrow2 := wi_row (k := 0) (x := M.1 191 0 + 1) (M1 := wj (wi (wi (wi (wi M12 191 (18 + 13 * nC (M.1 191) + 1) 0) 191 (18 + 13 * nC (M.1 191) + 3) 0) 191 (18 + 13 * nC (M.1 191) + 4) (-1)) 191 (18 + 13 * nC (M.1 191) + 6) 0) 196 (nC (M.1 191)) (Int64.ofNat 0)) hrow
        rw [cpR_e] at hrow2
        have hs : (wi (wj (wi (wi (wi (wi M12 191 (18 + 13 * nC (M.1 191) + 1) 0) 191 (18 + 13 * nC (M.1 191) + 3) 0) 191 (18 + 13 * nC (M.1 191) + 4) (-1)) 191 (18 + 13 * nC (M.1 191) + 6) 0) 196 (nC (M.1 191)) (Int64.ofNat 0)) 191 0 (M.1 191 0 + 1)).2 196 = us (M.2 196) (nC (M.1 191)) (Int64.ofNat 0) := by
          rw [← r3]
          funext j
          show (if 196 = 196 ∧ j = nC (M.1 191) then Int64.ofNat 0 else M12.2 196 j) = if j = nC (M.1 191) then Int64.ofNat 0 else M11.2 196 j
          rw [show M12.2 196 j = M11.2 196 j from congrFun (eqb2 t2 (lo := 196) (hi := 196) rfl (Nat.le_refl _) (Nat.le_refl _)) j]
          by_cases e : j = nC (M.1 191)
          · rw [if_pos ⟨rfl, e⟩, if_pos e]
          · rw [if_neg (by omega), if_neg e]
        refine ⟨CP_mk h (eqo_app eM e2) rfl hrow2 hs (CW_eq h1 e2 rfl) (GW_r hg (bab_W hg.1 hcn hn) (bab_k (by omega) (by omega)) (bab_k (by omega) (by omega))) (CM_eq hm1 e2 rfl) (RMm_eq r1 er rfl) hi (Int.le_refl _), ?_, ei⟩
        have := eq1 er (b := 190) (k := 0) rfl
        exact this.trans z0
      · have e10' : nC (M.1 191) = 10 := by
          have : ¬ nC (M.1 191) < 10 := fun e => hb ((i32_lt (j := nC (M.1 191)) (k := 10) (by omega) (by omega)).mpr e)
          omega
        have fc' := fc (wi M 190 0 0) rfl
        rw [e10'] at fc'
        have fc2 : V_m_citizens (wi M 190 0 0) = 10 := fc'
        unfold W_m_baby W_m_throwsIf
        simp only [noc_1 hg.1 hp, al_1 hc10 ha, fc2, e10, e10n, true_implies, false_implies, not_true_eq_false, not_false_eq_true, and_true, true_and, if_true]
        exact CP_t h 3 (fun e => e)
    · unfold W_m_baby W_m_throwsIf
      simp only [noc_1 hg.1 hp, al_0 hc10 ha, e10, e10n, true_implies, false_implies, not_true_eq_false, not_false_eq_true, and_true, true_and, if_true]
      exact CP_t h 2 (fun e => e)
  · unfold W_m_baby W_m_throwsIf
    simp only [noc_0 hg.1 hp, e10, e10n, true_implies, false_implies, not_true_eq_false, not_false_eq_true, and_true, true_and, if_true]
    exact CP_t h 1 (fun e => e)
end BD
end
section
/-! ACTS: the tape -/
theorem by_h {x y : BitVec 32} {n : Nat} {p : BitVec 32} (hn : n ≤ 24) (a1 : x = p >>> n) (a2 : y = p.sshiftRight n) : (x &&& 255#32).signExtend 8 = y.signExtend 8 := by
  rw [BitVec.signExtend_eq_setWidth_of_le _ (by omega), BitVec.signExtend_eq_setWidth_of_le _ (by omega), a1, a2]
  apply BitVec.eq_of_getLsbD_eq
  intro i hi
  rw [BitVec.getLsbD_setWidth, BitVec.getLsbD_setWidth, BitVec.getLsbD_and, BitVec.getLsbD_ushiftRight, BitVec.getLsbD_sshiftRight]
  have : (255#32).getLsbD i = true := by
    have : i = 0 ∨ i = 1 ∨ i = 2 ∨ i = 3 ∨ i = 4 ∨ i = 5 ∨ i = 6 ∨ i = 7 := by omega
    rcases this with h | h | h | h | h | h | h | h <;> subst h <;> decide
  rw [this]
  have e : n + i < 32 := by omega
  simp [e, hi]
  omega
theorem by_g (p : Int32) (q : Nat) (hq : q < 4) : (su p (24 - 8 * i32 q) &&& 255).toInt8 = (sr p (24 - 8 * i32 q)).toInt8 := by
  apply Int8.toBitVec_inj.mp
  have : q = 0 ∨ q = 1 ∨ q = 2 ∨ q = 3 := by omega
  rcases this with h | h | h | h <;> subst h
  · exact by_h (p := p.toBitVec) (n := 24) (by omega) rfl rfl
  · exact by_h (p := p.toBitVec) (n := 16) (by omega) rfl rfl
  · exact by_h (p := p.toBitVec) (n := 8) (by omega) rfl rfl
  · exact by_h (p := p.toBitVec) (n := 0) (by omega) rfl rfl
theorem by_r (x : Int32) : 0 ≤ (x &&& 255).toInt ∧ (x &&& 255).toInt < 256 := by
  have h : (x &&& 255).toBitVec.toNat ≤ 255 := by
    show (x.toBitVec &&& 255#32).toNat ≤ 255
    rw [BitVec.toNat_and]
    exact Nat.and_le_right
  have : (x &&& 255).toInt = ((x &&& 255).toBitVec.toNat : Int) := by
    show (x &&& 255).toBitVec.toInt = _
    rw [BitVec.toInt_eq_toNat_of_lt (by omega)]
  omega
theorem by_n (x : Int8) : vp_nar .byte x.toInt32 = x.toInt32 := by
  show x.toInt32.toInt8.toInt32 = x.toInt32
  simp
def tby (p : Int32) (q : Nat) : Int32 := su p (24 - 8 * i32 q) &&& 255
section TA
variable {B : Int} {M : MM} {p p1 p2 p3 p4 p5 : Int32}
theorem CP_tp {l : List (Nat × Nat × Option Nat)} {M' : MM} (h : CP B M) (e : Eqo l M M') (hl : ((fpf l 0 15 && fpf l 190 23) && ((lwk l && imk l) && (wlk l && (cmk l && rmk l)))) = true) (hT : TP M') : CP B M' := by
  simp only [Bool.and_eq_true] at hl
  obtain ⟨⟨k2, k3⟩, ⟨k4, k5⟩, k6, k7, k8⟩ := hl
  obtain ⟨h1, h2, ⟨L, h3, h4, h5, h6⟩, h7, m, hh, h8, h9, h10⟩ := h
  exact ⟨hT, by rw [eq1 e k2, eq1 e k3]; exact h2, ⟨L, LawC_eq h3 e (lwk_C k4), LawR_eq h4 e (lwk_R k4), TLD_eq h5 e k4, IMG_eq h6 e k5⟩, WLD_eq h7 e k6, m, hh, CM_eq h8 e k7, RMm_eq h9 e k8, h10⟩
theorem a_end (h : CP B M) {N : Nat} : W_E_end p N M (fun y M1 => ∀ N', W_m_end p N' M1 (fun b M2 => CP B M2 ∧ M2.1 190 0 = 0 ∧ y = b)) := by
  obtain ⟨n, hn, t1, t2, t3⟩ := h.1
  unfold W_E_end
  rw [t1]
  have g : ∀ M' : MM, M'.1 190 18 = i32 n → (wi M' 190 0 0).1 190 18 = i32 n := fun M' e => by rw [wi_1n (by omega)]; exact e
  refine ⟨fun h0 N' => ?_, fun h0 => ⟨fun h1 N' => ?_, fun h1 N' => ?_⟩⟩
  · unfold W_m_end
    exact ⟨fun _ => ⟨CP_0 h 0, wi_1e, rfl⟩, fun hb => absurd h0 hb⟩
  · unfold W_m_end
    rw [g M t2]
    exact ⟨fun hb => absurd hb h0, fun _ => ⟨fun _ => ⟨CP_0 h 0, wi_1e, rfl⟩, fun hb => absurd h1 hb⟩⟩
  · unfold W_m_end
    rw [g _ (show (wi M 1 1 p).1 190 18 = i32 n by rw [wi_1n (by omega)]; exact t2)]
    refine ⟨fun hb => absurd hb h0, fun _ => ⟨fun hb => absurd hb h1, fun _ => ⟨?_, ?_, rfl⟩⟩⟩
    · rw [Int32.lt_iff_toInt_lt, show (0 : Int32).toInt = 0 from rfl] at h0
      rw [Int32.lt_iff_toInt_lt, i32_i (by omega)] at h1
      have e1 : Eqo ([(1, 1, some 1)] ++ ([(190, 190, some 0)] ++ [(190, 190, some 18)])) M (wi (wi (wi M 1 1 p) 190 0 0) 190 18 p) := eqo_app eqo_1 (eqo_app eqo_1 eqo_1)
      refine CP_tp h e1 rfl ⟨ni p, by unfold ni; omega, ?_, ?_, fun j hj => ?_⟩
      · rw [wi_1n (by omega), wi_1n (by omega), wi_1e]
        exact i32_ni (x := p) (by omega)
      · rw [wi_1e]
        exact i32_ni (x := p) (by omega)
      · rw [wi_1n (by omega), wi_1n (by omega), wi_1n (by omega), wi_1n (by omega), wi_1n (by omega), wi_1n (by omega)]
        exact t3 j (by unfold ni at hj; omega)
    · rw [wi_1n (by omega)]
      exact wi_1e
theorem c_add {N n : Nat} {Q : MM → Prop} (hn : n + 4 ≤ 400) (h : M.1 1 1 = i32 n) (hQ : ∀ M', M'.1 1 1 = i32 (n + 4) → (∀ j, j < n → M'.1 2 j = M.1 2 j) → (∀ q, q < 4 → M'.1 2 (n + q) = tby p q) → Eqo fp_Tape_add M M' → Q M') : W_Tape_add p N M Q := by
  unfold W_Tape_add
  rw [h]
  refine ⟨fun hb => ?_, fun _ => ?_⟩
  · have : i32 400 < i32 (n + 4) := by rw [← i32_a]; exact hb
    have := (i32_lt (by omega) (by omega)).mp this
    omega
  refine I_Tape_add_18 p Q (fun v M' => ∃ k, k ≤ 4 ∧ v = 24 - 8 * i32 k ∧ M'.1 1 1 = i32 (n + k) ∧ (∀ j, j < n → M'.1 2 j = M.1 2 j) ∧ (∀ q, q < k → M'.1 2 (n + q) = tby p q) ∧ Eqo fp_Tape_add M M') (fun N ih v M' hih hv => ?_) N _ _ ⟨0, by omega, rfl, h, fun _ _ => rfl, fun q hq => by omega, eqo_rf M⟩
  obtain ⟨k, hk, hv, h1, h2, h3, h4⟩ := hv
  unfold B_Tape_add_18
  have hk' : (k < 4 ∧ ¬ v < 0 ∧ v + (-8) = 24 - 8 * i32 (k + 1)) ∨ (k = 4 ∧ v < 0) := by
    have : k = 0 ∨ k = 1 ∨ k = 2 ∨ k = 3 ∨ k = 4 := by omega
    rcases this with e | e | e | e | e <;> subst e <;> subst hv <;> decide
  rcases hk' with ⟨k1, k2, k3⟩ | ⟨k1, k2⟩
  · refine ⟨fun hb => absurd hb k2, fun _ => hih _ _ ⟨k + 1, by omega, k3, ?_, fun j hj => ?_, fun q hq => ?_, ?_⟩⟩
    · rw [wi_1e, wi_1n (by omega), h1, i32_s]
      rfl
    · rw [wi_1n (by omega), h1, ni_i (by omega), wi_1n (by omega)]
      exact h2 j hj
    · rw [wi_1n (by omega), h1, ni_i (by omega)]
      by_cases e : q = k
      · rw [e, wi_1e, hv]; rfl
      · rw [wi_1n (by omega)]
        exact h3 q (by omega)
    · exact eqo_wi (i := 1) (eqo_wi (i := 0) h4 rfl (Or.inl rfl)) rfl (Or.inr rfl)
  · subst k1
    exact ⟨fun _ => hQ _ h1 h2 h3 h4, fun hb => absurd k2 hb⟩
theorem r_feed {N n : Nat} {P : Nat → Int32} {Q : Int32 → MM → Prop} {M0 : MM} (hn : n + 20 ≤ 400) (h : M0.1 190 18 = i32 n) (hP : ∀ i, i < 5 → M0.1 204 i = P i) (hQ : ∀ M', M'.1 190 18 = i32 (n + 20) → (∀ j, j < n → M'.1 203 j = M0.1 203 j) → (∀ i q, i < 5 → q < 4 → M'.1 203 (n + (4 * i + q)) = (tby (P i) q).toInt8.toInt32) → Eqo ([(203, 203, none)] ++ [(190, 190, some 18)]) M0 M' → Q (i32 (n + 20)) M') : W_m_feed_60 p1 p2 p3 p4 p5 Q N 0 M0 := by
  refine I_m_feed_60 p1 p2 p3 p4 p5 Q (fun v M' => ∃ k, k ≤ 20 ∧ v = i32 k ∧ M'.1 190 18 = i32 n ∧ (∀ i, i < 5 → M'.1 204 i = P i) ∧ (∀ j, j < n → M'.1 203 j = M0.1 203 j) ∧ (∀ i q, 4 * i + q < k → q < 4 → M'.1 203 (n + (4 * i + q)) = (tby (P i) q).toInt8.toInt32) ∧ Eqo [(203, 203, none)] M0 M') (fun N ih v M' hih hv => ?_) N _ _ ⟨0, by omega, rfl, h, hP, fun _ _ => rfl, fun i q hq => by omega, eqo_rf M0⟩
  obtain ⟨k, hk, rfl, h1, h2, h3, h4, h5⟩ := hv
  unfold B_m_feed_60
  refine ⟨fun hl => ?_, fun hl => ?_⟩
  · have hl' : k < 20 := (i32_lt (k := 20) (by omega) (by omega)).mp hl
    rw [h1, i32_a, ni_i (by omega), show (i32 k / 4 : Int32) = i32 (k / 4) from i32_d (y := 4) (by omega) (by omega), show rm (i32 k) 4 = i32 (k % 4) from rm_n (y := 4) (by omega) (by omega), ni_i (by omega), h2 _ (by omega), ← by_g _ _ (by omega), by_n]
    refine hih _ _ ⟨k + 1, by omega, i32_s k, by rw [wi_1n (by omega)]; exact h1, fun i hi => by rw [wi_1n (by omega)]; exact h2 i hi, fun j hj => by rw [wi_1n (by omega)]; exact h3 j hj, fun i q hq hq4 => ?_, eqo_wi (i := 0) h5 rfl (Or.inl rfl)⟩
    by_cases e : 4 * i + q = k
    · obtain rfl : i = k / 4 := by omega
      obtain rfl : q = k % 4 := by omega
      rw [e, wi_1e]
      rfl
    · rw [wi_1n (by omega)]
      exact h4 i q (by omega) hq4
  · have : ¬ k < 20 := fun e => hl ((i32_lt (j := k) (k := 20) (by omega) (by omega)).mpr e)
    obtain rfl : k = 20 := by omega
    rw [h1, show (i32 n + 20 : Int32) = i32 (n + 20) from i32_a n 20, wi_1e]
    exact hQ _ wi_1e (fun j hj => by rw [wi_1n (by omega)]; exact h3 j hj) (fun i q hi hq => by rw [wi_1n (by omega)]; exact h4 i q (by omega) hq) (eqo_app h5 eqo_1)
theorem a_feed (h : CP B M) {N : Nat} : W_E_feed p1 p2 p3 p4 p5 N M (fun y M1 => ∀ N', W_m_feed p1 p2 p3 p4 p5 N' M1 (fun b M2 => CP B M2 ∧ M2.1 190 0 = 0 ∧ y = b)) := by
  obtain ⟨n, hn, t1, t2, t3⟩ := h.1
  unfold W_E_feed
  rw [t1, show (i32 n + 20 : Int32) = i32 (n + 20) from i32_a n 20]
  have g : ∀ M' : MM, M'.1 190 18 = i32 n → (wi M' 190 0 0).1 190 18 = i32 n := fun M' e => by rw [wi_1n (by omega)]; exact e
  refine ⟨fun h0 N' => ?_, fun h0 => ?_⟩
  · unfold W_m_feed
    rw [g M t2, show (i32 n + 20 : Int32) = i32 (n + 20) from i32_a n 20]
    exact ⟨fun _ => ⟨CP_0 h 0, wi_1e, rfl⟩, fun hb => absurd h0 hb⟩
  · have hn' : n + 20 ≤ 400 := by
      have : ¬ 400 < n + 20 := fun e => h0 ((i32_lt (j := 400) (k := n + 20) (by omega) (by omega)).mpr e)
      omega
    refine c_add (n := n) (by omega) t1 (fun M3 a3 b3 c3 e3 => ?_)
    refine c_add (n := n + 4) (by omega) a3 (fun M5 a5 b5 c5 e5 => ?_)
    refine c_add (n := n + 4 + 4) (by omega) a5 (fun M7 a7 b7 c7 e7 => ?_)
    refine c_add (n := n + 4 + 4 + 4) (by omega) a7 (fun M9 a9 b9 c9 e9 => ?_)
    refine c_add (n := n + 4 + 4 + 4 + 4) (by omega) a9 (fun M1 a1 b1 c1 e1 => ?_)
    have eM := eqo_app e3 (eqo_app e5 (eqo_app e7 (eqo_app e9 e1)))
    have s18 : M1.1 190 18 = i32 n := by rw [eq1 eM (b := 190) (k := 18) rfl]; exact t2
    have s203 : M1.1 203 = M.1 203 := eqb eM (lo := 203) (hi := 203) rfl (Nat.le_refl _) (Nat.le_refl _)
    rw [a1]
    intro N'
    unfold W_m_feed
    rw [g M1 s18, show (i32 n + 20 : Int32) = i32 (n + 20) from i32_a n 20]
    refine ⟨fun hb => absurd hb h0, fun _ => ?_⟩
    have er : Eqo ([(190, 190, some 0)] ++ ([(204, 204, none)] ++ ([(204, 204, none)] ++ ([(204, 204, none)] ++ ([(204, 204, none)] ++ [(204, 204, none)]))))) M1 (wi (wi (wi (wi (wi (wi M1 190 0 0) 204 (ni 0) p1) 204 (ni 1) p2) 204 (ni 2) p3) 204 (ni 3) p4) 204 (ni 4) p5) := eqo_app eqo_1 (eqo_app eqo_a (eqo_app eqo_a (eqo_app eqo_a (eqo_app eqo_a eqo_a))))
    have z0 : (wi (wi (wi (wi (wi (wi M1 190 0 0) 204 (ni 0) p1) 204 (ni 1) p2) 204 (ni 2) p3) 204 (ni 3) p4) 204 (ni 4) p5).1 190 0 = 0 := rfl
    refine r_feed (n := n) (P := fun i => if i = 0 then p1 else if i = 1 then p2 else if i = 2 then p3 else if i = 3 then p4 else p5) hn' (by rw [eq1 er (b := 190) (k := 18) rfl]; exact s18) (fun i hi => ?_) (fun M2 f1 f2 f3 f4 => ?_)
    · have : i = 0 ∨ i = 1 ∨ i = 2 ∨ i = 3 ∨ i = 4 := by omega
      rcases this with e | e | e | e | e <;> subst e <;> rfl
    · have e2 := eqo_app er f4
      refine ⟨CP_tp h (eqo_app eM e2) rfl ⟨n + 20, hn', ?_, f1, fun j hj => ?_⟩, ?_, rfl⟩
      · rw [eq1 e2 (b := 1) (k := 1) rfl, a1]
      · rw [show M2.1 2 = M1.1 2 from eqb e2 (lo := 2) (hi := 2) rfl (Nat.le_refl _) (Nat.le_refl _)]
        by_cases hjn : j < n
        · rw [f2 j hjn, show (wi (wi (wi (wi (wi (wi M1 190 0 0) 204 (ni 0) p1) 204 (ni 1) p2) 204 (ni 2) p3) 204 (ni 3) p4) 204 (ni 4) p5).1 203 = M1.1 203 from eqb er (lo := 203) (hi := 203) rfl (Nat.le_refl _) (Nat.le_refl _), s203, b1 j (by omega), b9 j (by omega), b7 j (by omega), b5 j (by omega), b3 j hjn]
          exact t3 j hjn
        · have hi : (j - n) / 4 < 5 := by omega
          have hq : (j - n) % 4 < 4 := by omega
          have ej : j = n + (4 * ((j - n) / 4) + (j - n) % 4) := by omega
          generalize (j - n) / 4 = i at *
          generalize (j - n) % 4 = q at *
          subst ej
          rw [f3 i q hi hq]
          have : i = 0 ∨ i = 1 ∨ i = 2 ∨ i = 3 ∨ i = 4 := by omega
          rcases this with e | e | e | e | e <;> subst e
          · rw [b1 _ (by omega), b9 _ (by omega), b7 _ (by omega), b5 _ (by omega), show n + (4 * 0 + q) = n + q by omega, c3 q hq]
            exact ⟨by_r _, rfl⟩
          · rw [b1 _ (by omega), b9 _ (by omega), b7 _ (by omega), show n + (4 * 1 + q) = n + 4 + q by omega, c5 q hq]
            exact ⟨by_r _, rfl⟩
          · rw [b1 _ (by omega), b9 _ (by omega), show n + (4 * 2 + q) = n + 4 + 4 + q by omega, c7 q hq]
            exact ⟨by_r _, rfl⟩
          · rw [b1 _ (by omega), show n + (4 * 3 + q) = n + 4 + 4 + 4 + q by omega, c9 q hq]
            exact ⟨by_r _, rfl⟩
          · rw [show n + (4 * 4 + q) = n + 4 + 4 + 4 + 4 + q by omega, c1 q hq]
            exact ⟨by_r _, rfl⟩
      · rw [eq1 f4 (b := 190) (k := 0) rfl]
        exact z0
end TA
end
