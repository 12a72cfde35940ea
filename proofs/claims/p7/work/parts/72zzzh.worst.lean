/-! ANSWERS: which clauses die with one; the clause that most were taken for -/
section WST
variable {B : Int} {M X : MM} {p q : Int32} {w : RW} {s : RS} {L : LWT}
/-- how many rows name a clause -/
def tkF (w : RW) (k : Nat) : Nat → Nat
  | 0 => 0
  | n + 1 => if w (148 + 4 * n + 3) = i32 k then tkF w k n + 1 else tkF w k n
theorem tkF_b {k : Nat} : ∀ n, tkF w k n ≤ n
  | 0 => Nat.le_refl _
  | n + 1 => by
    unfold tkF
    have := tkF_b (k := k) n
    split <;> omega
/-- the best so far, and how many -/
def wsF (w : RW) (n : Nat) : Nat → Int32 × Nat
  | 0 => (-1, 0)
  | k + 1 => if (wsF w n k).2 < tkF w k n then (i32 k, tkF w k n) else wsF w n k
theorem wsF_b {n : Nat} : ∀ k, (wsF w n k).2 ≤ n ∧ ((wsF w n k).1 = -1 ∧ (wsF w n k).2 = 0 ∨ ∃ e, e < k ∧ (wsF w n k).1 = i32 e ∧ (wsF w n k).2 = tkF w e n ∧ 0 < tkF w e n)
  | 0 => ⟨Nat.zero_le _, Or.inl ⟨rfl, rfl⟩⟩
  | k + 1 => by
    obtain ⟨h1, h2⟩ := wsF_b (n := n) k
    unfold wsF
    by_cases e : (wsF w n k).2 < tkF w k n
    · rw [if_pos e]
      exact ⟨tkF_b n, Or.inr ⟨k, by omega, rfl, rfl, by omega⟩⟩
    · rw [if_neg e]
      refine ⟨h1, ?_⟩
      rcases h2 with h2 | ⟨j, j1, j2⟩
      · exact Or.inl h2
      · exact Or.inr ⟨j, by omega, j2⟩
theorem c_wst {n N : Nat} {Q : Int32 → Prop} (h : CWl M 18 w) (h6 : w 6 = i32 n) (hn : n ≤ 60) (hQ : Q (wsF w n 12).1) : W_Log_mostFrequentClause 28 N M Q := by
  unfold W_Log_mostFrequentClause
  have e28 : M.1 28 1 = i32 n := h.1.trans h6
  refine I_Log_mostFrequentClause_6 28 M Q (fun v1 v2 v3 => ∃ k, k ≤ 12 ∧ v3 = i32 k ∧ v1 = (wsF w n k).1 ∧ v2 = i32 (wsF w n k).2) (fun N ih v1 v2 v3 hih hv => ?_) N _ _ _ ⟨0, by omega, rfl, rfl, rfl⟩
  obtain ⟨k, hk, rfl, rfl, rfl⟩ := hv
  obtain ⟨b1, b2⟩ := wsF_b (w := w) (n := n) k
  unfold B_Log_mostFrequentClause_6
  rw [show i32 k < 12 ↔ k < 12 from i32_lt (k := 12) (by omega) (by omega)]
  refine ⟨fun hlt => ?_, fun hlt => ?_⟩
  · refine I_Log_mostFrequentClause_18 28 _ _ (i32 k) M _ Q (fun v4 v5 => ∃ j, j ≤ n ∧ v5 = i32 j ∧ v4 = i32 (tkF w k j)) (fun N ih2 v4 v5 hih2 hv2 => ?_) N _ _ ⟨0, by omega, rfl, rfl⟩
    obtain ⟨j, hj, rfl, rfl⟩ := hv2
    unfold B_Log_mostFrequentClause_18
    rw [e28, i32_lt (by omega) (by omega)]
    refine ⟨fun hlt2 => ?_, fun hlt2 => ?_⟩
    · have nx : ih2 (i32 (tkF w k (j + 1))) (i32 j + 1) := hih2 _ _ ⟨j + 1, by omega, i32_s j, rfl⟩
      unfold tkF at nx
      rw [show V_Log_entry 28 (i32 j) 3 M = w (148 + 4 * j + 3) from c_entry (i := 3) h h6 hn hlt2 (by omega)]
      refine ⟨fun e => ?_, fun e => ?_⟩
      · rw [if_pos e] at nx
        rw [i32_s]
        exact nx
      · rw [if_neg e] at nx
        exact nx
    · obtain rfl : j = n := by omega
      have tb_ := tkF_b (w := w) (k := k) j
      have nx : ih (wsF w j (k + 1)).1 (i32 (wsF w j (k + 1)).2) (i32 k + 1) := hih _ _ _ ⟨k + 1, by omega, i32_s k, rfl, rfl⟩
      unfold wsF at nx
      rw [i32_lt (by omega) (by omega)]
      refine ⟨fun e => ?_, fun e => ?_⟩
      · rw [if_pos e] at nx; exact nx
      · rw [if_neg e] at nx; exact nx
  · obtain rfl : k = 12 := by omega
    exact hQ
theorem r_tkf {n k N : Nat} {Q : Int32 → Prop} (hx : X.1 191 = w) (h6 : w 6 = i32 n) (hn : n ≤ 60) (hQ : Q (i32 (tkF w k n))) : W_m_takenFor (i32 k) N X Q := by
  unfold W_m_takenFor
  refine I_m_takenFor_4 (i32 k) X Q (fun v2 v3 => ∃ j, j ≤ n ∧ v3 = i32 j ∧ v2 = i32 (tkF w k j)) (fun N ih v2 v3 hih hv => ?_) N _ _ ⟨0, by omega, rfl, rfl⟩
  obtain ⟨j, hj, rfl, rfl⟩ := hv
  unfold B_m_takenFor_4
  rw [show X.1 191 (ni 6) = i32 n from by rw [hx]; exact h6, i32_lt (by omega) (by omega)]
  refine ⟨fun hlt => ?_, fun hlt => ?_⟩
  · have nx : ih (i32 (tkF w k (j + 1))) (i32 j + 1) := hih _ _ ⟨j + 1, by omega, i32_s j, rfl⟩
    unfold tkF at nx
    rw [show V_m_ofLog (i32 j) 3 X = w (148 + 4 * j + 3) from r_entry (i := 3) hx (by omega) (by omega)]
    refine ⟨fun e => ?_, fun e => ?_⟩
    · rw [if_pos e] at nx
      rw [i32_s]
      exact nx
    · rw [if_neg e] at nx
      rw [Int32.add_zero]
      exact nx
  · obtain rfl : j = n := by omega
    exact hQ
theorem r_wst {n l N : Nat} {Q : Int32 → MM → Prop} (hx : X.1 191 = w) (h6 : w 6 = i32 n) (hn : n ≤ 60) (hl : V_m_clauses X = i32 l) (h12 : l ≤ 12) (hQ : Q (wsF w n l).1 X) : W_m_worst_9 X Q N (-1) 0 := by
  refine I_m_worst_9 X Q (fun v1 v2 => ∃ k, k ≤ l ∧ v2 = i32 k ∧ v1 = (wsF w n k).1) (fun N ih v1 v2 hih hv => ?_) N _ _ ⟨0, by omega, rfl, rfl⟩
  obtain ⟨k, hk, rfl, rfl⟩ := hv
  obtain ⟨b1, b2⟩ := wsF_b (w := w) (n := n) k
  have tb_ := tkF_b (w := w) (k := k) n
  unfold B_m_worst_9
  rw [hl, i32_lt (by omega) (by omega)]
  refine ⟨fun hlt => ?_, fun hlt => ?_⟩
  · have nx : ih (wsF w n (k + 1)).1 (i32 k + 1) := hih _ _ ⟨k + 1, by omega, i32_s k, rfl⟩
    unfold wsF at nx
    refine r_tkf hx h6 hn ?_
    rw [show (0 : Int32) < i32 (tkF w k n) ↔ 0 < tkF w k n from i32_lt (j := 0) (by omega) (by omega)]
    rcases b2 with ⟨e1, e2⟩ | ⟨e, e1, e2, e3, e4⟩
    · rw [e2] at nx
      rw [e1]
      refine ⟨fun h0 => ⟨fun _ => ?_, fun hb => absurd (by decide) hb⟩, fun h0 => ?_⟩
      · rw [if_pos h0] at nx; exact nx
      · rw [if_neg h0, e1] at nx; exact nx
    · rw [e3] at nx
      rw [e2]
      refine ⟨fun h0 => ⟨fun hb => absurd hb (by rw [lt_lit, i32_i (by omega), show (0 : Int32).toInt = 0 from rfl]; omega), fun _ => r_tkf hx h6 hn (r_tkf hx h6 hn ?_)⟩, fun h0 => ?_⟩
      · have tb2 := tkF_b (w := w) (k := e) n
        rw [i32_lt (by omega) (by omega)]
        refine ⟨fun h1 => ?_, fun h1 => ?_⟩
        · rw [if_pos h1] at nx; exact nx
        · rw [if_neg h1, e2] at nx; exact nx
      · rw [if_neg (by omega), e2] at nx; exact nx
  · obtain rfl : k = l := by omega
    exact hQ
theorem wsF_e {n l : Nat} (h : ∀ r, r < n → ∃ q, q < l ∧ w (148 + 4 * r + 3) = i32 q) (h12 : l ≤ 12) : ∀ k, l ≤ k → k ≤ 12 → wsF w n k = wsF w n l := by
  have z : ∀ k, l ≤ k → k ≤ 12 → ∀ j, j ≤ n → tkF w k j = 0 := by
    intro k h1 h2 j
    induction j with
    | zero => intro _; rfl
    | succ j ih =>
      intro hj
      unfold tkF
      obtain ⟨q, q1, q2⟩ := h j (by omega)
      rw [if_neg (by rw [q2]; intro e; have := (i32_ij (by omega) (by omega)).mp e; omega)]
      exact ih (by omega)
  intro k
  induction k with
  | zero => intro h1 _; rw [show l = 0 by omega]
  | succ k ih =>
    intro h1 h2
    by_cases e : l = k + 1
    · rw [e]
    · show (if (wsF w n k).2 < tkF w k n then (i32 k, tkF w k n) else wsF w n k) = _
      rw [z k (by omega) (by omega) n (Nat.le_refl _), if_neg (by omega)]
      exact ih (by omega) (by omega)
theorem a_worst (h : CP B M) (hk : ∀ L, LawR M L → LawC M 8 L → ∀ r : Nat, (r : Int) < (M.1 191 6).toInt → ∃ q, q < L.1 ∧ M.1 191 (148 + 4 * r + 3) = i32 q) {N : Nat} : W_E_worst N M (fun y => ∀ N', W_m_worst N' M (fun b M2 => CP B M2 ∧ M2.1 190 0 = 0 ∧ y = b)) := by
  obtain ⟨L, hL, hR, hcl, hc, hg⟩ := CP_w h
  obtain ⟨n, hn, h6⟩ := log_n hg.1
  have l12 := hL.2.1
  unfold W_E_worst
  refine c_wst hc.2.2.2.2 h6 hn (fun N' => ?_)
  unfold W_m_worst
  refine r_wst (X := wi M 190 0 0) (w := M.1 191) (l := L.1) rfl h6 hn hcl l12 ⟨CP_0 h 0, wi_1e, ?_⟩
  rw [wsF_e (fun r hr => hk L hR hL r (by rw [h6, i32_i (by omega)]; omega)) l12 12 l12 (Nat.le_refl _)]
/-- the clauses that die with one -/
theorem tb_knT {x : Int32} {k : Nat} (hk : k < 32) : ∀ n, tb (knT w x n) k = true ↔ ∃ c, c < n ∧ tb x c = true ∧ tb (cl w c 1) k = true
  | 0 => by
    unfold knT
    rw [tb_0]
    exact ⟨(fun h => by cases h), fun ⟨c, h, _⟩ => absurd h (by omega)⟩
  | n + 1 => by
    unfold knT
    by_cases e : tb x n = true
    · rw [if_pos e, tb_or, Bool.or_eq_true, tb_knT hk n]
      constructor
      · rintro (⟨c, h1, h2⟩ | h)
        · exact ⟨c, by omega, h2⟩
        · exact ⟨n, by omega, e, h⟩
      · rintro ⟨c, h1, h2⟩
        by_cases e2 : c = n
        · subst e2; exact Or.inr h2.2
        · exact Or.inl ⟨c, by omega, h2⟩
    · rw [if_neg e, tb_knT hk n]
      constructor
      · rintro ⟨c, h1, h2⟩
        exact ⟨c, by omega, h2⟩
      · rintro ⟨c, h1, h2⟩
        by_cases e2 : c = n
        · subst e2; exact absurd h2.1 e
        · exact ⟨c, by omega, h2⟩
def dsF (w : RW) (c k : Nat) : Bool := decide (bs (knwF w k) (nC w) = sl 1 (i32 c))
theorem dsF_i {c k : Nat} (hw : WF w) (hc : c < nC w) : dsF w c k = true ↔ (alv w c = true ∧ tb (cl w c 1) k = true) ∧ ∀ o, o < nC w → o ≠ c → alv w o = true → tb (cl w o 1) k = false := by
  have hn := (nC_i hw).2.1
  unfold dsF
  rw [decide_eq_true_eq]
  constructor
  · intro h
    have bit : ∀ o, o < nC w → (alv w o && tb (cl w o 1) k) = decide (o = c) := fun o ho => by
      have := congrArg (fun x => tb x o) h
      rw [tb_bs _ _ (by omega) _ (by omega), tb_sl (by omega) (by omega), decide_eq_true ho, Bool.true_and] at this
      exact this
    refine ⟨?_, fun o ho hoc ha => ?_⟩
    · have := bit c hc
      rw [decide_eq_true rfl, Bool.and_eq_true] at this
      exact this
    · have := bit o ho
      rw [ha, decide_eq_false hoc, Bool.true_and] at this
      exact this
  · rintro ⟨⟨h1, h2⟩, h3⟩
    apply tb_ext
    intro o ho
    rw [tb_bs _ _ (by omega) _ ho, tb_sl (by omega) ho]
    by_cases e : o = c
    · subst e
      rw [decide_eq_true hc, decide_eq_true rfl]
      unfold knwF
      rw [h1, h2]; rfl
    · rw [decide_eq_false e]
      by_cases l : o < nC w
      · unfold knwF
        cases ha : alv w o with
        | false => rw [Bool.false_and, Bool.and_false]
        | true => rw [h3 o l e ha, Bool.and_false, Bool.and_false]
      · rw [decide_eq_false l, Bool.false_and]
theorem r_dis {c l N : Nat} {Q : Int32 → MM → Prop} (hx : X.1 191 = w) (hw : WF w) (hl : V_m_clauses X = i32 l) (h12 : l ≤ 12) (hQ : Q (bs (dsF w c) l) X) : W_m_dies_45 (i32 c) X Q N 0 0 := by
  refine I_m_dies_45 (i32 c) X Q (fun v2 v3 => ∃ k, k ≤ l ∧ v3 = i32 k ∧ v2 = bs (dsF w c) k) (fun N ih v2 v3 hih hv => ?_) N _ _ ⟨0, by omega, rfl, rfl⟩
  obtain ⟨k, hk, rfl, rfl⟩ := hv
  unfold B_m_dies_45
  rw [hl, i32_lt (by omega) (by omega)]
  refine ⟨fun hlt => ?_, fun hlt => ?_⟩
  · have nx : ih (bs (dsF w c) (k + 1)) (i32 k + 1) := hih _ _ ⟨k + 1, by omega, i32_s k, rfl⟩
    rw [bs_s] at nx
    refine r_knowers hx hw (by omega) ⟨fun e => ?_, fun e => ?_⟩
    · rw [if_pos (show dsF w c k = true from decide_eq_true e)] at nx; exact nx
    · rw [if_neg (show ¬ dsF w c k = true from fun h => e (of_decide_eq_true h))] at nx
      rw [Int32.or_zero]
      exact nx
  · obtain rfl : k = l := by omega
    exact hQ
theorem a_dies (h : CP B M) (hk : ∀ L, LawR M L → LawC M 8 L → ∀ c, c < nC (M.1 191) → ∀ k, k < 32 → tb (cl (M.1 191) c 1) k = true → k < L.1) {N : Nat} : W_E_dies p N M (fun y => ∀ z N', W_m_dies p N' (wj M 215 0 z) (fun b M2 => CP B M2 ∧ M2.1 190 0 = 0 ∧ y = b)) (fun ce => ∀ N', W_m_dies p N' M (fun _ M2 => CP B M2 ∧ M2.1 190 0 = if ce = 2 then 1 else 2)) := by
  obtain ⟨L, hL, hR, hcl, hc, hg⟩ := CP_w h
  have l12 := hL.2.1
  have hn := (nC_i hg.1).2.1
  unfold W_E_dies
  refine s_cit hc (fun hp => ?_) (fun hp N' => ?_)
  · obtain ⟨c, rfl, hcn, hc10⟩ := okc_c hg.1 hp
    refine s_alive hc hg.1 hcn (fun ha => ?_) (fun ha N' => ?_)
    · unfold W_Inquiry_knownByOnly
      refine c_knT hc hg.1 (fun z N' => ?_)
      have e1 : V_m_noCitizen (i32 c) (wi (wj M 215 0 z) 190 0 0) = 0 := (noc_e (M := M) (M1 := wj M 215 0 z) rfl).trans (noc_1 hg.1 hp)
      have e2 : V_m_isAlive (i32 c) (wi (wj M 215 0 z) 190 0 0) = 1 := (al_e (M := M) (M1 := wj M 215 0 z) rfl).trans (al_1 hc10 ha)
      unfold W_m_dies W_m_throwsIf
      simp only [e1, e2, e10, e10n, true_implies, false_implies, not_true_eq_false, not_false_eq_true, and_true, true_and, if_true]
      refine r_dis (X := wi (wj M 215 0 z) 190 0 0) (w := M.1 191) (l := L.1) rfl hg.1 hcl l12 ⟨CP_0 (CP_z h z) 0, wi_1e, ?_⟩
      rw [ni_i (by omega), show M.1 19 c = cl (M.1 191) c 1 from (hc.2.2.2.1 c hcn).1, hc.2.2.1]
      apply tb_ext
      intro k hk32
      rw [tb_and, tb_not hk32, tb_bs _ _ (by omega) _ hk32, Bool.eq_iff_iff, Bool.and_eq_true, Bool.and_eq_true, decide_eq_true_eq, dsF_i hg.1 hcn]
      have bit : ∀ o, o < nC (M.1 191) → tb (bs (alv (M.1 191)) (nC (M.1 191)) &&& (sl 1 (i32 c) ^^^ (-1))) o = (alv (M.1 191) o && !decide (o = c)) := fun o ho => by
        rw [tb_and, tb_not (by omega), tb_bs _ _ (by omega) _ (by omega), tb_sl (by omega) (by omega), decide_eq_true ho, Bool.true_and]
      constructor
      · rintro ⟨h1, h2⟩
        refine ⟨hk L hR hL c hcn k hk32 h1, ⟨ha, h1⟩, fun o ho hoc hal => ?_⟩
        cases ht : tb (cl (M.1 191) o 1) k with
        | false => rfl
        | true =>
          have := (tb_knT hk32 (nC (M.1 191))).mpr ⟨o, ho, by rw [bit o ho, hal, decide_eq_false hoc]; rfl, ht⟩
          rw [this] at h2
          cases h2
      · rintro ⟨_, ⟨_, h1⟩, h2⟩
        refine ⟨h1, ?_⟩
        cases ht : tb (knT (M.1 191) (bs (alv (M.1 191)) (nC (M.1 191)) &&& (sl 1 (i32 c) ^^^ (-1))) (nC (M.1 191))) k with
        | false => rfl
        | true =>
          obtain ⟨o, ho, t1, t2⟩ := (tb_knT hk32 (nC (M.1 191))).mp ht
          rw [bit o ho, Bool.and_eq_true, Bool.not_eq_true', decide_eq_false_iff_not] at t1
          rw [h2 o ho t1.2 t1.1] at t2
          cases t2
    · unfold W_m_dies W_m_throwsIf
      simp only [noc_1 hg.1 hp, al_0 hc10 ha, e10, e10n, true_implies, false_implies, not_true_eq_false, not_false_eq_true, and_true, true_and, if_true]
      exact CP_t h 2 (fun e => e)
  · unfold W_m_dies W_m_throwsIf
    simp only [noc_0 hg.1 hp, e10, e10n, true_implies, false_implies, not_true_eq_false, not_false_eq_true, and_true, true_and, if_true]
    exact CP_t h 1 (fun e => e)
end WST
