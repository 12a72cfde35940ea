/-! WHAT THE REFERENCE'S CELLS KEEP: bits below the clauses, arrests below ten a day -/
def KW (z : Int) (w : RW) : Prop := (∀ c, c < nC w → ∀ k, k < 32 → tb (cl w c 1) k = true → (k : Int) < z) ∧ (∀ r : Nat, (r : Int) < (w 6).toInt → ∃ q : Nat, q < 32 ∧ (q : Int) < z ∧ w (148 + 4 * r + 3) = i32 q) ∧ 0 ≤ (w 3).toInt ∧ (w 3).toInt ≤ 10 * (w 2).toInt
theorem KW_le {z z' : Int} {w : RW} (h : KW z w) (hz : z ≤ z') : KW z' w := ⟨fun c hc k hk hb => Int.lt_of_lt_of_le (h.1 c hc k hk hb) hz, fun r hr => by
  obtain ⟨q, q1, q2, q3⟩ := h.2.1 r hr
  exact ⟨q, q1, by omega, q3⟩, h.2.2⟩
/-- a row that says the same of that -/
theorem KW_s {z : Int} {w w' : RW} (h : KW z w) (h0 : nC w' = nC w) (h2 : w' 2 = w 2) (h3 : w' 3 = w 3) (h6 : w' 6 = w 6) (hk : ∀ c, c < nC w → cl w' c 1 = cl w c 1) (hl : ∀ r : Nat, (r : Int) < (w 6).toInt → w' (148 + 4 * r + 3) = w (148 + 4 * r + 3)) : KW z w' := by
  obtain ⟨a, b, c⟩ := h
  refine ⟨fun c' hc' k hk' hb => ?_, fun r hr => ?_, by rw [h3, h2]; exact c⟩
  · rw [h0] at hc'
    rw [hk c' hc'] at hb
    exact a c' hc' k hk' hb
  · rw [h6] at hr
    rw [hl r hr]
    exact b r hr
theorem KW_c {z : Int} {w w' : RW} (h : KW z w) (hw : WF w) (he : ∀ k, k < 388 → w' k = w k) : KW z w' := by
  have hn := (nC_i hw).2.1
  have h6 := hw.2.1.2
  exact KW_s h (by unfold nC; rw [he 0 (by omega)]) (he 2 (by omega)) (he 3 (by omega)) (he 6 (by omega)) (fun c hc => he _ (by omega)) (fun r hr => he _ (by omega))
/-- one cell that says nothing of it -/
theorem KW_1 {z : Int} {w : RW} {k : Nat} {x : Int32} (h : KW z w) (hw : WF w) (hk : k < 148) (h0 : k ≠ 0) (h2 : k ≠ 2) (h3 : k ≠ 3) (h6 : k ≠ 6) (h1 : ∀ c, k ≠ 18 + 13 * c + 1) : KW z (up1 w k x) :=
  KW_s h (by unfold nC; rw [up1_n (by omega)]) (up1_n (by omega)) (up1_n (by omega)) (up1_n (by omega)) (fun c _ => up1_n (fun e => h1 c e.symm)) (fun r _ => up1_n (by omega))
/-- what one knows -/
theorem KW_k {z : Int} {w : RW} {c : Nat} {x : Int32} (h : KW z w) (hc : c < 10) (hx : ∀ k, k < 32 → tb x k = true → (k : Int) < z) : KW z (up1 w (18 + 13 * c + 1) x) := by
  obtain ⟨a, b, d⟩ := h
  have e0 : nC (up1 w (18 + 13 * c + 1) x) = nC w := by unfold nC; rw [up1_n (by omega)]
  refine ⟨fun c' hc' k hk hb => ?_, fun r hr => ?_, by rw [up1_n (by omega), up1_n (by omega)]; exact d⟩
  · rw [e0] at hc'
    rw [cl_up (by omega) (by omega)] at hb
    by_cases e : c' = c ∧ 1 = 1
    · rw [if_pos e] at hb
      exact hx k hk hb
    · rw [if_neg e] at hb
      exact a c' hc' k hk hb
  · rw [up1_n (by omega)] at hr
    rw [up1_n (by omega)]
    exact b r hr
theorem KW_b {z : Int} {w : RW} {c : Nat} (h : KW z w) (hc : c < nC w) : ∀ k, k < 32 → tb (cl w c 1) k = true → (k : Int) < z := h.1 c hc
def DBR (z : Int) (M : MM) : Prop := ∀ k : Nat, (k : Int) < z → ∃ d, d < 8 ∧ M.1 201 (4 * k + 1) = i32 d
/-- all but the world that is -/
def KR (z : Int) (M : MM) : Prop := (M.1 190 15).toInt = z ∧ DBR z M ∧ (∃ m hh, RMm M m hh ∧ ∀ i, i < m → WF (hh i).1 ∧ KW z (hh i).1) ∧ (M.1 190 11 = 0 ∨ ((M.1 190 16 = -1 ∨ M.1 190 16 = M.1 190 15) ∧ WF (M.1 192) ∧ KW (M.1 190 16).toInt (M.1 192)))
def KI (M : MM) : Prop := ∃ z, KR z M ∧ KW z (M.1 191)
def kik (l : List (Nat × Nat × Option Nat)) : Bool := (fpf l 190 11 && (fpf l 190 15 && fpf l 190 16)) && (rmk l && (fpo l 192 192 && fpo l 201 201))
theorem KR_e {z : Int} {M M' : MM} {l : List (Nat × Nat × Option Nat)} (h : KR z M) (e : Eqo l M M') (hl : kik l = true) : KR z M' := by
  unfold kik at hl
  simp only [Bool.and_eq_true] at hl
  obtain ⟨⟨l1, l2, l3⟩, l4, l5, l6⟩ := hl
  obtain ⟨a, b, ⟨m, hh, hr, hi⟩, d⟩ := h
  refine ⟨by rw [eq1 e l2]; exact a, fun k hk => by rw [eqb e l6 (Nat.le_refl _) (Nat.le_refl _)]; exact b k hk, ⟨m, hh, RMm_eq hr e l4, hi⟩, ?_⟩
  rw [eq1 e l1, eq1 e l2, eq1 e l3, eqb e l5 (Nat.le_refl _) (Nat.le_refl _)]
  exact d
theorem KI_e {M M' : MM} {l : List (Nat × Nat × Option Nat)} (h : KI M) (e : Eqo l M M') (hl : (kik l && fpo l 191 191) = true) : KI M' := by
  rw [Bool.and_eq_true] at hl
  obtain ⟨z, h1, h2⟩ := h
  exact ⟨z, KR_e h1 e hl.1, by rw [eqb e hl.2 (Nat.le_refl _) (Nat.le_refl _)]; exact h2⟩
theorem KI_0 {M : MM} (h : KI M) (x : Int32) : KI (wi M 190 0 x) := KI_e h eqo_1 rfl
theorem KI_z {M : MM} (h : KI M) (z : Int64) : KI (wj M 215 0 z) := KI_e h eqo_z rfl
theorem KI_w {z : Int} {M M' : MM} (h : KR z M) (e : Eqo [(191, 191, none)] M M') (hw : KW z (M'.1 191)) : KI M' := ⟨z, KR_e h e rfl, hw⟩
section KIN
variable {B : Int} {M : MM} {p q : Int32} {N : Nat}
theorem k_rem2 {Q : MM → Prop} (hw : WF (M.1 191)) (k : KI M) (hQ : ∀ M11, KR (M.1 190 15).toInt M11 → M11.1 191 = M.1 191 → KW (M.1 190 15).toInt (M.1 191) → Eqo fp_m_remembers M M11 → Q M11) : W_m_remembers N M Q := by
  obtain ⟨z, ⟨a, b, ⟨m, hh, hr, hi⟩, d⟩, kw⟩ := k
  subst a
  refine r_rem hr (fun M11 h1 h2 => hQ M11 ⟨?_, ?_, ⟨_, _, h1, fun i hi' => ?_⟩, ?_⟩ (eqb h2 (lo := 191) (hi := 191) rfl (Nat.le_refl _) (Nat.le_refl _)) kw h2)
  · rw [eq1 h2 (b := 190) (k := 15) rfl]
  · intro k hk
    rw [eqb h2 (lo := 201) (hi := 201) rfl (Nat.le_refl _) (Nat.le_refl _)]
    exact b k hk
  · match i, hi' with
    | 0, _ => exact ⟨hw, kw⟩
    | i + 1, hi' => exact hi i (by omega)
  · rw [eq1 h2 (b := 190) (k := 11) rfl, eq1 h2 (b := 190) (k := 15) rfl, eq1 h2 (b := 190) (k := 16) rfl, eqb h2 (lo := 192) (hi := 192) rfl (Nat.le_refl _) (Nat.le_refl _)]
    exact d
theorem k_rem {Q : MM → Prop} (hw : WF (M.1 191)) (k : KI M) (hQ : ∀ M11, KR (M.1 190 15).toInt M11 → M11.1 191 = M.1 191 → KW (M.1 190 15).toInt (M.1 191) → Q M11) : W_m_remembers N M Q := k_rem2 hw k (fun M11 a b c _ => hQ M11 a b c)
/-- what the reference's cells alone say of the law and the world -/
def RG (B : Int) (M : MM) : Prop := ∃ L, L.1 ≤ 12 ∧ LawR M L ∧ V_m_clauses M = i32 L.1 ∧ ((M.1 190 15 = -1 ∧ L.1 = 0) ∨ M.1 190 15 = i32 L.1) ∧ GW B (M.1 191)
theorem RG_cp (h : CP B M) : RG B M := by
  obtain ⟨nc, n1, n2, n3⟩ := CP_n h
  obtain ⟨-, -, ⟨L, h3, h4, h5, -⟩, ⟨-, hg⟩, -⟩ := h
  refine ⟨L, h3.2.1, h4, by rw [n3, ← n2, h3.1], ?_, hg⟩
  rcases h5 with ⟨a, -, b⟩ | ⟨a, -⟩
  · exact Or.inl ⟨a, b⟩
  · exact Or.inr a
def rgk (l : List (Nat × Nat × Option Nat)) : Bool := fpf l 190 15 && (fpo l 201 202 && fpo l 191 191)
theorem RG_e {M' : MM} {l : List (Nat × Nat × Option Nat)} (h : RG B M) (e : Eqo l M M') (hl : rgk l = true) : RG B M' := by
  unfold rgk at hl
  simp only [Bool.and_eq_true] at hl
  obtain ⟨l1, l2, l3⟩ := hl
  obtain ⟨L, a, b, c, d, f⟩ := h
  refine ⟨L, a, LawR_eq b e l2, ?_, by rw [eq1 e l1]; exact d, by rw [eqb e l3 (Nat.le_refl _) (Nat.le_refl _)]; exact f⟩
  unfold V_m_clauses at c ⊢
  rw [eq1 e l1]
  exact c
theorem RG_w (h : RG B M) : GW B (M.1 191) := by
  obtain ⟨L, -, -, -, -, g⟩ := h
  exact g
theorem RG_z {L : LWT} (d : (M.1 190 15 = -1 ∧ L.1 = 0) ∨ M.1 190 15 = i32 L.1) (hL : L.1 ≤ 12) (j : Nat) (hj : j < L.1) : (j : Int) < (M.1 190 15).toInt := by
  rcases d with ⟨-, d⟩ | d
  · omega
  · rw [d, i32_i (by omega)]
    omega
theorem k_seed (h : RG B M) (k : KI M) : W_m_seed p N M (fun _ M2 => KI M2) := by
  have hg := RG_w h
  obtain ⟨z, kr, kw⟩ := k
  unfold W_m_seed
  refine KI_w (M := wi M 190 0 0) (KR_e kr eqo_1 rfl) eqo_a ?_
  rw [wi_row (M1 := wi M 190 0 0) (w := M.1 191) rfl]
  exact KW_1 kw hg.1 (by show 9 < 148; omega) (by decide) (by decide) (by decide) (by decide) (fun c => by show ¬ 9 = _; omega)
theorem k_release (h : RG B M) (k : KI M) : W_m_release p N M (fun _ M2 => KI M2) := by
  have hg := RG_w h
  unfold W_m_release W_m_throwsIf
  cases hp : okc M p with
  | false =>
    simp only [noc_0 hg.1 hp, e10, e10n, true_implies, false_implies, not_true_eq_false, not_false_eq_true, and_true, true_and, if_true]
    exact KI_0 (KI_0 k 0) 1
  | true =>
    obtain ⟨c, rfl, hcn, hc10⟩ := okc_c hg.1 hp
    simp only [noc_1 hg.1 hp, e10, e10n, true_implies, false_implies, not_true_eq_false, not_false_eq_true, and_true, true_and, if_true]
    refine ⟨fun _ => KI_0 (KI_0 k 0) 2, fun _ => ⟨fun _ => KI_0 (KI_0 k 0) 2, fun _ => k_rem hg.1 (KI_0 k 0) (fun M11 r1 r2 r3 => ?_)⟩⟩
    unfold W_m_sets
    rw [show ni ((18 + (13 * i32 c)) + 3) = 18 + 13 * c + 3 from ofs (i := 3) (by omega) (by omega)]
    refine KI_w r1 eqo_a ?_
    rw [wi_row r2]
    exact KW_1 r3 hg.1 (by omega) (by omega) (by omega) (by omega) (by omega) (fun c' => by omega)
theorem k_tell (h : RG B M) (k : KI M) : W_m_tell p q N M (fun _ M2 => KI M2) := by
  obtain ⟨L, l12, hR, hcl, hd, hg⟩ := h
  unfold W_m_tell W_m_throwsIf
  cases hp : okc M p with
  | false =>
    simp only [noc_0 hg.1 hp, e10, e10n, true_implies, false_implies, not_true_eq_false, not_false_eq_true, and_true, true_and, if_true]
    exact KI_0 (KI_0 k 0) 1
  | true =>
    obtain ⟨c, rfl, hcn, hc10⟩ := okc_c hg.1 hp
    have ec : (V_m_clauses (wi M 190 0 0) - 1).toInt = (L.1 : Int) - 1 := by
      rw [show V_m_clauses (wi M 190 0 0) = i32 L.1 from hcl, i32_sub (by rw [i32_i (by omega), show (1 : Int32).toInt = 1 from rfl]; omega) (by rw [i32_i (by omega), show (1 : Int32).toInt = 1 from rfl]; omega), i32_i (by omega)]
      rfl
    have suc : (0 ≤ q.toInt ∧ q.toInt < (L.1 : Int)) → W_m_remembers N (wi M 190 0 0) (fun M19 => W_m_sets (i32 c) 1 ((V_m_of (i32 c) 1 M19) ||| (sl 1 q)) N M19 (fun M21 => KI M21)) := fun hq => by
      refine k_rem hg.1 (KI_0 k 0) (fun M11 r1 r2 r3 => ?_)
      have r2 : M11.1 191 = M.1 191 := r2
      have r3 : KW (M.1 190 15).toInt (M.1 191) := by
        rw [show (wi M 190 0 0).1 190 15 = M.1 190 15 from wi_1n (by omega)] at r3
        exact r3
      rw [show (wi M 190 0 0).1 190 15 = M.1 190 15 from wi_1n (by omega)] at r1
      unfold W_m_sets
      rw [show ni ((18 + (13 * i32 c)) + 1) = 18 + 13 * c + 1 from ofs (i := 1) (by omega) (by omega), show V_m_of (i32 c) 1 M11 = cl (M.1 191) c 1 from of_row (i := 1) r2 hc10 (by omega)]
      refine KI_w r1 eqo_a ?_
      rw [wi_row r2]
      refine KW_k r3 hc10 (fun j hj hb => ?_)
      rw [tb_or, Bool.or_eq_true] at hb
      rcases hb with hb | hb
      · exact r3.1 c hcn j hj hb
      · rw [i32_of (x := q) (j := q.toInt.toNat) (by omega), tb_sl (by omega) hj, decide_eq_true_eq] at hb
        subst hb
        exact RG_z hd l12 _ (by omega)
    have hnk : V_m_noClause q (wi M 190 0 0) = b32 (!decide (0 ≤ q.toInt ∧ q.toInt < (L.1 : Int))) := by
      unfold V_m_noClause
      rw [v_in, ec, show (0 : Int32).toInt = 0 from rfl]
      by_cases hq : 0 ≤ q.toInt ∧ q.toInt < (L.1 : Int)
      · rw [decide_eq_true hq, decide_eq_true (by omega), b32_1, if_neg (by decide)]; rfl
      · rw [decide_eq_false hq, decide_eq_false (by omega), b32_0, if_pos rfl]; rfl
    by_cases hq : 0 ≤ q.toInt ∧ q.toInt < (L.1 : Int)
    · rw [decide_eq_true hq] at hnk
      have hnk' : V_m_noClause q (wi M 190 0 0) = 0 := hnk
      simp only [noc_1 hg.1 hp, hnk', e10, e10n, true_implies, false_implies, not_true_eq_false, not_false_eq_true, and_true, true_and, if_true]
      refine ⟨fun _ => KI_0 (KI_0 k 0) 2, fun _ => ⟨fun _ => suc hq, fun _ => KI_0 (KI_0 k 0) 2⟩⟩
    · rw [decide_eq_false hq] at hnk
      have hnk' : V_m_noClause q (wi M 190 0 0) = 1 := hnk
      simp only [noc_1 hg.1 hp, hnk', e10, e10n, true_implies, false_implies, not_true_eq_false, not_false_eq_true, and_true, true_and, if_true]
      exact KI_0 (KI_0 k 0) 1
end KIN
