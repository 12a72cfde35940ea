/-! ANSWERS: a clause -/
section CLA
variable {B : Int} {M X : MM} {p q : Int32}
theorem okk_L {L : LWT} (hL : LawC M 8 L) (h : okk M q = true) : ∃ k, q = i32 k ∧ k < L.1 := by
  have h' := of_decide_eq_true h
  have l12 := hL.2.1
  have e8 : (M.1 8 1).toInt = (L.1 : Int) := by rw [hL.1, i32_i (by omega)]
  exact ⟨q.toInt.toNat, i32_of (by omega), by omega⟩
theorem a_clause (h : CP B M) (hB : 0 ≤ B ∧ B ≤ 28000) (hdb : ∀ L, LawR M L → LawC M 8 L → DB L) {N : Nat} : W_E_clause p q N M (fun y M1 => ∀ z N', W_m_clause p q N' (wj M1 215 0 z) (fun b M2 => CP B M2 ∧ M2.1 190 0 = 0 ∧ y = b)) (fun ce M1 => ∀ N', W_m_clause p q N' M1 (fun _ M2 => CP B M2 ∧ M2.1 190 0 = if ce = 2 then 1 else 2)) := by
  obtain ⟨L, hL, hR, hcl, hc, hg⟩ := CP_w h
  have hd := dok_g hg hB
  have l12 := hL.2.1
  unfold W_E_clause
  refine s_cla (fun hq => ?_) (fun hq N' => ?_)
  · obtain ⟨k, rfl, hk⟩ := okk_L hL hq
    have a15 : ∀ (M1 : MM) z, CP B M1 → M1.1 190 15 = M.1 190 15 → V_m_noClause (i32 k) (wi (wj M1 215 0 z) 190 0 0) = 0 := fun M1 z h1 e => (nok_e (M := M) (M1 := wj M1 215 0 z) e).trans (nok_1 h hq)
    have dem : ∀ Y : MM, LawR Y L → V_m_demands (i32 k) Y = L.2.1 k := fun Y hY => by
      unfold V_m_demands
      rw [show (4 : Int32) * i32 k = i32 (4 * k) from i32_m 4 k, ni_i (by omega)]
      exact (hY.2 k hk).1
    have dee : ∀ Y : MM, LawR Y L → V_m_deedOf (i32 k) Y = L.2.2.1 k := fun Y hY => by
      unfold V_m_deedOf
      rw [show (4 : Int32) * i32 k = i32 (4 * k) from i32_m 4 k, i32_s, ni_i (by omega)]
      exact (hY.2 k hk).2.1
    have hRz : ∀ z, LawR (wi (wj M 215 0 z) 190 0 0) L := fun z => hR
    refine ⟨fun e => ?_, fun e => ?_, fun e => ?_, fun e => ?_, fun e => ?_, fun n0' n1' n2' n3' n4' N' => ?_⟩
    · subst e
      intro z N'
      have ein : ∀ Y : MM, V_m_in 0 0 4 Y = 1 := fun Y => rfl
      unfold W_m_clause W_m_throwsIf V_E_bit
      simp only [show ((0 : Int32) = 1) = False from eq_false (by decide), show ((0 : Int32) = 2) = False from eq_false (by decide), show ((0 : Int32) = 3) = False from eq_false (by decide), a15 M z h rfl, ein, dem _ (hRz z), e10, e10n, true_implies, false_implies, not_true_eq_false, not_false_eq_true, and_true, true_and, if_true]
      rw [(hL.2.2.2 k hk).1]
      rcases KD_R hR k hk with e0 | e0 <;> rw [e0]
      · exact ⟨fun _ => ⟨CP_0 (CP_z h z) 0, wi_1e, rfl⟩, fun hb => absurd rfl hb⟩
      · exact ⟨fun hb => absurd hb (by decide), fun _ => ⟨CP_0 (CP_z h z) 0, wi_1e, rfl⟩⟩
    · subst e
      intro z N'
      have ein : ∀ Y : MM, V_m_in 1 0 4 Y = 1 := fun Y => rfl
      unfold W_m_clause W_m_throwsIf
      simp only [show ((1 : Int32) = 0) = False from eq_false (by decide), show ((1 : Int32) = 2) = False from eq_false (by decide), show ((1 : Int32) = 3) = False from eq_false (by decide), a15 M z h rfl, ein, dee _ (hRz z), e10, e10n, true_implies, false_implies, not_true_eq_false, not_false_eq_true, and_true, true_and, if_true]
      exact ⟨CP_0 (CP_z h z) 0, wi_1e, by rw [ni_i (by omega)]; exact (hL.2.2.2 k hk).2.1⟩
    · subst e
      refine c_force hc hg.1 (fun z N' => ?_)
      have ein : ∀ Y : MM, V_m_in 2 0 4 Y = 1 := fun Y => rfl
      unfold W_m_clause W_m_throwsIf V_E_bit
      simp only [show ((2 : Int32) = 0) = False from eq_false (by decide), show ((2 : Int32) = 1) = False from eq_false (by decide), show ((2 : Int32) = 3) = False from eq_false (by decide), a15 M z h rfl, ein, e10, e10n, true_implies, false_implies, not_true_eq_false, not_false_eq_true, and_true, true_and, if_true]
      exact r_force hg.1 (w := M.1 191) rfl ⟨CP_0 (CP_z h z) 0, wi_1e, rfl⟩
    · subst e
      refine c_knowers hc hg.1 (by omega) (fun z N' => ?_)
      have ein : ∀ Y : MM, V_m_in 3 0 4 Y = 1 := fun Y => rfl
      unfold W_m_clause W_m_throwsIf
      simp only [show ((3 : Int32) = 0) = False from eq_false (by decide), show ((3 : Int32) = 1) = False from eq_false (by decide), show ((3 : Int32) = 2) = False from eq_false (by decide), a15 M z h rfl, ein, e10, e10n, true_implies, false_implies, not_true_eq_false, not_false_eq_true, and_true, true_and, if_true]
      exact r_knowers (w := M.1 191) rfl hg.1 (by omega) ⟨CP_0 (CP_z h z) 0, wi_1e, rfl⟩
    · subst e
      obtain ⟨d, hd8, ed⟩ := hdb L hR hL k hk
      refine and_Inquiry_contradicting (Q1 := fun y _ => y = bs (ctr L (M.1 191) k) L.1) (fun y M1 hy h1 z N' => ?_) ?_ (an_Inquiry_contradicting (Q := fun _ M1 => Eqo fp_Inquiry_contradicting M M1) (fun _ _ e => e))
      · subst hy
        have hp : CP B M1 := CP_eq h h1 rfl
        have e15 := eq1 h1 (b := 190) (k := 15) rfl
        have x191 : M1.1 191 = M.1 191 := eqb h1 (lo := 191) (hi := 191) rfl (Nat.le_refl _) (Nat.le_refl _)
        have ein : ∀ Y : MM, V_m_in 4 0 4 Y = 1 := fun Y => rfl
        unfold W_m_clause W_m_throwsIf
        simp only [show ((4 : Int32) = 0) = False from eq_false (by decide), show ((4 : Int32) = 1) = False from eq_false (by decide), show ((4 : Int32) = 2) = False from eq_false (by decide), show ((4 : Int32) = 3) = False from eq_false (by decide), a15 M1 z hp e15, ein, e10, e10n, true_implies, false_implies, not_true_eq_false, not_false_eq_true, and_true, true_and, if_true]
        have hRx : LawR (wi (wj M1 215 0 z) 190 0 0) L := LawR_eq (LawR_eq (LawR_eq hR h1 rfl) (eqo_z (z := z)) rfl) eqo_1 rfl
        have hnx : V_m_clauses (wi (wj M1 215 0 z) 190 0 0) = i32 L.1 := (show V_m_clauses (wi (wj M1 215 0 z) 190 0 0) = V_m_clauses M by unfold V_m_clauses; rw [wi_1n (by omega)]; show mx 0 (M1.1 190 15) = _; rw [e15]).trans hcl
        refine r_ctrs (X0 := wi (wj M1 215 0 z) 190 0 0) (w := M.1 191) (eqo_rf _) x191 hRx hnx hg.1 hd (hdb L hR hL) hk (fun X' hS _ => ⟨CP_eq (CP_0 (CP_z hp z) 0) hS rfl, ?_, rfl⟩)
        rw [eq1 hS (b := 190) (k := 0) rfl]
        exact wi_1e
      · unfold W_Inquiry_contradicting
        refine c_clrO l12 (fun M2 h2 o2 => ?_)
        rw [ni_i (by omega), show M2.1 9 k = i32 d from by rw [eqb o2 (lo := 9) (hi := 9) rfl (Nat.le_refl _) (Nat.le_refl _)]; exact (hL.2.2.2 k hk).2.1.trans ed]
        refine c_findO (OT_w o2 hc) hg.1 (OT_L o2 hL) hd hd8 h2 (fun M4 h4 o4 => ?_)
        rw [h4 k hk]
        dsimp only
        rw [Int32.zero_or]
        exact foC_e l12 (KD_R hR) (hdb L hR hL) hk hd8 ed
    · have hr : ¬ (0 ≤ q.toInt ∧ q.toInt ≤ 4) := fun hr => by
        obtain ⟨k, hk, ek⟩ := lit_r (q := q) (n := 5) (by omega)
        have : k = 0 ∨ k = 1 ∨ k = 2 ∨ k = 3 ∨ k = 4 := by omega
        rcases this with e | e | e | e | e <;> subst e
        · exact n0' ek
        · exact n1' ek
        · exact n2' ek
        · exact n3' ek
        · exact n4' ek
      have ein : ∀ Y : MM, V_m_in q 0 4 Y = 0 := fun Y => by rw [v_in, decide_eq_false (show ¬ ((0 : Int32).toInt ≤ q.toInt ∧ q.toInt ≤ (4 : Int32).toInt) from hr)]; rfl
      unfold W_m_clause W_m_throwsIf
      simp only [nok_1 h hq, ein, e10, e10n, true_implies, false_implies, not_true_eq_false, not_false_eq_true, and_true, true_and, if_true]
      exact CP_t h 2 (fun e => e)
  · unfold W_m_clause W_m_throwsIf
    simp only [nok_0 h hq, e10, e10n, true_implies, false_implies, not_true_eq_false, not_false_eq_true, and_true, true_and, if_true]
    exact CP_t h 1 (fun e => e)
end CLA
