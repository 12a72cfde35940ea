/-! THE COUPLING, with what the reference's cells keep (printed by wip/eq/gen93.py) -/
def CK (B : Int) (M : MM) : Prop := CP B M ∧ KI M
def LMK (B : Int) (C : List AC) : Prop := ∃ M : MM, mm tb_G M.1 M.2 C ∧ CK B M
theorem CK_le {B B' : Int} {M : MM} (h : CK B M) (hB : B ≤ B') : CK B' M := ⟨CP_le h.1 hB, h.2⟩
theorem LMK_le {B B' : Int} {C : List AC} (h : LMK B C) (hB : B ≤ B') : LMK B' C := by
  obtain ⟨M, h1, h2⟩ := h
  exact ⟨M, h1, CK_le h2 hB⟩
def SWK (B : Int) (_ : Option AV) (M1 : MM) : Prop := CK B M1
def SXK (B : Int) (_ : Nat) (M1 : MM) : Prop := CK B M1
theorem wzk_w {cs : List (Nat × Int32)} {B : Int} {k : Int32} {C' : List AC} (h : wz_Z cs (SWK B) (SXK B) k C') : ∃ Mx : MM, mm tb_G Mx.1 Mx.2 C' ∧ CK B Mx := by
  rcases h with ⟨-, v, y, M1, -, h1, h2⟩ | ⟨ce, M1, -, h1, h2⟩
  · exact ⟨_, h2, CP_eq h1.1 eqo_z rfl, KI_z h1.2 _⟩
  · exact ⟨_, h2, h1⟩
section CKS
variable {B : Int} {M : MM}
theorem RG_k {M' : MM} (h : RG B M) (z : Int64) (e : M' = wj M 215 0 z) : RG B M' := by
  subst e
  exact RG_e h eqo_z rfl
/-- how many clauses there are, as the reference counts them -/
theorem kc_n (h : CP B M) : ∀ L, LawR M L → LawC M 8 L → (M.1 190 15 = -1 ∧ L.1 = 0) ∨ M.1 190 15 = i32 L.1 := by
  intro L hR hL
  obtain ⟨-, -, ⟨L0, h3, h4, h5, -⟩, -⟩ := h
  have e : L.1 = L0.1 := by
    have e1 : i32 L.1 = i32 L0.1 := hL.1.symm.trans h3.1
    have a1 := hL.2.1
    have a2 := h3.2.1
    have e2 := congrArg Int32.toInt e1
    rw [i32_i (by omega), i32_i (by omega)] at e2
    omega
  rw [e]
  rcases h5 with ⟨a, -, b⟩ | ⟨a, -⟩
  · exact Or.inl ⟨a, b⟩
  · exact Or.inr a
theorem kc_z (h : CP B M) {L : LWT} (hR : LawR M L) (hL : LawC M 8 L) {j : Int} (hj : 0 ≤ j) : j < (M.1 190 15).toInt ↔ j < (L.1 : Int) := by
  have l12 := hL.2.1
  rcases kc_n h L hR hL with ⟨a, b⟩ | a
  · rw [a, b, show (-1 : Int32).toInt = -1 from rfl]
    omega
  · rw [a, i32_i (by omega)]
theorem kc_db (h : CK B M) : ∀ L, LawR M L → LawC M 8 L → DB L := by
  intro L hR hL k hk
  obtain ⟨z, ⟨a, b, -⟩, -⟩ := h.2
  subst a
  obtain ⟨d, d8, e⟩ := b k ((kc_z h.1 hR hL (by omega)).mpr (by omega))
  exact ⟨d, d8, (hR.2 k hk).2.1.symm.trans e⟩
theorem kc_bits (h : CK B M) : ∀ L, LawR M L → LawC M 8 L → ∀ c, c < nC (M.1 191) → ∀ k, k < 32 → tb (cl (M.1 191) c 1) k = true → k < L.1 := by
  intro L hR hL c hc k hk hb
  obtain ⟨z, ⟨a, -⟩, w⟩ := h.2
  subst a
  have := (kc_z h.1 hR hL (by omega)).mp (w.1 c hc k hk hb)
  omega
theorem kc_log (h : CK B M) : ∀ L, LawR M L → LawC M 8 L → ∀ r : Nat, (r : Int) < (M.1 191 6).toInt → ∃ q, q < L.1 ∧ M.1 191 (148 + 4 * r + 3) = i32 q := by
  intro L hR hL r hr
  obtain ⟨z, ⟨a, -⟩, w⟩ := h.2
  subst a
  obtain ⟨q, q1, q2, q3⟩ := w.2.1 r hr
  have := (kc_z h.1 hR hL (by omega)).mp q2
  exact ⟨q, by omega, q3⟩
theorem kc_arr (h : CK B M) : 0 ≤ (M.1 191 3).toInt ∧ (M.1 191 3).toInt ≤ 10 * (M.1 191 2).toInt := by
  obtain ⟨z, -, w⟩ := h.2
  exact w.2.2
theorem ck_feed {y1 y2 y3 y4 y5 : Int32} (h : CK B M) {N : Nat} : W_E_feed y1 y2 y3 y4 y5 N M (fun y M1 => ∀ N', W_m_feed y1 y2 y3 y4 y5 N' M1 (fun b M2 => CK B M2 ∧ M2.1 190 0 = 0 ∧ y = b)) := by
  refine and_E_feed (Q2 := fun _ M1 => Eqo fp_E_feed M M1) (fun y M1 h1 e N' => ?_) (a_feed h.1) (an_E_feed (fun _ _ e => e))
  exact and_m_feed (Q2 := fun _ M2 => KI M2) (fun b M2 h1 k => ⟨⟨h1.1, k⟩, h1.2⟩) (h1 N') (km_feed (KI_e h.2 e rfl))
theorem ck_end {y1 : Int32} (h : CK B M) {N : Nat} : W_E_end y1 N M (fun y M1 => ∀ N', W_m_end y1 N' M1 (fun b M2 => CK B M2 ∧ M2.1 190 0 = 0 ∧ y = b)) := by
  refine and_E_end (Q2 := fun _ M1 => Eqo fp_E_end M M1) (fun y M1 h1 e N' => ?_) (a_end h.1) (an_E_end (fun _ _ e => e))
  exact and_m_end (Q2 := fun _ M2 => KI M2) (fun b M2 h1 k => ⟨⟨h1.1, k⟩, h1.2⟩) (h1 N') (km_end (KI_e h.2 e rfl))
theorem ck_code (h : CK B M) {N : Nat} : W_E_code N M (fun y M1 => ∀ z N', W_m_code N' (wj M1 215 0 z) (fun b M2 => CK B M2 ∧ M2.1 190 0 = 0 ∧ y = b)) (fun ce M1 => ∀ N', W_m_code N' M1 (fun _ M2 => CK B M2 ∧ M2.1 190 0 = if ce = 0 then 1 else 2)) := by
  refine and_E_code (Q2 := fun _ M1 => Eqo fp_E_code M M1) (E2 := fun _ M1 => Eqo fp_E_code M M1) (fun y M1 h1 e z N' => ?_) (fun ce M1 h1 e N' => ?_) (a_code h.1) (an_E_code (fun _ _ e => e) (fun _ _ e => e))
  · exact and_m_code (Q2 := fun _ M2 => KI M2) (fun b M2 h1 k => ⟨⟨h1.1, k⟩, h1.2⟩) (h1 z N') (k_code (RG_e (RG_e (RG_cp h.1) e rfl) eqo_z rfl) (KI_z (KI_e h.2 e rfl) z))
  · exact and_m_code (Q2 := fun _ M2 => KI M2) (fun b M2 h1 k => ⟨⟨h1.1, k⟩, h1.2⟩) (h1 N') (k_code (RG_e (RG_cp h.1) e rfl) (KI_e h.2 e rfl))
theorem ck_republic (h : CK B M) {N : Nat} : W_E_republic N M (fun y M1 => ∀ z N', W_m_republic N' (wj M1 215 0 z) (fun b M2 => CK B M2 ∧ M2.1 190 0 = 0 ∧ y = b)) (fun ce M1 => ∀ N', W_m_republic N' M1 (fun _ M2 => CK B M2 ∧ M2.1 190 0 = if ce = 0 then 1 else 2)) := by
  refine and_E_republic (fun y M1 h1 h2 z N' => ?_) (fun ce M1 h1 h2 N' => ?_) (a_republic h.1) (k_republic h.1 h.2)
  · exact and_m_republic (fun b M2 h1 k => ⟨⟨h1.1, k⟩, h1.2⟩) (h1 z N') (h2 z N')
  · exact and_m_republic (fun b M2 h1 k => ⟨⟨h1.1, k⟩, h1.2⟩) (h1 N') (h2 N')
theorem ck_fault (h : CK B M) : ∀ N', W_m_fault N' M (fun b M2 => CK B M2 ∧ M2.1 190 0 = 0 ∧ V_E_fault M = b) := fun N' => and_m_fault (Q2 := fun _ M2 => KI M2) (fun b M2 h1 k => ⟨⟨h1.1, k⟩, h1.2⟩) (a_fault h.1 N') (km_fault h.2)
theorem ck_clause {y1 y2 : Int32} (h : CK B M) (hB : 0 ≤ B ∧ B ≤ 28000) {N : Nat} : W_E_clause y1 y2 N M (fun y M1 => ∀ z N', W_m_clause y1 y2 N' (wj M1 215 0 z) (fun b M2 => CK B M2 ∧ M2.1 190 0 = 0 ∧ y = b)) (fun ce M1 => ∀ N', W_m_clause y1 y2 N' M1 (fun _ M2 => CK B M2 ∧ M2.1 190 0 = if ce = 2 then 1 else 2)) := by
  refine and_E_clause (Q2 := fun _ M1 => Eqo fp_E_clause M M1) (E2 := fun _ M1 => Eqo fp_E_clause M M1) (fun y M1 h1 e z N' => ?_) (fun ce M1 h1 e N' => ?_) (a_clause h.1 hB (kc_db h)) (an_E_clause (fun _ _ e => e) (fun _ _ e => e))
  · exact and_m_clause (Q2 := fun _ M2 => KI M2) (fun b M2 h1 k => ⟨⟨h1.1, k⟩, h1.2⟩) (h1 z N') (km_clause (KI_z (KI_e h.2 e rfl) z))
  · exact and_m_clause (Q2 := fun _ M2 => KI M2) (fun b M2 h1 k => ⟨⟨h1.1, k⟩, h1.2⟩) (h1 N') (km_clause (KI_e h.2 e rfl))
theorem fmk_citizen {y1 y2 : Int32} (h : CK B M) {N : Nat} : W_m_citizen y1 y2 N M (fun _ M1 => CK B M1) := and_m_citizen (Q2 := fun _ M2 => KI M2) (fun b M2 h1 k => ⟨h1, k⟩) (fm_citizen h.1) (km_citizen h.2)
theorem fmk_seen {y1 : Int32} (h : CK B M) {N : Nat} : W_m_seen y1 N M (fun _ M1 => CK B M1) := and_m_seen (Q2 := fun _ M2 => KI M2) (fun b M2 h1 k => ⟨h1, k⟩) (fm_seen h.1) (km_seen h.2)
theorem fmk_habit {y1 y2 : Int32} (h : CK B M) {N : Nat} : W_m_habit y1 y2 N M (fun _ M1 => CK B M1) := and_m_habit (Q2 := fun _ M2 => KI M2) (fun b M2 h1 k => ⟨h1, k⟩) (fm_habit h.1) (km_habit h.2)
theorem fmk_matter {y1 y2 y3 : Int32} (h : CK B M) {N : Nat} : W_m_matter y1 y2 y3 N M (fun _ M1 => CK B M1) := and_m_matter (Q2 := fun _ M2 => KI M2) (fun b M2 h1 k => ⟨h1, k⟩) (fm_matter h.1) (km_matter h.2)
theorem ck_tell {y1 y2 : Int32} (h : CK B M) {N : Nat} : W_E_tell y1 y2 N M (fun y M1 => ∀ z N', W_m_tell y1 y2 N' (wj M1 215 0 z) (fun b M2 => CK B M2 ∧ M2.1 190 0 = 0 ∧ y = b)) (fun ce M1 => ∀ N', W_m_tell y1 y2 N' M1 (fun _ M2 => CK B M2 ∧ M2.1 190 0 = if ce = 2 then 1 else 2)) := by
  refine and_E_tell (Q2 := fun _ M1 => Eqo fp_E_tell M M1) (E2 := fun _ M1 => Eqo fp_E_tell M M1) (fun y M1 h1 e z N' => ?_) (fun ce M1 h1 e N' => ?_) (a_tell h.1) (an_E_tell (fun _ _ e => e) (fun _ _ e => e))
  · exact and_m_tell (Q2 := fun _ M2 => KI M2) (fun b M2 h1 k => ⟨⟨h1.1, k⟩, h1.2⟩) (h1 z N') (k_tell (RG_e (RG_e (RG_cp h.1) e rfl) eqo_z rfl) (KI_z (KI_e h.2 e rfl) z))
  · exact and_m_tell (Q2 := fun _ M2 => KI M2) (fun b M2 h1 k => ⟨⟨h1.1, k⟩, h1.2⟩) (h1 N') (k_tell (RG_e (RG_cp h.1) e rfl) (KI_e h.2 e rfl))
theorem ck_die {y1 : Int32} (h : CK B M) {N : Nat} : W_E_die y1 N M (fun y M1 => ∀ z N', W_m_die y1 N' (wj M1 215 0 z) (fun b M2 => CK B M2 ∧ M2.1 190 0 = 0 ∧ y = b)) (fun ce M1 => ∀ N', W_m_die y1 N' M1 (fun _ M2 => CK B M2 ∧ M2.1 190 0 = if ce = 2 then 1 else 2)) := by
  refine and_E_die (Q2 := fun _ M1 => Eqo fp_E_die M M1) (E2 := fun _ M1 => Eqo fp_E_die M M1) (fun y M1 h1 e z N' => ?_) (fun ce M1 h1 e N' => ?_) (a_die h.1) (an_E_die (fun _ _ e => e) (fun _ _ e => e))
  · exact and_m_die (Q2 := fun _ M2 => KI M2) (fun b M2 h1 k => ⟨⟨h1.1, k⟩, h1.2⟩) (h1 z N') (k_die (RG_e (RG_e (RG_cp h.1) e rfl) eqo_z rfl) (KI_z (KI_e h.2 e rfl) z))
  · exact and_m_die (Q2 := fun _ M2 => KI M2) (fun b M2 h1 k => ⟨⟨h1.1, k⟩, h1.2⟩) (h1 N') (k_die (RG_e (RG_cp h.1) e rfl) (KI_e h.2 e rfl))
theorem ck_wed {y1 y2 : Int32} (h : CK B M) {N : Nat} : W_E_wed y1 y2 N M (fun y M1 => ∀ z N', W_m_wed y1 y2 N' (wj M1 215 0 z) (fun b M2 => CK B M2 ∧ M2.1 190 0 = 0 ∧ y = b)) (fun ce M1 => ∀ N', W_m_wed y1 y2 N' M1 (fun _ M2 => CK B M2 ∧ M2.1 190 0 = if ce = 2 then 1 else if ce = 0 then 2 else 3)) := by
  refine and_E_wed (Q2 := fun _ M1 => Eqo fp_E_wed M M1) (E2 := fun _ M1 => Eqo fp_E_wed M M1) (fun y M1 h1 e z N' => ?_) (fun ce M1 h1 e N' => ?_) (a_wed h.1) (an_E_wed (fun _ _ e => e) (fun _ _ e => e))
  · exact and_m_wed (Q2 := fun _ M2 => KI M2) (fun b M2 h1 k => ⟨⟨h1.1, k⟩, h1.2⟩) (h1 z N') (k_wed (RG_e (RG_e (RG_cp h.1) e rfl) eqo_z rfl) (KI_z (KI_e h.2 e rfl) z))
  · exact and_m_wed (Q2 := fun _ M2 => KI M2) (fun b M2 h1 k => ⟨⟨h1.1, k⟩, h1.2⟩) (h1 N') (k_wed (RG_e (RG_cp h.1) e rfl) (KI_e h.2 e rfl))
theorem ck_baby {y1 : Int32} (h : CK B M) {N : Nat} : W_E_baby y1 N M (fun y M1 => ∀ z N', W_m_baby y1 N' (wj M1 215 0 z) (fun b M2 => CK B M2 ∧ M2.1 190 0 = 0 ∧ y = b)) (fun ce M1 => ∀ N', W_m_baby y1 N' M1 (fun _ M2 => CK B M2 ∧ M2.1 190 0 = if ce = 2 then 1 else if ce = 3 then 3 else 2)) := by
  refine and_E_baby (Q2 := fun _ M1 => Eqo fp_E_baby M M1) (E2 := fun _ M1 => Eqo fp_E_baby M M1) (fun y M1 h1 e z N' => ?_) (fun ce M1 h1 e N' => ?_) (a_baby h.1) (an_E_baby (fun _ _ e => e) (fun _ _ e => e))
  · exact and_m_baby (Q2 := fun _ M2 => KI M2) (fun b M2 h1 k => ⟨⟨h1.1, k⟩, h1.2⟩) (h1 z N') (k_baby (RG_e (RG_e (RG_cp h.1) e rfl) eqo_z rfl) (KI_z (KI_e h.2 e rfl) z))
  · exact and_m_baby (Q2 := fun _ M2 => KI M2) (fun b M2 h1 k => ⟨⟨h1.1, k⟩, h1.2⟩) (h1 N') (k_baby (RG_e (RG_cp h.1) e rfl) (KI_e h.2 e rfl))
theorem ck_release {y1 : Int32} (h : CK B M) {N : Nat} : W_E_release y1 N M (fun y M1 => ∀ z N', W_m_release y1 N' (wj M1 215 0 z) (fun b M2 => CK B M2 ∧ M2.1 190 0 = 0 ∧ y = b)) (fun ce M1 => ∀ N', W_m_release y1 N' M1 (fun _ M2 => CK B M2 ∧ M2.1 190 0 = if ce = 2 then 1 else 2)) := by
  refine and_E_release (Q2 := fun _ M1 => Eqo fp_E_release M M1) (E2 := fun _ M1 => Eqo fp_E_release M M1) (fun y M1 h1 e z N' => ?_) (fun ce M1 h1 e N' => ?_) (a_release h.1) (an_E_release (fun _ _ e => e) (fun _ _ e => e))
  · exact and_m_release (Q2 := fun _ M2 => KI M2) (fun b M2 h1 k => ⟨⟨h1.1, k⟩, h1.2⟩) (h1 z N') (k_release (RG_e (RG_e (RG_cp h.1) e rfl) eqo_z rfl) (KI_z (KI_e h.2 e rfl) z))
  · exact and_m_release (Q2 := fun _ M2 => KI M2) (fun b M2 h1 k => ⟨⟨h1.1, k⟩, h1.2⟩) (h1 N') (k_release (RG_e (RG_cp h.1) e rfl) (KI_e h.2 e rfl))
theorem ck_days {y1 : Int32} (h : CK B M) (hB : 0 ≤ B ∧ B ≤ 28000) {N : Nat} : W_E_days y1 N M (fun y M1 => ∀ z N', W_m_days y1 N' (wj M1 215 0 z) (fun b M2 => CK (B + 50) M2 ∧ M2.1 190 0 = 0 ∧ y = b)) (fun ce M1 => ∀ N', W_m_days y1 N' M1 (fun _ M2 => CK (B + 50) M2 ∧ M2.1 190 0 = 1)) := by
  refine and_E_days (Q2 := fun _ M1 => Eqo fp_E_days M M1) (E2 := fun _ M1 => Eqo fp_E_days M M1) (fun y M1 h1 e z N' => ?_) (fun ce M1 h1 e N' => ?_) (a_days h.1 hB) (an_E_days (fun _ _ e => e) (fun _ _ e => e))
  · exact and_m_days (Q2 := fun _ M2 => KI M2) (fun b M2 h1 k => ⟨⟨h1.1, k⟩, h1.2⟩) (h1 z N') (k_days (RG_e (RG_e (RG_cp h.1) e rfl) eqo_z rfl) hB (KI_z (KI_e h.2 e rfl) z))
  · exact and_m_days (Q2 := fun _ M2 => KI M2) (fun b M2 h1 k => ⟨⟨h1.1, k⟩, h1.2⟩) (h1 N') (k_days (RG_e (RG_cp h.1) e rfl) hB (KI_e h.2 e rfl))
theorem fmk_nobody (h : CK B M) {N : Nat} : W_m_nobody N M (fun _ M1 => CK B M1) := and_m_nobody (Q2 := fun _ M2 => KI M2) (fun b M2 h1 k => ⟨h1, k⟩) (fm_nobody h.1) (km_nobody h.2)
theorem fEk_relief (h : CK B M) {N : Nat} : W_E_relief N M (fun _ M1 => CK B M1) := and_E_relief (Q2 := fun _ M1 => Eqo fp_E_relief M M1) (fun _ M1 h1 e => ⟨h1, KI_e h.2 e rfl⟩) (fE_relief h.1) (an_E_relief (fun _ _ e => e))
theorem fmk_relief (h : CK B M) {N : Nat} : W_m_relief N M (fun _ M1 => CK B M1) := and_m_relief (Q2 := fun _ M2 => KI M2) (fun b M2 h1 k => ⟨h1, k⟩) (fm_relief h.1) (km_relief h.2)
theorem fk_read {y1 : Int32} (h : CK B M) {N : Nat} : W_E_read y1 N M (fun _ M1 => ∀ z N', W_m_read y1 N' (wj M1 215 0 z) (fun _ M2 => CK B M2)) (fun _ M1 => ∀ N', W_m_read y1 N' M1 (fun _ M2 => CK B M2)) := by
  refine and_E_read (Q2 := fun _ M1 => Eqo fp_E_read M M1) (E2 := fun _ M1 => Eqo fp_E_read M M1) (fun y M1 h1 e z N' => ?_) (fun ce M1 h1 e N' => ?_) (f_read h.1) (an_E_read (fun _ _ e => e) (fun _ _ e => e))
  · exact and_m_read (Q2 := fun _ M2 => KI M2) (fun b M2 h1 k => ⟨h1, k⟩) (h1 z N') (km_read (KI_z (KI_e h.2 e rfl) z))
  · exact and_m_read (Q2 := fun _ M2 => KI M2) (fun b M2 h1 k => ⟨h1, k⟩) (h1 N') (km_read (KI_e h.2 e rfl))
theorem fk_next {y1 : Int32} (h : CK B M) {N : Nat} : W_E_next y1 N M (fun _ M1 => ∀ z N', W_m_next y1 N' (wj M1 215 0 z) (fun _ M2 => CK B M2)) (fun _ M1 => ∀ N', W_m_next y1 N' M1 (fun _ M2 => CK B M2)) := by
  refine and_E_next (Q2 := fun _ M1 => Eqo fp_E_next M M1) (E2 := fun _ M1 => Eqo fp_E_next M M1) (fun y M1 h1 e z N' => ?_) (fun ce M1 h1 e N' => ?_) (f_next h.1) (an_E_next (fun _ _ e => e) (fun _ _ e => e))
  · exact and_m_next (Q2 := fun _ M2 => KI M2) (fun b M2 h1 k => ⟨h1, k⟩) (h1 z N') (km_next (KI_z (KI_e h.2 e rfl) z))
  · exact and_m_next (Q2 := fun _ M2 => KI M2) (fun b M2 h1 k => ⟨h1, k⟩) (h1 N') (km_next (KI_e h.2 e rfl))
theorem fmk_cover (h : CK B M) {N : Nat} : W_m_cover N M (fun _ M1 => CK B M1) := and_m_cover (Q2 := fun _ M2 => KI M2) (fun b M2 h1 k => ⟨h1, k⟩) (fm_cover h.1) (km_cover h.2)
theorem fmk_dies {y1 : Int32} (h : CK B M) {N : Nat} : W_m_dies y1 N M (fun _ M1 => CK B M1) := and_m_dies (Q2 := fun _ M2 => KI M2) (fun b M2 h1 k => ⟨h1, k⟩) (fm_dies h.1) (km_dies h.2)
theorem fmk_heirs {y1 : Int32} (h : CK B M) {N : Nat} : W_m_heirs y1 N M (fun _ M1 => CK B M1) := and_m_heirs (Q2 := fun _ M2 => KI M2) (fun b M2 h1 k => ⟨h1, k⟩) (fm_heirs h.1) (km_heirs h.2)
theorem fEk_risk {y1 y2 : Int32} (h : CK B M) {N : Nat} : W_E_risk y1 y2 N M (fun _ M1 => CK B M1) (fun _ M1 => CK B M1) := and_E_risk (Q2 := fun _ M1 => Eqo fp_E_risk M M1) (E2 := fun _ M1 => Eqo fp_E_risk M M1) (fun _ M1 h1 e => ⟨h1, KI_e h.2 e rfl⟩) (fun _ M1 h1 e => ⟨h1, KI_e h.2 e rfl⟩) (fE_risk h.1) (an_E_risk (fun _ _ e => e) (fun _ _ e => e))
theorem fmk_risk {y1 y2 : Int32} (h : CK B M) {N : Nat} : W_m_risk y1 y2 N M (fun _ M1 => CK B M1) := and_m_risk (Q2 := fun _ M2 => KI M2) (fun b M2 h1 k => ⟨h1, k⟩) (fm_risk h.1) (km_risk h.2)
theorem fmk_safe {y1 y2 : Int32} (h : CK B M) {N : Nat} : W_m_safe y1 y2 N M (fun _ M1 => CK B M1) := and_m_safe (Q2 := fun _ M2 => KI M2) (fun b M2 h1 k => ⟨h1, k⟩) (fm_safe h.1) (km_safe h.2)
theorem fEk_better {y1 y2 : Int32} (h : CK B M) {N : Nat} : W_E_better y1 y2 N M (fun _ M1 => CK B M1) (fun _ M1 => CK B M1) := and_E_better (Q2 := fun _ M1 => Eqo fp_E_better M M1) (E2 := fun _ M1 => Eqo fp_E_better M M1) (fun _ M1 h1 e => ⟨h1, KI_e h.2 e rfl⟩) (fun _ M1 h1 e => ⟨h1, KI_e h.2 e rfl⟩) (fE_better h.1) (an_E_better (fun _ _ e => e) (fun _ _ e => e))
theorem fmk_better {y1 y2 : Int32} (h : CK B M) {N : Nat} : W_m_better y1 y2 N M (fun _ M1 => CK B M1) := and_m_better (Q2 := fun _ M2 => KI M2) (fun b M2 h1 k => ⟨h1, k⟩) (fm_better h.1) (km_better h.2)
theorem fEk_telling {y1 y2 : Int32} (h : CK B M) {N : Nat} : W_E_telling y1 y2 N M (fun _ M1 => CK B M1) (fun _ M1 => CK B M1) := and_E_telling (Q2 := fun _ M1 => Eqo fp_E_telling M M1) (E2 := fun _ M1 => Eqo fp_E_telling M M1) (fun _ M1 h1 e => ⟨h1, KI_e h.2 e rfl⟩) (fun _ M1 h1 e => ⟨h1, KI_e h.2 e rfl⟩) (fE_telling h.1) (an_E_telling (fun _ _ e => e) (fun _ _ e => e))
theorem fmk_telling {y1 y2 : Int32} (h : CK B M) {N : Nat} : W_m_telling y1 y2 N M (fun _ M1 => CK B M1) := and_m_telling (Q2 := fun _ M2 => KI M2) (fun b M2 h1 k => ⟨h1, k⟩) (fm_telling h.1) (km_telling (RG_cp h.1) h.2)
theorem fmk_deduced {y1 : Int32} (h : CK B M) {N : Nat} : W_m_deduced y1 N M (fun _ M1 => CK B M1) := and_m_deduced (Q2 := fun _ M2 => KI M2) (fun b M2 h1 k => ⟨h1, k⟩) (fm_deduced h.1) (km_deduced h.2)
theorem fmk_hush {y1 : Int32} (h : CK B M) {N : Nat} : W_m_hush y1 N M (fun _ M1 => CK B M1) := and_m_hush (Q2 := fun _ M2 => KI M2) (fun b M2 h1 k => ⟨h1, k⟩) (fm_hush h.1) (km_hush h.2)
theorem fmk_usual {y1 : Int32} (h : CK B M) {N : Nat} : W_m_usual y1 N M (fun _ M1 => CK B M1) := and_m_usual (Q2 := fun _ M2 => KI M2) (fun b M2 h1 k => ⟨h1, k⟩) (fm_usual h.1) (km_usual h.2)
theorem fmk_feared {y1 : Int32} (h : CK B M) {N : Nat} : W_m_feared y1 N M (fun _ M1 => CK B M1) := and_m_feared (Q2 := fun _ M2 => KI M2) (fun b M2 h1 k => ⟨h1, k⟩) (fm_feared h.1) (km_feared h.2)
theorem fEk_custom {y1 : Int32} (h : CK B M) {N : Nat} : W_E_custom y1 N M (fun _ M1 => CK B M1) (fun _ M1 => CK B M1) := and_E_custom (Q2 := fun _ M1 => Eqo fp_E_custom M M1) (E2 := fun _ M1 => Eqo fp_E_custom M M1) (fun _ M1 h1 e => ⟨h1, KI_e h.2 e rfl⟩) (fun _ M1 h1 e => ⟨h1, KI_e h.2 e rfl⟩) (fE_custom h.1) (an_E_custom (fun _ _ e => e) (fun _ _ e => e))
theorem fmk_custom {y1 : Int32} (h : CK B M) {N : Nat} : W_m_custom y1 N M (fun _ M1 => CK B M1) := and_m_custom (Q2 := fun _ M2 => KI M2) (fun b M2 h1 k => ⟨h1, k⟩) (fm_custom h.1) (km_custom h.2)
theorem fEk_settles (h : CK B M) {N : Nat} : W_E_settles N M (fun _ M1 => CK B M1) := and_E_settles (Q2 := fun _ M1 => Eqo fp_E_settles M M1) (fun _ M1 h1 e => ⟨h1, KI_e h.2 e rfl⟩) (fE_settles h.1) (an_E_settles (fun _ _ e => e))
theorem fmk_settles (h : CK B M) {N : Nat} : W_m_settles N M (fun _ M1 => CK B M1) := and_m_settles (Q2 := fun _ M2 => KI M2) (fun b M2 h1 k => ⟨h1, k⟩) (fm_settles h.1) (km_settles h.2)
theorem fmk_provoked {y1 y2 : Int32} (h : CK B M) {N : Nat} : W_m_provoked y1 y2 N M (fun _ M1 => CK B M1) := and_m_provoked (Q2 := fun _ M2 => KI M2) (fun b M2 h1 k => ⟨h1, k⟩) (fm_provoked h.1) (km_provoked h.2)
theorem fmk_crowd {y1 y2 : Int32} (h : CK B M) {N : Nat} : W_m_crowd y1 y2 N M (fun _ M1 => CK B M1) := and_m_crowd (Q2 := fun _ M2 => KI M2) (fun b M2 h1 k => ⟨h1, k⟩) (fm_crowd h.1) (km_crowd h.2)
theorem fmk_witnesses {y1 y2 y3 : Int32} (h : CK B M) {N : Nat} : W_m_witnesses y1 y2 y3 N M (fun _ M1 => CK B M1) := and_m_witnesses (Q2 := fun _ M2 => KI M2) (fun b M2 h1 k => ⟨h1, k⟩) (fm_witnesses h.1) (km_witnesses h.2)
theorem fEk_trial {y1 y2 : Int32} (h : CK B M) {N : Nat} : W_E_trial y1 y2 N M (fun _ M1 => CK B M1) (fun _ M1 => CK B M1) := and_E_trial (Q2 := fun _ M1 => Eqo fp_E_trial M M1) (E2 := fun _ M1 => Eqo fp_E_trial M M1) (fun _ M1 h1 e => ⟨h1, KI_e h.2 e rfl⟩) (fun _ M1 h1 e => ⟨h1, KI_e h.2 e rfl⟩) (fE_trial h.1) (an_E_trial (fun _ _ e => e) (fun _ _ e => e))
theorem fmk_trial {y1 y2 : Int32} (h : CK B M) {N : Nat} : W_m_trial y1 y2 N M (fun _ M1 => CK B M1) := and_m_trial (Q2 := fun _ M2 => KI M2) (fun b M2 h1 k => ⟨h1, k⟩) (fm_trial h.1) (km_trial (RG_cp h.1) h.2)
theorem fEk_span {y1 y2 : Int32} (h : CK B M) {N : Nat} : W_E_span y1 y2 N M (fun _ M1 => CK B M1) (fun _ M1 => CK B M1) := and_E_span (Q2 := fun _ M1 => Eqo fp_E_span M M1) (E2 := fun _ M1 => Eqo fp_E_span M M1) (fun _ M1 h1 e => ⟨h1, KI_e h.2 e rfl⟩) (fun _ M1 h1 e => ⟨h1, KI_e h.2 e rfl⟩) (fE_span h.1) (an_E_span (fun _ _ e => e) (fun _ _ e => e))
theorem fmk_span {y1 y2 : Int32} (h : CK B M) {N : Nat} : W_m_span y1 y2 N M (fun _ M1 => CK B M1) := and_m_span (Q2 := fun _ M2 => KI M2) (fun b M2 h1 k => ⟨h1, k⟩) (fm_span h.1) (km_span (RG_cp h.1) h.2)
theorem fEk_first (h : CK B M) {N : Nat} : W_E_first N M (fun _ M1 => CK B M1) := and_E_first (Q2 := fun _ M1 => Eqo fp_E_first M M1) (fun _ M1 h1 e => ⟨h1, KI_e h.2 e rfl⟩) (fE_first h.1) (an_E_first (fun _ _ e => e))
theorem fmk_first (h : CK B M) {N : Nat} : W_m_first N M (fun _ M1 => CK B M1) := and_m_first (Q2 := fun _ M2 => KI M2) (fun b M2 h1 k => ⟨h1, k⟩) (fm_first h.1) (km_first (RG_cp h.1) h.2)
theorem fmk_led {y1 : Int32} (h : CK B M) {N : Nat} : W_m_led y1 N M (fun _ M1 => CK B M1) := and_m_led (Q2 := fun _ M2 => KI M2) (fun b M2 h1 k => ⟨h1, k⟩) (fm_led h.1) (km_led h.2)
theorem fmk_worst (h : CK B M) {N : Nat} : W_m_worst N M (fun _ M1 => CK B M1) := and_m_worst (Q2 := fun _ M2 => KI M2) (fun b M2 h1 k => ⟨h1, k⟩) (fm_worst h.1) (km_worst h.2)
theorem fmk_log {y1 y2 : Int32} (h : CK B M) {N : Nat} : W_m_log y1 y2 N M (fun _ M1 => CK B M1) := and_m_log (Q2 := fun _ M2 => KI M2) (fun b M2 h1 k => ⟨h1, k⟩) (fm_log h.1) (km_log h.2)
theorem ck_seed {y1 : Int32} (h : CK B M) {N : Nat} : W_E_seed y1 N M (fun y M1 => ∀ N', W_m_seed y1 N' M1 (fun b M2 => CK B M2 ∧ M2.1 190 0 = 0 ∧ y = b)) := by
  refine and_E_seed (Q2 := fun _ M1 => Eqo fp_E_seed M M1) (fun y M1 h1 e N' => ?_) (a_seed h.1) (an_E_seed (fun _ _ e => e))
  exact and_m_seed (Q2 := fun _ M2 => KI M2) (fun b M2 h1 k => ⟨⟨h1.1, k⟩, h1.2⟩) (h1 N') (k_seed (RG_e (RG_cp h.1) e rfl) (KI_e h.2 e rfl))
theorem ck_undo (h : CK B M) {N : Nat} : W_E_undo N M (fun y M1 => ∀ N', W_m_undo N' M1 (fun b M2 => CK B M2 ∧ M2.1 190 0 = 0 ∧ y = b)) := by
  refine and_E_undo (Q2 := fun _ M1 => Eqo fp_E_undo M M1) (fun y M1 h1 e N' => ?_) (a_undo h.1) (an_E_undo (fun _ _ e => e))
  exact and_m_undo (Q2 := fun _ M2 => KI M2) (fun b M2 h1 k => ⟨⟨h1.1, k⟩, h1.2⟩) (h1 N') (k_undo (RG_e (RG_cp h.1) e rfl) (KI_e h.2 e rfl))
theorem ck_image (h : CK B M) {N : Nat} : W_E_image N M (fun M1 => ∀ N', W_m_image N' M1 (fun M2 => CK B M2 ∧ M2.1 190 0 = 0)) := by
  refine and_E_image (Q2 := fun M1 => Eqo fp_E_image M M1) (fun M1 h1 e N' => ?_) (a_image h.1) (an_E_image (fun _ e => e))
  exact and_m_image (Q2 := fun M2 => KI M2) (fun M2 h1 k => ⟨⟨h1.1, k⟩, h1.2⟩) (h1 N') (k_image (RG_e (RG_cp h.1) e rfl) (KI_e h.2 e rfl))
theorem ck_back (h : CK B M) {N : Nat} : W_E_back N M (fun y M1 => ∀ N', W_m_back N' M1 (fun b M2 => CK B M2 ∧ M2.1 190 0 = 0 ∧ y = b)) := by
  refine and_E_back (Q2 := fun _ M1 => Eqo fp_E_back M M1) (fun y M1 h1 e N' => ?_) (a_back h.1) (an_E_back (fun _ _ e => e))
  exact and_m_back (Q2 := fun _ M2 => KI M2) (fun b M2 h1 k => ⟨⟨h1.1, k⟩, h1.2⟩) (h1 N') (k_back (RG_e (RG_cp h.1) e rfl) (KI_e h.2 e rfl))
theorem fmk_count {y1 : Int32} (h : CK B M) {N : Nat} : W_m_count y1 N M (fun _ M1 => CK B M1) := and_m_count (Q2 := fun _ M2 => KI M2) (fun b M2 h1 k => ⟨h1, k⟩) (fm_count h.1) (km_count h.2)
end CKS
