section
/-! WHAT THE QUERIES LEAVE ALONE -/
section FQ
variable {B : Int} {M : MM}
theorem fE_clause (h : CP B M) {N : Nat} {p1 : Int32} {p2 : Int32} : W_E_clause p1 p2 N M (fun _ M1 => CP B M1) (fun _ M1 => CP B M1) := an_E_clause (fun _ _ e => CP_eq h e rfl) (fun _ _ e => CP_eq h e rfl)
theorem fE_relief (h : CP B M) {N : Nat}  : W_E_relief  N M (fun _ M1 => CP B M1) := an_E_relief (fun _ _ e => CP_eq h e rfl)
theorem fE_risk (h : CP B M) {N : Nat} {p1 : Int32} {p2 : Int32} : W_E_risk p1 p2 N M (fun _ M1 => CP B M1) (fun _ M1 => CP B M1) := an_E_risk (fun _ _ e => CP_eq h e rfl) (fun _ _ e => CP_eq h e rfl)
theorem fE_better (h : CP B M) {N : Nat} {p1 : Int32} {p2 : Int32} : W_E_better p1 p2 N M (fun _ M1 => CP B M1) (fun _ M1 => CP B M1) := an_E_better (fun _ _ e => CP_eq h e rfl) (fun _ _ e => CP_eq h e rfl)
theorem fE_telling (h : CP B M) {N : Nat} {p1 : Int32} {p2 : Int32} : W_E_telling p1 p2 N M (fun _ M1 => CP B M1) (fun _ M1 => CP B M1) := an_E_telling (fun _ _ e => CP_eq h e rfl) (fun _ _ e => CP_eq h e rfl)
theorem fE_custom (h : CP B M) {N : Nat} {p1 : Int32} : W_E_custom p1 N M (fun _ M1 => CP B M1) (fun _ M1 => CP B M1) := an_E_custom (fun _ _ e => CP_eq h e rfl) (fun _ _ e => CP_eq h e rfl)
theorem fE_settles (h : CP B M) {N : Nat}  : W_E_settles  N M (fun _ M1 => CP B M1) := an_E_settles (fun _ _ e => CP_eq h e rfl)
theorem fE_trial (h : CP B M) {N : Nat} {p1 : Int32} {p2 : Int32} : W_E_trial p1 p2 N M (fun _ M1 => CP B M1) (fun _ M1 => CP B M1) := an_E_trial (fun _ _ e => CP_eq h e rfl) (fun _ _ e => CP_eq h e rfl)
theorem fE_span (h : CP B M) {N : Nat} {p1 : Int32} {p2 : Int32} : W_E_span p1 p2 N M (fun _ M1 => CP B M1) (fun _ M1 => CP B M1) := an_E_span (fun _ _ e => CP_eq h e rfl) (fun _ _ e => CP_eq h e rfl)
theorem fE_first (h : CP B M) {N : Nat}  : W_E_first  N M (fun _ M1 => CP B M1) := an_E_first (fun _ _ e => CP_eq h e rfl)
theorem fm_clause (h : CP B M) {N : Nat} {p1 : Int32} {p2 : Int32} : W_m_clause p1 p2 N M (fun _ M1 => CP B M1) := an_m_clause (fun _ _ e => CP_eq h e rfl)
theorem fm_citizen (h : CP B M) {N : Nat} {p1 : Int32} {p2 : Int32} : W_m_citizen p1 p2 N M (fun _ M1 => CP B M1) := an_m_citizen (fun _ _ e => CP_eq h e rfl)
theorem fm_seen (h : CP B M) {N : Nat} {p1 : Int32} : W_m_seen p1 N M (fun _ M1 => CP B M1) := an_m_seen (fun _ _ e => CP_eq h e rfl)
theorem fm_habit (h : CP B M) {N : Nat} {p1 : Int32} {p2 : Int32} : W_m_habit p1 p2 N M (fun _ M1 => CP B M1) := an_m_habit (fun _ _ e => CP_eq h e rfl)
theorem fm_matter (h : CP B M) {N : Nat} {p1 : Int32} {p2 : Int32} {p3 : Int32} : W_m_matter p1 p2 p3 N M (fun _ M1 => CP B M1) := an_m_matter (fun _ _ e => CP_eq h e rfl)
theorem fm_nobody (h : CP B M) {N : Nat}  : W_m_nobody  N M (fun _ M1 => CP B M1) := an_m_nobody (fun _ _ e => CP_eq h e rfl)
theorem fm_relief (h : CP B M) {N : Nat}  : W_m_relief  N M (fun _ M1 => CP B M1) := an_m_relief (fun _ _ e => CP_eq h e rfl)
theorem fm_cover (h : CP B M) {N : Nat}  : W_m_cover  N M (fun _ M1 => CP B M1) := an_m_cover (fun _ _ e => CP_eq h e rfl)
theorem fm_dies (h : CP B M) {N : Nat} {p1 : Int32} : W_m_dies p1 N M (fun _ M1 => CP B M1) := an_m_dies (fun _ _ e => CP_eq h e rfl)
theorem fm_heirs (h : CP B M) {N : Nat} {p1 : Int32} : W_m_heirs p1 N M (fun _ M1 => CP B M1) := an_m_heirs (fun _ _ e => CP_eq h e rfl)
theorem fm_risk (h : CP B M) {N : Nat} {p1 : Int32} {p2 : Int32} : W_m_risk p1 p2 N M (fun _ M1 => CP B M1) := an_m_risk (fun _ _ e => CP_eq h e rfl)
theorem fm_safe (h : CP B M) {N : Nat} {p1 : Int32} {p2 : Int32} : W_m_safe p1 p2 N M (fun _ M1 => CP B M1) := an_m_safe (fun _ _ e => CP_eq h e rfl)
theorem fm_better (h : CP B M) {N : Nat} {p1 : Int32} {p2 : Int32} : W_m_better p1 p2 N M (fun _ M1 => CP B M1) := an_m_better (fun _ _ e => CP_eq h e rfl)
theorem fm_deduced (h : CP B M) {N : Nat} {p1 : Int32} : W_m_deduced p1 N M (fun _ M1 => CP B M1) := an_m_deduced (fun _ _ e => CP_eq h e rfl)
theorem fm_hush (h : CP B M) {N : Nat} {p1 : Int32} : W_m_hush p1 N M (fun _ M1 => CP B M1) := an_m_hush (fun _ _ e => CP_eq h e rfl)
theorem fm_usual (h : CP B M) {N : Nat} {p1 : Int32} : W_m_usual p1 N M (fun _ M1 => CP B M1) := an_m_usual (fun _ _ e => CP_eq h e rfl)
theorem fm_feared (h : CP B M) {N : Nat} {p1 : Int32} : W_m_feared p1 N M (fun _ M1 => CP B M1) := an_m_feared (fun _ _ e => CP_eq h e rfl)
theorem fm_custom (h : CP B M) {N : Nat} {p1 : Int32} : W_m_custom p1 N M (fun _ M1 => CP B M1) := an_m_custom (fun _ _ e => CP_eq h e rfl)
theorem fm_settles (h : CP B M) {N : Nat}  : W_m_settles  N M (fun _ M1 => CP B M1) := an_m_settles (fun _ _ e => CP_eq h e rfl)
theorem fm_provoked (h : CP B M) {N : Nat} {p1 : Int32} {p2 : Int32} : W_m_provoked p1 p2 N M (fun _ M1 => CP B M1) := an_m_provoked (fun _ _ e => CP_eq h e rfl)
theorem fm_crowd (h : CP B M) {N : Nat} {p1 : Int32} {p2 : Int32} : W_m_crowd p1 p2 N M (fun _ M1 => CP B M1) := an_m_crowd (fun _ _ e => CP_eq h e rfl)
theorem fm_witnesses (h : CP B M) {N : Nat} {p1 : Int32} {p2 : Int32} {p3 : Int32} : W_m_witnesses p1 p2 p3 N M (fun _ M1 => CP B M1) := an_m_witnesses (fun _ _ e => CP_eq h e rfl)
theorem fm_led (h : CP B M) {N : Nat} {p1 : Int32} : W_m_led p1 N M (fun _ M1 => CP B M1) := an_m_led (fun _ _ e => CP_eq h e rfl)
theorem fm_worst (h : CP B M) {N : Nat}  : W_m_worst  N M (fun _ M1 => CP B M1) := an_m_worst (fun _ _ e => CP_eq h e rfl)
theorem fm_log (h : CP B M) {N : Nat} {p1 : Int32} {p2 : Int32} : W_m_log p1 p2 N M (fun _ M1 => CP B M1) := an_m_log (fun _ _ e => CP_eq h e rfl)
theorem fm_count (h : CP B M) {N : Nat} {p1 : Int32} : W_m_count p1 N M (fun _ M1 => CP B M1) := an_m_count (fun _ _ e => CP_eq h e rfl)
theorem fm_fault (h : CP B M) {N : Nat}  : W_m_fault  N M (fun _ M1 => CP B M1) := an_m_fault (fun _ _ e => CP_eq h e rfl)
end FQ
end
section
/-! WHAT THE QUERIES OF THE REFERENCE LEAVE AS IT WAS: a try -/
theorem eqo_lk {M : MM} {a P b R n : Nat} : Eqo [(b, b, none)] M (lkM M a P b R n) := fun c j hc => by
  have hn : ¬ c = b := by
    rintro rfl
    rw [fpm_1 (o := none) (Or.inl rfl)] at hc
    cases hc
  exact ⟨if_neg (fun h => hn h.1), rfl⟩
theorem eqo_lkS {M : MM} {a P b R n : Nat} : Eqo [(b, b, none)] M (lkS M a P b R n) := fun c j hc => by
  have hn : ¬ c = b := by
    rintro rfl
    rw [fpm_1 (o := none) (Or.inl rfl)] at hc
    cases hc
  exact ⟨rfl, if_neg (fun h => hn h.1)⟩
def KP (M0 M : MM) : Prop := Eqo fp_m_trial M0 M ∧ (∀ k, k < 388 → M.1 194 k = M0.1 191 k) ∧ (∀ c, c < 10 → M.2 199 c = M0.2 196 c)
section KPS
variable {B : Int} {M0 M : MM} {N : Nat} {Q : MM → Prop}
theorem kp_keep (h : Eqo fp_m_trial M0 M) (hw : M.1 191 = M0.1 191) (hs : M.2 196 = M0.2 196) (hQ : ∀ M', KP M0 M' → Q M') : W_m_keepsAll N M Q := by
  unfold W_m_keepsAll
  refine sp_likens (P := 0) (R := 0) (by omega) (by omega) (Or.inl (by decide)) ?_
  refine sp_likensS (P := 0) (R := 0) (by omega) (by omega) (Or.inl (by decide)) ?_
  refine hQ _ ⟨eqo_tr (eqo_tr h (fps_cons (i := 1) rfl fps_nil) eqo_lk) (fps_cons (i := 2) rfl fps_nil) eqo_lkS, fun k hk => ?_, fun c hc => ?_⟩
  · show (lkM M 191 0 194 0 388).1 194 k = _
    unfold lkM
    dsimp only
    rw [if_pos (by omega), hw, show 0 + (k - 0) = k by omega]
  · unfold lkS
    dsimp only
    rw [if_pos (by omega)]
    show M.2 196 (0 + (c - 0)) = _
    rw [hs, show 0 + (c - 0) = c by omega]
theorem kp_eq {l : List (Nat × Nat × Option Nat)} {M' : MM} (h : KP M0 M) (e : Eqo l M M') (hs : fps l fp_m_trial) (hl : (fpo l 194 194 && fpo l 199 199) = true) : KP M0 M' := by
  simp only [Bool.and_eq_true] at hl
  refine ⟨eqo_tr h.1 hs e, ?_, ?_⟩
  · rw [eqb e hl.1 (Nat.le_refl _) (Nat.le_refl _)]
    exact h.2.1
  · rw [eqb2 e hl.2 (Nat.le_refl _) (Nat.le_refl _)]
    exact h.2.2
theorem kp_day (h : KP M0 M) (hQ : ∀ M', KP M0 M' → Q M') : W_m_oneDay N M Q := an_m_oneDay (fun _ e => hQ _ (kp_eq h e (fps_cons (i := 5) rfl (fps_cons (i := 6) rfl (fps_cons (i := 3) rfl (fps_cons (i := 4) rfl (fps_cons (i := 7) rfl fps_nil))))) rfl))
theorem kp_back (h : KP M0 M) (hQ : ∀ M', KP M0 M' → (∀ k, k < 388 → M'.1 191 k = M0.1 191 k) → (∀ c, c < 10 → M'.2 196 c = M0.2 196 c) → Q M') : W_m_bringsBack N M Q := by
  unfold W_m_bringsBack
  refine sp_likens (P := 0) (R := 0) (by omega) (by omega) (Or.inl (by decide)) ?_
  refine sp_likensS (P := 0) (R := 0) (by omega) (by omega) (Or.inl (by decide)) ?_
  refine hQ _ (kp_eq (kp_eq h eqo_lk (fps_cons (i := 3) rfl fps_nil) rfl) eqo_lkS (fps_cons (i := 4) rfl fps_nil) rfl) (fun k hk => ?_) (fun c hc => ?_)
  · show (lkM M 194 0 191 0 388).1 191 k = _
    unfold lkM
    dsimp only
    rw [if_pos (by omega), show 0 + (k - 0) = k by omega]
    exact h.2.1 k hk
  · unfold lkS
    dsimp only
    rw [if_pos (by omega)]
    show M.2 199 (0 + (c - 0)) = _
    rw [show 0 + (c - 0) = c by omega]
    exact h.2.2 c hc
theorem kp_CP {M' : MM} (h : CP B M0) (k : KP M0 M') (hw : ∀ k, k < 388 → M'.1 191 k = M0.1 191 k) (hs : ∀ c, c < 10 → M'.2 196 c = M0.2 196 c) : CP B M' := by
  have h' := h
  obtain ⟨-, -, -, ⟨hc, hg⟩, m, hh, hm, hr, hi⟩ := h'
  exact CP_mk h k.1 rfl rfl rfl (CW_g (CW_eq hc k.1 rfl) hg hw hs) (GW_w hg hw) (CM_eq hm k.1 rfl) (RMm_eq hr k.1 rfl) hi (Int.le_refl _)
theorem kp_k2 (h : Eqo fp_m_trial M0 M) (hw : M.1 191 = M0.1 191) (hs : M.2 196 = M0.2 196) (hQ : ∀ M', KP M0 M' → M'.1 191 = M0.1 191 → M'.2 196 = M0.2 196 → Q M') : W_m_keepsAll N M Q := by
  unfold W_m_keepsAll
  refine sp_likens (P := 0) (R := 0) (by omega) (by omega) (Or.inl (by decide)) ?_
  refine sp_likensS (P := 0) (R := 0) (by omega) (by omega) (Or.inl (by decide)) ?_
  have e2 := eqo_app (eqo_lk (M := M) (a := 191) (P := 0) (b := 194) (R := 0) (n := 388)) (eqo_lkS (a := 196) (P := 0) (b := 199) (R := 0) (n := 10))
  refine hQ _ ⟨eqo_tr (eqo_tr h (fps_cons (i := 1) rfl fps_nil) eqo_lk) (fps_cons (i := 2) rfl fps_nil) eqo_lkS, fun k hk => ?_, fun c hc => ?_⟩ ?_ ?_
  · show (lkM M 191 0 194 0 388).1 194 k = _
    unfold lkM
    dsimp only
    rw [if_pos (by omega), hw, show 0 + (k - 0) = k by omega]
  · unfold lkS
    dsimp only
    rw [if_pos (by omega)]
    show M.2 196 (0 + (c - 0)) = _
    rw [hs, show 0 + (c - 0) = c by omega]
  · rw [eqb e2 (lo := 191) (hi := 191) rfl (Nat.le_refl _) (Nat.le_refl _)]
    exact hw
  · rw [eqb2 e2 (lo := 196) (hi := 196) rfl (Nat.le_refl _) (Nat.le_refl _)]
    exact hs
theorem kp_0 (hQ : ∀ M', KP M M' → Q M') : W_m_keepsAll N (wi M 190 0 0) Q := kp_keep (eqo_wi (i := 0) (eqo_rf _) rfl (Or.inr rfl)) rfl rfl hQ
end KPS
section FT
variable {B : Int} {M : MM} {p1 p2 : Int32}
theorem fm_trial (h : CP B M) {N : Nat} : W_m_trial p1 p2 N M (fun _ M1 => CP B M1) := by
  unfold W_m_trial W_m_throwsIf
  simp only [e10, e10n, true_implies, false_implies, not_true_eq_false, not_false_eq_true, and_true, true_and, forall_const]
  refine ⟨fun _ => CP_0 (CP_0 h 0) 1, fun _ => ⟨fun _ => CP_0 (CP_0 h 0) 2, fun _ => ?_⟩⟩
  refine kp_0 (fun M10 hk => ?_)
  refine I_m_trial_58 _ _ _ _ (fun _ M' => KP M M') (fun N ih v M' hih hk => ?_) N _ _ hk
  unfold B_m_trial_58
  refine ⟨fun _ => kp_day hk (fun M'' h'' => hih _ _ h''), fun _ => ⟨fun _ => ?_, fun _ => ⟨fun _ => ?_, fun _ => ⟨fun _ => ?_, fun _ => ?_⟩⟩⟩⟩
  · exact kp_back hk (fun M2 k2 a b => kp_CP h k2 a b)
  · exact kp_back hk (fun M2 k2 a b => kp_CP h k2 a b)
  · exact an_m_takenNow (fun _ => kp_back hk (fun M2 k2 a b => kp_CP h k2 a b))
  · exact an_m_sumOf (fun _ => kp_back hk (fun M2 k2 a b => kp_CP h k2 a b))
theorem fm_first (h : CP B M) {N : Nat} : W_m_first N M (fun _ M1 => CP B M1) := by
  unfold W_m_first
  refine kp_0 (fun M10 hk => ?_)
  refine I_m_first_11 _ _ (fun _ M' => KP M M') (fun N ih v M' hih hk => ?_) N _ _ hk
  unfold B_m_first_11
  refine ⟨fun _ => ⟨fun _ => kp_day hk (fun M'' h'' => hih _ _ h''), fun _ => ⟨fun _ => ?_, fun _ => ?_⟩⟩, fun _ => ⟨fun _ => ?_, fun _ => ?_⟩⟩ <;> exact kp_back hk (fun M2 k2 a b => kp_CP h k2 a b)
theorem fm_span (h : CP B M) {N : Nat} : W_m_span p1 p2 N M (fun _ M1 => CP B M1) := by
  unfold W_m_span W_m_throwsIf
  simp only [e10, e10n, true_implies, false_implies, not_true_eq_false, not_false_eq_true, and_true, true_and, forall_const]
  refine ⟨fun _ => CP_0 (CP_0 h 0) 1, fun _ => ?_⟩
  refine kp_k2 (M0 := M) (eqo_wi (i := 0) (eqo_rf _) rfl (Or.inr rfl)) rfl rfl (fun M10 hk hw hs => ?_)
  refine I_m_span_39 _ _ _ (fun _ _ M' => KP M M' ∧ (∀ k, k < 388 → M'.1 191 k = M.1 191 k) ∧ (∀ c, c < 10 → M'.2 196 c = M.2 196 c)) (fun N ih v w M' hih hk => ?_) N _ _ _ ⟨hk, fun k _ => by rw [hw], fun c _ => by rw [hs]⟩
  obtain ⟨k1, k2, k3⟩ := hk
  unfold B_m_span_39
  refine ⟨fun _ => kp_CP h k1 k2 k3, fun _ => ?_⟩
  refine I_m_span_58 _ _ _ _ _ _ (fun _ M' => KP M M') (fun N ih v M' hih2 hk => ?_) N _ _ (kp_eq k1 eqo_a (fps_cons (i := 3) rfl fps_nil) rfl)
  unfold B_m_span_58
  refine ⟨fun _ => kp_day hk (fun M'' h'' => hih2 _ _ h''), fun _ => ?_⟩
  refine kp_back hk (fun M2 k2 a b => ⟨fun _ => hih _ _ _ ⟨k2, a, b⟩, fun _ => ⟨fun _ => hih _ _ _ ⟨k2, a, b⟩, fun _ => hih _ _ _ ⟨k2, a, b⟩⟩⟩)
def TL (M0 M : MM) : Prop := Eqo fp_m_telling M0 M ∧ M.1 191 = M0.1 191
theorem tl_CP {M' : MM} (h : CP B M) (k : TL M M') : CP B M' := by
  have h' := h
  obtain ⟨-, -, -, ⟨hc, hg⟩, m, hh, hm, hr, hi⟩ := h'
  exact CP_mk h k.1 rfl k.2 (eqb2 k.1 (lo := 196) (hi := 196) rfl (Nat.le_refl _) (Nat.le_refl _)) (CW_eq hc k.1 rfl) hg (CM_eq hm k.1 rfl) (RMm_eq hr k.1 rfl) hi (Int.le_refl _)
theorem tl_r {M' M'' : MM} (h : TL M M') (e : Eqo fp_m_riskOf M' M'') : TL M M'' := ⟨eqo_tr h.1 (fps_cons (i := 1) rfl fps_nil) e, by rw [eqb e (lo := 191) (hi := 191) rfl (Nat.le_refl _) (Nat.le_refl _)]; exact h.2⟩
theorem fm_telling (h : CP B M) {N : Nat} : W_m_telling p1 p2 N M (fun _ M1 => CP B M1) := by
  unfold W_m_telling W_m_throwsIf
  refine ⟨fun _ => ⟨fun _ => ?_, fun _ => CP_0 h 0⟩, fun hb => ⟨fun hc => absurd hc hb, fun _ => CP_0 (CP_0 h 0) 1⟩⟩
  refine an_m_inForce (fun r4 => ?_)
  refine I_m_telling_33 _ _ _ _ (fun _ _ _ M' => TL M M') (fun N ih v4 v5 v6 M' hih hk => ?_) N _ _ _ _ ⟨eqo_wi (i := 0) (eqo_rf _) rfl (Or.inr rfl), rfl⟩
  unfold B_m_telling_33
  refine ⟨fun _ => ⟨fun _ => hih _ _ _ _ hk, fun _ => ?_⟩, fun _ => ⟨fun _ => tl_CP h hk, fun _ => tl_CP h hk⟩⟩
  have hof : V_m_of v6 1 M' = M.1 191 (ni ((18 + (13 * v6)) + 1)) := by
    show M'.1 191 _ = _
    rw [hk.2]
  rw [hof]
  refine an_m_riskOf (fun r8 M9 e9 => ?_)
  refine I_m_telling_76 _ _ _ _ _ _ _ _ (fun _ _ _ M' => TL M M') (fun N ih v4 v5 v9 M' hih2 hk => ?_) N _ _ _ _ (tl_r hk e9)
  unfold B_m_telling_76 W_m_sets
  refine ⟨fun _ => ⟨fun _ => ⟨fun _ => hih2 _ _ _ _ hk, fun _ => ?_⟩, fun _ => hih2 _ _ _ _ hk⟩, fun _ => hih _ _ _ _ hk⟩
  refine an_m_riskOf (fun r15 M16 e16 => ?_)
  have k2 : TL M (wi M16 191 (ni ((18 + (13 * v6)) + 1)) (M.1 191 (ni ((18 + (13 * v6)) + 1)))) := by
    refine ⟨eqo_wi (i := 2) (eqo_tr (eqo_wi (i := 2) hk.1 rfl (Or.inl rfl)) (fps_cons (i := 1) rfl fps_nil) e16) rfl (Or.inl rfl), ?_⟩
    rw [wi_row (w := up1 (M.1 191) (ni ((18 + (13 * v6)) + 1)) _) (by rw [eqb e16 (lo := 191) (hi := 191) rfl (Nat.le_refl _) (Nat.le_refl _)]; exact wi_row hk.2)]
    funext j
    unfold up1
    by_cases e : j = ni ((18 + (13 * v6)) + 1)
    · rw [if_pos e, e]
    · rw [if_neg e, if_neg e]
  exact ⟨fun _ => hih2 _ _ _ _ k2, fun _ => ⟨fun _ => hih2 _ _ _ _ k2, fun _ => hih2 _ _ _ _ k2⟩⟩
end FT
end
section
/-! THE TAPE READ: read and next leave it empty on both sides -/
def Zn (M0 M : MM) : Prop := Eqo fp_m_next M0 M ∧ M.1 190 18 = 0
section ZS
variable {B : Int} {M0 M : MM} {N : Nat} {p p1 : Int32}
theorem zn_1 {x : Int32} (h : Zn M0 M) : Zn M0 (wi M 190 0 x) := ⟨eqo_wi (i := 0) h.1 rfl (Or.inr rfl), by rw [wi_1n (by omega)]; exact h.2⟩
theorem zn_e {l : List (Nat × Nat × Option Nat)} {M' : MM} (h : Zn M0 M) (e : Eqo l M M') (hs : fps l fp_m_next) (hl : fpf l 190 18 = true) : Zn M0 M' := ⟨eqo_tr h.1 hs e, by rw [eq1 e hl]; exact h.2⟩
theorem zn_w {Q : Int32 → MM → Prop} (hQ : ∀ r M', Zn M M' → Q r M') : W_m_isWatched N M Q := by
  unfold W_m_isWatched W_m_uses
  have z : Zn M (wi (wi (wi (wi M 190 0 0) 190 20 ((wi M 190 0 0).1 190 18)) 190 18 0) 190 19 0) := ⟨eqo_wi (i := 3) (eqo_wi (i := 2) (eqo_wi (i := 1) (eqo_wi (i := 0) (eqo_rf _) rfl (Or.inr rfl)) rfl (Or.inr rfl)) rfl (Or.inr rfl)) rfl (Or.inr rfl), by rw [wi_1n (by omega), wi_1e]⟩
  have hq := fun r => hQ r _ z
  refine ⟨fun _ => ?_, fun _ => ?_⟩
  all_goals
    refine I_m_isWatched_21 _ _ (fun _ _ => True) (fun N ih v1 v2 hih _ => ?_) N _ _ trivial
    unfold B_m_isWatched_21
    repeat' first | exact hq _ | exact hih _ _ trivial | refine ⟨fun _ => ?_, fun _ => ?_⟩
theorem zn_l {Q : MM → Prop} (h : Zn M0 M) (hQ : ∀ M', Zn M0 M' → Q M') : W_m_laysWatched N M Q := an_m_laysWatched (fun _ e => hQ _ (zn_e h e (fps_cons (i := 4) rfl (fps_cons (i := 5) rfl fps_nil)) rfl))
theorem zn_68 {Q : Int32 → MM → Prop} {v3 v4 v5 v6 : Int32} (hQ : ∀ r, Q r M) : W_m_read_68 p1 M Q N v3 v4 v5 v6 := by
  refine I_m_read_68 _ _ _ (fun _ _ _ _ => True) (fun N ih v3 v4 v5 v6 hih _ => ?_) N _ _ _ _ trivial
  unfold B_m_read_68
  repeat' first | exact hQ _ | exact hih _ _ _ _ trivial | refine an_m_isCode (fun _ => ?_) | refine ⟨fun _ => ?_, fun _ => ?_⟩
theorem z_read : W_m_read p N M (fun _ M1 => Zn M M1) := by
  unfold W_m_read W_m_throwsIf
  refine zn_w (fun r M2 z => ?_)
  simp only [e10, e10n, true_implies, false_implies, not_true_eq_false, not_false_eq_true, and_true, true_and, forall_const]
  repeat' first | exact z | exact zn_1 z | exact zn_1 (zn_1 z) | exact zn_l z (fun M3 z3 => zn_68 (fun _ => z3)) | refine ⟨fun _ => ?_, fun _ => ?_⟩
theorem zn_64 {Q : Int32 → MM → Prop} {k : MM → Prop} {v3 : Int32} (h : Zn M0 M) (hQ : ∀ M', Zn M0 M' → k M') : W_m_next_64 p1 k Q N v3 M := by
  refine I_m_next_64 _ _ _ (fun _ M' => Zn M0 M') (fun N ih v3 M' hih h => ?_) N _ _ h
  unfold B_m_next_64
  refine ⟨fun _ => an_m_nevers (fun _ => an_m_forbidsNow (fun _ M2 e => hih _ _ ?_)), fun _ => hQ _ h⟩
  exact zn_e (zn_e (zn_e h eqo_a (fps_cons (i := 6) rfl fps_nil) rfl) e (fps_cons (i := 4) rfl fps_nil) rfl) eqo_a (fps_cons (i := 7) rfl fps_nil) rfl
theorem zn_133 {Q : Int32 → MM → Prop} {k : MM → Prop} {v5 u3 u4 : Int32} (h : Zn M0 M) (hQ : ∀ M', Zn M0 M' → k M') : W_m_next_133 p1 u3 u4 k Q N v5 M := by
  refine I_m_next_133 _ _ _ _ _ (fun _ M' => Zn M0 M') (fun N ih v3 M' hih h => ?_) N _ _ h
  unfold B_m_next_133
  repeat' first | exact hQ _ h | exact hih _ _ (zn_e h eqo_a (fps_cons (i := 6) rfl fps_nil) rfl) | refine ⟨fun _ => ?_, fun _ => ?_⟩
theorem zn_104 {Q : Int32 → MM → Prop} {k : Int32 → MM → Prop} {v3 v4 : Int32} (h : Zn M0 M) (hQ : ∀ r M', Zn M0 M' → k r M') : W_m_next_104 p1 k Q N v3 v4 M := by
  refine I_m_next_104 _ _ _ (fun _ _ M' => Zn M0 M') (fun N ih v3 v4 M' hih h => ?_) N _ _ _ h
  unfold B_m_next_104
  refine ⟨fun _ => an_m_isCode (fun _ => ⟨fun _ => hih _ _ _ h, fun _ => zn_133 h (fun M2 z2 => hih _ _ _ z2)⟩), fun _ => hQ _ _ h⟩
theorem zn_186 {Q : Int32 → MM → Prop} {u3 v4 v5 : Int32} (hQ : ∀ r, Q r M) : W_m_next_186 p1 u3 M Q N v4 v5 := by
  refine I_m_next_186 _ _ _ _ (fun _ _ => True) (fun N ih v4 v5 hih _ => ?_) N _ _ trivial
  unfold B_m_next_186
  repeat' first | exact hQ _ | exact hih _ _ trivial | refine ⟨fun _ => ?_, fun _ => ?_⟩
theorem z_next : W_m_next p N M (fun _ M1 => Zn M M1) := by
  unfold W_m_next W_m_throwsIf
  refine zn_w (fun r M2 z => ?_)
  simp only [e10, e10n, true_implies, false_implies, not_true_eq_false, not_false_eq_true, and_true, true_and, forall_const]
  repeat' first | exact z | exact zn_1 z | exact zn_1 (zn_1 z) | exact zn_l z (fun M3 z3 => zn_64 z3 (fun M4 z4 => zn_104 z4 (fun _ M5 z5 => zn_186 (fun _ => z5)))) | exact zn_l (zn_1 z) (fun M3 z3 => zn_64 z3 (fun M4 z4 => zn_104 z4 (fun _ M5 z5 => zn_186 (fun _ => z5)))) | refine ⟨fun _ => ?_, fun _ => ?_⟩
end ZS
section ZC
variable {B : Int} {M0 M : MM} {N : Nat} {p p1 : Int32}
def Zc (M0 M : MM) : Prop := Eqo fp_E_next M0 M ∧ M.1 1 1 = 0
theorem zc_1 (h : Eqo fp_E_next M0 M) : Zc M0 (wi M 1 1 0) := ⟨eqo_wi (i := 3) h rfl (Or.inr rfl), wi_1e⟩
theorem zc_e {l : List (Nat × Nat × Option Nat)} {M' : MM} (h : Zc M0 M) (e : Eqo l M M') (hs : fps l fp_E_next) (hl : fpf l 1 1 = true) : Zc M0 M' := ⟨eqo_tr h.1 hs e, by rw [eq1 e hl]; exact h.2⟩
theorem zc_t {Q : Int32 → MM → Prop} (hQ : ∀ r M', Zc M (wi M' 1 1 0) → Q r M') : W_Reading_takeRows N M Q := an_Reading_takeRows (fun _ _ e => hQ _ _ (zc_1 (eqo_tr (eqo_rf _) (fps_cons (i := 0) rfl (fps_cons (i := 1) rfl (fps_cons (i := 2) rfl fps_nil))) e)))
theorem zc_f {Q : MM → Prop} (h : Zc M0 M) (hQ : ∀ M', Zc M0 M' → Q M') : W_Reading_findCodes N M Q := an_Reading_findCodes (fun _ e => hQ _ (zc_e h e (fps_cons (i := 4) rfl (fps_cons (i := 5) rfl (fps_cons (i := 6) rfl (fps_cons (i := 7) rfl fps_nil)))) rfl))
theorem zc_b {Q : Int32 → MM → Prop} (h : Zc M0 M) (hQ : ∀ r M', Zc M0 M' → Q r M') : W_Reading_bestSplit p1 N M Q := an_Reading_bestSplit (fun _ _ e => hQ _ _ (zc_e h e (fps_cons (i := 7) rfl fps_nil) rfl))
theorem zc_read : W_E_read p N M (fun _ M1 => Zc M M1) (fun _ M1 => Zc M M1) := by
  unfold W_E_read
  refine zc_t (fun r M2 z => ?_)
  repeat' first | exact z | refine zc_f z (fun M7 z => ?_) | refine ⟨fun _ => ?_, fun _ => ?_⟩
theorem zc_next : W_E_next p N M (fun _ M1 => Zc M M1) (fun _ M1 => Zc M M1) := by
  unfold W_E_next
  refine zc_t (fun r M2 z => ?_)
  refine an_E_needCitizen ⟨fun _ => z, fun _ => an_E_needAlive (zc_f z (fun M9 z => ⟨fun _ => z, fun _ => zc_b z (fun _ M3 z => z)⟩)) (fun _ => z)⟩ (fun _ => z)
theorem Z_CP {M1 M2 : MM} (h : CP B M) (z1 : Zc M M1) (z2 : Zn M1 M2) : CP B M2 := by
  have e := eqo_app z1.1 z2.1
  refine CP_tp h e rfl ⟨0, by omega, ?_, z2.2, fun j hj => absurd hj (by omega)⟩
  rw [eq1 z2.1 (b := 1) (k := 1) rfl]
  exact z1.2
theorem Z_CPz {M1 M2 : MM} {z : Int64} (h : CP B M) (z1 : Zc M M1) (z2 : Zn (wj M1 215 0 z) M2) : CP B M2 := by
  have e := eqo_app (eqo_app z1.1 (eqo_z (z := z))) z2.1
  refine CP_tp h e rfl ⟨0, by omega, ?_, z2.2, fun j hj => absurd hj (by omega)⟩
  rw [eq1 z2.1 (b := 1) (k := 1) rfl]
  exact z1.2
theorem f_read (h : CP B M) : W_E_read p N M (fun _ M1 => ∀ z N', W_m_read p N' (wj M1 215 0 z) (fun _ M2 => CP B M2)) (fun _ M1 => ∀ N', W_m_read p N' M1 (fun _ M2 => CP B M2)) := and_E_read (Q1 := fun _ M1 => Zc M M1) (E1 := fun _ M1 => Zc M M1) (fun _ _ z _ _ _ => and_m_read (fun _ _ z2 _ => Z_CPz h z z2) z_read z_read) (fun _ _ z _ _ => and_m_read (fun _ _ z2 _ => Z_CP h z z2) z_read z_read) zc_read zc_read
theorem f_next (h : CP B M) : W_E_next p N M (fun _ M1 => ∀ z N', W_m_next p N' (wj M1 215 0 z) (fun _ M2 => CP B M2)) (fun _ M1 => ∀ N', W_m_next p N' M1 (fun _ M2 => CP B M2)) := and_E_next (Q1 := fun _ M1 => Zc M M1) (E1 := fun _ M1 => Zc M M1) (fun _ _ z _ _ _ => and_m_next (fun _ _ z2 _ => Z_CPz h z z2) z_next z_next) (fun _ _ z _ _ => and_m_next (fun _ _ z2 _ => Z_CP h z z2) z_next z_next) zc_next zc_next
end ZC
end
section
/-! THE TAPE'S BYTES AS BOTH SIDES READ THEM -/
abbrev BY : Type := Nat → Int32
abbrev LT (f : BY) (n i : Nat) : Prop := i < n ∧ 97 ≤ (f i).toInt ∧ (f i).toInt ≤ 122
abbrev DG (f : BY) (n i : Nat) : Prop := i < n ∧ 48 ≤ (f i).toInt ∧ (f i).toInt ≤ 57
/-- bytes 0 to 255 -/
def BOK (f : BY) (n : Nat) : Prop := ∀ j, j < n → 0 ≤ (f j).toInt ∧ (f j).toInt < 256
theorem sg_i {x : Int32} (h : 0 ≤ x.toInt ∧ x.toInt < 256) : x.toInt8.toInt32.toInt = if x.toInt < 128 then x.toInt else x.toInt - 256 := by
  rw [Int8.toInt_toInt32, Int32.toInt_toInt8]
  rw [Int.bmod_def, show ((2 ^ 8 : Nat) : Int) = 256 from rfl]
  split <;> split <;> omega
/-- the class's tape -/
def TXc (M : MM) (f : BY) (n : Nat) : Prop := M.1 1 1 = i32 n ∧ M.1 2 = f
/-- the reference's text as it is read: at p, begin g -/
def TXr (M : MM) (f : BY) (n p g : Nat) : Prop := M.1 190 20 = i32 n ∧ M.1 190 19 = i32 p ∧ M.1 190 21 = i32 g ∧ ∀ j, j < n → M.1 203 j = (f j).toInt8.toInt32
section LX
variable {f : BY} {n i p g : Nat} {M : MM}
theorem lt_lit {x : Int32} {k : Int32} : (x < k) ↔ x.toInt < k.toInt := Int32.lt_iff_toInt_lt
theorem v_let (h : TXc M f n) (hn : n ≤ 400) (hi : i < 1000) : V_Tape_isLetter (i32 i) M = b32 (decide (LT f n i)) := by
  unfold V_Tape_isLetter LT
  rw [h.1, h.2, ni_i (by omega), if_neg (by rw [lt_lit, i32_i (by omega)]; show ¬ (i : Int) < 0; omega)]
  by_cases a : i < n
  · rw [if_pos ((i32_lt (by omega) (by omega)).mpr a)]
    by_cases b : f i < 97
    · rw [if_pos b, decide_eq_false (by rw [lt_lit] at b; have : (97 : Int32).toInt = 97 := rfl; omega)]
      rfl
    · rw [if_neg b]
      by_cases c : (122 : Int32) < f i
      · rw [if_pos c, decide_eq_false (by rw [lt_lit] at c; have : (122 : Int32).toInt = 122 := rfl; omega)]
        rfl
      · rw [if_neg c, decide_eq_true (by rw [lt_lit] at b c; have : (97 : Int32).toInt = 97 := rfl; have : (122 : Int32).toInt = 122 := rfl; omega)]
        rfl
  · rw [if_neg (fun e => a ((i32_lt (by omega) (by omega)).mp e)), decide_eq_false (by omega)]
    rfl
theorem v_dig (h : TXc M f n) (hn : n ≤ 400) (hi : i < 1000) : V_Tape_isDigit (i32 i) M = b32 (decide (DG f n i)) := by
  unfold V_Tape_isDigit DG
  rw [h.1, h.2, ni_i (by omega), if_neg (by rw [lt_lit, i32_i (by omega)]; show ¬ (i : Int) < 0; omega)]
  by_cases a : i < n
  · rw [if_pos ((i32_lt (by omega) (by omega)).mpr a)]
    by_cases b : f i < 48
    · rw [if_pos b, decide_eq_false (by rw [lt_lit] at b; have : (48 : Int32).toInt = 48 := rfl; omega)]
      rfl
    · rw [if_neg b]
      by_cases c : (57 : Int32) < f i
      · rw [if_pos c, decide_eq_false (by rw [lt_lit] at c; have : (57 : Int32).toInt = 57 := rfl; omega)]
        rfl
      · rw [if_neg c, decide_eq_true (by rw [lt_lit] at b c; have : (48 : Int32).toInt = 48 := rfl; have : (57 : Int32).toInt = 57 := rfl; omega)]
        rfl
  · rw [if_neg (fun e => a ((i32_lt (by omega) (by omega)).mp e)), decide_eq_false (by omega)]
    rfl
theorem i32_m1 {i : Nat} (h : 0 < i) : i32 i - 1 = i32 (i - 1) := by
  have : i32 (i - 1) + 1 = i32 i := by rw [i32_s, show i - 1 + 1 = i by omega]
  rw [← this]
  exact Int32.add_sub_cancel _ _
theorem v_letp (h : TXc M f n) (hn : n ≤ 400) (hi : i < 1000) : V_Tape_isLetter (i32 i - 1) M = b32 (decide (0 < i ∧ LT f n (i - 1))) := by
  by_cases a : 0 < i
  · rw [i32_m1 a, v_let h hn (by omega)]
    congr 1
    exact decide_eq_decide.mpr ⟨fun e => ⟨a, e⟩, fun e => e.2⟩
  · obtain rfl : i = 0 := by omega
    rw [decide_eq_false (by omega)]
    unfold V_Tape_isLetter
    exact if_pos (by decide)
theorem v_digp (h : TXc M f n) (hn : n ≤ 400) (hi : i < 1000) : V_Tape_isDigit (i32 i - 1) M = b32 (decide (0 < i ∧ DG f n (i - 1))) := by
  by_cases a : 0 < i
  · rw [i32_m1 a, v_dig h hn (by omega)]
    congr 1
    exact decide_eq_decide.mpr ⟨fun e => ⟨a, e⟩, fun e => e.2⟩
  · obtain rfl : i = 0 := by omega
    rw [decide_eq_false (by omega)]
    unfold V_Tape_isDigit
    exact if_pos (by decide)
theorem v_at {lo hi : Int32} (h : TXr M f n p g) (hb : BOK f n) (hn : n ≤ 400) (hp : p < 1000) (h1 : 0 ≤ lo.toInt) (h2 : hi.toInt < 128) : V_m_isAt lo hi M = b32 (decide (p < n ∧ lo.toInt ≤ (f p).toInt ∧ (f p).toInt ≤ hi.toInt)) := by
  obtain ⟨a1, a2, a3, a4⟩ := h
  unfold V_m_isAt
  rw [a1, a2, ni_i (by omega)]
  by_cases a : p < n
  · rw [if_pos ((i32_lt (by omega) (by omega)).mpr a), a4 p a]
    have hs := sg_i (hb p a)
    have hb' := hb p a
    by_cases b : (f p).toInt8.toInt32 < lo
    · rw [if_pos b]
      rw [lt_lit, hs] at b
      rw [decide_eq_false (by split at b <;> omega)]
      rfl
    · rw [if_neg b]
      rw [lt_lit, hs] at b
      by_cases c : hi < (f p).toInt8.toInt32
      · rw [if_pos c]
        rw [lt_lit, hs] at c
        rw [decide_eq_false (by split at c <;> omega)]
        rfl
      · rw [if_neg c]
        rw [lt_lit, hs] at c
        rw [decide_eq_true (by split at b <;> split at c <;> omega)]
        rfl
  · rw [if_neg (fun e => a ((i32_lt (by omega) (by omega)).mp e)), decide_eq_false (by omega)]
    rfl
/-- the next that is no blank -/
def NB (f : BY) (n p q : Nat) : Prop := p ≤ q ∧ q ≤ n ∧ (∀ j, p ≤ j → j < q → (f j).toInt = 32) ∧ (q < n → (f q).toInt ≠ 32)
theorem NB_u {q q' : Nat} (h : NB f n p q) (h' : NB f n p q') : q = q' := by
  obtain ⟨a1, a2, a3, a4⟩ := h
  obtain ⟨b1, b2, b3, b4⟩ := h'
  rcases Nat.lt_trichotomy q q' with e | e | e
  · exact absurd (b3 q a1 e) (a4 (by omega))
  · exact e
  · exact absurd (a3 q' b1 e) (b4 (by omega))
/-- as long as letters (digits) go on -/
def ENd (P : Nat → Prop) (n q e : Nat) : Prop := q ≤ e ∧ e ≤ n ∧ (∀ j, q ≤ j → j < e → P j) ∧ ¬ P e
theorem ENd_u {P : Nat → Prop} {q e e' : Nat} (h : ENd P n q e) (h' : ENd P n q e') : e = e' := by
  obtain ⟨a1, a2, a3, a4⟩ := h
  obtain ⟨b1, b2, b3, b4⟩ := h'
  rcases Nat.lt_trichotomy e e' with c | c | c
  · exact absurd (b3 e a1 c) a4
  · exact c
  · exact absurd (a3 e' b1 c) b4
/-- at another place -/
def atP (M : MM) (p g : Nat) : MM := (fun b j => if b = 190 ∧ j = 19 then i32 p else if b = 190 ∧ j = 21 then i32 g else M.1 b j, M.2)
theorem atP_p {q : Nat} : wi (atP M p g) 190 19 (i32 q) = atP M q g := by
  apply Prod.ext
  · funext b j
    show (if b = 190 ∧ j = 19 then i32 q else if b = 190 ∧ j = 19 then i32 p else if b = 190 ∧ j = 21 then i32 g else M.1 b j) = if b = 190 ∧ j = 19 then i32 q else if b = 190 ∧ j = 21 then i32 g else M.1 b j
    by_cases e : b = 190 ∧ j = 19
    · rw [if_pos e, if_pos e]
    · rw [if_neg e, if_neg e, if_neg e]
  · rfl
theorem atP_g {q : Nat} : wi (atP M p g) 190 21 (i32 q) = atP M p q := by
  apply Prod.ext
  · funext b j
    show (if b = 190 ∧ j = 21 then i32 q else if b = 190 ∧ j = 19 then i32 p else if b = 190 ∧ j = 21 then i32 g else M.1 b j) = if b = 190 ∧ j = 19 then i32 p else if b = 190 ∧ j = 21 then i32 q else M.1 b j
    by_cases e : b = 190 ∧ j = 21
    · rw [if_pos e, if_neg (by omega), if_pos e]
    · rw [if_neg e, if_neg e, if_neg e]
  · rfl
theorem atP_0 (h : TXr M f n p g) : atP M p g = M := by
  apply Prod.ext
  · funext b j
    show (if b = 190 ∧ j = 19 then i32 p else if b = 190 ∧ j = 21 then i32 g else M.1 b j) = M.1 b j
    by_cases e : b = 190 ∧ j = 19
    · rw [if_pos e, e.1, e.2, h.2.1]
    · rw [if_neg e]
      by_cases e : b = 190 ∧ j = 21
      · rw [if_pos e, e.1, e.2, h.2.2.1]
      · rw [if_neg e]
  · rfl
theorem atP_2 {p' g' : Nat} : atP (atP M p g) p' g' = atP M p' g' := by
  apply Prod.ext
  · funext b j
    show (if b = 190 ∧ j = 19 then i32 p' else if b = 190 ∧ j = 21 then i32 g' else if b = 190 ∧ j = 19 then i32 p else if b = 190 ∧ j = 21 then i32 g else M.1 b j) = if b = 190 ∧ j = 19 then i32 p' else if b = 190 ∧ j = 21 then i32 g' else M.1 b j
    by_cases e : b = 190 ∧ j = 19
    · rw [if_pos e, if_pos e]
    · rw [if_neg e, if_neg e]
      by_cases e' : b = 190 ∧ j = 21
      · rw [if_pos e', if_neg e, if_pos e']
      · rw [if_neg e', if_neg e', if_neg e, if_neg e']
  · rfl
theorem atP_T {p' g' : Nat} (h : TXr M f n p g) : TXr (atP M p' g') f n p' g' := by
  obtain ⟨a1, a2, a3, a4⟩ := h
  exact ⟨a1, rfl, rfl, fun j hj => a4 j hj⟩
theorem TXr_p {q : Nat} (h : TXr M f n p g) : TXr (wi M 190 19 (i32 q)) f n q g := by
  obtain ⟨a1, a2, a3, a4⟩ := h
  exact ⟨by rw [wi_1n (by omega)]; exact a1, wi_1e, by rw [wi_1n (by omega)]; exact a3, fun j hj => by rw [wi_1n (by omega)]; exact a4 j hj⟩
theorem TXr_g {q : Nat} (h : TXr M f n p g) : TXr (wi M 190 21 (i32 q)) f n p q := by
  obtain ⟨a1, a2, a3, a4⟩ := h
  exact ⟨by rw [wi_1n (by omega)]; exact a1, by rw [wi_1n (by omega)]; exact a2, wi_1e, fun j hj => by rw [wi_1n (by omega)]; exact a4 j hj⟩
theorem wi_self {a k : Nat} {x : Int32} (h : M.1 a k = x) : wi M a k x = M := by
  apply Prod.ext
  · funext b j
    show (if b = a ∧ j = k then x else M.1 b j) = M.1 b j
    by_cases e : b = a ∧ j = k
    · rw [if_pos e, e.1, e.2, h]
    · rw [if_neg e]
  · rfl
theorem wi_wi {a k : Nat} {x y : Int32} : wi (wi M a k x) a k y = wi M a k y := by
  apply Prod.ext
  · funext b j
    show (if b = a ∧ j = k then y else if b = a ∧ j = k then x else M.1 b j) = if b = a ∧ j = k then y else M.1 b j
    by_cases e : b = a ∧ j = k
    · rw [if_pos e, if_pos e]
    · rw [if_neg e, if_neg e, if_neg e]
  · rfl
theorem r_blanks {N : Nat} {Q : MM → Prop} (h : TXr M f n p g) (hb : BOK f n) (hn : n ≤ 400) (hp : p ≤ n) (hQ : ∀ q, NB f n p q → Q (atP M q q)) : W_m_blanks N M Q := by
  unfold W_m_blanks
  refine I_m_blanks_0 _ (fun M' => ∃ q, p ≤ q ∧ q ≤ n ∧ (∀ j, p ≤ j → j < q → (f j).toInt = 32) ∧ M' = atP M q g) (fun N ih M' hih hv => ?_) N _ ⟨p, Nat.le_refl _, hp, fun j h1 h2 => by omega, (atP_0 h).symm⟩
  obtain ⟨q, q1, q2, q3, rfl⟩ := hv
  unfold B_m_blanks_0
  have hq := atP_T (p' := q) (g' := g) h
  rw [v_at hq hb hn (by omega) (by decide) (by decide), hq.2.1]
  have e32 : (32 : Int32).toInt = 32 := rfl
  rw [e32]
  refine ⟨fun h0 => ?_, fun h0 => ?_⟩
  · rw [b32_eq0, decide_eq_false_iff_not] at h0
    rw [atP_g]
    exact hQ q ⟨q1, q2, q3, fun a b => h0 ⟨a, by omega, by omega⟩⟩
  · rw [b32_ne0, decide_eq_true_eq] at h0
    rw [i32_s, atP_p]
    refine hih _ ⟨q + 1, by omega, by omega, fun j j1 j2 => ?_, rfl⟩
    by_cases e : j = q
    · rw [e]; omega
    · exact q3 j j1 (by omega)
theorem r_letters {N : Nat} {Q : MM → Prop} (h : TXr M f n p g) (hb : BOK f n) (hn : n ≤ 400) (hp : p ≤ n) (hQ : ∀ q e, NB f n p q → ENd (LT f n) n q e → Q (atP M e q)) : W_m_letters N M Q := by
  unfold W_m_letters
  refine r_blanks h hb hn hp (fun q hq => ?_)
  refine I_m_letters_4 _ (fun M' => ∃ e, q ≤ e ∧ e ≤ n ∧ (∀ j, q ≤ j → j < e → LT f n j) ∧ M' = atP M e q) (fun N ih M' hih hv => ?_) N _ ⟨q, Nat.le_refl _, hq.2.1, fun j h1 h2 => by omega, rfl⟩
  obtain ⟨e, q1, q2, q3, rfl⟩ := hv
  unfold B_m_letters_4
  have ht := atP_T (p' := e) (g' := q) h
  rw [v_at ht hb hn (by omega) (by decide) (by decide), ht.2.1]
  have e1 : (97 : Int32).toInt = 97 := rfl
  have e2 : (122 : Int32).toInt = 122 := rfl
  rw [e1, e2]
  refine ⟨fun h0 => ?_, fun h0 => ?_⟩
  · rw [b32_eq0, decide_eq_false_iff_not] at h0
    exact hQ q e hq ⟨q1, q2, q3, h0⟩
  · rw [b32_ne0, decide_eq_true_eq] at h0
    rw [i32_s, atP_p]
    refine hih _ ⟨e + 1, by omega, by omega, fun j j1 j2 => ?_, rfl⟩
    by_cases e : j = e
    · rw [e]; exact h0
    · exact q3 j j1 (by omega)
theorem r_sign {N : Nat} {c : Int32} {Q : Int32 → MM → Prop} (h : TXr M f n p g) (hb : BOK f n) (hn : n ≤ 400) (hp : p ≤ n) (h1 : 0 ≤ c.toInt) (h2 : c.toInt < 128) (hQ : ∀ q, NB f n p q → ((q < n ∧ f q = c) → Q 1 (atP M (q + 1) q)) ∧ (¬ (q < n ∧ f q = c) → Q 0 (atP M q q))) : W_m_sign c N M Q := by
  unfold W_m_sign
  refine r_blanks h hb hn hp (fun q hq => ?_)
  have ht := atP_T (p' := q) (g' := q) h
  have hq2 := hq.2.1
  rw [v_at ht hb hn (by omega) h1 h2, ht.2.1]
  have he : (c.toInt ≤ (f q).toInt ∧ (f q).toInt ≤ c.toInt) ↔ f q = c := ⟨fun e => Int32.toInt_inj.mp (by omega), fun e => by rw [e]; omega⟩
  refine ⟨fun h0 => ?_, fun h0 => ?_⟩
  · rw [b32_eq0, decide_eq_false_iff_not, he] at h0
    exact (hQ q hq).2 h0
  · rw [b32_ne0, decide_eq_true_eq, he] at h0
    rw [i32_s, atP_p]
    exact (hQ q hq).1 h0
/-- a word's bytes -/
def wdL (f : BY) (q e : Nat) : List Int := (List.range (e - q)).map (fun j => (f (q + j)).toInt)
def stL (s : Nat) : List Int := (List.range (sx_len ((s + 1) / 128))).map (fun j => (sc (s + 1) (i32 j)).toInt)
theorem r_isWord {s N q e : Nat} {Q : Int32 → Prop} (h : TXr M f n e q) (hb : BOK f n) (hn : n ≤ 400) (he : ENd (LT f n) n q e) (hs : sx_len ((s + 1) / 128) < 100) (hQ : Q (b32 (decide (wdL f q e = stL s)))) : W_m_isWord s N M Q := by
  obtain ⟨a1, a2, a3, a4⟩ := h
  obtain ⟨q1, q2, q3, q4⟩ := he
  unfold W_m_isWord
  have ee : (i32 e - i32 q : Int32) = i32 (e - q) := by
    have : i32 (e - q) + i32 q = i32 e := by rw [i32_a, Nat.sub_add_cancel q1]
    rw [← this]
    exact Int32.add_sub_cancel _ _
  rw [a2, a3, ee]
  refine ⟨fun hl => ?_, fun hl => ?_⟩
  · have hl' : e - q = sx_len ((s + 1) / 128) := by
      have := congrArg Int32.toInt hl
      rw [i32_i (by omega), show (Int32.ofNat (sx_len ((s + 1) / 128))) = i32 (sx_len ((s + 1) / 128)) from rfl, i32_i (by omega)] at this
      omega
    have hw : wdL f q e = stL s ↔ ∀ j, j < e - q → (f (q + j)).toInt = (sc (s + 1) (i32 j)).toInt := by
      unfold wdL stL
      rw [← hl']
      constructor
      · intro hh j hj
        exact List.map_inj_left.mp hh j (List.mem_range.mpr hj)
      · intro hh
        exact List.map_inj_left.mpr (fun j hj => hh j (List.mem_range.mp hj))
    refine I_m_isWord_24 s M Q (fun v2 v3 => (v2 = 0 ∧ ¬ wdL f q e = stL s) ∨ (v2 = 1 ∧ ∃ k, k ≤ e - q ∧ v3 = i32 k ∧ ∀ j, j < k → (f (q + j)).toInt = (sc (s + 1) (i32 j)).toInt)) (fun N ih v2 v3 hih hv => ?_) N _ _ (Or.inr ⟨rfl, 0, by omega, rfl, fun j hj => by omega⟩)
    unfold B_m_isWord_24
    rcases hv with ⟨rfl, h2⟩ | ⟨rfl, k, k1, rfl, k3⟩
    · refine ⟨fun _ => ?_, fun hb => absurd rfl hb⟩
      rw [decide_eq_false h2] at hQ
      exact hQ
    · refine ⟨fun hb => absurd hb (by decide), fun _ => ⟨fun hk => ?_, fun hk => ?_⟩⟩
      · have hk' : k < e - q := by
          rw [show (Int32.ofNat (sx_len ((s + 1) / 128))) = i32 (sx_len ((s + 1) / 128)) from rfl, ← hl'] at hk
          exact (i32_lt (by omega) (by omega)).mp hk
        rw [a3, i32_a, ni_i (by omega), a4 _ (by omega)]
        have hlt := q3 (q + k) (by omega) (by omega)
        have hsg := sg_i (hb (q + k) (by omega))
        rw [if_pos (by have := hlt.2.2; omega)] at hsg
        refine ⟨fun he => hih _ _ (Or.inr ⟨rfl, k + 1, by omega, i32_s k, fun j hj => ?_⟩), fun he => hih _ _ (Or.inl ⟨rfl, fun hh => he ?_⟩)⟩
        · by_cases e0 : j = k
          · rw [e0, ← hsg, he]
          · exact k3 j (by omega)
        · have := hw.mp hh k hk'
          exact Int32.toInt_inj.mp (by rw [hsg]; exact this)
      · have hk' : ¬ k < e - q := by
          rw [show (Int32.ofNat (sx_len ((s + 1) / 128))) = i32 (sx_len ((s + 1) / 128)) from rfl, ← hl'] at hk
          exact fun x => hk ((i32_lt (by omega) (by omega)).mpr x)
        rw [decide_eq_true (hw.mpr (fun j hj => k3 j (by omega)))] at hQ
        exact hQ
  · have hw : ¬ wdL f q e = stL s := fun hh => hl (by
      have := congrArg List.length hh
      unfold wdL stL at this
      rw [List.length_map, List.length_map, List.length_range, List.length_range] at this
      rw [this]
      rfl)
    rw [decide_eq_false hw] at hQ
    refine I_m_isWord_24 s M Q (fun v2 _ => v2 = 0) (fun N ih v2 v3 hih hv => ?_) N _ _ rfl
    unfold B_m_isWord_24
    subst hv
    exact ⟨fun _ => hQ, fun hb => absurd rfl hb⟩
theorem r_passes {s N : Nat} {Q : Int32 → MM → Prop} (h : TXr M f n p g) (hb : BOK f n) (hn : n ≤ 400) (hp : p ≤ n) (hs : sx_len ((s + 1) / 128) < 100) (hQ : ∀ q e, NB f n p q → ENd (LT f n) n q e → (wdL f q e = stL s → Q 1 (atP M e q)) ∧ (¬ wdL f q e = stL s → Q 0 (atP M q q))) : W_m_passes s N M Q := by
  unfold W_m_passes
  refine r_letters h hb hn hp (fun q e hq he => ?_)
  refine r_isWord (atP_T h) hb hn he hs ?_
  refine ⟨fun h0 => ?_, fun h0 => ?_⟩
  · rw [b32_eq0, decide_eq_false_iff_not] at h0
    rw [show (atP M e q).1 190 21 = i32 q from rfl, atP_p]
    exact (hQ q e hq he).2 h0
  · rw [b32_ne0, decide_eq_true_eq] at h0
    exact (hQ q e hq he).1 h0
end LX
end
section
/-! NUMBERS AND MATTERS AS THE REFERENCE READS THEM -/
/-- the value of so many digits -/
def nv (f : BY) (q : Nat) : Nat → Int32
  | 0 => 0
  | k + 1 => 10 * nv f q k + f (q + k) - 48
def numR (f : BY) (p1 p2 : Int32) (q e : Nat) : Int32 := if e = q then -1 else if 3 < e - q then -1 else if nv f q (e - q) < p1 then -1 else if p2 < nv f q (e - q) then -1 else nv f q (e - q)
def mtR (f : BY) (q e : Nat) : Int32 := if e - q = 2 then (if f q - 48 < 8 then (if f (q + 1) - 48 < 8 then 8 * (f q - 48) + (f (q + 1) - 48) else -1) else -1) else -1
theorem i32_df {e q : Nat} (h : q ≤ e) : (i32 e - i32 q : Int32) = i32 (e - q) := by
  have : i32 (e - q) + i32 q = i32 e := by rw [i32_a, Nat.sub_add_cancel h]
  rw [← this]
  exact Int32.add_sub_cancel _ _
theorem i32_ij {a b : Nat} (ha : a < 2147483648) (hb : b < 2147483648) : i32 a = i32 b ↔ a = b := ⟨fun h => by
  have := congrArg Int32.toInt h
  rw [i32_i ha, i32_i hb] at this
  omega, fun h => by rw [h]⟩
section LY
variable {f : BY} {n i p g : Nat} {M : MM}
theorem dg_b {j : Nat} (hb : BOK f n) (h : DG f n j) : (f j).toInt8.toInt32 = f j := by
  have hs := sg_i (hb j h.1)
  rw [if_pos (by have := h.2.2; omega)] at hs
  exact Int32.toInt_inj.mp hs
theorem r_number {N : Nat} {p1 p2 : Int32} {Q : Int32 → MM → Prop} (h : TXr M f n p g) (hb : BOK f n) (hn : n ≤ 400) (hp : p ≤ n) (hQ : ∀ q e, NB f n p q → ENd (DG f n) n q e → Q (numR f p1 p2 q e) (atP M e q)) : W_m_number p1 p2 N M Q := by
  unfold W_m_number
  refine r_blanks h hb hn hp (fun q hq => ?_)
  refine I_m_number_6 _ _ _ _ (fun v M' => ∃ e, q ≤ e ∧ e ≤ n ∧ (∀ j, q ≤ j → j < e → DG f n j) ∧ (e - q ≤ 3 → v = nv f q (e - q)) ∧ M' = atP M e q) (fun N ih v M' hih hv => ?_) N _ _ ⟨q, Nat.le_refl _, hq.2.1, fun j h1 h2 => by omega, fun _ => by rw [Nat.sub_self]; rfl, rfl⟩
  obtain ⟨e, q1, q2, q3, q4, rfl⟩ := hv
  unfold B_m_number_6
  dsimp only
  have ht := atP_T (p' := e) (g' := q) h
  obtain ⟨t1, t2, t3, t4⟩ := ht
  rw [v_at ⟨t1, t2, t3, t4⟩ hb hn (by omega) (by decide) (by decide), t2, t3, i32_df q1]
  have e1 : (48 : Int32).toInt = 48 := rfl
  have e2 : (57 : Int32).toInt = 57 := rfl
  rw [e1, e2]
  refine ⟨fun h0 => ?_, fun h0 => ?_⟩
  · rw [b32_eq0, decide_eq_false_iff_not] at h0
    have hh := hQ q e hq ⟨q1, q2, q3, h0⟩
    unfold numR at hh
    refine ⟨fun c => ?_, fun c => ⟨fun c2 => ?_, fun c2 => ?_⟩⟩
    · rw [if_pos ((i32_ij (by omega) (by omega)).mp c)] at hh
      exact hh
    · rw [if_neg (fun x => c (by rw [x])), if_pos ((i32_lt (j := 3) (by omega) (by omega)).mp c2)] at hh
      exact hh
    · have c3 : ¬ 3 < e - q := fun x => c2 ((i32_lt (j := 3) (by omega) (by omega)).mpr x)
      rw [if_neg (fun x => c (by rw [x])), if_neg c3] at hh
      rw [q4 (by omega)]
      refine ⟨fun c4 => ?_, fun c4 => ⟨fun c5 => ?_, fun c5 => ?_⟩⟩
      · rw [if_pos c4] at hh; exact hh
      · rw [if_neg c4, if_pos c5] at hh; exact hh
      · rw [if_neg c4, if_neg c5] at hh; exact hh
  · rw [b32_ne0, decide_eq_true_eq] at h0
    have hd : ∀ j, q ≤ j → j < e + 1 → DG f n j := fun j j1 j2 => by
      by_cases c : j = e
      · rw [c]; exact h0
      · exact q3 j j1 (by omega)
    rw [i32_s, atP_p]
    refine ⟨fun c => ?_, fun c => ?_⟩
    · have c' := (i32_lt (k := 3) (by omega) (by omega)).mp c
      refine hih _ _ ⟨e + 1, by omega, by omega, hd, fun _ => ?_, rfl⟩
      rw [ni_i (by omega), t4 e h0.1, dg_b hb h0, q4 (by omega), show e + 1 - q = (e - q) + 1 by omega]
      show _ = 10 * nv f q (e - q) + f (q + (e - q)) - 48
      rw [show q + (e - q) = e by omega]
    · refine hih _ _ ⟨e + 1, by omega, by omega, hd, fun hx => ?_, rfl⟩
      exact absurd ((i32_lt (k := 3) (by omega) (by omega)).mpr (by omega)) c
theorem r_figure {N : Nat} {Q : Int32 → MM → Prop} (h : TXr M f n p g) (hb : BOK f n) (hn : n ≤ 400) (hp : p ≤ n) (hQ : ∀ q, NB f n p q → Q (b32 (decide (DG f n q))) (atP M q q)) : W_m_isFigure N M Q := by
  unfold W_m_isFigure
  refine r_blanks h hb hn hp (fun q hq => ?_)
  have hq2 := hq.2.1
  rw [v_at (atP_T h) hb hn (by omega) (by decide) (by decide)]
  exact hQ q hq
theorem r_matter {N : Nat} {Q : Int32 → MM → Prop} (h : TXr M f n p g) (hb : BOK f n) (hn : n ≤ 400) (hp : p ≤ n) (hQ : ∀ q e, NB f n p q → ENd (DG f n) n q e → Q (mtR f q e) (atP M e q)) : W_m_matterTold N M Q := by
  unfold W_m_matterTold
  refine r_blanks h hb hn hp (fun q hq => ?_)
  refine I_m_matterTold_4 _ _ (fun M' => ∃ e, q ≤ e ∧ e ≤ n ∧ (∀ j, q ≤ j → j < e → DG f n j) ∧ M' = atP M e q) (fun N ih M' hih hv => ?_) N _ ⟨q, Nat.le_refl _, hq.2.1, fun j h1 h2 => by omega, rfl⟩
  obtain ⟨e, q1, q2, q3, rfl⟩ := hv
  unfold B_m_matterTold_4
  dsimp only
  have ht := atP_T (p' := e) (g' := q) h
  obtain ⟨t1, t2, t3, t4⟩ := ht
  rw [v_at ⟨t1, t2, t3, t4⟩ hb hn (by omega) (by decide) (by decide), t2, t3, i32_df q1]
  have e1 : (48 : Int32).toInt = 48 := rfl
  have e2 : (57 : Int32).toInt = 57 := rfl
  rw [e1, e2]
  refine ⟨fun h0 => ?_, fun h0 => ?_⟩
  · rw [b32_eq0, decide_eq_false_iff_not] at h0
    have hh := hQ q e hq ⟨q1, q2, q3, h0⟩
    unfold mtR at hh
    refine ⟨fun c => ?_, fun c => ?_⟩
    · have c' : e - q = 2 := (i32_ij (b := 2) (by omega) (by omega)).mp c
      rw [if_pos c'] at hh
      rw [i32_s, ni_i (by omega), ni_i (by omega), t4 q (by omega), t4 (q + 1) (by omega), dg_b hb (q3 q (by omega) (by omega)), dg_b hb (q3 (q + 1) (by omega) (by omega))]
      refine ⟨fun c2 => ⟨fun c3 => ?_, fun c3 => ?_⟩, fun c2 => ?_⟩
      · rw [if_pos c2, if_pos c3] at hh; exact hh
      · rw [if_pos c2, if_neg c3] at hh; exact hh
      · rw [if_neg c2] at hh; exact hh
    · rw [if_neg (fun x => c (by rw [x]; rfl))] at hh
      exact hh
  · rw [b32_ne0, decide_eq_true_eq] at h0
    rw [i32_s, atP_p]
    refine hih _ ⟨e + 1, by omega, by omega, fun j j1 j2 => ?_, rfl⟩
    by_cases c : j = e
    · rw [c]; exact h0
    · exact q3 j j1 (by omega)
end LY
end
section
/-! THE CLASS'S THINGS: the words it knows -/
def WS : Nat := 63021502816913500094821647077860426288575505828352872431751190254872543940710353612704103794142872447020960573222899747923705051523171944367044331944129487877391232940799216069755921256384304944118173833723336490650189537168881845560507485002053376
/-- where the words begin in it -/
def WOF : List Nat := [0, 6, 13, 16, 19, 23, 27, 33, 39, 43, 47, 53, 61, 66, 71, 77, 83, 88, 93, 97, 102]
def wof (k : Nat) : Nat := WOF.getD k 0
def wln (k : Nat) : Nat := wof (k + 1) - wof k - 1
def wch (j : Nat) : Int32 := sc WS (i32 j)
def dwL (k : Nat) : List Int := (List.range (wln k)).map (fun m => (wch (wof k + m)).toInt)
theorem ws_l : Int32.ofNat (sx_len (WS / 128)) = i32 102 := by decide +kernel
theorem ws_e : ∀ k, k < 20 → wch (wof k + wln k) = 32 ∧ wof (k + 1) = wof k + wln k + 1 ∧ wof (k + 1) ≤ 102 ∧ wln k < 10 := by decide +kernel
theorem ws_c : ∀ k, k < 20 → ∀ m, m < wln k → ¬ wch (wof k + m) = 32 := by decide +kernel
theorem ws_20 : wof 20 = 102 := by decide +kernel
theorem st_place : stL 196476243687425 = dwL 7 ∧ sx_len ((196476243687425 + 1) / 128) < 100 := by decide +kernel
theorem st_day : stL 3165696515 = dwL 8 ∧ sx_len ((3165696515 + 1) / 128) < 100 := by decide +kernel
theorem st_who : stL 3082042245 = dwL 9 ∧ sx_len ((3082042245 + 1) / 128) < 100 := by decide +kernel
theorem st_known : stL 201467113190791 = dwL 10 ∧ sx_len ((201467113190791 + 1) / 128) < 100 := by decide +kernel
theorem st_not : stL 3124213513 = dwL 5 ∧ sx_len ((3124213513 + 1) / 128) < 100 := by decide +kernel
theorem st_feast : stL 204756940403467 = dwL 6 ∧ sx_len ((204756940403467 + 1) / 128) < 100 := by decide +kernel
theorem st_and : stL 2989961357 = dwL 4 ∧ sx_len ((2989961357 + 1) / 128) < 100 := by decide +kernel
theorem st_or : stL 12138383 = dwL 3 ∧ sx_len ((12138383 + 1) / 128) < 100 := by decide +kernel
theorem st_always : stL 52280337941016721 = dwL 1 ∧ sx_len ((52280337941016721 + 1) / 128) < 100 := by decide +kernel
theorem st_never : stL 203627540166419 = dwL 0 ∧ sx_len ((203627540166419 + 1) / 128) < 100 := by decide +kernel
theorem st_if : stL 11744405 = dwL 2 ∧ sx_len ((11744405 + 1) / 128) < 100 := by decide +kernel
theorem dw_ne : ∀ k, k < 20 → ∀ l, l < 20 → dwL k = dwL l → k = l := by decide +kernel
/-- what a word is: its number, or 22 -/
def wnm (w : List Int) (r : Nat) : Prop := (r < 20 ∧ w = dwL r) ∨ (r = 22 ∧ ∀ k, k < 20 → ¬ w = dwL k)
section LZ
variable {f : BY} {n i e : Nat} {M : MM}
theorem c_eow {N : Nat} {Q : Int32 → Prop} (h : TXc M f n) (hn : n ≤ 400) (hi : LT f n i) (hQ : ∀ e, ENd (LT f n) n i e → Q (i32 e)) : W_Text_endOfWord (i32 i) N M Q := by
  unfold W_Text_endOfWord
  have hin := hi.1
  refine I_Text_endOfWord_4 _ _ _ (fun v => ∃ e, i < e ∧ e ≤ n ∧ (∀ j, i ≤ j → j < e → LT f n j) ∧ v = i32 e) (fun N ih v hih hv => ?_) N _ ⟨i + 1, by omega, by omega, fun j j1 j2 => by rw [show j = i by omega]; exact hi, i32_s i⟩
  obtain ⟨e, e1, e2, e3, rfl⟩ := hv
  unfold B_Text_endOfWord_4
  rw [v_let h hn (by omega), h.1]
  refine ⟨fun _ => ⟨fun h0 => ?_, fun h0 => ?_⟩, fun h0 => ?_⟩
  · rw [b32_eq0, decide_eq_false_iff_not] at h0
    exact hQ e ⟨by omega, e2, e3, h0⟩
  · rw [b32_ne0, decide_eq_true_eq] at h0
    rw [i32_s]
    refine hih _ ⟨e + 1, by omega, by have := h0.1; omega, fun j j1 j2 => ?_, rfl⟩
    by_cases c : j = e
    · rw [c]; exact h0
    · exact e3 j j1 (by omega)
  · exact hQ e ⟨by omega, e2, e3, fun hx => h0 ((i32_lt (by omega) (by omega)).mpr hx.1)⟩
theorem c_eon {N : Nat} {Q : Int32 → Prop} (h : TXc M f n) (hn : n ≤ 400) (hi : DG f n i) (hQ : ∀ e, ENd (DG f n) n i e → Q (i32 e)) : W_Text_endOfNumber (i32 i) N M Q := by
  unfold W_Text_endOfNumber
  have hin := hi.1
  refine I_Text_endOfNumber_4 _ _ _ (fun v => ∃ e, i < e ∧ e ≤ n ∧ (∀ j, i ≤ j → j < e → DG f n j) ∧ v = i32 e) (fun N ih v hih hv => ?_) N _ ⟨i + 1, by omega, by omega, fun j j1 j2 => by rw [show j = i by omega]; exact hi, i32_s i⟩
  obtain ⟨e, e1, e2, e3, rfl⟩ := hv
  unfold B_Text_endOfNumber_4
  rw [v_dig h hn (by omega), h.1]
  refine ⟨fun _ => ⟨fun h0 => ?_, fun h0 => ?_⟩, fun h0 => ?_⟩
  · rw [b32_eq0, decide_eq_false_iff_not] at h0
    exact hQ e ⟨by omega, e2, e3, h0⟩
  · rw [b32_ne0, decide_eq_true_eq] at h0
    rw [i32_s]
    refine hih _ ⟨e + 1, by omega, by have := h0.1; omega, fun j j1 j2 => ?_, rfl⟩
    by_cases c : j = e
    · rw [c]; exact h0
    · exact e3 j j1 (by omega)
  · exact hQ e ⟨by omega, e2, e3, fun hx => h0 ((i32_lt (by omega) (by omega)).mpr hx.1)⟩
theorem c_val {N : Nat} {Q : Int32 → Prop} (h : TXc M f n) (hn : n ≤ 400) (hi : i ≤ e) (he : e ≤ n) (hQ : Q (if 3 < e - i then 1000 else nv f i (e - i))) : W_Text_valueOf (i32 i) (i32 e) N M Q := by
  unfold W_Text_valueOf
  rw [i32_df hi]
  refine ⟨fun c => ?_, fun c => ?_⟩
  · rw [if_pos ((i32_lt (j := 3) (by omega) (by omega)).mp c)] at hQ
    exact hQ
  · rw [if_neg (fun x => c ((i32_lt (j := 3) (by omega) (by omega)).mpr x))] at hQ
    refine I_Text_valueOf_16 _ _ _ _ (fun v j => ∃ k, k ≤ e - i ∧ v = nv f i k ∧ j = i32 (i + k)) (fun N ih v j hih hv => ?_) N _ _ ⟨0, by omega, rfl, rfl⟩
    obtain ⟨k, k1, rfl, rfl⟩ := hv
    unfold B_Text_valueOf_16
    refine ⟨fun c2 => ?_, fun c2 => ?_⟩
    · have c3 := (i32_lt (by omega) (by omega)).mp c2
      rw [h.2, ni_i (by omega), i32_s]
      refine hih _ _ ⟨k + 1, by omega, ?_, rfl⟩
      show _ = 10 * nv f i k + f (i + k) - 48
      rw [Int32.mul_comm]
    · have c3 : ¬ i + k < e := fun x => c2 ((i32_lt (by omega) (by omega)).mpr x)
      obtain rfl : k = e - i := by omega
      exact hQ
end LZ
end
section
/-! WHICH WORD IT IS -/
section LW
variable {f : BY} {n i e : Nat} {M : MM}
theorem wd_iff {k : Nat} : wdL f i e = dwL k ↔ e - i = wln k ∧ ∀ t, t < wln k → f (i + t) = wch (wof k + t) := by
  unfold wdL dwL
  constructor
  · intro h
    have hl := congrArg List.length h
    rw [List.length_map, List.length_map, List.length_range, List.length_range] at hl
    rw [hl] at h
    exact ⟨hl, fun t ht => Int32.toInt_inj.mp (List.map_inj_left.mp h t (List.mem_range.mpr ht))⟩
  · rintro ⟨hl, h⟩
    rw [hl]
    exact List.map_inj_left.mpr (fun t ht => by rw [h t (List.mem_range.mp ht)])
theorem c_word {N : Nat} {Q : Int32 → Prop} (h : TXc M f n) (hn : n ≤ 400) (hi : i ≤ e) (he : e ≤ n) (hQ : ∀ r, wnm (wdL f i e) r → Q (i32 r)) : W_Text_wordNumber (i32 i) (i32 e) N M Q := by
  unfold W_Text_wordNumber
  refine I_Text_wordNumber_11 _ _ _ _ (fun v3 v4 v5 v6 => ∃ k m, k ≤ 20 ∧ (k < 20 → m ≤ wln k) ∧ (k = 20 → m = 0) ∧ v3 = i32 k ∧ v6 = i32 (wof k + m) ∧ v4 = i32 (i + m) ∧ (∀ l, l < k → ¬ wdL f i e = dwL l) ∧ ((v5 = 1 ∧ ∀ t, t < m → i + t < e ∧ f (i + t) = wch (wof k + t)) ∨ (v5 = 0 ∧ ¬ wdL f i e = dwL k))) (fun N ih v3 v4 v5 v6 hih hv => ?_) N _ _ _ _ ⟨0, 0, by omega, fun _ => by omega, fun _ => rfl, rfl, rfl, rfl, fun l hl => by omega, Or.inl ⟨rfl, fun t ht => by omega⟩⟩
  obtain ⟨k, m, k1, k2, k3, rfl, rfl, rfl, k4, k5⟩ := hv
  unfold B_Text_wordNumber_11
  rw [show (63021502816913500094821647077860426288575505828352872431751190254872543940710353612704103794142872447020960573222899747923705051523171944367044331944129487877391232940799216069755921256384304944118173833723336490650189537168881845560507485002053376 : Nat) = WS from rfl, ws_l, show sc WS (i32 (wof k + m)) = wch (wof k + m) from rfl, h.2]
  by_cases hk : k < 20
  · obtain ⟨s1, s2, s3, s4⟩ := ws_e k hk
    have hm := k2 hk
    refine ⟨fun _ => ⟨fun hc => ?_, fun hc => ?_⟩, fun hx => absurd ((i32_lt (by omega) (by omega)).mpr (by omega)) hx⟩
    · have em : m = wln k := by
        rcases Nat.lt_or_ge m (wln k) with c | c
        · exact absurd hc (ws_c k hk m c)
        · omega
      have nx : ¬ wdL f i e = dwL k → ih (i32 k + 1) (i32 i) 1 (i32 (wof k + m) + 1) := fun hne => by
        rw [i32_s, i32_s, em, ← s2]
        refine hih _ _ _ _ ⟨k + 1, 0, by omega, fun _ => by omega, fun _ => rfl, rfl, rfl, rfl, fun l hl => ?_, Or.inl ⟨rfl, fun t ht => by omega⟩⟩
        by_cases c : l = k
        · rw [c]; exact hne
        · exact k4 l (by omega)
      rcases k5 with ⟨rfl, k5⟩ | ⟨rfl, k5⟩
      · refine ⟨fun hb => absurd hb (by decide), fun _ => ⟨fun hb => ?_, fun hb => ?_⟩⟩
        · have hb' := (i32_ij (by omega) (by omega)).mp hb
          exact hQ k (Or.inl ⟨hk, wd_iff.mpr ⟨by omega, fun t ht => (k5 t (by omega)).2⟩⟩)
        · refine nx (fun hw => hb ?_)
          have := (wd_iff.mp hw).1
          rw [show i + m = e by omega]
      · exact ⟨fun _ => nx k5, fun hb => absurd rfl hb⟩
    · have em : m < wln k := by
        rcases Nat.lt_or_ge m (wln k) with c | c
        · exact c
        · obtain rfl : m = wln k := by omega
          exact absurd s1 hc
      have no : ¬ wdL f i e = dwL k → ih (i32 k) (i32 (i + m) + 1) 0 (i32 (wof k + m) + 1) := fun hne => by
        rw [i32_s, i32_s]
        exact hih _ _ _ _ ⟨k, m + 1, by omega, fun _ => by omega, fun _ => by omega, rfl, rfl, rfl, k4, Or.inr ⟨rfl, hne⟩⟩
      rcases k5 with ⟨rfl, k5⟩ | ⟨rfl, k5⟩
      · refine ⟨fun hb => absurd hb (by decide), fun _ => ⟨fun hb => ?_, fun hb => ?_⟩⟩
        · have hb' := (i32_lt (by omega) (by omega)).mp hb
          rw [ni_i (by omega)]
          refine ⟨fun hf => ?_, fun hf => no (fun hw => hf ((wd_iff.mp hw).2 m em))⟩
          rw [i32_s, i32_s]
          refine hih _ _ _ _ ⟨k, m + 1, by omega, fun _ => by omega, fun _ => by omega, rfl, rfl, rfl, k4, Or.inl ⟨rfl, fun t ht => ?_⟩⟩
          by_cases c : t = m
          · rw [c]; exact ⟨hb', hf⟩
          · exact k5 t (by omega)
        · have hb' : ¬ i + m < e := fun x => hb ((i32_lt (by omega) (by omega)).mpr x)
          exact no (fun hw => by have := (wd_iff.mp hw).1; omega)
      · exact ⟨fun _ => no k5, fun hb => absurd rfl hb⟩
  · obtain rfl : k = 20 := by omega
    have em := k3 rfl
    refine ⟨fun hx => ?_, fun _ => hQ 22 (Or.inr ⟨rfl, k4⟩)⟩
    rw [ws_20] at hx
    have := (i32_lt (by omega) (by omega)).mp hx
    omega
theorem wnm_u {w : List Int} {r r' : Nat} (h : wnm w r) (h' : wnm w r') : r = r' := by
  rcases h with ⟨a, b⟩ | ⟨a, b⟩ <;> rcases h' with ⟨c, d⟩ | ⟨c, d⟩
  · exact dw_ne r a r' c (b.symm.trans d)
  · exact absurd b (d r a)
  · exact absurd d (b r' c)
  · omega
theorem wnm_k {w : List Int} {r k : Nat} (h : wnm w r) (hk : k < 20) : w = dwL k ↔ r = k := by
  rcases h with ⟨a, b⟩ | ⟨a, b⟩
  · exact ⟨fun e => dw_ne r a k hk (b.symm.trans e), fun e => e ▸ b⟩
  · exact ⟨fun e => absurd e (b k hk), fun e => by omega⟩
end LW
end
section
/-! THE TEXT SPLIT INTO THINGS -/
def thb (M : MM) (i : Nat) : Nat := ni (M.1 5 i)
def the (M : MM) (i : Nat) : Nat := ni (M.1 5 i) + ni (M.1 6 i)
/-- a thing of the text from b to e: what it is, what it is worth -/
def TKN (f : BY) (n b : Nat) (k : Int32) (e : Nat) (v : Int32) : Prop :=
  (LT f n b ∧ ENd (LT f n) n b e ∧ (∃ r, wnm (wdL f b e) r ∧ k = i32 r) ∧ v = 0) ∨
  (DG f n b ∧ ENd (DG f n) n b e ∧ k = 20 ∧ v = if 3 < e - b then 1000 else nv f b (e - b)) ∨
  (b < n ∧ ¬ LT f n b ∧ ¬ DG f n b ∧ (f b).toInt ≠ 32 ∧ e = b + 1 ∧ k = mx (f b) 22 ∧ v = 0) ∨
  (b = n ∧ e = n ∧ k = 21 ∧ v = 0)
def THG (f : BY) (n : Nat) (M : MM) (i : Nat) : Prop := M.1 5 i = i32 (thb M i) ∧ thb M i ≤ n ∧ the M i ≤ n ∧ TKN f n (thb M i) (M.1 4 i) (the M i) (M.1 7 i)
def gp (M : MM) (i : Nat) : Nat := if i = 0 then 0 else the M (i - 1)
def CHN (f : BY) (n : Nat) (M : MM) (t : Nat) : Prop := ∀ i, i < t → THG f n M i ∧ NB f n (gp M i) (thb M i)
def TXT (f : BY) (n : Nat) (M : MM) (t : Nat) : Prop := CHN f n M (t + 1) ∧ thb M t = n ∧ (∀ i, i < t → thb M i < n) ∧ M.1 3 4 = i32 (t + 1) ∧ t ≤ 400
section SP
variable {f : BY} {n t : Nat} {M M' : MM}
theorem c_put {N b e : Nat} {k v : Int32} {Q : MM → Prop} (h4 : M.1 3 4 = i32 t) (ht : t ≤ 400) (hbe : b ≤ e) (he : e ≤ 400) (hQ : ∀ M', M'.1 3 4 = i32 (t + 1) → M'.1 4 t = k → M'.1 5 t = i32 b → M'.1 6 t = i32 (e - b) → M'.1 7 t = v → (∀ a j, j ≠ t → 4 ≤ a → M'.1 a j = M.1 a j) → Eqo fp_Text_put M M' → Q M') : W_Text_put k (i32 b) (i32 e) v N M Q := by
  refine and_Text_put (Q1 := fun M' => M'.1 3 4 = i32 (t + 1) ∧ M'.1 4 t = k ∧ M'.1 5 t = i32 b ∧ M'.1 6 t = i32 (e - b) ∧ M'.1 7 t = v ∧ (∀ a j, j ≠ t → 4 ≤ a → M'.1 a j = M.1 a j)) (fun M' h1 h2 => hQ M' h1.1 h1.2.1 h1.2.2.1 h1.2.2.2.1 h1.2.2.2.2.1 h1.2.2.2.2.2 h2) ?_ (an_Text_put (Q := fun M' => Eqo fp_Text_put M M') (fun M' h => h))
  unfold W_Text_put
  simp (disch := omega) only [wi_1n]
  rw [h4, ni_i (by omega), i32_df hbe, i32_s]
  refine ⟨fun _ => ⟨wi_1e, ?_, ?_, ?_, ?_, fun a j hj ha => ?_⟩, fun hx => absurd ((i32_lt (k := 401) (by omega) (by omega)).mpr (by omega)) hx⟩
  · simp (disch := omega) only [wi_1n, wi_1e]
  · simp (disch := omega) only [wi_1n, wi_1e]
  · simp (disch := omega) only [wi_1n, wi_1e]
  · simp (disch := omega) only [wi_1n, wi_1e]
  · simp (disch := omega) only [wi_1n]
theorem thb_eq {i : Nat} (h : M'.1 5 i = M.1 5 i) : thb M' i = thb M i := by
  unfold thb
  rw [h]
theorem the_eq {i : Nat} (h : M'.1 5 i = M.1 5 i) (h6 : M'.1 6 i = M.1 6 i) : the M' i = the M i := by
  unfold the
  rw [h, h6]
theorem thg_eq {i : Nat} (h : THG f n M i) (e : ∀ a, 4 ≤ a → M'.1 a i = M.1 a i) : THG f n M' i := by
  unfold THG at *
  rw [e 5 (by omega), e 4 (by omega), e 7 (by omega), thb_eq (e 5 (by omega)), the_eq (e 5 (by omega)) (e 6 (by omega))]
  exact h
theorem gp_eq {i : Nat} (e : ∀ a j, j < i → 4 ≤ a → M'.1 a j = M.1 a j) : gp M' i = gp M i := by
  unfold gp
  by_cases c : i = 0
  · rw [if_pos c, if_pos c]
  · rw [if_neg c, if_neg c, the_eq (e 5 _ (by omega) (by omega)) (e 6 _ (by omega) (by omega))]
theorem chn_s {b e : Nat} {k v : Int32} (h : CHN f n M t) (hn : n ≤ 400) (h1 : M'.1 4 t = k) (h2 : M'.1 5 t = i32 b) (h3 : M'.1 6 t = i32 (e - b)) (h4 : M'.1 7 t = v) (hf : ∀ a j, j ≠ t → 4 ≤ a → M'.1 a j = M.1 a j) (hbe : b ≤ e) (he : e ≤ n) (hk : TKN f n b k e v) (hg : NB f n (gp M t) b) : CHN f n M' (t + 1) ∧ thb M' t = b ∧ the M' t = e := by
  have e1 : thb M' t = b := by
    unfold thb
    rw [h2, ni_i (by omega)]
  have e2 : the M' t = e := by
    unfold the
    rw [h2, h3, ni_i (by omega), ni_i (by omega)]
    omega
  refine ⟨fun i hi => ?_, e1, e2⟩
  by_cases c : i = t
  · subst c
    rw [gp_eq (fun a j hj ha => hf a j (by omega) ha), e1]
    refine ⟨⟨by rw [e1]; exact h2, by omega, by omega, ?_⟩, hg⟩
    rw [e1, e2, h1, h4]
    exact hk
  · obtain ⟨g1, g2⟩ := h i (by omega)
    rw [gp_eq (fun a j hj ha => hf a j (by omega) ha), thb_eq (hf 5 i c (by omega))]
    exact ⟨thg_eq g1 (fun a ha => hf a i c ha), g2⟩
theorem gp_s : gp M (t + 1) = the M t := if_neg (by omega)
/-- how far the splitting is -/
def SPI (f : BY) (n : Nat) (M : MM) (t j : Nat) : Prop := t ≤ j ∧ M.1 3 4 = i32 t ∧ M.1 3 5 = 0 ∧ CHN f n M t ∧ (∀ i, i < t → thb M i < n) ∧ gp M t ≤ n ∧
  ((gp M t ≤ j ∧ ∀ x, gp M t ≤ x → x < j → (f x).toInt = 32) ∨ (j < gp M t ∧ 0 < t ∧ thb M (t - 1) < j ∧ ((∀ x, thb M (t - 1) ≤ x → x < gp M t → LT f n x) ∨ (∀ x, thb M (t - 1) ≤ x → x < gp M t → DG f n x))))
theorem spi_gap {j : Nat} {P : Nat → Prop} (h : CHN f n M t) (h2 : gp M t ≤ j) (h3 : ∀ x, gp M t ≤ x → x < j → (f x).toInt = 32) (hj : 0 < j) (hp : ∀ x, P x → (f x).toInt ≠ 32) (hn : P (j - 1)) : 0 < t ∧ gp M t = j ∧ the M (t - 1) = j := by
  rcases Nat.lt_or_ge (gp M t) j with c | c
  · exact absurd (h3 (j - 1) (by omega) (by omega)) (hp _ hn)
  · have e : gp M t = j := by omega
    have ht : 0 < t := by
      rcases Nat.eq_zero_or_pos t with c | c
      · rw [c] at e
        have : gp M 0 = 0 := if_pos rfl
        omega
      · exact c
    refine ⟨ht, e, ?_⟩
    rw [← e]
    exact (if_neg (by omega)).symm
theorem tkn_lt {b e : Nat} {k v : Int32} (h : TKN f n b k e v) (hb : b < n) : b < e := by
  rcases h with ⟨h1, h2, -⟩ | ⟨h1, h2, -⟩ | ⟨-, -, -, -, h2, -⟩ | ⟨h2, -⟩
  · rcases Nat.lt_or_ge b e with c | c
    · exact c
    · obtain rfl : b = e := by have := h2.1; omega
      exact absurd h1 h2.2.2.2
  · rcases Nat.lt_or_ge b e with c | c
    · exact c
    · obtain rfl : b = e := by have := h2.1; omega
      exact absurd h1 h2.2.2.2
  · omega
  · omega
theorem spi_let {j : Nat} (h : CHN f n M t) (hb : ∀ i, i < t → thb M i < n) (h2 : gp M t ≤ j) (h3 : ∀ x, gp M t ≤ x → x < j → (f x).toInt = 32) (hj : LT f n j) : ¬ (0 < j ∧ LT f n (j - 1)) := fun ⟨c1, c2⟩ => by
  obtain ⟨g1, g2, g3⟩ := spi_gap (P := LT f n) h h2 h3 c1 (fun x hx => by have := hx.2; omega) c2
  obtain ⟨⟨-, -, -, hk⟩, -⟩ := h (t - 1) (by omega)
  have hlt := tkn_lt hk (hb _ (by omega))
  rw [g3] at hk hlt
  rcases hk with ⟨-, hk, -⟩ | ⟨-, hk, -⟩ | ⟨-, hk, -, -, he, -⟩ | ⟨hb, he, -⟩
  · exact hk.2.2.2 hj
  · have hd := (hk.2.2.1 (j - 1) (by omega) (by omega)).2
    have := c2.2
    omega
  · rw [show j - 1 = thb M (t - 1) by omega] at c2
    exact hk c2
  · have := hj.1
    omega
theorem spi_dig {j : Nat} (h : CHN f n M t) (hb : ∀ i, i < t → thb M i < n) (h2 : gp M t ≤ j) (h3 : ∀ x, gp M t ≤ x → x < j → (f x).toInt = 32) (hj : DG f n j) : ¬ (0 < j ∧ DG f n (j - 1)) := fun ⟨c1, c2⟩ => by
  obtain ⟨g1, g2, g3⟩ := spi_gap (P := DG f n) h h2 h3 c1 (fun x hx => by have := hx.2; omega) c2
  obtain ⟨⟨-, -, -, hk⟩, -⟩ := h (t - 1) (by omega)
  have hlt := tkn_lt hk (hb _ (by omega))
  rw [g3] at hk hlt
  rcases hk with ⟨-, hk, -⟩ | ⟨-, hk, -⟩ | ⟨-, -, hk, -, he, -⟩ | ⟨hb, he, -⟩
  · have hd := (hk.2.2.1 (j - 1) (by omega) (by omega)).2
    have := c2.2
    omega
  · exact hk.2.2.2 hj
  · rw [show j - 1 = thb M (t - 1) by omega] at c2
    exact hk c2
  · have := hj.1
    omega
end SP
end
section
/-! THE TEXT SPLIT: the loop -/
section SQ
variable {f : BY} {n t : Nat} {M M' : MM}
theorem spi_put {j e : Nat} {k v : Int32} (hn : n ≤ 400) (hj : j < n) (ht : t ≤ j) (h : CHN f n M t) (hb : ∀ i, i < t → thb M i < n) (h2 : gp M t ≤ j) (h3 : ∀ x, gp M t ≤ x → x < j → (f x).toInt = 32) (h35 : M.1 3 5 = 0)
    (a1 : M'.1 3 4 = i32 (t + 1)) (a2 : M'.1 4 t = k) (a3 : M'.1 5 t = i32 j) (a4 : M'.1 6 t = i32 (e - j)) (a5 : M'.1 7 t = v) (a6 : ∀ a x, x ≠ t → 4 ≤ a → M'.1 a x = M.1 a x) (a7 : Eqo fp_Text_put M M')
    (hne : (f j).toInt ≠ 32) (hje : j < e) (he : e ≤ n) (hk : TKN f n j k e v) (hl : e = j + 1 ∨ (∀ x, j ≤ x → x < e → LT f n x) ∨ (∀ x, j ≤ x → x < e → DG f n x)) : SPI f n M' (t + 1) (j + 1) := by
  obtain ⟨c1, c2, c3⟩ := chn_s h hn a2 a3 a4 a5 a6 (by omega) he hk ⟨h2, by omega, h3, fun _ => hne⟩
  have g : gp M' (t + 1) = e := by rw [gp_s, c3]
  refine ⟨by omega, a1, by rw [eq1 a7 (b := 3) (k := 5) rfl]; exact h35, c1, fun i hi => ?_, by omega, ?_⟩
  · by_cases c : i = t
    · rw [c, c2]; exact hj
    · rw [thb_eq (a6 5 i c (by omega))]
      exact hb i (by omega)
  · rw [g]
    by_cases c : e = j + 1
    · exact Or.inl ⟨by omega, fun x x1 x2 => by omega⟩
    · refine Or.inr ⟨by omega, by omega, ?_, ?_⟩
      · rw [show t + 1 - 1 = t by omega, c2]; omega
      · rw [show t + 1 - 1 = t by omega, c2]
        rcases hl with hl | hl
        · exact absurd hl c
        · exact hl
theorem spi_skip {j : Nat} (h : SPI f n M t j) (hs : (gp M t ≤ j ∧ (f j).toInt = 32) ∨ j < gp M t) : SPI f n M t (j + 1) := by
  obtain ⟨b1, b2, b3, b4, b5, b6, b7⟩ := h
  refine ⟨by omega, b2, b3, b4, b5, b6, ?_⟩
  rcases b7 with ⟨c1, c2⟩ | ⟨c1, c2, c3, c4⟩
  · rcases hs with ⟨-, hs⟩ | hs
    · refine Or.inl ⟨by omega, fun x x1 x2 => ?_⟩
      by_cases c : x = j
      · rw [c]; exact hs
      · exact c2 x x1 (by omega)
    · omega
  · by_cases c : gp M t = j + 1
    · exact Or.inl ⟨by omega, fun x x1 x2 => by omega⟩
    · exact Or.inr ⟨by omega, c2, by omega, c4⟩
theorem c_split {N : Nat} {Q : MM → Prop} (h : TXc M f n) (hn : n ≤ 400) (hQ : ∀ M' t, TXT f n M' t → M'.1 3 5 = 0 → Eqo fp_Text_split M M' → Q M') : W_Text_split N M Q := by
  refine and_Text_split (Q1 := fun M' => ∃ t, TXT f n M' t ∧ M'.1 3 5 = 0) (fun M' h1 h2 => by obtain ⟨t, h1, h3⟩ := h1; exact hQ M' t h1 h3 h2) ?_ (an_Text_split (Q := fun M' => Eqo fp_Text_split M M') (fun M' h => h))
  unfold W_Text_split
  refine I_Text_split_12 _ (fun v M' => ∃ t j, j ≤ n ∧ v = i32 j ∧ TXc M' f n ∧ SPI f n M' t j) (fun N ih v M' hih hv => ?_) N _ _ ⟨0, 0, by omega, rfl, ⟨by rw [wi_1n (by omega), wi_1n (by omega)]; exact h.1, h.2⟩, ⟨by omega, by rw [wi_1n (by omega)]; exact wi_1e, wi_1e, fun i hi => by omega, fun i hi => by omega, Nat.zero_le _, Or.inl ⟨Nat.zero_le _, fun x x1 x2 => by omega⟩⟩⟩
  obtain ⟨t, j, hj, rfl, hc, hs⟩ := hv
  have hs' := hs
  obtain ⟨b1, b2, b3, b4, b5, b6, b7⟩ := hs'
  have hcp : ∀ M2, Eqo fp_Text_put M' M2 → TXc M2 f n := fun M2 e => ⟨by rw [eq1 e (b := 1) (k := 1) rfl]; exact hc.1, by rw [eqb e (lo := 2) (hi := 2) rfl (Nat.le_refl _) (Nat.le_refl _)]; exact hc.2⟩
  unfold B_Text_split_12
  rw [v_let hc hn (by omega), v_dig hc hn (by omega), v_letp hc hn (by omega), v_digp hc hn (by omega), hc.1, hc.2, ni_i (by omega), i32_s]
  refine ⟨fun hjn => ?_, fun hjn => ?_⟩
  · have hjn' := (i32_lt (by omega) (by omega)).mp hjn
    rcases b7 with ⟨c1, c2⟩ | ⟨c1, c2, c3, c4⟩
    · refine ⟨fun hl => ⟨fun hd => ⟨fun h32 => ?_, fun h32 => ?_⟩, fun hd => ⟨fun hp => ?_, fun hp => ?_⟩⟩, fun hl => ⟨fun hp => ?_, fun hp => ?_⟩⟩
      · refine hih _ _ ⟨t, j + 1, by omega, rfl, hc, spi_skip hs (Or.inl ⟨c1, ?_⟩)⟩
        rw [h32]; rfl
      · rw [b32_eq0, decide_eq_false_iff_not] at hl hd
        have h32' : (f j).toInt ≠ 32 := fun e => h32 (Int32.toInt_inj.mp (by rw [e]; rfl))
        refine c_put b2 (by omega) (by omega) (by omega) (fun M2 a1 a2 a3 a4 a5 a6 a7 => hih _ _ ⟨t + 1, j + 1, by omega, rfl, hcp M2 a7, spi_put hn hjn' b1 b4 b5 c1 c2 b3 a1 a2 a3 a4 a5 a6 a7 h32' (by omega) (by omega) (Or.inr (Or.inr (Or.inl ⟨hjn', hl, hd, h32', rfl, rfl, rfl⟩))) (Or.inl rfl)⟩)
      · rw [b32_ne0, decide_eq_true_eq] at hd
        refine c_eon hc hn hd (fun e he => ?_)
        have hlt : j < e := by
          rcases Nat.lt_or_ge j e with c | c
          · exact c
          · obtain rfl : j = e := by have := he.1; omega
            exact absurd hd he.2.2.2
        refine c_val hc hn (by omega) he.2.1 ?_
        refine c_put b2 (by omega) (by omega) (by have := he.2.1; omega) (fun M2 a1 a2 a3 a4 a5 a6 a7 => hih _ _ ⟨t + 1, j + 1, by omega, rfl, hcp M2 a7, spi_put hn hjn' b1 b4 b5 c1 c2 b3 a1 a2 a3 a4 a5 a6 a7 (by have := hd.2; omega) hlt he.2.1 (Or.inr (Or.inl ⟨hd, he, rfl, rfl⟩)) (Or.inr (Or.inr he.2.2.1))⟩)
      · rw [b32_ne0, decide_eq_true_eq] at hd hp
        exact absurd hp (spi_dig b4 b5 c1 c2 hd)
      · rw [b32_ne0, decide_eq_true_eq] at hl
        refine c_eow hc hn hl (fun e he => ?_)
        have hlt : j < e := by
          rcases Nat.lt_or_ge j e with c | c
          · exact c
          · obtain rfl : j = e := by have := he.1; omega
            exact absurd hl he.2.2.2
        refine c_word hc hn (by omega) he.2.1 (fun r hr => ?_)
        refine c_put b2 (by omega) (by omega) (by have := he.2.1; omega) (fun M2 a1 a2 a3 a4 a5 a6 a7 => hih _ _ ⟨t + 1, j + 1, by omega, rfl, hcp M2 a7, spi_put hn hjn' b1 b4 b5 c1 c2 b3 a1 a2 a3 a4 a5 a6 a7 (by have := hl.2; omega) hlt he.2.1 (Or.inl ⟨hl, he, ⟨r, hr, rfl⟩, rfl⟩) (Or.inr (Or.inl he.2.2.1))⟩)
      · rw [b32_ne0, decide_eq_true_eq] at hl hp
        exact absurd hp (spi_let b4 b5 c1 c2 hl)
    · have hsk := hih _ _ ⟨t, j + 1, by omega, rfl, hc, spi_skip hs (Or.inr c1)⟩
      rcases c4 with c4 | c4
      · have l1 := c4 j (by omega) c1
        have l2 := c4 (j - 1) (by omega) (by omega)
        refine ⟨fun hl => ?_, fun hl => ⟨fun hp => ?_, fun _ => hsk⟩⟩
        · rw [b32_eq0, decide_eq_false_iff_not] at hl
          exact absurd l1 hl
        · rw [b32_eq0, decide_eq_false_iff_not] at hp
          exact absurd ⟨by omega, l2⟩ hp
      · have l1 := c4 j (by omega) c1
        have l2 := c4 (j - 1) (by omega) (by omega)
        refine ⟨fun hl => ⟨fun hd => ?_, fun hd => ⟨fun hp => ?_, fun _ => hsk⟩⟩, fun hl => ?_⟩
        · rw [b32_eq0, decide_eq_false_iff_not] at hd
          exact absurd l1 hd
        · rw [b32_eq0, decide_eq_false_iff_not] at hp
          exact absurd ⟨by omega, l2⟩ hp
        · rw [b32_ne0, decide_eq_true_eq] at hl
          have := l1.2
          have := hl.2
          omega
  · have hjn' : ¬ j < n := fun x => hjn ((i32_lt (by omega) (by omega)).mpr x)
    obtain rfl : j = n := by omega
    rcases b7 with ⟨c1, c2⟩ | ⟨c1, c2, c3, c4⟩
    · refine c_put b2 (by omega) (Nat.le_refl _) (by omega) (fun M2 a1 a2 a3 a4 a5 a6 a7 => ?_)
      obtain ⟨d1, d2, d3⟩ := chn_s b4 hn a2 a3 a4 a5 a6 (Nat.le_refl _) (Nat.le_refl _) (Or.inr (Or.inr (Or.inr ⟨rfl, rfl, rfl, rfl⟩))) ⟨c1, Nat.le_refl _, c2, fun x => by omega⟩
      refine ⟨t, ⟨d1, d2, fun i hi => ?_, a1, by omega⟩, by rw [eq1 a7 (b := 3) (k := 5) rfl]; exact b3⟩
      rw [thb_eq (a6 5 i (by omega) (by omega))]
      exact b5 i hi
    · omega
end SQ
end
section
/-! THINGS, AS THE REFERENCE'S WALK MEETS THEM -/
def TKS (f : BY) (n t : Nat) (K V : Nat → Int32) (b e : Nat → Nat) : Prop := t ≤ 400 ∧ b t = n ∧ (∀ i, i < t → b i < n) ∧ ∀ i, i ≤ t → TKN f n (b i) (K i) (e i) (V i) ∧ b i ≤ n ∧ e i ≤ n ∧ NB f n (if i = 0 then 0 else e (i - 1)) (b i)
theorem TXT_s {f : BY} {n t : Nat} {M : MM} (h : TXT f n M t) : TKS f n t (M.1 4) (M.1 7) (thb M) (the M) ∧ (∀ i, i ≤ t → M.1 5 i = i32 (thb M i)) ∧ M.1 3 4 = i32 (t + 1) := by
  obtain ⟨h1, h2, h3, h4, h5⟩ := h
  exact ⟨⟨h5, h2, h3, fun i hi => ⟨(h1 i (by omega)).1.2.2.2, (h1 i (by omega)).1.2.1, (h1 i (by omega)).1.2.2.1, (h1 i (by omega)).2⟩⟩, fun i hi => (h1 i (by omega)).1.1, h4⟩
/-- ahead of thing i -/
def PT (e b : Nat → Nat) (i p : Nat) : Prop := (if i = 0 then 0 else e (i - 1)) ≤ p ∧ p ≤ b i
theorem wln_p : ∀ k, k < 20 → 0 < wln k := by decide +kernel
section TK
variable {f : BY} {n t i p g : Nat} {K V : Nat → Int32} {b e : Nat → Nat} {M : MM}
theorem PT_0 : PT e b 0 p ↔ p ≤ b 0 := by
  unfold PT
  rw [if_pos rfl]
  omega
theorem PT_s (h : TKS f n t K V b e) (hi : i < t) : PT e b (i + 1) (e i) := by
  have := (h.2.2.2 (i + 1) (by omega)).2.2.2.1
  unfold PT
  rw [if_neg (by omega)] at this ⊢
  rw [show i + 1 - 1 = i by omega] at this ⊢
  exact ⟨Nat.le_refl _, this⟩
theorem PT_b (h : TKS f n t K V b e) (hi : i ≤ t) : PT e b i (b i) := ⟨(h.2.2.2 i hi).2.2.2.1, Nat.le_refl _⟩
theorem tk_nb (h : TKS f n t K V b e) (hi : i ≤ t) (hp : PT e b i p) : NB f n p (b i) := by
  obtain ⟨-, h1, h2, h3, h4, h5, h6⟩ := h.2.2.2 i hi
  exact ⟨hp.2, h4, fun j j1 j2 => h5 j (by have := hp.1; omega) j2, h6⟩
theorem tk_pn (h : TKS f n t K V b e) (hi : i ≤ t) (hp : PT e b i p) : p ≤ n := by
  have := (h.2.2.2 i hi).2.1
  have := hp.2
  omega
theorem mx_22 {x : Int32} : mx x 22 = if x.toInt < 22 then 22 else x := by
  unfold mx
  by_cases c : x < 22
  · rw [if_pos c, if_pos (by rw [lt_lit] at c; exact c)]
  · rw [if_neg c, if_neg (by rw [lt_lit] at c; exact c)]
/-- what it is: a word, a number, a sign, the end -/
theorem tk_word (h : TKS f n t K V b e) (hi : i ≤ t) (hl : LT f n (b i)) : ENd (LT f n) n (b i) (e i) ∧ ∃ r, wnm (wdL f (b i) (e i)) r ∧ K i = i32 r := by
  rcases (h.2.2.2 i hi).1 with ⟨-, h2, h3, -⟩ | ⟨h1, -⟩ | ⟨-, h1, -⟩ | ⟨h1, -⟩
  · exact ⟨h2, h3⟩
  · have := h1.2; have := hl.2; omega
  · exact absurd hl h1
  · have := hl.1; omega
theorem tk_now (h : TKS f n t K V b e) (hi : i ≤ t) (hl : ¬ LT f n (b i)) : 20 ≤ (K i).toInt := by
  rcases (h.2.2.2 i hi).1 with ⟨h1, -⟩ | ⟨-, -, h1, -⟩ | ⟨-, -, -, -, -, h1, -⟩ | ⟨-, -, h1, -⟩
  · exact absurd h1 hl
  · rw [h1]; decide
  · rw [h1, mx_22]
    split
    · decide
    · omega
  · rw [h1]; decide
theorem t_passes {s k N : Nat} {Q : Int32 → MM → Prop} (hs : stL s = dwL k ∧ sx_len ((s + 1) / 128) < 100) (hk : k < 20) (h : TXr M f n p g) (hb : BOK f n) (hn : n ≤ 400) (hT : TKS f n t K V b e) (hi : i ≤ t) (hp : PT e b i p) (hQ : (K i = i32 k → Q 1 (atP M (e i) (b i))) ∧ (¬ K i = i32 k → Q 0 (atP M (b i) (b i)))) : W_m_passes s N M Q := by
  refine r_passes h hb hn (tk_pn hT hi hp) hs.2 (fun q e' hq he => ?_)
  obtain rfl := NB_u hq (tk_nb hT hi hp)
  rw [hs.1]
  by_cases hl : LT f n (b i)
  · obtain ⟨w1, r, w2, w3⟩ := tk_word hT hi hl
    obtain rfl := ENd_u he w1
    have hr : r < 23 := by rcases w2 with ⟨c, -⟩ | ⟨c, -⟩ <;> omega
    have hkr : K i = i32 k ↔ r = k := by
      rw [w3]
      exact i32_ij (by omega) (by omega)
    rw [wnm_k w2 hk, ← hkr]
    exact hQ
  · have hd : ENd (LT f n) n (b i) (b i) := ⟨Nat.le_refl _, (hT.2.2.2 i hi).2.1, fun j j1 j2 => by omega, hl⟩
    obtain rfl := ENd_u he hd
    have hne : ¬ wdL f (b i) (b i) = dwL k := fun x => by
      have := (wd_iff.mp x).1
      have := wln_p k hk
      omega
    have hK := tk_now hT hi hl
    exact ⟨fun x => absurd x hne, fun _ => hQ.2 (fun x => by rw [x, i32_i (by omega)] at hK; omega)⟩
theorem t_sign {c : Int32} {N : Nat} {Q : Int32 → MM → Prop} (hc : 22 < c.toInt ∧ c.toInt < 128 ∧ ¬ (97 ≤ c.toInt ∧ c.toInt ≤ 122) ∧ ¬ (48 ≤ c.toInt ∧ c.toInt ≤ 57) ∧ ¬ c.toInt = 32) (h : TXr M f n p g) (hb : BOK f n) (hn : n ≤ 400) (hT : TKS f n t K V b e) (hi : i ≤ t) (hp : PT e b i p) (hQ : (K i = c → Q 1 (atP M (e i) (b i))) ∧ (¬ K i = c → Q 0 (atP M (b i) (b i)))) : W_m_sign c N M Q := by
  refine r_sign h hb hn (tk_pn hT hi hp) (by omega) hc.2.1 (fun q hq => ?_)
  obtain rfl := NB_u hq (tk_nb hT hi hp)
  rcases (hT.2.2.2 i hi).1 with ⟨h1, -, ⟨r, hr, hk⟩, -⟩ | ⟨h1, -, hk, -⟩ | ⟨h1, h2, h3, h4, h5, hk, -⟩ | ⟨h1, -, hk, -⟩
  · have hr' : r < 23 := by rcases hr with ⟨c, -⟩ | ⟨c, -⟩ <;> omega
    refine ⟨fun x => ?_, fun _ => hQ.2 (fun x => ?_)⟩
    · rw [← x.2] at hc
      have := h1.2
      omega
    · rw [← x, hk, i32_i (by omega)] at hc
      omega
  · refine ⟨fun x => ?_, fun _ => hQ.2 (fun x => ?_)⟩
    · rw [← x.2] at hc
      have := h1.2
      omega
    · rw [← x, hk] at hc
      exact absurd hc.1 (by decide)
  · rw [hk, h5, mx_22] at hQ
    by_cases c22 : (f (b i)).toInt < 22
    · rw [if_pos c22] at hQ
      refine ⟨fun x => ?_, fun _ => hQ.2 (fun x => ?_)⟩
      · rw [← x.2] at hc
        omega
      · rw [← x] at hc
        exact absurd hc.1 (by decide)
    · rw [if_neg c22] at hQ
      exact ⟨fun x => hQ.1 x.2, fun x => hQ.2 (fun y => x ⟨h1, y⟩)⟩
  · refine ⟨fun x => by omega, fun _ => hQ.2 (fun x => ?_)⟩
    rw [← x, hk] at hc
    exact absurd hc.1 (by decide)
theorem tk_dig (h : TKS f n t K V b e) (hi : i ≤ t) : DG f n (b i) ↔ K i = 20 := by
  rcases (h.2.2.2 i hi).1 with ⟨h1, -, ⟨r, hr, hk⟩, -⟩ | ⟨h1, -, hk, -⟩ | ⟨h1, h2, h3, h4, h5, hk, -⟩ | ⟨h1, -, hk, -⟩
  · have h20 : ¬ K i = 20 := fun x => by
      rw [hk] at x
      have hr' : r < 23 := by rcases hr with ⟨c, -⟩ | ⟨c, -⟩ <;> omega
      have := (i32_ij (b := 20) (by omega) (by omega)).mp x
      rcases hr with ⟨c, -⟩ | ⟨c, -⟩ <;> omega
    exact ⟨fun x => by have := x.2; have := h1.2; omega, fun x => absurd x h20⟩
  · exact ⟨fun _ => hk, fun _ => h1⟩
  · refine ⟨fun x => absurd x h3, fun x => ?_⟩
    rw [hk, mx_22] at x
    by_cases c : (f (b i)).toInt < 22
    · rw [if_pos c] at x
      exact absurd x (by decide)
    · rw [if_neg c] at x
      rw [x] at c
      exact absurd (by decide) c
  · exact ⟨fun x => by have := x.1; omega, fun x => by rw [hk] at x; exact absurd x (by decide)⟩
theorem tk_num (h : TKS f n t K V b e) (hi : i ≤ t) (hk : K i = 20) : ENd (DG f n) n (b i) (e i) ∧ V i = if 3 < e i - b i then 1000 else nv f (b i) (e i - b i) := by
  have hd := (tk_dig h hi).mpr hk
  rcases (h.2.2.2 i hi).1 with ⟨h1, -⟩ | ⟨-, h2, -, h3⟩ | ⟨-, -, h1, -⟩ | ⟨h1, -⟩
  · have := h1.2; have := hd.2; omega
  · exact ⟨h2, h3⟩
  · exact absurd hd h1
  · have := hd.1; omega
theorem t_number {lo hi : Int32} {N : Nat} {Q : Int32 → MM → Prop} (h1 : hi < 1000) (h : TXr M f n p g) (hb : BOK f n) (hn : n ≤ 400) (hT : TKS f n t K V b e) (hi' : i ≤ t) (hp : PT e b i p) (hQ : (K i = 20 → Q (if V i < lo then -1 else if hi < V i then -1 else V i) (atP M (e i) (b i))) ∧ (¬ K i = 20 → Q (-1) (atP M (b i) (b i)))) : W_m_number lo hi N M Q := by
  refine r_number h hb hn (tk_pn hT hi' hp) (fun q e' hq he => ?_)
  obtain rfl := NB_u hq (tk_nb hT hi' hp)
  by_cases hk : K i = 20
  · obtain ⟨w1, w2⟩ := tk_num hT hi' hk
    obtain rfl := ENd_u he w1
    have hne : ¬ e i = b i := fun x => by
      have := (tk_dig hT hi').mpr hk
      rw [x] at w1
      exact w1.2.2.2 this
    have hh := hQ.1 hk
    unfold numR
    rw [if_neg hne]
    rw [w2] at hh
    by_cases c : 3 < e i - b i
    · rw [if_pos c] at hh ⊢
      by_cases d : (1000 : Int32) < lo
      · rw [if_pos d] at hh; exact hh
      · rw [if_neg d, if_pos h1] at hh; exact hh
    · rw [if_neg c] at hh ⊢
      exact hh
  · have hd : ENd (DG f n) n (b i) (b i) := ⟨Nat.le_refl _, (hT.2.2.2 i hi').2.1, fun j j1 j2 => by omega, fun x => hk ((tk_dig hT hi').mp x)⟩
    obtain rfl := ENd_u he hd
    unfold numR
    rw [if_pos rfl]
    exact hQ.2 hk
theorem t_figure {N : Nat} {Q : Int32 → MM → Prop} (h : TXr M f n p g) (hb : BOK f n) (hn : n ≤ 400) (hT : TKS f n t K V b e) (hi : i ≤ t) (hp : PT e b i p) (hQ : (K i = 20 → Q 1 (atP M (b i) (b i))) ∧ (¬ K i = 20 → Q 0 (atP M (b i) (b i)))) : W_m_isFigure N M Q := by
  refine r_figure h hb hn (tk_pn hT hi hp) (fun q hq => ?_)
  obtain rfl := NB_u hq (tk_nb hT hi hp)
  by_cases hk : K i = 20
  · rw [decide_eq_true ((tk_dig hT hi).mpr hk)]
    exact hQ.1 hk
  · rw [decide_eq_false (fun x => hk ((tk_dig hT hi).mp x))]
    exact hQ.2 hk
end TK
end
section
/-! A SUM: what it means; the reference's reading of a part -/
abbrev SF : Type := Int32 → Int32 → Int32 → Int32 → Int32
def pPart (K V : Nat → Int32) (i : Nat) : Option SF := if K i = 20 then (if 999 < V i then none else some (fun _ _ _ _ => V i)) else if K i = 7 then some (fun pl _ _ _ => pl) else if K i = 8 then some (fun _ _ _ dy => dy) else if K i = 9 then some (fun _ wh _ _ => wh) else if K i = 10 then some (fun _ _ kn _ => kn) else none
def pSum (K V : Nat → Int32) : Nat → SF → Nat → Option SF × Nat
  | 0, _, i => (none, i)
  | m + 1, s, i => match pPart K V i with
    | none => (none, i)
    | some q => if K (i + 1) = 43 then pSum K V m (fun pl wh kn dy => s pl wh kn dy + q pl wh kn dy) (i + 2) else (some (fun pl wh kn dy => s pl wh kn dy + q pl wh kn dy), i + 1)
/-- steps from σ to σ' leave this on the stack -/
def RMg (td : Nat → Int32) (σ σ' : Nat) (s : SF) : Prop := ∀ pl wh kn dy val (h : Nat), h + (σ' - σ) < 100000 → ∃ val', rrun td pl wh kn dy σ (σ' - σ) (i32 h, val) = (i32 (h + 1), val') ∧ val' h = s pl wh kn dy ∧ ∀ j, j < h → val' j = val j
theorem rrun_app {td : Nat → Int32} {pl wh kn dy : Int32} {m : Nat} : ∀ (k i : Nat) (v : RV), rrun td pl wh kn dy i (k + m) v = rrun td pl wh kn dy (i + k) m (rrun td pl wh kn dy i k v)
  | 0, i, v => by rw [Nat.zero_add, Nat.add_zero]; rfl
  | k + 1, i, v => by
    rw [show k + 1 + m = (k + m) + 1 by omega]
    show rrun td pl wh kn dy (i + 1) (k + m) _ = rrun td pl wh kn dy (i + (k + 1)) m (rrun td pl wh kn dy (i + 1) k _)
    rw [rrun_app k (i + 1), show i + 1 + k = i + (k + 1) by omega]
theorem rrun_cg {td td' : Nat → Int32} {pl wh kn dy : Int32} : ∀ (k i : Nat) (v : RV), (∀ j, j < 2 * (i + k) → td' j = td j) → rrun td' pl wh kn dy i k v = rrun td pl wh kn dy i k v
  | 0, i, v, _ => rfl
  | k + 1, i, v, h => by
    show rrun td' pl wh kn dy (i + 1) k _ = rrun td pl wh kn dy (i + 1) k _
    rw [h (2 * i) (by omega), h (2 * i + 1) (by omega)]
    exact rrun_cg k (i + 1) _ (fun j hj => h j (by omega))
theorem RMg_cg {td td' : Nat → Int32} {σ σ' : Nat} {s : SF} (h : RMg td σ σ' s) (hl : σ ≤ σ') (e : ∀ j, j < 2 * σ' → td' j = td j) : RMg td' σ σ' s := fun pl wh kn dy val x hx => by
  obtain ⟨v, v1, v2, v3⟩ := h pl wh kn dy val x hx
  exact ⟨v, by rw [rrun_cg _ _ _ (fun j hj => e j (by omega))]; exact v1, v2, v3⟩
section RSU
variable {f : BY} {n t i p g σ : Nat} {K V : Nat → Int32} {b e : Nat → Nat} {M : MM}
theorem nv_i {q : Nat} : ∀ k, k ≤ 3 → (∀ j, j < k → DG f n (q + j)) → ∃ m, m < 10 ^ k ∧ nv f q k = i32 m
  | 0, _, _ => ⟨0, by decide, rfl⟩
  | k + 1, hk, hd => by
    obtain ⟨m, m1, m2⟩ := nv_i k (by omega) (fun j hj => hd j (by omega))
    have h9 := (hd k (by omega)).2
    have hf : f (q + k) = i32 (ni (f (q + k))) := i32_ni (by omega)
    have hb : 48 ≤ ni (f (q + k)) ∧ ni (f (q + k)) ≤ 57 := by unfold ni; omega
    refine ⟨10 * m + (ni (f (q + k)) - 48), by rw [Nat.pow_succ]; omega, ?_⟩
    show 10 * nv f q k + f (q + k) - 48 = _
    rw [m2, hf, show (10 * i32 m : Int32) = i32 (10 * m) from i32_m 10 m, i32_a, show (48 : Int32) = i32 48 from rfl, i32_df (by omega), ← hf]
    congr 1
    omega
theorem tk_V (h : TKS f n t K V b e) (hi : i ≤ t) (hk : K i = 20) : ∃ m, m ≤ 1000 ∧ V i = i32 m := by
  obtain ⟨w1, w2⟩ := tk_num h hi hk
  rw [w2]
  by_cases c : 3 < e i - b i
  · exact ⟨1000, by omega, by rw [if_pos c]; rfl⟩
  · rw [if_neg c]
    obtain ⟨m, m1, m2⟩ := nv_i (f := f) (n := n) (q := b i) (e i - b i) (by omega) (fun j hj => w1.2.2.1 _ (by omega) (by omega))
    have : 10 ^ (e i - b i) ≤ 10 ^ 3 := Nat.pow_le_pow_right (by omega) (by omega)
    exact ⟨m, by omega, m2⟩
theorem r_emits {N : Nat} {op v : Int32} {Q : MM → Prop} (hs : M.1 190 25 = i32 σ) (hσ : σ < 1000) (hQ : ∀ M', M'.1 190 25 = i32 (σ + 1) → M'.1 202 (2 * σ) = op → M'.1 202 (2 * σ + 1) = v → (∀ j, j < 2 * σ → M'.1 202 j = M.1 202 j) → Eqo [(202, 202, none), (190, 190, some 25)] M M' → Q M') : W_m_emits op v N M Q := by
  unfold W_m_emits
  simp (disch := omega) only [wi_1n]
  rw [hs, show (2 * i32 σ : Int32) = i32 (2 * σ) from i32_m 2 σ, i32_s, i32_s, ni_i (by omega), ni_i (by omega)]
  refine hQ _ wi_1e ?_ ?_ (fun j hj => ?_) ?_
  · simp (disch := omega) only [wi_1n, wi_1e]
  · simp (disch := omega) only [wi_1n, wi_1e]
  · simp (disch := omega) only [wi_1n]
  · exact eqo_wi (i := 1) (eqo_wi (i := 0) (eqo_wi (i := 0) (eqo_rf _) rfl (Or.inl rfl)) rfl (Or.inl rfl)) rfl (Or.inr rfl)
theorem TXr_e {l : List (Nat × Nat × Option Nat)} {M' : MM} (h : TXr M f n p g) (x : Eqo l M M') (hl : (fpf l 190 20 && (fpf l 190 19 && (fpf l 190 21 && fpo l 203 203))) = true) : TXr M' f n p g := by
  simp only [Bool.and_eq_true] at hl
  obtain ⟨a1, a2, a3, a4⟩ := h
  exact ⟨by rw [eq1 x hl.1]; exact a1, by rw [eq1 x hl.2.1]; exact a2, by rw [eq1 x hl.2.2.1]; exact a3, by rw [eqb x hl.2.2.2 (Nat.le_refl _) (Nat.le_refl _)]; exact a4⟩
theorem RMg_1 {td : Nat → Int32} {op v : Int32} {s : SF} (h1 : td (2 * σ) = op) (h2 : td (2 * σ + 1) = v) (ho : ¬ 5 < op) (hs : ∀ pl wh kn dy, rfact op v pl wh kn dy = s pl wh kn dy) : RMg td σ (σ + 1) s := fun pl wh kn dy val h hh => by
  rw [show σ + 1 - σ = 1 by omega]
  refine ⟨up1 val h (s pl wh kn dy), ?_, up1_e, fun j hj => up1_n (by omega)⟩
  show rst pl wh kn dy (td (2 * σ)) (td (2 * σ + 1)) (i32 h, val) = _
  rw [h1, h2]
  unfold rst
  rw [if_neg ho, hs]
  dsimp only
  rw [i32_s, ni_i (by omega)]
end RSU
end
section
/-! THE REFERENCE'S READING OF A PART AND OF A SUM -/
section RP
variable {f : BY} {n t i p g σ : Nat} {K V : Nat → Int32} {b e : Nat → Nat} {M : MM}
theorem ki_ne {r k : Nat} (h : K i = i32 r) (hr : r < 1000) (hk : k < 1000) (hne : ¬ r = k) : ¬ K i = i32 k := fun x => hne ((i32_ij (by omega) (by omega)).mp (h.symm.trans x))
theorem pPart_n (h1 : ¬ K i = 20) (h2 : ¬ K i = 7) (h3 : ¬ K i = 8) (h4 : ¬ K i = 9) (h5 : ¬ K i = 10) : pPart K V i = none := by
  unfold pPart
  rw [if_neg h1, if_neg h2, if_neg h3, if_neg h4, if_neg h5]
theorem pPart_w {k : Nat} (h : K i = i32 k) : (k = 7 → pPart K V i = some (fun pl _ _ _ => pl)) ∧ (k = 8 → pPart K V i = some (fun _ _ _ dy => dy)) ∧ (k = 9 → pPart K V i = some (fun _ wh _ _ => wh)) ∧ (k = 10 → pPart K V i = some (fun _ _ kn _ => kn)) := by
  unfold pPart
  refine ⟨fun c => ?_, fun c => ?_, fun c => ?_, fun c => ?_⟩
  · rw [h, c, if_neg (by decide), if_pos (by decide)]
  · rw [h, c, if_neg (by decide), if_neg (by decide), if_pos (by decide)]
  · rw [h, c, if_neg (by decide), if_neg (by decide), if_neg (by decide), if_pos (by decide)]
  · rw [h, c, if_neg (by decide), if_neg (by decide), if_neg (by decide), if_neg (by decide), if_pos (by decide)]
theorem r_part {N : Nat} {Q : Int32 → MM → Prop} (h : TXr M f n p g) (hb : BOK f n) (hn : n ≤ 400) (hT : TKS f n t K V b e) (hi : i ≤ t) (hp : PT e b i p) (hs : M.1 190 25 = i32 σ) (hσ : σ < 1000)
    (hQ1 : ∀ s, pPart K V i = some s → ∀ M', TXr M' f n (e i) (b i) → M'.1 190 25 = i32 (σ + 1) → RMg (M'.1 202) σ (σ + 1) s → (∀ j, j < 2 * σ → M'.1 202 j = M.1 202 j) → M'.1 190 22 = M.1 190 22 → Q 1 M')
    (hQ0 : pPart K V i = none → ∀ M', M'.1 190 21 = i32 (b i) → Q 0 M') : W_m_readPart N M Q := by
  have hin := (hT.2.2.2 i hi).2.1
  have hen := (hT.2.2.2 i hi).2.2.1
  unfold W_m_readPart
  refine r_letters h hb hn (tk_pn hT hi hp) (fun q e' hq he => ?_)
  obtain rfl := NB_u hq (tk_nb hT hi hp)
  rw [show (atP M e' (b i)).1 190 19 = i32 e' from rfl, show (atP M e' (b i)).1 190 21 = i32 (b i) from rfl]
  have fin : ∀ p' op v s, ¬ 5 < op → (∀ pl wh kn dy, rfact op v pl wh kn dy = s pl wh kn dy) → pPart K V i = some s → p' = e i → W_m_emits op v N (atP M p' (b i)) (fun M' => Q 1 M') := fun p' op v s ho hr hs2 hp' => by
    subst hp'
    exact r_emits (M := atP M (e i) (b i)) hs hσ (fun M' a1 a2 a3 a4 a5 => hQ1 s hs2 M' (TXr_e (atP_T h) a5 rfl) a1 (RMg_1 a2 a3 ho hr) a4 (eq1 a5 (b := 190) (k := 22) rfl))
  have bad : ∀ p' op v, pPart K V i = none → W_m_emits op v N (atP M p' (b i)) (fun M' => Q 0 M') := fun p' op v hs2 => r_emits (M := atP M p' (b i)) hs hσ (fun M' a1 a2 a3 a4 a5 => hQ0 hs2 M' (by rw [eq1 a5 (b := 190) (k := 21) rfl]; rfl))
  by_cases hl : LT f n (b i)
  · obtain ⟨w1, r, w2, w3⟩ := tk_word hT hi hl
    obtain rfl := ENd_u he w1
    have hr : r < 23 := by rcases w2 with ⟨c, -⟩ | ⟨c, -⟩ <;> omega
    have hr20 : ¬ r = 20 := by rcases w2 with ⟨c, -⟩ | ⟨c, -⟩ <;> omega
    have hne : ¬ e i = b i := fun x => by rw [x] at w1; exact w1.2.2.2 hl
    have h2 := atP_T (p' := e i) (g' := b i) h
    obtain ⟨p7, p8, p9, p10⟩ := pPart_w (V := V) w3
    refine ⟨fun x => absurd ((i32_ij (by omega) (by omega)).mp x) hne, fun _ => ?_⟩
    refine r_isWord h2 hb hn he st_place.2 ?_
    rw [st_place.1, show decide (wdL f (b i) (e i) = dwL 7) = decide (r = 7) from decide_eq_decide.mpr (wnm_k w2 (by omega))]
    refine ⟨fun c7 => ?_, fun c7 => ?_⟩
    · rw [b32_eq0, decide_eq_false_iff_not] at c7
      refine r_isWord h2 hb hn he st_day.2 ?_
      rw [st_day.1, show decide (wdL f (b i) (e i) = dwL 8) = decide (r = 8) from decide_eq_decide.mpr (wnm_k w2 (by omega))]
      refine ⟨fun c8 => ?_, fun c8 => ?_⟩
      · rw [b32_eq0, decide_eq_false_iff_not] at c8
        refine r_isWord h2 hb hn he st_who.2 ?_
        rw [st_who.1, show decide (wdL f (b i) (e i) = dwL 9) = decide (r = 9) from decide_eq_decide.mpr (wnm_k w2 (by omega))]
        refine ⟨fun c9 => ?_, fun c9 => ?_⟩
        · rw [b32_eq0, decide_eq_false_iff_not] at c9
          refine r_isWord h2 hb hn he st_known.2 ?_
          rw [st_known.1, show decide (wdL f (b i) (e i) = dwL 10) = decide (r = 10) from decide_eq_decide.mpr (wnm_k w2 (by omega))]
          refine ⟨fun c10 => ?_, fun c10 => ?_⟩
          · rw [b32_eq0, decide_eq_false_iff_not] at c10
            exact bad _ _ _ (pPart_n (ki_ne w3 (by omega) (k := 20) (by omega) hr20) (ki_ne w3 (by omega) (k := 7) (by omega) c7) (ki_ne w3 (by omega) (k := 8) (by omega) c8) (ki_ne w3 (by omega) (k := 9) (by omega) c9) (ki_ne w3 (by omega) (k := 10) (by omega) c10))
          · rw [b32_ne0, decide_eq_true_eq] at c10
            exact fin _ _ _ _ (by decide) (fun _ _ _ _ => rfl) (p10 c10) rfl
        · rw [b32_ne0, decide_eq_true_eq] at c9
          exact fin _ _ _ _ (by decide) (fun _ _ _ _ => rfl) (p9 c9) rfl
      · rw [b32_ne0, decide_eq_true_eq] at c8
        exact fin _ _ _ _ (by decide) (fun _ _ _ _ => rfl) (p8 c8) rfl
    · rw [b32_ne0, decide_eq_true_eq] at c7
      exact fin _ _ _ _ (by decide) (fun _ _ _ _ => rfl) (p7 c7) rfl
  · have hd : ENd (LT f n) n (b i) (b i) := ⟨Nat.le_refl _, hin, fun j j1 j2 => by omega, hl⟩
    obtain rfl := ENd_u he hd
    refine ⟨fun _ => ?_, fun x => absurd rfl x⟩
    refine t_number (by decide) (atP_T h) hb hn hT hi (PT_b hT hi) ⟨fun hk => ?_, fun hk => ?_⟩
    · obtain ⟨m, m1, m2⟩ := tk_V hT hi hk
      have hneg : ¬ V i < 0 := by
        rw [m2, lt_lit, i32_i (by omega)]
        show ¬ (m : Int) < 0
        omega
      rw [if_neg hneg, atP_2]
      by_cases c : 999 < V i
      · rw [if_pos c]
        refine r_emits (M := atP M (e i) (b i)) hs hσ (fun M' a1 a2 a3 a4 a5 => ⟨fun _ => hQ0 ?_ M' (by rw [eq1 a5 (b := 190) (k := 21) rfl]; rfl), fun x => absurd (by decide) x⟩)
        unfold pPart
        rw [if_pos hk, if_pos c]
      · rw [if_neg c]
        refine r_emits (M := atP M (e i) (b i)) hs hσ (fun M' a1 a2 a3 a4 a5 => ⟨fun x => absurd x hneg, fun _ => hQ1 (fun _ _ _ _ => V i) ?_ M' (TXr_e (atP_T h) a5 rfl) a1 (RMg_1 a2 a3 (by decide) (fun _ _ _ _ => rfl)) a4 (eq1 a5 (b := 190) (k := 22) rfl)⟩)
        unfold pPart
        rw [if_pos hk, if_neg c]
    · rw [atP_2]
      have h20 := tk_now hT hi hl
      have hn' : ∀ k, k < 20 → ¬ K i = i32 k := fun k hk x => by
        rw [x, i32_i (by omega)] at h20
        omega
      refine r_emits (M := atP M (b i) (b i)) hs hσ (fun M' a1 a2 a3 a4 a5 => ⟨fun _ => hQ0 (pPart_n hk (hn' 7 (by omega)) (hn' 8 (by omega)) (hn' 9 (by omega)) (hn' 10 (by omega))) M' (by rw [eq1 a5 (b := 190) (k := 21) rfl]; rfl), fun x => absurd (by decide) x⟩)
end RP
end
section
/-! THE REFERENCE'S READING OF A SUM -/
theorem RMg_b {td : Nat → Int32} {σ0 σ1 σ2 : Nat} {s q : SF} {op : Int32} (h1 : RMg td σ0 σ1 s) (h2 : RMg td σ1 σ2 q) (l1 : σ0 ≤ σ1) (l2 : σ1 ≤ σ2) (ho : td (2 * σ2) = op) (o1 : 5 < op) (o2 : ¬ op = 9) : RMg td σ0 (σ2 + 1) (fun pl wh kn dy => rop op (s pl wh kn dy) (q pl wh kn dy)) := fun pl wh kn dy val h hh => by
  obtain ⟨v1, a1, a2, a3⟩ := h1 pl wh kn dy val h (by omega)
  obtain ⟨v2, b1, b2, b3⟩ := h2 pl wh kn dy v1 (h + 1) (by omega)
  refine ⟨up1 v2 h (rop op (s pl wh kn dy) (q pl wh kn dy)), ?_, up1_e, fun j hj => ?_⟩
  · rw [show σ2 + 1 - σ0 = (σ1 - σ0) + ((σ2 - σ1) + 1) by omega, rrun_app, a1, show σ0 + (σ1 - σ0) = σ1 by omega, rrun_app, b1, show σ1 + (σ2 - σ1) = σ2 by omega]
    show rst pl wh kn dy (td (2 * σ2)) (td (2 * σ2 + 1)) (i32 (h + 1 + 1), v2) = _
    unfold rst
    rw [ho, if_pos o1, if_neg o2]
    dsimp only
    have e1 : i32 (h + 1 + 1) + (-1) = i32 (h + 1) := by
      rw [← i32_s (h + 1), Int32.add_assoc, show (1 + -1 : Int32) = 0 from by decide, Int32.add_zero]
    have e2 : i32 (h + 1) - 1 = i32 h := by
      rw [← i32_s]
      exact Int32.add_sub_cancel _ _
    rw [e1, e2, ni_i (by omega), ni_i (by omega), b2, b3 h (by omega), a2]
  · rw [up1_n (by omega), b3 j (by omega), a3 j hj]
section RS2
variable {f : BY} {n t i p g σ : Nat} {K V : Nat → Int32} {b e : Nat → Nat} {M : MM}
theorem tk_end (h : TKS f n t K V b e) : K t = 21 := by
  have hb := h.2.1
  rcases (h.2.2.2 t (Nat.le_refl _)).1 with ⟨h1, -⟩ | ⟨h1, -⟩ | ⟨h1, -⟩ | ⟨-, -, h1, -⟩
  · have := h1.1; omega
  · have := h1.1; omega
  · omega
  · exact h1
theorem tk_lt (h : TKS f n t K V b e) (hi : i ≤ t) (hk : ¬ K i = 21) : i < t := by
  rcases Nat.lt_or_ge i t with c | c
  · exact c
  · obtain rfl : i = t := by omega
    exact absurd (tk_end h) hk
theorem pPart_lt {s : SF} (h : TKS f n t K V b e) (hi : i ≤ t) (hs : pPart K V i = some s) : i < t := by
  refine tk_lt h hi (fun x => ?_)
  rw [pPart_n (by rw [x]; decide) (by rw [x]; decide) (by rw [x]; decide) (by rw [x]; decide) (by rw [x]; decide)] at hs
  cases hs
def zSF : SF := fun _ _ _ _ => 0
theorem r_sum {N m : Nat} {Q : Int32 → MM → Prop} (h : TXr M f n p g) (hb : BOK f n) (hn : n ≤ 400) (hT : TKS f n t K V b e) (hi : i ≤ t) (hp : PT e b i p) (hs : M.1 190 25 = i32 σ) (hσ : σ ≤ i) (hm : t ≤ i + m)
    (hQ1 : ∀ s j, pSum K V (m + 1) zSF i = (some s, j) → j ≤ t → ∀ M' p' g' σ', TXr M' f n p' g' → PT e b j p' → M'.1 190 25 = i32 σ' → σ' + i ≤ σ + j → σ ≤ σ' → RMg (M'.1 202) σ σ' s → (∀ x, x < 2 * σ → M'.1 202 x = M.1 202 x) → M'.1 190 22 = M.1 190 22 → Q 1 M')
    (hQ0 : ∀ j, pSum K V (m + 1) zSF i = (none, j) → j ≤ t → ∀ M', M'.1 190 21 = i32 (b j) → Q 0 M') : W_m_readSum N M Q := by
  have ht := hT.1
  unfold W_m_readSum
  refine r_part h hb hn hT hi hp hs (by omega) (fun s hps M1 t1 c1 g1 f1 y1 => ?_) (fun hps M1 x1 => ?_)
  · refine ⟨fun x => absurd x (by decide), fun _ => ?_⟩
    have hlt := pPart_lt hT hi hps
    have hz : (fun pl wh kn dy => zSF pl wh kn dy + s pl wh kn dy) = s := by
      funext pl wh kn dy
      exact Int32.zero_add _
    refine I_m_readSum_9 _ (fun M' => ∃ i' m' s' σ' p' g', i' ≤ t ∧ pSum K V (m + 1) zSF i = (if K i' = 43 then pSum K V m' s' (i' + 1) else (some s', i')) ∧ t ≤ i' + m' ∧ TXr M' f n p' g' ∧ PT e b i' p' ∧ M'.1 190 25 = i32 σ' ∧ σ' + i ≤ σ + i' ∧ σ ≤ σ' ∧ RMg (M'.1 202) σ σ' s' ∧ (∀ x, x < 2 * σ → M'.1 202 x = M.1 202 x) ∧ M'.1 190 22 = M.1 190 22) (fun N ih M' hih hv => ?_) N _ ⟨i + 1, m, s, σ + 1, e i, b i, by omega, ?_, by omega, t1, PT_s hT hlt, c1, by omega, by omega, g1, f1, y1⟩
    · obtain ⟨i', m', s', σ', p', g', k1, k2, k3, k4, k5, k6, k7, k8, k9, k10, k11⟩ := hv
      unfold B_m_readSum_9
      refine t_sign (by decide) k4 hb hn hT k1 k5 ⟨fun hk => ?_, fun hk => ?_⟩
      · refine ⟨fun x => absurd x (by decide), fun _ => ?_⟩
        have hlt' := tk_lt hT k1 (by rw [hk]; decide)
        rw [if_pos hk] at k2
        obtain ⟨m2, rfl⟩ : ∃ m2, m' = m2 + 1 := ⟨m' - 1, by omega⟩
        refine r_part (M := atP M' (e i') (b i')) (atP_T k4) hb hn hT (by omega) (PT_s hT hlt') k6 (by omega) (fun q hq M2 t2 c2 g2 f2 y2 => ?_) (fun hq M2 x2 => ?_)
        · refine ⟨fun x => absurd x (by decide), fun _ => ?_⟩
          have hlt2 := pPart_lt hT (by omega) hq
          refine r_emits c2 (by omega) (fun M3 a1 a2 a3 a4 a5 => hih _ ⟨i' + 2, m2, fun pl wh kn dy => s' pl wh kn dy + q pl wh kn dy, σ' + 2, e (i' + 1), b (i' + 1), by omega, ?_, by omega, TXr_e t2 a5 rfl, PT_s hT hlt2, a1, by omega, by omega, ?_, fun x hx => ?_, by rw [eq1 a5 (b := 190) (k := 22) rfl, y2]; exact k11⟩)
          · rw [k2]
            show (match pPart K V (i' + 1) with | none => (none, i' + 1) | some q => _) = _
            rw [hq]
          · have r1 : RMg (M3.1 202) σ σ' s' := RMg_cg k9 k8 (fun j hj => by rw [a4 j (by omega), f2 j hj]; rfl)
            have r2 : RMg (M3.1 202) σ' (σ' + 1) q := RMg_cg g2 (by omega) (fun j hj => a4 j hj)
            exact RMg_b r1 r2 k8 (by omega) a2 (by decide) (by decide)
          · rw [a4 x (by omega), f2 x (by omega)]
            exact k10 x hx
        · refine ⟨fun _ => hQ0 (i' + 1) ?_ (by omega) M2 x2, fun x => absurd rfl x⟩
          rw [k2]
          show (match pPart K V (i' + 1) with | none => (none, i' + 1) | some q => _) = _
          rw [hq]
      · refine ⟨fun _ => ?_, fun x => absurd rfl x⟩
        rw [if_neg hk] at k2
        exact hQ1 s' i' k2 k1 _ _ _ σ' (atP_T k4) (PT_b hT k1) k6 k7 k8 k9 k10 k11
    · show (match pPart K V i with | none => (none, i) | some q => _) = _
      rw [hps]
      dsimp only
      rw [hz]
  · refine ⟨fun _ => hQ0 i ?_ hi M1 x1, fun x => absurd rfl x⟩
    show (match pPart K V i with | none => (none, i) | some q => _) = _
    rw [hps]
end RS2
end
section
/-! WHAT IS READ GROWS -/
theorem pSum_gr {K V : Nat → Int32} : ∀ (m : Nat) (z : SF) (i : Nat) (s : SF) (j : Nat), pSum K V m z i = (some s, j) → i < j
  | 0, z, i, s, j, h => by
    have : (none : Option SF) = some s := congrArg Prod.fst h
    cases this
  | m + 1, z, i, s, j, h => by
    replace h : (match pPart K V i with
      | none => ((none, i) : Option SF × Nat)
      | some q => if K (i + 1) = 43 then pSum K V m (fun pl wh kn dy => z pl wh kn dy + q pl wh kn dy) (i + 2) else (some (fun pl wh kn dy => z pl wh kn dy + q pl wh kn dy), i + 1)) = (some s, j) := h
    cases hp : pPart K V i with
    | none =>
      rw [hp] at h
      have : (none : Option SF) = some s := congrArg Prod.fst h
      cases this
    | some q =>
      rw [hp] at h
      dsimp only at h
      by_cases c : K (i + 1) = 43
      · rw [if_pos c] at h
        have := pSum_gr m _ _ _ _ h
        omega
      · rw [if_neg c] at h
        have : i + 1 = j := congrArg Prod.snd h
        omega
/-! A CONDITION: what it means; the reference's reading of a comparison -/
abbrev BF : Type := Int32 → Int32 → Int32 → Int32 → Bool
def pCmp (K V : Nat → Int32) (i : Nat) : Option BF × Nat := match pSum K V 401 zSF i with
  | (none, j) => (none, j)
  | (some l, j) => if K j = 60 then (match pSum K V 401 zSF (j + 1) with
      | (none, j') => (none, j')
      | (some r, j') => (some (fun pl wh kn dy => decide (l pl wh kn dy < r pl wh kn dy)), j'))
    else if K j = 62 then (match pSum K V 401 zSF (j + 1) with
      | (none, j') => (none, j')
      | (some r, j') => (some (fun pl wh kn dy => decide (r pl wh kn dy < l pl wh kn dy)), j'))
    else (none, j)
def jn (op : Bool → Bool → Bool) (o : Option BF) (c : BF) : BF := match o with
  | none => c
  | some a => fun pl wh kn dy => op (a pl wh kn dy) (c pl wh kn dy)
/-- atoms joined by and (4), or (3) -/
def pJoin (K : Nat → Int32) (at_ : Nat → Option BF × Nat) : Nat → Option BF → Option BF → Nat → Option BF × Nat
  | 0, _, _, i => (none, i)
  | m + 1, o, a, i => match at_ i with
    | (none, j) => (none, j)
    | (some c, j) => if K j = 4 then pJoin K at_ m o (some (jn and a c)) (j + 1)
      else if K j = 3 then pJoin K at_ m (some (jn or o (jn and a c))) none (j + 1)
      else (some (jn or o (jn and a c)), j)
def pAtom (K V : Nat → Int32) (F : Nat) : Nat → Nat → Option BF × Nat
  | 0, i => if K i = 40 then (none, i) else if K i = 5 then (none, i) else if K i = 6 then (some (fun _ _ _ dy => decide (rm dy 7 = 0)), i + 1) else pCmp K V i
  | k + 1, i => if K i = 40 then (match pJoin K (pAtom K V F k) F none none (i + 1) with
      | (none, j) => (none, j)
      | (some c, j) => if K j = 41 then (some c, j + 1) else (none, j))
    else if K i = 5 then (match pAtom K V F k (i + 1) with
      | (none, j) => (none, j)
      | (some c, j) => (some (fun pl wh kn dy => !(c pl wh kn dy)), j))
    else if K i = 6 then (some (fun _ _ _ dy => decide (rm dy 7 = 0)), i + 1) else pCmp K V i
def pCond (K V : Nat → Int32) (F k i : Nat) : Option BF × Nat := pJoin K (pAtom K V F k) F none none i
def BMg (td : Nat → Int32) (σ σ' : Nat) (c : BF) : Prop := RMg td σ σ' (fun pl wh kn dy => b32 (c pl wh kn dy))
theorem RMg_cv {td : Nat → Int32} {σ σ' : Nat} {s s' : SF} (h : RMg td σ σ' s) (e : ∀ pl wh kn dy, s pl wh kn dy = s' pl wh kn dy) : RMg td σ σ' s' := fun pl wh kn dy val x hx => by
  obtain ⟨v, v1, v2, v3⟩ := h pl wh kn dy val x hx
  exact ⟨v, v1, by rw [v2, e], v3⟩
theorem rop_and {x y : Bool} : rop 10 (b32 x) (b32 y) = b32 (and x y) := by cases x <;> cases y <;> decide
theorem rop_or {x y : Bool} : rop 11 (b32 x) (b32 y) = b32 (or x y) := by cases x <;> cases y <;> decide
theorem b32_not {x : Bool} : 1 - b32 x = b32 (!x) := by cases x <;> decide
/-- not -/
theorem BMg_n {td : Nat → Int32} {σ σ' : Nat} {c : BF} (h : BMg td σ σ' c) (l : σ ≤ σ') (ho : td (2 * σ') = 9) : BMg td σ (σ' + 1) (fun pl wh kn dy => !(c pl wh kn dy)) := fun pl wh kn dy val x hx => by
  obtain ⟨v, v1, v2, v3⟩ := h pl wh kn dy val x (by omega)
  refine ⟨up1 v x (b32 (!(c pl wh kn dy))), ?_, up1_e, fun j hj => by rw [up1_n (by omega), v3 j hj]⟩
  rw [show σ' + 1 - σ = (σ' - σ) + 1 by omega, rrun_app, v1, show σ + (σ' - σ) = σ' by omega]
  show rst pl wh kn dy (td (2 * σ')) (td (2 * σ' + 1)) (i32 (x + 1), v) = _
  unfold rst
  rw [ho, if_pos (by decide), if_pos rfl]
  dsimp only
  have e2 : i32 (x + 1) - 1 = i32 x := by
    rw [← i32_s]
    exact Int32.add_sub_cancel _ _
  rw [e2, ni_i (by omega), v2, b32_not]
def cmpW (N : Nat) (M : MM) (Q : Int32 → MM → Prop) : Prop := W_m_readSum N M (fun r10 M11 => ((r10 = 0 → Q 0 M11) ∧ (¬ r10 = 0 → W_m_sign 60 N M11 (fun r13 M14 => ((r13 = 0 → W_m_sign 62 N M14 (fun r16 M17 => ((r16 = 0 → Q 0 M17) ∧ (¬ r16 = 0 → W_m_readSum N M17 (fun r19 M20 => ((r19 = 0 → Q 0 M20) ∧ (¬ r19 = 0 → ((r13 = 0 → W_m_emits 8 0 N M20 (fun M24 => Q 1 M24)) ∧ (¬ r13 = 0 → W_m_emits 7 0 N M20 (fun M26 => Q 1 M26)))))))))) ∧ (¬ r13 = 0 → W_m_readSum N M14 (fun r27 M28 => ((r27 = 0 → Q 0 M28) ∧ (¬ r27 = 0 → ((r13 = 0 → W_m_emits 8 0 N M28 (fun M32 => Q 1 M32)) ∧ (¬ r13 = 0 → W_m_emits 7 0 N M28 (fun M34 => Q 1 M34))))))))))))
section RC
variable {f : BY} {n t i p g σ : Nat} {K V : Nat → Int32} {b e : Nat → Nat} {M : MM}
/-- what a reader of the reference that means a truth must do -/
def RDS (f : BY) (n t : Nat) (b e : Nat → Nat) (i σ : Nat) (M : MM) (res : Option BF × Nat) (Q : Int32 → MM → Prop) : Prop :=
  (∀ c j, res = (some c, j) → j ≤ t → i < j → ∀ M' p' g' σ', TXr M' f n p' g' → PT e b j p' → M'.1 190 25 = i32 σ' → σ' + i ≤ σ + j → σ ≤ σ' → BMg (M'.1 202) σ σ' c → (∀ x, x < 2 * σ → M'.1 202 x = M.1 202 x) → M'.1 190 22 = M.1 190 22 → Q 1 M') ∧
  (∀ j, res = (none, j) → j ≤ t → ∀ M', M'.1 190 21 = i32 (b j) → Q 0 M')
theorem r_cmp {N : Nat} {Q : Int32 → MM → Prop} (h : TXr M f n p g) (hb : BOK f n) (hn : n ≤ 400) (hT : TKS f n t K V b e) (hi : i ≤ t) (hp : PT e b i p) (hs : M.1 190 25 = i32 σ) (hσ : σ ≤ i) (hQ : RDS f n t b e i σ M (pCmp K V i) Q) : cmpW N M Q := by
  have ht := hT.1
  obtain ⟨hQ1, hQ0⟩ := hQ
  unfold cmpW
  refine r_sum (m := 400) h hb hn hT hi hp hs hσ (by omega) (fun l j hl hj M1 p1 g1 σ1 t1 k1 c1 d1 d2 m1 f1 y1 => ?_) (fun j hl hj M1 x1 => ?_)
  · have hij := pSum_gr _ _ _ _ _ hl
    refine ⟨fun x => absurd x (by decide), fun _ => ?_⟩
    refine t_sign (by decide) t1 hb hn hT hj k1 ⟨fun hk => ?_, fun hk => ?_⟩
    · refine ⟨fun x => absurd x (by decide), fun _ => ?_⟩
      have hlt := tk_lt hT hj (by rw [hk]; decide)
      refine r_sum (m := 400) (M := atP M1 (e j) (b j)) (atP_T t1) hb hn hT (by omega) (PT_s hT hlt) c1 (by omega) (by omega) (fun r j' hr hj' M2 p2 g2 σ2 t2 k2 c2 d3 d4 m2 f2 y2 => ?_) (fun j' hr hj' M2 x2 => ?_)
      · refine ⟨fun x => absurd x (by decide), fun _ => ⟨fun x => absurd x (by decide), fun _ => ?_⟩⟩
        have hij' := pSum_gr _ _ _ _ _ hr
        refine r_emits c2 (by omega) (fun M3 a1 a2 a3 a4 a5 => hQ1 (fun pl wh kn dy => decide (l pl wh kn dy < r pl wh kn dy)) j' ?_ hj' (by omega) M3 p2 g2 (σ2 + 1) (TXr_e t2 a5 rfl) k2 a1 (by omega) (by omega) ?_ (fun x hx => by rw [a4 x (by omega), f2 x (by omega)]; exact f1 x hx) (by rw [eq1 a5 (b := 190) (k := 22) rfl, y2]; exact y1))
        · unfold pCmp
          rw [hl]
          dsimp only
          rw [if_pos hk, hr]
        · have r1 : RMg (M3.1 202) σ σ1 l := RMg_cg m1 d2 (fun x hx => by rw [a4 x (by omega), f2 x hx]; rfl)
          have r2 : RMg (M3.1 202) σ1 σ2 r := RMg_cg m2 d4 (fun x hx => a4 x hx)
          exact RMg_cv (RMg_b r1 r2 d2 d4 a2 (by decide) (by decide)) (fun pl wh kn dy => rfl)
      · refine ⟨fun _ => hQ0 j' ?_ hj' M2 x2, fun x => absurd rfl x⟩
        unfold pCmp
        rw [hl]
        dsimp only
        rw [if_pos hk, hr]
    · refine ⟨fun _ => ?_, fun x => absurd rfl x⟩
      refine t_sign (by decide) (atP_T t1) hb hn hT hj (PT_b hT hj) ⟨fun hk2 => ?_, fun hk2 => ?_⟩
      · refine ⟨fun x => absurd x (by decide), fun _ => ?_⟩
        have hlt := tk_lt hT hj (by rw [hk2]; decide)
        rw [atP_2]
        refine r_sum (m := 400) (M := atP M1 (e j) (b j)) (atP_T t1) hb hn hT (by omega) (PT_s hT hlt) c1 (by omega) (by omega) (fun r j' hr hj' M2 p2 g2 σ2 t2 k2 c2 d3 d4 m2 f2 y2 => ?_) (fun j' hr hj' M2 x2 => ?_)
        · refine ⟨fun x => absurd x (by decide), fun _ => ⟨fun _ => ?_, fun x => absurd rfl x⟩⟩
          have hij' := pSum_gr _ _ _ _ _ hr
          refine r_emits c2 (by omega) (fun M3 a1 a2 a3 a4 a5 => hQ1 (fun pl wh kn dy => decide (r pl wh kn dy < l pl wh kn dy)) j' ?_ hj' (by omega) M3 p2 g2 (σ2 + 1) (TXr_e t2 a5 rfl) k2 a1 (by omega) (by omega) ?_ (fun x hx => by rw [a4 x (by omega), f2 x (by omega)]; exact f1 x hx) (by rw [eq1 a5 (b := 190) (k := 22) rfl, y2]; exact y1))
          · unfold pCmp
            rw [hl]
            dsimp only
            rw [if_neg hk, if_pos hk2, hr]
          · have r1 : RMg (M3.1 202) σ σ1 l := RMg_cg m1 d2 (fun x hx => by rw [a4 x (by omega), f2 x hx]; rfl)
            have r2 : RMg (M3.1 202) σ1 σ2 r := RMg_cg m2 d4 (fun x hx => a4 x hx)
            exact RMg_cv (RMg_b r1 r2 d2 d4 a2 (by decide) (by decide)) (fun pl wh kn dy => rfl)
        · refine ⟨fun _ => hQ0 j' ?_ hj' M2 x2, fun x => absurd rfl x⟩
          unfold pCmp
          rw [hl]
          dsimp only
          rw [if_neg hk, if_pos hk2, hr]
      · refine ⟨fun _ => hQ0 j ?_ hj _ rfl, fun x => absurd rfl x⟩
        unfold pCmp
        rw [hl]
        dsimp only
        rw [if_neg hk, if_neg hk2]
  · refine ⟨fun _ => hQ0 j ?_ hj M1 x1, fun x => absurd rfl x⟩
    unfold pCmp
    rw [hl]
end RC
end
