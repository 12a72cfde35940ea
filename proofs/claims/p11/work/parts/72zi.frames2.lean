/-! WHAT THE QUERIES OF THE REFERENCE LEAVE AS IT WAS: a try -/
theorem eqo_lk {M : MM} {a P b R n : Nat} : Eqo [(b, b, none)] M (lkM M a P b R n) := fun c j hc => by
  have hn : ¬ c = b := by
    rintro rfl
    rw [fpm_1 (o := none) (Or.inl rfl)] at hc
    cases hc
  exact ⟨if_neg (fun h => hn h.1), rfl⟩
theorem eqo_lkS {M : MM} {a P b R n : Nat} : Eqo [(b, b, none)] M (lkS M a P b R n) := fun c j hc => by
  have hn : ¬ c = b := by
    rintro rfl
    rw [fpm_1 (o := none) (Or.inl rfl)] at hc
    cases hc
  exact ⟨rfl, if_neg (fun h => hn h.1)⟩
def KP (M0 M : MM) : Prop := Eqo fp_m_trial M0 M ∧ (∀ k, k < 388 → M.1 194 k = M0.1 191 k) ∧ (∀ c, c < 10 → M.2 199 c = M0.2 196 c)
section KPS
variable {B : Int} {M0 M : MM} {N : Nat} {Q : MM → Prop}
theorem kp_keep (h : Eqo fp_m_trial M0 M) (hw : M.1 191 = M0.1 191) (hs : M.2 196 = M0.2 196) (hQ : ∀ M', KP M0 M' → Q M') : W_m_keepsAll N M Q := by
  unfold W_m_keepsAll
  refine sp_likens (P := 0) (R := 0) (by omega) (by omega) (Or.inl (by decide)) ?_
  refine sp_likensS (P := 0) (R := 0) (by omega) (by omega) (Or.inl (by decide)) ?_
  refine hQ _ ⟨eqo_tr (eqo_tr h (fps_cons (i := 1) rfl fps_nil) eqo_lk) (fps_cons (i := 2) rfl fps_nil) eqo_lkS, fun k hk => ?_, fun c hc => ?_⟩
  · show (lkM M 191 0 194 0 388).1 194 k = _
    unfold lkM
    dsimp only
    rw [if_pos (by omega), hw, show 0 + (k - 0) = k by omega]
  · unfold lkS
    dsimp only
    rw [if_pos (by omega)]
    show M.2 196 (0 + (c - 0)) = _
    rw [hs, show 0 + (c - 0) = c by omega]
theorem kp_eq {l : List (Nat × Nat × Option Nat)} {M' : MM} (h : KP M0 M) (e : Eqo l M M') (hs : fps l fp_m_trial) (hl : (fpo l 194 194 && fpo l 199 199) = true) : KP M0 M' := by
  simp only [Bool.and_eq_true] at hl
  refine ⟨eqo_tr h.1 hs e, ?_, ?_⟩
  · rw [eqb e hl.1 (Nat.le_refl _) (Nat.le_refl _)]
    exact h.2.1
  · rw [eqb2 e hl.2 (Nat.le_refl _) (Nat.le_refl _)]
    exact h.2.2
theorem kp_day (h : KP M0 M) (hQ : ∀ M', KP M0 M' → Q M') : W_m_oneDay N M Q := an_m_oneDay (fun _ e => hQ _ (kp_eq h e (fps_cons (i := 5) rfl (fps_cons (i := 6) rfl (fps_cons (i := 3) rfl (fps_cons (i := 4) rfl (fps_cons (i := 7) rfl fps_nil))))) rfl))
theorem kp_back (h : KP M0 M) (hQ : ∀ M', KP M0 M' → (∀ k, k < 388 → M'.1 191 k = M0.1 191 k) → (∀ c, c < 10 → M'.2 196 c = M0.2 196 c) → Q M') : W_m_bringsBack N M Q := by
  unfold W_m_bringsBack
  refine sp_likens (P := 0) (R := 0) (by omega) (by omega) (Or.inl (by decide)) ?_
  refine sp_likensS (P := 0) (R := 0) (by omega) (by omega) (Or.inl (by decide)) ?_
  refine hQ _ (kp_eq (kp_eq h eqo_lk (fps_cons (i := 3) rfl fps_nil) rfl) eqo_lkS (fps_cons (i := 4) rfl fps_nil) rfl) (fun k hk => ?_) (fun c hc => ?_)
  · show (lkM M 194 0 191 0 388).1 191 k = _
    unfold lkM
    dsimp only
    rw [if_pos (by omega), show 0 + (k - 0) = k by omega]
    exact h.2.1 k hk
  · unfold lkS
    dsimp only
    rw [if_pos (by omega)]
    show M.2 199 (0 + (c - 0)) = _
    rw [show 0 + (c - 0) = c by omega]
    exact h.2.2 c hc
theorem kp_CP {M' : MM} (h : CP B M0) (k : KP M0 M') (hw : ∀ k, k < 388 → M'.1 191 k = M0.1 191 k) (hs : ∀ c, c < 10 → M'.2 196 c = M0.2 196 c) : CP B M' := by
  have h' := h
  obtain ⟨-, -, -, ⟨hc, hg⟩, m, hh, hm, hr, hi⟩ := h'
  exact CP_mk h k.1 rfl rfl rfl (CW_g (CW_eq hc k.1 rfl) hg hw hs) (GW_w hg hw) (CM_eq hm k.1 rfl) (RMm_eq hr k.1 rfl) hi (Int.le_refl _)
theorem kp_k2 (h : Eqo fp_m_trial M0 M) (hw : M.1 191 = M0.1 191) (hs : M.2 196 = M0.2 196) (hQ : ∀ M', KP M0 M' → M'.1 191 = M0.1 191 → M'.2 196 = M0.2 196 → Q M') : W_m_keepsAll N M Q := by
  unfold W_m_keepsAll
  refine sp_likens (P := 0) (R := 0) (by omega) (by omega) (Or.inl (by decide)) ?_
  refine sp_likensS (P := 0) (R := 0) (by omega) (by omega) (Or.inl (by decide)) ?_
  have e2 := eqo_app (eqo_lk (M := M) (a := 191) (P := 0) (b := 194) (R := 0) (n := 388)) (eqo_lkS (a := 196) (P := 0) (b := 199) (R := 0) (n := 10))
  refine hQ _ ⟨eqo_tr (eqo_tr h (fps_cons (i := 1) rfl fps_nil) eqo_lk) (fps_cons (i := 2) rfl fps_nil) eqo_lkS, fun k hk => ?_, fun c hc => ?_⟩ ?_ ?_
  · show (lkM M 191 0 194 0 388).1 194 k = _
    unfold lkM
    dsimp only
    rw [if_pos (by omega), hw, show 0 + (k - 0) = k by omega]
  · unfold lkS
    dsimp only
    rw [if_pos (by omega)]
    show M.2 196 (0 + (c - 0)) = _
    rw [hs, show 0 + (c - 0) = c by omega]
  · rw [eqb e2 (lo := 191) (hi := 191) rfl (Nat.le_refl _) (Nat.le_refl _)]
    exact hw
  · rw [eqb2 e2 (lo := 196) (hi := 196) rfl (Nat.le_refl _) (Nat.le_refl _)]
    exact hs
theorem kp_0 (hQ : ∀ M', KP M M' → Q M') : W_m_keepsAll N (wi M 190 0 0) Q := kp_keep (eqo_wi (i := 0) (eqo_rf _) rfl (Or.inr rfl)) rfl rfl hQ
end KPS
section FT
variable {B : Int} {M : MM} {p1 p2 : Int32}
theorem fm_trial (h : CP B M) {N : Nat} : W_m_trial p1 p2 N M (fun _ M1 => CP B M1) := by
  unfold W_m_trial W_m_throwsIf
  simp only [e10, e10n, true_implies, false_implies, not_true_eq_false, not_false_eq_true, and_true, true_and, forall_const]
  refine ⟨fun _ => CP_0 (CP_0 h 0) 1, fun _ => ⟨fun _ => CP_0 (CP_0 h 0) 2, fun _ => ?_⟩⟩
  refine kp_0 (fun M10 hk => ?_)
  refine I_m_trial_58 _ _ _ _ (fun _ M' => KP M M') (fun N ih v M' hih hk => ?_) N _ _ hk
  unfold B_m_trial_58
  refine ⟨fun _ => kp_day hk (fun M'' h'' => hih _ _ h''), fun _ => ⟨fun _ => ?_, fun _ => ⟨fun _ => ?_, fun _ => ⟨fun _ => ?_, fun _ => ?_⟩⟩⟩⟩
  · exact kp_back hk (fun M2 k2 a b => kp_CP h k2 a b)
  · exact kp_back hk (fun M2 k2 a b => kp_CP h k2 a b)
  · exact an_m_takenNow (fun _ => kp_back hk (fun M2 k2 a b => kp_CP h k2 a b))
  · exact an_m_sumOf (fun _ => kp_back hk (fun M2 k2 a b => kp_CP h k2 a b))
theorem fm_first (h : CP B M) {N : Nat} : W_m_first N M (fun _ M1 => CP B M1) := by
  unfold W_m_first
  refine kp_0 (fun M10 hk => ?_)
  refine I_m_first_11 _ _ (fun _ M' => KP M M') (fun N ih v M' hih hk => ?_) N _ _ hk
  unfold B_m_first_11
  refine ⟨fun _ => ⟨fun _ => kp_day hk (fun M'' h'' => hih _ _ h''), fun _ => ⟨fun _ => ?_, fun _ => ?_⟩⟩, fun _ => ⟨fun _ => ?_, fun _ => ?_⟩⟩ <;> exact kp_back hk (fun M2 k2 a b => kp_CP h k2 a b)
theorem fm_span (h : CP B M) {N : Nat} : W_m_span p1 p2 N M (fun _ M1 => CP B M1) := by
  unfold W_m_span W_m_throwsIf
  simp only [e10, e10n, true_implies, false_implies, not_true_eq_false, not_false_eq_true, and_true, true_and, forall_const]
  refine ⟨fun _ => CP_0 (CP_0 h 0) 1, fun _ => ?_⟩
  refine kp_k2 (M0 := M) (eqo_wi (i := 0) (eqo_rf _) rfl (Or.inr rfl)) rfl rfl (fun M10 hk hw hs => ?_)
  refine I_m_span_39 _ _ _ (fun _ _ M' => KP M M' ∧ (∀ k, k < 388 → M'.1 191 k = M.1 191 k) ∧ (∀ c, c < 10 → M'.2 196 c = M.2 196 c)) (fun N ih v w M' hih hk => ?_) N _ _ _ ⟨hk, fun k _ => by rw [hw], fun c _ => by rw [hs]⟩
  obtain ⟨k1, k2, k3⟩ := hk
  unfold B_m_span_39
  refine ⟨fun _ => kp_CP h k1 k2 k3, fun _ => ?_⟩
  refine I_m_span_58 _ _ _ _ _ _ (fun _ M' => KP M M') (fun N ih v M' hih2 hk => ?_) N _ _ (kp_eq k1 eqo_a (fps_cons (i := 3) rfl fps_nil) rfl)
  unfold B_m_span_58
  refine ⟨fun _ => kp_day hk (fun M'' h'' => hih2 _ _ h''), fun _ => ?_⟩
  refine kp_back hk (fun M2 k2 a b => ⟨fun _ => hih _ _ _ ⟨k2, a, b⟩, fun _ => ⟨fun _ => hih _ _ _ ⟨k2, a, b⟩, fun _ => hih _ _ _ ⟨k2, a, b⟩⟩⟩)
def TL (M0 M : MM) : Prop := Eqo fp_m_telling M0 M ∧ M.1 191 = M0.1 191
theorem tl_CP {M' : MM} (h : CP B M) (k : TL M M') : CP B M' := by
  have h' := h
  obtain ⟨-, -, -, ⟨hc, hg⟩, m, hh, hm, hr, hi⟩ := h'
  exact CP_mk h k.1 rfl k.2 (eqb2 k.1 (lo := 196) (hi := 196) rfl (Nat.le_refl _) (Nat.le_refl _)) (CW_eq hc k.1 rfl) hg (CM_eq hm k.1 rfl) (RMm_eq hr k.1 rfl) hi (Int.le_refl _)
theorem tl_r {M' M'' : MM} (h : TL M M') (e : Eqo fp_m_riskOf M' M'') : TL M M'' := ⟨eqo_tr h.1 (fps_cons (i := 1) rfl fps_nil) e, by rw [eqb e (lo := 191) (hi := 191) rfl (Nat.le_refl _) (Nat.le_refl _)]; exact h.2⟩
theorem fm_telling (h : CP B M) {N : Nat} : W_m_telling p1 p2 N M (fun _ M1 => CP B M1) := by
  unfold W_m_telling W_m_throwsIf
  refine ⟨fun _ => ⟨fun _ => ?_, fun _ => CP_0 h 0⟩, fun hb => ⟨fun hc => absurd hc hb, fun _ => CP_0 (CP_0 h 0) 1⟩⟩
  refine an_m_inForce (fun r4 => ?_)
  refine I_m_telling_33 _ _ _ _ (fun _ _ _ M' => TL M M') (fun N ih v4 v5 v6 M' hih hk => ?_) N _ _ _ _ ⟨eqo_wi (i := 0) (eqo_rf _) rfl (Or.inr rfl), rfl⟩
  unfold B_m_telling_33
  refine ⟨fun _ => ⟨fun _ => hih _ _ _ _ hk, fun _ => ?_⟩, fun _ => ⟨fun _ => tl_CP h hk, fun _ => tl_CP h hk⟩⟩
  have hof : V_m_of v6 1 M' = M.1 191 (ni ((18 + (13 * v6)) + 1)) := by
    show M'.1 191 _ = _
    rw [hk.2]
  rw [hof]
  refine an_m_riskOf (fun r8 M9 e9 => ?_)
  refine I_m_telling_76 _ _ _ _ _ _ _ _ (fun _ _ _ M' => TL M M') (fun N ih v4 v5 v9 M' hih2 hk => ?_) N _ _ _ _ (tl_r hk e9)
  unfold B_m_telling_76 W_m_sets
  refine ⟨fun _ => ⟨fun _ => ⟨fun _ => hih2 _ _ _ _ hk, fun _ => ?_⟩, fun _ => hih2 _ _ _ _ hk⟩, fun _ => hih _ _ _ _ hk⟩
  refine an_m_riskOf (fun r15 M16 e16 => ?_)
  have k2 : TL M (wi M16 191 (ni ((18 + (13 * v6)) + 1)) (M.1 191 (ni ((18 + (13 * v6)) + 1)))) := by
    refine ⟨eqo_wi (i := 2) (eqo_tr (eqo_wi (i := 2) hk.1 rfl (Or.inl rfl)) (fps_cons (i := 1) rfl fps_nil) e16) rfl (Or.inl rfl), ?_⟩
    rw [wi_row (w := up1 (M.1 191) (ni ((18 + (13 * v6)) + 1)) _) (by rw [eqb e16 (lo := 191) (hi := 191) rfl (Nat.le_refl _) (Nat.le_refl _)]; exact wi_row hk.2)]
    funext j
    unfold up1
    by_cases e : j = ni ((18 + (13 * v6)) + 1)
    · rw [if_pos e, e]
    · rw [if_neg e, if_neg e]
  exact ⟨fun _ => hih2 _ _ _ _ k2, fun _ => ⟨fun _ => hih2 _ _ _ _ k2, fun _ => hih2 _ _ _ _ k2⟩⟩
end FT
