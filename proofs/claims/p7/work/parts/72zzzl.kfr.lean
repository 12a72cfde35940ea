/-! .. THROUGH THE QUERIES OF THE REFERENCE -/
section KFR
variable {B : Int} {M : MM} {p1 p2 p3 p4 p5 : Int32}
theorem km_clause (k : KI M) {N : Nat} {p1 : Int32} {p2 : Int32} : W_m_clause p1 p2 N M (fun _ M1 => KI M1) := an_m_clause (fun _ _ e => KI_e k e rfl)
theorem km_citizen (k : KI M) {N : Nat} {p1 : Int32} {p2 : Int32} : W_m_citizen p1 p2 N M (fun _ M1 => KI M1) := an_m_citizen (fun _ _ e => KI_e k e rfl)
theorem km_seen (k : KI M) {N : Nat} {p1 : Int32} : W_m_seen p1 N M (fun _ M1 => KI M1) := an_m_seen (fun _ _ e => KI_e k e rfl)
theorem km_habit (k : KI M) {N : Nat} {p1 : Int32} {p2 : Int32} : W_m_habit p1 p2 N M (fun _ M1 => KI M1) := an_m_habit (fun _ _ e => KI_e k e rfl)
theorem km_matter (k : KI M) {N : Nat} {p1 : Int32} {p2 : Int32} {p3 : Int32} : W_m_matter p1 p2 p3 N M (fun _ M1 => KI M1) := an_m_matter (fun _ _ e => KI_e k e rfl)
theorem km_nobody (k : KI M) {N : Nat}  : W_m_nobody  N M (fun _ M1 => KI M1) := an_m_nobody (fun _ _ e => KI_e k e rfl)
theorem km_relief (k : KI M) {N : Nat}  : W_m_relief  N M (fun _ M1 => KI M1) := an_m_relief (fun _ _ e => KI_e k e rfl)
theorem km_cover (k : KI M) {N : Nat}  : W_m_cover  N M (fun _ M1 => KI M1) := an_m_cover (fun _ _ e => KI_e k e rfl)
theorem km_dies (k : KI M) {N : Nat} {p1 : Int32} : W_m_dies p1 N M (fun _ M1 => KI M1) := an_m_dies (fun _ _ e => KI_e k e rfl)
theorem km_heirs (k : KI M) {N : Nat} {p1 : Int32} : W_m_heirs p1 N M (fun _ M1 => KI M1) := an_m_heirs (fun _ _ e => KI_e k e rfl)
theorem km_risk (k : KI M) {N : Nat} {p1 : Int32} {p2 : Int32} : W_m_risk p1 p2 N M (fun _ M1 => KI M1) := an_m_risk (fun _ _ e => KI_e k e rfl)
theorem km_safe (k : KI M) {N : Nat} {p1 : Int32} {p2 : Int32} : W_m_safe p1 p2 N M (fun _ M1 => KI M1) := an_m_safe (fun _ _ e => KI_e k e rfl)
theorem km_better (k : KI M) {N : Nat} {p1 : Int32} {p2 : Int32} : W_m_better p1 p2 N M (fun _ M1 => KI M1) := an_m_better (fun _ _ e => KI_e k e rfl)
theorem km_deduced (k : KI M) {N : Nat} {p1 : Int32} : W_m_deduced p1 N M (fun _ M1 => KI M1) := an_m_deduced (fun _ _ e => KI_e k e rfl)
theorem km_hush (k : KI M) {N : Nat} {p1 : Int32} : W_m_hush p1 N M (fun _ M1 => KI M1) := an_m_hush (fun _ _ e => KI_e k e rfl)
theorem km_usual (k : KI M) {N : Nat} {p1 : Int32} : W_m_usual p1 N M (fun _ M1 => KI M1) := an_m_usual (fun _ _ e => KI_e k e rfl)
theorem km_feared (k : KI M) {N : Nat} {p1 : Int32} : W_m_feared p1 N M (fun _ M1 => KI M1) := an_m_feared (fun _ _ e => KI_e k e rfl)
theorem km_custom (k : KI M) {N : Nat} {p1 : Int32} : W_m_custom p1 N M (fun _ M1 => KI M1) := an_m_custom (fun _ _ e => KI_e k e rfl)
theorem km_settles (k : KI M) {N : Nat}  : W_m_settles  N M (fun _ M1 => KI M1) := an_m_settles (fun _ _ e => KI_e k e rfl)
theorem km_provoked (k : KI M) {N : Nat} {p1 : Int32} {p2 : Int32} : W_m_provoked p1 p2 N M (fun _ M1 => KI M1) := an_m_provoked (fun _ _ e => KI_e k e rfl)
theorem km_crowd (k : KI M) {N : Nat} {p1 : Int32} {p2 : Int32} : W_m_crowd p1 p2 N M (fun _ M1 => KI M1) := an_m_crowd (fun _ _ e => KI_e k e rfl)
theorem km_witnesses (k : KI M) {N : Nat} {p1 : Int32} {p2 : Int32} {p3 : Int32} : W_m_witnesses p1 p2 p3 N M (fun _ M1 => KI M1) := an_m_witnesses (fun _ _ e => KI_e k e rfl)
theorem km_led (k : KI M) {N : Nat} {p1 : Int32} : W_m_led p1 N M (fun _ M1 => KI M1) := an_m_led (fun _ _ e => KI_e k e rfl)
theorem km_worst (k : KI M) {N : Nat}  : W_m_worst  N M (fun _ M1 => KI M1) := an_m_worst (fun _ _ e => KI_e k e rfl)
theorem km_log (k : KI M) {N : Nat} {p1 : Int32} {p2 : Int32} : W_m_log p1 p2 N M (fun _ M1 => KI M1) := an_m_log (fun _ _ e => KI_e k e rfl)
theorem km_count (k : KI M) {N : Nat} {p1 : Int32} : W_m_count p1 N M (fun _ M1 => KI M1) := an_m_count (fun _ _ e => KI_e k e rfl)
theorem km_fault (k : KI M) {N : Nat}  : W_m_fault  N M (fun _ M1 => KI M1) := an_m_fault (fun _ _ e => KI_e k e rfl)
theorem km_feed (k : KI M) {N : Nat} : W_m_feed p1 p2 p3 p4 p5 N M (fun _ M1 => KI M1) := an_m_feed (fun _ _ e => KI_e k e rfl)
theorem km_end (k : KI M) {N : Nat} : W_m_end p1 N M (fun _ M1 => KI M1) := an_m_end (fun _ _ e => KI_e k e rfl)
theorem km_read (k : KI M) {N : Nat} : W_m_read p1 N M (fun _ M1 => KI M1) := an_m_read (fun _ _ e => KI_e k e rfl)
theorem km_next (k : KI M) {N : Nat} : W_m_next p1 N M (fun _ M1 => KI M1) := an_m_next (fun _ _ e => KI_e k e rfl)
theorem kp_KI {M' : MM} (hw : WF (M.1 191)) (k : KI M) (t : KP M M') (a : ∀ j, j < 388 → M'.1 191 j = M.1 191 j) : KI M' := by
  obtain ⟨z, h1, h2⟩ := k
  exact ⟨z, KR_e h1 t.1 rfl, KW_c h2 hw a⟩
theorem tl_KI {M' : MM} (k : KI M) (t : TL M M') : KI M' := by
  obtain ⟨z, h1, h2⟩ := k
  exact ⟨z, KR_e h1 t.1 rfl, by rw [t.2]; exact h2⟩
theorem km_trial (h : RG B M) (k : KI M) {N : Nat} : W_m_trial p1 p2 N M (fun _ M1 => KI M1) := by
  unfold W_m_trial W_m_throwsIf
  simp only [e10, e10n, true_implies, false_implies, not_true_eq_false, not_false_eq_true, and_true, true_and, forall_const]
  refine ⟨fun _ => KI_0 (KI_0 k 0) 1, fun _ => ⟨fun _ => KI_0 (KI_0 k 0) 2, fun _ => ?_⟩⟩
  refine kp_0 (fun M10 hk => ?_)
  refine I_m_trial_58 _ _ _ _ (fun _ M' => KP M M') (fun N ih v M' hih hk => ?_) N _ _ hk
  unfold B_m_trial_58
  refine ⟨fun _ => kp_day hk (fun M'' h'' => hih _ _ h''), fun _ => ⟨fun _ => ?_, fun _ => ⟨fun _ => ?_, fun _ => ⟨fun _ => ?_, fun _ => ?_⟩⟩⟩⟩
  · exact kp_back hk (fun M2 k2 a b => kp_KI (RG_w h).1 k k2 a)
  · exact kp_back hk (fun M2 k2 a b => kp_KI (RG_w h).1 k k2 a)
  · exact an_m_takenNow (fun _ => kp_back hk (fun M2 k2 a b => kp_KI (RG_w h).1 k k2 a))
  · exact an_m_sumOf (fun _ => kp_back hk (fun M2 k2 a b => kp_KI (RG_w h).1 k k2 a))
theorem km_first (h : RG B M) (k : KI M) {N : Nat} : W_m_first N M (fun _ M1 => KI M1) := by
  unfold W_m_first
  refine kp_0 (fun M10 hk => ?_)
  refine I_m_first_11 _ _ (fun _ M' => KP M M') (fun N ih v M' hih hk => ?_) N _ _ hk
  unfold B_m_first_11
  refine ⟨fun _ => ⟨fun _ => kp_day hk (fun M'' h'' => hih _ _ h''), fun _ => ⟨fun _ => ?_, fun _ => ?_⟩⟩, fun _ => ⟨fun _ => ?_, fun _ => ?_⟩⟩ <;> exact kp_back hk (fun M2 k2 a b => kp_KI (RG_w h).1 k k2 a)
theorem km_span (h : RG B M) (k : KI M) {N : Nat} : W_m_span p1 p2 N M (fun _ M1 => KI M1) := by
  unfold W_m_span W_m_throwsIf
  simp only [e10, e10n, true_implies, false_implies, not_true_eq_false, not_false_eq_true, and_true, true_and, forall_const]
  refine ⟨fun _ => KI_0 (KI_0 k 0) 1, fun _ => ?_⟩
  refine kp_k2 (M0 := M) (eqo_wi (i := 0) (eqo_rf _) rfl (Or.inr rfl)) rfl rfl (fun M10 hk hw hs => ?_)
  refine I_m_span_39 _ _ _ (fun _ _ M' => KP M M' ∧ (∀ k, k < 388 → M'.1 191 k = M.1 191 k) ∧ (∀ c, c < 10 → M'.2 196 c = M.2 196 c)) (fun N ih v w M' hih hk => ?_) N _ _ _ ⟨hk, fun k _ => by rw [hw], fun c _ => by rw [hs]⟩
  obtain ⟨k1, k2, k3⟩ := hk
  unfold B_m_span_39
  refine ⟨fun _ => kp_KI (RG_w h).1 k k1 k2, fun _ => ?_⟩
  refine I_m_span_58 _ _ _ _ _ _ (fun _ M' => KP M M') (fun N ih v M' hih2 hk => ?_) N _ _ (kp_eq k1 eqo_a (fps_cons (i := 3) rfl fps_nil) rfl)
  unfold B_m_span_58
  refine ⟨fun _ => kp_day hk (fun M'' h'' => hih2 _ _ h''), fun _ => ?_⟩
  refine kp_back hk (fun M2 k2 a b => ⟨fun _ => hih _ _ _ ⟨k2, a, b⟩, fun _ => ⟨fun _ => hih _ _ _ ⟨k2, a, b⟩, fun _ => hih _ _ _ ⟨k2, a, b⟩⟩⟩)
theorem km_telling (h : RG B M) (k : KI M) {N : Nat} : W_m_telling p1 p2 N M (fun _ M1 => KI M1) := by
  unfold W_m_telling W_m_throwsIf
  refine ⟨fun _ => ⟨fun _ => ?_, fun _ => KI_0 k 0⟩, fun hb => ⟨fun hc => absurd hc hb, fun _ => KI_0 (KI_0 k 0) 1⟩⟩
  refine an_m_inForce (fun r4 => ?_)
  refine I_m_telling_33 _ _ _ _ (fun _ _ _ M' => TL M M') (fun N ih v4 v5 v6 M' hih hk => ?_) N _ _ _ _ ⟨eqo_wi (i := 0) (eqo_rf _) rfl (Or.inr rfl), rfl⟩
  unfold B_m_telling_33
  refine ⟨fun _ => ⟨fun _ => hih _ _ _ _ hk, fun _ => ?_⟩, fun _ => ⟨fun _ => tl_KI k hk, fun _ => tl_KI k hk⟩⟩
  have hof : V_m_of v6 1 M' = M.1 191 (ni ((18 + (13 * v6)) + 1)) := by
    show M'.1 191 _ = _
    rw [hk.2]
  rw [hof]
  refine an_m_riskOf (fun r8 M9 e9 => ?_)
  refine I_m_telling_76 _ _ _ _ _ _ _ _ (fun _ _ _ M' => TL M M') (fun N ih v4 v5 v9 M' hih2 hk => ?_) N _ _ _ _ (tl_r hk e9)
  unfold B_m_telling_76 W_m_sets
  refine ⟨fun _ => ⟨fun _ => ⟨fun _ => hih2 _ _ _ _ hk, fun _ => ?_⟩, fun _ => hih2 _ _ _ _ hk⟩, fun _ => hih _ _ _ _ hk⟩
  refine an_m_riskOf (fun r15 M16 e16 => ?_)
  have k2 : TL M (wi M16 191 (ni ((18 + (13 * v6)) + 1)) (M.1 191 (ni ((18 + (13 * v6)) + 1)))) := by
    refine ⟨eqo_wi (i := 2) (eqo_tr (eqo_wi (i := 2) hk.1 rfl (Or.inl rfl)) (fps_cons (i := 1) rfl fps_nil) e16) rfl (Or.inl rfl), ?_⟩
    rw [wi_row (w := up1 (M.1 191) (ni ((18 + (13 * v6)) + 1)) _) (by rw [eqb e16 (lo := 191) (hi := 191) rfl (Nat.le_refl _) (Nat.le_refl _)]; exact wi_row hk.2)]
    funext j
    unfold up1
    by_cases e : j = ni ((18 + (13 * v6)) + 1)
    · rw [if_pos e, e]
    · rw [if_neg e, if_neg e]
  exact ⟨fun _ => hih2 _ _ _ _ k2, fun _ => ⟨fun _ => hih2 _ _ _ _ k2, fun _ => hih2 _ _ _ _ k2⟩⟩
end KFR
