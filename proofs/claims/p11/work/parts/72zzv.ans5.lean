/-! ANSWERS: the usual deed, the reference's way -/
section AN5
variable {B : Int} {M X : MM} {p q r : Int32} {w : RW}
def US (w : RW) (X M' : MM) (f : Nat → Nat) : Prop := (∀ d, d < 8 → M'.1 212 d = i32 (f d)) ∧ M'.1 191 = w ∧ Eqo [(212, 212, none)] X M'
theorem r_usz {pp N : Nat} {k40 : MM → Prop} {Q : Int32 → MM → Prop} (hx : X.1 191 = w) (hQ : ∀ M', US w X M' (fun _ => 0) → k40 M') : W_m_usual_21 (i32 pp) k40 Q N 0 X := by
  refine I_m_usual_21 (i32 pp) k40 Q (fun v M' => ∃ k, k ≤ 8 ∧ v = i32 k ∧ (∀ d, d < k → M'.1 212 d = i32 0) ∧ M'.1 191 = w ∧ Eqo [(212, 212, none)] X M') (fun N ih v M' hih hv => ?_) N _ _ ⟨0, by omega, rfl, fun d hd => by omega, hx, eqo_rf X⟩
  obtain ⟨k, hk, rfl, h1, h2, h3⟩ := hv
  unfold B_m_usual_21
  refine ⟨fun hl => ?_, fun hl => ?_⟩
  · have hk8 : k < 8 := (i32_lt (k := 8) (by omega) (by omega)).mp hl
    rw [ni_i (by omega)]
    refine hih _ _ ⟨k + 1, by omega, i32_s k, fun d hd => ?_, ?_, eqo_wi (i := 0) h3 rfl (Or.inl rfl)⟩
    · by_cases e : d = k
      · rw [e, wi_1e]; rfl
      · rw [wi_1n (by omega)]; exact h1 d (by omega)
    · rw [← h2]
      funext j
      exact wi_1n (by omega)
  · have : ¬ k < 8 := fun e => hl ((i32_lt (j := k) (k := 8) (by omega) (by omega)).mpr e)
    obtain rfl : k = 8 := by omega
    exact hQ _ ⟨h1, h2, h3⟩
theorem r_us1 {pp c N : Nat} {M0 : MM} {k113 : MM → Prop} {Q : Int32 → MM → Prop} (hw : WF w) (hp : pp < 8) (hc : c < nC w) (h : US w X M0 (fun d => tot w (8 * d + pp) c)) (hQ : ∀ M', US w X M' (fun d => tot w (8 * d + pp) (c + 1)) → k113 M') : W_m_usual_52 (i32 pp) (i32 c) k113 Q N 0 M0 := by
  obtain ⟨e0, hn10, ei⟩ := nC_i hw
  have hwc := hw.2.2.2 c hc
  obtain ⟨hl, l1, l6⟩ := len_e hwc
  have tb' : ∀ d, tot w (8 * d + pp) c ≤ 6 * c := fun d => tot_b hw.2.2.2 c (by omega)
  refine I_m_usual_52 (i32 pp) (i32 c) k113 Q (fun v M' => ∃ k, k ≤ len w c ∧ v = i32 k ∧ US w X M' (fun d => tot w (8 * d + pp) c + occ w (8 * d + pp) c k) ∧ (k = 0 ∨ alv w c = true)) (fun N ih v M' hih hv => ?_) N _ _ ⟨0, by omega, rfl, h, Or.inl rfl⟩
  obtain ⟨k, hk, rfl, ⟨h1, h2, h3⟩, h4⟩ := hv
  unfold B_m_usual_52
  rw [v_alive (by omega), h2, show V_m_of (i32 c) 5 M' = i32 (len w c) from (of_row (i := 5) h2 (by omega) (by omega)).trans hl, i32_lt (by omega) (by omega)]
  refine ⟨fun a => ?_, fun a => ⟨fun hlt => ?_, fun hlt => ?_⟩⟩
  · rw [b32_eq0] at a
    have hk0 : k = 0 := by
      rcases h4 with h | h
      · exact h
      · rw [a] at h; cases h
    subst hk0
    refine hQ _ ⟨fun d hd => ?_, h2, h3⟩
    rw [h1 d hd]
    show i32 (tot w (8 * d + pp) c + 0) = i32 (tot w (8 * d + pp) c + (if alv w c = true then occ w (8 * d + pp) c (len w c) else 0))
    rw [if_neg (by rw [a]; decide)]
  · rw [b32_ne0] at a
    obtain ⟨m1, m2⟩ := hwc.2.2.2.2.2 k (by omega) (by rw [hl, i32_i (by omega)]; omega)
    obtain ⟨mm, hmm, em⟩ := lit_r (q := cl w c (7 + k)) (n := 64) (by omega)
    rw [show V_m_of (i32 c) (7 + i32 k) M' = i32 mm from by rw [show (7 : Int32) + i32 k = i32 (7 + k) from i32_a 7 k]; exact (of_row (i := 7 + k) h2 (by omega) (by omega)).trans em]
    rw [show rm (i32 mm) 8 = i32 (mm % 8) from rm_n (y := 8) (by omega) (by omega), show (i32 mm / 8 : Int32) = i32 (mm / 8) from i32_d (y := 8) (by omega) (by omega), ni_i (by omega)]
    have hoc : ∀ d, d < 8 → occ w (8 * d + pp) c (k + 1) = occ w (8 * d + pp) c k + (if mm = 8 * d + pp then 1 else 0) := fun d hd => by
      have e1 : cl w c (7 + k) = i32 (8 * d + pp) ↔ mm = 8 * d + pp := by rw [em]; exact i32_ij (by omega) (by omega)
      show occ w (8 * d + pp) c k + (if cl w c (7 + k) = i32 (8 * d + pp) then 1 else 0) = _
      by_cases e : mm = 8 * d + pp
      · rw [if_pos e, if_pos (e1.mpr e)]
      · rw [if_neg e, if_neg (fun h => e (e1.mp h))]
    refine ⟨fun b => ?_, fun b => ?_⟩
    · have hb : mm % 8 = pp := (i32_ij (by omega) (by omega)).mp b
      refine hih _ _ ⟨k + 1, by omega, i32_s k, ⟨fun d hd => ?_, ?_, eqo_wi (i := 0) h3 rfl (Or.inl rfl)⟩, Or.inr a⟩
      · show _ = i32 (tot w (8 * d + pp) c + occ w (8 * d + pp) c (k + 1))
        rw [hoc d hd]
        by_cases e : d = mm / 8
        · rw [e, wi_1e, h1 _ (by omega), if_pos (by omega), i32_s]
          rfl
        · rw [wi_1n (by omega), h1 d hd, if_neg (by omega)]
          rfl
      · rw [← h2]
        funext j
        exact wi_1n (by omega)
    · have hb : ¬ mm % 8 = pp := fun e => b (by rw [e])
      refine hih _ _ ⟨k + 1, by omega, i32_s k, ⟨fun d hd => ?_, h2, h3⟩, Or.inr a⟩
      show _ = i32 (tot w (8 * d + pp) c + occ w (8 * d + pp) c (k + 1))
      rw [hoc d hd, h1 d hd, if_neg (by omega)]
      rfl
  · have hk' : k = len w c := by omega
    subst hk'
    have a' : alv w c = true := by
      rcases h4 with h | h
      · omega
      · exact h
    refine hQ _ ⟨fun d hd => ?_, h2, h3⟩
    rw [h1 d hd]
    show i32 (tot w (8 * d + pp) c + occ w (8 * d + pp) c (len w c)) = i32 (tot w (8 * d + pp) c + (if alv w c = true then occ w (8 * d + pp) c (len w c) else 0))
    rw [if_pos a']
theorem r_us2 {pp N : Nat} {M0 : MM} {k119 : MM → Prop} {Q : Int32 → MM → Prop} (hw : WF w) (hp : pp < 8) (h : US w X M0 (fun _ => 0)) (hQ : ∀ M', US w X M' (fun d => tot w (8 * d + pp) (nC w)) → k119 M') : W_m_usual_42 (i32 pp) k119 Q N 0 M0 := by
  obtain ⟨e0, hn10, ei⟩ := nC_i hw
  refine I_m_usual_42 (i32 pp) k119 Q (fun v M' => ∃ c, c ≤ nC w ∧ v = i32 c ∧ US w X M' (fun d => tot w (8 * d + pp) c)) (fun N ih v M' hih hv => ?_) N _ _ ⟨0, by omega, rfl, h⟩
  obtain ⟨c, hc, rfl, h1⟩ := hv
  unfold B_m_usual_42
  have ec : V_m_citizens M' = i32 (nC w) := by unfold V_m_citizens; rw [h1.2.1, n0, ei]
  rw [ec, i32_lt (by omega) (by omega)]
  refine ⟨fun hlt => ?_, fun hlt => ?_⟩
  · exact r_us1 hw hp hlt h1 (fun M2 h2 => hih _ _ ⟨c + 1, by omega, i32_s c, h2⟩)
  · obtain rfl : c = nC w := by omega
    exact hQ _ h1
theorem r_us3 {pp N : Nat} {M0 : MM} {Q : Int32 → MM → Prop} (hw : WF w) (hp : pp < 8) (h : US w X M0 (fun d => tot w (8 * d + pp) (nC w))) (hQ : Q (usF w pp 8).1 M0) : W_m_usual_123 (i32 pp) M0 Q N (-1) 0 := by
  have hn10 := (nC_i hw).2.1
  refine I_m_usual_123 (i32 pp) M0 Q (fun v2 v3 => ∃ d, d ≤ 8 ∧ v3 = i32 d ∧ v2 = (usF w pp d).1) (fun N ih v2 v3 hih hv => ?_) N _ _ ⟨0, by omega, rfl, rfl⟩
  obtain ⟨d, hd, rfl, rfl⟩ := hv
  unfold B_m_usual_123
  refine ⟨fun hl => ?_, fun hl => ?_⟩
  · have hd8 : d < 8 := (i32_lt (k := 8) (by omega) (by omega)).mp hl
    have nx : ih (usF w pp (d + 1)).1 (i32 d + 1) := hih _ _ ⟨d + 1, by omega, i32_s d, rfl⟩
    obtain ⟨b1, b2⟩ := usF_b (pp := pp) hw.2.2.2 d
    have b3 := tot_b (x := 8 * d + pp) hw.2.2.2 (nC w) (Nat.le_refl _)
    rw [ni_i (by omega), h.1 d hd8, show ((0 : Int32) < i32 (tot w (8 * d + pp) (nC w))) ↔ 0 < tot w (8 * d + pp) (nC w) from i32_lt (j := 0) (by omega) (by omega)]
    unfold usF at nx
    refine ⟨fun a => ⟨fun b => ?_, fun b => ?_⟩, fun a => ?_⟩
    · rcases b2 with ⟨c1, c2⟩ | ⟨e, c1, c2, c3, c4⟩
      · rw [if_pos (by omega)] at nx
        exact nx
      · rw [c2, lt_lit, i32_i (by omega)] at b
        exact absurd b (by show ¬ ((e : Int) < 0); omega)
    · rcases b2 with ⟨c1, c2⟩ | ⟨e, c1, c2, c3, c4⟩
      · rw [c1] at b
        exact absurd (by decide) b
      · rw [c2, ni_i (by omega), h.1 e (by omega)]
        dsimp only
        rw [i32_lt (by omega) (by omega)]
        rw [c3] at nx
        refine ⟨fun g => ?_, fun g => ?_⟩
        · rw [if_pos g] at nx; exact nx
        · rw [if_neg g, c2] at nx; exact nx
    · rw [if_neg (by omega)] at nx
      exact nx
  · have : ¬ d < 8 := fun e => hl ((i32_lt (j := d) (k := 8) (by omega) (by omega)).mpr e)
    obtain rfl : d = 8 := by omega
    exact hQ
theorem a_usual (h : CP B M) {N : Nat} : W_E_usual p N M (fun y => ∀ z N', W_m_usual p N' (wj M 215 0 z) (fun b M2 => CP B M2 ∧ M2.1 190 0 = 0 ∧ y = b)) (fun ce => ∀ N', W_m_usual p N' M (fun _ M2 => CP B M2 ∧ M2.1 190 0 = 1)) := by
  obtain ⟨hc, hg⟩ := h.2.2.2.1
  unfold W_E_usual
  refine s_idx (n := 8) rfl (fun hp => ?_) (fun hp N' => ?_)
  · obtain ⟨pp, hpp, rfl⟩ := lit_r (q := p) (n := 8) hp
    refine c_usu hc hg.1 hpp (fun z N' => ?_)
    have k0 := CP_0 (CP_z h z) 0
    unfold W_m_usual W_m_throwsIf
    rw [no8, decide_eq_true (show 0 ≤ (i32 pp).toInt ∧ (i32 pp).toInt < 8 from hp)]
    refine ⟨fun _ => ⟨fun _ => ?_, fun hb => absurd rfl hb⟩, fun hb => absurd rfl hb⟩
    refine r_usz (w := M.1 191) (X := wi (wj M 215 0 z) 190 0 0) rfl (fun M1 h1 => r_us2 hg.1 hpp h1 (fun M2 h2 => r_us3 hg.1 hpp h2 ⟨CP_eq k0 h2.2.2 rfl, ?_, rfl⟩))
    rw [eq1 h2.2.2 (b := 190) (k := 0) rfl, wi_1e]
  · unfold W_m_usual W_m_throwsIf
    rw [no8, decide_eq_false (show ¬ (0 ≤ p.toInt ∧ p.toInt < 8) from hp)]
    exact ⟨fun hb => absurd hb (by decide), fun _ => ⟨fun hb => absurd hb (by decide), fun _ => CP_t h 1 (fun e => e)⟩⟩
end AN5
