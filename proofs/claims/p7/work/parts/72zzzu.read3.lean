/-! READING: the reference -/
def fLy : List (Nat × Nat × Option Nat) := [(207, 207, none), (209, 209, none)]
def fUs : List (Nat × Nat × Option Nat) := [(190, 190, some 0), (190, 190, some 20), (190, 190, some 18), (190, 190, some 19)]
section RDR
variable {X : MM} {L : LWT} {w : RW} {f : BY} {n N : Nat}
theorem r_nev {Q : Int32 → Prop} (hL : LawR X L) (hn : V_m_clauses X = i32 L.1) (hQ : Q (nvB L)) : W_m_nevers N X Q := by
  have l12 := hL.1
  unfold W_m_nevers
  refine I_m_nevers_4 X Q (fun v1 v2 => ∃ k, k ≤ L.1 ∧ v2 = i32 k ∧ v1 = bs (fun k => decide (L.2.1 k = 0)) k) (fun N ih v1 v2 hih hv => ?_) N _ _ ⟨0, by omega, rfl, rfl⟩
  obtain ⟨k, hk, rfl, rfl⟩ := hv
  unfold B_m_nevers_4
  rw [hn, i32_lt (by omega) (by omega)]
  refine ⟨fun hl => ?_, fun hl => ?_⟩
  · have ed : V_m_demands (i32 k) X = L.2.1 k := by
      unfold V_m_demands
      rw [show (4 : Int32) * i32 k = i32 (4 * k) from i32_m 4 k, ni_i (by omega)]
      exact (hL.2 k hl).1
    have nx : ih (bs (fun k => decide (L.2.1 k = 0)) (k + 1)) (i32 k + 1) := hih _ _ ⟨k + 1, by omega, i32_s k, rfl⟩
    rw [bs_s] at nx
    rw [ed]
    refine ⟨fun e => ?_, fun e => ?_⟩
    · rw [if_pos (decide_eq_true e)] at nx
      exact nx
    · rw [if_neg (fun h => e (of_decide_eq_true h))] at nx
      rw [show (bs (fun k => decide (L.2.1 k = 0)) k ||| 0) = bs (fun k => decide (L.2.1 k = 0)) k from by
        apply tb_ext
        intro j hj
        rw [tb_or, tb_0, Bool.or_false]]
      exact nx
  · obtain rfl : k = L.1 := by omega
    exact hQ
theorem r_watch {Q : Int32 → MM → Prop} (hn : n ≤ 400) (h18 : X.1 190 18 = i32 n) (h203 : ∀ j, j < n → X.1 203 j = (f j).toInt8.toInt32) (hb : BOK f n) (hx : X.1 191 = w) (hw : WF w) (hQ : ∀ X2, Eqo fUs X X2 → X2.1 190 0 = 0 → X2.1 190 20 = i32 n → Q (b32 (tpB w f n)) X2) : W_m_isWatched N X Q := by
  obtain ⟨e0, hn10, ei⟩ := nC_i hw
  unfold W_m_isWatched W_m_uses
  have key : ∀ X2 : MM, Eqo fUs X X2 → X2.1 190 0 = 0 → X2.1 190 20 = i32 n → ((rm (X2.1 190 20) 3 = 0 → W_m_isWatched_21 X2 Q N 1 0) ∧ (¬ rm (X2.1 190 20) 3 = 0 → W_m_isWatched_21 X2 Q N 0 0)) := by
    intro X2 eE z0 z20
    have s203 : ∀ j, j < n → X2.1 203 j = (f j).toInt8.toInt32 := fun j hj => by
      rw [eqb eE (lo := 203) (hi := 203) rfl (Nat.le_refl _) (Nat.le_refl _)]
      exact h203 j hj
    have s191 : X2.1 191 = w := by rw [eqb eE (lo := 191) (hi := 191) rfl (Nat.le_refl _) (Nat.le_refl _)]; exact hx
    have q := hQ X2 eE z0 z20
    have go : ∀ b0 : Bool, b0 = decide (n % 3 = 0) → W_m_isWatched_21 X2 Q N (b32 b0) 0 := by
      intro b0 hb0
      refine I_m_isWatched_21 X2 Q (fun v1 v2 => ∃ k, v2 = i32 (3 * k) ∧ 3 * k ≤ n ∧ v1 = b32 (b0 && alR w f k)) (fun N ih v1 v2 hih hv => ?_) N _ _ ⟨0, rfl, by omega, by show _ = b32 (b0 && true); rw [Bool.and_true]⟩
      obtain ⟨k, rfl, hk, rfl⟩ := hv
      unfold B_m_isWatched_21
      rw [z20, show i32 (3 * k) + 2 = i32 (3 * k + 2) from i32_a (3 * k) 2, show i32 (3 * k) + 1 = i32 (3 * k + 1) from i32_a (3 * k) 1, show i32 (3 * k) + 3 = i32 (3 * (k + 1)) from i32_a (3 * k) 3, i32_lt (j := 3 * k + 2) (k := n) (by omega) (by omega), ni_i (j := 3 * k) (by omega), ni_i (j := 3 * k + 1) (by omega), ni_i (j := 3 * k + 2) (by omega)]
      refine ⟨fun hl => ⟨fun h1 => ?_, fun h1 => ?_⟩, fun hl => ?_⟩
      · rw [b32_eq0] at h1
        have : tpB w f n = false := by
          cases h : tpB w f n with
          | false => rfl
          | true =>
            unfold tpB at h
            rw [Bool.and_eq_true] at h
            rw [hb0, h.1, Bool.true_and] at h1
            have := (alR_i k).mpr (fun i hi => (alR_i (n / 3)).mp h.2 i (by omega))
            rw [h1] at this
            cases this
        rw [h1]
        rw [this] at q
        exact q
      · rw [b32_ne0] at h1
        rw [Bool.and_eq_true] at h1
        have b0' := bnf_l hb (show 3 * k < n by omega)
        have nx : ∀ r : Bool, r = rwB w f (3 * k) → ih (b32 r) (i32 (3 * (k + 1))) := fun r hr => by
          refine hih _ _ ⟨k + 1, rfl, by omega, ?_⟩
          show _ = b32 (b0 && (alR w f k && rwB w f (3 * k)))
          rw [h1.1, h1.2, hr]
          rfl
        have bad : ¬ (bnf f (3 * k) < nC w ∧ alv w (bnf f (3 * k)) = true ∧ bnf f (3 * k + 1) < 64 ∧ bnf f (3 * k + 2) ≤ 1) → ih 0 (i32 (3 * (k + 1))) := fun h => nx false (rwB_n h).symm
        rw [s203 _ (show 3 * k < n by omega), s203 _ (show 3 * k + 1 < n by omega), s203 _ (show 3 * k + 2 < n by omega)]
        have ecit : V_m_citizens X2 = i32 (nC w) := by unfold V_m_citizens; rw [s191, n0, ei]
        have hnc : V_m_noCitizen (f (3 * k)).toInt8.toInt32 X2 = b32 (!decide (bnf f (3 * k) < nC w)) := by
          unfold V_m_noCitizen
          rw [v_in, ecit]
          have ez : (0 : Int32).toInt = 0 := rfl
          have el : (i32 (nC w) - 1).toInt = (nC w : Int) - 1 := by
            rw [i32_sub (by rw [i32_i (by omega), show (1 : Int32).toInt = 1 from rfl]; omega) (by rw [i32_i (by omega), show (1 : Int32).toInt = 1 from rfl]; omega), i32_i (by omega)]
            rfl
          rw [el, ez]
          by_cases hlo : bnf f (3 * k) < 128
          · rw [sb_lo hb (by omega) hlo, i32_i (by omega)]
            by_cases h : bnf f (3 * k) < nC w
            · rw [decide_eq_true h, decide_eq_true (by omega), b32_1, if_neg (by decide)]
              rfl
            · rw [decide_eq_false h, decide_eq_false (by omega), b32_0, if_pos rfl]
              rfl
          · have := sb_hi hb (show 3 * k < n by omega) hlo
            rw [decide_eq_false (show ¬ bnf f (3 * k) < nC w by omega), decide_eq_false (by omega), b32_0, if_pos rfl]
            rfl
        rw [hnc]
        refine ⟨fun h2 => ?_, fun h2 => bad (fun h => ?_)⟩
        · rw [b32_eq0, Bool.not_eq_false', decide_eq_true_eq] at h2
          rw [sb_lo hb (by omega) (by omega), v_alive (by omega), s191]
          refine ⟨fun h3 => bad (fun h => ?_), fun h3 => ?_⟩
          · rw [b32_eq0, h.2.1] at h3
            cases h3
          · rw [b32_ne0] at h3
            have hnm : V_m_noMatter (f (3 * k + 1)).toInt8.toInt32 X2 = b32 (!decide (bnf f (3 * k + 1) < 64)) := by
              unfold V_m_noMatter
              rw [v_in, show (0 : Int32).toInt = 0 from rfl, show (63 : Int32).toInt = 63 from rfl]
              by_cases hlo : bnf f (3 * k + 1) < 128
              · rw [sb_lo hb (by omega) hlo, i32_i (by omega)]
                by_cases h : bnf f (3 * k + 1) < 64
                · rw [decide_eq_true h, decide_eq_true (by omega), b32_1, if_neg (by decide)]
                  rfl
                · rw [decide_eq_false h, decide_eq_false (by omega), b32_0, if_pos rfl]
                  rfl
              · have := sb_hi hb (show 3 * k + 1 < n by omega) hlo
                rw [decide_eq_false (show ¬ bnf f (3 * k + 1) < 64 by omega), decide_eq_false (by omega), b32_0, if_pos rfl]
                rfl
            rw [hnm]
            refine ⟨fun h4 => ?_, fun h4 => bad (fun h => ?_)⟩
            · rw [b32_eq0, Bool.not_eq_false', decide_eq_true_eq] at h4
              have hin : V_m_in (f (3 * k + 2)).toInt8.toInt32 0 1 X2 = b32 (decide (bnf f (3 * k + 2) ≤ 1)) := by
                rw [v_in, show (0 : Int32).toInt = 0 from rfl, show (1 : Int32).toInt = 1 from rfl]
                by_cases hlo : bnf f (3 * k + 2) < 128
                · rw [sb_lo hb (by omega) hlo, i32_i (by omega)]
                  by_cases h : bnf f (3 * k + 2) ≤ 1
                  · rw [decide_eq_true h, decide_eq_true (by omega)]
                  · rw [decide_eq_false h, decide_eq_false (by omega)]
                · have := sb_hi hb (show 3 * k + 2 < n by omega) hlo
                  rw [decide_eq_false (show ¬ bnf f (3 * k + 2) ≤ 1 by omega), decide_eq_false (by omega)]
              rw [hin]
              refine ⟨fun h5 => bad (fun h => ?_), fun h5 => ?_⟩
              · rw [b32_eq0, decide_eq_true h.2.2.2] at h5
                cases h5
              · rw [b32_ne0, decide_eq_true_eq] at h5
                exact nx true (rwB_i.mpr ⟨h2, h3, h4, h5⟩).symm
            · rw [decide_eq_true h.2.2.1] at h4
              exact h4 rfl
        · rw [decide_eq_true h.1] at h2
          exact h2 rfl
      · have : (b0 && alR w f k) = tpB w f n := by
          unfold tpB
          rw [hb0]
          by_cases h3 : n % 3 = 0
          · rw [show n / 3 = k by omega]
          · rw [decide_eq_false h3, Bool.false_and, Bool.false_and]
        rw [this]
        exact q
    rw [z20, show rm (i32 n) 3 = i32 (n % 3) from rm_n (y := 3) (by omega) (by omega)]
    refine ⟨fun h => ?_, fun h => ?_⟩
    · have : n % 3 = 0 := (i32_inj (k := 0) (by omega) (by omega)).mp h
      exact go true (decide_eq_true this).symm
    · have : ¬ n % 3 = 0 := fun e => h (by rw [e]; rfl)
      exact go false (decide_eq_false this).symm
  refine key _ (eqo_wi (i := 3) (eqo_wi (i := 2) (eqo_wi (i := 1) (eqo_wi (i := 0) (eqo_rf _) rfl (Or.inr rfl)) rfl (Or.inr rfl)) rfl (Or.inr rfl)) rfl (Or.inr rfl)) ?_ ?_
  · rw [wi_1n (by omega), wi_1n (by omega), wi_1n (by omega), wi_1e]
  · rw [wi_1n (by omega), wi_1n (by omega), wi_1e, wi_1n (by omega)]
    exact h18
/-- of the rows that stand: the three bytes -/
theorem rw_3 (ha : alR w f (n / 3) = true) {k : Nat} (hk : k < n / 3) : bnf f (3 * k) < nC w ∧ alv w (bnf f (3 * k)) = true ∧ bnf f (3 * k + 1) < 64 ∧ bnf f (3 * k + 2) ≤ 1 := rwB_i.mp ((alR_i (n / 3)).mp ha k hk)
theorem r_lays {Q : MM → Prop} (hn : n ≤ 400) (h20 : X.1 190 20 = i32 n) (h203 : ∀ j, j < n → X.1 203 j = (f j).toInt8.toInt32) (hb : BOK f n) (hx : X.1 191 = w) (hL : LawR X L) (hcl : V_m_clauses X = i32 L.1) (hw : WF w) (hd : dOK w) (h3 : n % 3 = 0) (ha : alR w f (n / 3) = true) (hQ : ∀ X', Eqo fLy X X' → (∀ i, i < n / 3 → X'.1 209 (3 * i) = fbR L w f i) → Q X') : W_m_laysWatched N X Q := by
  obtain ⟨e0, hn10, ei⟩ := nC_i hw
  have l12 := hL.1
  unfold W_m_laysWatched
  refine I_m_laysWatched_2 Q (fun v X' => ∃ k, k ≤ n / 3 ∧ v = i32 (3 * k) ∧ Eqo fLy X X' ∧ ∀ i, i < k → X'.1 209 (3 * i) = fbR L w f i) (fun N ih v X' hih hv => ?_) N _ _ ⟨0, by omega, rfl, eqo_rf _, fun i hi => by omega⟩
  obtain ⟨k, hk, rfl, eE, hg⟩ := hv
  have s20 : X'.1 190 20 = i32 n := by rw [eq1 eE (b := 190) (k := 20) rfl]; exact h20
  have s203 : X'.1 203 = X.1 203 := eqb eE (lo := 203) (hi := 203) rfl (Nat.le_refl _) (Nat.le_refl _)
  have s191 : X'.1 191 = w := by rw [eqb eE (lo := 191) (hi := 191) rfl (Nat.le_refl _) (Nat.le_refl _)]; exact hx
  have sL : LawR X' L := LawR_eq hL eE rfl
  have scl : V_m_clauses X' = i32 L.1 := by
    rw [← hcl]
    unfold V_m_clauses
    rw [eq1 eE (b := 190) (k := 15) rfl]
  unfold B_m_laysWatched_2
  rw [s20, i32_lt (j := 3 * k) (k := n) (by omega) (by omega), show i32 (3 * k) + 1 = i32 (3 * k + 1) from i32_a (3 * k) 1, show i32 (3 * k) + 3 = i32 (3 * (k + 1)) from i32_a (3 * k) 3, ni_i (j := 3 * k) (by omega), ni_i (j := 3 * k + 1) (by omega), s203]
  refine ⟨fun hl => r_nev sL scl ?_, fun hl => hQ _ eE (fun i hi => hg i (by omega))⟩
  have hk3 : k < n / 3 := by omega
  obtain ⟨b1, -, b3, -⟩ := rw_3 ha hk3
  rw [h203 _ (show 3 * k < n by omega), h203 _ (show 3 * k + 1 < n by omega), sb_lo hb (by omega) (by omega), sb_lo hb (by omega) (by omega)]
  refine r_forb s191 sL scl hw hd b1 b3 (fun val => hih _ _ ⟨k + 1, by omega, rfl, eqo_wi (i := 1) (eqo_tr eE (fps_cons (i := 0) rfl fps_nil) (SV_e ⟨val, rfl⟩)) rfl (Or.inl rfl), fun i hi => ?_⟩)
  by_cases e : i = k
  · subst e
    rw [wi_1e, fbm_nv l12]
    rfl
  · rw [wi_1n (by omega), svM_n (by omega)]
    exact hg i (by omega)
theorem r_isCode {t : Nat} {Q : Int32 → Prop} (hn : n ≤ 400) (h20 : X.1 190 20 = i32 n) (h203 : ∀ j, j < n → X.1 203 j = (f j).toInt8.toInt32) (hb : BOK f n) (hL : LawR X L) (hcl : V_m_clauses X = i32 L.1) (h3 : n % 3 = 0) (ha : alR w f (n / 3) = true) (h209 : ∀ i, i < n / 3 → X.1 209 (3 * i) = fbR L w f i) (hQ : Q (b32 (cdB L w f n t))) : W_m_isCode (i32 t) N X Q := by
  unfold W_m_isCode
  refine r_nev hL hcl ?_
  have go : ∀ b0 : Bool, b0 = decide (i32 t &&& (nvB L ^^^ (-1)) = 0) → W_m_isCode_19 (i32 t) X Q N (b32 b0) 0 := by
    intro b0 hb0
    refine I_m_isCode_19 (i32 t) X Q (fun v2 v3 => ∃ k, k ≤ n / 3 ∧ v3 = i32 (3 * k) ∧ v2 = b32 (b0 && cdR L w f (i32 t) k)) (fun N ih v2 v3 hih hv => ?_) N _ _ ⟨0, by omega, rfl, by show _ = b32 (b0 && true); rw [Bool.and_true]⟩
    obtain ⟨k, hk, rfl, rfl⟩ := hv
    unfold B_m_isCode_19
    rw [h20, i32_lt (j := 3 * k) (k := n) (by omega) (by omega), show i32 (3 * k) + 2 = i32 (3 * k + 2) from i32_a (3 * k) 2, show i32 (3 * k) + 3 = i32 (3 * (k + 1)) from i32_a (3 * k) 3, ni_i (j := 3 * k) (by omega), ni_i (j := 3 * k + 2) (by omega)]
    refine ⟨fun hl => ⟨fun h1 => ?_, fun h1 => ?_⟩, fun hl => ?_⟩
    · rw [b32_eq0] at h1
      have : cdB L w f n t = false := by
        cases h : cdB L w f n t with
        | false => rfl
        | true =>
          unfold cdB at h
          rw [Bool.and_eq_true] at h
          rw [hb0, h.1, Bool.true_and] at h1
          have := (cdR_i k).mpr (fun i hi => (cdR_i (n / 3)).mp h.2 i (by omega))
          rw [h1] at this
          cases this
      rw [h1]
      rw [this] at hQ
      exact hQ
    · rw [b32_ne0, Bool.and_eq_true] at h1
      have hk3 : k < n / 3 := by omega
      obtain ⟨b1, -, b3, b4⟩ := rw_3 ha hk3
      rw [h209 k hk3, h203 _ (show 3 * k + 2 < n by omega), sb_lo hb (by omega) (by omega)]
      have nx : ∀ r : Bool, (r = true ↔ (fbR L w f k &&& i32 t = 0 ↔ tkB f k = false)) → ih (b32 r) (i32 (3 * (k + 1))) := fun r hr => by
        refine hih _ _ ⟨k + 1, by omega, rfl, ?_⟩
        show _ = b32 (b0 && (cdR L w f (i32 t) k && (decide (fbR L w f k &&& i32 t = 0) != tkB f k)))
        rw [h1.1, h1.2, Bool.true_and, Bool.true_and]
        congr 1
        rw [Bool.eq_iff_iff, bne_i]
        exact hr
      have tk : i32 (bnf f (3 * k + 2)) = 1 ↔ tkB f k = true := by
        unfold tkB
        rw [decide_eq_true_eq]
        exact i32_inj (k := 1) (by omega) (by omega)
      refine ⟨fun h2 => ⟨fun h4 => ?_, fun h4 => ?_⟩, fun h2 => ⟨fun h4 => ?_, fun h4 => ?_⟩⟩
      · have := tk.mp h4
        exact nx false (by simp [h2, this])
      · have : tkB f k = false := Bool.eq_false_iff.mpr (fun e => h4 (tk.mpr e))
        exact nx true (by simp [h2, this])
      · have := tk.mp h4
        exact nx true (by simp [h2, this])
      · have : tkB f k = false := Bool.eq_false_iff.mpr (fun e => h4 (tk.mpr e))
        exact nx false (by simp [h2, this])
    · obtain rfl : k = n / 3 := by omega
      rw [hb0]
      exact hQ
  refine ⟨fun h => ?_, fun h => ?_⟩
  · exact go true (decide_eq_true h).symm
  · exact go false (decide_eq_false h).symm
/-- what read and next want of the reference's cells -/
def RTP (X : MM) (L : LWT) (w : RW) (f : BY) (n : Nat) : Prop := n ≤ 400 ∧ X.1 190 18 = i32 n ∧ (∀ j, j < n → X.1 203 j = (f j).toInt8.toInt32) ∧ BOK f n ∧ X.1 191 = w ∧ LawR X L ∧ V_m_clauses X = i32 L.1 ∧ WF w ∧ dOK w
def rdQ (L : LWT) (w : RW) (f : BY) (n : Nat) (p b : Int32) (M2 : MM) : Prop := (tpB w f n = false → M2.1 190 0 = 1) ∧ (tpB w f n = true → ¬ (0 ≤ p.toInt ∧ p.toInt ≤ 2) → M2.1 190 0 = 2) ∧ (tpB w f n = true → (0 ≤ p.toInt ∧ p.toInt ≤ 2) → M2.1 190 0 = 0 ∧ rdA (cdB L w f n) (2 ^ L.1) p = b)
theorem r_read {p : Int32} (h : RTP X L w f n) : W_m_read p N X (rdQ L w f n p) := by
  obtain ⟨hn, h18, h203, hb, hx, hL, hcl, hw, hd⟩ := h
  have l12 := hL.1
  have hT : 2 ^ L.1 ≤ 4096 := Nat.pow_le_pow_right (n := 2) (by omega) l12
  unfold W_m_read
  refine r_watch hn h18 h203 hb hx hw (fun X2 eE z0 z20 => ?_)
  have s203 : ∀ j, j < n → X2.1 203 j = (f j).toInt8.toInt32 := fun j hj => by
    rw [eqb eE (lo := 203) (hi := 203) rfl (Nat.le_refl _) (Nat.le_refl _)]
    exact h203 j hj
  have s191 : X2.1 191 = w := by rw [eqb eE (lo := 191) (hi := 191) rfl (Nat.le_refl _) (Nat.le_refl _)]; exact hx
  have sL : LawR X2 L := LawR_eq hL eE rfl
  have scl : V_m_clauses X2 = i32 L.1 := by
    rw [← hcl]
    unfold V_m_clauses
    rw [eq1 eE (b := 190) (k := 15) rfl]
  cases ht : tpB w f n with
  | false =>
    unfold W_m_throwsIf
    simp only [b32_0, e10, e10n, true_implies, false_implies, not_true_eq_false, not_false_eq_true, and_true, true_and, if_true]
    exact ⟨fun _ => wi_1e, fun h => (by rw [ht] at h; cases h), fun h => (by rw [ht] at h; cases h)⟩
  | true =>
    have ht2 := ht
    unfold tpB at ht2
    rw [Bool.and_eq_true, decide_eq_true_eq] at ht2
    obtain ⟨h3, ha⟩ := ht2
    have z2 : (2 : Int32).toInt = 2 := rfl
    have zz : (0 : Int32).toInt = 0 := rfl
    by_cases hp : 0 ≤ p.toInt ∧ p.toInt ≤ 2
    · have ein : ∀ Y : MM, V_m_in p 0 2 Y = 1 := fun Y => by rw [v_in, zz, z2, decide_eq_true hp]; rfl
      unfold W_m_throwsIf
      simp only [b32_1, ein, e10, e10n, true_implies, false_implies, not_true_eq_false, not_false_eq_true, and_true, true_and, if_true]
      refine r_lays hn z20 s203 hb s191 sL scl hw hd h3 ha (fun X3 e3 h9 => ?_)
      have t20 : X3.1 190 20 = i32 n := by rw [eq1 e3 (b := 190) (k := 20) rfl]; exact z20
      have t0 : X3.1 190 0 = 0 := by rw [eq1 e3 (b := 190) (k := 0) rfl]; exact z0
      have t203 : ∀ j, j < n → X3.1 203 j = (f j).toInt8.toInt32 := fun j hj => by
        rw [eqb e3 (lo := 203) (hi := 203) rfl (Nat.le_refl _) (Nat.le_refl _)]
        exact s203 j hj
      have tL : LawR X3 L := LawR_eq sL e3 rfl
      have tcl : V_m_clauses X3 = i32 L.1 := by
        rw [← scl]
        unfold V_m_clauses
        rw [eq1 e3 (b := 190) (k := 15) rfl]
      refine I_m_read_68 p X3 (rdQ L w f n p) (fun v3 v4 v5 v6 => ∃ k, k ≤ 2 ^ L.1 ∧ v6 = i32 k ∧ v3 = i32 (cnF (cdB L w f n) k) ∧ v4 = anF (cdB L w f n) (i32 (2 ^ L.1) - 1) k ∧ v5 = orF (cdB L w f n) k) (fun N ih v3 v4 v5 v6 hih hv => ?_) N _ _ _ _ ⟨0, Nat.zero_le _, rfl, rfl, by rw [tcl, show sl 1 (i32 L.1) = i32 (2 ^ L.1) from sl_n ⟨L.1, by omega⟩]; rfl, rfl⟩
      obtain ⟨k, hk, rfl, rfl, rfl, rfl⟩ := hv
      unfold B_m_read_68
      rw [tcl, show sl 1 (i32 L.1) = i32 (2 ^ L.1) from sl_n ⟨L.1, by omega⟩, i32_lt (j := k) (k := 2 ^ L.1) (by omega) (by omega)]
      refine ⟨fun hl => ?_, fun hl => ?_⟩
      · refine r_isCode hn t20 t203 hb tL tcl h3 ha h9 ⟨fun e => ?_, fun e => ?_⟩
        · rw [b32_eq0] at e
          have e' : ¬ cdB L w f n k = true := fun h => by rw [e] at h; cases h
          refine hih _ _ _ _ ⟨k + 1, by omega, i32_s k, ?_, ?_, ?_⟩
          · show _ = i32 (if cdB L w f n k = true then _ else _)
            rw [if_neg e']
          · show _ = (if cdB L w f n k = true then _ else _)
            rw [if_neg e']
          · show _ = (if cdB L w f n k = true then _ else _)
            rw [if_neg e']
        · rw [b32_ne0] at e
          refine hih _ _ _ _ ⟨k + 1, by omega, i32_s k, ?_, ?_, ?_⟩
          · rw [i32_s]
            show _ = i32 (if cdB L w f n k = true then _ else _)
            rw [if_pos e]
          · show _ = (if cdB L w f n k = true then _ else _)
            rw [if_pos e]
          · show _ = (if cdB L w f n k = true then _ else _)
            rw [if_pos e]
      · obtain rfl : k = 2 ^ L.1 := by omega
        have hcn := cnF_le (F := cdB L w f n) (2 ^ L.1)
        have fin : ∀ b : Int32, rdA (cdB L w f n) (2 ^ L.1) p = b → rdQ L w f n p b X3 := fun b hb => ⟨fun h => (by rw [ht] at h; cases h), fun _ h => absurd hp h, fun _ _ => ⟨t0, hb⟩⟩
        refine ⟨fun e => fin _ ?_, fun e => ⟨fun e2 => fin _ ?_, fun e2 => ⟨fun e3 => fin _ ?_, fun e3 => fin _ ?_⟩⟩⟩
        · unfold rdA
          rw [if_pos e]
        · have c0 : cnF (cdB L w f n) (2 ^ L.1) = 0 := (i32_inj (k := 0) (by omega) (by omega)).mp e2
          unfold rdA
          rw [if_neg e, if_pos c0, c0]
          rfl
        · have c0 : ¬ cnF (cdB L w f n) (2 ^ L.1) = 0 := fun h => e2 (by rw [h]; rfl)
          unfold rdA
          rw [if_neg e, if_neg c0, if_pos e3, anF_s l12 (by omega)]
        · have c0 : ¬ cnF (cdB L w f n) (2 ^ L.1) = 0 := fun h => e2 (by rw [h]; rfl)
          unfold rdA
          rw [if_neg e, if_neg c0, if_neg e3]
    · have ein : ∀ Y : MM, V_m_in p 0 2 Y = 0 := fun Y => by rw [v_in, zz, z2, decide_eq_false hp]; rfl
      unfold W_m_throwsIf
      simp only [b32_1, ein, e10, e10n, true_implies, false_implies, not_true_eq_false, not_false_eq_true, and_true, true_and, if_true]
      exact ⟨fun h => (by rw [ht] at h; cases h), fun _ _ => wi_1e, fun _ h => absurd h hp⟩
theorem RTP_cp {B : Int} {M : MM} (h : CP B M) (hB : 0 ≤ B ∧ B ≤ 28000) : ∃ n L, M.1 1 1 = i32 n ∧ LawC M 8 L ∧ CW M 18 (M.1 191) (M.2 196) ∧ RTP M L (M.1 191) (M.1 2) n := by
  obtain ⟨L, hL, hR, hcl, hc, hg⟩ := CP_w h
  obtain ⟨⟨n, hn, t1, t2, t3⟩, -⟩ := h
  exact ⟨n, L, t1, hL, hc, hn, t2, fun j hj => (t3 j hj).2, fun j hj => (t3 j hj).1, rfl, hR, hcl, hg.1, dok_g hg hB⟩
theorem RTP_e {l : List (Nat × Nat × Option Nat)} {X' : MM} (h : RTP X L w f n) (e : Eqo l X X') (hl : (fpf l 190 18 && (fpf l 190 15 && (fpo l 203 203 && (fpo l 191 191 && fpo l 201 202)))) = true) : RTP X' L w f n := by
  simp only [Bool.and_eq_true] at hl
  obtain ⟨l1, l2, l3, l4, l5⟩ := hl
  obtain ⟨hn, h18, h203, hb, hx, hL, hcl, hw, hd⟩ := h
  refine ⟨hn, by rw [eq1 e l1]; exact h18, fun j hj => by rw [eqb e l3 (Nat.le_refl _) (Nat.le_refl _)]; exact h203 j hj, hb, by rw [eqb e l4 (Nat.le_refl _) (Nat.le_refl _)]; exact hx, LawR_eq hL e l5, ?_, hw, hd⟩
  rw [← hcl]
  unfold V_m_clauses
  rw [eq1 e l2]
theorem a_read {B : Int} {M : MM} {p : Int32} (h : CP B M) (hB : 0 ≤ B ∧ B ≤ 28000) {N : Nat} : W_E_read p N M (fun y M1 => ∀ z N', W_m_read p N' (wj M1 215 0 z) (fun b M2 => CP B M2 ∧ M2.1 190 0 = 0 ∧ y = b)) (fun ce M1 => ∀ N', W_m_read p N' M1 (fun _ M2 => CP B M2 ∧ M2.1 190 0 = if ce = 0 then 1 else 2)) := by
  obtain ⟨n, L, t1, hL, hc, hT⟩ := RTP_cp h hB
  have hT' := hT
  obtain ⟨hn, -, -, hb, -, -, -, hw, hd⟩ := hT'
  refine and_E_read (fun y M1 h1 h2 z N' => ?_) (fun ce M1 h1 h2 N' => ?_) (f_read h) (c_read t1 hn rfl hb hc hw hL hd)
  · obtain ⟨eE, e1, e2, e3⟩ := h2
    refine and_m_read (fun b M2 q1 q2 => ⟨q1, ?_⟩) (h1 z N') (r_read (RTP_e (RTP_e hT eE rfl) eqo_z rfl))
    obtain ⟨q3, q4⟩ := q2.2.2 e1 e2
    exact ⟨q3, e3.trans q4⟩
  · obtain ⟨eE, e1⟩ := h2
    refine and_m_read (fun b M2 q1 q2 => ⟨q1, ?_⟩) (h1 N') (r_read (RTP_e hT eE rfl))
    rcases e1 with ⟨rfl, e2⟩ | ⟨rfl, e2, e3⟩
    · exact q2.1 e2
    · exact q2.2.1 e2 e3
end RDR
