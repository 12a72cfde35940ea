/-! NEXT: the reference; both sides -/
def fNx : List (Nat × Nat × Option Nat) := [(207, 207, none), (210, 210, none), (211, 211, none)]
section NXR
variable {X : MM} {L : LWT} {w : RW} {f : BY} {n N : Nat}
theorem v_nocit {p : Int32} (hx : X.1 191 = w) (hw : WF w) : V_m_noCitizen p X = b32 (!decide (0 ≤ p.toInt ∧ p.toInt < (nC w : Int))) := by
  obtain ⟨e0, hn10, ei⟩ := nC_i hw
  have ecit : V_m_citizens X = i32 (nC w) := by unfold V_m_citizens; rw [hx, n0, ei]
  unfold V_m_noCitizen
  rw [v_in, ecit]
  have ez : (0 : Int32).toInt = 0 := rfl
  have el : (i32 (nC w) - 1).toInt = (nC w : Int) - 1 := by
    rw [i32_sub (by rw [i32_i (by omega), show (1 : Int32).toInt = 1 from rfl]; omega) (by rw [i32_i (by omega), show (1 : Int32).toInt = 1 from rfl]; omega), i32_i (by omega)]
    rfl
  rw [el, ez]
  by_cases h : 0 ≤ p.toInt ∧ p.toInt < (nC w : Int)
  · rw [decide_eq_true h, decide_eq_true (by omega), b32_1, if_neg (by decide)]
    rfl
  · rw [decide_eq_false h, decide_eq_false (by omega), b32_0, if_pos rfl]
    rfl
theorem by_le {F : Nat → Bool} {S : Nat} {g : Int32} : byN F S g ≤ cnF F S := by
  have := al_by (F := F) (S := S) g
  omega
theorem r_tail {c : Nat} {F : Nat → Bool} {S : Nat} {Q : Int32 → MM → Prop} (hS : S ≤ 4096) (G : Nat → Int32) (hg : ∀ m, m < 64 → X.1 210 m = i32 (byN F S (G m))) (hQ : Q (nxA F S G) X) : W_m_next_186 (i32 c) (i32 (cnF F S)) X Q N 0 1 := by
  have cn : cnF F S ≤ S := cnF_le S
  have eg : ∀ m, m < 64 → mx (X.1 210 m) (i32 (cnF F S) - X.1 210 m) = i32 (grN F S G m) := fun m hm => by
    have h1 := by_le (F := F) (S := S) (g := G m)
    have h2 := al_by (F := F) (S := S) (G m)
    rw [hg m hm, i32_df h1, mx_n (by omega) (by omega)]
    unfold grN
    rw [show cnF F S - byN F S (G m) = alN F S (G m) by omega, show cnF F S - alN F S (G m) = byN F S (G m) by omega]
    exact congrArg i32 (Nat.max_comm _ _)
  refine I_m_next_186 _ _ X Q (fun v4 v5 => ∃ k, k ≤ 63 ∧ v5 = i32 (k + 1) ∧ v4 = i32 (bsN F S G k)) (fun N ih v4 v5 hih hv => ?_) N _ _ ⟨0, by omega, rfl, rfl⟩
  obtain ⟨k, hk, rfl, rfl⟩ := hv
  have hle := bsN_le (F := F) (S := S) (G := G) k
  unfold B_m_next_186
  refine ⟨fun hl => ?_, fun hl => ?_⟩
  · have hk64 : k + 1 < 64 := (i32_lt (k := 64) (by omega) (by omega)).mp hl
    have g1 := grN_le (F := F) (S := S) (G := G) (m := k + 1)
    have g2 := grN_le (F := F) (S := S) (G := G) (m := bsN F S G k)
    rw [ni_i (j := k + 1) (by omega), ni_i (j := bsN F S G k) (by omega), eg _ hk64, eg _ (by omega), i32_lt (by omega) (by omega)]
    refine ⟨fun h => hih _ _ ⟨k + 1, by omega, i32_s (k + 1), ?_⟩, fun h => hih _ _ ⟨k + 1, by omega, i32_s (k + 1), ?_⟩⟩
    · show _ = i32 (if grN F S G (k + 1) < grN F S G (bsN F S G k) then k + 1 else bsN F S G k)
      rw [if_pos h]
    · show _ = i32 (if grN F S G (k + 1) < grN F S G (bsN F S G k) then k + 1 else bsN F S G k)
      rw [if_neg h]
  · have : ¬ k + 1 < 64 := fun e => hl ((i32_lt (j := k + 1) (k := 64) (by omega) (by omega)).mpr e)
    obtain rfl : k = 63 := by omega
    unfold nxA at hQ
    refine ⟨fun h => ?_, fun h => ?_⟩
    · have : cnF F S < 2 := (i32_lt (k := 2) (by omega) (by omega)).mp h
      rw [if_pos this] at hQ
      exact hQ
    · have : ¬ cnF F S < 2 := fun q => h ((i32_lt (k := 2) (by omega) (by omega)).mpr q)
      rw [if_neg this] at hQ
      exact hQ
theorem r_nloop {c : Nat} {Q : Int32 → MM → Prop} (hn : n ≤ 400) (h20 : X.1 190 20 = i32 n) (h203 : ∀ j, j < n → X.1 203 j = (f j).toInt8.toInt32) (hb : BOK f n) (hx : X.1 191 = w) (hL : LawR X L) (hcl : V_m_clauses X = i32 L.1) (hw : WF w) (hd : dOK w) (h3 : n % 3 = 0) (ha : alR w f (n / 3) = true) (h209 : ∀ i, i < n / 3 → X.1 209 (3 * i) = fbR L w f i) (hcn : c < nC w) (hQ : ∀ X', X'.1 190 0 = X.1 190 0 → Q (nxA (cdB L w f n) (2 ^ L.1) (fun m => fbm L w c (i32 m))) X') : W_m_next_64 (i32 c) (fun M21 => W_m_next_104 (i32 c) (fun x29 M30 => W_m_next_186 (i32 c) x29 M30 Q N 0 1) Q N 0 0 M21) Q N 0 X := by
  have l12 := hL.1
  have hT : 2 ^ L.1 ≤ 4096 := Nat.pow_le_pow_right (n := 2) (by omega) l12
  obtain ⟨e0, hn10, ei⟩ := nC_i hw
  have cell : ∀ X', Eqo fNx X X' → X'.1 190 20 = i32 n ∧ (∀ j, j < n → X'.1 203 j = (f j).toInt8.toInt32) ∧ X'.1 191 = w ∧ LawR X' L ∧ V_m_clauses X' = i32 L.1 ∧ (∀ i, i < n / 3 → X'.1 209 (3 * i) = fbR L w f i) ∧ X'.1 190 0 = X.1 190 0 := fun X' eE => by
    refine ⟨by rw [eq1 eE (b := 190) (k := 20) rfl]; exact h20, fun j hj => by rw [eqb eE (lo := 203) (hi := 203) rfl (Nat.le_refl _) (Nat.le_refl _)]; exact h203 j hj, by rw [eqb eE (lo := 191) (hi := 191) rfl (Nat.le_refl _) (Nat.le_refl _)]; exact hx, LawR_eq hL eE rfl, ?_, fun i hi => by rw [eqb eE (lo := 209) (hi := 209) rfl (Nat.le_refl _) (Nat.le_refl _)]; exact h209 i hi, eq1 eE (b := 190) (k := 0) rfl⟩
    rw [← hcl]
    unfold V_m_clauses
    rw [eq1 eE (b := 190) (k := 15) rfl]
  refine I_m_next_64 (i32 c) _ Q (fun v X' => ∃ k, k ≤ 64 ∧ v = i32 k ∧ Eqo fNx X X' ∧ ∀ m, m < k → X'.1 210 m = 0 ∧ X'.1 211 m = fbm L w c (i32 m)) (fun Na ih v X' hih hv => ?_) N _ _ ⟨0, by omega, rfl, eqo_rf _, fun m hm => by omega⟩
  obtain ⟨k, hk, rfl, eE, hg⟩ := hv
  unfold B_m_next_64
  refine ⟨fun hl => ?_, fun hl => ?_⟩
  · have hk64 : k < 64 := (i32_lt (k := 64) (by omega) (by omega)).mp hl
    rw [ni_i (j := k) (by omega)]
    have eE2 : Eqo fNx X (wi X' 210 k 0) := eqo_wi (i := 1) eE rfl (Or.inl rfl)
    obtain ⟨-, -, s191, sL, scl, -, -⟩ := cell _ eE2
    refine r_nev sL scl (r_forb s191 sL scl hw hd hcn hk64 (fun val => hih _ _ ⟨k + 1, by omega, i32_s k, eqo_wi (i := 2) (eqo_tr eE2 (fps_cons (i := 0) rfl fps_nil) (SV_e ⟨val, rfl⟩)) rfl (Or.inl rfl), fun m hm => ?_⟩))
    by_cases e : m = k
    · subst e
      refine ⟨?_, ?_⟩
      · rw [wi_1n (by omega), svM_n (by omega), wi_1e]
      · rw [wi_1e, fbm_nv l12]
    · rw [wi_1n (by omega), svM_n (by omega), wi_1n (by omega), wi_1n (by omega), svM_n (by omega), wi_1n (by omega)]
      exact hg m (by omega)
  · have : ¬ k < 64 := fun e => hl ((i32_lt (j := k) (k := 64) (by omega) (by omega)).mpr e)
    obtain rfl : k = 64 := by omega
    generalize hGd : (fun m => fbm L w c (i32 m)) = G at hQ
    have hG : ∀ m, fbm L w c (i32 m) = G m := fun m => congrFun hGd m
    generalize hF : cdB L w f n = F at hQ
    refine I_m_next_104 (i32 c) _ Q (fun v3 v4 X2 => ∃ k, k ≤ 2 ^ L.1 ∧ v4 = i32 k ∧ v3 = i32 (cnF F k) ∧ Eqo fNx X X2 ∧ (∀ m, m < 64 → X2.1 211 m = G m) ∧ ∀ m, m < 64 → X2.1 210 m = i32 (byN F k (G m))) (fun Nb ih2 v3 v4 X2 hih2 hv => ?_) N _ _ _ ⟨0, Nat.zero_le _, rfl, rfl, eE, fun m hm => (hg m hm).2.trans (hG m), fun m hm => (hg m hm).1⟩
    obtain ⟨k, hk, rfl, rfl, eE2, hg1, hg2⟩ := hv
    obtain ⟨s20, s203, s191, sL, scl, s209, -⟩ := cell _ eE2
    unfold B_m_next_104
    rw [scl, show sl 1 (i32 L.1) = i32 (2 ^ L.1) from sl_n ⟨L.1, by omega⟩, i32_lt (j := k) (k := 2 ^ L.1) (by omega) (by omega)]
    refine ⟨fun hkl => ?_, fun hkl => ?_⟩
    · refine r_isCode hn s20 s203 hb sL scl h3 ha s209 ⟨fun e => ?_, fun e => ?_⟩
      · rw [b32_eq0, hF] at e
        have e' : ¬ F k = true := fun h => by rw [e] at h; cases h
        refine hih2 _ _ _ ⟨k + 1, by omega, i32_s k, ?_, eE2, hg1, fun m hm => ?_⟩
        · show _ = i32 (if F k = true then _ else _)
          rw [if_neg e']
        · rw [hg2 m hm]
          show _ = i32 (if (F k && !decide (G m &&& i32 k = 0)) = true then _ else byN F k (G m))
          rw [e, Bool.false_and, if_neg (by decide)]
      · rw [b32_ne0, hF] at e
        refine I_m_next_133 (i32 c) _ _ _ Q (fun v5 X3 => ∃ j, j ≤ 64 ∧ v5 = i32 j ∧ Eqo fNx X X3 ∧ (∀ m, m < 64 → X3.1 211 m = G m) ∧ ∀ m, m < 64 → X3.1 210 m = i32 (byN F (if m < j then k + 1 else k) (G m))) (fun Nc ih3 v5 X3 hih3 hv => ?_) Nb _ _ ⟨0, by omega, rfl, eE2, hg1, fun m hm => by rw [if_neg (by omega)]; exact hg2 m hm⟩
        obtain ⟨j, hj, rfl, eE3, hg3, hg4⟩ := hv
        unfold B_m_next_133
        refine ⟨fun hl3 => ?_, fun hl3 => ?_⟩
        · have hj64 : j < 64 := (i32_lt (k := 64) (by omega) (by omega)).mp hl3
          rw [ni_i (j := j) (by omega), hg3 j hj64, hg4 j hj64, if_neg (by omega)]
          have nx : ∀ x : Int32, x = i32 (byN F (k + 1) (G j)) → ih3 (i32 j + 1) (wi X3 210 j x) := fun x hx3 => by
            refine hih3 _ _ ⟨j + 1, by omega, i32_s j, eqo_wi (i := 1) eE3 rfl (Or.inl rfl), fun m hm => by rw [wi_1n (by omega)]; exact hg3 m hm, fun m hm => ?_⟩
            by_cases em : m = j
            · subst em
              rw [wi_1e, if_pos (by omega)]
              exact hx3
            · rw [wi_1n (by omega), hg4 m hm]
              by_cases e2 : m < j
              · rw [if_pos e2, if_pos (by omega)]
              · rw [if_neg e2, if_neg (by omega)]
          have ub : byN F (k + 1) (G j) = if (F k && !decide (G j &&& i32 k = 0)) = true then byN F k (G j) + 1 else byN F k (G j) := rfl
          refine ⟨fun hz => nx _ ?_, fun hz => nx _ ?_⟩
          · rw [ub, decide_eq_true hz, Bool.not_true, Bool.and_false, if_neg (by decide)]
            exact i32_a _ 0
          · rw [ub, e, decide_eq_false hz, Bool.not_false, Bool.and_true, if_pos rfl]
            exact i32_a _ 1
        · have : ¬ j < 64 := fun e => hl3 ((i32_lt (j := j) (k := 64) (by omega) (by omega)).mpr e)
          obtain rfl : j = 64 := by omega
          rw [i32_s]
          refine hih2 _ _ _ ⟨k + 1, by omega, i32_s k, ?_, eE3, hg3, fun m hm => ?_⟩
          · show _ = i32 (if F k = true then _ else _)
            rw [if_pos e]
          · rw [hg4 m hm, if_pos hm]
    · obtain rfl : k = 2 ^ L.1 := by omega
      exact r_tail hT G hg2 (hQ _ (cell _ eE2).2.2.2.2.2.2)
def nxQ (L : LWT) (w : RW) (f : BY) (n : Nat) (p b : Int32) (M2 : MM) : Prop := (¬ (0 ≤ p.toInt ∧ p.toInt < (nC w : Int)) → M2.1 190 0 = 1) ∧ (0 ≤ p.toInt ∧ p.toInt < (nC w : Int) → tpB w f n = false → M2.1 190 0 = 2) ∧ (∀ c, p = i32 c → c < nC w → tpB w f n = true → alv w c = false → M2.1 190 0 = 3) ∧ (∀ c, p = i32 c → c < nC w → tpB w f n = true → alv w c = true → M2.1 190 0 = 0 ∧ nxA (cdB L w f n) (2 ^ L.1) (fun m => fbm L w c (i32 m)) = b)
theorem r_next {p : Int32} (h : RTP X L w f n) : W_m_next p N X (nxQ L w f n p) := by
  obtain ⟨hn, h18, h203, hb, hx, hL, hcl, hw, hd⟩ := h
  have l12 := hL.1
  obtain ⟨e0, hn10, ei⟩ := nC_i hw
  unfold W_m_next
  refine r_watch hn h18 h203 hb hx hw (fun X2 eE z0 z20 => ?_)
  have s203 : ∀ j, j < n → X2.1 203 j = (f j).toInt8.toInt32 := fun j hj => by
    rw [eqb eE (lo := 203) (hi := 203) rfl (Nat.le_refl _) (Nat.le_refl _)]
    exact h203 j hj
  have s191 : X2.1 191 = w := by rw [eqb eE (lo := 191) (hi := 191) rfl (Nat.le_refl _) (Nat.le_refl _)]; exact hx
  have sL : LawR X2 L := LawR_eq hL eE rfl
  have scl : V_m_clauses X2 = i32 L.1 := by
    rw [← hcl]
    unfold V_m_clauses
    rw [eq1 eE (b := 190) (k := 15) rfl]
  have no : ∀ c, p = i32 c → c < nC w → 0 ≤ p.toInt ∧ p.toInt < (nC w : Int) := fun c e hc => by
    rw [e, i32_i (by omega)]
    omega
  rw [v_nocit s191 hw]
  by_cases hp : 0 ≤ p.toInt ∧ p.toInt < (nC w : Int)
  · rw [decide_eq_true hp]
    obtain ⟨c, hc, rfl⟩ : ∃ c, c < nC w ∧ p = i32 c := ⟨p.toInt.toNat, by omega, i32_of (by omega)⟩
    have one : ∀ c', i32 c = i32 c' → c' < nC w → c' = c := fun c' e hc' => ((i32_inj (by omega) (by omega)).mp e).symm
    cases ht : tpB w f n with
    | false =>
      unfold W_m_throwsIf
      simp only [Bool.not_true, b32_0, e10, e10n, true_implies, false_implies, not_true_eq_false, not_false_eq_true, and_true, true_and, if_true]
      exact ⟨fun h => absurd hp h, fun _ _ => wi_1e, fun _ _ _ h => (by rw [ht] at h; cases h), fun _ _ _ h => (by rw [ht] at h; cases h)⟩
    | true =>
      have ht2 := ht
      unfold tpB at ht2
      rw [Bool.and_eq_true, decide_eq_true_eq] at ht2
      obtain ⟨h3, ha⟩ := ht2
      have eal : V_m_isAlive (i32 c) X2 = b32 (alv w c) := by rw [v_alive (by omega), s191]
      cases hal : alv w c with
      | false =>
        rw [hal] at eal
        unfold W_m_throwsIf
        simp only [Bool.not_true, b32_0, b32_1, eal, e10, e10n, true_implies, false_implies, not_true_eq_false, not_false_eq_true, and_true, true_and, if_true]
        exact ⟨fun h => absurd hp h, fun _ h => (by rw [ht] at h; cases h), fun _ _ _ _ _ => wi_1e, fun c' e1 e2 _ h => (by rw [one c' e1 e2, hal] at h; cases h)⟩
      | true =>
        rw [hal] at eal
        unfold W_m_throwsIf
        simp only [Bool.not_true, b32_0, b32_1, eal, e10, e10n, true_implies, false_implies, not_true_eq_false, not_false_eq_true, and_true, true_and, if_true]
        refine r_lays hn z20 s203 hb s191 sL scl hw hd h3 ha (fun X3 e3 h9 => ?_)
        have t203 : ∀ j, j < n → X3.1 203 j = (f j).toInt8.toInt32 := fun j hj => by
          rw [eqb e3 (lo := 203) (hi := 203) rfl (Nat.le_refl _) (Nat.le_refl _)]
          exact s203 j hj
        refine r_nloop hn (by rw [eq1 e3 (b := 190) (k := 20) rfl]; exact z20) t203 hb (by rw [eqb e3 (lo := 191) (hi := 191) rfl (Nat.le_refl _) (Nat.le_refl _)]; exact s191) (LawR_eq sL e3 rfl) (by rw [← scl]; unfold V_m_clauses; rw [eq1 e3 (b := 190) (k := 15) rfl]) hw hd h3 ha h9 hc (fun X' e' => ?_)
        have t0 : X'.1 190 0 = 0 := by rw [e', eq1 e3 (b := 190) (k := 0) rfl]; exact z0
        exact ⟨fun h => absurd hp h, fun _ h => (by rw [ht] at h; cases h), fun c' e1 e2 _ h => (by rw [one c' e1 e2, hal] at h; cases h), fun c' e1 e2 _ _ => ⟨t0, by rw [one c' e1 e2]⟩⟩
  · rw [decide_eq_false hp]
    cases ht : tpB w f n <;>
    · unfold W_m_throwsIf
      simp only [Bool.not_false, b32_1, e10, e10n, true_implies, false_implies, not_true_eq_false, not_false_eq_true, and_true, true_and, if_true]
      exact ⟨fun _ => wi_1e, fun h => absurd h hp, fun c' e1 e2 => absurd (no c' e1 e2) hp, fun c' e1 e2 => absurd (no c' e1 e2) hp⟩
theorem a_next {B : Int} {M : MM} {p : Int32} (h : CP B M) (hB : 0 ≤ B ∧ B ≤ 28000) {N : Nat} : W_E_next p N M (fun y M1 => ∀ z N', W_m_next p N' (wj M1 215 0 z) (fun b M2 => CP B M2 ∧ M2.1 190 0 = 0 ∧ y = b)) (fun ce M1 => ∀ N', W_m_next p N' M1 (fun _ M2 => CP B M2 ∧ M2.1 190 0 = if ce = 2 then 1 else if ce = 0 then 2 else 3)) := by
  obtain ⟨n, L, t1, hL, hc, hT⟩ := RTP_cp h hB
  have hT' := hT
  obtain ⟨hn, -, -, hb, -, -, -, hw, hd⟩ := hT'
  obtain ⟨e0, hn10, ei⟩ := nC_i hw
  have hok : ∀ b : Bool, okc M p = b → decide (0 ≤ p.toInt ∧ p.toInt < (nC (M.1 191) : Int)) = b := fun b hb => by
    unfold okc at hb
    rw [e0] at hb
    exact hb
  refine and_E_next (fun y M1 h1 h2 z N' => ?_) (fun ce M1 h1 h2 N' => ?_) (f_next h) (c_next t1 hn rfl hb hc hw hL hd)
  · obtain ⟨eE, e1, c, e2, e3, e4, e5⟩ := h2
    refine and_m_next (fun b M2 q1 q2 => ⟨q1, ?_⟩) (h1 z N') (r_next (RTP_e (RTP_e hT eE rfl) eqo_z rfl))
    obtain ⟨q3, q4⟩ := q2.2.2.2 c e2 e3 e1 e4
    exact ⟨q3, e5.trans q4⟩
  · obtain ⟨eE, e1⟩ := h2
    refine and_m_next (fun b M2 q1 q2 => ⟨q1, ?_⟩) (h1 N') (r_next (RTP_e hT eE rfl))
    rcases e1 with ⟨rfl, e2⟩ | ⟨rfl, e2, e3⟩ | ⟨rfl, e2, c, e3, e4, e5⟩
    · exact q2.1 (of_decide_eq_false (hok _ e2))
    · exact q2.2.1 (of_decide_eq_true (hok _ e2)) e3
    · exact q2.2.2.1 c e3 e4 e2 e5
end NXR
