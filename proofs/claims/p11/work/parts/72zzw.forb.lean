/-! ANSWERS: what forbids a matter; safe places; what nobody may do -/
section AN6
variable {B : Int} {M X : MM} {p q r : Int32} {w : RW} {s : RS} {L : LWT}
theorem rngM {c mm : Nat} {dy : Int32} (hc : c < 10) (hm : mm < 64) (hd : 0 ≤ dy.toInt ∧ dy.toInt ≤ 30000) (x : Int32) : rng (rm (i32 mm) 8) (i32 c) (bcn x) dy := by
  have h2 := bcn_b x
  refine ⟨rm8 (by rw [i32_i (by omega)]; omega), ?_, by omega, hd⟩
  rw [i32_i (by omega)]
  omega
theorem dok_g (hg : GW B w) (hB : 0 ≤ B ∧ B ≤ 28000) : dOK w := ⟨hg.2.1, by have := hg.2.2.1; omega⟩
def fbm (L : LWT) (w : RW) (c : Nat) (m : Int32) : Int32 := bs (bear L 0 m (i32 c) (bcn (cl w c 1)) (w 2)) L.1
theorem c_forb {c mm N : Nat} {Q : Int32 → Prop} (hc : CW M 18 w s) (hw : WF w) (hL : LawC M 8 L) (hd : dOK w) (hcn : c < nC w) (hm : mm < 64) (hQ : Q (fbm L w c (i32 mm))) : W_Inquiry_forbidding (i32 c) (i32 mm) N M Q := by
  have hn := (nC_i hw).2.1
  unfold W_Inquiry_forbidding
  rw [c_known hc hcn hw, hc.1.2.2.1]
  exact sp_bearing hL (Or.inl rfl) (rngM (by omega) hm ⟨hd.1, by have := hd.2; omega⟩ (cl w c 1)) hQ
theorem r_forb {c mm N : Nat} {set : Int32} {Q : Int32 → MM → Prop} (hx : X.1 191 = w) (hL : LawR X L) (hn : V_m_clauses X = i32 L.1) (hw : WF w) (hd : dOK w) (hcn : c < nC w) (hm : mm < 64) (hQ : ∀ val, Q (fbm L w c (i32 mm) &&& set) (svM X val)) : W_m_forbidsNow set (i32 mm) (i32 c) N X Q := by
  have hn10 := (nC_i hw).2.1
  unfold W_m_forbidsNow W_m_forbidding
  have ek : knw X (i32 c) = bcn (cl w c 1) := by
    unfold knw
    rw [show V_m_of (i32 c) 1 X = cl w c 1 from of_row (i := 1) hx (by omega) (by omega)]
    rfl
  rw [hx, n2]
  refine sp_saying hL hn (by rw [ek]; exact rngM (by omega) hm ⟨hd.1, by have := hd.2; omega⟩ _) (fun val => ?_)
  rw [ek, bs_and (by have := hL.1; omega)]
  exact hQ val
/-- what a run over the law leaves -/
def SV (X X' : MM) : Prop := ∃ v, X' = svM X v
theorem SV_0 : SV X X := ⟨_, svM_id.symm⟩
theorem SV_s {X' : MM} {val : Nat → Int32} (h : SV X X') : SV X (svM X' val) := by
  obtain ⟨v, rfl⟩ := h
  exact ⟨val, svM_s⟩
theorem SV_x {X' : MM} (h : SV X X') (hx : X.1 191 = w) : X'.1 191 = w := by
  obtain ⟨v, rfl⟩ := h
  rw [← hx]
  funext j
  exact svM_n (by omega)
theorem SV_L {X' : MM} (h : SV X X') (hL : LawR X L) : LawR X' L := by
  obtain ⟨v, rfl⟩ := h
  exact LawR_sv hL v
theorem SV_c {X' : MM} {x : Int32} (h : SV X X') (hn : V_m_clauses X = x) : V_m_clauses X' = x := by
  obtain ⟨v, rfl⟩ := h
  unfold V_m_clauses at *
  rw [svM_n (by omega)]
  exact hn
theorem SV_e {X' : MM} (h : SV X X') : Eqo [(207, 207, none)] X X' := by
  obtain ⟨v, rfl⟩ := h
  intro c j hcj
  refine ⟨?_, rfl⟩
  by_cases e : c = 207
  · subst e
    exact absurd hcj (by simp [fpm])
  · exact svM_n e
/-- what the law and the world are on both sides -/
theorem CP_w (h : CP B M) : ∃ L, LawC M 8 L ∧ LawR M L ∧ V_m_clauses M = i32 L.1 ∧ CW M 18 (M.1 191) (M.2 196) ∧ GW B (M.1 191) := by
  obtain ⟨nc, hnc, hnc8, hncR⟩ := CP_n h
  obtain ⟨-, -, ⟨L, hL, hR, -, -⟩, ⟨hc, hg⟩, -⟩ := h
  refine ⟨L, hL, hR, ?_, hc, hg⟩
  rw [hncR, ← hnc8, hL.1]
def frP (L : LWT) (w : RW) (m c : Nat) : Bool := decide (fbm L w c (i32 m) &&& inF w (nC w) = 0)
def sfF (L : LWT) (w : RW) (c d : Nat) : Nat → Int32
  | 0 => -1
  | k + 1 => if sfF L w c d k = -1 then (if frP L w (8 * d + k) c = true then i32 k else -1) else sfF L w c d k
theorem sfF_m {c d : Nat} : ∀ k, sfF L w c d k = -1 ∨ ∃ j, j < k ∧ sfF L w c d k = i32 j
  | 0 => Or.inl rfl
  | k + 1 => by
    unfold sfF
    rcases sfF_m (c := c) (d := d) k with h | ⟨j, h1, h2⟩
    · rw [if_pos h]
      by_cases e : frP L w (8 * d + k) c = true
      · rw [if_pos e]; exact Or.inr ⟨k, by omega, rfl⟩
      · rw [if_neg e]; exact Or.inl rfl
    · by_cases e : sfF L w c d k = -1
      · rw [if_pos e]
        by_cases e2 : frP L w (8 * d + k) c = true
        · rw [if_pos e2]; exact Or.inr ⟨k, by omega, rfl⟩
        · rw [if_neg e2]; exact Or.inl rfl
      · rw [if_neg e]; exact Or.inr ⟨j, by omega, h2⟩
theorem sfF_k {c d k : Nat} (h : ¬ sfF L w c d k = -1) : ∀ n, k ≤ n → sfF L w c d n = sfF L w c d k := by
  intro n hn
  induction n with
  | zero => rw [show k = 0 by omega]
  | succ n ih =>
    by_cases e : k = n + 1
    · rw [e]
    · have := ih (by omega)
      show (if sfF L w c d n = -1 then _ else sfF L w c d n) = _
      rw [this, if_neg h]
theorem c_saf {c d N : Nat} {Q : Int32 → Prop} (hc : CW M 18 w s) (hw : WF w) (hL : LawC M 8 L) (hd : dOK w) (hcn : c < nC w) (hm : d < 8) (hQ : Q (sfF L w c d 8)) : W_Inquiry_firstFreePlace (i32 c) (i32 d) N M Q := by
  unfold W_Inquiry_firstFreePlace
  refine c_force hc hw ?_
  refine I_Inquiry_firstFreePlace_11 (i32 c) (i32 d) (inF w (nC w)) M Q (fun v => ∃ k, k ≤ 8 ∧ v = i32 k ∧ sfF L w c d k = -1) (fun N ih v hih hv => ?_) N _ ⟨0, by omega, rfl, rfl⟩
  obtain ⟨k, hk, rfl, h1⟩ := hv
  unfold B_Inquiry_firstFreePlace_11
  refine ⟨fun hl => ?_, fun hl => ?_⟩
  · have hk8 : k < 8 := (i32_lt (k := 8) (by omega) (by omega)).mp hl
    rw [show i32 d * 8 + i32 k = i32 (8 * d + k) by rw [show i32 d * 8 = i32 (d * 8) from i32_m d 8, i32_a, Nat.mul_comm]]
    refine c_forb hc hw hL hd hcn (by omega) ⟨fun a => ?_, fun a => ?_⟩
    · have e : sfF L w c d (k + 1) = i32 k := by
        unfold sfF
        rw [if_pos h1, if_pos (show frP L w (8 * d + k) c = true from decide_eq_true a)]
      rw [sfF_k (k := k + 1) (by rw [e]; exact i32_nm1 (by omega)) 8 (by omega), e] at hQ
      exact hQ
    · refine hih _ ⟨k + 1, by omega, i32_s k, ?_⟩
      unfold sfF
      rw [if_pos h1, if_neg (show ¬ frP L w (8 * d + k) c = true from fun e => a (of_decide_eq_true e))]
  · have : ¬ k < 8 := fun e => hl ((i32_lt (j := k) (k := 8) (by omega) (by omega)).mpr e)
    obtain rfl : k = 8 := by omega
    rw [h1] at hQ
    exact hQ
theorem r_saf {c d N : Nat} {Q : Int32 → MM → Prop} (hx : X.1 191 = w) (hL : LawR X L) (hn : V_m_clauses X = i32 L.1) (hw : WF w) (hd : dOK w) (hcn : c < nC w) (hm : d < 8) (hQ : ∀ X', SV X X' → Q (sfF L w c d 8) X') : W_m_safe_64 (i32 c) (i32 d) (inF w (nC w)) Q N 0 X := by
  refine I_m_safe_64 (i32 c) (i32 d) (inF w (nC w)) Q (fun v X' => ∃ k, k ≤ 8 ∧ v = i32 k ∧ sfF L w c d k = -1 ∧ SV X X') (fun N ih v X' hih hv => ?_) N _ _ ⟨0, by omega, rfl, rfl, SV_0⟩
  obtain ⟨k, hk, rfl, h1, hS⟩ := hv
  unfold B_m_safe_64
  refine ⟨fun hl => ?_, fun hl => ?_⟩
  · have hk8 : k < 8 := (i32_lt (k := 8) (by omega) (by omega)).mp hl
    rw [show (8 : Int32) * i32 d + i32 k = i32 (8 * d + k) by rw [show (8 : Int32) * i32 d = i32 (8 * d) from i32_m 8 d, i32_a]]
    refine r_forb (SV_x hS hx) (SV_L hS hL) (SV_c hS hn) hw hd hcn (by omega) (fun val => ⟨fun a => ?_, fun a => ?_⟩)
    · have e : sfF L w c d (k + 1) = i32 k := by
        unfold sfF
        rw [if_pos h1, if_pos (show frP L w (8 * d + k) c = true from decide_eq_true a)]
      have := hQ _ (SV_s (val := val) hS)
      rw [sfF_k (k := k + 1) (by rw [e]; exact i32_nm1 (by omega)) 8 (by omega), e] at this
      exact this
    · refine hih _ _ ⟨k + 1, by omega, i32_s k, ?_, SV_s hS⟩
      unfold sfF
      rw [if_pos h1, if_neg (show ¬ frP L w (8 * d + k) c = true from fun e => a (of_decide_eq_true e))]
  · have : ¬ k < 8 := fun e => hl ((i32_lt (j := k) (k := 8) (by omega) (by omega)).mpr e)
    obtain rfl : k = 8 := by omega
    have := hQ _ hS
    rw [h1] at this
    exact this
theorem SV_CP {X' : MM} (h : CP B X) (hS : SV X X') : CP B X' := CP_eq h (SV_e hS) rfl
theorem a_safe (h : CP B M) (hB : 0 ≤ B ∧ B ≤ 28000) {N : Nat} : W_E_safe p q N M (fun y => ∀ z N', W_m_safe p q N' (wj M 215 0 z) (fun b M2 => CP B M2 ∧ M2.1 190 0 = 0 ∧ y = b)) (fun ce => ∀ N', W_m_safe p q N' M (fun _ M2 => CP B M2 ∧ M2.1 190 0 = if ce = 2 then 1 else 2)) := by
  obtain ⟨L, hL, hR, hcl, hc, hg⟩ := CP_w h
  have hd := dok_g hg hB
  unfold W_E_safe
  refine s_cit hc (fun hp => s_idx (n := 8) rfl (fun hq => ?_) (fun hq N' => ?_)) (fun hp N' => ?_)
  · obtain ⟨c, rfl, hcn, hc10⟩ := okc_c hg.1 hp
    obtain ⟨d, hd8, rfl⟩ := lit_r (q := q) (n := 8) hq
    have e8 : ∀ Y : MM, V_m_noEight (i32 d) Y = 0 := fun Y => by rw [no8, decide_eq_true (show 0 ≤ (i32 d).toInt ∧ (i32 d).toInt < 8 from hq)]; rfl
    refine s_alive hc hg.1 hcn (fun ha => ?_) (fun ha N' => ?_)
    · refine c_saf hc hg.1 hL hd hcn hd8 (fun z N' => ?_)
      have k0 := CP_0 (CP_z h z) 0
      have e1 : V_m_noCitizen (i32 c) (wi (wj M 215 0 z) 190 0 0) = 0 := (noc_e (M := M) (M1 := wj M 215 0 z) rfl).trans (noc_1 hg.1 hp)
      have e2 : V_m_isAlive (i32 c) (wi (wj M 215 0 z) 190 0 0) = 1 := (al_e (M := M) (M1 := wj M 215 0 z) rfl).trans (al_1 hc10 ha)
      unfold W_m_safe W_m_throwsIf
      simp only [e1, e2, e8, e10, e10n, true_implies, false_implies, not_true_eq_false, not_false_eq_true, and_true, true_and, if_true]
      refine r_force hg.1 (w := M.1 191) rfl ?_
      refine r_saf (X := wi (wj M 215 0 z) 190 0 0) (w := M.1 191) rfl (show LawR _ L from hR) (show V_m_clauses _ = i32 L.1 from hcl) hg.1 hd hcn hd8 (fun X' hS => ⟨SV_CP k0 hS, ?_, rfl⟩)
      rw [eq1 (SV_e hS) (b := 190) (k := 0) rfl, wi_1e]
    · unfold W_m_safe W_m_throwsIf
      simp only [noc_1 hg.1 hp, e8, al_0 hc10 ha, e10, e10n, true_implies, false_implies, not_true_eq_false, not_false_eq_true, and_true, true_and, if_true]
      exact CP_t h 2 (fun e => e)
  · have e8 : ∀ Y : MM, V_m_noEight q Y = 1 := fun Y => by rw [no8, decide_eq_false (show ¬ (0 ≤ q.toInt ∧ q.toInt < 8) from hq)]; rfl
    unfold W_m_safe W_m_throwsIf
    simp only [noc_1 hg.1 hp, e8, e10, e10n, true_implies, false_implies, not_true_eq_false, not_false_eq_true, and_true, true_and, if_true]
    exact CP_t h 1 (fun e => e)
  · unfold W_m_safe W_m_throwsIf
    simp only [noc_0 hg.1 hp, e10, e10n, true_implies, false_implies, not_true_eq_false, not_false_eq_true, and_true, true_and, if_true]
    exact CP_t h 1 (fun e => e)
end AN6
