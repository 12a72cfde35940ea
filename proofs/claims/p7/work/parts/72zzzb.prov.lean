/-! ANSWERS: what provokes one -/
section AN11
variable {B : Int} {M X : MM} {p q r : Int32} {w : RW} {s : RS} {L : LWT}
def hmt (w : RW) (c k : Nat) : Nat := ni (cl w c (7 + k))
theorem hmt_e {c k : Nat} (h : WFc w c) (hk : k < len w c) : cl w c (7 + k) = i32 (hmt w c k) ∧ hmt w c k < 64 := by
  obtain ⟨hl, l1, l6⟩ := len_e h
  obtain ⟨m1, m2⟩ := h.2.2.2.2.2 k (by omega) (by rw [hl, i32_i (by omega)]; omega)
  obtain ⟨mm, hmm, em⟩ := lit_r (q := cl w c (7 + k)) (n := 64) (by omega)
  unfold hmt
  rw [em, ni_i (by omega)]
  exact ⟨rfl, hmm⟩
def wth (L : LWT) (w : RW) (c k : Nat) : Int32 := if fbm L w c (i32 (hmt w c k)) &&& inF w (nC w) = 0 then w (10 + hmt w c k / 8) else -(w (10 + hmt w c k / 8))
theorem c_wth {c k N : Nat} {Q : Int32 → Prop} (hc : CW M 18 w s) (hw : WF w) (hL : LawC M 8 L) (hd : dOK w) (hcn : c < nC w) (hk : k < len w c) (hQ : Q (wth L w c k)) : W_Inquiry_worthOf (i32 c) (i32 k) N M Q := by
  have h10 := (nC_i hw).2.1
  obtain ⟨hl, l1, l6⟩ := len_e (hw.2.2.2 c hcn)
  obtain ⟨em, hm⟩ := hmt_e (hw.2.2.2 c hcn) hk
  have hcc := hc.2.2.2.1 c hcn
  have eM : V_World_matterAt 18 (i32 c) (i32 k) M = i32 (hmt w c k) := by
    unfold V_World_matterAt
    rw [show ni (i32 c * 6 + i32 k) = 6 * c + k by rw [show i32 c * 6 = i32 (c * 6) from i32_m c 6, i32_a, ni_i (by omega)]; omega]
    exact (hcc.2.2.2.2.2.2.1 k (by omega) (by rw [hl, i32_i (by omega)]; omega)).trans em
  unfold W_Inquiry_worthOf
  rw [ni_i (show c < 2147483648 by omega), show M.1 24 c = i32 (len w c) from hcc.2.2.2.2.1.trans hl, eM, show (i32 (hmt w c k) / 8 : Int32) = i32 (hmt w c k / 8) from i32_d (y := 8) (by omega) (by omega), ni_i (show hmt w c k / 8 < 2147483648 by omega), show M.1 27 (hmt w c k / 8) = w (10 + hmt w c k / 8) from hc.2.1 _ (by omega)]
  refine ⟨fun a => absurd a (by rw [lt_lit, i32_i (by omega)]; show ¬ ((k : Int) < 0); omega), fun _ => ⟨fun _ => ?_, fun hb => absurd ((i32_lt (by omega) (by omega)).mpr hk) hb⟩⟩
  unfold W_Inquiry_forbiddenTo
  refine c_forb hc hw hL hd hcn hm (c_force hc hw ⟨fun a => ?_, fun a => ?_⟩)
  · unfold wth at hQ
    rw [if_pos a] at hQ
    exact hQ
  · unfold wth at hQ
    rw [if_neg a] at hQ
    exact hQ
theorem r_wth {c k N : Nat} {Q : Int32 → MM → Prop} (hx : X.1 191 = w) (hL : LawR X L) (hn : V_m_clauses X = i32 L.1) (hw : WF w) (hd : dOK w) (hcn : c < nC w) (hk : k < len w c) (hQ : ∀ X', SV X X' → Q (wth L w c k) X') : W_m_worthOf (i32 c) (i32 k) N X Q := by
  have h10 := (nC_i hw).2.1
  obtain ⟨hl, l1, l6⟩ := len_e (hw.2.2.2 c hcn)
  obtain ⟨em, hm⟩ := hmt_e (hw.2.2.2 c hcn) hk
  unfold W_m_worthOf
  rw [show V_m_of (i32 c) (7 + i32 k) X = i32 (hmt w c k) from by rw [show (7 : Int32) + i32 k = i32 (7 + k) from i32_a 7 k]; exact (of_row (i := 7 + k) hx (by omega) (by omega)).trans em, show (i32 (hmt w c k) / 8 : Int32) = i32 (hmt w c k / 8) from i32_d (y := 8) (by omega) (by omega), show (10 : Int32) + i32 (hmt w c k / 8) = i32 (10 + hmt w c k / 8) from i32_a 10 _, ni_i (show 10 + hmt w c k / 8 < 2147483648 by omega), hx]
  refine r_force hw hx (r_forb hx hL hn hw hd hcn hm (fun val => ⟨fun a => ?_, fun a => ?_⟩))
  · have := hQ _ (SV_s (val := val) SV_0)
    unfold wth at this
    rw [if_pos a] at this
    exact this
  · have := hQ _ (SV_s (val := val) SV_0)
    unfold wth at this
    rw [if_neg a] at this
    exact this
def mwF (L : LWT) (w : RW) (c : Nat) (but : Int32) : Nat → Option Nat
  | 0 => none
  | k + 1 => if i32 k = but then mwF L w c but k else match mwF L w c but k with
    | none => some k
    | some b => if wth L w c b < wth L w c k then some k else some b
theorem mwF_b {c : Nat} {but : Int32} : ∀ k b, mwF L w c but k = some b → b < k
  | 0, b, h => by cases h
  | k + 1, b, h => by
    unfold mwF at h
    by_cases e : i32 k = but
    · rw [if_pos e] at h
      have := mwF_b k b h
      omega
    · rw [if_neg e] at h
      cases hm : mwF L w c but k with
      | none => rw [hm] at h; cases h; omega
      | some b' =>
        rw [hm] at h
        have hb := mwF_b k b' hm
        dsimp only at h
        by_cases e2 : wth L w c b' < wth L w c k
        · rw [if_pos e2] at h; cases h; omega
        · rw [if_neg e2] at h; cases h; omega
def obi (o : Option Nat) : Int32 := match o with
  | none => -1
  | some b => i32 b
theorem c_mw {c N : Nat} {but : Int32} {Q : Int32 → Prop} (hc : CW M 18 w s) (hw : WF w) (hL : LawC M 8 L) (hd : dOK w) (hcn : c < nC w) (hQ : Q (obi (mwF L w c but (len w c)))) : W_Inquiry_mostWorth (i32 c) but N M Q := by
  have h10 := (nC_i hw).2.1
  obtain ⟨hl, l1, l6⟩ := len_e (hw.2.2.2 c hcn)
  have hcc := hc.2.2.2.1 c hcn
  unfold W_Inquiry_mostWorth
  refine I_Inquiry_mostWorth_5 (i32 c) but M Q (fun v3 v4 => ∃ k, k ≤ len w c ∧ v4 = i32 k ∧ v3 = obi (mwF L w c but k)) (fun N ih v3 v4 hih hv => ?_) N _ _ ⟨0, by omega, rfl, rfl⟩
  obtain ⟨k, hk, rfl, rfl⟩ := hv
  unfold B_Inquiry_mostWorth_5
  rw [ni_i (by omega), show M.1 24 c = i32 (len w c) from hcc.2.2.2.2.1.trans hl, i32_lt (by omega) (by omega)]
  refine ⟨fun hlt => ?_, fun hlt => ?_⟩
  · have nx : ih (obi (mwF L w c but (k + 1))) (i32 k + 1) := hih _ _ ⟨k + 1, by omega, i32_s k, rfl⟩
    unfold mwF at nx
    refine ⟨fun a => ?_, fun a => ?_⟩
    · rw [if_pos a] at nx; exact nx
    · rw [if_neg a] at nx
      cases hm : mwF L w c but k with
      | none =>
        rw [hm] at nx
        exact ⟨fun _ => nx, fun hb => absurd rfl hb⟩
      | some b =>
        rw [hm] at nx
        have hb := mwF_b k b hm
        refine ⟨fun e => absurd e (i32_nm1 (by omega)), fun _ => ?_⟩
        refine c_wth hc hw hL hd hcn hlt (c_wth hc hw hL hd hcn (by omega) ⟨fun g => ?_, fun g => ?_⟩)
        · dsimp only at nx
          rw [if_pos g] at nx
          exact nx
        · dsimp only at nx
          rw [if_neg g] at nx
          exact nx
  · obtain rfl : k = len w c := by omega
    exact hQ
theorem r_mw {c N : Nat} {but : Int32} {Q : Int32 → MM → Prop} (hx : X.1 191 = w) (hL : LawR X L) (hn : V_m_clauses X = i32 L.1) (hw : WF w) (hd : dOK w) (hcn : c < nC w) (hQ : ∀ X', SV X X' → Q (obi (mwF L w c but (len w c))) X') : W_m_worthiest (i32 c) but N X Q := by
  have h10 := (nC_i hw).2.1
  obtain ⟨hl, l1, l6⟩ := len_e (hw.2.2.2 c hcn)
  unfold W_m_worthiest
  refine I_m_worthiest_5 (i32 c) but Q (fun v3 v4 X' => ∃ k, k ≤ len w c ∧ v4 = i32 k ∧ v3 = obi (mwF L w c but k) ∧ SV X X') (fun N ih v3 v4 X' hih hv => ?_) N _ _ _ ⟨0, by omega, rfl, rfl, SV_0⟩
  obtain ⟨k, hk, rfl, rfl, hS⟩ := hv
  unfold B_m_worthiest_5
  have hx' := SV_x hS hx
  rw [show V_m_of (i32 c) 5 X' = i32 (len w c) from (of_row (i := 5) hx' (by omega) (by omega)).trans hl, i32_lt (by omega) (by omega)]
  refine ⟨fun hlt => ?_, fun hlt => ?_⟩
  · have nx : ∀ X2, SV X X2 → ih (obi (mwF L w c but (k + 1))) (i32 k + 1) X2 := fun X2 h2 => hih _ _ _ ⟨k + 1, by omega, i32_s k, rfl, h2⟩
    unfold mwF at nx
    refine ⟨fun a => ?_, fun a => ?_⟩
    · have := nx _ hS
      rw [if_pos a] at this; exact this
    · cases hm : mwF L w c but k with
      | none =>
        have := nx _ hS
        rw [if_neg a, hm] at this
        exact ⟨fun _ => this, fun hb => absurd (by decide) hb⟩
      | some b =>
        have hb := mwF_b k b hm
        refine ⟨fun e => absurd e (by show ¬ i32 b < 0; rw [lt_lit, i32_i (by omega)]; show ¬ ((b : Int) < 0); omega), fun _ => ?_⟩
        refine r_wth hx' (SV_L hS hL) (SV_c hS hn) hw hd hcn hlt (fun X2 hS2 => ?_)
        have hS2' : SV X X2 := by
          obtain ⟨v, rfl⟩ := hS2
          exact SV_s hS
        refine r_wth (SV_x hS2' hx) (SV_L hS2' hL) (SV_c hS2' hn) hw hd hcn (by omega) (fun X3 hS3 => ?_)
        have hS3' : SV X X3 := by
          obtain ⟨v, rfl⟩ := hS3
          exact SV_s hS2'
        have := nx _ hS3'
        rw [if_neg a, hm] at this
        dsimp only at this
        refine ⟨fun g => ?_, fun g => ?_⟩
        · rw [if_pos g] at this; exact this
        · rw [if_neg g] at this; exact this
  · obtain rfl : k = len w c := by omega
    exact hQ _ hS
def prvF (L : LWT) (w : RW) (c : Nat) (b : Int32) : Int32 := match (if b = 0 then mwF L w c (-1) (len w c) else mwF L w c (obi (mwF L w c (-1) (len w c))) (len w c)) with
  | none => 0
  | some k => wth L w c k
theorem mw_1 {c : Nat} (h : 1 ≤ len w c) (hl : len w c ≤ 6) : ∃ k, mwF L w c (-1) (len w c) = some k ∧ k < len w c := by
  have key : ∀ n, 1 ≤ n → n ≤ 6 → ∃ k, mwF L w c (-1) n = some k := by
    intro n
    induction n with
    | zero => intro h; omega
    | succ n ih =>
      intro _ h6
      unfold mwF
      rw [if_neg (i32_nm1 (by omega))]
      cases hm : mwF L w c (-1) n with
      | none => exact ⟨n, rfl⟩
      | some b =>
        dsimp only
        by_cases e : wth L w c b < wth L w c n
        · rw [if_pos e]; exact ⟨n, rfl⟩
        · rw [if_neg e]; exact ⟨b, rfl⟩
  obtain ⟨k, hk⟩ := key _ h hl
  exact ⟨k, hk, mwF_b _ _ hk⟩
theorem a_provoked (h : CP B M) (hB : 0 ≤ B ∧ B ≤ 28000) {N : Nat} : W_E_provoked p q N M (fun y => ∀ z N', W_m_provoked p q N' (wj M 215 0 z) (fun b M2 => CP B M2 ∧ M2.1 190 0 = 0 ∧ y = b)) (fun ce => ∀ N', W_m_provoked p q N' M (fun _ M2 => CP B M2 ∧ M2.1 190 0 = if ce = 2 then 1 else 2)) := by
  obtain ⟨L, hL, hR, hcl, hc, hg⟩ := CP_w h
  have hd := dok_g hg hB
  unfold W_E_provoked
  refine s_cit hc (fun hp => ?_) (fun hp N' => ?_)
  · obtain ⟨c, rfl, hcn, hc10⟩ := okc_c hg.1 hp
    obtain ⟨hl, l1, l6⟩ := len_e (hg.1.2.2.2 c hcn)
    refine s_alive hc hg.1 hcn (fun ha => ?_) (fun ha N' => ?_)
    · obtain ⟨k0, hk0, hk0l⟩ := mw_1 (L := L) l1 l6
      have ref : ∀ (y : Int32), y = prvF L (M.1 191) c q → ∀ z N', W_m_provoked (i32 c) q N' (wj M 215 0 z) (fun b M2 => CP B M2 ∧ M2.1 190 0 = 0 ∧ y = b) := by
        intro y hy z N'
        have kk := CP_0 (CP_z h z) 0
        have e1 : V_m_noCitizen (i32 c) (wi (wj M 215 0 z) 190 0 0) = 0 := (noc_e (M := M) (M1 := wj M 215 0 z) rfl).trans (noc_1 hg.1 hp)
        have e2 : V_m_isAlive (i32 c) (wi (wj M 215 0 z) 190 0 0) = 1 := (al_e (M := M) (M1 := wj M 215 0 z) rfl).trans (al_1 hc10 ha)
        have fin : ∀ x X', SV (wi (wj M 215 0 z) 190 0 0) X' → y = x → CP B X' ∧ X'.1 190 0 = 0 ∧ y = x := fun x X' hS hx => ⟨SV_CP kk hS, by rw [eq1 (SV_e hS) (b := 190) (k := 0) rfl, wi_1e], hx⟩
        have rL : ∀ X', SV (wi (wj M 215 0 z) 190 0 0) X' → X'.1 191 = M.1 191 ∧ LawR X' L ∧ V_m_clauses X' = i32 L.1 := fun X' hS => ⟨SV_x hS rfl, SV_L hS (show LawR _ L from hR), SV_c hS (show V_m_clauses _ = i32 L.1 from hcl)⟩
        have tr : ∀ X1 X2, SV (wi (wj M 215 0 z) 190 0 0) X1 → SV X1 X2 → SV (wi (wj M 215 0 z) 190 0 0) X2 := fun X1 X2 h1 h2 => by
          obtain ⟨v, rfl⟩ := h2
          exact SV_s h1
        unfold prvF at hy
        unfold W_m_provoked W_m_throwsIf
        simp only [e1, e2, e10, e10n, true_implies, false_implies, not_true_eq_false, not_false_eq_true, and_true, true_and, if_true]
        obtain ⟨x0, xL, xc⟩ := rL _ SV_0
        refine r_mw x0 xL xc hg.1 hd hcn (fun X1 h1 => ⟨fun b0 => ?_, fun b0 => ?_⟩)
        · rw [if_pos b0, hk0] at hy
          rw [hk0]
          obtain ⟨x0, xL, xc⟩ := rL _ h1
          refine ⟨fun e => absurd e (by show ¬ i32 k0 < 0; rw [lt_lit, i32_i (by omega)]; show ¬ ((k0 : Int) < 0); omega), fun _ => r_wth x0 xL xc hg.1 hd hcn hk0l (fun X2 h2 => fin _ _ (tr _ _ h1 h2) hy)⟩
        · rw [if_neg b0] at hy
          obtain ⟨x0, xL, xc⟩ := rL _ h1
          refine r_mw x0 xL xc hg.1 hd hcn (fun X2 h2 => ?_)
          have h2' := tr _ _ h1 h2
          obtain ⟨x0, xL, xc⟩ := rL _ h2'
          cases hm : mwF L (M.1 191) c (obi (mwF L (M.1 191) c (-1) (len (M.1 191) c))) (len (M.1 191) c) with
          | none =>
            rw [hm] at hy
            exact ⟨fun _ => fin _ _ h2' hy, fun hb => absurd (by decide) hb⟩
          | some b =>
            rw [hm] at hy
            have hb := mwF_b _ _ hm
            exact ⟨fun e => absurd e (by show ¬ i32 b < 0; rw [lt_lit, i32_i (by omega)]; show ¬ ((b : Int) < 0); omega), fun _ => r_wth x0 xL xc hg.1 hd hcn hb (fun X3 h3 => fin _ _ (tr _ _ h2' h3) hy)⟩
      refine c_mw hc hg.1 hL hd hcn ⟨fun b0 => ?_, fun b0 => ?_⟩
      · rw [hk0]
        refine c_wth hc hg.1 hL hd hcn hk0l (ref _ ?_)
        unfold prvF
        rw [if_pos b0, hk0]
      · refine c_mw hc hg.1 hL hd hcn ?_
        cases hm : mwF L (M.1 191) c (obi (mwF L (M.1 191) c (-1) (len (M.1 191) c))) (len (M.1 191) c) with
        | none =>
          refine ⟨fun _ => ref _ ?_, fun hb => absurd rfl hb⟩
          unfold prvF
          rw [if_neg b0, hm]
        | some b =>
          have hb := mwF_b _ _ hm
          refine ⟨fun e => absurd e (i32_nm1 (by omega)), fun _ => c_wth hc hg.1 hL hd hcn hb (ref _ ?_)⟩
          unfold prvF
          rw [if_neg b0, hm]
    · unfold W_m_provoked W_m_throwsIf
      simp only [noc_1 hg.1 hp, al_0 hc10 ha, e10, e10n, true_implies, false_implies, not_true_eq_false, not_false_eq_true, and_true, true_and, if_true]
      exact CP_t h 2 (fun e => e)
  · unfold W_m_provoked W_m_throwsIf
    simp only [noc_0 hg.1 hp, e10, e10n, true_implies, false_implies, not_true_eq_false, not_false_eq_true, and_true, true_and, if_true]
    exact CP_t h 1 (fun e => e)
end AN11
