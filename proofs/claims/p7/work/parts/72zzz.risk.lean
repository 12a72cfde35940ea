/-! ANSWERS: the risk, where a habit would better start -/
section AN9
variable {B : Int} {M X : MM} {p q r : Int32} {w : RW} {s : RS} {L : LWT}
/-- what forbids one's matter j days later, with k days gone -/
def fbd (L : LWT) (w : RW) (c j k : Nat) : Int32 := bs (bear L 0 (md w c j) (i32 c) (bcn (cl w c 1)) (w 2 + i32 k)) L.1
def rskF (L : LWT) (w : RW) (c l : Nat) : Nat → Nat
  | 0 => 0
  | n + 1 => rskF L w c l n + (if ¬ (fbd L w c (l + n) n &&& inF w (nC w) = 0) ∧ fbd L w c (l + n) n &&& cl w c 1 = 0 then 1 else 0)
theorem rskF_b {c l : Nat} : ∀ n, rskF L w c l n ≤ n
  | 0 => Nat.le_refl _
  | n + 1 => by
    have := rskF_b (c := c) (l := l) n
    unfold rskF
    split <;> omega
theorem dy_k (hd : dOK w) {k : Nat} (hk : k ≤ 60) : 0 ≤ (w 2 + i32 k).toInt ∧ (w 2 + i32 k).toInt ≤ 30000 := by
  obtain ⟨h1, h2⟩ := hd
  rw [i32_add (by rw [i32_i (by omega)]; omega) (by rw [i32_i (by omega)]; omega), i32_i (by omega)]
  omega
theorem c_fore {c l n N : Nat} {kn : Int32} {Q : MM → Prop} (hc : CW M 18 w s) (hw : WF w) (hL : LawC M 8 L) (hd : dOK w) (hcn : c < nC w) (hn : n ≤ 60) (hl : l < 1000) (hk : kn = bcn (cl w c 1)) (hQ : ∀ M', (∀ k, k < n → M'.1 170 k = fbd L w c (l + k) k) → Eqo [(170, 170, none)] M M' → Q M') : W_Outlook_foresee (i32 c) (i32 l) kn (i32 n) N M Q := by
  have h10 := (nC_i hw).2.1
  unfold W_Outlook_foresee
  refine I_Outlook_foresee_3 (i32 c) (i32 l) kn (i32 n) Q (fun v M' => ∃ k, k ≤ n ∧ v = i32 k ∧ (∀ j, j < k → M'.1 170 j = fbd L w c (l + j) j) ∧ Eqo [(170, 170, none)] M M') (fun N ih v M' hih hv => ?_) N _ _ ⟨0, by omega, rfl, fun j hj => by omega, eqo_rf M⟩
  obtain ⟨k, hkn, rfl, h1, h2⟩ := hv
  unfold B_Outlook_foresee_3
  rw [i32_lt (by omega) (by omega)]
  refine ⟨fun hlt => ⟨fun _ => ?_, fun hb => absurd ((i32_lt (k := 60) (by omega) (by omega)).mpr (by omega)) hb⟩, fun hlt => ?_⟩
  · have hc' := CW_eq hc h2 rfl
    rw [i32_a, c_ahead hc' hw hcn (by omega), hc'.1.2.2.1, hk]
    refine sp_bearing (LawC_eq hL h2 rfl) (Or.inl rfl) (rngD (hw.2.2.2 c hcn) (by omega) (dy_k hd (by omega)) (cl w c 1)) ?_
    rw [ni_i (by omega)]
    refine hih _ _ ⟨k + 1, by omega, i32_s k, fun j hj => ?_, eqo_wi (i := 0) h2 rfl (Or.inl rfl)⟩
    by_cases e : j = k
    · rw [e, wi_1e]; rfl
    · rw [wi_1n (by omega)]; exact h1 j (by omega)
  · obtain rfl : k = n := by omega
    exact hQ _ h1 h2
theorem c_rdays {c l n N : Nat} {Q : Int32 → Prop} (hn : n ≤ 60) (h1 : ∀ k, k < n → M.1 170 k = fbd L w c (l + k) k) (hQ : Q (i32 (rskF L w c l n))) : W_Outlook_riskyDays (i32 n) (inF w (nC w)) (cl w c 1) N M Q := by
  unfold W_Outlook_riskyDays
  refine I_Outlook_riskyDays_6 (i32 n) (inF w (nC w)) (cl w c 1) M Q (fun v4 v5 => ∃ k, k ≤ n ∧ v5 = i32 k ∧ v4 = i32 (rskF L w c l k)) (fun N ih v4 v5 hih hv => ?_) N _ _ ⟨0, by omega, rfl, rfl⟩
  obtain ⟨k, hkn, rfl, rfl⟩ := hv
  unfold B_Outlook_riskyDays_6
  rw [i32_lt (by omega) (by omega), ni_i (by omega)]
  refine ⟨fun hlt => ⟨fun _ => ?_, fun hb => absurd ((i32_lt (k := 60) (by omega) (by omega)).mpr (by omega)) hb⟩, fun hlt => ?_⟩
  · have nx : ih (i32 (rskF L w c l (k + 1))) (i32 k + 1) := hih _ _ ⟨k + 1, by omega, i32_s k, rfl⟩
    unfold rskF at nx
    rw [h1 k hlt]
    refine ⟨fun a => ?_, fun a => ⟨fun b => ?_, fun b => ?_⟩⟩
    · rw [if_neg (fun h => h.1 a), Nat.add_zero] at nx; exact nx
    · rw [if_pos ⟨a, b⟩, ← i32_s] at nx; exact nx
    · rw [if_neg (fun h => b h.2), Nat.add_zero] at nx; exact nx
  · obtain rfl : k = n := by omega
    exact hQ
theorem c_rsk {c l n N : Nat} {Q : Int32 → MM → Prop} (hc : CW M 18 w s) (hw : WF w) (hL : LawC M 8 L) (hd : dOK w) (hcn : c < nC w) (hn : n ≤ 60) (hl : l < 1000) (hQ : ∀ M', Eqo [(170, 170, none)] M M' → Q (i32 (rskF L w c l n)) M') : W_Outlook_riskFrom (i32 c) (i32 l) (i32 n) N M Q := by
  have h10 := (nC_i hw).2.1
  unfold W_Outlook_riskFrom
  refine c_fore hc hw hL hd hcn hn hl (c_known hc hcn hw) (fun M2 h1 h2 => ?_)
  have hc' := CW_eq hc h2 rfl
  refine c_force hc' hw ?_
  rw [ni_i (by omega), show M2.1 19 c = cl w c 1 from (hc'.2.2.2.1 c hcn).1]
  exact c_rdays hn h1 (hQ M2 h2)
theorem r_fbd {c j N : Nat} {set dy : Int32} {Q : Int32 → MM → Prop} (hx : X.1 191 = w) (hL : LawR X L) (hn : V_m_clauses X = i32 L.1) (hw : WF w) (hdy : 0 ≤ dy.toInt ∧ dy.toInt ≤ 30000) (hcn : c < nC w) (hQ : ∀ val, Q (bs (bear L 0 (md w c j) (i32 c) (bcn (cl w c 1)) dy) L.1 &&& set) (svM X val)) : W_m_forbidding set (md w c j) (i32 c) dy N X Q := by
  have hn10 := (nC_i hw).2.1
  unfold W_m_forbidding
  have ek : knw X (i32 c) = bcn (cl w c 1) := by
    unfold knw
    rw [show V_m_of (i32 c) 1 X = cl w c 1 from of_row (i := 1) hx (by omega) (by omega)]
    rfl
  refine sp_saying hL hn (by rw [ek]; exact rngD (hw.2.2.2 c hcn) (by omega) hdy _) (fun val => ?_)
  rw [ek, bs_and (by have := hL.1; omega)]
  exact hQ val
theorem r_rsk {c l n N : Nat} {Q : Int32 → MM → Prop} (hx : X.1 191 = w) (hL : LawR X L) (hn' : V_m_clauses X = i32 L.1) (hw : WF w) (hd : dOK w) (hcn : c < nC w) (hn : n ≤ 60) (hl : l < 1000) (hQ : ∀ X', SV X X' → Q (i32 (rskF L w c l n)) X') : W_m_riskOf (i32 c) (i32 n) (i32 l) N X Q := by
  have h10 := (nC_i hw).2.1
  unfold W_m_riskOf
  refine r_force hw hx ?_
  refine I_m_riskOf_12 (i32 c) (i32 n) (i32 l) (inF w (nC w)) Q (fun v5 v6 X' => ∃ k, k ≤ n ∧ v6 = i32 k ∧ v5 = i32 (rskF L w c l k) ∧ SV X X') (fun N ih v5 v6 X' hih hv => ?_) N _ _ _ ⟨0, by omega, rfl, rfl, SV_0⟩
  obtain ⟨k, hkn, rfl, rfl, hS⟩ := hv
  unfold B_m_riskOf_12
  have hx' := SV_x hS hx
  rw [i32_lt (by omega) (by omega), i32_a, v_does (by omega) (by rw [hx']; exact hw.2.2.2 c hcn) (by omega), hx', n2]
  refine ⟨fun hlt => ?_, fun hlt => ?_⟩
  · have nx : ∀ X2, SV X X2 → ih (i32 (rskF L w c l (k + 1))) (i32 k + 1) X2 := fun X2 h2 => hih _ _ _ ⟨k + 1, by omega, i32_s k, rfl, h2⟩
    unfold rskF at nx
    refine r_fbd hx' (SV_L hS hL) (SV_c hS hn') hw (dy_k hd (by omega)) hcn (fun val => ⟨fun a => ?_, fun a => ?_⟩)
    · have := nx _ (SV_s (val := val) hS)
      rw [if_neg (fun h => h.1 a)] at this
      rw [Int32.add_zero]
      exact this
    · have hS2 := SV_s (val := val) hS
      have hx2 := SV_x hS2 hx
      rw [show V_m_of (i32 c) 1 (svM X' val) = cl w c 1 from of_row (i := 1) hx2 (by omega) (by omega)]
      refine r_fbd hx2 (SV_L hS2 hL) (SV_c hS2 hn') hw (dy_k hd (by omega)) hcn (fun val2 => ⟨fun b => ?_, fun b => ?_⟩)
      · have := nx _ (SV_s (val := val2) hS2)
        rw [if_pos ⟨a, b⟩, ← i32_s] at this
        exact this
      · have := nx _ (SV_s (val := val2) hS2)
        rw [if_neg (fun h => b h.2)] at this
        rw [Int32.add_zero]
        exact this
  · obtain rfl : k = n := by omega
    exact hQ _ hS
theorem a_risk (h : CP B M) (hB : 0 ≤ B ∧ B ≤ 28000) {N : Nat} : W_E_risk p q N M (fun y M1 => ∀ z N', W_m_risk p q N' (wj M1 215 0 z) (fun b M2 => CP B M2 ∧ M2.1 190 0 = 0 ∧ y = b)) (fun ce M1 => ∀ N', W_m_risk p q N' M1 (fun _ M2 => CP B M2 ∧ M2.1 190 0 = if ce = 2 then 1 else if ce = 0 then 2 else 3)) := by
  obtain ⟨L, hL, hR, hcl, hc, hg⟩ := CP_w h
  have hd := dok_g hg hB
  unfold W_E_risk
  refine s_cit hc (fun hp => s_num (fun hq => ?_) (fun hq N' => ?_)) (fun hp N' => ?_)
  · obtain ⟨c, rfl, hcn, hc10⟩ := okc_c hg.1 hp
    have hq' : 1 ≤ q.toInt ∧ q.toInt ≤ 60 := hq
    obtain ⟨n, hn, rfl⟩ := lit_r (q := q) (n := 61) (by omega)
    have e3 : ∀ Y : MM, V_m_noDays (i32 n) Y = 0 := fun Y => by rw [noD, decide_eq_true hq]; rfl
    refine s_alive hc hg.1 hcn (fun ha => ?_) (fun ha N' => ?_)
    · refine c_rsk (l := 0) hc hg.1 hL hd hcn (by omega) (by omega) (fun M1 e1 z N' => ?_)
      have e2 := eqo_app e1 (eqo_z (z := z))
      have hz := CP_eq h e2 rfl
      have a1 := eqb e2 (lo := 191) (hi := 191) rfl (Nat.le_refl _) (Nat.le_refl _)
      have hRz : LawR (wi (wj M1 215 0 z) 190 0 0) L := LawR_eq hR (eqo_app e2 (eqo_1 (a := 190) (k := 0) (x := 0))) rfl
      have hcz : V_m_clauses (wi (wj M1 215 0 z) 190 0 0) = i32 L.1 := by
        unfold V_m_clauses at hcl ⊢
        rw [eq1 (eqo_app e2 (eqo_1 (a := 190) (k := 0) (x := 0))) (b := 190) (k := 15) rfl]
        exact hcl
      unfold W_m_risk W_m_throwsIf
      simp only [noc_e a1, al_e a1, noc_1 hg.1 hp, al_1 hc10 ha, e3, e10, e10n, true_implies, false_implies, not_true_eq_false, not_false_eq_true, and_true, true_and, if_true]
      refine r_rsk (l := 0) (w := M.1 191) (X := wi (wj M1 215 0 z) 190 0 0) a1 hRz hcz hg.1 hd hcn (by omega) (by omega) (fun X' hS => ⟨SV_CP (CP_0 hz 0) hS, ?_, rfl⟩)
      rw [eq1 (SV_e hS) (b := 190) (k := 0) rfl, wi_1e]
    · unfold W_m_risk W_m_throwsIf
      simp only [noc_1 hg.1 hp, al_0 hc10 ha, e3, e10, e10n, true_implies, false_implies, not_true_eq_false, not_false_eq_true, and_true, true_and, if_true]
      exact CP_t h 3 (fun e => e)
  · have e3 : ∀ Y : MM, V_m_noDays q Y = 1 := fun Y => by rw [noD, decide_eq_false hq]; rfl
    unfold W_m_risk W_m_throwsIf
    simp only [noc_1 hg.1 hp, e3, e10, e10n, true_implies, false_implies, not_true_eq_false, not_false_eq_true, and_true, true_and, if_true]
    exact CP_t h 2 (fun e => e)
  · unfold W_m_risk W_m_throwsIf
    simp only [noc_0 hg.1 hp, e10, e10n, true_implies, false_implies, not_true_eq_false, not_false_eq_true, and_true, true_and, if_true]
    exact CP_t h 1 (fun e => e)
/-- the best start of the first k -/
def btF (L : LWT) (w : RW) (c n : Nat) : Nat → Nat
  | 0 => 0
  | k + 1 => if rskF L w c (k + 1) n < rskF L w c (btF L w c n k) n then k + 1 else btF L w c n k
theorem btF_b {c n : Nat} : ∀ k, btF L w c n k ≤ k
  | 0 => Nat.le_refl _
  | k + 1 => by
    have := btF_b (c := c) (n := n) k
    unfold btF
    split <;> omega
theorem c_bet {c n N : Nat} {Q : Int32 → MM → Prop} (hc : CW M 18 w s) (hw : WF w) (hL : LawC M 8 L) (hd : dOK w) (hcn : c < nC w) (hn : n ≤ 60) (hQ : ∀ M', Eqo [(170, 170, none)] M M' → Q (i32 (btF L w c n (len w c - 1))) M') : W_Outlook_bestStart (i32 c) (i32 n) N M Q := by
  have h10 := (nC_i hw).2.1
  obtain ⟨hl, l1, l6⟩ := len_e (hw.2.2.2 c hcn)
  unfold W_Outlook_bestStart
  refine c_rsk (l := 0) hc hw hL hd hcn hn (by omega) (fun M2 e2 => ?_)
  refine I_Outlook_bestStart_14 (i32 c) (i32 n) Q (fun v3 v4 v5 M' => ∃ k, k + 1 ≤ len w c ∧ v5 = i32 (k + 1) ∧ v3 = i32 (btF L w c n k) ∧ v4 = i32 (rskF L w c (btF L w c n k) n) ∧ Eqo [(170, 170, none)] M M') (fun N ih v3 v4 v5 M' hih hv => ?_) N _ _ _ _ ⟨0, by omega, rfl, rfl, rfl, e2⟩
  obtain ⟨k, hk, rfl, rfl, rfl, h2⟩ := hv
  unfold B_Outlook_bestStart_14
  have hc' := CW_eq hc h2 rfl
  rw [ni_i (by omega), show M'.1 24 c = i32 (len w c) from (hc'.2.2.2.1 c hcn).2.2.2.2.1.trans hl, i32_lt (by omega) (by omega)]
  refine ⟨fun hlt => ?_, fun hlt => ?_⟩
  · refine c_rsk hc' hw (LawC_eq hL h2 rfl) hd hcn hn (by omega) (fun M5 e5 => ?_)
    have h5 := eqo_tr h2 (fun _ _ h => h) e5
    have nx : ih (i32 (btF L w c n (k + 1))) (i32 (rskF L w c (btF L w c n (k + 1)) n)) (i32 (k + 1) + 1) M5 := hih _ _ _ _ ⟨k + 1, by omega, i32_s (k + 1), rfl, rfl, h5⟩
    have b1 := rskF_b (L := L) (w := w) (c := c) (l := k + 1) n
    have b2 := rskF_b (L := L) (w := w) (c := c) (l := btF L w c n k) n
    rw [i32_lt (by omega) (by omega)]
    unfold btF at nx
    refine ⟨fun a => ?_, fun a => ?_⟩
    · rw [if_pos a] at nx; exact nx
    · rw [if_neg a] at nx; exact nx
  · obtain rfl : k = len w c - 1 := by omega
    exact hQ _ h2
theorem r_bet {c n N : Nat} {Q : Int32 → MM → Prop} (hx : X.1 191 = w) (hL : LawR X L) (hn' : V_m_clauses X = i32 L.1) (hw : WF w) (hd : dOK w) (hcn : c < nC w) (hn : n ≤ 60) (hQ : ∀ X', SV X X' → Q (i32 (btF L w c n (len w c - 1))) X') : W_m_better_58 (i32 c) (i32 n) Q N 0 1 X := by
  have h10 := (nC_i hw).2.1
  obtain ⟨hl, l1, l6⟩ := len_e (hw.2.2.2 c hcn)
  refine I_m_better_58 (i32 c) (i32 n) Q (fun v3 v4 X' => ∃ k, k + 1 ≤ len w c ∧ v4 = i32 (k + 1) ∧ v3 = i32 (btF L w c n k) ∧ SV X X') (fun N ih v3 v4 X' hih hv => ?_) N _ _ _ ⟨0, by omega, rfl, rfl, SV_0⟩
  obtain ⟨k, hk, rfl, rfl, hS⟩ := hv
  unfold B_m_better_58
  have hx' := SV_x hS hx
  rw [show V_m_of (i32 c) 5 X' = i32 (len w c) from (of_row (i := 5) hx' (by omega) (by omega)).trans hl, i32_lt (by omega) (by omega)]
  have bb := btF_b (L := L) (w := w) (c := c) (n := n) k
  refine ⟨fun hlt => ?_, fun hlt => ?_⟩
  · refine r_rsk hx' (SV_L hS hL) (SV_c hS hn') hw hd hcn hn (by omega) (fun X2 hS2 => ?_)
    have hS2' : SV X X2 := by
      obtain ⟨v, rfl⟩ := hS2
      exact SV_s hS
    refine r_rsk (SV_x hS2' hx) (SV_L hS2' hL) (SV_c hS2' hn') hw hd hcn hn (by omega) (fun X3 hS3 => ?_)
    have hS3' : SV X X3 := by
      obtain ⟨v, rfl⟩ := hS3
      exact SV_s hS2'
    have nx : ih (i32 (btF L w c n (k + 1))) (i32 (k + 1) + 1) X3 := hih _ _ _ ⟨k + 1, by omega, i32_s (k + 1), rfl, hS3'⟩
    have b1 := rskF_b (L := L) (w := w) (c := c) (l := k + 1) n
    have b2 := rskF_b (L := L) (w := w) (c := c) (l := btF L w c n k) n
    rw [i32_lt (by omega) (by omega)]
    unfold btF at nx
    refine ⟨fun a => ?_, fun a => ?_⟩
    · rw [if_pos a] at nx; exact nx
    · rw [if_neg a] at nx; exact nx
  · obtain rfl : k = len w c - 1 := by omega
    exact hQ _ hS
theorem a_better (h : CP B M) (hB : 0 ≤ B ∧ B ≤ 28000) {N : Nat} : W_E_better p q N M (fun y M1 => ∀ z N', W_m_better p q N' (wj M1 215 0 z) (fun b M2 => CP B M2 ∧ M2.1 190 0 = 0 ∧ y = b)) (fun ce M1 => ∀ N', W_m_better p q N' M1 (fun _ M2 => CP B M2 ∧ M2.1 190 0 = if ce = 2 then 1 else if ce = 0 then 2 else 3)) := by
  obtain ⟨L, hL, hR, hcl, hc, hg⟩ := CP_w h
  have hd := dok_g hg hB
  unfold W_E_better
  refine s_cit hc (fun hp => s_num (fun hq => ?_) (fun hq N' => ?_)) (fun hp N' => ?_)
  · obtain ⟨c, rfl, hcn, hc10⟩ := okc_c hg.1 hp
    have hq' : 1 ≤ q.toInt ∧ q.toInt ≤ 60 := hq
    obtain ⟨n, hn, rfl⟩ := lit_r (q := q) (n := 61) (by omega)
    have e3 : ∀ Y : MM, V_m_noDays (i32 n) Y = 0 := fun Y => by rw [noD, decide_eq_true hq]; rfl
    refine s_alive hc hg.1 hcn (fun ha => ?_) (fun ha N' => ?_)
    · refine c_bet hc hg.1 hL hd hcn (by omega) (fun M1 e1 z N' => ?_)
      have e2 := eqo_app e1 (eqo_z (z := z))
      have hz := CP_eq h e2 rfl
      have a1 := eqb e2 (lo := 191) (hi := 191) rfl (Nat.le_refl _) (Nat.le_refl _)
      have hRz : LawR (wi (wj M1 215 0 z) 190 0 0) L := LawR_eq hR (eqo_app e2 (eqo_1 (a := 190) (k := 0) (x := 0))) rfl
      have hcz : V_m_clauses (wi (wj M1 215 0 z) 190 0 0) = i32 L.1 := by
        unfold V_m_clauses at hcl ⊢
        rw [eq1 (eqo_app e2 (eqo_1 (a := 190) (k := 0) (x := 0))) (b := 190) (k := 15) rfl]
        exact hcl
      unfold W_m_better W_m_throwsIf
      simp only [noc_e a1, al_e a1, noc_1 hg.1 hp, al_1 hc10 ha, e3, e10, e10n, true_implies, false_implies, not_true_eq_false, not_false_eq_true, and_true, true_and, if_true]
      refine r_bet (w := M.1 191) (X := wi (wj M1 215 0 z) 190 0 0) a1 hRz hcz hg.1 hd hcn (by omega) (fun X' hS => ⟨SV_CP (CP_0 hz 0) hS, ?_, rfl⟩)
      rw [eq1 (SV_e hS) (b := 190) (k := 0) rfl, wi_1e]
    · unfold W_m_better W_m_throwsIf
      simp only [noc_1 hg.1 hp, al_0 hc10 ha, e3, e10, e10n, true_implies, false_implies, not_true_eq_false, not_false_eq_true, and_true, true_and, if_true]
      exact CP_t h 3 (fun e => e)
  · have e3 : ∀ Y : MM, V_m_noDays q Y = 1 := fun Y => by rw [noD, decide_eq_false hq]; rfl
    unfold W_m_better W_m_throwsIf
    simp only [noc_1 hg.1 hp, e3, e10, e10n, true_implies, false_implies, not_true_eq_false, not_false_eq_true, and_true, true_and, if_true]
    exact CP_t h 2 (fun e => e)
  · unfold W_m_better W_m_throwsIf
    simp only [noc_0 hg.1 hp, e10, e10n, true_implies, false_implies, not_true_eq_false, not_false_eq_true, and_true, true_and, if_true]
    exact CP_t h 1 (fun e => e)
end AN9
