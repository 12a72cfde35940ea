/-! ACTS: a republic is told -/
theorem lkM_e {M : MM} {a P b R n : Nat} : Eqo [(b, b, none)] M (lkM M a P b R n) := fun c j hc => by
  refine ⟨?_, rfl⟩
  show (if c = b ∧ R ≤ j ∧ j < R + n then M.1 a (P + (j - R)) else M.1 c j) = M.1 c j
  by_cases h : c = b ∧ R ≤ j ∧ j < R + n
  · obtain ⟨rfl, -⟩ := h
    exfalso
    unfold fpm at hc
    simp at hc
    rw [Nat.ble_eq_true_of_le (Nat.le_refl c)] at hc
    cases hc
  · rw [if_neg h]
theorem lkS_e {M : MM} {a P b R n : Nat} : Eqo [(b, b, none)] M (lkS M a P b R n) := fun c j hc => by
  refine ⟨rfl, ?_⟩
  show (if c = b ∧ R ≤ j ∧ j < R + n then M.2 a (P + (j - R)) else M.2 c j) = M.2 c j
  by_cases h : c = b ∧ R ≤ j ∧ j < R + n
  · obtain ⟨rfl, -⟩ := h
    exfalso
    unfold fpm at hc
    simp at hc
    rw [Nat.ble_eq_true_of_le (Nat.le_refl c)] at hc
    cases hc
  · rw [if_neg h]
abbrev fU : List (Nat × Nat × Option Nat) := [(190, 190, some 0), (190, 190, some 20), (190, 190, some 18), (190, 190, some 19), (190, 190, some 25)] ++ fq3
abbrev fRS : List (Nat × Nat × Option Nat) := ([(193, 193, none)] ++ [(198, 198, none)]) ++ (fU ++ ([(190, 190, some 23)] ++ ([(191, 191, none)] ++ [(190, 190, some 12)])))
abbrev fRB : List (Nat × Nat × Option Nat) := ([(193, 193, none)] ++ [(198, 198, none)]) ++ (fU ++ (([(190, 190, some 23)] ++ [(190, 190, some 0)]) ++ ([(191, 191, none)] ++ [(196, 196, none)])))
section AR
variable {f : BY} {n t N : Nat} {K V : Nat → Int32} {b e : Nat → Nat} {M : MM} {w : RW} {s : RS}
theorem r_rep {F : Nat} {C : Int32} {Q : Int32 → MM → Prop} (hb : BOK f n) (hn : n ≤ 400) (hT : TKS f n t K V b e) (hF : 400 < F) (hC : C < 1000) (hx : mx 0 (M.1 190 15) - 1 = C) (h18 : M.1 190 18 = i32 n) (h203 : ∀ j, j < n → M.1 203 j = (f j).toInt8.toInt32) (h191 : M.1 191 = w) (h196 : M.2 196 = s) (hw : WF w)
    (hQ1 : ∀ q j M', pRep K V (sz b e) C F (w, s) = (some q, j) → WKP w q.1 → ¬ w 1 = 12 → M'.1 191 = up1 q.1 1 (q.1 1 + 1) → M'.2 196 = q.2 → M'.1 190 23 = -1 → M'.1 190 12 = 0 → M'.1 190 0 = 0 → M'.1 190 18 = 0 → Eqo fRS M M' → Q (q.1 1 + 1) M')
    (hQ2 : ∀ M', ((∃ j, pRep K V (sz b e) C F (w, s) = (none, j) ∧ j ≤ t ∧ M'.1 190 23 = i32 (b j) ∧ M'.1 190 0 = 1) ∨ ((∃ q j, pRep K V (sz b e) C F (w, s) = (some q, j)) ∧ w 1 = 12 ∧ M'.1 190 23 = -1 ∧ M'.1 190 0 = 2)) → (∀ k, k < 388 → M'.1 191 k = w k) → (∀ c, c < 10 → M'.2 196 c = s c) → M'.1 190 18 = 0 → Eqo fRB M M' → Q 0 M') : W_m_republic N M Q := by
  unfold W_m_republic
  refine sp_likens (P := 0) (R := 0) (by omega) (by omega) (Or.inl (by decide)) ?_
  refine sp_likensS (P := 0) (R := 0) (by omega) (by omega) (Or.inl (by decide)) ?_
  have e4 : Eqo ([(193, 193, none)] ++ [(198, 198, none)]) M (lkS (lkM M 191 0 193 0 388) 196 0 198 0 10) := eqo_app lkM_e lkS_e
  have r193 : ∀ k, k < 388 → (lkS (lkM M 191 0 193 0 388) 196 0 198 0 10).1 193 k = w k := fun k hk => by
    show (lkM M 191 0 193 0 388).1 193 k = _
    unfold lkM
    dsimp only
    rw [if_pos (by omega), ← h191, show 0 + (k - 0) = k by omega]
  have r198 : ∀ c, c < 10 → (lkS (lkM M 191 0 193 0 388) 196 0 198 0 10).2 198 c = s c := fun c hc => by
    unfold lkS
    dsimp only
    rw [if_pos (by omega)]
    show M.2 196 (0 + (c - 0)) = _
    rw [h196, show 0 + (c - 0) = c by omega]
  generalize lkS (lkM M 191 0 193 0 388) 196 0 198 0 10 = M4 at *
  have back : ∀ (X : MM) (Q' : MM → Prop), (∀ k, k < 388 → X.1 193 k = w k) → (∀ c, c < 10 → X.2 198 c = s c) → (∀ M', (∀ k, k < 388 → M'.1 191 k = w k) → (∀ c, c < 10 → M'.2 196 c = s c) → Eqo ([(191, 191, none)] ++ [(196, 196, none)]) X M' → Q' M') → W_m_likens 193 0 191 0 N X (fun M17 => W_m_likensSeen 198 0 196 0 N M17 Q') := by
    intro X Q' x1 x2 x3
    refine sp_likens (P := 0) (R := 0) (by omega) (by omega) (Or.inl (by decide)) ?_
    refine sp_likensS (P := 0) (R := 0) (by omega) (by omega) (Or.inl (by decide)) ?_
    refine x3 _ (fun k hk => ?_) (fun c hc => ?_) (eqo_app lkM_e lkS_e)
    · show (lkM X 193 0 191 0 388).1 191 k = _
      unfold lkM
      dsimp only
      rw [if_pos (by omega), show 0 + (k - 0) = k by omega]
      exact x1 k hk
    · unfold lkS
      dsimp only
      rw [if_pos (by omega)]
      show X.2 198 (0 + (c - 0)) = _
      rw [show 0 + (c - 0) = c by omega]
      exact x2 c hc
  refine r_all0 (w := w) (s := s) hb hn hT hF hC (by rw [eq1 e4 (b := 190) (k := 15) rfl]; exact hx) (by rw [eq1 e4 (b := 190) (k := 18) rfl]; exact h18) (fun j hj => by rw [eqb e4 (lo := 203) (hi := 203) rfl (Nat.le_refl _) (Nat.le_refl _)]; exact h203 j hj) (by rw [eqb e4 (lo := 191) (hi := 191) rfl (Nat.le_refl _) (Nat.le_refl _)]; exact h191) (by rw [eqb2 e4 (lo := 196) (hi := 196) rfl (Nat.le_refl _) (Nat.le_refl _)]; exact h196) hw (fun r M6 hr e6 z18 z0 => ?_)
  have q193 : ∀ k, k < 388 → M6.1 193 k = w k := fun k hk => by rw [eqb e6 (lo := 193) (hi := 193) rfl (Nat.le_refl _) (Nat.le_refl _)]; exact r193 k hk
  have q198 : ∀ c, c < 10 → M6.2 198 c = s c := fun c hc => by rw [eqb2 e6 (lo := 198) (hi := 198) rfl (Nat.le_refl _) (Nat.le_refl _)]; exact r198 c hc
  have bb : ∀ (y z : Int32), (((∃ j, pRep K V (sz b e) C F (w, s) = (none, j) ∧ j ≤ t ∧ y = i32 (b j) ∧ z = 1) ∨ ((∃ q j, pRep K V (sz b e) C F (w, s) = (some q, j)) ∧ w 1 = 12 ∧ y = -1 ∧ z = 2))) → W_m_likens 193 0 191 0 N (wi (wi M6 190 23 y) 190 0 z) (fun M17 => W_m_likensSeen 198 0 196 0 N M17 (fun M19 => Q 0 M19)) := by
    intro y z hyz
    refine back _ _ (fun k hk => by rw [wi_1n (by omega), wi_1n (by omega)]; exact q193 k hk) (fun c hc => q198 c hc) (fun M' x1 x2 x3 => hQ2 M' ?_ x1 x2 ?_ (eqo_app e4 (eqo_app e6 (eqo_app (eqo_app eqo_1 eqo_1) x3))))
    · rw [eq1 x3 (b := 190) (k := 23) rfl, eq1 x3 (b := 190) (k := 0) rfl, wi_1e, wi_1n (by omega), wi_1e]
      exact hyz
    · rw [eq1 x3 (b := 190) (k := 18) rfl, wi_1n (by omega), wi_1n (by omega)]
      exact z18
  unfold W_m_throwsIf
  rcases hr with ⟨q, j, h1, h2, h3, h4, h5⟩ | ⟨j, h1, h2, h3, h4⟩
  · refine ⟨fun y => absurd y h2, fun _ => ⟨fun y => absurd y h2, fun _ => ?_⟩⟩
    refine ⟨fun _ => ⟨fun _ => ?_, fun y => absurd rfl y⟩, fun y => absurd rfl y⟩
    have e1 : (wi M6 190 23 (-1)).1 191 (ni 1) = w 1 := by
      rw [wi_1n (by omega), h3]
      exact h5.2.1
    rw [e1]
    refine ⟨fun h12 => ⟨fun y => absurd y (by decide), fun _ => ⟨fun y => absurd y (by decide), fun _ => ?_⟩⟩, fun h12 => ⟨fun _ => ⟨fun _ => ?_, fun y => absurd rfl y⟩, fun y => absurd rfl y⟩⟩
    · exact bb (-1) 2 (Or.inr ⟨⟨q, j, h1⟩, h12, rfl, rfl⟩)
    · have ev : (wi (wi (wi M6 190 23 (-1)) 191 (ni 1) (w 1 + 1)) 190 12 0).1 191 (ni 1) = q.1 1 + 1 := by
        rw [wi_1n (by omega), wi_1e, ← h5.2.1]
      show Q ((wi (wi (wi M6 190 23 (-1)) 191 (ni 1) ((wi M6 190 23 (-1)).1 191 (ni 1) + 1)) 190 12 0).1 191 (ni 1)) (wi (wi (wi M6 190 23 (-1)) 191 (ni 1) ((wi M6 190 23 (-1)).1 191 (ni 1) + 1)) 190 12 0)
      rw [e1, ev]
      refine hQ1 q j _ h1 h5 h12 ?_ ?_ ?_ wi_1e ?_ ?_ (eqo_app e4 (eqo_app e6 (eqo_app eqo_1 (eqo_app eqo_a eqo_1))))
      · have := wi_row (M1 := wi M6 190 23 (-1)) (k := ni 1) (x := w 1 + 1) (w := q.1) (by rw [← h3]; funext j; exact wi_1n (by omega))
        rw [h5.2.1]
        rw [show up1 q.1 1 (w 1 + 1) = up1 q.1 (ni 1) (w 1 + 1) from rfl, ← this]
        funext j
        exact wi_1n (by omega)
      · exact h4
      · rw [wi_1n (by omega), wi_1n (by omega), wi_1e]
      · rw [wi_1n (by omega), wi_1n (by omega), wi_1n (by omega)]; exact z0
      · rw [wi_1n (by omega), wi_1n (by omega), wi_1n (by omega)]; exact z18
  · refine ⟨fun _ => ⟨fun _ => ?_, fun y => absurd h3 y⟩, fun y => absurd h3 y⟩
    refine ⟨fun y => absurd y (by decide), fun _ => ⟨fun y => absurd y (by decide), fun _ => ?_⟩⟩
    exact bb _ 1 (Or.inl ⟨j, h1, h2, h4, rfl⟩)
end AR
section AF
variable {B : Int} {M : MM}
abbrev fcB : List (Nat × Nat × Option Nat) := fp_Text_split ++ ([(1, 1, some 1)] ++ (fp_World_become 30 18 ++ (fp_RepublicReader_readAll ++ [(0, 0, some 15)])))
theorem a_republic (h : CP B M) {N : Nat} : W_E_republic N M (fun y M1 => ∀ z N', W_m_republic N' (wj M1 215 0 z) (fun b M2 => CP B M2 ∧ M2.1 190 0 = 0 ∧ y = b)) (fun ce M1 => ∀ N', W_m_republic N' M1 (fun _ M2 => CP B M2 ∧ M2.1 190 0 = if ce = 0 then 1 else 2)) := by
  obtain ⟨F, hF⟩ : ∃ F, 400 < F := ⟨401, by omega⟩
  obtain ⟨nc, hnc, hnc8, hncR⟩ := CP_n h
  obtain ⟨⟨n, hn, t1, t2, t3⟩, hfl, ⟨L, hL, hR, hTL, hI⟩, ⟨hc, hg⟩, m, hh, hm, hr, hi⟩ := h
  have hb : BOK (M.1 2) n := fun j hj => (t3 j hj).1
  obtain ⟨C, hCe⟩ : ∃ C : Int32, C = i32 nc - 1 := ⟨_, rfl⟩
  have hC : C < 1000 := by
    rw [hCe]
    have : nc = 0 ∨ nc = 1 ∨ nc = 2 ∨ nc = 3 ∨ nc = 4 ∨ nc = 5 ∨ nc = 6 ∨ nc = 7 ∨ nc = 8 ∨ nc = 9 ∨ nc = 10 ∨ nc = 11 ∨ nc = 12 := by omega
    rcases this with c | c | c | c | c | c | c | c | c | c | c | c | c <;> rw [c] <;> decide
  unfold W_E_republic
  refine c_split (f := M.1 2) (n := n) ⟨t1, rfl⟩ hn (fun M2 t hX h35 e2 => ?_)
  obtain ⟨hT, h5, h4⟩ := TXT_s hX
  have ht := hT.1
  have hS : ∀ i, i ≤ t → (M2.1 6 i = 2 ↔ sz (thb M2) (the M2) i = 2) := fun i _ => by
    unfold sz thb the
    rw [Nat.add_sub_cancel_left]
    constructor
    · intro y
      rw [y]
      rfl
    · intro y
      exact i32_of (j := 2) (by unfold ni at y; omega)
  have hc2 : CW (wi M2 1 1 0) 18 (M.1 191) (M.2 196) := CW_eq hc (eqo_app e2 (eqo_1 (a := 1) (k := 1))) rfl
  refine sp_become (Or.inr (by omega)) hc2 (fun M4 h30 e4 => ?_)
  have k4 : CST t (M2.1 4) (M2.1 7) (M2.1 6) (i32 nc) M4 0 (M.1 191) (M.2 196) := by
    have e := eqo_app (eqo_1 (M := M2) (a := 1) (k := 1) (x := 0)) e4
    refine ⟨TKc_e ⟨h35, h4, rfl, rfl⟩ e rfl, eqb e (lo := 6) (hi := 6) rfl (Nat.le_refl _) (Nat.le_refl _), h30, ?_⟩
    rw [eq1 (eqo_app e2 e) (b := 8) (k := 1) rfl]
    exact hnc8
  refine and_RepublicReader_readAll (Q1 := fun r M' => ((∃ q j, pRep (M2.1 4) (M2.1 7) (sz (thb M2) (the M2)) C F (M.1 191, M.2 196) = (some q, j) ∧ r = -1 ∧ CW M' 30 q.1 q.2) ∨ (∃ j, pRep (M2.1 4) (M2.1 7) (sz (thb M2) (the M2)) C F (M.1 191, M.2 196) = (none, j) ∧ j ≤ t ∧ r = V_Text_begin M' ∧ TKc M' t (M2.1 4) (M2.1 7) j))) (Q2 := fun r M' => Eqo fp_RepublicReader_readAll M4 M') (fun r M6 g1 g2 => ?_) (c_all0 hS hT hF (by rw [hCe]) k4 hg.1 (fun r M' h => h)) (an_RepublicReader_readAll (fun r M' h => h))
  have e6 : Eqo fcB M (wi M6 0 15 r) := eqo_app e2 (eqo_app eqo_1 (eqo_app e4 (eqo_app g2 eqo_1)))
  have z11 : (wi M6 0 15 r).1 1 1 = 0 := by rw [wi_1n (by omega), eq1 g2 (b := 1) (k := 1) rfl, eq1 e4 (b := 1) (k := 1) rfl, wi_1e]
  rw [show (wi M6 0 15 r).1 0 15 = r from wi_1e]
  have r5 : M6.1 5 = M2.1 5 := by
    rw [eqb g2 (lo := 5) (hi := 5) rfl (Nat.le_refl _) (Nat.le_refl _), eqb e4 (lo := 5) (hi := 5) rfl (Nat.le_refl _) (Nat.le_refl _)]
    funext j
    exact wi_1n (by omega)
  have bad : ∀ N' (x : Int32), (∀ q j, pRep (M2.1 4) (M2.1 7) (sz (thb M2) (the M2)) C F (M.1 191, M.2 196) = (some q, j) → M.1 191 1 = 12 ∧ r = -1 ∧ x = 2) → (∀ j, pRep (M2.1 4) (M2.1 7) (sz (thb M2) (the M2)) C F (M.1 191, M.2 196) = (none, j) → r = i32 (thb M2 j) ∧ x = 1) → W_m_republic N' (wi M6 0 15 r) (fun _ M2 => CP B M2 ∧ M2.1 190 0 = x) := by
    intro N' x b1 b2
    refine r_rep (f := M.1 2) (n := n) (w := M.1 191) (s := M.2 196) hb hn hT hF hC (by rw [eq1 e6 (b := 190) (k := 15) rfl, hCe, ← hncR]; rfl) (by rw [eq1 e6 (b := 190) (k := 18) rfl]; exact t2) (fun j hj => by rw [eqb e6 (lo := 203) (hi := 203) rfl (Nat.le_refl _) (Nat.le_refl _)]; exact (t3 j hj).2) (eqb e6 (lo := 191) (hi := 191) rfl (Nat.le_refl _) (Nat.le_refl _)) (eqb2 e6 (lo := 196) (hi := 196) rfl (Nat.le_refl _) (Nat.le_refl _)) hg.1 (fun q j M' d1 _ d3 _ _ _ _ _ _ _ => absurd (b1 q j d1).1 d3) (fun M' d1 d2 d3 d4 d5 => ?_)
    have e := eqo_app e6 d5
    have q015 : M'.1 0 15 = r := by rw [eq1 d5 (b := 0) (k := 15) rfl, wi_1e]
    have key : M'.1 190 23 = r ∧ M'.1 190 0 = x := by
      rcases d1 with ⟨j, j1, j2, j3, j4⟩ | ⟨⟨q, j, j1⟩, j2, j3, j4⟩
      · obtain ⟨f1, rfl⟩ := b2 j j1
        exact ⟨by rw [j3, f1], j4⟩
      · obtain ⟨-, f1, rfl⟩ := b1 q j j1
        exact ⟨by rw [j3, f1], j4⟩
    exact ⟨⟨TP_0 (by rw [eq1 d5 (b := 1) (k := 1) rfl]; exact z11) d4, by rw [q015, key.1], ⟨L, LawC_eq hL e rfl, LawR_eq hR e rfl, TLD_eq hTL e rfl, IMG_eq hI e rfl⟩, ⟨CW_g (CW_eq hc e rfl) hg d2 d3, GW_w hg d2⟩, m, hh, CM_eq hm e rfl, RMm_eq hr e rfl, hi⟩, key.2⟩
  rcases g1 with ⟨q, jc, g3, rfl, g4⟩ | ⟨jc, g3, g4, rfl, g5⟩
  · refine ⟨fun _ => ?_, fun hx => absurd rfl hx⟩
    have hno : ∀ j, pRep (M2.1 4) (M2.1 7) (sz (thb M2) (the M2)) C F (M.1 191, M.2 196) = (none, j) → False := fun j hj => by rw [g3] at hj; cases hj
    have e1815 : (wi M6 0 15 (-1)).1 18 15 = M.1 191 1 := by rw [eq1 e6 (b := 18) (k := 15) rfl]; exact hc.1.2.1
    rw [e1815]
    have g12 := hg.2.2.2
    refine ⟨fun h12 => ?_, fun h12 N' => ?_⟩
    · have hne : ¬ M.1 191 1 = 12 := fun y => by rw [y] at h12; exact absurd h12 (by decide)
      refine sp_become (Or.inl (by omega)) (CW_eq g4 (eqo_1 (a := 0) (k := 15)) rfl) (fun M10 h18 e10 => ?_)
      unfold W_Memory_forget
      have h18' := CW_44 (k := 2) (x := 0) (CW_sc (fa := 15) (k := 1) (x := q.1 1 + 1) h18 (by omega)) (by omega) (by omega)
      have ev : M10.1 18 15 = q.1 1 := h18.1.2.1
      rw [ev]
      have e12 : Eqo (fcB ++ (fp_World_become 18 30 ++ ([(18, 18, some 15)] ++ [(44, 44, some 2)]))) M (wi (wi M10 18 15 (q.1 1 + 1)) 44 2 0) := eqo_app e6 (eqo_app e10 (eqo_app eqo_1 eqo_1))
      have ey : (wi (wi M10 18 15 (q.1 1 + 1)) 44 2 0).1 18 15 = q.1 1 + 1 := by rw [wi_1n (by omega), wi_1e]
      dsimp only
      rw [ey]
      intro z N'
      have e12 := eqo_app e12 (eqo_z (z := z))
      have h18' := CW_eq h18' (eqo_z (z := z)) rfl
      refine r_rep (f := M.1 2) (n := n) (w := M.1 191) (s := M.2 196) hb hn hT hF hC (by rw [eq1 e12 (b := 190) (k := 15) rfl, hCe, ← hncR]; rfl) (by rw [eq1 e12 (b := 190) (k := 18) rfl]; exact t2) (fun j hj => by rw [eqb e12 (lo := 203) (hi := 203) rfl (Nat.le_refl _) (Nat.le_refl _)]; exact (t3 j hj).2) (eqb e12 (lo := 191) (hi := 191) rfl (Nat.le_refl _) (Nat.le_refl _)) (eqb2 e12 (lo := 196) (hi := 196) rfl (Nat.le_refl _) (Nat.le_refl _)) hg.1 (fun q' j M' d1 d2 d3 d4 d5 d6 d7 d8 d9 d10 => ?_) (fun M' d1 d2 d3 d4 d5 => ?_)
      · rw [g3] at d1
        obtain ⟨rfl, -⟩ := som d1
        have e := eqo_app e12 d10
        refine ⟨⟨TP_0 ?_ d9, ?_, ⟨L, LawC_eq hL e rfl, LawR_eq hR e rfl, TLD_eq hTL e rfl, IMG_eq hI e rfl⟩, ⟨?_, ?_⟩, 0, hh, ⟨by omega, ?_, ?_, fun i hi => by omega⟩, ⟨by omega, d7, fun i hi => by omega⟩, fun i hi => by omega⟩, d8, rfl⟩
        · rw [eq1 d10 (b := 1) (k := 1) rfl, wj_1, wi_1n (by omega), wi_1n (by omega), eq1 e10 (b := 1) (k := 1) rfl]
          exact z11
        · rw [eq1 d10 (b := 0) (k := 15) rfl, wj_1, wi_1n (by omega), wi_1n (by omega), eq1 e10 (b := 0) (k := 15) rfl, wi_1e, d6]
        · rw [d4, d5]
          exact CW_eq h18' d10 rfl
        · rw [d4]
          refine ⟨WF_sc d2.1 (by omega) (by omega) (by omega) (by omega), ?_, ?_, ?_⟩
          · rw [up1_n (by omega), d2.2.2]; exact hg.2.1
          · rw [up1_n (by omega), d2.2.2]; exact hg.2.2.1
          · rw [up1_e, d2.2.1]
            rw [lt_lit, show (12 : Int32).toInt = 12 from rfl] at h12
            have := Int32.le_toInt (M.1 191 1)
            rw [i32_add (by rw [show (1 : Int32).toInt = 1 from rfl]; omega) (by rw [show (1 : Int32).toInt = 1 from rfl]; omega), show (1 : Int32).toInt = 1 from rfl]
            omega
        · rw [eq1 d10 (b := 44) (k := 2) rfl, wj_1, wi_1e]
          rfl
        · rw [eq1 e (b := 44) (k := 1) rfl]
          exact hm.2.2.1
      · exfalso
        rcases d1 with ⟨j, j1, -⟩ | ⟨-, j2, -⟩
        · exact hno j j1
        · exact hne j2
    · refine bad N' 2 (fun _ _ _ => ⟨?_, rfl, rfl⟩) (fun j hj => (hno j hj).elim)
      rw [lt_lit, show (12 : Int32).toInt = 12 from rfl] at h12
      exact Int32.toInt_inj.mp (show (M.1 191 1).toInt = (12 : Int32).toInt by rw [show (12 : Int32).toInt = 12 from rfl]; omega)
  · have hbe : V_Text_begin M6 = i32 (thb M2 jc) := by
      rw [bg g5 g4 ht, r5]
      exact h5 jc g4
    have hj4 : thb M2 jc ≤ n := (hT.2.2.2 jc g4).2.1
    refine ⟨fun hx => ?_, fun _ N' => bad N' 1 (fun q j hj => by rw [g3] at hj; cases hj) (fun j hj => ?_)⟩
    · rw [hbe] at hx
      have := congrArg Int32.toInt hx
      rw [i32_i (by omega)] at this
      exact absurd this (by show ¬ ((thb M2 jc : Int) = -1); omega)
    · rw [g3] at hj
      have : jc = j := congrArg Prod.snd hj
      rw [← this]
      exact ⟨hbe, rfl⟩
end AF
