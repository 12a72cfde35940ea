/-! ACTS: a code is told -/
section AE
variable {B : Int} {M : MM}
theorem bg {M : MM} {t j : Nat} {K V : Nat → Int32} (h : TKc M t K V j) (hj : j ≤ t) (ht : t ≤ 400) : V_Text_begin M = M.1 5 j := by
  unfold V_Text_begin
  rw [h.1, h.2.1, if_pos ((i32_lt (by omega) (by omega)).mpr (by omega)), ni_i (by omega)]
/-- the coupling where only the tape and the fault were written -/
theorem CP_ft {l : List (Nat × Nat × Option Nat)} {M' : MM} (h : CP B M) (e : Eqo l M M') (hl : ((fpo l 8 12 && fpf l 190 15) && (imk l && (wlk l && (cmk l && rmk l)))) = true) (hT : TP M') (hF : M'.1 0 15 = M'.1 190 23) (h1 : ∀ j, j < 48 → M'.1 201 j = M.1 201 j) (h2 : ∀ j, j < 800 → M'.1 202 j = M.1 202 j) : CP B M' := by
  simp only [Bool.and_eq_true] at hl
  obtain ⟨⟨k2, k3⟩, k5, k6, k7, k8⟩ := hl
  obtain ⟨-, -, ⟨L, h3, h4, h5, h6⟩, h7, m, hh, h8, h9, h10⟩ := h
  refine ⟨hT, hF, ⟨L, LawC_eq h3 e k2, LawR_cp h4 h1 h2, ?_, IMG_eq h6 e k5⟩, WLD_eq h7 e k6, m, hh, CM_eq h8 e k7, RMm_eq h9 e k8, h10⟩
  unfold TLD at *
  rw [eq1 e k3, eqb e k2 (show 8 ≤ 8 by omega) (by omega)]
  exact h5
theorem TP_0 {M : MM} (h1 : M.1 1 1 = 0) (h2 : M.1 190 18 = 0) : TP M := ⟨0, by omega, h1, h2, fun j hj => by omega⟩
abbrev fcA : List (Nat × Nat × Option Nat) := fp_Text_split ++ ([(1, 1, some 1)] ++ (fp_LawReader_readAll ++ [(0, 0, some 15)]))
theorem a_code (h : CP B M) {N : Nat} : W_E_code N M (fun y M1 => ∀ z N', W_m_code N' (wj M1 215 0 z) (fun b M2 => CP B M2 ∧ M2.1 190 0 = 0 ∧ y = b)) (fun ce M1 => ∀ N', W_m_code N' M1 (fun _ M2 => CP B M2 ∧ M2.1 190 0 = if ce = 0 then 1 else 2)) := by
  obtain ⟨F, hF⟩ : ∃ F, 400 < F := ⟨401, by omega⟩
  have h' := h
  obtain ⟨⟨n, hn, t1, t2, t3⟩, hfl, ⟨L, hL, hR, hTL, hI⟩, ⟨hc, hg⟩, m, hh, hm, hr, hi⟩ := h'
  have hb : BOK (M.1 2) n := fun j hj => (t3 j hj).1
  unfold W_E_code
  refine c_split (f := M.1 2) (n := n) ⟨t1, rfl⟩ hn (fun M2 t hX h35 e2 => ?_)
  obtain ⟨hT, h5, h4⟩ := TXT_s hX
  have ht := hT.1
  have eA : Eqo [(1, 1, some 1)] M2 (wi M2 1 1 0) := eqo_1
  refine and_LawReader_readAll (Q1 := fun r M' => RAC t (M2.1 4) (M2.1 7) (pCode (M2.1 4) (M2.1 7) F) r M') (Q2 := fun r M' => Eqo fp_LawReader_readAll (wi M2 1 1 0) M') (fun r M4 g1 g2 => ?_) (c_readAll hF hn hT ⟨h35, h4, rfl, rfl⟩ (fun r M' h => h)) (an_LawReader_readAll (fun r M' h => h))
  have e4 : Eqo fcA M (wi M4 0 15 r) := eqo_app e2 (eqo_app eA (eqo_app g2 eqo_1))
  have z11 : (wi M4 0 15 r).1 1 1 = 0 := by rw [wi_1n (by omega), eq1 g2 (b := 1) (k := 1) rfl, wi_1e]
  rw [show (wi M4 0 15 r).1 0 15 = r from wi_1e]
  have r5 : (wi M4 0 15 r).1 5 = M2.1 5 := by
    funext j
    rw [wi_1n (by omega), eqb g2 (lo := 5) (hi := 5) rfl (Nat.le_refl _) (Nat.le_refl _), wi_1n (by omega)]
  have c0 := hc.1.1
  -- the reference, where the class throws
  have bad : ∀ N' (x : Int32), (∀ L j, pCode (M2.1 4) (M2.1 7) F = (some L, j) → (¬ M.1 190 15 < 0 ∨ 0 < M.1 191 0) ∧ r = -1 ∧ x = 2) → (∀ j, pCode (M2.1 4) (M2.1 7) F = (none, j) → r = i32 (thb M2 j) ∧ x = 1) → W_m_code N' (wi M4 0 15 r) (fun _ M2 => CP B M2 ∧ M2.1 190 0 = x) := by
    intro N' x b1 b2
    refine r_code (f := M.1 2) hF (n := n) (by rw [eq1 e4 (b := 190) (k := 18) rfl]; exact t2) (fun j hj => by rw [eqb e4 (lo := 203) (hi := 203) rfl (Nat.le_refl _) (Nat.le_refl _)]; exact (t3 j hj).2) hb hn hT (fun L j M' d1 d2 d3 => ?_) (fun M' d1 d2 d3 d4 d5 => ?_)
    · obtain ⟨f1, -⟩ := b1 L j d1
      rw [eq1 e4 (b := 190) (k := 15) rfl] at d2
      rw [eqb e4 (lo := 191) (hi := 191) rfl (Nat.le_refl _) (Nat.le_refl _)] at d3
      rcases f1 with f1 | f1
      · exact absurd d2 f1
      · exact absurd f1 d3
    · have e := eqo_app e4 d4
      have q015 : M'.1 0 15 = r := by rw [eq1 d4 (b := 0) (k := 15) rfl, wi_1e]
      have q201 : (wi M4 0 15 r).1 201 = M.1 201 := eqb e4 (lo := 201) (hi := 201) rfl (Nat.le_refl _) (Nat.le_refl _)
      have q202 : (wi M4 0 15 r).1 202 = M.1 202 := eqb e4 (lo := 202) (hi := 202) rfl (Nat.le_refl _) (Nat.le_refl _)
      have key : M'.1 190 23 = r ∧ M'.1 190 0 = x := by
        rcases d1 with ⟨j, j1, j2, j3, j4⟩ | ⟨⟨L', j, j1⟩, j2, j3, j4⟩
        · obtain ⟨f1, rfl⟩ := b2 j j1
          exact ⟨by rw [j3, f1], j4⟩
        · obtain ⟨-, f1, rfl⟩ := b1 L' j j1
          exact ⟨by rw [j3, f1], j4⟩
      exact ⟨CP_ft h e rfl (TP_0 (by rw [eq1 d4 (b := 1) (k := 1) rfl]; exact z11) d5) (by rw [q015, key.1]) (fun j hj => by rw [d2 j hj, q201]) (fun j hj => by rw [d3 j hj, q202]), key.2⟩
  rcases g1 with ⟨Lc, jc, g3, rfl, g4, g5⟩ | ⟨jc, g3, g4, rfl, g5⟩
  · refine ⟨fun _ => ?_, fun hx => absurd rfl hx⟩
    have e80 : (wi M4 0 15 (-1)).1 8 0 = M.1 8 0 := eq1 e4 (b := 8) (k := 0) rfl
    have e180 : (wi M4 0 15 (-1)).1 18 0 = M.1 191 0 := by rw [eq1 e4 (b := 18) (k := 0) rfl]; exact c0
    rw [e80, e180]
    have hno : ∀ j, pCode (M2.1 4) (M2.1 7) F = (none, j) → False := fun j hj => by rw [g3] at hj; cases hj
    refine ⟨fun hz => ⟨fun hp N' => ?_, fun hp => ?_⟩, fun hz N' => ?_⟩
    · exact bad N' 2 (fun _ _ _ => ⟨Or.inr hp, rfl, rfl⟩) (fun j hj => (hno j hj).elim)
    · have hneg : M.1 190 15 = -1 ∧ L.1 = 0 := by
        rcases hTL with ⟨a1, -, a3⟩ | ⟨-, a2⟩
        · exact ⟨a1, a3⟩
        · rw [hz] at a2
          exact absurd a2 (by decide)
      refine sp_lawb (Or.inl (by omega)) (fun M9 l0 l1 l2 l3 le => ?_)
      unfold W_Memory_forget
      intro z N'
      have e9 : Eqo (fcA ++ (fp_Law_become 8 13 ++ ([(44, 44, some 2)] ++ [(215, 215, none)]))) M (wj (wi M9 44 2 0) 215 0 z) := eqo_app e4 (eqo_app le (eqo_app eqo_1 eqo_z))
      refine r_code (f := M.1 2) hF (n := n) (by rw [eq1 e9 (b := 190) (k := 18) rfl]; exact t2) (fun j hj => by rw [eqb e9 (lo := 203) (hi := 203) rfl (Nat.le_refl _) (Nat.le_refl _)]; exact (t3 j hj).2) hb hn hT (fun L' j M' d1 d2 d3 d4 d5 d6 d7 d8 d9 d10 => ?_) (fun M' d1 d2 d3 d4 d5 => ?_)
      · rw [g3] at d1
        obtain ⟨rfl, -⟩ := Prod.mk.inj d1 |>.imp Option.some.inj id
        have e := eqo_app e9 d9
        have lc : LawC (wi M4 0 15 (-1)) 13 Lc := LawC_eq g4 (eqo_1 (a := 0) (k := 15)) rfl
        have lc9 : LawC (wj (wi M9 44 2 0) 215 0 z) 8 Lc := LawC_eq (LawC_eq (l2 Lc lc) (eqo_1 (a := 44) (k := 2)) rfl) eqo_z rfl
        have q0 : M'.1 8 0 = 1 := by rw [eq1 d9 (b := 8) (k := 0) rfl, wj_1, wi_1n (by omega), l0, wi_1n (by omega), g5]
        refine ⟨⟨TP_0 ?_ d10, ?_, ⟨Lc, LawC_eq lc9 d9 rfl, d4, Or.inr ⟨d5, q0⟩, ?_⟩, WLD_eq ⟨hc, hg⟩ e rfl, 0, hh, ⟨by omega, ?_, ?_, fun i hi => by omega⟩, ⟨by omega, d6, fun i hi => by omega⟩, fun i hi => by omega⟩, d8, ?_⟩
        · rw [eq1 d9 (b := 1) (k := 1) rfl, wj_1, wi_1n (by omega), eq1 le (b := 1) (k := 1) rfl]
          exact z11
        · rw [eq1 d9 (b := 0) (k := 15) rfl, wj_1, wi_1n (by omega), eq1 le (b := 0) (k := 15) rfl, wi_1e, d7]
        · refine ⟨by rw [eq1 e (b := 0) (k := 14) rfl, eq1 e (b := 190) (k := 11) rfl]; exact hI.1, ?_⟩
          rw [eq1 e (b := 190) (k := 11) rfl, eqb e (lo := 192) (hi := 192) rfl (Nat.le_refl _) (Nat.le_refl _), eqb2 e (lo := 197) (hi := 197) rfl (Nat.le_refl _) (Nat.le_refl _)]
          rcases hI.2 with i1 | ⟨i1, i2, i3, i4⟩
          · exact Or.inl i1
          · refine Or.inr ⟨i1, CW_eq i2 e rfl, i3, ?_⟩
            rcases i4 with ⟨k1, k2, k3, k4⟩ | ⟨k1, k2, k3, k4⟩
            · exact Or.inl ⟨by rw [eq1 e (b := 190) (k := 16) rfl]; exact k1, by rw [eq1 e (b := 173) (k := 0) rfl]; exact k2, by rw [eq1 e (b := 173) (k := 1) rfl]; exact k3, fun j hj => by omega⟩
            · rw [hneg.1, hneg.2] at k2
              exact absurd k2 (by decide)
        · rw [eq1 d9 (b := 44) (k := 2) rfl, wj_1, wi_1e]
          rfl
        · rw [eq1 e (b := 44) (k := 1) rfl]
          exact hm.2.2.1
        · rw [wi_1n (by omega), l1, lc.1]
      · exfalso
        rcases d1 with ⟨j, j1, -⟩ | ⟨-, j2, -⟩
        · exact hno j j1
        · rw [eq1 e9 (b := 190) (k := 15) rfl, eqb e9 (lo := 191) (hi := 191) rfl (Nat.le_refl _) (Nat.le_refl _)] at j2
          rcases j2 with j2 | j2
          · rw [hneg.1] at j2
            exact j2 (by decide)
          · exact hp j2
    · refine bad N' 2 (fun _ _ _ => ⟨Or.inl (fun hx => ?_), rfl, rfl⟩) (fun j hj => (hno j hj).elim)
      rcases hTL with ⟨-, a2, -⟩ | ⟨a1, -⟩
      · exact hz a2
      · rw [a1, lt_lit, i32_i (by have := hR.1; omega)] at hx
        exact absurd hx (by show ¬ ((L.1 : Int) < 0); omega)
  · have hbe : V_Text_begin M4 = i32 (thb M2 jc) := by
      rw [bg g5 g4 ht]
      have := congrFun r5 jc
      rw [wi_1n (by omega)] at this
      rw [this]
      exact h5 jc g4
    have hj4 : thb M2 jc ≤ n := (hT.2.2.2 jc g4).2.1
    refine ⟨fun hx => ?_, fun _ N' => bad N' 1 (fun L j hj => by rw [g3] at hj; cases hj) (fun j hj => ?_)⟩
    · rw [hbe] at hx
      have := congrArg Int32.toInt hx
      rw [i32_i (by omega)] at this
      exact absurd this (by show ¬ ((thb M2 jc : Int) = -1); omega)
    · rw [g3] at hj
      obtain ⟨-, rfl⟩ := Prod.mk.inj hj
      exact ⟨hbe, rfl⟩
end AE
