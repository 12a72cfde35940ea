/-! ANSWERS: a matter -/
section AN8
variable {B : Int} {M X : MM} {p q r : Int32} {w : RW} {s : RS} {L : LWT}
def dmm (L : LWT) (w : RW) (c : Nat) (m : Int32) : Int32 := bs (bear L 1 m (i32 c) (bcn (cl w c 1)) (w 2)) L.1
theorem c_dem {c mm N : Nat} {Q : Int32 → Prop} (hc : CW M 18 w s) (hw : WF w) (hL : LawC M 8 L) (hd : dOK w) (hcn : c < nC w) (hm : mm < 64) (hQ : Q (dmm L w c (i32 mm))) : W_Inquiry_demanding (i32 c) (i32 mm) N M Q := by
  have hn := (nC_i hw).2.1
  unfold W_Inquiry_demanding
  rw [c_known hc hcn hw, hc.1.2.2.1]
  exact sp_bearing hL (Or.inr rfl) (rngM (by omega) hm ⟨hd.1, by have := hd.2; omega⟩ (cl w c 1)) hQ
theorem r_dem {c mm N : Nat} {set : Int32} {Q : Int32 → MM → Prop} (hx : X.1 191 = w) (hL : LawR X L) (hn : V_m_clauses X = i32 L.1) (hw : WF w) (hd : dOK w) (hcn : c < nC w) (hm : mm < 64) (hQ : ∀ val, Q (dmm L w c (i32 mm) &&& set) (svM X val)) : W_m_saying set 1 (i32 mm) (i32 c) (X.1 191 (ni 2)) N X Q := by
  have hn10 := (nC_i hw).2.1
  have ek : knw X (i32 c) = bcn (cl w c 1) := by
    unfold knw
    rw [show V_m_of (i32 c) 1 X = cl w c 1 from of_row (i := 1) hx (by omega) (by omega)]
    rfl
  rw [hx, n2]
  refine sp_saying hL hn (by rw [ek]; exact rngM (by omega) hm ⟨hd.1, by have := hd.2; omega⟩ _) (fun val => ?_)
  rw [ek, bs_and (by have := hL.1; omega)]
  exact hQ val
theorem r_for {c mm N : Nat} {set : Int32} {Q : Int32 → MM → Prop} (hx : X.1 191 = w) (hL : LawR X L) (hn : V_m_clauses X = i32 L.1) (hw : WF w) (hd : dOK w) (hcn : c < nC w) (hm : mm < 64) (hQ : ∀ val, Q (fbm L w c (i32 mm) &&& set) (svM X val)) : W_m_saying set 0 (i32 mm) (i32 c) (X.1 191 (ni 2)) N X Q := r_forb hx hL hn hw hd hcn hm hQ
theorem r_may {c mm N : Nat} {Q : Int32 → MM → Prop} (hx : X.1 191 = w) (hL : LawR X L) (hn : V_m_clauses X = i32 L.1) (hw : WF w) (hd : dOK w) (hcn : c < nC w) (hm : mm < 64) (hQ : ∀ val, Q (b32 (decide (fbm L w c (i32 mm) &&& cl w c 1 = 0))) (svM X val)) : W_m_may (i32 mm) (i32 c) N X Q := by
  have hn10 := (nC_i hw).2.1
  unfold W_m_may
  rw [show V_m_of (i32 c) 1 X = cl w c 1 from of_row (i := 1) hx (by omega) (by omega)]
  refine r_forb hx hL hn hw hd hcn hm (fun val => ⟨fun a => ?_, fun a => ?_⟩)
  · have := hQ val
    rw [decide_eq_true a] at this
    exact this
  · have := hQ val
    rw [decide_eq_false a] at this
    exact this
theorem c_alw {c mm N : Nat} {Q : Int32 → Prop} (hc : CW M 18 w s) (hw : WF w) (hL : LawC M 8 L) (hd : dOK w) (hcn : c < nC w) (hm : mm < 64) (hQ : Q (b32 (decide (fbm L w c (i32 mm) &&& cl w c 1 = 0)))) : W_Inquiry_allows (i32 c) (i32 mm) N M Q := by
  have hn10 := (nC_i hw).2.1
  unfold W_Inquiry_allows
  rw [ni_i (by omega), show M.1 19 c = cl w c 1 from (hc.2.2.2.1 c hcn).1]
  refine c_forb hc hw hL hd hcn hm ⟨fun a => ?_, fun a => ?_⟩
  · rw [decide_eq_true a] at hQ; exact hQ
  · rw [decide_eq_false a] at hQ; exact hQ
theorem no64 : V_m_noMatter p X = b32 (!decide (0 ≤ p.toInt ∧ p.toInt < 64)) := by
  unfold V_m_noMatter
  rw [v_in, show (0 : Int32).toInt = 0 from rfl, show (63 : Int32).toInt = 63 from rfl]
  by_cases h : 0 ≤ p.toInt ∧ p.toInt < 64
  · rw [decide_eq_true (show 0 ≤ p.toInt ∧ p.toInt ≤ 63 by omega), decide_eq_true h]; rfl
  · rw [decide_eq_false (show ¬ (0 ≤ p.toInt ∧ p.toInt ≤ 63) by omega), decide_eq_false h]; rfl
theorem a_matter (h : CP B M) (hB : 0 ≤ B ∧ B ≤ 28000) {N : Nat} : W_E_matter p q r N M (fun y => ∀ z N', W_m_matter p q r N' (wj M 215 0 z) (fun b M2 => CP B M2 ∧ M2.1 190 0 = 0 ∧ y = b)) (fun ce => ∀ N', W_m_matter p q r N' M (fun _ M2 => CP B M2 ∧ M2.1 190 0 = if ce = 2 then 1 else if ce = 1 then 2 else 3)) := by
  obtain ⟨L, hL, hR, hcl, hc, hg⟩ := CP_w h
  have hd := dok_g hg hB
  unfold W_E_matter
  refine s_idx (n := 64) rfl (fun hp => s_cit hc (fun hq => ?_) (fun hq N' => ?_)) (fun hp N' => ?_)
  · obtain ⟨c, rfl, hcn, hc10⟩ := okc_c hg.1 hq
    obtain ⟨mm, hmm, rfl⟩ := lit_r (q := p) (n := 64) hp
    have e64 : ∀ Y : MM, V_m_noMatter (i32 mm) Y = 0 := fun Y => by rw [no64, decide_eq_true (show 0 ≤ (i32 mm).toInt ∧ (i32 mm).toInt < 64 from hp)]; rfl
    refine s_alive hc hg.1 hcn (fun ha => ?_) (fun ha N' => ?_)
    · have ez1 : ∀ z, V_m_noCitizen (i32 c) (wi (wj M 215 0 z) 190 0 0) = 0 := fun z => (noc_e (M := M) (M1 := wj M 215 0 z) rfl).trans (noc_1 hg.1 hq)
      have ez2 : ∀ z, V_m_isAlive (i32 c) (wi (wj M 215 0 z) 190 0 0) = 1 := fun z => (al_e (M := M) (M1 := wj M 215 0 z) rfl).trans (al_1 hc10 ha)
      have fin : ∀ (z : Int64) (x y : Int32) (X' : MM), SV (wi (wj M 215 0 z) 190 0 0) X' → x = y → CP B X' ∧ X'.1 190 0 = 0 ∧ x = y := fun z x y X' hS hx => ⟨SV_CP (CP_0 (CP_z h z) 0) hS, by rw [eq1 (SV_e hS) (b := 190) (k := 0) rfl, wi_1e], hx⟩
      have hRz : ∀ z, LawR (wi (wj M 215 0 z) 190 0 0) L := fun z => hR
      have hcz : ∀ z, V_m_clauses (wi (wj M 215 0 z) 190 0 0) = i32 L.1 := fun z => hcl
      refine ⟨fun e => ?_, fun e => ?_, fun e => ?_, fun e => ?_, fun n0 n1 n2 n3 => ?_⟩
      · subst e
        unfold W_Inquiry_forbiddenTo
        refine c_forb hc hg.1 hL hd hcn hmm (c_force hc hg.1 (fun z N' => ?_))
        have ein : ∀ Y : MM, V_m_in 0 0 3 Y = 1 := fun Y => rfl
        unfold W_m_matter W_m_throwsIf
        simp only [e64, ez1 z, ez2 z, ein, e10, e10n, true_implies, false_implies, not_true_eq_false, not_false_eq_true, and_true, true_and, if_true]
        refine ⟨fun _ => r_force hg.1 (w := M.1 191) rfl ⟨fun hb => absurd hb (by decide), fun _ => ?_⟩, fun hb => absurd (by decide) hb⟩
        exact r_for (w := M.1 191) (X := wi (wj M 215 0 z) 190 0 0) rfl (hRz z) (hcz z) hg.1 hd hcn hmm (fun val => fin z _ _ _ (SV_s SV_0) rfl)
      · subst e
        unfold W_Inquiry_demandedOf
        refine c_dem hc hg.1 hL hd hcn hmm (c_force hc hg.1 (fun z N' => ?_))
        have ein : ∀ Y : MM, V_m_in 1 0 3 Y = 1 := fun Y => rfl
        unfold W_m_matter W_m_throwsIf
        simp only [e64, ez1 z, ez2 z, ein, e10, e10n, true_implies, false_implies, not_true_eq_false, not_false_eq_true, and_true, true_and, if_true]
        refine ⟨fun _ => r_force hg.1 (w := M.1 191) rfl ?_, fun hb => absurd (by decide) hb⟩
        exact r_dem (w := M.1 191) (X := wi (wj M 215 0 z) 190 0 0) rfl (hRz z) (hcz z) hg.1 hd hcn hmm (fun val => fin z _ _ _ (SV_s SV_0) rfl)
      · subst e
        refine c_alw hc hg.1 hL hd hcn hmm ?_
        have main : ∀ y : Int32, y = b32 (decide (fbm L (M.1 191) c (i32 mm) &&& cl (M.1 191) c 1 = 0)) → ∀ z N', W_m_matter (i32 mm) (i32 c) 2 N' (wj M 215 0 z) (fun b M2 => CP B M2 ∧ M2.1 190 0 = 0 ∧ y = b) := by
          intro y hy z N'
          have ein : ∀ Y : MM, V_m_in 2 0 3 Y = 1 := fun Y => rfl
          unfold W_m_matter W_m_throwsIf
          simp only [e64, ez1 z, ez2 z, ein, e10, e10n, true_implies, false_implies, not_true_eq_false, not_false_eq_true, and_true, true_and, if_true]
          refine ⟨fun hb => absurd hb (by decide), fun _ => ?_⟩
          refine r_may (w := M.1 191) (X := wi (wj M 215 0 z) 190 0 0) rfl (hRz z) (hcz z) hg.1 hd hcn hmm (fun val => ⟨fun a => fin z _ _ _ (SV_s SV_0) ?_, fun a => fin z _ _ _ (SV_s SV_0) ?_⟩)
          · rw [hy, a]
          · rw [b32_ne0] at a
            rw [hy, a]
            rfl
        exact ⟨fun a => main 0 a.symm, fun a => main 1 (by rw [b32_ne0] at a; rw [a]; rfl)⟩
      · subst e
        refine c_alw hc hg.1 hL hd hcn hmm ?_
        have main : ∀ y : Int32, y = (if b32 (decide (fbm L (M.1 191) c (i32 mm) &&& cl (M.1 191) c 1 = 0)) = 0 then 0 else if b32 (sb (M.2 196 c) mm) = 0 then 1 else 0) → ∀ z N', W_m_matter (i32 mm) (i32 c) 3 N' (wj M 215 0 z) (fun b M2 => CP B M2 ∧ M2.1 190 0 = 0 ∧ y = b) := by
          intro y hy z N'
          have ein : ∀ Y : MM, V_m_in 3 0 3 Y = 1 := fun Y => rfl
          unfold W_m_matter W_m_throwsIf
          simp only [e64, ez1 z, ez2 z, ein, e10, e10n, true_implies, false_implies, not_true_eq_false, not_false_eq_true, and_true, true_and, if_true]
          refine ⟨fun hb => absurd hb (by decide), fun _ => ?_⟩
          refine r_may (w := M.1 191) (X := wi (wj M 215 0 z) 190 0 0) rfl (hRz z) (hcz z) hg.1 hd hcn hmm (fun val => ⟨fun a => fin z _ _ _ (SV_s SV_0) ?_, fun a => ⟨fun hb => absurd hb (by decide), fun _ => ?_⟩⟩)
          · rw [hy, if_pos a]
          · rw [ni_i (by omega), show (svM (wi (wj M 215 0 z) 190 0 0) val).2 196 c = M.2 196 c from by rw [svM_2]; exact congrFun (z_2 (M := M) (z := z) (a := 196) (by omega)) c, v_hasM hmm]
            refine ⟨fun b => fin z _ _ _ (SV_s SV_0) ?_, fun b => fin z _ _ _ (SV_s SV_0) ?_⟩
            · rw [hy, if_neg a, if_pos b]
            · rw [hy, if_neg a, if_neg b]
        refine ⟨fun a => main 0 (if_pos a).symm, fun a => ?_⟩
        rw [v_hasS (by omega) hmm, show M.2 (18 + 8) c = M.2 196 c from (hc.2.2.2.1 c hcn).2.2.2.2.2.2.2]
        exact ⟨fun b => main 1 (by rw [if_neg a, if_pos b]), fun b => main 0 (by rw [if_neg a, if_neg b])⟩
      · intro N'
        have hr : ¬ (0 ≤ r.toInt ∧ r.toInt ≤ 3) := fun hr => by
          obtain ⟨k, hk, ek⟩ := lit_r (q := r) (n := 4) (by omega)
          have : k = 0 ∨ k = 1 ∨ k = 2 ∨ k = 3 := by omega
          rcases this with e | e | e | e <;> subst e
          · exact n0 ek
          · exact n1 ek
          · exact n2 ek
          · exact n3 ek
        have ein : ∀ Y : MM, V_m_in r 0 3 Y = 0 := fun Y => by rw [v_in, decide_eq_false (show ¬ ((0 : Int32).toInt ≤ r.toInt ∧ r.toInt ≤ (3 : Int32).toInt) from hr)]; rfl
        unfold W_m_matter W_m_throwsIf
        simp only [e64, noc_1 hg.1 hq, al_1 hc10 ha, ein, e10, e10n, true_implies, false_implies, not_true_eq_false, not_false_eq_true, and_true, true_and, if_true]
        exact CP_t h 3 (fun e => e)
    · unfold W_m_matter W_m_throwsIf
      simp only [e64, noc_1 hg.1 hq, al_0 hc10 ha, e10, e10n, true_implies, false_implies, not_true_eq_false, not_false_eq_true, and_true, true_and, if_true]
      exact CP_t h 2 (fun e => e)
  · have e64 : ∀ Y : MM, V_m_noMatter p Y = 0 := fun Y => by rw [no64, decide_eq_true (show 0 ≤ p.toInt ∧ p.toInt < 64 from hp)]; rfl
    unfold W_m_matter W_m_throwsIf
    simp only [e64, noc_0 hg.1 hq, e10, e10n, true_implies, false_implies, not_true_eq_false, not_false_eq_true, and_true, true_and, if_true]
    exact CP_t h 1 (fun e => e)
  · have e64 : ∀ Y : MM, V_m_noMatter p Y = 1 := fun Y => by rw [no64, decide_eq_false (show ¬ (0 ≤ p.toInt ∧ p.toInt < 64) from hp)]; rfl
    unfold W_m_matter W_m_throwsIf
    simp only [e64, e10, e10n, true_implies, false_implies, not_true_eq_false, not_false_eq_true, and_true, true_and, if_true]
    exact CP_t h 1 (fun e => e)
end AN8
