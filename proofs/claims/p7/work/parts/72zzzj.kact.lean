/-! .. THROUGH THE ACTS -/
section KAC
variable {B : Int} {M : MM} {p q : Int32} {N : Nat}
theorem k_wed (h : RG B M) (k : KI M) : W_m_wed p q N M (fun _ M2 => KI M2) := by
  have hg := RG_w h
  unfold W_m_wed W_m_throwsIf
  cases hp : okc M p with
  | false =>
    simp only [noc_0 hg.1 hp, e10, e10n, true_implies, false_implies, not_true_eq_false, not_false_eq_true, and_true, true_and, if_true]
    exact KI_0 (KI_0 k 0) 1
  | true =>
    obtain ⟨c, rfl, hcn, hc10⟩ := okc_c hg.1 hp
    cases hq : okc M q with
    | false =>
      simp only [noc_1 hg.1 hp, noc_0 hg.1 hq, e10, e10n, true_implies, false_implies, not_true_eq_false, not_false_eq_true, and_true, true_and, if_true]
      exact KI_0 (KI_0 k 0) 1
    | true =>
      obtain ⟨d, rfl, hdn, hd10⟩ := okc_c hg.1 hq
      have suc : W_m_remembers N (wi M 190 0 0) (fun M16 => W_m_weds (i32 c) (i32 d) N M16 (fun M18 => KI M18)) := by
        refine k_rem hg.1 (KI_0 k 0) (fun M11 r1 r2 r3 => ?_)
        have r2 : M11.1 191 = M.1 191 := r2
        have r3 : KW (M.1 190 15).toInt (M.1 191) := by
          rw [show (wi M 190 0 0).1 190 15 = M.1 190 15 from wi_1n (by omega)] at r3
          exact r3
        rw [show (wi M 190 0 0).1 190 15 = M.1 190 15 from wi_1n (by omega)] at r1
        unfold W_m_weds W_m_sets
        rw [show ni ((18 + (13 * i32 c)) + 1) = 18 + 13 * c + 1 from ofs (i := 1) (by omega) (by omega), show ni ((18 + (13 * i32 d)) + 1) = 18 + 13 * d + 1 from ofs (i := 1) (by omega) (by omega), show ni ((18 + (13 * i32 c)) + 4) = 18 + 13 * c + 4 from ofs (i := 4) (by omega) (by omega), show ni ((18 + (13 * i32 d)) + 4) = 18 + 13 * d + 4 from ofs (i := 4) (by omega) (by omega), show V_m_of (i32 c) 1 M11 = cl (M.1 191) c 1 from of_row (i := 1) r2 hc10 (by omega), show V_m_of (i32 d) 1 M11 = cl (M.1 191) d 1 from of_row (i := 1) r2 hd10 (by omega)]
        have hrow := wi_row (k := 18 + 13 * d + 1) (x := cl (M.1 191) c 1 ||| cl (M.1 191) d 1) (wi_row (k := 18 + 13 * c + 1) (x := cl (M.1 191) c 1 ||| cl (M.1 191) d 1) (wi_row (k := 18 + 13 * d + 4) (x := i32 c) (wi_row (k := 18 + 13 * c + 4) (x := i32 d) r2)))
        have bits : ∀ j, j < 32 → tb (cl (M.1 191) c 1 ||| cl (M.1 191) d 1) j = true → (j : Int) < (M.1 190 15).toInt := fun j hj hb => by
          rw [tb_or, Bool.or_eq_true] at hb
          exact hb.elim (r3.1 c hcn j hj) (r3.1 d hdn j hj)
        have w1 : WF (up1 (M.1 191) (18 + 13 * c + 4) (-1)) := WF_sp hg.1 (Or.inl rfl)
        have k1 : KW (M.1 190 15).toInt (up1 (up1 (M.1 191) (18 + 13 * c + 4) (i32 d)) (18 + 13 * d + 4) (i32 c)) := KW_s r3 (by unfold nC; rw [up1_n (by omega), up1_n (by omega)]) (by rw [up1_n (by omega), up1_n (by omega)]) (by rw [up1_n (by omega), up1_n (by omega)]) (by rw [up1_n (by omega), up1_n (by omega)]) (fun c' hc' => by
          show up1 (up1 (M.1 191) (18 + 13 * c + 4) (i32 d)) (18 + 13 * d + 4) (i32 c) (18 + 13 * c' + 1) = _
          rw [up1_n (by omega), up1_n (by omega)]
          rfl) (fun r _ => by rw [up1_n (by omega), up1_n (by omega)])
        exact ⟨_, KR_e (KR_e (KR_e (KR_e r1 eqo_a rfl) eqo_a rfl) eqo_a rfl) eqo_a rfl, by rw [hrow]; exact KW_k (KW_k k1 hc10 bits) hd10 bits⟩
      simp only [noc_1 hg.1 hp, noc_1 hg.1 hq, e10, e10n, true_implies, false_implies, not_true_eq_false, not_false_eq_true, and_true, true_and, if_true]
      refine ⟨fun _ => KI_0 (KI_0 k 0) 2, fun _ => ⟨fun _ => KI_0 (KI_0 k 0) 3, fun _ => ⟨fun _ => KI_0 (KI_0 k 0) 3, fun _ => ⟨fun _ => KI_0 (KI_0 k 0) 3, fun _ => ⟨fun _ => KI_0 (KI_0 k 0) 3, fun _ => suc⟩⟩⟩⟩⟩
theorem k_die (h : RG B M) (k : KI M) : W_m_die p N M (fun _ M2 => KI M2) := by
  have hg := RG_w h
  unfold W_m_die W_m_throwsIf
  cases hp : okc M p with
  | false =>
    simp only [noc_0 hg.1 hp, e10, e10n, true_implies, false_implies, not_true_eq_false, not_false_eq_true, and_true, true_and, if_true]
    exact KI_0 (KI_0 k 0) 1
  | true =>
    obtain ⟨c, rfl, hcn, hc10⟩ := okc_c hg.1 hp
    simp only [noc_1 hg.1 hp, e10, e10n, true_implies, false_implies, not_true_eq_false, not_false_eq_true, and_true, true_and, if_true]
    refine ⟨fun _ => KI_0 (KI_0 k 0) 2, fun _ => k_rem hg.1 (KI_0 k 0) (fun M11 r1 r2 r3 => ?_)⟩
    have r2 : M11.1 191 = M.1 191 := r2
    have r3 : KW (M.1 190 15).toInt (M.1 191) := by
      rw [show (wi M 190 0 0).1 190 15 = M.1 190 15 from wi_1n (by omega)] at r3
      exact r3
    rw [show (wi M 190 0 0).1 190 15 = M.1 190 15 from wi_1n (by omega)] at r1
    refine an_m_inForce (fun r10 => ?_)
    rw [show V_m_of (i32 c) 4 M11 = cl (M.1 191) c 4 from of_row (i := 4) r2 hc10 (by omega)]
    unfold W_m_sets
    rw [show ni ((18 + (13 * i32 c)) + 3) = 18 + 13 * c + 3 from ofs (i := 3) (by omega) (by omega), show ni ((18 + (13 * i32 c)) + 4) = 18 + 13 * c + 4 from ofs (i := 4) (by omega) (by omega), show ni ((18 + (13 * i32 c)) + 0) = 18 + 13 * c + 0 from ofs (i := 0) (by omega) (by omega)]
    have hs := hg.1.2.2.2 c hcn
    refine ⟨fun hz => ?_, fun hz => ?_⟩
    · have hrow := wi_row (k := 18 + 13 * c + 0) (x := 0) (wi_row (k := 18 + 13 * c + 3) (x := 0) (wi_row (k := 18 + 13 * c + 4) (x := -1) r2))
      refine an_m_inForce (fun r19 => ⟨_, KR_e (KR_e (KR_e r1 eqo_a rfl) eqo_a rfl) eqo_a rfl, ?_⟩)
      rw [hrow]
      refine KW_s r3 (by unfold nC; rw [up1_n (by omega), up1_n (by omega), up1_n (by omega)]) (by rw [up1_n (by omega), up1_n (by omega), up1_n (by omega)]) (by rw [up1_n (by omega), up1_n (by omega), up1_n (by omega)]) (by rw [up1_n (by omega), up1_n (by omega), up1_n (by omega)]) (fun c' hc' => ?_) (fun r _ => by rw [up1_n (by omega), up1_n (by omega), up1_n (by omega)])
      show up1 (up1 (up1 (M.1 191) (18 + 13 * c + 4) (-1)) (18 + 13 * c + 3) 0) (18 + 13 * c + 0) 0 (18 + 13 * c' + 1) = _
      rw [up1_n (by omega), up1_n (by omega), up1_n (by omega)]
      rfl
    · have hs2 : 0 ≤ (cl (M.1 191) c 4).toInt ∧ (cl (M.1 191) c 4).toInt < (M.1 191 0).toInt := by
        rcases hs.2.2.1 with h | h
        · exact absurd ((sp_neg hs).mpr h) hz
        · exact h
      have hsn : ni (cl (M.1 191) c 4) < 10 := by
        have := (nC_i hg.1).1
        have := (nC_i hg.1).2.1
        unfold ni
        omega
      have o4 : ni ((18 + (13 * cl (M.1 191) c 4)) + 4) = 18 + 13 * ni (cl (M.1 191) c 4) + 4 := by
        have := ofs (c := ni (cl (M.1 191) c 4)) (i := 4) (by omega) (by omega)
        rw [← i32_ni hs2.1] at this
        exact this
      rw [o4]
      generalize ni (cl (M.1 191) c 4) = sp at *
      have hrow := wi_row (k := 18 + 13 * c + 0) (x := 0) (wi_row (k := 18 + 13 * c + 3) (x := 0) (wi_row (k := 18 + 13 * c + 4) (x := -1) (wi_row (k := 18 + 13 * sp + 4) (x := -1) r2)))
      refine an_m_inForce (fun r19 => ⟨_, KR_e (KR_e (KR_e (KR_e r1 eqo_a rfl) eqo_a rfl) eqo_a rfl) eqo_a rfl, ?_⟩)
      rw [hrow]
      refine KW_s r3 (by unfold nC; rw [up1_n (by omega), up1_n (by omega), up1_n (by omega), up1_n (by omega)]) (by rw [up1_n (by omega), up1_n (by omega), up1_n (by omega), up1_n (by omega)]) (by rw [up1_n (by omega), up1_n (by omega), up1_n (by omega), up1_n (by omega)]) (by rw [up1_n (by omega), up1_n (by omega), up1_n (by omega), up1_n (by omega)]) (fun c' hc' => ?_) (fun r _ => by rw [up1_n (by omega), up1_n (by omega), up1_n (by omega), up1_n (by omega)])
      show up1 (up1 (up1 (up1 (M.1 191) (18 + 13 * sp + 4) (-1)) (18 + 13 * c + 4) (-1)) (18 + 13 * c + 3) 0) (18 + 13 * c + 0) 0 (18 + 13 * c' + 1) = _
      rw [up1_n (by omega), up1_n (by omega), up1_n (by omega), up1_n (by omega)]
      rfl
theorem k_baby (h : RG B M) (k : KI M) : W_m_baby p N M (fun _ M2 => KI M2) := by
  have hg := RG_w h
  obtain ⟨e0, hle, ei⟩ := nC_i hg.1
  unfold W_m_baby W_m_throwsIf
  cases hp : okc M p with
  | false =>
    simp only [noc_0 hg.1 hp, e10, e10n, true_implies, false_implies, not_true_eq_false, not_false_eq_true, and_true, true_and, if_true]
    exact KI_0 (KI_0 k 0) 1
  | true =>
    obtain ⟨c, rfl, hcn, hc10⟩ := okc_c hg.1 hp
    have fc : ∀ M1 : MM, M1.1 191 = M.1 191 → V_m_citizens M1 = i32 (nC (M.1 191)) := fun M1 a => by
      show M1.1 191 0 = _
      rw [a]
      exact ei
    simp only [noc_1 hg.1 hp, fc (wi M 190 0 0) rfl, e10, e10n, true_implies, false_implies, not_true_eq_false, not_false_eq_true, and_true, true_and, if_true]
    refine ⟨fun _ => KI_0 (KI_0 k 0) 2, fun _ => ⟨fun _ => KI_0 (KI_0 k 0) 3, fun h10 => k_rem hg.1 (KI_0 k 0) (fun M11 r1 r2 r3 => ?_)⟩⟩
    have hn : nC (M.1 191) < 10 := by
      apply Classical.byContradiction
      intro hb
      exact h10 (by rw [show nC (M.1 191) = 10 by omega]; rfl)
    have r2 : M11.1 191 = M.1 191 := r2
    have r3 : KW (M.1 190 15).toInt (M.1 191) := by
      rw [show (wi M 190 0 0).1 190 15 = M.1 190 15 from wi_1n (by omega)] at r3
      exact r3
    rw [show (wi M 190 0 0).1 190 15 = M.1 190 15 from wi_1n (by omega)] at r1
    rw [fc M11 r2]
    refine r_bab r2 hcn hn (fun M12 t1 t2 => ?_)
    unfold W_m_sets
    dsimp only
    rw [show ni ((18 + (13 * i32 (nC (M.1 191)))) + 1) = 18 + 13 * nC (M.1 191) + 1 from ofs (i := 1) (by omega) (by omega), show ni ((18 + (13 * i32 (nC (M.1 191)))) + 3) = 18 + 13 * nC (M.1 191) + 3 from ofs (i := 3) (by omega) (by omega), show ni ((18 + (13 * i32 (nC (M.1 191)))) + 4) = 18 + 13 * nC (M.1 191) + 4 from ofs (i := 4) (by omega) (by omega), show ni ((18 + (13 * i32 (nC (M.1 191)))) + 6) = 18 + 13 * nC (M.1 191) + 6 from ofs (i := 6) (by omega) (by omega), ni_i (show nC (M.1 191) < 2147483648 by omega)]
    have hrow := wi_row (k := 18 + 13 * nC (M.1 191) + 6) (x := 0) (wi_row (k := 18 + 13 * nC (M.1 191) + 4) (x := -1) (wi_row (k := 18 + 13 * nC (M.1 191) + 3) (x := 0) (wi_row (k := 18 + 13 * nC (M.1 191) + 1) (x := 0) t1)))
    have h0 : (wj (wi (wi (wi (wi M12 191 (18 + 13 * nC (M.1 191) + 1) 0) 191 (18 + 13 * nC (M.1 191) + 3) 0) 191 (18 + 13 * nC (M.1 191) + 4) (-1)) 191 (18 + 13 * nC (M.1 191) + 6) 0) 196 (nC (M.1 191)) (Int64.ofNat 0)).1 191 (ni 0) = M.1 191 0 := by
      rw [wj_1, hrow]
      show up1 _ _ _ 0 = _
      rw [up1_n (by omega), up1_n (by omega), up1_n (by omega), up1_n (by omega)]
      exact if_neg (by omega)
    rw [h0]
    have hrow2 := wi_row (k := 0) (x := M.1 191 0 + 1) (M1 := wj (wi (wi (wi (wi M12 191 (18 + 13 * nC (M.1 191) + 1) 0) 191 (18 + 13 * nC (M.1 191) + 3) 0) 191 (18 + 13 * nC (M.1 191) + 4) (-1)) 191 (18 + 13 * nC (M.1 191) + 6) 0) 196 (nC (M.1 191)) (Int64.ofNat 0)) hrow
    rw [cpR_e] at hrow2
    refine ⟨_, KR_e (KR_e (KR_e (KR_e (KR_e (KR_e (KR_e r1 t2 rfl) eqo_a rfl) eqo_a rfl) eqo_a rfl) eqo_a rfl) eqo_b rfl) (eqo_a (a := 191)) rfl, ?_⟩
    rw [show ni 0 = 0 from rfl, hrow2]
    obtain ⟨b0, b1⟩ := bab_0 (c := c) hg.1
    obtain ⟨a, b, d⟩ := r3
    refine ⟨fun c' hc' j hj hb => ?_, fun r hr => ?_, by rw [bab_k (by omega) (by omega), bab_k (by omega) (by omega)]; exact d⟩
    · rw [b1] at hc'
      by_cases e : c' = nC (M.1 191)
      · rw [e, bab_n (by omega), if_pos rfl, tb_0] at hb
        cases hb
      · rw [bab_o e (by omega)] at hb
        exact a c' (by omega) j hj hb
    · rw [bab_k (by omega) (by omega)] at hr
      rw [bab_l hn (by omega)]
      exact b r hr
theorem k_undo (h : RG B M) (k : KI M) : W_m_undo N M (fun _ M2 => KI M2) := by
  obtain ⟨z, ⟨ka, kb, ⟨m, hh, hr, hi⟩, kd⟩, kw⟩ := k
  obtain ⟨m1, m2, m3⟩ := hr
  match m, m1, m2, m3, hi with
  | 0, m1, m2, m3, hi =>
    unfold W_m_undo
    rw [show (wi M 190 0 0).1 190 12 = 0 from by rw [wi_1n (by omega), m2]; rfl]
    exact ⟨fun _ => KI_0 ⟨z, ⟨ka, kb, ⟨0, hh, ⟨m1, m2, m3⟩, hi⟩, kd⟩, kw⟩ 0, fun h => absurd rfl h⟩
  | m' + 1, m1, m2, m3, hi =>
    have hh0 := m3 0 (by omega)
    obtain ⟨g0, g1⟩ := hi 0 (by omega)
    refine and_m_undo (Q1 := fun b M2 => Eqo fp_m_undo M M2) (Q2 := fun b M2 => M2.1 190 12 = i32 m' ∧ M2.1 195 = M.1 195 ∧ M2.2 200 = M.2 200 ∧ (∀ k, k < 388 → M2.1 191 k = (hh 0).1 k)) (fun b M2 e2 q => ?_) (an_m_undo (fun r M1 h => h)) ?_
    · obtain ⟨z12, z195, z200, zw⟩ := q
      refine ⟨z, ⟨by rw [eq1 e2 (b := 190) (k := 15) rfl]; exact ka, fun j hj => by rw [eqb e2 (lo := 201) (hi := 201) rfl (Nat.le_refl _) (Nat.le_refl _)]; exact kb j hj, ⟨m', fun i => hh (i + 1), ⟨by omega, z12, fun i hi' => ?_⟩, fun i hi' => hi (i + 1) (by omega)⟩, ?_⟩, KW_c g1 g0 zw⟩
      · rw [z195, z200]
        have := m3 (i + 1) (by omega)
        rw [show m' + 1 - 1 - (i + 1) = m' - 1 - i by omega] at this
        exact this
      · rw [eq1 e2 (b := 190) (k := 11) rfl, eq1 e2 (b := 190) (k := 15) rfl, eq1 e2 (b := 190) (k := 16) rfl, eqb e2 (lo := 192) (hi := 192) rfl (Nat.le_refl _) (Nat.le_refl _)]
        exact kd
    · unfold W_m_undo
      rw [show (wi M 190 0 0).1 190 12 = i32 (m' + 1) from by rw [wi_1n (by omega)]; exact m2]
      rw [show i32 (m' + 1) - 1 = i32 m' from i32_sb m' 1, wi_1e, show (388 : Int32) * i32 m' = i32 (388 * m') from i32_m 388 m']
      refine ⟨fun hz => absurd ((i32_inj (j := m' + 1) (k := 0) (by omega) (by omega)).mp hz) (by omega), fun _ => ?_⟩
      refine sp_likens (R := 0) (by omega) (by omega) (Or.inl (by decide)) ?_
      have e2 : (lkM (wi (wi M 190 0 0) 190 12 (i32 m')) 195 (388 * m') 191 0 388).1 190 12 = i32 m' := by
        unfold lkM
        dsimp only
        rw [if_neg (by omega), wi_1e]
      rw [e2, show (10 : Int32) * i32 m' = i32 (10 * m') from i32_m 10 m']
      refine sp_likensS (R := 0) (by omega) (by omega) (Or.inl (by decide)) ?_
      refine ⟨e2, ?_, ?_, fun j hj => ?_⟩
      · funext j
        show (lkM (wi (wi M 190 0 0) 190 12 (i32 m')) 195 (388 * m') 191 0 388).1 195 j = _
        unfold lkM
        dsimp only
        rw [if_neg (by omega), wi_1n (by omega), wi_1n (by omega)]
      · funext j
        unfold lkS
        dsimp only
        rw [if_neg (by omega)]
        rfl
      · show (lkM (wi (wi M 190 0 0) 190 12 (i32 m')) 195 (388 * m') 191 0 388).1 191 j = _
        unfold lkM
        dsimp only
        rw [if_pos (by omega), wi_1n (by omega), wi_1n (by omega), show j - 0 = j by omega]
        have := hh0.1 j hj
        rw [show m' + 1 - 1 - 0 = m' by omega] at this
        exact this
theorem k_image (h : RG B M) (k : KI M) : W_m_image N M (fun M2 => KI M2) := by
  have hg := RG_w h
  obtain ⟨z, ⟨ka, kb, ⟨m, hh, hr, hi⟩, kd⟩, kw⟩ := k
  subst ka
  refine and_m_image (Q1 := fun M2 => Eqo fp_m_image M M2) (Q2 := fun M2 => M2.1 190 16 = M.1 190 15 ∧ (∀ k, k < 388 → M2.1 192 k = M.1 191 k)) (fun M2 e2 q => ?_) (an_m_image (fun M1 h => h)) ?_
  · obtain ⟨z16, zw⟩ := q
    refine ⟨_, ⟨by rw [eq1 e2 (b := 190) (k := 15) rfl], fun j hj => by rw [eqb e2 (lo := 201) (hi := 201) rfl (Nat.le_refl _) (Nat.le_refl _)]; exact kb j hj, ⟨m, hh, RMm_eq hr e2 rfl, hi⟩, Or.inr ⟨Or.inr (by rw [z16, eq1 e2 (b := 190) (k := 15) rfl]), WF_w hg.1 zw, by rw [z16]; exact KW_c kw hg.1 zw⟩⟩, by rw [eqb e2 (lo := 191) (hi := 191) rfl (Nat.le_refl _) (Nat.le_refl _)]; exact kw⟩
  · unfold W_m_image
    refine sp_likens (P := 0) (R := 0) (by omega) (by omega) (Or.inl (by decide)) ?_
    refine sp_likensS (P := 0) (R := 0) (by omega) (by omega) (Or.inl (by decide)) ?_
    refine ⟨?_, fun j hj => ?_⟩
    · rw [wi_1n (by omega), wi_1e]
      show (lkM (wi M 190 0 0) 191 0 192 0 388).1 190 15 = _
      unfold lkM
      dsimp only
      rw [if_neg (by omega), wi_1n (by omega)]
    · rw [wi_1n (by omega), wi_1n (by omega)]
      show (lkM (wi M 190 0 0) 191 0 192 0 388).1 192 j = _
      unfold lkM
      dsimp only
      rw [if_pos (by omega), wi_1n (by omega), show 0 + (j - 0) = j by omega]
theorem k_back (h : RG B M) (k : KI M) : W_m_back N M (fun _ M2 => KI M2) := by
  obtain ⟨z, ⟨ka, kb, km, kd⟩, kw⟩ := k
  rcases kd with kd | ⟨i1, i2, i3⟩
  · unfold W_m_back
    rw [show (wi M 190 0 0).1 190 11 = 0 from by rw [wi_1n (by omega)]; exact kd]
    exact ⟨fun _ => KI_0 ⟨z, ⟨ka, kb, km, Or.inl kd⟩, kw⟩ 0, fun h => absurd rfl h⟩
  · refine and_m_back (Q1 := fun b M2 => Eqo fp_m_back M M2) (Q2 := fun b M2 => (b = 0 ∧ M2 = wi M 190 0 0) ∨ (M2.1 190 15 = M.1 190 16 ∧ M2.1 190 12 = 0 ∧ ∀ k, k < 388 → M2.1 191 k = M.1 192 k)) (fun b M2 e2 q => ?_) (an_m_back (fun r M1 h => h)) ?_
    · rcases q with ⟨_, rfl⟩ | ⟨z15, z12, zw⟩
      · exact KI_0 ⟨z, ⟨ka, kb, km, Or.inr ⟨i1, i2, i3⟩⟩, kw⟩ 0
      · refine ⟨_, ⟨rfl, fun j hj => ?_, ⟨0, fun _ => (M.1 191, M.2 196), ⟨by omega, by rw [z12]; rfl, fun i hi => absurd hi (by omega)⟩, fun i hi => absurd hi (by omega)⟩, Or.inr ⟨Or.inr ?_, ?_, ?_⟩⟩, ?_⟩
        · rw [eqb e2 (lo := 201) (hi := 201) rfl (Nat.le_refl _) (Nat.le_refl _)]
          rw [z15] at hj
          rcases i1 with e | e
          · rw [e] at hj
            exact absurd hj (by rw [show (-1 : Int32).toInt = -1 from rfl]; omega)
          · rw [e, ka] at hj
            exact kb j hj
        · rw [eq1 e2 (b := 190) (k := 16) rfl, z15]
        · rw [eqb e2 (lo := 192) (hi := 192) rfl (Nat.le_refl _) (Nat.le_refl _)]; exact i2
        · rw [eq1 e2 (b := 190) (k := 16) rfl, eqb e2 (lo := 192) (hi := 192) rfl (Nat.le_refl _) (Nat.le_refl _)]; exact i3
        · rw [z15]
          exact KW_c i3 i2 zw
    · unfold W_m_back
      refine ⟨fun _ => Or.inl ⟨rfl, rfl⟩, fun _ => ?_⟩
      refine sp_likens (P := 0) (R := 0) (by omega) (by omega) (Or.inl (by decide)) ?_
      refine sp_likensS (P := 0) (R := 0) (by omega) (by omega) (Or.inl (by decide)) ?_
      refine Or.inr ⟨?_, wi_1e, fun j hj => ?_⟩
      · rw [wi_1n (by omega), wi_1e]
        show (lkM (wi M 190 0 0) 192 0 191 0 388).1 190 16 = _
        unfold lkM
        dsimp only
        rw [if_neg (by omega), wi_1n (by omega)]
      · rw [wi_1n (by omega), wi_1n (by omega)]
        show (lkM (wi M 190 0 0) 192 0 191 0 388).1 191 j = _
        unfold lkM
        dsimp only
        rw [if_pos (by omega), wi_1n (by omega), show 0 + (j - 0) = j by omega]
end KAC
