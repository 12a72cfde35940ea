/-! ACTS: dead; days; undone -/
def dieS (w : RW) (c : Nat) : RW := if cl w c 4 = -1 then up1 (up1 (up1 w (18 + 13 * c + 0) 0) (18 + 13 * c + 3) 0) (18 + 13 * c + 4) (-1) else up1 (up1 (up1 (up1 w (18 + 13 * c + 0) 0) (18 + 13 * c + 3) 0) (18 + 13 * ni (cl w c 4) + 4) (-1)) (18 + 13 * c + 4) (-1)
theorem dieS_W {w : RW} {c : Nat} (hw : WF w) (hc : c < nC w) : WF (dieS w c) ∧ nC (dieS w c) = nC w ∧ dieS w c 2 = w 2 := by
  have h0 : WF (up1 w (18 + 13 * c + 0) 0) := WF_dd hw
  have n0' : nC (up1 w (18 + 13 * c + 0) 0) = nC w := by unfold nC; rw [up1_n (by omega)]
  have h3 := (tk_W (x := 0) h0 (by rw [n0']; exact hc) (by decide)).1
  unfold dieS
  split
  · exact ⟨WF_sp h3 (Or.inl rfl), by unfold nC; rw [up1_n (by omega), up1_n (by omega), up1_n (by omega)], by rw [up1_n (by omega), up1_n (by omega), up1_n (by omega)]⟩
  · exact ⟨WF_sp (WF_sp h3 (Or.inl rfl)) (Or.inl rfl), by unfold nC; rw [up1_n (by omega), up1_n (by omega), up1_n (by omega), up1_n (by omega)], by rw [up1_n (by omega), up1_n (by omega), up1_n (by omega), up1_n (by omega)]⟩
theorem dieS_1 {w : RW} {c : Nat} : dieS w c 1 = w 1 := by
  unfold dieS
  split
  · rw [up1_n (by omega), up1_n (by omega), up1_n (by omega)]
  · rw [up1_n (by omega), up1_n (by omega), up1_n (by omega), up1_n (by omega)]
section AC4
variable {B : Int} {M : MM} {p q : Int32}
theorem c_bury {a c N : Nat} {w : RW} {s : RS} {Q : MM → Prop} (h : CW M a w s) (hw : WF w) (hc : c < nC w) (hQ : ∀ M', CW M' a (dieS w c) s → Eqo (fp_World_bury a) M M' → Q M') : W_World_bury a (i32 c) N M Q := by
  have hn := (nC_i hw).2.1
  refine and_World_bury (Q1 := fun M' => CW M' a (dieS w c) s) (fun M' h1 h2 => hQ M' h1 h2) ?_ (an_World_bury (Q := fun M' => Eqo (fp_World_bury a) M M') (fun M1 h => h))
  unfold W_World_bury
  rw [ni_i (by omega)]
  have h1 := CW_dd h hn hc
  have n1 : nC (up1 w (18 + 13 * c + 0) 0) = nC w := by unfold nC; rw [up1_n (by omega)]
  have h2 := CW_ct (x := 0) h1 (by rw [n1]; exact hn) (by rw [n1]; exact hc) (Or.inr (Or.inr (Or.inl ⟨rfl, rfl⟩)))
  have n2 : nC (up1 (up1 w (18 + 13 * c + 0) 0) (18 + 13 * c + 3) 0) = nC w := by unfold nC; rw [up1_n (by omega), up1_n (by omega)]
  have e4 : cl (up1 (up1 w (18 + 13 * c + 0) 0) (18 + 13 * c + 3) 0) c 4 = cl w c 4 := by rw [cl_up (by omega) (by omega), if_neg (by omega), cl_up (by omega) (by omega), if_neg (by omega)]
  have e0 : (up1 (up1 w (18 + 13 * c + 0) 0) (18 + 13 * c + 3) 0) 0 = w 0 := by rw [up1_n (by omega), up1_n (by omega)]
  have q4 := (h2.2.2.2.1 c (by rw [n2]; exact hc)).2.2.2.1
  have q0 := h2.1.1
  rw [e4] at q4
  rw [e0] at q0
  generalize wi (wi M a 1 (M.1 a 1 &&& (sl 1 (i32 c) ^^^ (-1)))) (a + 3) c 0 = M2 at *
  rw [q4]
  unfold V_World_isThere
  rw [q0]
  have hsp := (hw.2.2.2 c hc).2.2.1
  unfold dieS
  refine ⟨fun hz => ?_, fun hz => ?_⟩
  · have hm1 : cl w c 4 = -1 := by
      rcases hsp with h | h
      · exact h
      · rw [if_neg (by rw [Int32.lt_iff_toInt_lt, show (0 : Int32).toInt = 0 from rfl]; omega), if_pos (by rw [Int32.lt_iff_toInt_lt]; omega)] at hz
        exact absurd hz (by decide)
    rw [if_pos hm1]
    exact CW_ct (x := -1) h2 (by rw [n2]; exact hn) (by rw [n2]; exact hc) (Or.inr (Or.inr (Or.inr (Or.inl ⟨rfl, rfl⟩))))
  · have hnm : ¬ cl w c 4 = -1 := fun e => hz (by rw [e, if_pos (by decide)])
    rw [if_neg hnm]
    have hs2 : 0 ≤ (cl w c 4).toInt ∧ (cl w c 4).toInt < (w 0).toInt := by
      rcases hsp with h | h
      · exact absurd h hnm
      · exact h
    have hsn : ni (cl w c 4) < nC w := by
      have := (nC_i hw).1
      unfold ni
      omega
    have h3 := CW_ct (x := -1) h2 (by rw [n2]; exact hn) (by rw [n2]; exact hsn) (Or.inr (Or.inr (Or.inr (Or.inl ⟨rfl, rfl⟩))))
    have n3 : nC (up1 (up1 (up1 w (18 + 13 * c + 0) 0) (18 + 13 * c + 3) 0) (18 + 13 * ni (cl w c 4) + 4) (-1)) = nC w := by unfold nC; rw [up1_n (by omega), up1_n (by omega), up1_n (by omega)]
    exact CW_ct (x := -1) h3 (by rw [n3]; exact hn) (by rw [n3]; exact hc) (Or.inr (Or.inr (Or.inr (Or.inl ⟨rfl, rfl⟩))))
/-- dead -/
theorem a_die (h : CP B M) {N : Nat} : W_E_die p N M (fun y M1 => ∀ z N', W_m_die p N' (wj M1 215 0 z) (fun b M2 => CP B M2 ∧ M2.1 190 0 = 0 ∧ y = b)) (fun ce M1 => ∀ N', W_m_die p N' M1 (fun _ M2 => CP B M2 ∧ M2.1 190 0 = if ce = 2 then 1 else 2)) := by
  obtain ⟨hc, hg⟩ := h.2.2.2.1
  have hn := (nC_i hg.1).2.1
  unfold W_E_die
  refine s_cit hc (fun hp => ?_) (fun hp N' => ?_)
  · obtain ⟨c, rfl, hcn, hc10⟩ := okc_c hg.1 hp
    refine s_alive hc hg.1 hcn (fun ha => ?_) (fun ha N' => ?_)
    · refine s_rem h (fun M9 m hh hr hi hm hw e9 => ?_)
      obtain ⟨wd, nd, d2⟩ := dieS_W hg.1 hcn
      refine c_force hw hg.1 ?_
      refine c_bury hw hg.1 hcn (fun M1 h1 eb => ?_)
      refine c_force h1 wd (fun z N' => ?_)
      rw [nd]
      unfold W_m_die W_m_throwsIf
      have eM := eqo_app (eqo_app e9 eb) (eqo_z (z := z))
      have hm1 := CM_eq (CM_eq hm eb rfl) (eqo_z (z := z)) rfl
      have h1 := CW_eq h1 (eqo_z (z := z)) rfl
      generalize wj M1 215 0 z = M1 at *
      have a1 := eqb eM (lo := 191) (hi := 191) rfl (Nat.le_refl _) (Nat.le_refl _)
      simp only [noc_e a1, al_e a1, noc_1 hg.1 hp, al_1 hc10 ha, e10, e10n, true_implies, false_implies, not_true_eq_false, not_false_eq_true, and_true, true_and, if_true]
      refine t_rem hr eM rfl (fun M11 r1 r2 r3 r4 z0 => ?_)
      refine r_force hg.1 r2 ?_
      rw [show V_m_of (i32 c) 4 M11 = cl (M.1 191) c 4 from of_row (i := 4) r2 hc10 (by omega)]
      unfold W_m_sets
      rw [show ni ((18 + (13 * i32 c)) + 3) = 18 + 13 * c + 3 from ofs (i := 3) (by omega) (by omega), show ni ((18 + (13 * i32 c)) + 4) = 18 + 13 * c + 4 from ofs (i := 4) (by omega) (by omega), show ni ((18 + (13 * i32 c)) + 0) = 18 + 13 * c + 0 from ofs (i := 0) (by omega) (by omega)]
      have hs := hg.1.2.2.2 c hcn
      refine ⟨fun hz => ?_, fun hz => ?_⟩
      · have hm1' := (sp_neg hs).mp hz
        have er := eqo_app (eqo_a (M := M11) (a := 191) (k := 18 + 13 * c + 4) (x := -1)) (eqo_app (eqo_a (a := 191) (k := 18 + 13 * c + 3) (x := 0)) (eqo_a (a := 191) (k := 18 + 13 * c + 0) (x := 0)))
        have hrow := wi_row (k := 18 + 13 * c + 0) (x := 0) (wi_row (k := 18 + 13 * c + 3) (x := 0) (wi_row (k := 18 + 13 * c + 4) (x := -1) r2))
        have hd : up1 (up1 (up1 (M.1 191) (18 + 13 * c + 4) (-1)) (18 + 13 * c + 3) 0) (18 + 13 * c + 0) 0 = dieS (M.1 191) c := by
          unfold dieS
          rw [if_pos hm1', up1_c (k := 18 + 13 * c + 4) (k' := 18 + 13 * c + 3) (by omega), up1_c (k := 18 + 13 * c + 4) (k' := 18 + 13 * c + 0) (by omega), up1_c (k := 18 + 13 * c + 3) (k' := 18 + 13 * c + 0) (by omega)]
        rw [hd] at hrow
        have e2 := eqo_app r4 er
        refine r_force wd hrow ?_
        rw [nd]
        exact ⟨CP_mk h (eqo_app eM e2) rfl hrow r3 (CW_eq h1 e2 rfl) (GW_r hg wd d2 dieS_1) (CM_eq hm1 e2 rfl) (RMm_eq r1 er rfl) hi (Int.le_refl _), z0, rfl⟩
      · have hnm : ¬ cl (M.1 191) c 4 = -1 := fun e => hz ((sp_neg hs).mpr e)
        have hs2 : 0 ≤ (cl (M.1 191) c 4).toInt ∧ (cl (M.1 191) c 4).toInt < (M.1 191 0).toInt := by
          rcases hs.2.2.1 with h | h
          · exact absurd h hnm
          · exact h
        have hsn : ni (cl (M.1 191) c 4) < 10 := by
          have := (nC_i hg.1).1
          unfold ni
          omega
        have o4 : ni ((18 + (13 * cl (M.1 191) c 4)) + 4) = 18 + 13 * ni (cl (M.1 191) c 4) + 4 := by
          have := ofs (c := ni (cl (M.1 191) c 4)) (i := 4) (by omega) (by omega)
          rw [← i32_ni hs2.1] at this
          exact this
        rw [o4]
        have hcne : ni (cl (M.1 191) c 4) = ni (cl (M.1 191) c 4) := rfl
        generalize hsp : ni (cl (M.1 191) c 4) = sp at *
        have er := eqo_app (eqo_a (M := M11) (a := 191) (k := 18 + 13 * sp + 4) (x := -1)) (eqo_app (eqo_a (a := 191) (k := 18 + 13 * c + 4) (x := -1)) (eqo_app (eqo_a (a := 191) (k := 18 + 13 * c + 3) (x := 0)) (eqo_a (a := 191) (k := 18 + 13 * c + 0) (x := 0))))
        have hrow := wi_row (k := 18 + 13 * c + 0) (x := 0) (wi_row (k := 18 + 13 * c + 3) (x := 0) (wi_row (k := 18 + 13 * c + 4) (x := -1) (wi_row (k := 18 + 13 * sp + 4) (x := -1) r2)))
        have hd : up1 (up1 (up1 (up1 (M.1 191) (18 + 13 * sp + 4) (-1)) (18 + 13 * c + 4) (-1)) (18 + 13 * c + 3) 0) (18 + 13 * c + 0) 0 = dieS (M.1 191) c := by
          unfold dieS
          rw [if_neg hnm, hsp, up1_c (k := 18 + 13 * c + 4) (k' := 18 + 13 * c + 3) (by omega), up1_c (k := 18 + 13 * c + 4) (k' := 18 + 13 * c + 0) (by omega), up1_c (k := 18 + 13 * sp + 4) (k' := 18 + 13 * c + 3) (by omega), up1_c (k := 18 + 13 * sp + 4) (k' := 18 + 13 * c + 0) (by omega), up1_c (k := 18 + 13 * c + 3) (k' := 18 + 13 * c + 0) (by omega)]
        rw [hd] at hrow
        have e2 := eqo_app r4 er
        refine r_force wd hrow ?_
        rw [nd]
        exact ⟨CP_mk h (eqo_app eM e2) rfl hrow r3 (CW_eq h1 e2 rfl) (GW_r hg wd d2 dieS_1) (CM_eq hm1 e2 rfl) (RMm_eq r1 er rfl) hi (Int.le_refl _), z0, rfl⟩
    · unfold W_m_die W_m_throwsIf
      simp only [noc_1 hg.1 hp, al_0 hc10 ha, e10, e10n, true_implies, false_implies, not_true_eq_false, not_false_eq_true, and_true, true_and, if_true]
      exact CP_t h 2 (fun e => e)
  · unfold W_m_die W_m_throwsIf
    simp only [noc_0 hg.1 hp, e10, e10n, true_implies, false_implies, not_true_eq_false, not_false_eq_true, and_true, true_and, if_true]
    exact CP_t h 1 (fun e => e)
/-! days -/
def dayI (L : LWT) : Nat → RW × RS → RW × RS
  | 0, x => x
  | n + 1, x => dayS L (dayI L n x).1 (dayI L n x).2
theorem dayI_s {L : LWT} {n : Nat} {x : RW × RS} : dayI L (n + 1) x = dayS L (dayI L n x).1 (dayI L n x).2 := rfl
theorem dayI_W {L : LWT} {x : RW × RS} (hw : WF x.1) (h0 : 0 ≤ (x.1 2).toInt) : ∀ n : Nat, (x.1 2).toInt + n ≤ 29000 → WF (dayI L n x).1 ∧ ((dayI L n x).1 2).toInt = (x.1 2).toInt + n
  | 0, _ => ⟨hw, by show (x.1 2).toInt = _; omega⟩
  | n + 1, hn => by
    obtain ⟨h1, h2⟩ := dayI_W (L := L) hw h0 n (by omega)
    obtain ⟨h3, -, h4⟩ := dayS_W (L := L) (s := (dayI L n x).2) h1
    refine ⟨h3, ?_⟩
    rw [dayI_s, h4, i32_add (by rw [show (1 : Int32).toInt = 1 from rfl]; omega) (by rw [show (1 : Int32).toInt = 1 from rfl]; omega), show (1 : Int32).toInt = 1 from rfl]
    omega
theorem dayI_1 {L : LWT} {x : RW × RS} (hw : WF x.1) (h0 : 0 ≤ (x.1 2).toInt) : ∀ n : Nat, (x.1 2).toInt + n ≤ 29000 → (dayI L n x).1 1 = x.1 1
  | 0, _ => rfl
  | n + 1, hn => by
    obtain ⟨h1, h2⟩ := dayI_W (L := L) hw h0 n (by omega)
    obtain ⟨h3, h5, h4⟩ := dayS_W (L := L) (s := (dayI L n x).2) h1
    rw [dayI_s, h5 1 (by omega) (by omega) (by omega) (by omega) (by omega) (by omega) (by omega)]
    exact dayI_1 hw h0 n (by omega)
theorem c_dayE {a N : Nat} {w : RW} {s : RS} {L : LWT} {Q : MM → Prop} (h : CW M a w s) (hw : WF w) (hL : LawC M 8 L) (ha : 13 ≤ a) (hd : dOK w) (hQ : ∀ M', CW M' a (dayS L w s).1 (dayS L w s).2 → LawC M' 8 L → Eqo (fp_World_passDay a) M M' → Q M') : W_World_passDay a N M Q :=
  and_World_passDay (Q1 := fun M' => CW M' a (dayS L w s).1 (dayS L w s).2 ∧ LawC M' 8 L) (fun M' h1 h2 => hQ M' h1.1 h1.2 h2) (c_day h hw hL ha hd (fun M' h1 h2 => ⟨h1, h2⟩)) (an_World_passDay (Q := fun M' => Eqo (fp_World_passDay a) M M') (fun M1 h => h))
theorem a_days (h : CP B M) (hB : 0 ≤ B ∧ B ≤ 28000) {N : Nat} : W_E_days p N M (fun y M1 => ∀ z N', W_m_days p N' (wj M1 215 0 z) (fun b M2 => CP (B + 50) M2 ∧ M2.1 190 0 = 0 ∧ y = b)) (fun _ M1 => ∀ N', W_m_days p N' M1 (fun _ M2 => CP (B + 50) M2 ∧ M2.1 190 0 = 1)) := by
  obtain ⟨hT, hF, ⟨L, hL, hR, hTL, hI⟩, ⟨hc, hg⟩, hMem⟩ := h
  have h : CP B M := ⟨hT, hF, ⟨L, hL, hR, hTL, hI⟩, ⟨hc, hg⟩, hMem⟩
  have hmono : ∀ M', CP B M' → CP (B + 50) M' := fun M' ⟨q1, q2, ⟨L, l1, l2, l3, l4⟩, ⟨w1, w2⟩, m, hh, m1, m2, m3⟩ => ⟨q1, q2, ⟨L, l1, l2, l3, IMG_le l4 (by omega)⟩, ⟨w1, GW_le w2 (by omega)⟩, m, hh, m1, m2, fun i hi => GW_le (m3 i hi) (by omega)⟩
  by_cases hp : 1 ≤ p.toInt ∧ p.toInt ≤ 50
  · have fin : ∀ X : MM, V_m_in p 1 50 X = 1 := fun X => by rw [v_in, show (1 : Int32).toInt = 1 from rfl, show (50 : Int32).toInt = 50 from rfl, decide_eq_true hp]; rfl
    refine and_E_days (Q1 := fun y M1 => Eqo fp_E_days M M1) (E1 := fun _ _ => True) (Q2 := fun y M1 => ∃ m hh, RMm M m hh ∧ (∀ i, i < min (m + 1) 10 → GW B ((hpush (M.1 191, M.2 196) hh) i).1) ∧ CM M1 (min (m + 1) 10) (hpush (M.1 191, M.2 196) hh) ∧ CW M1 18 (dayI L (ni p) (M.1 191, M.2 196)).1 (dayI L (ni p) (M.1 191, M.2 196)).2 ∧ y = (dayI L (ni p) (M.1 191, M.2 196)).1 3 - M.1 191 3) (E2 := fun _ _ => False) (fun y M1 e1 h2 z N' => ?_) (fun ce M1 _ hf => hf.elim) (an_E_days (fun r M1 h => h) (fun ce M1 h => trivial)) ?_
    · obtain ⟨m, hh, hr, hi, hm, hw, rfl⟩ := h2
      have e1 := eqo_app e1 (eqo_z (z := z))
      have hm := CM_eq hm (eqo_z (z := z)) rfl
      have hw := CW_eq hw (eqo_z (z := z)) rfl
      generalize wj M1 215 0 z = M1 at *
      have a1 := eqb e1 (lo := 191) (hi := 191) rfl (Nat.le_refl _) (Nat.le_refl _)
      have a2 := eqb2 e1 (lo := 196) (hi := 196) rfl (Nat.le_refl _) (Nat.le_refl _)
      refine and_m_days (Q1 := fun b M2 => Eqo fp_m_days M1 M2) (Q2 := fun b M2 => RMm M2 (min (m + 1) 10) (hpush (M.1 191, M.2 196) hh) ∧ M2.1 191 = (dayI L (ni p) (M.1 191, M.2 196)).1 ∧ M2.2 196 = (dayI L (ni p) (M.1 191, M.2 196)).2 ∧ M2.1 190 0 = 0 ∧ (dayI L (ni p) (M.1 191, M.2 196)).1 3 - M.1 191 3 = b) (fun b M2 e2 h2 => ?_) (an_m_days (fun r M1 h => h)) ?_
      · obtain ⟨r1, r2, r3, z0, hy⟩ := h2
        obtain ⟨dW, dD⟩ := dayI_W (L := L) (x := (M.1 191, M.2 196)) hg.1 hg.2.1 (ni p) (by
          have h1 := hg.2.2
          have h2 : ((ni p : Nat) : Int) = p.toInt := by unfold ni; omega
          show (M.1 191 2).toInt + _ ≤ _
          omega)
        have d1 := dayI_1 (L := L) (x := (M.1 191, M.2 196)) hg.1 hg.2.1 (ni p) (by
          have h1 := hg.2.2
          have h2 : ((ni p : Nat) : Int) = p.toInt := by unfold ni; omega
          show (M.1 191 2).toInt + _ ≤ _
          omega)
        have hnp : ((ni p : Nat) : Int) = p.toInt := by unfold ni; omega
        refine ⟨CP_mk h (eqo_app e1 e2) rfl r2 r3 (CW_eq hw e2 rfl) ⟨dW, by rw [dD]; have := hg.2.1; show 0 ≤ (M.1 191 2).toInt + _; omega, by rw [dD]; have := hg.2.2; show (M.1 191 2).toInt + _ ≤ _; omega, by rw [d1]; exact hg.2.2.2⟩ (CM_eq hm e2 rfl) r1 (fun i h => GW_le (hi i h) (by omega)) (by omega), z0, hy⟩
      · unfold W_m_days W_m_throwsIf
        simp only [fin, e10, e10n, true_implies, false_implies, not_true_eq_false, not_false_eq_true, and_true, true_and, if_true]
        refine t_rem hr e1 rfl (fun M11 r1 r2 r3 r4 z0 => ?_)
        have hL11 : LawR M11 L := LawR_eq hR (eqo_app e1 r4) rfl
        have hn11 : V_m_clauses M11 = i32 L.1 := by
          obtain ⟨n, n1, n2, n3⟩ := CP_n h
          have : V_m_clauses M11 = V_m_clauses M := by
            unfold V_m_clauses
            rw [eq1 (eqo_app e1 r4) (b := 190) (k := 15) rfl]
          rw [this, n3, ← n2, hL.1]
        have ep := i32_ni (x := p) (by omega)
        have bp : ni p ≤ 50 := by unfold ni; omega
        have hnp : ((ni p : Nat) : Int) = p.toInt := by unfold ni; omega
        rw [n3, r2]
        refine I_m_days_43 p _ _ (fun v M' => ∃ j f d v', j ≤ ni p ∧ v = i32 j ∧ M' = rM M11 (dayI L j (M.1 191, M.2 196)).1 (dayI L j (M.1 191, M.2 196)).2 f d v') (fun N ih v M' hih hv => ?_) N' _ _ ⟨0, M11.1 190 29, M11.1 190 30, M11.1 207, by omega, rfl, by
          show M11 = rM M11 (M.1 191) (M.2 196) _ _ _
          rw [← r2, ← r3, rM_id]⟩
        obtain ⟨j, f, d, v', hj, rfl, rfl⟩ := hv
        obtain ⟨dW, dD⟩ := dayI_W (L := L) (x := (M.1 191, M.2 196)) hg.1 hg.2.1 j (by have := hg.2.2; show (M.1 191 2).toInt + _ ≤ _; omega)
        unfold B_m_days_43
        have hlt' : (i32 j < p) ↔ j < ni p := by
          have := i32_lt (j := j) (k := ni p) (by omega) (by omega)
          rw [← ep] at this
          exact this
        rw [hlt']
        refine ⟨fun hlt => ?_, fun hlt => ?_⟩
        · refine r_day hL11 hn11 dW ⟨by rw [dD]; have := hg.2.1; show 0 ≤ (M.1 191 2).toInt + _; omega, by rw [dD]; have := hg.2.2; show (M.1 191 2).toInt + _ ≤ _; omega⟩ (fun f' d' v'' => ?_)
          exact hih _ _ ⟨j + 1, f', d', v'', by omega, i32_s j, rfl⟩
        · obtain rfl : j = ni p := by omega
          refine ⟨RMm_eq (M := M11) (l := [(190, 190, some 29), (190, 190, some 30), (191, 191, none), (196, 196, none), (207, 207, none)]) r1 (fun b j hb => ?_) rfl, rM_191, rM_196, ?_, by rw [rM_191, n3]⟩
          · unfold rM
            dsimp only
            have nb : ∀ x o, (x, x, o) ∈ [(190, 190, some 29), (190, 190, some 30), (191, 191, none), (196, 196, none), (207, 207, none)] → (o = none ∨ o = some j) → b ≠ x := fun x o hm ho e => by
              subst e
              have : fpm [(190, 190, some 29), (190, 190, some 30), (191, 191, none), (196, 196, none), (207, 207, none)] b j = true := by
                unfold fpm
                rw [List.any_eq_true]
                refine ⟨_, hm, ?_⟩
                rcases ho with rfl | rfl
                · simp
                · simp
              rw [this] at hb
              cases hb
            have m1 := nb 191 none (by decide) (Or.inl rfl)
            have m2 := nb 207 none (by decide) (Or.inl rfl)
            have m3 := nb 196 none (by decide) (Or.inl rfl)
            refine ⟨?_, by rw [if_neg m3]⟩
            rw [if_neg m1, if_neg m2]
            by_cases q1 : b = 190 ∧ j = 29
            · exact absurd q1.1 (nb 190 (some 29) (by decide) (Or.inr (by rw [q1.2])))
            · rw [if_neg q1]
              by_cases q2 : b = 190 ∧ j = 30
              · exact absurd q2.1 (nb 190 (some 30) (by decide) (Or.inr (by rw [q2.2])))
              · rw [if_neg q2]
          · exact z0
    · unfold W_E_days W_E_needNumber
      refine ⟨fun hlt => ?_, fun _ => ⟨fun hlt => ?_, fun _ => ?_⟩⟩
      · rw [Int32.lt_iff_toInt_lt, show (1 : Int32).toInt = 1 from rfl] at hlt; omega
      · rw [Int32.lt_iff_toInt_lt, show (50 : Int32).toInt = 50 from rfl] at hlt; omega
      · refine s_rem h (fun M9 m hh hr hi hm hw e9 => ?_)
        have ep := i32_ni (x := p) (by omega)
        have bp : ni p ≤ 50 := by unfold ni; omega
        have hL9 : LawC M9 8 L := LawC_eq hL e9 rfl
        rw [hw.1.2.2.2.1]
        refine I_E_days_28 p _ _ _ (fun v M' => ∃ j, j ≤ ni p ∧ v = i32 j ∧ CW M' 18 (dayI L j (M.1 191, M.2 196)).1 (dayI L j (M.1 191, M.2 196)).2 ∧ LawC M' 8 L ∧ CM M' (min (m + 1) 10) (hpush (M.1 191, M.2 196) hh)) (fun N ih v M' hih hv => ?_) N _ _ ⟨0, by omega, rfl, hw, hL9, hm⟩
        obtain ⟨j, hj, rfl, q1, q2, q3⟩ := hv
        obtain ⟨dW, dD⟩ := dayI_W (L := L) (x := (M.1 191, M.2 196)) hg.1 hg.2.1 j (by have := hg.2.2; show (M.1 191 2).toInt + _ ≤ _; omega)
        unfold B_E_days_28
        have hlt' : (i32 j < p) ↔ j < ni p := by
          have := i32_lt (j := j) (k := ni p) (by omega) (by omega)
          rw [← ep] at this
          exact this
        rw [hlt']
        refine ⟨fun hlt => ?_, fun hlt => ?_⟩
        · refine c_dayE q1 dW q2 (by omega) ⟨by rw [dD]; have := hg.2.1; show 0 ≤ (M.1 191 2).toInt + _; omega, by rw [dD]; have := hg.2.2; show (M.1 191 2).toInt + _ ≤ _; omega⟩ (fun M'' s1 s2 s3 => ?_)
          exact hih _ _ ⟨j + 1, by omega, i32_s j, s1, s2, CM_eq q3 s3 rfl⟩
        · obtain rfl : j = ni p := by omega
          exact ⟨m, hh, hr, hi, q3, q1, by rw [q1.1.2.2.2.1]⟩
  · have fin : ∀ X : MM, V_m_in p 1 50 X = 0 := fun X => by rw [v_in, show (1 : Int32).toInt = 1 from rfl, show (50 : Int32).toInt = 50 from rfl, decide_eq_false hp]; rfl
    have thr : ∀ N', W_m_days p N' M (fun _ M2 => CP (B + 50) M2 ∧ M2.1 190 0 = 1) := fun N' => by
      unfold W_m_days W_m_throwsIf
      simp only [fin, e10, e10n, true_implies, false_implies, not_true_eq_false, not_false_eq_true, and_true, true_and, if_true]
      exact ⟨hmono _ (CP_0 (CP_0 h 0) 1), wi_1e⟩
    unfold W_E_days W_E_needNumber
    refine ⟨fun _ => thr, fun h1 => ⟨fun _ => thr, fun h2 => ?_⟩⟩
    rw [Int32.lt_iff_toInt_lt, show (1 : Int32).toInt = 1 from rfl] at h1
    rw [Int32.lt_iff_toInt_lt, show (50 : Int32).toInt = 50 from rfl] at h2
    omega
end AC4
