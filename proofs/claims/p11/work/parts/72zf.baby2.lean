/-! ACTS: a baby on both sides -/
def cpR (w : RW) (c n k : Nat) : RW := fun j => if 18 + 13 * n ≤ j ∧ j < 18 + 13 * n + k then cl w c (j - (18 + 13 * n)) else w j
theorem cpR_0 {w : RW} {c n : Nat} : cpR w c n 0 = w := by
  funext j
  unfold cpR
  rw [if_neg (by omega)]
theorem cpR_s {w : RW} {c n k : Nat} : up1 (cpR w c n k) (18 + 13 * n + k) (cl w c k) = cpR w c n (k + 1) := by
  funext j
  unfold up1 cpR
  by_cases e : j = 18 + 13 * n + k
  · rw [if_pos e, if_pos (by omega), e, show 18 + 13 * n + k - (18 + 13 * n) = k by omega]
  · rw [if_neg e]
    by_cases e2 : 18 + 13 * n ≤ j ∧ j < 18 + 13 * n + k
    · rw [if_pos e2, if_pos (by omega)]
    · rw [if_neg e2, if_neg (by omega)]
theorem cpR_e {w : RW} {c : Nat} : up1 (up1 (up1 (up1 (up1 (cpR w c (nC w) 13) (18 + 13 * nC w + 1) 0) (18 + 13 * nC w + 3) 0) (18 + 13 * nC w + 4) (-1)) (18 + 13 * nC w + 6) 0) 0 (w 0 + 1) = babS w c := by
  funext j
  unfold up1 cpR babS
  by_cases e0 : j = 0
  · rw [if_pos e0, if_pos e0]
  · rw [if_neg e0, if_neg e0]
    by_cases e : 18 + 13 * nC w ≤ j ∧ j < 18 + 13 * nC w + 13
    · rw [if_pos e, if_pos e]
      by_cases e1 : j = 18 + 13 * nC w + 1
      · rw [if_neg (by omega), if_neg (by omega), if_neg (by omega), if_pos e1, if_pos e1]
      · by_cases e3 : j = 18 + 13 * nC w + 3
        · rw [if_neg (by omega), if_neg (by omega), if_pos e3, if_neg e1, if_pos e3]
        · by_cases e4 : j = 18 + 13 * nC w + 4
          · rw [if_neg (by omega), if_pos e4, if_neg e1, if_neg e3, if_pos e4]
          · by_cases e6 : j = 18 + 13 * nC w + 6
            · rw [if_pos e6, if_neg e1, if_neg e3, if_neg e4, if_pos e6]
            · rw [if_neg e6, if_neg e4, if_neg e3, if_neg e1, if_neg e1, if_neg e3, if_neg e4, if_neg e6]
    · rw [if_neg e, if_neg e, if_neg (by omega), if_neg (by omega), if_neg (by omega), if_neg (by omega)]
section BD
variable {B : Int} {M : MM} {p : Int32}
theorem r_bab {N c n : Nat} {w : RW} {k98 : MM → Prop} {Q : Int32 → MM → Prop} {M11 : MM} (hr : M11.1 191 = w) (hcn : c < n) (hn : n < 10) (hQ : ∀ M', M'.1 191 = cpR w c n 13 → Eqo [(191, 191, none)] M11 M' → k98 M') : W_m_baby_74 (i32 c) (i32 n) k98 Q N 0 M11 := by
  refine I_m_baby_74 _ _ k98 Q (fun v M' => ∃ k, k ≤ 13 ∧ v = i32 k ∧ M'.1 191 = cpR w c n k ∧ Eqo [(191, 191, none)] M11 M') (fun N ih v M' hih hv => ?_) N _ _ ⟨0, by omega, rfl, by rw [cpR_0]; exact hr, eqo_rf M11⟩
  obtain ⟨k, hk, rfl, h1, h2⟩ := hv
  unfold B_m_baby_74
  refine ⟨fun hl => ?_, fun hl => ?_⟩
  · have hl' : k < 13 := (i32_lt (k := 13) (by omega) (by omega)).mp hl
    unfold W_m_sets
    refine hih _ _ ⟨k + 1, by omega, i32_s k, ?_, fun b j hb => (eqo_wi (i := 0) h2 rfl (Or.inl rfl)) b j hb⟩
    rw [show V_m_of (i32 c) (i32 k) M' = cl (cpR w c n k) c k from of_row (i := k) h1 (by omega) (by omega), show ni ((18 + (13 * i32 n)) + i32 k) = 18 + 13 * n + k from ofs (i := k) (by omega) (by omega), wi_row h1, ← cpR_s]
    rw [show cl (cpR w c n k) c k = cl w c k from if_neg (by omega)]
  · have : k = 13 := by
      have : ¬ k < 13 := fun e => hl ((i32_lt (j := k) (k := 13) (by omega) (by omega)).mpr e)
      omega
    subst this
    exact hQ _ h1 h2
theorem a_baby (h : CP B M) {N : Nat} : W_E_baby p N M (fun y M1 => ∀ z N', W_m_baby p N' (wj M1 215 0 z) (fun b M2 => CP B M2 ∧ M2.1 190 0 = 0 ∧ y = b)) (fun ce M1 => ∀ N', W_m_baby p N' M1 (fun _ M2 => CP B M2 ∧ M2.1 190 0 = if ce = 2 then 1 else if ce = 3 then 3 else 2)) := by
  obtain ⟨hc, hg⟩ := h.2.2.2.1
  unfold W_E_baby
  refine s_cit hc (fun hp => ?_) (fun hp N' => ?_)
  · obtain ⟨c, rfl, hcn, hc10⟩ := okc_c hg.1 hp
    refine s_alive hc hg.1 hcn (fun ha => ?_) (fun ha N' => ?_)
    · obtain ⟨e0, hle, ei⟩ := nC_i hg.1
      rw [show M.1 18 0 = i32 (nC (M.1 191)) by rw [hc.1.1]; exact ei]
      have fc : ∀ M1 : MM, M1.1 191 = M.1 191 → V_m_citizens M1 = i32 (nC (M.1 191)) := fun M1 a => by
        show M1.1 191 0 = _
        rw [a]
        exact ei
      refine ⟨fun hb => ?_, fun hb N' => ?_⟩
      · have hn : nC (M.1 191) < 10 := (i32_lt (k := 10) (by omega) (by omega)).mp hb
        have ne : (i32 (nC (M.1 191)) = 10) = False := eq_false (fun e => by
          have := congrArg Int32.toInt e
          rw [i32_i (by omega), show (10 : Int32).toInt = 10 from rfl] at this
          omega)
        refine s_rem h (fun M9 m hh hr hi hm hw e9 => ?_)
        refine c_bear hw hg.1 hcn ha hn (fun M1 h1 eb z N' => ?_)
        have eM := eqo_app (eqo_app e9 eb) (eqo_z (z := z))
        have hm1 := CM_eq (CM_eq hm eb rfl) (eqo_z (z := z)) rfl
        have h1 := CW_eq h1 (eqo_z (z := z)) rfl
        generalize wj M1 215 0 z = M1 at *
        have a1 := eqb eM (lo := 191) (hi := 191) rfl (Nat.le_refl _) (Nat.le_refl _)
        unfold W_m_baby W_m_throwsIf
        simp only [noc_e a1, al_e a1, noc_1 hg.1 hp, al_1 hc10 ha, fc (wi M1 190 0 0) a1, ne, e10, e10n, true_implies, false_implies, not_true_eq_false, not_false_eq_true, and_true, true_and, if_true]
        refine t_rem hr eM rfl (fun M11 r1 r2 r3 r4 z0 => ?_)
        rw [fc M11 r2]
        refine r_bab r2 hcn hn (fun M12 t1 t2 => ?_)
        unfold W_m_sets
        dsimp only
        rw [show ni ((18 + (13 * i32 (nC (M.1 191)))) + 1) = 18 + 13 * nC (M.1 191) + 1 from ofs (i := 1) (by omega) (by omega), show ni ((18 + (13 * i32 (nC (M.1 191)))) + 3) = 18 + 13 * nC (M.1 191) + 3 from ofs (i := 3) (by omega) (by omega), show ni ((18 + (13 * i32 (nC (M.1 191)))) + 4) = 18 + 13 * nC (M.1 191) + 4 from ofs (i := 4) (by omega) (by omega), show ni ((18 + (13 * i32 (nC (M.1 191)))) + 6) = 18 + 13 * nC (M.1 191) + 6 from ofs (i := 6) (by omega) (by omega), ni_i (show nC (M.1 191) < 2147483648 by omega)]
        have er := eqo_app t2 (eqo_app (eqo_a (M := M12) (a := 191) (k := 18 + 13 * nC (M.1 191) + 1) (x := 0)) (eqo_app (eqo_a (a := 191) (k := 18 + 13 * nC (M.1 191) + 3) (x := 0)) (eqo_app (eqo_a (a := 191) (k := 18 + 13 * nC (M.1 191) + 4) (x := -1)) (eqo_app (eqo_a (a := 191) (k := 18 + 13 * nC (M.1 191) + 6) (x := 0)) (eqo_app (eqo_b (a := 196) (k := nC (M.1 191)) (x := Int64.ofNat 0)) (eqo_a (a := 191) (k := 0) (x := M.1 191 0 + 1)))))))
        have e2 := eqo_app r4 er
        have hrow := wi_row (k := 18 + 13 * nC (M.1 191) + 6) (x := 0) (wi_row (k := 18 + 13 * nC (M.1 191) + 4) (x := -1) (wi_row (k := 18 + 13 * nC (M.1 191) + 3) (x := 0) (wi_row (k := 18 + 13 * nC (M.1 191) + 1) (x := 0) t1)))
        have h0 : (wj (wi (wi (wi (wi M12 191 (18 + 13 * nC (M.1 191) + 1) 0) 191 (18 + 13 * nC (M.1 191) + 3) 0) 191 (18 + 13 * nC (M.1 191) + 4) (-1)) 191 (18 + 13 * nC (M.1 191) + 6) 0) 196 (nC (M.1 191)) (Int64.ofNat 0)).1 191 (ni 0) = M.1 191 0 := by
          rw [wj_1, hrow]
          show up1 _ _ _ 0 = _
          rw [up1_n (by omega), up1_n (by omega), up1_n (by omega), up1_n (by omega)]
          exact if_neg (by omega)
        rw [h0]
        have hrow2 := wi_row (k := 0) (x := M.1 191 0 + 1) (M1 := wj (wi (wi (wi (wi M12 191 (18 + 13 * nC (M.1 191) + 1) 0) 191 (18 + 13 * nC (M.1 191) + 3) 0) 191 (18 + 13 * nC (M.1 191) + 4) (-1)) 191 (18 + 13 * nC (M.1 191) + 6) 0) 196 (nC (M.1 191)) (Int64.ofNat 0)) hrow
        rw [cpR_e] at hrow2
        have hs : (wi (wj (wi (wi (wi (wi M12 191 (18 + 13 * nC (M.1 191) + 1) 0) 191 (18 + 13 * nC (M.1 191) + 3) 0) 191 (18 + 13 * nC (M.1 191) + 4) (-1)) 191 (18 + 13 * nC (M.1 191) + 6) 0) 196 (nC (M.1 191)) (Int64.ofNat 0)) 191 0 (M.1 191 0 + 1)).2 196 = us (M.2 196) (nC (M.1 191)) (Int64.ofNat 0) := by
          rw [← r3]
          funext j
          show (if 196 = 196 ∧ j = nC (M.1 191) then Int64.ofNat 0 else M12.2 196 j) = if j = nC (M.1 191) then Int64.ofNat 0 else M11.2 196 j
          rw [show M12.2 196 j = M11.2 196 j from congrFun (eqb2 t2 (lo := 196) (hi := 196) rfl (Nat.le_refl _) (Nat.le_refl _)) j]
          by_cases e : j = nC (M.1 191)
          · rw [if_pos ⟨rfl, e⟩, if_pos e]
          · rw [if_neg (by omega), if_neg e]
        refine ⟨CP_mk h (eqo_app eM e2) rfl hrow2 hs (CW_eq h1 e2 rfl) (GW_r hg (bab_W hg.1 hcn hn) (bab_k (by omega) (by omega)) (bab_k (by omega) (by omega))) (CM_eq hm1 e2 rfl) (RMm_eq r1 er rfl) hi (Int.le_refl _), ?_, ei⟩
        have := eq1 er (b := 190) (k := 0) rfl
        exact this.trans z0
      · have e10' : nC (M.1 191) = 10 := by
          have : ¬ nC (M.1 191) < 10 := fun e => hb ((i32_lt (j := nC (M.1 191)) (k := 10) (by omega) (by omega)).mpr e)
          omega
        have fc' := fc (wi M 190 0 0) rfl
        rw [e10'] at fc'
        have fc2 : V_m_citizens (wi M 190 0 0) = 10 := fc'
        unfold W_m_baby W_m_throwsIf
        simp only [noc_1 hg.1 hp, al_1 hc10 ha, fc2, e10, e10n, true_implies, false_implies, not_true_eq_false, not_false_eq_true, and_true, true_and, if_true]
        exact CP_t h 3 (fun e => e)
    · unfold W_m_baby W_m_throwsIf
      simp only [noc_1 hg.1 hp, al_0 hc10 ha, e10, e10n, true_implies, false_implies, not_true_eq_false, not_false_eq_true, and_true, true_and, if_true]
      exact CP_t h 2 (fun e => e)
  · unfold W_m_baby W_m_throwsIf
    simp only [noc_0 hg.1 hp, e10, e10n, true_implies, false_implies, not_true_eq_false, not_false_eq_true, and_true, true_and, if_true]
    exact CP_t h 1 (fun e => e)
end BD
