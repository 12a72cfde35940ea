/-! .. THROUGH A DAY -/
theorem ntz12f : ∀ (a b : Fin 64), 64 * (a : Nat) + b = 0 ∨ (ntz (i32 (64 * a + b)) = i32 (ni (ntz (i32 (64 * a + b)))) ∧ ni (ntz (i32 (64 * a + b))) < 12 ∧ Nat.testBit (64 * a + b) (ni (ntz (i32 (64 * a + b)))) = true) := by decide +kernel
theorem ntz12 {x : Nat} (h : x < 4096) : x = 0 ∨ (ntz (i32 x) = i32 (ni (ntz (i32 x))) ∧ ni (ntz (i32 x)) < 12 ∧ Nat.testBit x (ni (ntz (i32 x))) = true) := by
  have t := ntz12f ⟨x / 64, by omega⟩ ⟨x % 64, by omega⟩
  have e : 64 * (x / 64) + x % 64 = x := by omega
  dsimp only at t
  rw [e] at t
  exact t
theorem ntz_bs {P : Nat → Bool} {n : Nat} (hn : n ≤ 12) (h : ¬ bs P n = 0) : ∃ q, q < n ∧ ntz (bs P n) = i32 q := by
  obtain ⟨a, ha, e⟩ := bs_nat (P := P) n (by omega)
  have h4 : 2 ^ n ≤ 4096 := Nat.pow_le_pow_right (n := 2) (by omega) hn
  rcases ntz12 (x := a) (by omega) with z | ⟨q1, q2, q3⟩
  · have z' : a = 0 := z
    exact absurd (by rw [e, z']; rfl) h
  · refine ⟨ni (ntz (i32 a)), ?_, by rw [e]; exact q1⟩
    have := congrArg (fun x => tb x (ni (ntz (i32 a)))) e
    have q2' : ni (ntz (i32 a)) < 12 := q2
    have q3' : Nat.testBit a (ni (ntz (i32 a))) = true := q3
    rw [tb_bs _ _ (by omega) _ (by omega), tb_ix (by omega), q3', Bool.and_eq_true, decide_eq_true_eq] at this
    exact this.1
section KDY
variable {B : Int} {M : MM} {p : Int32} {N : Nat} {L : LWT}
theorem lg_3 {w : RW} {c m k : Int32} : logS w c m k 3 = w 3 := by
  unfold logS
  rw [if_neg (by omega), if_neg (by omega), if_neg (by omega), if_neg (by omega), if_neg (by omega), if_neg (by omega)]
theorem lg_6 {w : RW} {c m k : Int32} : logS w c m k 6 = mn 60 (w 6 + 1) := by
  unfold logS
  rw [if_neg (by omega), if_neg (by omega), if_neg (by omega), if_neg (by omega), if_neg (by omega), if_pos rfl]
theorem lg_0 {w : RW} {c m k : Int32} : logS w c m k (148 + 4 * 0 + 3) = k := by
  unfold logS
  rw [if_neg (by omega), if_neg (by omega), if_neg (by omega), if_pos (by omega)]
theorem lg_r {w : RW} {c m k : Int32} {r : Nat} (hr : r < 59) : logS w c m k (148 + 4 * (r + 1) + 3) = w (148 + 4 * r + 3) := by
  unfold logS
  rw [if_neg (by omega), if_neg (by omega), if_neg (by omega), if_neg (by omega), if_pos (by omega), show 148 + 4 * (r + 1) + 3 - 4 = 148 + 4 * r + 3 by omega]
theorem mn_le {x : Int32} (h0 : 0 ≤ x.toInt) (h1 : x.toInt ≤ 60) : (mn 60 (x + 1)).toInt ≤ x.toInt + 1 := by
  have e : (x + 1).toInt = x.toInt + 1 := by
    rw [i32_add (by rw [show (1 : Int32).toInt = 1 from rfl]; omega) (by rw [show (1 : Int32).toInt = 1 from rfl]; omega)]
    rfl
  unfold mn
  by_cases h : x + 1 < 60
  · rw [if_pos h, e]; omega
  · rw [if_neg h]
    rw [lt_lit, e, show (60 : Int32).toInt = 60 from rfl] at h
    rw [show (60 : Int32).toInt = 60 from rfl]
    omega
/-- the log's clauses, the arrests -/
def KJ (z : Int) (b : Int) (w : RW) : Prop := (∀ r : Nat, (r : Int) < (w 6).toInt → ∃ q : Nat, q < 32 ∧ (q : Int) < z ∧ w (148 + 4 * r + 3) = i32 q) ∧ 0 ≤ (w 3).toInt ∧ (w 3).toInt ≤ b
theorem KJ_s {z b : Int} {w w' : RW} (h : KJ z b w) (h3 : w' 3 = w 3) (h6 : w' 6 = w 6) (hl : ∀ r : Nat, w' (148 + 4 * r + 3) = w (148 + 4 * r + 3)) : KJ z b w' := by
  refine ⟨fun r hr => ?_, by rw [h3]; exact h.2⟩
  rw [h6] at hr
  rw [hl r]
  exact h.1 r hr
theorem judgeS_K {z b : Int} {fo f : Int32} {c : Nat} {x : RW × RS} (hw : WF x.1) (hc : c < 10) (hL : L.1 ≤ 12) (hz : ∀ q, q < L.1 → (q : Int) < z) (hb : b ≤ 1000000) (h : KJ z b x.1) : KJ z (b + 1) (judgeS L fo f c x).1 := by
  have h9 : KJ z b (up1 (hrmS x.1 c) 9 (sd (x.1 9))) := KJ_s h (by unfold hrmS; rw [up1_n (by omega), up1_n (by omega)]) (by unfold hrmS; rw [up1_n (by omega), up1_n (by omega)]) (fun r => by unfold hrmS; rw [up1_n (by omega), up1_n (by omega)])
  have w9 : WF (up1 (hrmS x.1 c) 9 (sd (x.1 9))) := WF_sc (WF_sc hw (by omega) (by omega) (by omega) (by omega)) (by omega) (by omega) (by omega) (by omega)
  have le : ∀ {w : RW}, KJ z b w → KJ z (b + 1) w := fun h => ⟨h.1, h.2.1, by have := h.2.2; omega⟩
  unfold judgeS
  split
  · exact le h
  · rename_i hne
    split
    · dsimp only
      generalize up1 (hrmS x.1 c) 9 (sd (x.1 9)) = y at h9 w9
      have t3 : takeS y c 3 = y 3 + 1 := by
        unfold takeS
        rw [up1_n (by omega), up1_e]
      have t6 : takeS y c 6 = y 6 := by
        unfold takeS
        rw [up1_n (by omega), up1_n (by omega)]
      have tl : ∀ r : Nat, takeS y c (148 + 4 * r + 3) = y (148 + 4 * r + 3) := fun r => by
        unfold takeS
        rw [up1_n (by omega), up1_n (by omega)]
      have e3 : (y 3 + 1).toInt = (y 3).toInt + 1 := by
        have := h9.2
        rw [i32_add (by rw [show (1 : Int32).toInt = 1 from rfl]; omega) (by rw [show (1 : Int32).toInt = 1 from rfl]; omega)]
        rfl
      have h6 := w9.2.1
      refine ⟨fun r hr => ?_, ?_, ?_⟩
      · rw [lg_6, t6] at hr
        have l1 := mn_le h6.1 h6.2
        have l2 := mn_60 h6.1 h6.2
        match r, hr with
        | 0, hr =>
          obtain ⟨q, q1, q2⟩ := ntz_bs (P := fun k => tb fo k && bear L 0 (md x.1 c 0) (i32 c) (bcn (cl x.1 c 1)) (x.1 2) k) (n := L.1) hL (by
            rw [bs_and (by omega), Int32.and_comm]
            exact hne)
          refine ⟨q, by omega, hz q q1, ?_⟩
          rw [lg_0]
          rw [bs_and (by omega), Int32.and_comm] at q2
          exact q2
        | r + 1, hr =>
          rw [lg_r (by omega), tl r]
          exact h9.1 r (by omega)
      · rw [lg_3, t3, e3]
        have := h9.2.1
        omega
      · rw [lg_3, t3, e3]
        have := h9.2.2
        omega
    · exact le h9
theorem judgeN_K {z b : Int} {fo f d : Int32} {x : RW × RS} (hw : WF x.1) (hL : L.1 ≤ 12) (hz : ∀ q, q < L.1 → (q : Int) < z) (hb : b ≤ 900000) (h : KJ z b x.1) : ∀ n : Nat, n ≤ 10 → KJ z (b + n) (judgeN L fo f d n x).1
  | 0, _ => by
    show KJ z (b + 0) x.1
    rw [Int.add_zero]
    exact h
  | n + 1, hn => by
    have IH := judgeN_K (fo := fo) (f := f) (d := d) hw hL hz hb h n (by omega)
    have hW := (judgeN_W (L := L) (fo := fo) (f := f) (d := d) (x := x) hw n).2
    rw [judgeN_s]
    have e : b + ((n + 1 : Nat) : Int) = b + n + 1 := by omega
    rw [e]
    split
    · exact judgeS_K hW (by omega) hL hz (by omega) IH
    · exact ⟨IH.1, IH.2.1, by have := IH.2.2; omega⟩
theorem rest_k {f : Int32} {w : RW} {k : Nat} (hk : ∀ c, c < 10 → k ≠ 18 + 13 * c + 3 ∧ k ≠ 18 + 13 * c + 6) : ∀ n, n ≤ 10 → restN f n w k = w k
  | 0, _ => rfl
  | n + 1, h => by
    have hn := hk n (by omega)
    rw [restN_s]
    unfold restS nextS
    split
    · rw [up1_n hn.2]
      exact rest_k hk n (by omega)
    · rw [up1_n hn.2, up1_n hn.1]
      exact rest_k hk n (by omega)
theorem KW_day {z : Int} {w : RW} {s : RS} (h : KW z w) (hw : WF w) (hd : dOK w) (hL : L.1 ≤ 12) (hz : ∀ q, q < L.1 → (q : Int) < z) : KW z (dayS L w s).1 := by
  obtain ⟨e0, hn10, ei⟩ := nC_i hw
  have hP : P59 w (pickN L s (nC w) (w, 0)).1 := pickN_P _
  have wP := P59_WF hP hw
  have hd2 : 0 ≤ (w 2).toInt ∧ (w 2).toInt ≤ 30000 := by have h1 := hd.1; have h2 := hd.2; exact ⟨h1, by omega⟩
  unfold dayS
  dsimp only
  generalize pickN L s (nC w) (w, 0) = P at *
  obtain ⟨hJ, wJ⟩ := judgeN_W (L := L) (fo := inF P.1 (nC w)) (f := bs (frb w) (nC w)) (d := P.2) (x := (P.1, s)) wP (nC w)
  have h0 : KJ z (10 * (w 2).toInt) P.1 := KJ_s (w := w) ⟨h.2.1, h.2.2⟩ (hP 3 (by omega) (by omega)) (hP 6 (by omega) (by omega)) (fun r => hP _ (by omega) (by omega))
  have hK := judgeN_K (L := L) (fo := inF P.1 (nC w)) (f := bs (frb w) (nC w)) (d := P.2) (x := (P.1, s)) wP hL hz (by omega) h0 (nC w) hn10
  generalize judgeN L (inF P.1 (nC w)) (bs (frb w) (nC w)) P.2 (nC w) (P.1, s) = J at *
  have j2 : J.1 2 = w 2 := (hJ.1 2 (by omega) (by omega) (by omega) (by omega) (by omega)).trans (hP 2 (by omega) (by omega))
  have rk : ∀ k, (∀ c, c < 10 → k ≠ 18 + 13 * c + 3 ∧ k ≠ 18 + 13 * c + 6) → restN (bs (frb w) (nC w)) (nC w) J.1 k = J.1 k := fun k hk => rest_k hk _ hn10
  have r2 := rk 2 (fun c _ => by omega)
  have n2' : (w 2 + 1).toInt = (w 2).toInt + 1 := by
    rw [i32_add (by rw [show (1 : Int32).toInt = 1 from rfl]; omega) (by rw [show (1 : Int32).toInt = 1 from rfl]; omega)]
    rfl
  refine ⟨fun c hc k hk hb => ?_, fun r hr => ?_, ?_, ?_⟩
  · have en : nC (up1 (restN (bs (frb w) (nC w)) (nC w) J.1) 2 (restN (bs (frb w) (nC w)) (nC w) J.1 2 + 1)) = nC w := by
      have e0' : (up1 (restN (bs (frb w) (nC w)) (nC w) J.1) 2 (restN (bs (frb w) (nC w)) (nC w) J.1 2 + 1)) 0 = w 0 := by
        rw [up1_n (by omega), rk 0 (fun c _ => by omega), hJ.1 0 (by omega) (by omega) (by omega) (by omega) (by omega)]
        exact hP 0 (by omega) (by omega)
      show ni ((up1 (restN (bs (frb w) (nC w)) (nC w) J.1) 2 (restN (bs (frb w) (nC w)) (nC w) J.1 2 + 1)) 0) = ni (w 0)
      rw [e0']
    rw [en] at hc
    rw [show cl (up1 (restN (bs (frb w) (nC w)) (nC w) J.1) 2 (restN (bs (frb w) (nC w)) (nC w) J.1 2 + 1)) c 1 = cl w c 1 from by
      rw [cl_lo (by omega), show cl (restN (bs (frb w) (nC w)) (nC w) J.1) c 1 = cl J.1 c 1 from rk _ (fun c' _ => by omega), hJ.2 c 1 (by omega) (by omega) (by omega), P59_cl hP]] at hb
    exact h.1 c hc k hk hb
  · rw [up1_n (by omega), rk 6 (fun c _ => by omega)] at hr
    rw [up1_n (by omega), rk _ (fun c _ => by omega)]
    exact hK.1 r hr
  · rw [up1_n (by omega), rk 3 (fun c _ => by omega)]
    exact hK.2.1
  · rw [up1_n (by omega), rk 3 (fun c _ => by omega), up1_e, r2, j2, n2']
    have := hK.2.2
    omega
theorem k_days (h : RG B M) (hB : 0 ≤ B ∧ B ≤ 28000) (k : KI M) : W_m_days p N M (fun _ M2 => KI M2) := by
  obtain ⟨L, l12, hR, hcl, hd', hg⟩ := h
  have hz : ∀ q, q < L.1 → (q : Int) < (M.1 190 15).toInt := RG_z hd' l12
  unfold W_m_days W_m_throwsIf
  simp only [e10, e10n, true_implies, false_implies, not_true_eq_false, not_false_eq_true, and_true, true_and, if_true]
  refine ⟨fun _ => KI_0 (KI_0 k 0) 1, fun hin => ?_⟩
  have hp : 1 ≤ p.toInt ∧ p.toInt ≤ 50 := by
    apply Classical.byContradiction
    intro hn
    refine hin ?_
    rw [v_in, decide_eq_false (show ¬ ((1 : Int32).toInt ≤ p.toInt ∧ p.toInt ≤ (50 : Int32).toInt) from hn)]
    rfl
  refine k_rem2 hg.1 (KI_0 k 0) (fun M11 r1 r2 r3 e11 => ?_)
  rw [show (wi M 190 0 0).1 190 15 = M.1 190 15 from wi_1n (by omega)] at r1 r3
  have r2 : M11.1 191 = M.1 191 := r2
  have r3 : KW (M.1 190 15).toInt (M.1 191) := r3
  have hL11 : LawR M11 L := LawR_eq (LawR_eq hR (eqo_1 (a := 190) (k := 0) (x := 0)) rfl) e11 rfl
  have hn11 : V_m_clauses M11 = i32 L.1 := (show V_m_clauses M11 = V_m_clauses M by
    unfold V_m_clauses
    rw [eq1 e11 (b := 190) (k := 15) rfl, wi_1n (by omega)]).trans hcl
  have ep := i32_ni (x := p) (by omega)
  have bp : ni p ≤ 50 := by unfold ni; omega
  refine I_m_days_43 p _ _ (fun v M' => ∃ j, j ≤ ni p ∧ v = i32 j ∧ KR (M.1 190 15).toInt M' ∧ KW (M.1 190 15).toInt (M'.1 191) ∧ WF (M'.1 191) ∧ (M'.1 191 2).toInt = (M.1 191 2).toInt + j ∧ LawR M' L ∧ V_m_clauses M' = i32 L.1) (fun N ih v M' hih hv => ?_) N _ _ ⟨0, by omega, rfl, r1, by rw [r2]; exact r3, by rw [r2]; exact hg.1, by rw [r2]; simp, hL11, hn11⟩
  obtain ⟨j, hj, rfl, k1, k2, k3, k4, k5, k6⟩ := hv
  unfold B_m_days_43
  have hlt' : (i32 j < p) ↔ j < ni p := by
    have := i32_lt (j := j) (k := ni p) (by omega) (by omega)
    rw [← ep] at this
    exact this
  rw [hlt']
  have hdk : dOK (M'.1 191) := ⟨by have := hg.2.1; omega, by have := hg.2.2.1; omega⟩
  refine ⟨fun hlt => ?_, fun hlt => ⟨_, k1, k2⟩⟩
  refine and_m_oneDay (Q1 := fun M2 => M2.1 191 = (dayS L (M'.1 191) (M'.2 196)).1) (fun M2 q1 e2 => hih _ _ ⟨j + 1, by omega, i32_s j, KR_e k1 e2 rfl, ?_, ?_, ?_, LawR_eq k5 e2 rfl, ?_⟩) ?_ (an_m_oneDay (Q := fun M2 => Eqo fp_m_oneDay M' M2) (fun _ e => e))
  · rw [q1]
    exact KW_day k2 k3 hdk l12 hz
  · rw [q1]
    exact (dayS_W k3).1
  · rw [q1, (dayS_W k3).2.2, i32_add (by rw [show (1 : Int32).toInt = 1 from rfl]; have h1 := hdk.1; have h2 := hdk.2; omega) (by rw [show (1 : Int32).toInt = 1 from rfl]; have h1 := hdk.1; have h2 := hdk.2; omega), show (1 : Int32).toInt = 1 from rfl]
    omega
  · unfold V_m_clauses at k6 ⊢
    rw [eq1 e2 (b := 190) (k := 15) rfl]
    exact k6
  · have e := rM_id (M := M')
    have t := r_day (M := M') (w := M'.1 191) (s := M'.2 196) (f := M'.1 190 29) (d := M'.1 190 30) (v := M'.1 207) (N := N) (Q := fun M2 => M2.1 191 = (dayS L (M'.1 191) (M'.2 196)).1) k5 k6 k3 hdk (fun f' d' v' => rM_191)
    rw [e] at t
    exact t
end KDY
