/-! .. THROUGH A REPUBLIC -/
section KRP
variable {K V : Nat → Int32} {S : Nat → Nat} {z : Int} {C : Int32}
def CB (z : Int) (C : Int32) : Prop := ∀ x : Int32, 0 ≤ x.toInt → x.toInt ≤ C.toInt → x.toInt < z ∧ x.toInt < 32
theorem nm_x {lo hi : Int32} {i : Nat} (h : ¬ nm K V lo hi i < 0) : nm K V lo hi i = V i ∧ ¬ V i < lo ∧ ¬ hi < V i := by
  unfold nm at *
  have n1 : (-1 : Int32) < 0 := by decide
  by_cases h1 : K i = 20
  · rw [if_pos h1] at h ⊢
    by_cases h2 : V i < lo
    · rw [if_pos h2] at h
      exact absurd n1 h
    · rw [if_neg h2] at h ⊢
      by_cases h3 : hi < V i
      · rw [if_pos h3] at h
        exact absurd n1 h
      · rw [if_neg h3]
        exact ⟨rfl, h2, h3⟩
  · rw [if_neg h1] at h
    exact absurd n1 h
theorem pHab_x {c : Nat} : ∀ (k v i : Nat) (w w' : RW) (j : Nat), k + v = 6 → pHab K V S c k v i w = (some w', j) → ∀ y, (y < 18 + 13 * c + 5 ∨ 18 + 13 * c + 13 ≤ y) → w' y = w y
  | 0, v, i, w, w', j, hk, h => non h
  | k + 1, v, i, w, w', j, hk, h => by
    unfold pHab at h
    intro y hy
    by_cases hm : mtq K V S i = true
    · rw [if_pos hm] at h
      by_cases hk2 : K (i + 1) = 20
      · rw [if_pos hk2] at h
        exact (pHab_x k (v + 1) (i + 1) _ w' j (by omega) h y hy).trans (up1_n (by omega))
      · rw [if_neg hk2] at h
        obtain ⟨rfl, -⟩ := som h
        rw [up1_n (by omega), up1_n (by omega)]
    · rw [if_neg hm] at h
      exact non h
def BZ (z : Int) (x : Int32) : Prop := ∀ k, k < 32 → tb x k = true → (k : Int) < z
theorem pKn_x {c : Nat} (hC : CB z C) : ∀ (k i : Nat) (w w' : RW) (j : Nat), pKn K V C c k i w = (some w', j) → BZ z (cl w c 1) → BZ z (cl w' c 1)
  | 0, i, w, w', j, h, _ => non h
  | k + 1, i, w, w', j, h, hb => by
    unfold pKn at h
    by_cases hm : nm K V 0 C i < 0
    · rw [if_pos hm] at h
      exact non h
    · rw [if_neg hm] at h
      have b2 : BZ z (cl (knwW c w (nm K V 0 C i)) c 1) := by
        obtain ⟨n1, n2, n3⟩ := nm_x hm
        rw [n1]
        rw [lt_lit, show (0 : Int32).toInt = 0 from rfl] at n2
        rw [lt_lit] at n3
        obtain ⟨c1, c2⟩ := hC (V i) (by omega) (by omega)
        unfold knwW
        rw [cl_up (by omega) (by omega), if_pos ⟨rfl, rfl⟩]
        intro k hk hh
        rw [tb_or, Bool.or_eq_true] at hh
        rcases hh with hh | hh
        · exact hb k hk hh
        · rw [i32_of (x := V i) (j := (V i).toInt.toNat) (by omega), tb_sl (by omega) hk, decide_eq_true_eq] at hh
          omega
      by_cases hk2 : K (i + 1) = 20
      · rw [if_pos hk2] at h
        exact pKn_x hC k (i + 1) _ w' j h b2
      · rw [if_neg hk2] at h
        obtain ⟨rfl, -⟩ := som h
        exact b2
def KN (w : RW) : Prop := w 0 = i32 (nC w) ∧ nC w ≤ 10
def KQ (z : Int) (w : RW) : Prop := KW z w ∧ KN w
theorem KQ_s {w w' : RW} (h : KQ z w) (h0 : w' 0 = w 0) (h2 : w' 2 = w 2) (h3 : w' 3 = w 3) (h6 : w' 6 = w 6) (hk : ∀ c, c < nC w → cl w' c 1 = cl w c 1) (hl : ∀ r : Nat, w' (148 + 4 * r + 3) = w (148 + 4 * r + 3)) : KQ z w' := by
  have e : nC w' = nC w := by unfold nC; rw [h0]
  exact ⟨KW_s h.1 e h2 h3 h6 hk (fun r _ => hl r), by unfold KN; rw [h0, e]; exact h.2⟩
theorem KQ_mor {w w3 : RW} (h : KQ z w) (hn : nC w < 10) (h1 : ∀ y, (y < 18 + 13 * nC w ∨ 18 + 13 * nC w + 13 ≤ y) → w3 y = w y) (hb : BZ z (cl w3 (nC w) 1)) : KQ z (morW w3) := by
  obtain ⟨⟨a, b, c⟩, d1, d2⟩ := h
  have m0 : morW w3 0 = i32 (nC w + 1) := by
    unfold morW
    rw [up1_e, h1 0 (by omega), d1, i32_s]
  have b1 : nC (morW w3) = nC w + 1 := by
    show ni (morW w3 0) = _
    rw [m0, ni_i (by omega)]
  have mk : ∀ y, y ≠ 0 → morW w3 y = w3 y := fun y hy => up1_n hy
  refine ⟨⟨fun c' hc' k hk hh => ?_, fun r hr => ?_, ?_⟩, by rw [m0, b1], by omega⟩
  · rw [b1] at hc'
    have e1 : cl (morW w3) c' 1 = cl w3 c' 1 := mk _ (by omega)
    rw [e1] at hh
    by_cases e : c' = nC w
    · rw [e] at hh
      exact hb k hk hh
    · rw [show cl w3 c' 1 = cl w c' 1 from h1 _ (by omega)] at hh
      exact a c' (by omega) k hk hh
  · rw [mk 6 (by omega), h1 6 (by omega)] at hr
    rw [mk _ (by omega), h1 _ (by omega)]
    exact b r hr
  · rw [mk 3 (by omega), h1 3 (by omega), mk 2 (by omega), h1 2 (by omega)]
    exact c
theorem pCit_x {F : Nat} (hC : CB z C) {q q' : WRS} {i j : Nat} (hn : nC q.1 < 10) (hq : KQ z q.1) (h : pCit K V S C F q i = (some q', j)) : KQ z q'.1 := by
  unfold pCit at h
  by_cases h1 : K i = 12
  · rw [if_pos h1] at h
    by_cases h2 : nm K V 0 100 (i + 1) < 0
    · rw [if_pos h2] at h
      exact non h
    · rw [if_neg h2] at h
      by_cases h3 : K (i + 2) = 13
      · rw [if_pos h3] at h
        cases hp : pHab K V S (nC q.1) 6 0 (i + 3) (citW q.1 (nC q.1) (nm K V 0 100 (i + 1))) with
        | mk o j1 =>
          rw [hp] at h
          cases o with
          | none => exact non h
          | some w2 =>
            have r1 := pHab_x 6 0 (i + 3) _ w2 j1 rfl hp
            have z1 : cl w2 (nC q.1) 1 = 0 := (r1 _ (by omega)).trans (by
              unfold citW
              rw [up1_n (by omega), up1_n (by omega), up1_n (by omega)]
              unfold zrow
              rw [if_pos (by omega)])
            have bz : BZ z (cl w2 (nC q.1) 1) := fun k hk hh => by
              rw [z1, tb_0] at hh
              cases hh
            have o2 : ∀ y, (y < 18 + 13 * nC q.1 ∨ 18 + 13 * nC q.1 + 13 ≤ y) → w2 y = q.1 y := fun y hy => by
              rw [r1 y (by omega)]
              unfold citW
              rw [up1_n (by omega), up1_n (by omega), up1_n (by omega)]
              unfold zrow
              rw [if_neg (by omega)]
            dsimp only at h
            by_cases h14 : K j1 = 14
            · rw [if_pos h14] at h
              cases hp2 : pKn K V C (nC q.1) F (j1 + 1) w2 with
              | mk o2' j2 =>
                rw [hp2] at h
                cases o2' with
                | none => exact non h
                | some w3 =>
                  obtain ⟨rfl, -⟩ := som h
                  have r3 := pKn_ok F (j1 + 1) w2 w3 j2 hp2
                  exact KQ_mor hq hn (fun y hy => (r3 y (by omega)).trans (o2 y hy)) (pKn_x hC F (j1 + 1) w2 w3 j2 hp2 bz)
            · rw [if_neg h14] at h
              obtain ⟨rfl, -⟩ := som h
              exact KQ_mor hq hn o2 bz
      · rw [if_neg h3] at h
        exact non h
  · rw [if_neg h1] at h
    exact non h
theorem tol_x {w : RW} {i : Nat} (hn : KN w) (h : ¬ tol K V w i < 0) : ni (tol K V w i) < nC w := by
  obtain ⟨h0, h10⟩ := hn
  have n1 : (-1 : Int32) < 0 := by decide
  unfold tol at *
  by_cases h1 : nm K V 0 (w 0 - 1) i < 0
  · rw [if_pos h1] at h
    exact absurd n1 h
  · rw [if_neg h1] at h ⊢
    obtain ⟨m1, m2, m3⟩ := nm_x h1
    have e0 : (w 0).toInt = (nC w : Int) := by rw [h0, i32_i (by omega)]
    have e1 : (w 0 - 1).toInt = (nC w : Int) - 1 := by
      rw [i32_sub (by rw [show (1 : Int32).toInt = 1 from rfl]; omega) (by rw [show (1 : Int32).toInt = 1 from rfl]; omega), show (1 : Int32).toInt = 1 from rfl]
      omega
    rw [lt_lit, show (0 : Int32).toInt = 0 from rfl] at m2
    rw [lt_lit, e1] at m3
    by_cases h2 : cl w (ni (nm K V 0 (w 0 - 1) i)) 0 = 1
    · rw [if_pos h2, m1]
      unfold ni
      omega
    · rw [if_neg h2] at h
      exact absurd n1 h
theorem pWed_x {q q' : WRS} {i j : Nat} (hq : KQ z q.1) (h : pWed K V q i = (some q', j)) : KQ z q'.1 := by
  unfold pWed at h
  by_cases h1 : sng q.1 (tol K V q.1 i) = true
  · rw [if_pos h1] at h
    by_cases h2 : sng q.1 (tol K V q.1 (i + 1)) = true ∧ ¬ tol K V q.1 i = tol K V q.1 (i + 1)
    · rw [if_pos h2] at h
      have t1 := tol_x hq.2 (sng_m h1)
      have t2 := tol_x hq.2 (sng_m h2.1)
      obtain ⟨rfl, -⟩ := som h
      dsimp only
      generalize ni (tol K V q.1 i) = c at *
      generalize ni (tol K V q.1 (i + 1)) = d at *
      have h10 := hq.2.2
      unfold wedW
      have bits : BZ z (cl q.1 c 1 ||| cl q.1 d 1) := fun k hk hb => by
        rw [tb_or, Bool.or_eq_true] at hb
        exact hb.elim (hq.1.1 c t1 k hk) (hq.1.1 d t2 k hk)
      have k1 : KQ z (up1 (up1 q.1 (18 + 13 * c + 4) (i32 d)) (18 + 13 * d + 4) (i32 c)) := KQ_s hq (by rw [up1_n (by omega), up1_n (by omega)]) (by rw [up1_n (by omega), up1_n (by omega)]) (by rw [up1_n (by omega), up1_n (by omega)]) (by rw [up1_n (by omega), up1_n (by omega)]) (fun c' hc' => by
        show up1 (up1 q.1 (18 + 13 * c + 4) (i32 d)) (18 + 13 * d + 4) (i32 c) (18 + 13 * c' + 1) = _
        rw [up1_n (by omega), up1_n (by omega)]
        rfl) (fun r => by rw [up1_n (by omega), up1_n (by omega)])
      have n4 : ∀ (w : RW) (c : Nat) (x : Int32), KN w → KN (up1 w (18 + 13 * c + 1) x) := fun w c x hw => by
        unfold KN nC at hw ⊢
        rw [up1_n (by omega)]
        exact hw
      exact ⟨KW_k (KW_k k1.1 (by omega) bits) (by omega) bits, n4 _ _ _ (n4 _ _ _ k1.2)⟩
    · rw [if_neg h2] at h
      exact non h
  · rw [if_neg h1] at h
    exact non h
theorem pNum_x {lo hi' : Int32} {k : Nat} {q q' : WRS} {i j : Nat} (hq : KQ z q.1) (hk : 7 ≤ k ∧ k < 18) (h : pNum K V k lo hi' q i = (some q', j)) : KQ z q'.1 := by
  unfold pNum at h
  by_cases h1 : nm K V lo hi' i < 0
  · rw [if_pos h1] at h
    exact non h
  · rw [if_neg h1] at h
    obtain ⟨rfl, -⟩ := som h
    exact KQ_s hq (up1_n (by omega)) (up1_n (by omega)) (up1_n (by omega)) (up1_n (by omega)) (fun c' _ => up1_n (by omega)) (fun r => up1_n (by omega))
theorem pRL_x {F : Nat} (hC : CB z C) {q q' : WRS} {i j : Nat} (hq : KQ z q.1) (h : pRL K V S C F q i = (some q', j)) : KQ z q'.1 := by
  unfold pRL at h
  by_cases h11 : K i = 11
  · rw [if_pos h11] at h
    by_cases h10 : nC q.1 = 10
    · rw [if_pos h10] at h
      exact non h
    · rw [if_neg h10] at h
      exact pCit_x hC (by have := hq.2.2; omega) hq h
  · rw [if_neg h11] at h
    by_cases h15 : K i = 15
    · rw [if_pos h15] at h
      exact pNum_x hq (by omega) h
    · rw [if_neg h15] at h
      by_cases h16 : K i = 16
      · rw [if_pos h16] at h
        exact pNum_x hq (by omega) h
      · rw [if_neg h16] at h
        by_cases h18 : K i = 18
        · rw [if_pos h18] at h
          exact pWed_x hq h
        · rw [if_neg h18] at h
          by_cases h19 : K i = 19
          · rw [if_pos h19] at h
            unfold pSeen at h
            by_cases c1 : tol K V q.1 (i + 1) < 0
            · rw [if_pos c1] at h
              exact non h
            · rw [if_neg c1] at h
              by_cases c2 : mtq K V S (i + 1 + 1) = true
              · rw [if_pos c2] at h
                obtain ⟨rfl, -⟩ := som h
                exact hq
              · rw [if_neg c2] at h
                exact non h
          · rw [if_neg h19] at h
            by_cases h17 : K i = 17
            · rw [if_pos h17] at h
              unfold pHarm at h
              by_cases c1 : nm K V 0 7 (i + 1) < 0
              · rw [if_pos c1] at h
                exact non h
              · rw [if_neg c1] at h
                obtain ⟨m1, m2, m3⟩ := nm_x c1
                rw [lt_lit, show (7 : Int32).toInt = 7 from rfl] at m3
                refine pNum_x hq ?_ h
                rw [m1]
                unfold ni
                omega
            · rw [if_neg h17] at h
              exact non h
theorem pRs_x {F : Nat} (hC : CB z C) : ∀ (m : Nat) (q q' : WRS) (i j : Nat), KQ z q.1 → pRs K V S C F m q i = (some q', j) → KQ z q'.1
  | 0, q, q', i, j, hq, h => non h
  | m + 1, q, q', i, j, hq, h => by
    unfold pRs at h
    cases hp : pRL K V S C F q i with
    | mk o j1 =>
      rw [hp] at h
      cases o with
      | none => exact non h
      | some q1 =>
        have k1 := pRL_x hC hq hp
        dsimp only at h
        by_cases h21 : K j1 = 21
        · rw [if_pos h21] at h
          obtain ⟨rfl, -⟩ := som h
          exact k1
        · rw [if_neg h21] at h
          by_cases h59 : K j1 = 59
          · rw [if_pos h59] at h
            exact pRs_x hC m q1 q' (j1 + 1) j k1 h
          · rw [if_neg h59] at h
            exact non h
theorem pRep_x {F : Nat} (hC : CB z C) {q q' : WRS} {j : Nat} (hq : KQ z q.1) (h : pRep K V S C F q = (some q', j)) : KQ z q'.1 := by
  unfold pRep at h
  by_cases h21 : K 0 = 21
  · rw [if_pos h21] at h
    obtain ⟨rfl, -⟩ := som h
    exact hq
  · rw [if_neg h21] at h
    exact pRs_x hC 14 q q' 0 j hq h
end KRP
section KRQ
variable {B : Int} {M : MM} {N : Nat}
theorem k_republic (h : CP B M) (k : KI M) : W_E_republic N M (fun _ M1 => ∀ z N', W_m_republic N' (wj M1 215 0 z) (fun _ M2 => KI M2)) (fun _ M1 => ∀ N', W_m_republic N' M1 (fun _ M2 => KI M2)) := by
  obtain ⟨F, hF⟩ : ∃ F, 400 < F := ⟨401, by omega⟩
  obtain ⟨nc, hnc, hnc8, hncR⟩ := CP_n h
  obtain ⟨z, ⟨ka, kb, ⟨m, hh, hr, hi⟩, kd⟩, kw⟩ := k
  have hcc : ∀ j, j < nc → (j : Int) < z := fun j hj => by
    rw [← ka]
    obtain ⟨L, l12, -, lc, ld, -⟩ := RG_cp h
    have e : nc = L.1 := (i32_ij (by omega) (by omega)).mp (hncR.symm.trans lc)
    exact RG_z ld l12 j (by omega)
  obtain ⟨⟨n, hn, t1, t2, t3⟩, hfl, -, ⟨hc, hg⟩, -⟩ := h
  have hb : BOK (M.1 2) n := fun j hj => (t3 j hj).1
  obtain ⟨C, hCe⟩ : ∃ C : Int32, C = i32 nc - 1 := ⟨_, rfl⟩
  have hCi : C.toInt = (nc : Int) - 1 := by
    rw [hCe, i32_sub (by rw [i32_i (by omega), show (1 : Int32).toInt = 1 from rfl]; omega) (by rw [i32_i (by omega), show (1 : Int32).toInt = 1 from rfl]; omega), i32_i (by omega)]
    rfl
  have hC : C < 1000 := by
    rw [lt_lit, hCi, show (1000 : Int32).toInt = 1000 from rfl]
    omega
  have hCB : CB z C := fun x x0 x1 => by
    have := hcc x.toInt.toNat (by omega)
    exact ⟨by omega, by omega⟩
  have run : ∀ (M1 : MM) (l : List (Nat × Nat × Option Nat)) (t : Nat) (K V : Nat → Int32) (b e : Nat → Nat), TKS (M.1 2) n t K V b e → Eqo l M M1 → (kik l && (fpo l 191 191 && (fpo l 196 196 && (fpo l 203 203 && fpf l 190 18)))) = true → ∀ N', W_m_republic N' M1 (fun _ M2 => KI M2) := by
    intro M1 l t K V b e hT e1 hl N'
    simp only [Bool.and_eq_true] at hl
    obtain ⟨hl1, hl2, hl3, hl4, hl5⟩ := hl
    have r1 : KR z M1 := KR_e ⟨ka, kb, ⟨m, hh, hr, hi⟩, kd⟩ e1 hl1
    have hl15 : fpf l 190 15 = true := by
      unfold kik at hl1
      simp only [Bool.and_eq_true] at hl1
      exact hl1.1.2.1
    refine r_rep (f := M.1 2) (n := n) (w := M.1 191) (s := M.2 196) hb hn hT hF hC (by rw [eq1 e1 hl15, hCe, ← hncR]; rfl) (by rw [eq1 e1 hl5]; exact t2) (fun j hj => by rw [eqb e1 hl4 (Nat.le_refl _) (Nat.le_refl _)]; exact (t3 j hj).2) (eqb e1 hl2 (Nat.le_refl _) (Nat.le_refl _)) (eqb2 e1 hl3 (Nat.le_refl _) (Nat.le_refl _)) hg.1 (fun q j M' d1 _ _ d4 _ _ d7 _ _ d10 => ?_) (fun M' _ d2 _ _ d5 => ?_)
    · have kq := pRep_x (q := (M.1 191, M.2 196)) hCB ⟨kw, (nC_i hg.1).2.2, (nC_i hg.1).2.1⟩ d1
      obtain ⟨a, b, -, d⟩ := r1
      refine ⟨z, ⟨by rw [eq1 d10 (b := 190) (k := 15) rfl]; exact a, fun j hj => by rw [eqb d10 (lo := 201) (hi := 201) rfl (Nat.le_refl _) (Nat.le_refl _)]; exact b j hj, ⟨0, hh, ⟨by omega, d7, fun i hi => absurd hi (by omega)⟩, fun i hi => absurd hi (by omega)⟩, ?_⟩, ?_⟩
      · rw [eq1 d10 (b := 190) (k := 11) rfl, eq1 d10 (b := 190) (k := 15) rfl, eq1 d10 (b := 190) (k := 16) rfl, eqb d10 (lo := 192) (hi := 192) rfl (Nat.le_refl _) (Nat.le_refl _)]
        exact d
      · rw [d4]
        exact (KQ_s kq (up1_n (by omega)) (up1_n (by omega)) (up1_n (by omega)) (up1_n (by omega)) (fun c' _ => up1_n (by omega)) (fun r => up1_n (by omega))).1
    · exact ⟨z, KR_e r1 d5 rfl, KW_c kw hg.1 d2⟩
  refine and_E_republic (Q1 := fun _ _ => ∃ t K V b e, TKS (M.1 2) n t K V b e) (E1 := fun _ _ => ∃ t K V b e, TKS (M.1 2) n t K V b e) (Q2 := fun _ M1 => Eqo fp_E_republic M M1) (E2 := fun _ M1 => Eqo fp_E_republic M M1) (fun y M1 hT e1 z' N' => ?_) (fun ce M1 hT e1 N' => ?_) ?_ (an_E_republic (fun _ _ e => e) (fun _ _ e => e))
  · obtain ⟨t, K, V, b, e, hT⟩ := hT
    exact run _ _ t K V b e hT (eqo_app e1 eqo_z) rfl N'
  · obtain ⟨t, K, V, b, e, hT⟩ := hT
    exact run _ _ t K V b e hT e1 rfl N'
  · unfold W_E_republic
    refine c_split (f := M.1 2) (n := n) ⟨t1, rfl⟩ hn (fun M2 t hX h35 e2 => ?_)
    have P : ∃ t K V b e, TKS (M.1 2) n t K V b e := ⟨t, _, _, _, _, (TXT_s hX).1⟩
    refine an_World_become (fun M4 _ => an_RepublicReader_readAll (fun r5 M6 _ => ⟨fun _ => ⟨fun _ => an_World_become (fun M10 _ => ?_), fun _ => P⟩, fun _ => P⟩))
    unfold W_Memory_forget
    exact P
end KRQ
