/-! THE CLASS READS A CLAUSE, A CODE -/
def CKt (M : MM) (s s' u : Nat) (c : BF) : Prop := ∀ sp tm : Nat → Int32, (∀ x, x < s' → sp x = M.1 16 x) → (∀ x, x < 5 * u → tm x = M.1 17 x) → ∀ pl wh kn dy, rng pl wh kn dy → decide (crun sp tm pl wh kn dy s (s' - s) 1 &&& 1 = 1) = c pl wh kn dy
def CLb (M : MM) (L : LWT) (s u : Nat) : Prop := M.1 13 1 = i32 L.1 ∧ L.1 ≤ 12 ∧ (∀ j, j < 32 → tb (M.1 13 2) j = (decide (j < L.1) && decide (L.2.1 j = 1))) ∧ ∃ E : Nat → Nat, E 0 = 0 ∧ E L.1 = s ∧ ∀ k, k < L.1 → M.1 15 k = i32 (E (k + 1)) ∧ E k ≤ E (k + 1) ∧ E (k + 1) ≤ s ∧ (L.2.1 k = 1 ∨ L.2.1 k = 0) ∧ M.1 14 k = L.2.2.1 k ∧ CKt M (E k) (E (k + 1)) u (L.2.2.2 k)
theorem CLb_fr {M M' : MM} {L : LWT} {s u u' : Nat} (h : CLb M L s u) (hu : u ≤ u') (e1 : M'.1 13 1 = M.1 13 1) (e2 : M'.1 13 2 = M.1 13 2) (e14 : M'.1 14 = M.1 14) (e15 : M'.1 15 = M.1 15) (e16 : ∀ x, x < s → M'.1 16 x = M.1 16 x) (e17 : ∀ x, x < 5 * u → M'.1 17 x = M.1 17 x) : CLb M' L s u' := by
  obtain ⟨h1, h2, h3, E, h4, h5, h6⟩ := h
  refine ⟨by rw [e1]; exact h1, h2, by rw [e2]; exact h3, E, h4, h5, fun k hk => ?_⟩
  obtain ⟨a1, a2, a3, a4, a5, a6⟩ := h6 k hk
  exact ⟨by rw [e15]; exact a1, a2, a3, a4, by rw [e14]; exact a5, fun sp tm b1 b2 => a6 sp tm (fun x hx => (b1 x hx).trans (e16 x (by omega))) (fun x hx => (b2 x (by omega)).trans (e17 x hx))⟩
theorem CLb_L {M : MM} {L : LWT} {s u : Nat} (h : CLb M L s u) (hs : s ≤ 200) : LawC M 13 L := by
  obtain ⟨h1, h2, h3, E, h4, h5, h6⟩ := h
  refine ⟨h1, h2, fun j hj => ?_, fun k hk => ?_⟩
  · obtain ⟨a1, a2, a3, -⟩ := h6 j hj
    show 0 ≤ (M.1 15 j).toInt
    rw [a1, i32_i (by omega)]
    omega
  · obtain ⟨a1, a2, a3, a4, a5, a6⟩ := h6 k hk
    refine ⟨?_, a5, fun pl wh kn dy hr => ?_⟩
    · rw [bt_b (by omega), h3 k (by omega), decide_eq_true hk, Bool.true_and]
      rcases a4 with h | h <;> rw [h] <;> decide
    · have hf : cfrom M 13 k = E k := by
        unfold cfrom
        by_cases c : k = 0
        · rw [if_pos c, c, h4]
        · rw [if_neg c]
          obtain ⟨b1, b2, b3, -⟩ := h6 (k - 1) (by omega)
          show ni (M.1 15 (k - 1)) = E k
          rw [b1, ni_i (by omega), show k - 1 + 1 = k by omega]
      unfold cT
      rw [hf, show M.1 (13 + 2) k = i32 (E (k + 1)) from a1, ni_i (by omega)]
      exact a6 _ _ (fun _ _ => rfl) (fun _ _ => rfl) pl wh kn dy hr
section CB
variable {f : BY} {n t i s u : Nat} {K V : Nat → Int32} {b e : Nat → Nat} {M : MM} {L : LWT}
theorem c_addcl {N s' : Nat} {x v : Int32} {c : BF} {Q : MM → Prop} (hx : x = 1 ∨ x = 0) (h : CLb M L s u) (hL : L.1 < 12) (h6 : M.1 13 6 = i32 s') (hs : s ≤ s') (hc : CKt M s s' u c) (hQ : ∀ M', CLb M' (lput L (x, v, c)) s' u → Eqo [(14, 14, none), (15, 15, none), (13, 13, some 2), (13, 13, some 1)] M M' → Q M') : W_Law_addClause 13 x v N M Q := by
  obtain ⟨h1, h2, h3, E, h4, h5, h6'⟩ := h
  have n1 : ni (M.1 13 1) = L.1 := by rw [h1, ni_i (by omega)]
  have main : ∀ (M' : MM), M'.1 13 1 = i32 (L.1 + 1) → (∀ j, j < 32 → tb (M'.1 13 2) j = (tb (M.1 13 2) j || (decide (j = L.1) && decide (x = 1)))) → M'.1 14 L.1 = v → M'.1 15 L.1 = i32 s' → (∀ k, ¬ k = L.1 → M'.1 14 k = M.1 14 k) → (∀ k, ¬ k = L.1 → M'.1 15 k = M.1 15 k) → M'.1 16 = M.1 16 → M'.1 17 = M.1 17 → CLb M' (lput L (x, v, c)) s' u := fun M' b1 b2 b3 b4 b5 b6 b7 b8 => by
    refine ⟨b1, by show L.1 + 1 ≤ 12; omega, fun j hj => ?_, fun k => if k ≤ L.1 then E k else s', ?_, ?_, fun k hk => ?_⟩
    · rw [b2 j hj, h3 j hj]
      show _ = (decide (j < L.1 + 1) && decide (up1 L.2.1 L.1 x j = 1))
      by_cases hj2 : j = L.1
      · subst hj2
        rw [up1_e]
        simp
      · have e2 : (j < L.1 + 1) ↔ j < L.1 := by omega
        rw [up1_n hj2]
        simp [e2, hj2]
    · show (if 0 ≤ L.1 then E 0 else s') = 0
      rw [if_pos (by omega)]; exact h4
    · show (if L.1 + 1 ≤ L.1 then E (L.1 + 1) else s') = s'
      exact if_neg (by omega)
    · replace hk : k < L.1 + 1 := hk
      show M'.1 15 k = i32 (if k + 1 ≤ L.1 then E (k + 1) else s') ∧ (if k ≤ L.1 then E k else s') ≤ (if k + 1 ≤ L.1 then E (k + 1) else s') ∧ (if k + 1 ≤ L.1 then E (k + 1) else s') ≤ s' ∧ (up1 L.2.1 L.1 x k = 1 ∨ up1 L.2.1 L.1 x k = 0) ∧ M'.1 14 k = up1 L.2.2.1 L.1 v k ∧ CKt M' (if k ≤ L.1 then E k else s') (if k + 1 ≤ L.1 then E (k + 1) else s') u (if k = L.1 then c else L.2.2.2 k)
      by_cases hk2 : k = L.1
      · subst hk2
        rw [if_neg (by omega), if_pos (Nat.le_refl _), up1_e, up1_e, if_pos rfl, h5]
        exact ⟨b4, hs, Nat.le_refl _, hx, b3, fun sp tm d1 d2 => hc sp tm (fun y hy => by rw [← b7]; exact d1 y hy) (fun y hy => by rw [← b8]; exact d2 y hy)⟩
      · obtain ⟨a1, a2, a3, a4, a5, a6⟩ := h6' k (by omega)
        rw [if_pos (by omega), if_pos (by omega), up1_n hk2, up1_n hk2, if_neg hk2]
        exact ⟨by rw [b6 k hk2]; exact a1, a2, by omega, a4, by rw [b5 k hk2]; exact a5, fun sp tm d1 d2 => a6 sp tm (fun y hy => by rw [← b7]; exact d1 y hy) (fun y hy => by rw [← b8]; exact d2 y hy)⟩
  unfold W_Law_addClause
  have e0 : ∀ y : Int32, Eqo [(14, 14, none), (15, 15, none), (13, 13, some 2), (13, 13, some 1)] M (wi (wi (wi (wi M (13 + 1) L.1 v) (13 + 2) L.1 (i32 s')) 13 2 y) 13 1 (i32 (L.1 + 1))) := fun y => eqo_wi (i := 3) (eqo_wi (i := 2) (eqo_wi (i := 1) (eqo_wi (i := 0) (eqo_rf M) rfl (Or.inl rfl)) rfl (Or.inl rfl)) rfl (Or.inr rfl)) rfl (Or.inr rfl)
  have m0 : ∀ y : Int32, (∀ j, j < 32 → tb y j = (tb (M.1 13 2) j || (decide (j = L.1) && decide (x = 1)))) → CLb (wi (wi (wi (wi M (13 + 1) L.1 v) (13 + 2) L.1 (i32 s')) 13 2 y) 13 1 (i32 (L.1 + 1))) (lput L (x, v, c)) s' u := fun y hy => main _ wi_1e (by rw [wi_1n (by omega), wi_1e]; exact hy) (by rw [wi_1n (by omega), wi_1n (by omega), wi_1n (by omega)]; exact wi_1e) (by rw [wi_1n (by omega), wi_1n (by omega)]; exact wi_1e) (fun k hk => by rw [wi_1n (by omega), wi_1n (by omega), wi_1n (by omega), wi_1n (by omega)]) (fun k hk => by rw [wi_1n (by omega), wi_1n (by omega), wi_1n (by omega), wi_1n (by omega)]) rfl rfl
  have s1 : (wi M (13 + 1) L.1 v).1 13 1 = i32 L.1 := by rw [wi_1n (by omega)]; exact h1
  have s6 : (wi M (13 + 1) L.1 v).1 13 6 = i32 s' := by rw [wi_1n (by omega)]; exact h6
  have s2 : (wi (wi M (13 + 1) L.1 v) (13 + 2) L.1 (i32 s')).1 13 2 = M.1 13 2 := by rw [wi_1n (by omega), wi_1n (by omega)]
  have s1' : (wi (wi M (13 + 1) L.1 v) (13 + 2) L.1 (i32 s')).1 13 1 = i32 L.1 := by rw [wi_1n (by omega)]; exact s1
  have s1'' : ∀ y, (wi (wi (wi M (13 + 1) L.1 v) (13 + 2) L.1 (i32 s')) 13 2 y).1 13 1 = i32 L.1 := fun y => by rw [wi_1n (by omega)]; exact s1'
  rw [n1, s1, ni_i (by omega), s6, s2, s1', s1'', s1'', i32_s, h1]
  refine ⟨fun _ => ⟨fun hx0 => ?_, fun hx0 => ?_⟩, fun hb => absurd ((i32_lt (k := 12) (by omega) (by omega)).mpr hL) hb⟩
  · refine hQ _ (m0 _ (fun j hj => ?_)) (e0 _)
    rw [tb_or, tb_0, hx0, decide_eq_false (show ¬ (0 : Int32) = 1 by decide)]
    simp
  · refine hQ _ (m0 _ (fun j hj => ?_)) (e0 _)
    have hx1 : x = 1 := by
      rcases hx with h | h
      · exact h
      · exact absurd h hx0
    rw [tb_or, tb_sl (by omega) hj, hx1, decide_eq_true rfl, Bool.and_true]
def clW (x : Int32) (N : Nat) (M : MM) (Q : Int32 → MM → Prop) : Prop :=
    W_Text_goOn  N M (fun M4 =>
      W_Text_numberWithin 0 7 N M4 (fun r5 M6 =>
        ((r5 = (-1) →
          Q 0 M6) ∧
         (¬ r5 = (-1) →
          (((V_Text_kind  M6) = 2 →
            W_Text_goOn  N M6 (fun M10 =>
              W_LawReader_readCondition 0 N M10 (fun r11 M12 =>
                ((r11 = 0 →
                  Q 0 M12) ∧
                 (¬ r11 = 0 →
                  W_Law_addClause 13 x r5 N M12 (fun M15 =>
                    Q 1 M15)))))) ∧
           (¬ (V_Text_kind  M6) = 2 →
            W_Law_addClause 13 x r5 N M6 (fun M17 =>
              Q 1 M17)))))))
def CCR (t : Nat) (K V : Nat → Int32) (e : Nat → Nat) (L : LWT) (i : Nat) (res : Option CLS × Nat) (r : Int32) (M' : MM) : Prop := (r = 1 ∧ ∃ q j s' u', res = (some q, j) ∧ j ≤ t ∧ i < j ∧ TKc M' t K V j ∧ CLb M' (lput L q) s' u' ∧ M'.1 13 6 = i32 s' ∧ M'.1 13 8 = i32 (5 * u') ∧ 2 * s' ≤ pe e j ∧ 3 * u' ≤ pe e j) ∨ (r = 0 ∧ ∃ j, res = (none, j) ∧ j ≤ t ∧ TKc M' t K V j)
theorem c_clW {N F k : Nat} {x : Int32} {Q : Int32 → MM → Prop} (hx : x = 1 ∨ x = 0) (hF : 400 < F) (hn : n ≤ 400) (hT : TKS f n t K V b e) (h : TKc M t K V i) (hi : i ≤ t) (hk2 : k < 2) (hk : K i = i32 k) (hL : L.1 < 12) (hc : CLb M L s u) (h6 : M.1 13 6 = i32 s) (h8 : M.1 13 8 = i32 (5 * u)) (hs : 2 * s ≤ pe e i) (hu : 3 * u ≤ pe e i) (hQ : ∀ r M', CCR t K V e L i (pDeed K V F x (i + 1)) r M' → Q r M') : clW x N M Q := by
  have ht := hT.1
  have hlt := tk_lt hT hi (by rw [hk]; exact fun y => by have := (i32_ij (b := 21) (by omega) (by omega)).mp y; omega)
  have hw := pe_w (by omega) hT hi hk
  have hw5 : 5 ≤ wln k := by
    have : k = 0 ∨ k = 1 := by omega
    rcases this with h | h <;> rw [h]
    · rw [w6.2.2.2.2.2.2]; omega
    · rw [w6.2.2.2.2.2.1]; omega
  unfold pDeed at hQ
  unfold clW W_Text_goOn W_Text_numberWithin
  dsimp only
  have t1 := TKc_g h
  rw [kd t1 (by omega) ht, vl t1 (by omega) ht]
  refine ⟨fun h20 => ?_, fun h20 => ?_⟩
  · rw [if_pos h20] at hQ
    obtain ⟨m, m1, m2⟩ := tk_V hT (by omega) h20
    have hneg : ¬ V (i + 1) < 0 := by
      rw [m2, lt_lit, i32_i (by omega)]
      show ¬ (m : Int) < 0
      omega
    refine ⟨fun y => absurd y hneg, fun _ => ⟨fun h7 => ?_, fun h7 => ?_⟩⟩
    · rw [if_pos h7] at hQ
      exact ⟨fun _ => hQ 0 _ (Or.inr ⟨rfl, i + 1, rfl, by omega, t1⟩), fun y => absurd rfl y⟩
    · rw [if_neg h7] at hQ
      refine ⟨fun y => absurd (show V (i + 1) < 0 by rw [y]; decide) hneg, fun _ => ?_⟩
      have hlt2 := tk_lt hT (by omega) (show ¬ K (i + 1) = 21 by rw [h20]; decide)
      have t2 := TKc_g t1
      have hp1 := pe_1 hT hlt2
      rw [kd t2 (by omega) ht]
      refine ⟨fun hk2 => ?_, fun hk2 => ?_⟩
      · rw [if_pos hk2] at hQ
        have hlt3 := tk_lt hT (by omega) (show ¬ K (i + 1 + 1) = 21 by rw [hk2]; decide)
        have hp2 := pe_1 hT hlt3
        rw [show i + 1 + 1 + 1 = i + 3 from rfl] at hp2
        refine and_LawReader_readCondition (Q1 := fun r M' => (r = 1 ∧ ∃ c j s' u', pCond K V F 6 (i + 1 + 2) = (some c, j) ∧ j ≤ t ∧ i + 3 < j ∧ TKc M' t K V j ∧ M'.1 13 6 = i32 s' ∧ M'.1 13 8 = i32 (5 * u') ∧ s ≤ s' ∧ u ≤ u' ∧ 2 * s' + pe e (i + 3) ≤ 2 * s + pe e j ∧ 3 * u' + pe e (i + 3) ≤ 3 * u + pe e j ∧ CMg (2 ^ 16) M' s s' u' c ∧ (∀ x, x < s → M'.1 16 x = M.1 16 x) ∧ (∀ x, x < 5 * u → M'.1 17 x = M.1 17 x)) ∨ (r = 0 ∧ ∃ j, pCond K V F 6 (i + 1 + 2) = (none, j) ∧ j ≤ t ∧ TKc M' t K V j)) (Q2 := fun _ M' => Eqo fp_LawReader_readCondition _ M') (fun r M' g1 g2 => ?_) ?_ (an_LawReader_readCondition (fun r M' h => h))
        · rcases g1 with ⟨rfl, c, j, s', u', j1, j2, j3, j4, j5, j6, j7, j8, j9, j10, j11, j12, j13⟩ | ⟨rfl, j, j1, j2, j3⟩
          · refine ⟨fun y => absurd y (by decide), fun _ => ?_⟩
            have e1 : M'.1 13 1 = M.1 13 1 := eq1 g2 (b := 13) (k := 1) rfl
            have e2 : M'.1 13 2 = M.1 13 2 := eq1 g2 (b := 13) (k := 2) rfl
            have e14 : M'.1 14 = M.1 14 := eqb g2 (lo := 14) (hi := 14) rfl (Nat.le_refl _) (Nat.le_refl _)
            have e15 : M'.1 15 = M.1 15 := eqb g2 (lo := 15) (hi := 15) rfl (Nat.le_refl _) (Nat.le_refl _)
            have hc' := CLb_fr hc j8 e1 e2 e14 e15 j12 j13
            refine c_addcl (c := c) (s' := s') hx hc' hL j5 j7 ?_ (fun M5 d1 d2 => hQ 1 _ (Or.inl ⟨rfl, _, j, s', u', by rw [j1], j2, by omega, TKc_e j4 d2 rfl, d1, by rw [eq1 d2 (b := 13) (k := 6) rfl]; exact j5, by rw [eq1 d2 (b := 13) (k := 8) rfl]; exact j6, by omega, by omega⟩))
            intro sp tm a1 a2 pl wh kn dy hr
            have := j11 sp tm a1 a2 pl wh kn dy hr 1 (by decide)
            rw [show (1 : Int32) = i32 1 from rfl, this]
            show decide (i32 (2 * 1 + (c pl wh kn dy).toNat) &&& i32 1 = i32 1) = c pl wh kn dy
            cases c pl wh kn dy <;> decide
          · exact ⟨fun _ => hQ 0 _ (Or.inr ⟨rfl, j, by rw [j1], j2, j3⟩), fun y => absurd rfl y⟩
        · refine (c_lv6 hn hT hF).2 N _ (i + 3) s u _ (TKc_g t2) (by omega) h6 h8 (by omega) (by omega) ⟨fun c j hj hjt hij M' s' u' b1 b2 b3 l1 l2 l3 l4 g1 f1 f2 => Or.inl ⟨rfl, c, j, s', u', hj, hjt, hij, b1, b2, b3, l1, l2, l3, l4, g1, f1, f2⟩, fun j hj hjt M' b1 => Or.inr ⟨rfl, j, hj, hjt, b1⟩⟩
      · rw [if_neg hk2] at hQ
        have hc' : CLb (wi (wi M 3 5 (M.1 3 5 + 1)) 3 5 ((wi M 3 5 (M.1 3 5 + 1)).1 3 5 + 1)) L s u := CLb_fr hc (Nat.le_refl _) rfl rfl rfl rfl (fun _ _ => rfl) (fun _ _ => rfl)
        refine c_addcl (c := fun _ _ _ _ => true) (s' := s) hx hc' hL h6 (Nat.le_refl _) ?_ (fun M5 d1 d2 => hQ 1 _ (Or.inl ⟨rfl, _, i + 1 + 1, s, u, rfl, by omega, by omega, TKc_e t2 d2 rfl, d1, by rw [eq1 d2 (b := 13) (k := 6) rfl]; exact h6, by rw [eq1 d2 (b := 13) (k := 8) rfl]; exact h8, by omega, by omega⟩))
        intro sp tm a1 a2 pl wh kn dy hr
        rw [Nat.sub_self]
        show decide ((1 : Int32) &&& 1 = 1) = true
        decide
  · rw [if_neg h20] at hQ
    exact ⟨fun _ => hQ 0 _ (Or.inr ⟨rfl, i + 1, rfl, by omega, t1⟩), fun y => absurd rfl y⟩
theorem c_clause {N F : Nat} {Q : Int32 → MM → Prop} (hF : 400 < F) (hn : n ≤ 400) (hT : TKS f n t K V b e) (h : TKc M t K V i) (hi : i ≤ t) (hL : L.1 < 12) (hc : CLb M L s u) (h6 : M.1 13 6 = i32 s) (h8 : M.1 13 8 = i32 (5 * u)) (hs : 2 * s ≤ pe e i) (hu : 3 * u ≤ pe e i) (hQ : ∀ r M', CCR t K V e L i (pClause K V F i) r M' → Q r M') : W_LawReader_readClause N M Q := by
  have ht := hT.1
  unfold W_LawReader_readClause
  rw [kd h hi ht]
  unfold pClause at hQ
  refine ⟨fun h1 => ?_, fun h1 => ⟨fun h0 => ?_, fun h0 => ?_⟩⟩
  · rw [if_pos h1] at hQ
    exact c_clW (Or.inl rfl) hF hn hT h hi (k := 1) (by omega) h1 hL hc h6 h8 hs hu hQ
  · rw [if_neg h1, if_pos h0] at hQ
    exact c_clW (Or.inr rfl) hF hn hT h hi (k := 0) (by omega) h0 hL hc h6 h8 hs hu hQ
  · rw [if_neg h1, if_neg h0] at hQ
    exact hQ 0 M (Or.inr ⟨rfl, i, rfl, hi, h⟩)
def RAC (t : Nat) (K V : Nat → Int32) (res : Option LWT × Nat) (r : Int32) (M' : MM) : Prop := (∃ L j, res = (some L, j) ∧ r = -1 ∧ LawC M' 13 L ∧ M'.1 13 0 = 1) ∨ (∃ j, res = (none, j) ∧ j ≤ t ∧ r = V_Text_begin M' ∧ TKc M' t K V j)
theorem c_readAll {N F : Nat} {Q : Int32 → MM → Prop} (hF : 400 < F) (hn : n ≤ 400) (hT : TKS f n t K V b e) (h : TKc M t K V 0) (hQ : ∀ r M', RAC t K V (pCode K V F) r M' → Q r M') : W_LawReader_readAll N M Q := by
  have ht := hT.1
  unfold W_LawReader_readAll W_Law_clear
  dsimp only
  have e1 : Eqo [(13, 13, some 0), (13, 13, some 1), (13, 13, some 2), (13, 13, some 6), (13, 13, some 8)] M (wi (wi (wi (wi (wi (wi M 13 0 0) 13 1 0) 13 2 0) 13 6 0) 13 8 0) 13 0 1) := eqo_wi (i := 0) (eqo_wi (i := 4) (eqo_wi (i := 3) (eqo_wi (i := 2) (eqo_wi (i := 1) (eqo_wi (i := 0) (eqo_rf M) rfl (Or.inr rfl)) rfl (Or.inr rfl)) rfl (Or.inr rfl)) rfl (Or.inr rfl)) rfl (Or.inr rfl)) rfl (Or.inr rfl)
  have z0 : (wi (wi (wi (wi (wi (wi M 13 0 0) 13 1 0) 13 2 0) 13 6 0) 13 8 0) 13 0 1).1 13 0 = 1 := wi_1e
  have z1 : (wi (wi (wi (wi (wi (wi M 13 0 0) 13 1 0) 13 2 0) 13 6 0) 13 8 0) 13 0 1).1 13 1 = 0 := by simp (disch := omega) only [wi_1n, wi_1e]
  have z2 : (wi (wi (wi (wi (wi (wi M 13 0 0) 13 1 0) 13 2 0) 13 6 0) 13 8 0) 13 0 1).1 13 2 = 0 := by simp (disch := omega) only [wi_1n, wi_1e]
  have z6 : (wi (wi (wi (wi (wi (wi M 13 0 0) 13 1 0) 13 2 0) 13 6 0) 13 8 0) 13 0 1).1 13 6 = 0 := by simp (disch := omega) only [wi_1n, wi_1e]
  have z8 : (wi (wi (wi (wi (wi (wi M 13 0 0) 13 1 0) 13 2 0) 13 6 0) 13 8 0) 13 0 1).1 13 8 = 0 := by simp (disch := omega) only [wi_1n, wi_1e]
  generalize wi (wi (wi (wi (wi (wi M 13 0 0) 13 1 0) 13 2 0) 13 6 0) 13 8 0) 13 0 1 = M1 at *
  have t1 := TKc_e h e1 rfl
  have c0 : CLb M1 zL 0 0 := ⟨z1, by show 0 ≤ 12; omega, fun j hj => by rw [z2, tb_0, decide_eq_false (by show ¬ j < 0; omega)]; rfl, fun _ => 0, rfl, rfl, fun k hk => absurd hk (by show ¬ k < 0; omega)⟩
  rw [kd t1 (by omega) ht]
  refine ⟨fun h21 => hQ _ _ (Or.inl ⟨zL, 0, ?_, rfl, CLb_L c0 (by omega), z0⟩), fun h21 => ?_⟩
  · unfold pCode
    rw [if_pos h21]
  · have hpc : pCode K V F = pLaw K V F 12 zL 0 := by
      unfold pCode
      rw [if_neg h21]
    rw [hpc] at hQ
    refine I_LawReader_readAll_31 Q (fun v M' => ∃ m L i s u, L.1 + m = 12 ∧ v = i32 L.1 ∧ i ≤ t ∧ TKc M' t K V i ∧ CLb M' L s u ∧ M'.1 13 6 = i32 s ∧ M'.1 13 8 = i32 (5 * u) ∧ 2 * s ≤ pe e i ∧ 3 * u ≤ pe e i ∧ M'.1 13 0 = 1 ∧ pLaw K V F 12 zL 0 = pLaw K V F m L i) (fun N ih v M' hih hv => ?_) N _ _ ⟨12, zL, 0, 0, 0, rfl, rfl, by omega, t1, c0, z6, z8, by omega, by omega, z0, rfl⟩
    obtain ⟨m, L, i, s, u, k1, rfl, k2, k3, k4, k5, k6, k7, k8, k9, k10⟩ := hv
    unfold B_LawReader_readAll_31
    rw [show i32 L.1 < 12 ↔ L.1 < 12 from i32_lt (k := 12) (by omega) (by omega)]
    refine ⟨fun hl => ?_, fun hl => ?_⟩
    · obtain ⟨m2, rfl⟩ : ∃ m2, m = m2 + 1 := ⟨m - 1, by omega⟩
      refine and_LawReader_readClause (Q1 := fun r M6 => CCR t K V e L i (pClause K V F i) r M6) (Q2 := fun _ M6 => Eqo fp_LawReader_readClause M' M6) (fun r M6 g1 g2 => ?_) (c_clause hF hn hT k3 k2 hl k4 k5 k6 k7 k8 (fun r M6 h => h)) (an_LawReader_readClause (fun r M' h => h))
      have g0 : M6.1 13 0 = 1 := by rw [eq1 g2 (b := 13) (k := 0) rfl]; exact k9
      rcases g1 with ⟨rfl, q, j, s', u', j1, j2, j3, j4, j5, j6, j7, j8, j9⟩ | ⟨rfl, j, j1, j2, j3⟩
      · refine ⟨fun y => absurd y (by decide), fun _ => ?_⟩
        have k10' : pLaw K V F 12 zL 0 = (if K j = 21 then (some (lput L q), j) else if K j = 59 then pLaw K V F m2 (lput L q) (j + 1) else (none, j)) := by
          rw [k10]
          show (match pClause K V F i with | (none, j) => (none, j) | (some q, j) => _) = _
          rw [j1]
        have hpn := pe_n hT j2
        rw [kd j4 j2 ht]
        refine ⟨fun y21 => ?_, fun y21 => ⟨fun y59 => ?_, fun y59 => ?_⟩⟩
        · rw [if_pos y21] at k10'
          exact hQ _ _ (Or.inl ⟨_, j, k10', rfl, CLb_L j5 (by omega), g0⟩)
        · rw [if_neg y21, if_pos y59] at k10'
          have hlt := tk_lt hT j2 y21
          have hp1 := pe_1 hT hlt
          unfold W_Text_goOn
          rw [i32_s]
          exact hih _ _ ⟨m2, lput L q, j + 1, s', u', by show L.1 + 1 + m2 = 12; omega, rfl, by omega, TKc_g j4, CLb_fr j5 (Nat.le_refl _) rfl rfl rfl rfl (fun _ _ => rfl) (fun _ _ => rfl), j6, j7, by omega, by omega, g0, k10'⟩
        · rw [if_neg y21, if_neg y59] at k10'
          exact hQ _ _ (Or.inr ⟨j, k10', j2, rfl, j4⟩)
      · refine ⟨fun _ => hQ _ _ (Or.inr ⟨j, ?_, j2, rfl, j3⟩), fun y => absurd rfl y⟩
        rw [k10]
        show (match pClause K V F i with | (none, j) => (none, j) | (some q, j) => _) = _
        rw [j1]
    · obtain rfl : m = 0 := by omega
      exact hQ _ _ (Or.inr ⟨i, k10, k2, rfl, k3⟩)
end CB
