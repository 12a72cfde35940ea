/-! .. THROUGH A CODE: the deeds -/
section KCD
variable {B : Int} {M : MM} {N : Nat}
def DBk (n : Nat) (M : MM) : Prop := ∀ k, k < n → ∃ d, d < 8 ∧ M.1 201 (4 * k + 1) = i32 d
theorem DBk_e {n : Nat} {M M' : MM} (h : DBk n M) (e : M'.1 201 = M.1 201) : DBk n M' := fun k hk => by rw [e]; exact h k hk
theorem DBk_w {n j : Nat} {x : Int32} {M : MM} (h : DBk n M) (hj : ∀ k, k < n → 4 * k + 1 ≠ j) : DBk n (wi M 201 j x) := fun k hk => by rw [wi_1n (fun e => hj k hk e.2)]; exact h k hk
abbrev fqk : List (Nat × Nat × Option Nat) := [(190, 190, some 0), (190, 190, some 20), (190, 190, some 18), (190, 190, some 19), (190, 190, some 25), (190, 190, some 21), (201, 201, none), (190, 190, some 22), (202, 202, none)]
theorem kc_num : W_m_number 0 7 N M (fun r _ => r = -1 ∨ ∃ d, d < 8 ∧ r = i32 d) := by
  unfold W_m_number
  refine an_m_blanks (fun M2 _ => ?_)
  refine I_m_number_6 0 7 _ _ (fun _ _ => True) (fun N ih v M' hih _ => ?_) N _ _ trivial
  unfold B_m_number_6
  refine ⟨fun _ => ⟨fun _ => Or.inl rfl, fun _ => ⟨fun _ => Or.inl rfl, fun _ => ⟨fun _ => Or.inl rfl, fun h1 => ⟨fun _ => Or.inl rfl, fun h2 => Or.inr ?_⟩⟩⟩⟩, fun _ => ⟨fun _ => hih _ _ trivial, fun _ => hih _ _ trivial⟩⟩
  rw [lt_lit, show (0 : Int32).toInt = 0 from rfl] at h1
  rw [lt_lit, show (7 : Int32).toInt = 7 from rfl] at h2
  exact ⟨v.toInt.toNat, by omega, i32_of (by omega)⟩
theorem kc_deed {k : Nat} {x : Int32} {Q : Int32 → MM → Prop} (hk : k < 12) (h : DBk k M) (hQ : ∀ r M', (r = 0 ∨ DBk (k + 1) M') → Q r M') : deedW (i32 k) x N M Q := by
  have q0 : ni (4 * i32 k) = 4 * k := by rw [show (4 : Int32) * i32 k = i32 (4 * k) from i32_m 4 k, ni_i (by omega)]
  have q1 : ni (4 * i32 k + 1) = 4 * k + 1 := by rw [show (4 : Int32) * i32 k = i32 (4 * k) from i32_m 4 k, i32_s, ni_i (by omega)]
  have q2 : ni (4 * i32 k + 2) = 4 * k + 2 := by rw [show (4 : Int32) * i32 k = i32 (4 * k) from i32_m 4 k, show i32 (4 * k) + 2 = i32 (4 * k + 2) from i32_a (4 * k) 2, ni_i (by omega)]
  have q3 : ni (4 * i32 k + 3) = 4 * k + 3 := by rw [show (4 : Int32) * i32 k = i32 (4 * k) from i32_m 4 k, show i32 (4 * k) + 3 = i32 (4 * k + 3) from i32_a (4 * k) 3, ni_i (by omega)]
  unfold deedW
  rw [q0, q1, q2, q3]
  refine and_m_number (Q1 := fun r _ => r = -1 ∨ ∃ d, d < 8 ∧ r = i32 d) (Q2 := fun _ M' => Eqo fp_m_number (wi M 201 (4 * k) x) M') (fun r M10 hr e10 => ?_) kc_num (an_m_number (fun _ _ e => e))
  rw [wi_1e]
  refine ⟨fun _ => hQ _ _ (Or.inl rfl), fun hr0 => ?_⟩
  rcases hr with rfl | ⟨d, hd, rfl⟩
  · exact absurd (by decide) hr0
  have b1 : DBk (k + 1) (wi M10 201 (4 * k + 1) (i32 d)) := fun j hj => by
    by_cases e : j = k
    · subst e
      exact ⟨d, hd, wi_1e⟩
    · rw [wi_1n (by omega), eqb e10 (lo := 201) (hi := 201) rfl (Nat.le_refl _) (Nat.le_refl _), wi_1n (by omega)]
      exact h j (by omega)
  have b2 : ∀ (y z : Int32), DBk (k + 1) (wi (wi (wi M10 201 (4 * k + 1) (i32 d)) 201 (4 * k + 2) y) 190 22 z) := fun y z => DBk_e (M := wi (wi M10 201 (4 * k + 1) (i32 d)) 201 (4 * k + 2) y) (DBk_w (j := 4 * k + 2) b1 (fun j hj => by omega)) (by funext j; exact wi_1n (by omega))
  refine an_m_passes (fun r12 M13 e13 => ?_)
  have b3 : DBk (k + 1) M13 := DBk_e (b2 _ _) (eqb e13 (lo := 201) (hi := 201) rfl (Nat.le_refl _) (Nat.le_refl _))
  refine ⟨fun _ => hQ _ _ (Or.inr (DBk_w b3 (fun j hj => by omega))), fun _ => an_m_readCond (fun r15 M16 e16 => ⟨fun _ => hQ _ _ (Or.inl rfl), fun _ => hQ _ _ (Or.inr (DBk_w (DBk_e b3 (eqb e16 (lo := 201) (hi := 201) rfl (Nat.le_refl _) (Nat.le_refl _))) (fun j hj => by omega)))⟩)⟩
theorem kc_clause {k : Nat} {Q : Int32 → MM → Prop} (hk : k ≤ 12) (h : DBk k M) (hQ : ∀ r M', (r = 0 ∨ (k < 12 ∧ DBk (k + 1) M')) → Q r M') : W_m_readClause (i32 k) N M Q := by
  unfold W_m_readClause
  refine ⟨fun _ => hQ _ _ (Or.inl rfl), fun hne => ?_⟩
  have hk' : k < 12 := by
    apply Classical.byContradiction
    intro hb
    exact hne (by rw [show k = 12 by omega]; rfl)
  have dd : ∀ x, deedW (i32 k) x N M Q := fun x => kc_deed hk' h (fun r M' hr => hQ r M' (hr.imp_right fun hd => ⟨hk', hd⟩))
  refine an_m_isWord (fun r2 => ⟨fun h2 => an_m_isWord (fun r5 => ⟨fun _ => hQ _ _ (Or.inl rfl), fun _ => ⟨fun _ => dd 0, fun h3 => absurd h2 h3⟩⟩), fun h2 => ⟨fun h3 => absurd h3 h2, fun _ => dd 1⟩⟩)
theorem kc_line {k : Nat} {Q : Int32 → MM → Prop} (hk : k ≤ 12) (h : DBk k M) (hQ : ∀ r M', (r = 0 ∨ (k < 12 ∧ DBk (k + 1) M')) → Eqo fqk M M' → Q r M') : W_m_readLine 1 (i32 k) N M Q := by
  unfold W_m_readLine
  refine an_m_letters (fun M2 e2 => ⟨fun hb => absurd hb (by decide), fun _ => ?_⟩)
  have f2 : Eqo fqk M M2 := eqo_tr (eqo_rf M) (fps_cons (i := 5) rfl (fps_cons (i := 3) rfl fps_nil)) e2
  refine and_m_readClause (Q1 := fun r M' => r = 0 ∨ (k < 12 ∧ DBk (k + 1) M')) (Q2 := fun _ M' => Eqo fp_m_readClause M2 M') (fun r M' h1 h2 => hQ r M' h1 ?_) (kc_clause hk (DBk_e h (eqb e2 (lo := 201) (hi := 201) rfl (Nat.le_refl _) (Nat.le_refl _))) (fun _ _ h => h)) (an_m_readClause (fun r M' h => h))
  exact eqo_tr f2 (fps_cons (i := 6) rfl (fps_cons (i := 5) rfl (fps_cons (i := 3) rfl (fps_cons (i := 7) rfl (fps_cons (i := 8) rfl (fps_cons (i := 4) rfl fps_nil)))))) h2
theorem kc_all {Q : Int32 → MM → Prop} (hQ : ∀ r M', (r = -1 ∨ ∃ k, k ≤ 12 ∧ r = i32 k ∧ DBk k M') → Eqo fqk M M' → Q r M') : W_m_readAll 1 N M Q := by
  unfold W_m_readAll W_m_uses
  dsimp only
  have e1 : Eqo fqk M (wi (wi (wi (wi (wi M 190 0 0) 190 20 ((wi M 190 0 0).1 190 18)) 190 18 0) 190 19 0) 190 25 0) := eqo_wi (i := 4) (eqo_wi (i := 3) (eqo_wi (i := 2) (eqo_wi (i := 1) (eqo_wi (i := 0) (eqo_rf M) rfl (Or.inr rfl)) rfl (Or.inr rfl)) rfl (Or.inr rfl)) rfl (Or.inr rfl)) rfl (Or.inr rfl)
  generalize wi (wi (wi (wi (wi M 190 0 0) 190 20 ((wi M 190 0 0).1 190 18)) 190 18 0) 190 19 0) 190 25 0 = M1 at *
  have bl : ∀ {M2 M3 : MM}, Eqo fqk M M2 → Eqo fp_m_blanks M2 M3 → Eqo fqk M M3 := fun a b => eqo_tr a (fps_cons (i := 5) rfl (fps_cons (i := 3) rfl fps_nil)) b
  refine an_m_blanks (fun M4 e4 => ⟨fun _ => hQ _ _ (Or.inr ⟨0, by omega, rfl, fun k hk => absurd hk (by omega)⟩) (bl e1 e4), fun _ => ?_⟩)
  refine I_m_readAll_28 1 Q (fun v M' => ∃ k, k ≤ 12 ∧ v = i32 k ∧ DBk k M' ∧ Eqo fqk M M') (fun N ih v M' hih hv => ?_) N _ _ ⟨0, by omega, rfl, fun k hk => absurd hk (by omega), bl e1 e4⟩
  obtain ⟨k, hk, rfl, hd, he⟩ := hv
  unfold B_m_readAll_28
  refine kc_line hk hd (fun r M7 hr e7 => ?_)
  have f7 : Eqo fqk M M7 := eqo_tr he (fps_cons (i := 0) rfl (fps_cons (i := 1) rfl (fps_cons (i := 2) rfl (fps_cons (i := 3) rfl (fps_cons (i := 4) rfl (fps_cons (i := 5) rfl (fps_cons (i := 6) rfl (fps_cons (i := 7) rfl (fps_cons (i := 8) rfl fps_nil))))))))) e7
  refine ⟨fun _ => hQ _ _ (Or.inl rfl) f7, fun hr1 => ?_⟩
  rcases hr with hr | ⟨h12, hd2⟩
  · exact absurd hr hr1
  refine an_m_blanks (fun M10 e10 => ?_)
  have f10 := bl f7 e10
  have d10 : DBk (k + 1) M10 := DBk_e hd2 (eqb e10 (lo := 201) (hi := 201) rfl (Nat.le_refl _) (Nat.le_refl _))
  rw [i32_s]
  refine ⟨fun _ => hQ _ _ (Or.inr ⟨k + 1, by omega, rfl, d10⟩) f10, fun _ => ⟨fun _ => hQ _ _ (Or.inl rfl) f10, fun _ => hih _ _ ⟨k + 1, by omega, rfl, DBk_e d10 (by funext j; exact wi_1n (by omega)), eqo_wi (i := 3) f10 rfl (Or.inr rfl)⟩⟩⟩
theorem k_code (h : RG B M) (k : KI M) : W_m_code N M (fun _ M2 => KI M2) := by
  obtain ⟨L, l12, hR, hcl, hd, hg⟩ := h
  obtain ⟨z, ⟨ka, kb, ⟨m, hh, hr, hi⟩, kd⟩, kw⟩ := k
  unfold W_m_code
  refine r_cpy1 (fun M2 a1 e1 => r_cpy2 (fun M4 a2 e2 => ?_))
  have e12 := eqo_app e1 e2
  refine kc_all (fun r M6 hr6 e6 => ?_)
  have e16 := eqo_app e12 e6
  have p205 : ∀ j, j < 48 → M6.1 205 j = M.1 201 j := fun j hj => by
    rw [eqb e6 (lo := 205) (hi := 205) rfl (Nat.le_refl _) (Nat.le_refl _), eqb e2 (lo := 205) (hi := 205) rfl (Nat.le_refl _) (Nat.le_refl _)]
    exact a1 j hj
  have z12 : z ≤ 12 := by
    rw [← ka]
    rcases hd with ⟨t1, -⟩ | t1
    · rw [t1, show (-1 : Int32).toInt = -1 from rfl]; omega
    · rw [t1, i32_i (by omega)]; omega
  -- brought back
  have bk : ∀ (M7 : MM), Eqo ([(190, 190, some 23)] ++ [(190, 190, some 0)]) M6 M7 → W_m_code_126 (fun M18 => W_m_code_155 (fun _ M2 => KI M2) N 0 M18) (fun _ M2 => KI M2) N 0 M7 := fun M7 e7 => by
    refine r_back (fun M8 b1 b2 e8 => ?_)
    have ee := eqo_app e16 (eqo_app e7 e8)
    refine ⟨z, ⟨by rw [eq1 ee (b := 190) (k := 15) rfl]; exact ka, fun j hj => ?_, ⟨m, hh, RMm_eq hr ee rfl, hi⟩, ?_⟩, by rw [eqb ee (lo := 191) (hi := 191) rfl (Nat.le_refl _) (Nat.le_refl _)]; exact kw⟩
    · rw [b1 _ (by omega), eqb e7 (lo := 205) (hi := 205) rfl (Nat.le_refl _) (Nat.le_refl _), p205 _ (by omega)]
      exact kb j hj
    · rw [eq1 ee (b := 190) (k := 11) rfl, eq1 ee (b := 190) (k := 15) rfl, eq1 ee (b := 190) (k := 16) rfl, eqb ee (lo := 192) (hi := 192) rfl (Nat.le_refl _) (Nat.le_refl _)]
      exact kd
  have e23 : ∀ x y, Eqo ([(190, 190, some 23)] ++ [(190, 190, some 0)]) M6 (wi (wi M6 190 23 x) 190 0 y) := fun x y => eqo_app eqo_1 eqo_1
  unfold W_m_throwsIf V_m_citizens
  rcases hr6 with rfl | ⟨n, hn, rfl, hdb⟩
  · have hneg : (-1 : Int32) < 0 := by decide
    refine ⟨fun _ => ⟨fun _ => ⟨fun x => absurd x (by decide), fun _ => ⟨fun x => absurd x (by decide), fun _ => bk _ (e23 _ _)⟩⟩, fun x => absurd hneg x⟩, fun x => absurd hneg x⟩
  · have hneg : ¬ i32 n < 0 := by
      rw [lt_lit, i32_i (by omega), show (0 : Int32).toInt = 0 from rfl]
      omega
    refine ⟨fun x => absurd x hneg, fun _ => ⟨fun x => absurd x hneg, fun _ => ⟨fun _ => ?_, fun x => absurd rfl x⟩⟩⟩
    refine ⟨fun _ => ?_, fun x => absurd rfl x⟩
    have s15 : (wi M6 190 23 (-1)).1 190 15 = M.1 190 15 := by rw [wi_1n (by omega)]; exact eq1 e16 (b := 190) (k := 15) rfl
    rw [s15]
    refine ⟨fun h15 => ⟨fun hc => ⟨fun x => absurd x (by decide), fun _ => ⟨fun x => absurd x (by decide), fun _ => bk _ (e23 _ _)⟩⟩, fun hc => ⟨fun _ => ⟨fun _ => ?_, fun x => absurd rfl x⟩, fun x => absurd rfl x⟩⟩, fun h15 => ⟨fun x => absurd x (by decide), fun _ => ⟨fun x => absurd x (by decide), fun _ => bk _ (e23 _ _)⟩⟩⟩
    have ef : Eqo ([(190, 190, some 23)] ++ ([(190, 190, some 15)] ++ [(190, 190, some 12)])) M6 (wi (wi (wi M6 190 23 (-1)) 190 15 (i32 n)) 190 12 0) := eqo_app eqo_1 (eqo_app eqo_1 eqo_1)
    have ee := eqo_app e16 ef
    have zn : z < 0 := by
      rw [lt_lit, show (0 : Int32).toInt = 0 from rfl, ka] at h15
      exact h15
    have c15 : (wi (wi (wi M6 190 23 (-1)) 190 15 (i32 n)) 190 12 0).1 190 15 = i32 n := by rw [wi_1n (by omega), wi_1e]
    refine ⟨n, ⟨by rw [c15, i32_i (by omega)], fun j hj => ?_, ⟨0, hh, ⟨by omega, wi_1e, fun i hi => absurd hi (by omega)⟩, fun i hi => absurd hi (by omega)⟩, ?_⟩, ?_⟩
    · rw [eqb ef (lo := 201) (hi := 201) rfl (Nat.le_refl _) (Nat.le_refl _)]
      exact hdb j (by omega)
    · rw [c15, eq1 ee (b := 190) (k := 11) rfl, eq1 ee (b := 190) (k := 16) rfl, eqb ee (lo := 192) (hi := 192) rfl (Nat.le_refl _) (Nat.le_refl _)]
      rcases kd with kd | ⟨k1, k2⟩
      · exact Or.inl kd
      · refine Or.inr ⟨Or.inl ?_, k2⟩
        rcases k1 with k1 | k1
        · exact k1
        · rw [k1]
          rcases hd with ⟨t1, -⟩ | t1
          · exact t1
          · rw [t1, lt_lit, i32_i (by omega), show (0 : Int32).toInt = 0 from rfl] at h15
            omega
    · rw [eqb ee (lo := 191) (hi := 191) rfl (Nat.le_refl _) (Nat.le_refl _)]
      exact KW_le kw (by omega)
end KCD
