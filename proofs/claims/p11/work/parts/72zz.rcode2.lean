/-! THE REFERENCE IS TOLD A CODE -/
theorem LawR_cp {M M' : MM} {L : LWT} (h : LawR M L) (e1 : ∀ j, j < 48 → M'.1 201 j = M.1 201 j) (e2 : ∀ j, j < 800 → M'.1 202 j = M.1 202 j) : LawR M' L := by
  refine ⟨h.1, fun k hk => ?_⟩
  have h12 := h.1
  obtain ⟨h1, h2, h3, h4, h5⟩ := h.2 k hk
  rw [e1 _ (by omega), e1 _ (by omega), e1 _ (by omega), e1 _ (by omega)]
  refine ⟨h1, h2, h3, h4, fun pl wh kn dy val hr => ?_⟩
  rw [← h5 pl wh kn dy val hr]
  unfold rT
  rw [e1 _ (by omega), e1 _ (by omega)]
  generalize ni (M.1 201 (4 * k + 2)) = s
  generalize hm : ni (M.1 201 (4 * k + 3)) - s = m
  cases m with
  | zero => rfl
  | succ m => rw [rrun_cg _ _ _ (fun j hj => e2 j (by omega))]
abbrev fc2 : List (Nat × Nat × Option Nat) := [(205, 205, none), (206, 206, none), (190, 190, some 0), (190, 190, some 20), (190, 190, some 18), (190, 190, some 19), (190, 190, some 25), (190, 190, some 21), (190, 190, some 22), (190, 190, some 23), (201, 201, none), (202, 202, none)]
theorem i48 {k : Nat} (hk : k ≤ 800) {c : Nat} (hc : c ≤ 800) : i32 k < i32 c ↔ k < c := i32_lt (by omega) (by omega)
theorem r_cpy1 {N : Nat} {M : MM} {k29 : MM → Prop} {Q : Int32 → MM → Prop} (hQ : ∀ M', (∀ j, j < 48 → M'.1 205 j = M.1 201 j) → Eqo [(205, 205, none)] M M' → k29 M') : W_m_code_2 k29 Q N 0 M := by
  refine I_m_code_2 _ _ (fun v M' => ∃ k, k ≤ 48 ∧ v = i32 k ∧ (∀ j, j < k → M'.1 205 j = M.1 201 j) ∧ Eqo [(205, 205, none)] M M') (fun N ih v M' hih hv => ?_) N _ _ ⟨0, by omega, rfl, fun j hj => by omega, eqo_rf M⟩
  obtain ⟨k, hk, rfl, h1, h2⟩ := hv
  unfold B_m_code_2
  rw [show i32 k < 48 ↔ k < 48 from i48 (by omega) (c := 48) (by omega), ni_i (by omega)]
  refine ⟨fun hl => hih _ _ ⟨k + 1, by omega, i32_s k, fun j hj => ?_, eqo_wi (i := 0) h2 rfl (Or.inl rfl)⟩, fun hl => ?_⟩
  · by_cases e : j = k
    · rw [e, wi_1e]
      exact congrFun (eqb h2 (lo := 201) (hi := 201) rfl (Nat.le_refl _) (Nat.le_refl _)) k
    · rw [wi_1n (by omega)]
      exact h1 j (by omega)
  · obtain rfl : k = 48 := by omega
    exact hQ _ h1 h2
theorem r_cpy2 {N : Nat} {M : MM} {k29 : MM → Prop} {Q : Int32 → MM → Prop} (hQ : ∀ M', (∀ j, j < 800 → M'.1 206 j = M.1 202 j) → Eqo [(206, 206, none)] M M' → k29 M') : W_m_code_31 k29 Q N 0 M := by
  refine I_m_code_31 _ _ (fun v M' => ∃ k, k ≤ 800 ∧ v = i32 k ∧ (∀ j, j < k → M'.1 206 j = M.1 202 j) ∧ Eqo [(206, 206, none)] M M') (fun N ih v M' hih hv => ?_) N _ _ ⟨0, by omega, rfl, fun j hj => by omega, eqo_rf M⟩
  obtain ⟨k, hk, rfl, h1, h2⟩ := hv
  unfold B_m_code_31
  rw [show i32 k < 800 ↔ k < 800 from i48 (by omega) (c := 800) (by omega), ni_i (by omega)]
  refine ⟨fun hl => hih _ _ ⟨k + 1, by omega, i32_s k, fun j hj => ?_, eqo_wi (i := 0) h2 rfl (Or.inl rfl)⟩, fun hl => ?_⟩
  · by_cases e : j = k
    · rw [e, wi_1e]
      exact congrFun (eqb h2 (lo := 202) (hi := 202) rfl (Nat.le_refl _) (Nat.le_refl _)) k
    · rw [wi_1n (by omega)]
      exact h1 j (by omega)
  · obtain rfl : k = 800 := by omega
    exact hQ _ h1 h2
theorem r_cpy3 {N : Nat} {M : MM} {k29 : MM → Prop} {Q : Int32 → MM → Prop} (hQ : ∀ M', (∀ j, j < 48 → M'.1 201 j = M.1 205 j) → Eqo [(201, 201, none)] M M' → k29 M') : W_m_code_126 k29 Q N 0 M := by
  refine I_m_code_126 _ _ (fun v M' => ∃ k, k ≤ 48 ∧ v = i32 k ∧ (∀ j, j < k → M'.1 201 j = M.1 205 j) ∧ Eqo [(201, 201, none)] M M') (fun N ih v M' hih hv => ?_) N _ _ ⟨0, by omega, rfl, fun j hj => by omega, eqo_rf M⟩
  obtain ⟨k, hk, rfl, h1, h2⟩ := hv
  unfold B_m_code_126
  rw [show i32 k < 48 ↔ k < 48 from i48 (by omega) (c := 48) (by omega), ni_i (by omega)]
  refine ⟨fun hl => hih _ _ ⟨k + 1, by omega, i32_s k, fun j hj => ?_, eqo_wi (i := 0) h2 rfl (Or.inl rfl)⟩, fun hl => ?_⟩
  · by_cases e : j = k
    · rw [e, wi_1e]
      exact congrFun (eqb h2 (lo := 205) (hi := 205) rfl (Nat.le_refl _) (Nat.le_refl _)) k
    · rw [wi_1n (by omega)]
      exact h1 j (by omega)
  · obtain rfl : k = 48 := by omega
    exact hQ _ h1 h2
theorem r_cpy4 {N : Nat} {M : MM} {Q : Int32 → MM → Prop} (hQ : ∀ M', (∀ j, j < 800 → M'.1 202 j = M.1 206 j) → Eqo [(202, 202, none)] M M' → Q 0 M') : W_m_code_155 Q N 0 M := by
  refine I_m_code_155 _ (fun v M' => ∃ k, k ≤ 800 ∧ v = i32 k ∧ (∀ j, j < k → M'.1 202 j = M.1 206 j) ∧ Eqo [(202, 202, none)] M M') (fun N ih v M' hih hv => ?_) N _ _ ⟨0, by omega, rfl, fun j hj => by omega, eqo_rf M⟩
  obtain ⟨k, hk, rfl, h1, h2⟩ := hv
  unfold B_m_code_155
  rw [show i32 k < 800 ↔ k < 800 from i48 (by omega) (c := 800) (by omega), ni_i (by omega)]
  refine ⟨fun hl => hih _ _ ⟨k + 1, by omega, i32_s k, fun j hj => ?_, eqo_wi (i := 0) h2 rfl (Or.inl rfl)⟩, fun hl => ?_⟩
  · by_cases e : j = k
    · rw [e, wi_1e]
      exact congrFun (eqb h2 (lo := 206) (hi := 206) rfl (Nat.le_refl _) (Nat.le_refl _)) k
    · rw [wi_1n (by omega)]
      exact h1 j (by omega)
  · obtain rfl : k = 800 := by omega
    exact hQ _ h1 h2
theorem r_back {N : Nat} {M : MM} {Q : Int32 → MM → Prop} (hQ : ∀ M', (∀ j, j < 48 → M'.1 201 j = M.1 205 j) → (∀ j, j < 800 → M'.1 202 j = M.1 206 j) → Eqo ([(201, 201, none)] ++ [(202, 202, none)]) M M' → Q 0 M') : W_m_code_126 (fun M18 => W_m_code_155 Q N 0 M18) Q N 0 M :=
  r_cpy3 (fun M1 h1 e1 => r_cpy4 (fun M2 h2 e2 => hQ M2 (fun j hj => by rw [eqb e2 (lo := 201) (hi := 201) rfl (Nat.le_refl _) (Nat.le_refl _)]; exact h1 j hj) (fun j hj => by rw [h2 j hj, eqb e1 (lo := 206) (hi := 206) rfl (Nat.le_refl _) (Nat.le_refl _)]) (eqo_app e1 e2)))
section RCD
variable {f : BY} {n t : Nat} {K V : Nat → Int32} {b e : Nat → Nat}
theorem r_code {N F : Nat} {M : MM} {Q : Int32 → MM → Prop} (hF : 400 < F) (h18 : M.1 190 18 = i32 n) (h203 : ∀ j, j < n → M.1 203 j = (f j).toInt8.toInt32) (hb : BOK f n) (hn : n ≤ 400) (hT : TKS f n t K V b e)
    (hQ1 : ∀ L j M', pCode K V F = (some L, j) → M.1 190 15 < 0 → ¬ 0 < M.1 191 0 → LawR M' L → M'.1 190 15 = i32 L.1 → M'.1 190 12 = 0 → M'.1 190 23 = -1 → M'.1 190 0 = 0 → Eqo (fc2 ++ ([(190, 190, some 15)] ++ [(190, 190, some 12)])) M M' → M'.1 190 18 = 0 → Q (i32 L.1) M')
    (hQ2 : ∀ M', ((∃ j, pCode K V F = (none, j) ∧ j ≤ t ∧ M'.1 190 23 = i32 (b j) ∧ M'.1 190 0 = 1) ∨ ((∃ L j, pCode K V F = (some L, j)) ∧ (¬ M.1 190 15 < 0 ∨ 0 < M.1 191 0) ∧ M'.1 190 23 = -1 ∧ M'.1 190 0 = 2)) → (∀ j, j < 48 → M'.1 201 j = M.1 201 j) → (∀ j, j < 800 → M'.1 202 j = M.1 202 j) → Eqo fc2 M M' → M'.1 190 18 = 0 → Q 0 M') : W_m_code N M Q := by
  unfold W_m_code
  refine r_cpy1 (fun M2 a1 e1 => r_cpy2 (fun M4 a2 e2 => ?_))
  have e12 := eqo_app e1 e2
  have k15 := eq1 e12 (b := 190) (k := 15) rfl
  refine r_all1 (f := f) (n := n) (b := b) (e := e) (K := K) (V := V) hF (by rw [eq1 e12 (b := 190) (k := 18) rfl]; exact h18) (fun j hj => by rw [eqb e12 (lo := 203) (hi := 203) rfl (Nat.le_refl _) (Nat.le_refl _)]; exact h203 j hj) hb hn hT (fun r M6 hr e6 z18 z0 => ?_)
  have p205 : ∀ j, j < 48 → M6.1 205 j = M.1 201 j := fun j hj => by
    rw [eqb e6 (lo := 205) (hi := 205) rfl (Nat.le_refl _) (Nat.le_refl _), eqb e2 (lo := 205) (hi := 205) rfl (Nat.le_refl _) (Nat.le_refl _)]
    exact a1 j hj
  have p206 : ∀ j, j < 800 → M6.1 206 j = M.1 202 j := fun j hj => by
    rw [eqb e6 (lo := 206) (hi := 206) rfl (Nat.le_refl _) (Nat.le_refl _), a2 j hj, eqb e1 (lo := 202) (hi := 202) rfl (Nat.le_refl _) (Nat.le_refl _)]
  have q15 : M6.1 190 15 = M.1 190 15 := by rw [eq1 e6 (b := 190) (k := 15) rfl, k15]
  have q191 : M6.1 191 = M.1 191 := by rw [eqb e6 (lo := 191) (hi := 191) rfl (Nat.le_refl _) (Nat.le_refl _), eqb e12 (lo := 191) (hi := 191) rfl (Nat.le_refl _) (Nat.le_refl _)]
  have e16 : Eqo fc2 M M6 := eqo_tr (eqo_tr (eqo_rf M) (fps_cons (i := 0) rfl (fps_cons (i := 1) rfl fps_nil)) e12) (fps_cons (i := 2) rfl (fps_cons (i := 3) rfl (fps_cons (i := 4) rfl (fps_cons (i := 5) rfl (fps_cons (i := 6) rfl (fps_cons (i := 5) rfl (fps_cons (i := 7) rfl (fps_cons (i := 10) rfl (fps_cons (i := 6) rfl (fps_cons (i := 8) rfl (fps_cons (i := 11) rfl fps_nil))))))))))) e6
  -- brought back
  have bk : ∀ (M7 : MM), Eqo ([(190, 190, some 23)] ++ [(190, 190, some 0)]) M6 M7 → ((∃ j, pCode K V F = (none, j) ∧ j ≤ t ∧ M7.1 190 23 = i32 (b j) ∧ M7.1 190 0 = 1) ∨ ((∃ L j, pCode K V F = (some L, j)) ∧ (¬ M.1 190 15 < 0 ∨ 0 < M.1 191 0) ∧ M7.1 190 23 = -1 ∧ M7.1 190 0 = 2)) → W_m_code_126 (fun M18 => W_m_code_155 Q N 0 M18) Q N 0 M7 := fun M7 e7 h7 => by
    refine r_back (fun M8 b1 b2 e8 => hQ2 M8 ?_ (fun j hj => ?_) (fun j hj => ?_) ?_ ?_)
    · rw [eq1 e8 (b := 190) (k := 23) rfl, eq1 e8 (b := 190) (k := 0) rfl]
      exact h7
    · rw [b1 j hj, eqb e7 (lo := 205) (hi := 205) rfl (Nat.le_refl _) (Nat.le_refl _)]
      exact p205 j hj
    · rw [b2 j hj, eqb e7 (lo := 206) (hi := 206) rfl (Nat.le_refl _) (Nat.le_refl _)]
      exact p206 j hj
    · exact eqo_tr (eqo_tr e16 (fps_cons (i := 9) rfl (fps_cons (i := 2) rfl fps_nil)) e7) (fps_cons (i := 10) rfl (fps_cons (i := 11) rfl fps_nil)) e8
    · rw [eq1 e8 (b := 190) (k := 18) rfl, eq1 e7 (b := 190) (k := 18) rfl]
      exact z18
  unfold W_m_throwsIf V_m_citizens
  rcases hr with ⟨L, j, j1, rfl, j2⟩ | ⟨j, j1, j2, rfl, j3⟩
  · have h12 := j2.1
    have hneg : ¬ i32 L.1 < 0 := by
      rw [lt_lit, i32_i (by omega), show (0 : Int32).toInt = 0 from rfl]
      omega
    refine ⟨fun x => absurd x hneg, fun _ => ⟨fun x => absurd x hneg, fun _ => ⟨fun _ => ?_, fun x => absurd rfl x⟩⟩⟩
    refine ⟨fun _ => ?_, fun x => absurd rfl x⟩
    have s15 : (wi M6 190 23 (-1)).1 190 15 = M.1 190 15 := by rw [wi_1n (by omega)]; exact q15
    have s191 : (wi M6 190 23 (-1)).1 191 = M.1 191 := q191
    have e23 : Eqo ([(190, 190, some 23)] ++ [(190, 190, some 0)]) M6 (wi (wi M6 190 23 (-1)) 190 0 2) := eqo_app eqo_1 eqo_1
    have bad : (¬ M.1 190 15 < 0 ∨ 0 < M.1 191 0) → W_m_code_126 (fun M18 => W_m_code_155 Q N 0 M18) Q N 0 (wi (wi M6 190 23 (-1)) 190 0 2) := fun hx => bk _ e23 (Or.inr ⟨⟨L, j, j1⟩, hx, by rw [wi_1n (by omega), wi_1e], wi_1e⟩)
    rw [s15, s191]
    refine ⟨fun h15 => ⟨fun hc => ⟨fun x => absurd x (by decide), fun _ => ⟨fun x => absurd x (by decide), fun _ => bad (Or.inr hc)⟩⟩, fun hc => ⟨fun _ => ⟨fun _ => ?_, fun x => absurd rfl x⟩, fun x => absurd rfl x⟩⟩, fun h15 => ⟨fun x => absurd x (by decide), fun _ => ⟨fun x => absurd x (by decide), fun _ => bad (Or.inl h15)⟩⟩⟩
    have ef : Eqo ([(190, 190, some 23)] ++ ([(190, 190, some 15)] ++ [(190, 190, some 12)])) M6 (wi (wi (wi M6 190 23 (-1)) 190 15 (i32 L.1)) 190 12 0) := eqo_app eqo_1 (eqo_app eqo_1 eqo_1)
    refine hQ1 L j _ j1 h15 hc ?_ ?_ wi_1e ?_ ?_ ?_ ?_
    · exact LawR_eq j2 ef rfl
    · rw [wi_1n (by omega), wi_1e]
    · rw [wi_1n (by omega), wi_1n (by omega), wi_1e]
    · rw [wi_1n (by omega), wi_1n (by omega), wi_1n (by omega)]
      exact z0
    · exact eqo_app (eqo_tr e16 (fps_cons (i := 9) rfl fps_nil) eqo_1) (eqo_app eqo_1 eqo_1)
    · rw [wi_1n (by omega), wi_1n (by omega), wi_1n (by omega)]
      exact z18
  · have hneg : (-1 : Int32) < 0 := by decide
    refine ⟨fun _ => ⟨fun _ => ⟨fun x => absurd x (by decide), fun _ => ⟨fun x => absurd x (by decide), fun _ => ?_⟩⟩, fun x => absurd hneg x⟩, fun x => absurd hneg x⟩
    refine bk _ (eqo_app eqo_1 eqo_1) (Or.inl ⟨j, j1, j2, ?_, wi_1e⟩)
    rw [wi_1n (by omega), wi_1e]
    exact j3
end RCD
