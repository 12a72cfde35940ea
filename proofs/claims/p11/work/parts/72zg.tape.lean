/-! ACTS: the tape -/
theorem by_h {x y : BitVec 32} {n : Nat} {p : BitVec 32} (hn : n ≤ 24) (a1 : x = p >>> n) (a2 : y = p.sshiftRight n) : (x &&& 255#32).signExtend 8 = y.signExtend 8 := by
  rw [BitVec.signExtend_eq_setWidth_of_le _ (by omega), BitVec.signExtend_eq_setWidth_of_le _ (by omega), a1, a2]
  apply BitVec.eq_of_getLsbD_eq
  intro i hi
  rw [BitVec.getLsbD_setWidth, BitVec.getLsbD_setWidth, BitVec.getLsbD_and, BitVec.getLsbD_ushiftRight, BitVec.getLsbD_sshiftRight]
  have : (255#32).getLsbD i = true := by
    have : i = 0 ∨ i = 1 ∨ i = 2 ∨ i = 3 ∨ i = 4 ∨ i = 5 ∨ i = 6 ∨ i = 7 := by omega
    rcases this with h | h | h | h | h | h | h | h <;> subst h <;> decide
  rw [this]
  have e : n + i < 32 := by omega
  simp [e, hi]
  omega
theorem by_g (p : Int32) (q : Nat) (hq : q < 4) : (su p (24 - 8 * i32 q) &&& 255).toInt8 = (sr p (24 - 8 * i32 q)).toInt8 := by
  apply Int8.toBitVec_inj.mp
  have : q = 0 ∨ q = 1 ∨ q = 2 ∨ q = 3 := by omega
  rcases this with h | h | h | h <;> subst h
  · exact by_h (p := p.toBitVec) (n := 24) (by omega) rfl rfl
  · exact by_h (p := p.toBitVec) (n := 16) (by omega) rfl rfl
  · exact by_h (p := p.toBitVec) (n := 8) (by omega) rfl rfl
  · exact by_h (p := p.toBitVec) (n := 0) (by omega) rfl rfl
theorem by_r (x : Int32) : 0 ≤ (x &&& 255).toInt ∧ (x &&& 255).toInt < 256 := by
  have h : (x &&& 255).toBitVec.toNat ≤ 255 := by
    show (x.toBitVec &&& 255#32).toNat ≤ 255
    rw [BitVec.toNat_and]
    exact Nat.and_le_right
  have : (x &&& 255).toInt = ((x &&& 255).toBitVec.toNat : Int) := by
    show (x &&& 255).toBitVec.toInt = _
    rw [BitVec.toInt_eq_toNat_of_lt (by omega)]
  omega
theorem by_n (x : Int8) : vp_nar .byte x.toInt32 = x.toInt32 := by
  show x.toInt32.toInt8.toInt32 = x.toInt32
  simp
def tby (p : Int32) (q : Nat) : Int32 := su p (24 - 8 * i32 q) &&& 255
section TA
variable {B : Int} {M : MM} {p p1 p2 p3 p4 p5 : Int32}
theorem CP_tp {l : List (Nat × Nat × Option Nat)} {M' : MM} (h : CP B M) (e : Eqo l M M') (hl : ((fpf l 0 15 && fpf l 190 23) && ((lwk l && imk l) && (wlk l && (cmk l && rmk l)))) = true) (hT : TP M') : CP B M' := by
  simp only [Bool.and_eq_true] at hl
  obtain ⟨⟨k2, k3⟩, ⟨k4, k5⟩, k6, k7, k8⟩ := hl
  obtain ⟨h1, h2, ⟨L, h3, h4, h5, h6⟩, h7, m, hh, h8, h9, h10⟩ := h
  exact ⟨hT, by rw [eq1 e k2, eq1 e k3]; exact h2, ⟨L, LawC_eq h3 e (lwk_C k4), LawR_eq h4 e (lwk_R k4), TLD_eq h5 e k4, IMG_eq h6 e k5⟩, WLD_eq h7 e k6, m, hh, CM_eq h8 e k7, RMm_eq h9 e k8, h10⟩
theorem a_end (h : CP B M) {N : Nat} : W_E_end p N M (fun y M1 => ∀ N', W_m_end p N' M1 (fun b M2 => CP B M2 ∧ M2.1 190 0 = 0 ∧ y = b)) := by
  obtain ⟨n, hn, t1, t2, t3⟩ := h.1
  unfold W_E_end
  rw [t1]
  have g : ∀ M' : MM, M'.1 190 18 = i32 n → (wi M' 190 0 0).1 190 18 = i32 n := fun M' e => by rw [wi_1n (by omega)]; exact e
  refine ⟨fun h0 N' => ?_, fun h0 => ⟨fun h1 N' => ?_, fun h1 N' => ?_⟩⟩
  · unfold W_m_end
    exact ⟨fun _ => ⟨CP_0 h 0, wi_1e, rfl⟩, fun hb => absurd h0 hb⟩
  · unfold W_m_end
    rw [g M t2]
    exact ⟨fun hb => absurd hb h0, fun _ => ⟨fun _ => ⟨CP_0 h 0, wi_1e, rfl⟩, fun hb => absurd h1 hb⟩⟩
  · unfold W_m_end
    rw [g _ (show (wi M 1 1 p).1 190 18 = i32 n by rw [wi_1n (by omega)]; exact t2)]
    refine ⟨fun hb => absurd hb h0, fun _ => ⟨fun hb => absurd hb h1, fun _ => ⟨?_, ?_, rfl⟩⟩⟩
    · rw [Int32.lt_iff_toInt_lt, show (0 : Int32).toInt = 0 from rfl] at h0
      rw [Int32.lt_iff_toInt_lt, i32_i (by omega)] at h1
      have e1 : Eqo ([(1, 1, some 1)] ++ ([(190, 190, some 0)] ++ [(190, 190, some 18)])) M (wi (wi (wi M 1 1 p) 190 0 0) 190 18 p) := eqo_app eqo_1 (eqo_app eqo_1 eqo_1)
      refine CP_tp h e1 rfl ⟨ni p, by unfold ni; omega, ?_, ?_, fun j hj => ?_⟩
      · rw [wi_1n (by omega), wi_1n (by omega), wi_1e]
        exact i32_ni (x := p) (by omega)
      · rw [wi_1e]
        exact i32_ni (x := p) (by omega)
      · rw [wi_1n (by omega), wi_1n (by omega), wi_1n (by omega), wi_1n (by omega), wi_1n (by omega), wi_1n (by omega)]
        exact t3 j (by unfold ni at hj; omega)
    · rw [wi_1n (by omega)]
      exact wi_1e
theorem c_add {N n : Nat} {Q : MM → Prop} (hn : n + 4 ≤ 400) (h : M.1 1 1 = i32 n) (hQ : ∀ M', M'.1 1 1 = i32 (n + 4) → (∀ j, j < n → M'.1 2 j = M.1 2 j) → (∀ q, q < 4 → M'.1 2 (n + q) = tby p q) → Eqo fp_Tape_add M M' → Q M') : W_Tape_add p N M Q := by
  unfold W_Tape_add
  rw [h]
  refine ⟨fun hb => ?_, fun _ => ?_⟩
  · have : i32 400 < i32 (n + 4) := by rw [← i32_a]; exact hb
    have := (i32_lt (by omega) (by omega)).mp this
    omega
  refine I_Tape_add_18 p Q (fun v M' => ∃ k, k ≤ 4 ∧ v = 24 - 8 * i32 k ∧ M'.1 1 1 = i32 (n + k) ∧ (∀ j, j < n → M'.1 2 j = M.1 2 j) ∧ (∀ q, q < k → M'.1 2 (n + q) = tby p q) ∧ Eqo fp_Tape_add M M') (fun N ih v M' hih hv => ?_) N _ _ ⟨0, by omega, rfl, h, fun _ _ => rfl, fun q hq => by omega, eqo_rf M⟩
  obtain ⟨k, hk, hv, h1, h2, h3, h4⟩ := hv
  unfold B_Tape_add_18
  have hk' : (k < 4 ∧ ¬ v < 0 ∧ v + (-8) = 24 - 8 * i32 (k + 1)) ∨ (k = 4 ∧ v < 0) := by
    have : k = 0 ∨ k = 1 ∨ k = 2 ∨ k = 3 ∨ k = 4 := by omega
    rcases this with e | e | e | e | e <;> subst e <;> subst hv <;> decide
  rcases hk' with ⟨k1, k2, k3⟩ | ⟨k1, k2⟩
  · refine ⟨fun hb => absurd hb k2, fun _ => hih _ _ ⟨k + 1, by omega, k3, ?_, fun j hj => ?_, fun q hq => ?_, ?_⟩⟩
    · rw [wi_1e, wi_1n (by omega), h1, i32_s]
      rfl
    · rw [wi_1n (by omega), h1, ni_i (by omega), wi_1n (by omega)]
      exact h2 j hj
    · rw [wi_1n (by omega), h1, ni_i (by omega)]
      by_cases e : q = k
      · rw [e, wi_1e, hv]; rfl
      · rw [wi_1n (by omega)]
        exact h3 q (by omega)
    · exact eqo_wi (i := 1) (eqo_wi (i := 0) h4 rfl (Or.inl rfl)) rfl (Or.inr rfl)
  · subst k1
    exact ⟨fun _ => hQ _ h1 h2 h3 h4, fun hb => absurd k2 hb⟩
theorem r_feed {N n : Nat} {P : Nat → Int32} {Q : Int32 → MM → Prop} {M0 : MM} (hn : n + 20 ≤ 400) (h : M0.1 190 18 = i32 n) (hP : ∀ i, i < 5 → M0.1 204 i = P i) (hQ : ∀ M', M'.1 190 18 = i32 (n + 20) → (∀ j, j < n → M'.1 203 j = M0.1 203 j) → (∀ i q, i < 5 → q < 4 → M'.1 203 (n + (4 * i + q)) = (tby (P i) q).toInt8.toInt32) → Eqo ([(203, 203, none)] ++ [(190, 190, some 18)]) M0 M' → Q (i32 (n + 20)) M') : W_m_feed_60 p1 p2 p3 p4 p5 Q N 0 M0 := by
  refine I_m_feed_60 p1 p2 p3 p4 p5 Q (fun v M' => ∃ k, k ≤ 20 ∧ v = i32 k ∧ M'.1 190 18 = i32 n ∧ (∀ i, i < 5 → M'.1 204 i = P i) ∧ (∀ j, j < n → M'.1 203 j = M0.1 203 j) ∧ (∀ i q, 4 * i + q < k → q < 4 → M'.1 203 (n + (4 * i + q)) = (tby (P i) q).toInt8.toInt32) ∧ Eqo [(203, 203, none)] M0 M') (fun N ih v M' hih hv => ?_) N _ _ ⟨0, by omega, rfl, h, hP, fun _ _ => rfl, fun i q hq => by omega, eqo_rf M0⟩
  obtain ⟨k, hk, rfl, h1, h2, h3, h4, h5⟩ := hv
  unfold B_m_feed_60
  refine ⟨fun hl => ?_, fun hl => ?_⟩
  · have hl' : k < 20 := (i32_lt (k := 20) (by omega) (by omega)).mp hl
    rw [h1, i32_a, ni_i (by omega), show (i32 k / 4 : Int32) = i32 (k / 4) from i32_d (y := 4) (by omega) (by omega), show rm (i32 k) 4 = i32 (k % 4) from rm_n (y := 4) (by omega) (by omega), ni_i (by omega), h2 _ (by omega), ← by_g _ _ (by omega), by_n]
    refine hih _ _ ⟨k + 1, by omega, i32_s k, by rw [wi_1n (by omega)]; exact h1, fun i hi => by rw [wi_1n (by omega)]; exact h2 i hi, fun j hj => by rw [wi_1n (by omega)]; exact h3 j hj, fun i q hq hq4 => ?_, eqo_wi (i := 0) h5 rfl (Or.inl rfl)⟩
    by_cases e : 4 * i + q = k
    · obtain rfl : i = k / 4 := by omega
      obtain rfl : q = k % 4 := by omega
      rw [e, wi_1e]
      rfl
    · rw [wi_1n (by omega)]
      exact h4 i q (by omega) hq4
  · have : ¬ k < 20 := fun e => hl ((i32_lt (j := k) (k := 20) (by omega) (by omega)).mpr e)
    obtain rfl : k = 20 := by omega
    rw [h1, show (i32 n + 20 : Int32) = i32 (n + 20) from i32_a n 20, wi_1e]
    exact hQ _ wi_1e (fun j hj => by rw [wi_1n (by omega)]; exact h3 j hj) (fun i q hi hq => by rw [wi_1n (by omega)]; exact h4 i q (by omega) hq) (eqo_app h5 eqo_1)
theorem a_feed (h : CP B M) {N : Nat} : W_E_feed p1 p2 p3 p4 p5 N M (fun y M1 => ∀ N', W_m_feed p1 p2 p3 p4 p5 N' M1 (fun b M2 => CP B M2 ∧ M2.1 190 0 = 0 ∧ y = b)) := by
  obtain ⟨n, hn, t1, t2, t3⟩ := h.1
  unfold W_E_feed
  rw [t1, show (i32 n + 20 : Int32) = i32 (n + 20) from i32_a n 20]
  have g : ∀ M' : MM, M'.1 190 18 = i32 n → (wi M' 190 0 0).1 190 18 = i32 n := fun M' e => by rw [wi_1n (by omega)]; exact e
  refine ⟨fun h0 N' => ?_, fun h0 => ?_⟩
  · unfold W_m_feed
    rw [g M t2, show (i32 n + 20 : Int32) = i32 (n + 20) from i32_a n 20]
    exact ⟨fun _ => ⟨CP_0 h 0, wi_1e, rfl⟩, fun hb => absurd h0 hb⟩
  · have hn' : n + 20 ≤ 400 := by
      have : ¬ 400 < n + 20 := fun e => h0 ((i32_lt (j := 400) (k := n + 20) (by omega) (by omega)).mpr e)
      omega
    refine c_add (n := n) (by omega) t1 (fun M3 a3 b3 c3 e3 => ?_)
    refine c_add (n := n + 4) (by omega) a3 (fun M5 a5 b5 c5 e5 => ?_)
    refine c_add (n := n + 4 + 4) (by omega) a5 (fun M7 a7 b7 c7 e7 => ?_)
    refine c_add (n := n + 4 + 4 + 4) (by omega) a7 (fun M9 a9 b9 c9 e9 => ?_)
    refine c_add (n := n + 4 + 4 + 4 + 4) (by omega) a9 (fun M1 a1 b1 c1 e1 => ?_)
    have eM := eqo_app e3 (eqo_app e5 (eqo_app e7 (eqo_app e9 e1)))
    have s18 : M1.1 190 18 = i32 n := by rw [eq1 eM (b := 190) (k := 18) rfl]; exact t2
    have s203 : M1.1 203 = M.1 203 := eqb eM (lo := 203) (hi := 203) rfl (Nat.le_refl _) (Nat.le_refl _)
    rw [a1]
    intro N'
    unfold W_m_feed
    rw [g M1 s18, show (i32 n + 20 : Int32) = i32 (n + 20) from i32_a n 20]
    refine ⟨fun hb => absurd hb h0, fun _ => ?_⟩
    have er : Eqo ([(190, 190, some 0)] ++ ([(204, 204, none)] ++ ([(204, 204, none)] ++ ([(204, 204, none)] ++ ([(204, 204, none)] ++ [(204, 204, none)]))))) M1 (wi (wi (wi (wi (wi (wi M1 190 0 0) 204 (ni 0) p1) 204 (ni 1) p2) 204 (ni 2) p3) 204 (ni 3) p4) 204 (ni 4) p5) := eqo_app eqo_1 (eqo_app eqo_a (eqo_app eqo_a (eqo_app eqo_a (eqo_app eqo_a eqo_a))))
    have z0 : (wi (wi (wi (wi (wi (wi M1 190 0 0) 204 (ni 0) p1) 204 (ni 1) p2) 204 (ni 2) p3) 204 (ni 3) p4) 204 (ni 4) p5).1 190 0 = 0 := rfl
    refine r_feed (n := n) (P := fun i => if i = 0 then p1 else if i = 1 then p2 else if i = 2 then p3 else if i = 3 then p4 else p5) hn' (by rw [eq1 er (b := 190) (k := 18) rfl]; exact s18) (fun i hi => ?_) (fun M2 f1 f2 f3 f4 => ?_)
    · have : i = 0 ∨ i = 1 ∨ i = 2 ∨ i = 3 ∨ i = 4 := by omega
      rcases this with e | e | e | e | e <;> subst e <;> rfl
    · have e2 := eqo_app er f4
      refine ⟨CP_tp h (eqo_app eM e2) rfl ⟨n + 20, hn', ?_, f1, fun j hj => ?_⟩, ?_, rfl⟩
      · rw [eq1 e2 (b := 1) (k := 1) rfl, a1]
      · rw [show M2.1 2 = M1.1 2 from eqb e2 (lo := 2) (hi := 2) rfl (Nat.le_refl _) (Nat.le_refl _)]
        by_cases hjn : j < n
        · rw [f2 j hjn, show (wi (wi (wi (wi (wi (wi M1 190 0 0) 204 (ni 0) p1) 204 (ni 1) p2) 204 (ni 2) p3) 204 (ni 3) p4) 204 (ni 4) p5).1 203 = M1.1 203 from eqb er (lo := 203) (hi := 203) rfl (Nat.le_refl _) (Nat.le_refl _), s203, b1 j (by omega), b9 j (by omega), b7 j (by omega), b5 j (by omega), b3 j hjn]
          exact t3 j hjn
        · have hi : (j - n) / 4 < 5 := by omega
          have hq : (j - n) % 4 < 4 := by omega
          have ej : j = n + (4 * ((j - n) / 4) + (j - n) % 4) := by omega
          generalize (j - n) / 4 = i at *
          generalize (j - n) % 4 = q at *
          subst ej
          rw [f3 i q hi hq]
          have : i = 0 ∨ i = 1 ∨ i = 2 ∨ i = 3 ∨ i = 4 := by omega
          rcases this with e | e | e | e | e <;> subst e
          · rw [b1 _ (by omega), b9 _ (by omega), b7 _ (by omega), b5 _ (by omega), show n + (4 * 0 + q) = n + q by omega, c3 q hq]
            exact ⟨by_r _, rfl⟩
          · rw [b1 _ (by omega), b9 _ (by omega), b7 _ (by omega), show n + (4 * 1 + q) = n + 4 + q by omega, c5 q hq]
            exact ⟨by_r _, rfl⟩
          · rw [b1 _ (by omega), b9 _ (by omega), show n + (4 * 2 + q) = n + 4 + 4 + q by omega, c7 q hq]
            exact ⟨by_r _, rfl⟩
          · rw [b1 _ (by omega), show n + (4 * 3 + q) = n + 4 + 4 + 4 + q by omega, c9 q hq]
            exact ⟨by_r _, rfl⟩
          · rw [show n + (4 * 4 + q) = n + 4 + 4 + 4 + 4 + q by omega, c1 q hq]
            exact ⟨by_r _, rfl⟩
      · rw [eq1 f4 (b := 190) (k := 0) rfl]
        exact z0
end TA
