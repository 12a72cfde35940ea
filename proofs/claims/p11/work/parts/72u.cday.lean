/-! A DAY of the class: who does what -/
theorem up1_c {w : RW} {k k' : Nat} {x y : Int32} (h : k ≠ k') : up1 (up1 w k x) k' y = up1 (up1 w k' y) k x := by
  funext j
  unfold up1
  by_cases h1 : j = k'
  · subst h1
    rw [if_pos rfl, if_neg (fun e => h e.symm), if_pos rfl]
  · rw [if_neg h1, if_neg h1]
theorem LawC_fr {M M' : MM} {a : Nat} {L : LWT} (h : ∀ i, i ≤ 4 → M'.1 (a + i) = M.1 (a + i)) (hL : LawC M a L) : LawC M' a L := by
  have h0 : M'.1 a = M.1 a := h 0 (by omega)
  have h1 := h 1 (by omega)
  have h2 := h 2 (by omega)
  have h3 := h 3 (by omega)
  have h4 := h 4 (by omega)
  unfold LawC cT cfrom at *
  simp only [h0, h1, h2, h3, h4]
  exact hL
theorem LawC_wi {M : MM} {b k : Nat} {x : Int32} {L : LWT} (hb : 13 ≤ b) (hL : LawC M 8 L) : LawC (wi M b k x) 8 L := LawC_fr (fun i hi => by funext j; exact wi_1n (by omega)) hL
theorem LawC_wj {M : MM} {b k : Nat} {x : Int64} {L : LWT} (hL : LawC M 8 L) : LawC (wj M b k x) 8 L := hL
theorem dr_bits : ∀ j : Fin 32, ((i32 j).toUInt32 &&& Int32.toUInt32 31).toBitVec % 32 = BitVec.ofNat 32 j := by decide
theorem tb_su16 {x : Int32} {k : Nat} (hk : k < 15) : tb (su x 16) k = tb x (k + 16) := by
  unfold tb su
  have e : (UInt32.toBitVec ((Int32.toUInt32 16) &&& Int32.toUInt32 31) % 32) = 16#32 := by decide
  rw [UInt32.toBitVec_toInt32, UInt32.toBitVec_shiftRight, e]
  simp only [BitVec.ushiftRight_eq', BitVec.getLsbD_ushiftRight]
  show x.toBitVec.getLsbD (16 + k) = _
  rw [Nat.add_comm]
theorem tb_sr16 {x : Int32} {k : Nat} (hk : k < 15) : tb (sr x 16) k = tb x (k + 16) := by
  unfold tb sr
  rw [Int32.toBitVec_shiftRight]
  simp only [BitVec.sshiftRight_eq', BitVec.getLsbD_sshiftRight]
  rw [show (BitVec.smod ((16 : Int32) &&& 31).toBitVec 32).toNat = 16 from by decide]
  have h1 : 16 + k < 32 := by omega
  have h2 : ¬ 32 ≤ k := by omega
  simp [h1, h2, Nat.add_comm]
  intro h; omega
theorem su_sr (x : Int32) : (su x 16) &&& 32767 = (sr x 16) &&& 32767 := by
  apply tb_ext
  intro k hk
  rw [tb_and, tb_and]
  by_cases h : k < 15
  · rw [tb_su16 h, tb_sr16 h]
  · have : tb 32767 k = false := by
      have hh : ∀ j : Fin 32, ¬ (j : Nat) < 15 → tb 32767 (j : Nat) = false := by decide
      exact hh ⟨k, hk⟩ h
    rw [this, Bool.and_false, Bool.and_false]
section CD
variable {a c N : Nat} {M : MM} {w : RW} {s : RS} {L : LWT} {f d : Int32}
theorem c_taken {Q : Int32 → Prop} (h : CW M a w s) (hw : WF w) (hQ : Q (bs (fun c => decide (0 < cl w c 3)) (nC w))) : W_World_takenOnes a N M Q := by
  obtain ⟨e0, hn10, ei⟩ := nC_i hw
  unfold W_World_takenOnes
  refine I_World_takenOnes_4 a M Q (fun v1 v2 => ∃ j, j ≤ nC w ∧ v2 = i32 j ∧ v1 = bs (fun c => decide (0 < cl w c 3)) j) (fun N ih v1 v2 hih hv => ?_) N _ _ ⟨0, by omega, rfl, rfl⟩
  obtain ⟨j, hj, rfl, rfl⟩ := hv
  unfold B_World_takenOnes_4
  rw [h.1.1, ei, i32_lt (by omega) (by omega), ni_i (by omega)]
  refine ⟨fun hlt => ?_, fun hlt => ?_⟩
  · have nx : ih (bs (fun c => decide (0 < cl w c 3)) (j + 1)) (i32 j + 1) := hih _ _ ⟨j + 1, by omega, i32_s j, rfl⟩
    rw [bs_s] at nx
    rw [(h.2.2.2.1 j hlt).2.2.1]
    refine ⟨fun h3 => ?_, fun h3 => ?_⟩
    · rw [if_pos (decide_eq_true h3)] at nx; exact nx
    · rw [if_neg (by rw [decide_eq_false h3]; decide)] at nx; exact nx
  · obtain rfl : j = nC w := by omega
    exact hQ
theorem free_b (h : CW M a w s) (hw : WF w) : (M.1 a 1) &&& (bs (fun c => decide (0 < cl w c 3)) (nC w) ^^^ (-1)) = bs (frb w) (nC w) := by
  have hn := (nC_i hw).2.1
  rw [h.2.2.1]
  apply tb_ext
  intro k hk
  rw [tb_and, tb_not hk, tb_bs _ _ (by omega) _ hk, tb_bs _ _ (by omega) _ hk, tb_bs _ _ (by omega) _ hk]
  unfold frb
  cases decide (k < nC w) <;> cases alv w k <;> simp
theorem c_force {Q : Int32 → Prop} (h : CW M a w s) (hw : WF w) (hQ : Q (inF w (nC w))) : W_World_inForce a N M Q := by
  obtain ⟨e0, hn10, ei⟩ := nC_i hw
  unfold W_World_inForce
  refine I_World_inForce_4 a M Q (fun v1 v2 => ∃ j, j ≤ nC w ∧ v2 = i32 j ∧ v1 = inF w j) (fun N ih v1 v2 hih hv => ?_) N _ _ ⟨0, by omega, rfl, rfl⟩
  obtain ⟨j, hj, rfl, rfl⟩ := hv
  unfold B_World_inForce_4
  rw [h.1.1, ei, i32_lt (by omega) (by omega), ni_i (by omega)]
  refine ⟨fun hlt => ?_, fun hlt => ?_⟩
  · have nx : ih (inF w (j + 1)) (i32 j + 1) := hih _ _ ⟨j + 1, by omega, i32_s j, rfl⟩
    rw [inF_s] at nx
    rw [c_alive h hw hlt, (h.2.2.2.1 j hlt).1]
    cases hal : alv w j with
    | true => rw [hal] at nx; exact ⟨fun h => absurd h (by decide), fun _ => nx⟩
    | false => rw [hal] at nx; exact ⟨fun _ => nx, fun h => absurd rfl h⟩
  · obtain rfl : j = nC w := by omega
    exact hQ
/-- what forbids one's next matter -/
theorem c_fb {Q : Int32 → Prop} (h : CW M a w s) (hw : WF w) (hL : LawC M 8 L) (hd : dOK w) (hc : c < nC w) (hQ : Q (fbn L w c)) : W_Law_bearing 8 0 (V_World_matterAhead a (i32 c) 0 M) (i32 c) (V_World_knownBy a (i32 c) M) (M.1 a 13) N M Q := by
  have hn := (nC_i hw).2.1
  rw [show V_World_matterAhead a (i32 c) 0 M = md w c 0 from c_ahead h hw hc (k := 0) (by omega), c_known h hc hw, h.1.2.2.1]
  refine sp_bearing hL (Or.inl rfl) (rngD (hw.2.2.2 c hc) (by omega) ⟨hd.1, by have := hd.2; omega⟩ (cl w c 1)) hQ
theorem c_keeps {Q : Int32 → MM → Prop} (h : CW M a w s) (hw : WF w) (hL : LawC M 8 L) (ha : 13 ≤ a) (hd : dOK w) (hc : c < nC w) (hQ : ∀ M', CW M' a (keepS L w s c).2 s → LawC M' 8 L → Q (b32 (keepS L w s c).1) M') : W_World_keepsFrom a (i32 c) N M Q := by
  have hn := (nC_i hw).2.1
  obtain ⟨em, bm⟩ := md_i (k := 0) (hw.2.2.2 c hc)
  unfold W_World_keepsFrom
  refine c_fb h hw hL hd hc ?_
  rw [ni_i (by omega), (h.2.2.2.1 c hc).1, show V_World_matterAhead a (i32 c) 0 M = md w c 0 from c_ahead h hw hc (k := 0) (by omega)]
  unfold keepS at hQ
  refine ⟨fun h0 => ?_, fun h0 => ?_⟩
  · rw [if_pos h0] at hQ
    rw [em, v_hasS (by omega) bm, (h.2.2.2.1 c hc).2.2.2.2.2.2.2]
    cases hs : sb (s c) (ni (md w c 0)) with
    | true =>
      rw [if_pos hs] at hQ
      refine ⟨fun h => absurd h (by decide), fun _ => ?_⟩
      unfold W_World_draw
      rw [h.1.2.2.2.2.2.2.2.2, wi_1e, su_sr]
      have hc2 : (wi M a 14 (1103515245 * w 9 + 12345)).1 (a + 2) c = cl w c 2 := by rw [wi_1n (by omega)]; exact (h.2.2.2.1 c hc).2.1
      dsimp only
      rw [hc2]
      have hM := hQ (wi M a 14 (1103515245 * w 9 + 12345)) (CW_sc h (Or.inr (Or.inr (Or.inr (Or.inr (Or.inr (Or.inr (Or.inr ⟨rfl, rfl⟩)))))))) (LawC_wi (by omega) hL)
      dsimp only at hM
      refine ⟨fun h => ?_, fun h => ?_⟩
      · rw [show decide (dr (sd (w 9)) < cl w c 2) = true from decide_eq_true h] at hM; exact hM
      · rw [show decide (dr (sd (w 9)) < cl w c 2) = false from decide_eq_false h] at hM; exact hM
    | false =>
      rw [if_neg (by rw [hs]; decide)] at hQ
      exact ⟨fun _ => hQ M h hL, fun h => absurd rfl h⟩
  · rw [if_neg h0] at hQ
    exact hQ M h hL
theorem c_pick {Q : Int32 → MM → Prop} (h : CW M a w s) (hw : WF w) (hL : LawC M 8 L) (ha : 13 ≤ a) (hd : dOK w) (hQ : ∀ M', CW M' a (pickN L s (nC w) (w, 0)).1 s → LawC M' 8 L → Q (pickN L s (nC w) (w, 0)).2 M') : W_World_pickDoers a (bs (frb w) (nC w)) N M Q := by
  obtain ⟨e0, hn10, ei⟩ := nC_i hw
  unfold W_World_pickDoers
  refine I_World_pickDoers_5 a _ Q (fun v3 v4 M' => ∃ j, j ≤ nC w ∧ v4 = i32 j ∧ v3 = (pickN L s j (w, 0)).2 ∧ CW M' a (pickN L s j (w, 0)).1 s ∧ LawC M' 8 L) (fun N ih v3 v4 M' hih hv => ?_) N _ _ _ ⟨0, by omega, rfl, rfl, h, hL⟩
  obtain ⟨j, hj, rfl, rfl, hM, hLM⟩ := hv
  have hP : P59 w (pickN L s j (w, 0)).1 := pickN_P j
  have hs := pickN_s (L := L) (s := s) (x := (w, 0)) (n := j)
  have h00 : (pickN L s j (w, 0)).1 0 = w 0 := hP 0 (by omega) (by omega)
  unfold B_World_pickDoers_5
  rw [hM.1.1, h00, ei, i32_lt (by omega) (by omega)]
  refine ⟨fun hlt => ?_, fun hlt => ?_⟩
  · have hwj : WF (pickN L s j (w, 0)).1 := P59_WF hP hw
    have hcj : j < nC (pickN L s j (w, 0)).1 := by rw [P59_nC hP]; exact hlt
    have hdj : dOK (pickN L s j (w, 0)).1 := by
      unfold dOK
      rw [show (pickN L s j (w, 0)).1 2 = w 2 from hP 2 (by omega) (by omega)]
      exact hd
    have nx : ∀ M', CW M' a (pickN L s (j + 1) (w, 0)).1 s → LawC M' 8 L → ih (pickN L s (j + 1) (w, 0)).2 (i32 j + 1) M' := fun M' h1 h2 => hih _ _ _ ⟨j + 1, by omega, i32_s j, rfl, h1, h2⟩
    rw [hs] at nx
    unfold pickS at nx
    rw [P59_frb hP] at nx
    generalize pickN L s j (w, 0) = x at *
    unfold V_E_bit
    refine ⟨fun hb => ?_, fun hb => ?_⟩
    · rw [bt_1 (by omega), tb_bs _ _ (by omega) _ (by omega), decide_eq_true hlt, Bool.true_and] at hb
      rw [if_pos hb] at nx
      refine c_keeps hM hwj hLM ha hdj hcj (fun M'' h1 h2 => ?_)
      refine ⟨fun hk => ?_, fun hk => ?_⟩
      · rw [b32_eq0] at hk
        rw [if_neg (by rw [hk]; decide)] at nx
        exact nx _ h1 h2
      · rw [b32_ne0] at hk
        rw [if_pos hk] at nx
        rw [h1.1.2.2.2.2.2.1]
        exact nx _ (CW_sc h1 (Or.inr (Or.inr (Or.inr (Or.inr (Or.inl ⟨rfl, rfl⟩)))))) (LawC_wi (by omega) h2)
    · rw [bt_1 (by omega), tb_bs _ _ (by omega) _ (by omega), decide_eq_true hlt, Bool.true_and] at hb
      rw [if_neg hb] at nx
      exact nx _ hM hLM
  · obtain rfl : j = nC w := by omega
    exact hQ _ hM hLM
end CD
