/-! the reference's copy of a whole row: one step of the fast machine, a run of the list machine -/
section FLI
variable {Y : Option (List AI)} {cal : Nat → Nat → List (Nat × AV) → List AV → List AC → Nat → Nat → Option AR} {C : List AC} {k w a b : Nat}
theorem Lp_s {P : EP} {m n pc pc' : Nat} {L L' : List (Nat × AV)} {S S' : List AV} {C C' : List AC} {k w k' w' : Nat} (h : ea_1 P cal m pc L S C k w = some (.inl (pc', L', S', C', k', w'))) : ea_Lp P cal m (n + 1) pc L S C k w = ea_Lp P cal m n pc' L' S' C' k' w' := by
  show (match ea_1 P cal m pc L S C k w with
    | some (.inl (pc, L, S, C, k, w)) => ea_Lp P cal m n pc L S C k w
    | some (.inr r) => some r
    | none => none) = _
  rw [h]
abbrev lk_b (a b : Nat) : List (Nat × AV) := [(0, .inr (.inl (some a))), (1, .inl (.inl (ea_n 0))), (2, .inr (.inl (some b))), (3, .inl (.inl (ea_n 0)))]
abbrev lk_L (a b j : Nat) : List (Nat × AV) := (4, .inl (.inl (ea_n j))) :: lk_b a b
theorem lk0 : tb_cd 192 0 = some (.iconst (Int.ofNat 0), 1, 0) := by decide +kernel
theorem lk1 : tb_cd 192 1 = some (.istore 4, 3, 0) := by decide +kernel
theorem lk3 : tb_cd 192 3 = some (.iload 4, 5, 0) := by decide +kernel
theorem lk5 : tb_cd 192 5 = some (.sipush (Int.ofNat 388), 8, 0) := by decide +kernel
theorem lk8 : tb_cd 192 8 = some (.if_icmp .ge 21, 11, 29) := by decide +kernel
theorem lk11 : tb_cd 192 11 = some (.aload_n 2, 12, 0) := by decide +kernel
theorem lk12 : tb_cd 192 12 = some (.iload_n 3, 13, 0) := by decide +kernel
theorem lk13 : tb_cd 192 13 = some (.iload 4, 15, 0) := by decide +kernel
theorem lk15 : tb_cd 192 15 = some (.iadd, 16, 0) := by decide +kernel
theorem lk16 : tb_cd 192 16 = some (.aload_n 0, 17, 0) := by decide +kernel
theorem lk17 : tb_cd 192 17 = some (.iload_n 1, 18, 0) := by decide +kernel
theorem lk18 : tb_cd 192 18 = some (.iload 4, 20, 0) := by decide +kernel
theorem lk20 : tb_cd 192 20 = some (.iadd, 21, 0) := by decide +kernel
theorem lk21 : tb_cd 192 21 = some (.iaload, 22, 0) := by decide +kernel
theorem lk22 : tb_cd 192 22 = some (.iastore, 23, 0) := by decide +kernel
theorem lk23 : tb_cd 192 23 = some (.iinc 4 1, 26, 0) := by decide +kernel
theorem lk26 : tb_cd 192 26 = some (.goto (-23), 29, 3) := by decide +kernel
theorem lk29 : tb_cd 192 29 = some (.return_, 30, 0) := by decide +kernel
theorem lknl : fp_nl 192 = 5 := by decide +kernel
theorem lkrt : fp_rtp 192 = 0 := by decide +kernel
theorem lk_388 : (Int16.ofInt (Int.ofNat 388)).toInt32 = ea_n 388 := by decide
theorem lk_0 (j : Nat) (hj : j < 4096) : ea_n 0 + ea_n j = ea_n j := by
  rw [en_add]
  congr 2
  show (0 + j) % 4294967296 = j
  omega
theorem lk_add {j pc nl : Nat} (hj : j < 4096) {L : List (Nat × AV)} {S : List AV} : ea_p .iadd pc nl L (.inl (.inl (ea_n j)) :: .inl (.inl (ea_n 0)) :: S) = some (pc + 1, L, .inl (.inl (ea_n j)) :: S) := by
  show (some (pc + 1, L, .inl (.inl (ea_n 0 + ea_n j)) :: S) : Option (Nat × List (Nat × AV) × List AV)) = _
  rw [lk_0 j hj]
theorem lk_1 (j : Nat) (hj : j < 4096) : ea_n j + Int32.ofInt 1 = ea_n (j + 1) := by
  rw [en_ofInt, en_add]
  congr 2
  show (j + 1) % 4294967296 = j + 1
  omega
theorem lk_ge {j : Nat} (hj : j < 4096) : ea_if .ge (.inl (ea_n j)) (.inl (ea_n 388)) = some (decide (388 ≤ j)) := by
  show some (decide (ea_n 388 ≤ ea_n j)) = _
  congr 1
  apply decide_eq_decide.mpr
  rw [en_le]
  show (388 + 2147483648) % 4294967296 ≤ (j + 2147483648) % 4294967296 ↔ _
  omega
theorem lk_br {j : Nat} (hj : j < 4096) {S : List AV} : ea_p (.if_icmp .ge 21) 8 (fp_nl 192) (lk_L a b j) (.inl (.inl (ea_n 388)) :: .inl (.inl (ea_n j)) :: S) = some (if 388 ≤ j then 29 else 11, lk_L a b j, S) := by
  show (match ea_if .ge (.inl (ea_n j)) (.inl (ea_n 388)), ea_to 8 21 with
    | some true, some t => some (t, lk_L a b j, S)
    | some false, some _ => some (8 + 3, lk_L a b j, S)
    | _, _ => none) = _
  rw [lk_ge hj]
  by_cases h : 388 ≤ j
  · rw [decide_eq_true h, if_pos h]; rfl
  · rw [decide_eq_false h, if_neg h]; rfl
theorem lk_head {n j : Nat} (hj : j < 4096) : ea_Lp (tb_P Y) cal 192 (n + 3) 3 (lk_L a b j) [] C k w = ea_Lp (tb_P Y) cal 192 n (if 388 ≤ j then 29 else 11) (lk_L a b j) [] C k w := by
  rw [Lp_s (ea1_p (pc' := 5) (L' := lk_L a b j) (S' := [.inl (.inl (ea_n j))]) lk3 rfl), Lp_s (ea1_p (pc' := 8) (L' := lk_L a b j) (S' := [.inl (.inl (ea_n 388)), .inl (.inl (ea_n j))]) lk5 (by rw [← lk_388]; rfl)), Lp_s (ea1_p lk8 (lk_br hj))]
theorem lk_body {n j : Nat} (hj : j < 388) {dA dB : AV} {uA uB : List (Nat × AV)} {v : AI} (hA : ea_nt C a = some (.inl (0, 388, dA, uA))) (hB : ea_nt C b = some (.inl (0, 388, dB, uB))) (hv : ea_al dA uA j = .inl v) : ea_Lp (tb_P Y) cal 192 (n + 12) 11 (lk_L a b j) [] C k w = ea_Lp (tb_P Y) cal 192 n 3 (lk_L a b (j + 1)) [] (C.set b (.inl (0, 388, dB, (j, .inl v) :: uB))) k w := by
  have h4 : j < 4096 := by omega
  rw [Lp_s (ea1_p (pc' := 12) (L' := lk_L a b j) (S' := [.inr (.inl (some b))]) lk11 rfl),
    Lp_s (ea1_p (pc' := 13) (L' := lk_L a b j) (S' := [.inl (.inl (ea_n 0)), .inr (.inl (some b))]) lk12 rfl),
    Lp_s (ea1_p (pc' := 15) (L' := lk_L a b j) (S' := [.inl (.inl (ea_n j)), .inl (.inl (ea_n 0)), .inr (.inl (some b))]) lk13 rfl),
    Lp_s (ea1_p (pc' := 16) (L' := lk_L a b j) (S' := [.inl (.inl (ea_n j)), .inr (.inl (some b))]) lk15 (lk_add h4)),
    Lp_s (ea1_p (pc' := 17) (L' := lk_L a b j) (S' := [.inr (.inl (some a)), .inl (.inl (ea_n j)), .inr (.inl (some b))]) lk16 rfl),
    Lp_s (ea1_p (pc' := 18) (L' := lk_L a b j) (S' := [.inl (.inl (ea_n 0)), .inr (.inl (some a)), .inl (.inl (ea_n j)), .inr (.inl (some b))]) lk17 rfl),
    Lp_s (ea1_p (pc' := 20) (L' := lk_L a b j) (S' := [.inl (.inl (ea_n j)), .inl (.inl (ea_n 0)), .inr (.inl (some a)), .inl (.inl (ea_n j)), .inr (.inl (some b))]) lk18 rfl),
    Lp_s (ea1_p (pc' := 21) (L' := lk_L a b j) (S' := [.inl (.inl (ea_n j)), .inr (.inl (some a)), .inl (.inl (ea_n j)), .inr (.inl (some b))]) lk20 (lk_add h4)),
    Lp_s (ea1_h (pc' := 22) (S' := [.inl v, .inl (.inl (ea_n j)), .inr (.inl (some b))]) lk21 rfl (eh_ial hA (en_ix hj h4) hv)),
    Lp_s (ea1_hc (pc' := 23) (S' := []) lk22 rfl (eh_ias hB (en_ix hj h4))),
    Lp_s (ea1_p (pc' := 26) (L' := lk_L a b (j + 1)) (S' := []) lk23 (by
      show (if 4 < fp_nl 192 then some (23 + 3, ea_s1 (lk_L a b j) 4 (.inl (.inl (ea_n j + Int32.ofInt 1))), ([] : List AV)) else none) = _
      rw [lknl, if_pos (by decide), lk_1 j h4]; rfl)),
    Lp_s (ea1_p (pc' := 3) (L' := lk_L a b (j + 1)) (S' := []) lk26 rfl)]
/-- the loop -/
theorem lk_loop {dA : AV} {uA : List (Nat × AV)} (hab : a ≠ b) (q : Nat) : ∀ (j n : Nat) (C : List AC) (dB : AV) (uB : List (Nat × AV)), j + q = 388 → ea_nt C a = some (.inl (0, 388, dA, uA)) → ea_nt C b = some (.inl (0, 388, dB, uB)) → (∀ i, i < 388 → ∃ v, ea_al dA uA i = .inl v) → (∀ i, i < j → ea_al dB uB i = ea_al dA uA i) →
    ∃ uB', ea_Lp (tb_P Y) cal 192 (n + (15 * q + 4)) 3 (lk_L a b j) [] C k w = some (.inl none, C.set b (.inl (0, 388, dB, uB')), k, w) ∧ ∀ i, i < 388 → ea_al dB uB' i = ea_al dA uA i := by
  induction q with
  | zero =>
    intro j n C dB uB hj hA hB hI hE
    obtain rfl : j = 388 := by omega
    refine ⟨uB, ?_, fun i hi => hE i hi⟩
    show ea_Lp (tb_P Y) cal 192 ((n + 1) + 3) 3 (lk_L a b 388) [] C k w = _
    rw [lk_head (by decide), if_pos (by decide)]
    show (match ea_1 (tb_P Y) cal 192 29 (lk_L a b 388) [] C k w with
      | some (.inl (pc, L, S, C, k, w)) => ea_Lp (tb_P Y) cal 192 n pc L S C k w
      | some (.inr r) => some r
      | none => none) = _
    rw [ea1_r (v := none) lk29 rfl rfl (by rw [lkrt]; rfl)]
    have : C.set b (.inl (0, 388, dB, uB)) = C := by
      rw [ea_nt_eq] at hB
      apply List.ext_getElem?
      intro i
      rw [List.getElem?_set]
      split
      · rename_i h
        subst h
        rw [if_pos (List.getElem?_eq_some_iff.mp hB).1, hB]
      · rfl
    rw [this]
  | succ q IH =>
    intro j n C dB uB hj hA hB hI hE
    obtain ⟨v, hv⟩ := hI j (by omega)
    have hb := ea_nt_lt hB
    obtain ⟨uB', h1, h2⟩ := IH (j + 1) n (C.set b (.inl (0, 388, dB, (j, .inl v) :: uB))) dB ((j, .inl v) :: uB) (by omega)
      (by rw [ea_nt_eq, List.getElem?_set_ne (fun h => hab h.symm), ← ea_nt_eq]; exact hA)
      (by rw [ea_nt_eq, List.getElem?_set_self hb]) hI
      (fun i hi => by
        rw [ea_al_at]
        by_cases h : i = j
        · rw [if_pos h, h, hv]
        · rw [if_neg h]; exact hE i (by omega))
    refine ⟨uB', ?_, h2⟩
    rw [show n + (15 * (q + 1) + 4) = ((n + (15 * q + 4)) + 12) + 3 by omega, lk_head (by omega), if_neg (by omega), lk_body (by omega) hA hB hv, h1, List.set_set]
theorem lk_run {dA dB : AV} {uA uB : List (Nat × AV)} (hab : a ≠ b) (hA : ea_nt C a = some (.inl (0, 388, dA, uA))) (hB : ea_nt C b = some (.inl (0, 388, dB, uB))) (hI : ∀ i, i < 388 → ∃ v, ea_al dA uA i = .inl v) : ∃ uB', ea_Lp (tb_P Y) cal 192 100000 0 (lk_b a b) [] C k w = some (.inl none, C.set b (.inl (0, 388, dB, uB')), k, w) ∧ ∀ i, i < 388 → ea_al dB uB' i = ea_al dA uA i := by
  obtain ⟨uB', h1, h2⟩ := lk_loop (Y := Y) (cal := cal) (k := k) (w := w) hab 388 0 (99998 - (15 * 388 + 4)) C dB uB (by omega) hA hB hI (fun i hi => absurd hi (Nat.not_lt_zero _))
  refine ⟨uB', ?_, h2⟩
  rw [show (100000 : Nat) = (99998 - (15 * 388 + 4) + (15 * 388 + 4)) + 1 + 1 by omega, Lp_s (ea1_p (pc' := 1) (L' := lk_b a b) (S' := [.inl (.inl (ea_n 0))]) lk0 rfl), Lp_s (ea1_p (pc' := 3) (L' := lk_L a b 0) (S' := []) lk1 (by
    show (if 4 < fp_nl 192 then some (1 + 2, ea_s1 (lk_b a b) 4 (.inl (.inl (ea_n 0))), ([] : List AV)) else none) = _
    rw [lknl, if_pos (by decide)]; rfl))]
  exact h1
end FLI
