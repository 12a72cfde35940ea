/-! THE LAW: its loop -/
section LOOP
variable {X : List AI} {K : Option AV ⊕ Nat → List AC → Prop}
set_option maxRecDepth 20000 in
theorem lp_sw {N : Nat} {cl : List (Nat × AV)} {C : List AC} {v : Int32} (hd : okb (tb_P (some X)) N 0 1725 cl [] C K) (hj : ∀ j : Nat, j < 47 → okb (tb_P (some X)) N 0 (([244, 317, 342, 358, 374, 387, 427, 467, 495, 535, 615, 655, 683, 723, 751, 779, 807, 820, 833, 861, 889, 902, 930, 958, 998, 1038, 1078, 1134, 1162, 1190, 1218, 1259, 1287, 1300, 1356, 1396, 1448, 1488, 1544, 1557, 1585, 1598, 1638, 1663, 1676, 1687, 1700] : List Nat)[j]?.getD 0) cl [] C K) : okb (tb_P (some X)) N 0 40 cl [.inl (.inl v)] C K := by
  by_cases hlo : v.toInt < 0
  · refine okb_p (pc' := 1725) (L' := cl) (S' := []) rfl rfl ?_ hd
    show (match ea_sw 1685 0 46 _ (.inl v) with
      | some off => (match ea_to 40 off with
        | some t => some (t, cl, [])
        | none => none)
      | none => none) = _
    have e : ∀ offs, ea_sw 1685 0 46 offs (.inl v) = some 1685 := fun offs => by
      unfold ea_sw ea_hi
      dsimp only
      rw [if_pos hlo]
    rw [e]
    rfl
  by_cases hhi : 46 < v.toInt
  · refine okb_p (pc' := 1725) (L' := cl) (S' := []) rfl rfl ?_ hd
    show (match ea_sw 1685 0 46 _ (.inl v) with
      | some off => (match ea_to 40 off with
        | some t => some (t, cl, [])
        | none => none)
      | none => none) = _
    have e : ∀ offs, ea_sw 1685 0 46 offs (.inl v) = some 1685 := fun offs => by
      unfold ea_sw ea_hi ea_lo
      dsimp only
      rw [if_neg hlo, if_pos hhi]
    rw [e]
    rfl
  obtain ⟨j, hj1, hj2⟩ : ∃ j : Nat, j < 47 ∧ v = Int32.ofInt (Int.ofNat j) := by
    refine ⟨v.toInt.toNat, by omega, Int32.toInt_inj.mp ?_⟩
    rw [Int32.toInt_ofInt]
    show v.toInt = Int.bmod ((v.toInt.toNat : Nat) : Int) 4294967296
    rw [Int.bmod_eq_of_le (by omega) (by omega)]
    omega
  subst hj2
  have hj' := hj j hj1
  clear hj hd hlo hhi
  rcases (show j = 0 ∨ j = 1 ∨ j = 2 ∨ j = 3 ∨ j = 4 ∨ j = 5 ∨ j = 6 ∨ j = 7 ∨ j = 8 ∨ j = 9 ∨ j = 10 ∨ j = 11 ∨ j = 12 ∨ j = 13 ∨ j = 14 ∨ j = 15 ∨ j = 16 ∨ j = 17 ∨ j = 18 ∨ j = 19 ∨ j = 20 ∨ j = 21 ∨ j = 22 ∨ j = 23 ∨ j = 24 ∨ j = 25 ∨ j = 26 ∨ j = 27 ∨ j = 28 ∨ j = 29 ∨ j = 30 ∨ j = 31 ∨ j = 32 ∨ j = 33 ∨ j = 34 ∨ j = 35 ∨ j = 36 ∨ j = 37 ∨ j = 38 ∨ j = 39 ∨ j = 40 ∨ j = 41 ∨ j = 42 ∨ j = 43 ∨ j = 44 ∨ j = 45 ∨ j = 46 by omega) with rfl | rfl | rfl | rfl | rfl | rfl | rfl | rfl | rfl | rfl | rfl | rfl | rfl | rfl | rfl | rfl | rfl | rfl | rfl | rfl | rfl | rfl | rfl | rfl | rfl | rfl | rfl | rfl | rfl | rfl | rfl | rfl | rfl | rfl | rfl | rfl | rfl | rfl | rfl | rfl | rfl | rfl | rfl | rfl | rfl | rfl | rfl
  all_goals exact okb_p rfl rfl rfl hj'
def lw_K (o : Option AV ⊕ Nat) (_ : List AC) : Prop := o = .inl (some (.inl (.inl 1)))
theorem b_6 : ((Int8.ofInt 6).toInt32).toInt = 6 := by decide
theorem i_6 : (Int32.ofInt 6).toInt = 6 := by decide
set_option maxRecDepth 20000 in
set_option maxHeartbeats 2000000 in
theorem lp_loop (hX : lw_X X) : ∀ (n iN : Nat) (i : Int32) (cl : List (Nat × AV)) (C : List AC) (B : Int), X.length ≤ iN + 6 * n → i.toInt = (iN : Int) → iN ≤ X.length + 6 → lw_L cl i → (∃ s h, lt_S s h s h C) → LM B C → 0 ≤ B → 6 * B ≤ 50 * (iN : Int) → okb (tb_P (some X)) n 0 23 cl [] C lw_K := by
  have hx := hX.1
  have hlen : (Int32.ofNat X.length).toInt = (X.length : Int) := by
    rw [show Int32.ofNat X.length = Int32.ofInt ((X.length : Nat) : Int) from rfl, Int32.toInt_ofInt, show Int32.size = 4294967296 from rfl, Int.bmod_eq_of_le (by omega) (by omega)]
  have hl6 : (Int32.ofNat X.length - (Int8.ofInt 6).toInt32).toInt = (X.length : Int) - 6 := by rw [i32_sub (by rw [hlen, b_6]; omega) (by rw [hlen, b_6]; omega), hlen, b_6]
  have exit : ∀ (n : Nat) (cl : List (Nat × AV)) (C : List AC), okb (tb_P (some X)) n 0 1731 cl [] C lw_K := by
    intro n cl C
    refine okb_more (N := 0) (Nat.zero_le n) ?_
    refine okb_p rfl rfl rfl ?_
    exact okb_rv (ok_r rfl rfl rfl rfl rfl ⟨⟨_, rfl⟩, rfl⟩)
  intro n
  induction n with
  | zero =>
    intro iN i cl C B h1 hi h2 hl hS hM hB0 hB6
    refine okb_il rfl hl.2.2.2.2 ?_
    refine okb_an rfl hl.1 rfl ?_
    refine okb_sn (X := X) rfl rfl ?_
    refine okb_p rfl rfl rfl ?_
    refine okb_p rfl rfl rfl ?_
    refine okb_ic true rfl rfl ?_ (exit 0 cl C)
    show decide (Int32.ofNat X.length - (Int8.ofInt 6).toInt32 < i) = true
    rw [decide_eq_true_eq, Int32.lt_iff_toInt_lt, hl6]
    omega
  | succ n IH =>
    intro iN i cl C B h1 hi h2 hl hS hM hB0 hB6
    refine okb_il rfl hl.2.2.2.2 ?_
    refine okb_an rfl hl.1 rfl ?_
    refine okb_sn (X := X) rfl rfl ?_
    refine okb_p rfl rfl rfl ?_
    refine okb_p rfl rfl rfl ?_
    cases hq : ea_ck .gt i (Int32.ofNat X.length - (Int8.ofInt 6).toInt32) with
    | true => exact okb_ic true rfl rfl hq (exit (n + 1) cl C)
    | false =>
      have e1 : ¬ Int32.ofNat X.length - (Int8.ofInt 6).toInt32 < i := of_decide_eq_false hq
      rw [Int32.lt_iff_toInt_lt, hl6] at e1
      refine okb_ic false rfl rfl hq ?_
      have hlt : iN + 6 ≤ X.length := by omega
      obtain ⟨v, hv⟩ := hX.2 iN (by omega)
      refine okb_an rfl hl.1 rfl ?_
      refine okb_il rfl hl.2.2.2.2 ?_
      refine okb_sl (X := X) rfl rfl (ix_of hi (by omega)) hv ?_
      refine okb_p rfl rfl rfl ?_
      refine okb_p rfl rfl rfl ?_
      have next : ∀ cl' C', (∃ s h, lt_S s h s h C') → LM (B + 50) C' → lw_L cl' i → okb (tb_P (some X)) n 0 1725 cl' [] C' lw_K := by
        intro cl' C' hS' hM' hl'
        have i6 : (i + Int32.ofInt 6).toInt = ((iN + 6 : Nat) : Int) := by
          rw [i32_add (by rw [i_6]; omega) (by rw [i_6]; omega), i_6]
          omega
        refine okb_ii rfl (show 4 < 8 by decide) hl'.2.2.2.2 ?_
        refine okb_p rfl rfl rfl ?_
        refine IH (iN + 6) (i + Int32.ofInt 6) _ C' (B + 50) (by omega) i6 (by omega) ?_ hS' hM' (by omega) (by omega)
        exact ⟨lk_s1_n1 hl'.1 rfl (by decide), lk_s1_n1 hl'.2.1 rfl (by decide), lk_s1_n1 hl'.2.2.1 rfl (by decide), lk_s1_n1 hl'.2.2.2.1 rfl (by decide), lk_s1 _ _ _⟩
      obtain ⟨s, h, hS⟩ := hS
      rw [Nat.add_comm n 1]
      refine lp_sw (v := v &&& (Int8.ofInt 63).toInt32) (okb_more (by omega) (next cl C ⟨s, h, hS⟩ (LM_le hM (by omega)) hl)) (fun j hj => ?_)
      rcases (show j = 0 ∨ j = 1 ∨ j = 2 ∨ j = 3 ∨ j = 4 ∨ j = 5 ∨ j = 6 ∨ j = 7 ∨ j = 8 ∨ j = 9 ∨ j = 10 ∨ j = 11 ∨ j = 12 ∨ j = 13 ∨ j = 14 ∨ j = 15 ∨ j = 16 ∨ j = 17 ∨ j = 18 ∨ j = 19 ∨ j = 20 ∨ j = 21 ∨ j = 22 ∨ j = 23 ∨ j = 24 ∨ j = 25 ∨ j = 26 ∨ j = 27 ∨ j = 28 ∨ j = 29 ∨ j = 30 ∨ j = 31 ∨ j = 32 ∨ j = 33 ∨ j = 34 ∨ j = 35 ∨ j = 36 ∨ j = 37 ∨ j = 38 ∨ j = 39 ∨ j = 40 ∨ j = 41 ∨ j = 42 ∨ j = 43 ∨ j = 44 ∨ j = 45 ∨ j = 46 by omega) with rfl | rfl | rfl | rfl | rfl | rfl | rfl | rfl | rfl | rfl | rfl | rfl | rfl | rfl | rfl | rfl | rfl | rfl | rfl | rfl | rfl | rfl | rfl | rfl | rfl | rfl | rfl | rfl | rfl | rfl | rfl | rfl | rfl | rfl | rfl | rfl | rfl | rfl | rfl | rfl | rfl | rfl | rfl | rfl | rfl | rfl | rfl
      · exact lc_0 hX hS hM ⟨hB0, by omega⟩ hl hi hlt next
      · exact lc_1 hX hS hM ⟨hB0, by omega⟩ hl hi hlt next
      · exact lc_2 hX hS hM ⟨hB0, by omega⟩ hl hi hlt next
      · exact lc_3 hX hS hM ⟨hB0, by omega⟩ hl hi hlt next
      · exact lc_4 hX hS hM ⟨hB0, by omega⟩ hl hi hlt next
      · exact lc_5 hX hS hM ⟨hB0, by omega⟩ hl hi hlt next
      · exact lc_6 hX hS hM ⟨hB0, by omega⟩ hl hi hlt next
      · exact lc_7 hX hS hM ⟨hB0, by omega⟩ hl hi hlt next
      · exact lc_8 hX hS hM ⟨hB0, by omega⟩ hl hi hlt next
      · exact lc_9 hX hS hM ⟨hB0, by omega⟩ hl hi hlt next
      · exact lc_10 hX hS hM ⟨hB0, by omega⟩ hl hi hlt next
      · exact lc_11 hX hS hM ⟨hB0, by omega⟩ hl hi hlt next
      · exact lc_12 hX hS hM ⟨hB0, by omega⟩ hl hi hlt next
      · exact lc_13 hX hS hM ⟨hB0, by omega⟩ hl hi hlt next
      · exact lc_14 hX hS hM ⟨hB0, by omega⟩ hl hi hlt next
      · exact lc_15 hX hS hM ⟨hB0, by omega⟩ hl hi hlt next
      · exact lc_16 hX hS hM ⟨hB0, by omega⟩ hl hi hlt next
      · exact lc_17 hX hS hM ⟨hB0, by omega⟩ hl hi hlt next
      · exact lc_18 hX hS hM ⟨hB0, by omega⟩ hl hi hlt next
      · exact lc_19 hX hS hM ⟨hB0, by omega⟩ hl hi hlt next
      · exact lc_20 hX hS hM ⟨hB0, by omega⟩ hl hi hlt next
      · exact lc_21 hX hS hM ⟨hB0, by omega⟩ hl hi hlt next
      · exact lc_22 hX hS hM ⟨hB0, by omega⟩ hl hi hlt next
      · exact lc_23 hX hS hM ⟨hB0, by omega⟩ hl hi hlt next
      · exact lc_24 hX hS hM ⟨hB0, by omega⟩ hl hi hlt next
      · exact lc_25 hX hS hM ⟨hB0, by omega⟩ hl hi hlt next
      · exact lc_26 hX hS hM ⟨hB0, by omega⟩ hl hi hlt next
      · exact lc_27 hX hS hM ⟨hB0, by omega⟩ hl hi hlt next
      · exact lc_28 hX hS hM ⟨hB0, by omega⟩ hl hi hlt next
      · exact lc_29 hX hS hM ⟨hB0, by omega⟩ hl hi hlt next
      · exact lc_30 hX hS hM ⟨hB0, by omega⟩ hl hi hlt next
      · exact lc_31 hX hS hM ⟨hB0, by omega⟩ hl hi hlt next
      · exact lc_32 hX hS hM ⟨hB0, by omega⟩ hl hi hlt next
      · exact lc_33 hX hS hM ⟨hB0, by omega⟩ hl hi hlt next
      · exact lc_34 hX hS hM ⟨hB0, by omega⟩ hl hi hlt next
      · exact lc_35 hX hS hM ⟨hB0, by omega⟩ hl hi hlt next
      · exact lc_36 hX hS hM ⟨hB0, by omega⟩ hl hi hlt next
      · exact lc_37 hX hS hM ⟨hB0, by omega⟩ hl hi hlt next
      · exact lc_38 hX hS hM ⟨hB0, by omega⟩ hl hi hlt next
      · exact lc_39 hX hS hM ⟨hB0, by omega⟩ hl hi hlt next
      · exact lc_40 hX hS hM ⟨hB0, by omega⟩ hl hi hlt next
      · exact lc_41 hX hS hM ⟨hB0, by omega⟩ hl hi hlt next
      · exact lc_42 hX hS hM ⟨hB0, by omega⟩ hl hi hlt next
      · exact lc_43 hX hS hM ⟨hB0, by omega⟩ hl hi hlt next
      · exact lc_44 hX hS hM ⟨hB0, by omega⟩ hl hi hlt next
      · exact lc_45 hX hS hM ⟨hB0, by omega⟩ hl hi hlt next
      · exact lc_46 hX hS hM ⟨hB0, by omega⟩ hl hi hlt next
end LOOP
