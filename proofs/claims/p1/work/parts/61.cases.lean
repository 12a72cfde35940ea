/-! every case, every script -/
/-- a box of scripts on which a case is checked -/
def tk_P (j : Nat) (xs : Nat → Int32) : Prop := ∃ X', fx_c (tz_g j) X' = true ∧ X'.length = 6 ∧ ∀ i v, X'[i]? = some v → ea_gi v (xs i)
theorem tk_any6 {u : AI} {xs : Nat → Int32} (hu : ea_gi u (xs 1)) : ∀ i v, [ea_any, u, ea_any, ea_any, ea_any, ea_any][i]? = some v → ea_gi v (xs i) := by
  intro i v h
  match i, h with
  | 0, h => cases h; exact ea_any_ok _
  | 1, h => cases h; exact hu
  | 2, h => cases h; exact ea_any_ok _
  | 3, h => cases h; exact ea_any_ok _
  | 4, h => cases h; exact ea_any_ok _
  | 5, h => cases h; exact ea_any_ok _
  | _ + 6, h => cases h
theorem tk_of {j pc : Nat} {hs : List (Nat × Int)} (hp : tz_g j = pc) (h : ea_bx (fx_c pc) hs tb_any = true) (xs : Nat → Int32) : tk_P j xs := by
  subst hp
  exact ea_bx_ok _ xs hs tb_any (tk_any6 (ea_any_ok _)) h
theorem tk_cut {j pc : Nat} {hs : List (Nat × Int)} {lo hi : Int} (hp : tz_g j = pc) (h : ea_bx (fx_c pc) hs [ea_any, ea_mk lo hi, ea_any, ea_any, ea_any, ea_any] = true) {xs : Nat → Int32} (h1 : lo ≤ (xs 1).toInt) (h2 : (xs 1).toInt ≤ hi) : tk_P j xs := by
  subst hp
  exact ea_bx_ok _ xs hs _ (tk_any6 (ea_mk_ok h1 h2)) h
theorem tk_15 (xs : Nat → Int32) : tk_P 15 xs := by
  have h1 := Int32.le_toInt (xs 1)
  have h2 := Int32.toInt_lt (xs 1)
  by_cases g0 : (xs 1).toInt < 1
  · exact tk_cut (by decide) tk_15_0 (by omega) (by omega)
  by_cases g1 : (xs 1).toInt < 14
  · exact tk_cut (by decide) tk_15_1 (by omega) (by omega)
  by_cases g2 : (xs 1).toInt < 27
  · exact tk_cut (by decide) tk_15_2 (by omega) (by omega)
  by_cases g3 : (xs 1).toInt < 39
  · exact tk_cut (by decide) tk_15_3 (by omega) (by omega)
  by_cases g4 : (xs 1).toInt < 51
  · exact tk_cut (by decide) tk_15_4 (by omega) (by omega)
  exact tk_cut (by decide) tk_15_5 (by omega) (by omega)
theorem tk_36 (xs : Nat → Int32) : tk_P 36 xs := by
  have h1 := Int32.le_toInt (xs 1)
  have h2 := Int32.toInt_lt (xs 1)
  by_cases g0 : (xs 1).toInt < 0
  · exact tk_cut (by decide) tk_36_0 (by omega) (by omega)
  by_cases g1 : (xs 1).toInt < 8
  · exact tk_cut (by decide) tk_36_1 (by omega) (by omega)
  by_cases g2 : (xs 1).toInt < 15
  · exact tk_cut (by decide) tk_36_2 (by omega) (by omega)
  by_cases g3 : (xs 1).toInt < 21
  · exact tk_cut (by decide) tk_36_3 (by omega) (by omega)
  by_cases g4 : (xs 1).toInt < 27
  · exact tk_cut (by decide) tk_36_4 (by omega) (by omega)
  by_cases g5 : (xs 1).toInt < 32
  · exact tk_cut (by decide) tk_36_5 (by omega) (by omega)
  by_cases g6 : (xs 1).toInt < 37
  · exact tk_cut (by decide) tk_36_6 (by omega) (by omega)
  by_cases g7 : (xs 1).toInt < 41
  · exact tk_cut (by decide) tk_36_7 (by omega) (by omega)
  exact tk_cut (by decide) tk_36_8 (by omega) (by omega)
theorem tk_37 (xs : Nat → Int32) : tk_P 37 xs := by
  have h1 := Int32.le_toInt (xs 1)
  have h2 := Int32.toInt_lt (xs 1)
  by_cases g0 : (xs 1).toInt < 0
  · exact tk_cut (by decide) tk_37_0 (by omega) (by omega)
  by_cases g1 : (xs 1).toInt < 11
  · exact tk_cut (by decide) tk_37_1 (by omega) (by omega)
  by_cases g2 : (xs 1).toInt < 19
  · exact tk_cut (by decide) tk_37_2 (by omega) (by omega)
  by_cases g3 : (xs 1).toInt < 26
  · exact tk_cut (by decide) tk_37_3 (by omega) (by omega)
  by_cases g4 : (xs 1).toInt < 32
  · exact tk_cut (by decide) tk_37_4 (by omega) (by omega)
  by_cases g5 : (xs 1).toInt < 37
  · exact tk_cut (by decide) tk_37_5 (by omega) (by omega)
  by_cases g6 : (xs 1).toInt < 41
  · exact tk_cut (by decide) tk_37_6 (by omega) (by omega)
  exact tk_cut (by decide) tk_37_7 (by omega) (by omega)
theorem tk_all (j : Nat) (hj : j < 48) (xs : Nat → Int32) : tk_P j xs := by
  match j, hj with
  | 0, _ => exact tk_of (by decide) tk_0 xs
  | 1, _ => exact tk_of (by decide) tk_1 xs
  | 2, _ => exact tk_of (by decide) tk_2 xs
  | 3, _ => exact tk_of (by decide) tk_3 xs
  | 4, _ => exact tk_of (by decide) tk_4 xs
  | 5, _ => exact tk_of (by decide) tk_5 xs
  | 6, _ => exact tk_of (by decide) tk_6 xs
  | 7, _ => exact tk_of (by decide) tk_7 xs
  | 8, _ => exact tk_of (by decide) tk_8 xs
  | 9, _ => exact tk_of (by decide) tk_9 xs
  | 10, _ => exact tk_of (by decide) tk_10 xs
  | 11, _ => exact tk_of (by decide) tk_11 xs
  | 12, _ => exact tk_of (by decide) tk_12 xs
  | 13, _ => exact tk_of (by decide) tk_13 xs
  | 14, _ => exact tk_of (by decide) tk_14 xs
  | 15, _ => exact tk_15 xs
  | 16, _ => exact tk_of (by decide) tk_16 xs
  | 17, _ => exact tk_of (by decide) tk_17 xs
  | 18, _ => exact tk_of (by decide) tk_18 xs
  | 19, _ => exact tk_of (by decide) tk_19 xs
  | 20, _ => exact tk_of (by decide) tk_20 xs
  | 21, _ => exact tk_of (by decide) tk_21 xs
  | 22, _ => exact tk_of (by decide) tk_22 xs
  | 23, _ => exact tk_of (by decide) tk_23 xs
  | 24, _ => exact tk_of (by decide) tk_24 xs
  | 25, _ => exact tk_of (by decide) tk_25 xs
  | 26, _ => exact tk_of (by decide) tk_26 xs
  | 27, _ => exact tk_of (by decide) tk_27 xs
  | 28, _ => exact tk_of (by decide) tk_28 xs
  | 29, _ => exact tk_of (by decide) tk_29 xs
  | 30, _ => exact tk_of (by decide) tk_30 xs
  | 31, _ => exact tk_of (by decide) tk_31 xs
  | 32, _ => exact tk_of (by decide) tk_32 xs
  | 33, _ => exact tk_of (by decide) tk_33 xs
  | 34, _ => exact tk_of (by decide) tk_34 xs
  | 35, _ => exact tk_of (by decide) tk_35 xs
  | 36, _ => exact tk_36 xs
  | 37, _ => exact tk_37 xs
  | 38, _ => exact tk_of (by decide) tk_38 xs
  | 39, _ => exact tk_of (by decide) tk_39 xs
  | 40, _ => exact tk_of (by decide) tk_40 xs
  | 41, _ => exact tk_of (by decide) tk_41 xs
  | 42, _ => exact tk_of (by decide) tk_42 xs
  | 43, _ => exact tk_of (by decide) tk_43 xs
  | 44, _ => exact tk_of (by decide) tk_44 xs
  | 45, _ => exact tk_of (by decide) tk_45 xs
  | 46, _ => exact tk_of (by decide) tk_46 xs
  | 47, _ => exact tk_of (by decide) tk_47 xs
  | _ + 48, h => exact absurd h (by omega)
