/-! INTERVALS: one or the other bit, shifts to the left by few -/
theorem iv_bn {x : Int32} {a : Nat} (h : x.toInt = (a : Int)) : x.toBitVec.toNat = a := by
  have h' : x.toBitVec.toInt = (a : Int) := h
  have hl := x.toBitVec.isLt
  rw [BitVec.toInt_eq_toNat_cond] at h'
  split at h'
  · omega
  · omega
theorem iv_nb {x : Int32} {a : Nat} (h : x.toBitVec.toNat = a) (ha : a < 2147483648) : x.toInt = (a : Int) := by
  show x.toBitVec.toInt = _
  rw [BitVec.toInt_eq_toNat_cond, h, if_pos (by omega)]
def iv_top (i j : AI) : Nat := 2 ^ (Nat.log2 (max (ea_hi i) (ea_hi j)).toNat + 1)
theorem iv_top_ok {i j : AI} {x y : Int32} {a b : Nat} (hx : ea_gi i x) (hy : ea_gi j y) (ha : x.toInt = (a : Int)) (hb : y.toInt = (b : Int)) : a < iv_top i j ∧ b < iv_top i j := by
  have p := ea_bd hx
  have q := ea_bd hy
  have h := @Nat.lt_log2_self (max (ea_hi i) (ea_hi j)).toNat
  unfold iv_top
  exact ⟨Nat.lt_of_le_of_lt (by omega) h, Nat.lt_of_le_of_lt (by omega) h⟩
def iv_org (i j : AI) : AI := if 0 ≤ ea_lo i ∧ 0 ≤ ea_lo j ∧ iv_top i j ≤ 2147483648 then iv_mk 0 ((iv_top i j : Int) - 1) else ea_any
theorem iv_org_ok (i j : AI) (x y : Int32) (hx : ea_gi i x) (hy : ea_gi j y) : ea_gi (iv_org i j) (x ||| y) := by
  unfold iv_org
  split
  · rename_i h
    obtain ⟨a, ha, -, -⟩ := iv_nat h.1 hx
    obtain ⟨b, hb, -, -⟩ := iv_nat h.2.1 hy
    obtain ⟨t1, t2⟩ := iv_top_ok hx hy ha hb
    have h3 : a ||| b < iv_top i j := Nat.or_lt_two_pow t1 t2
    have e : (x ||| y).toBitVec.toNat = a ||| b := by rw [Int32.toBitVec_or, BitVec.toNat_or, iv_bn ha, iv_bn hb]
    have e2 := iv_nb e (by omega)
    exact iv_in (by rw [e2]; omega) (by rw [e2]; omega)
  · exact ea_any_ok _
theorem iv_xorg_ok (i j : AI) (x y : Int32) (hx : ea_gi i x) (hy : ea_gi j y) : ea_gi (iv_org i j) (x ^^^ y) := by
  unfold iv_org
  split
  · rename_i h
    obtain ⟨a, ha, -, -⟩ := iv_nat h.1 hx
    obtain ⟨b, hb, -, -⟩ := iv_nat h.2.1 hy
    obtain ⟨t1, t2⟩ := iv_top_ok hx hy ha hb
    have h3 : a ^^^ b < iv_top i j := Nat.xor_lt_two_pow t1 t2
    have e : (x ^^^ y).toBitVec.toNat = a ^^^ b := by rw [Int32.toBitVec_xor, BitVec.toNat_xor, iv_bn ha, iv_bn hb]
    have e2 := iv_nb e (by omega)
    exact iv_in (by rw [e2]; omega) (by rw [e2]; omega)
  · exact ea_any_ok _
def iv_mn : List Int → Int
  | [] => 2147483647
  | a :: t => min a (iv_mn t)
def iv_mx : List Int → Int
  | [] => -2147483648
  | a :: t => max a (iv_mx t)
theorem iv_mn_ok : ∀ {l : List Int} {z : Int}, z ∈ l → iv_mn l ≤ z ∧ z ≤ iv_mx l
  | a :: t, z, h => by
    rcases List.mem_cons.mp h with rfl | h
    · exact ⟨Int.min_le_left _ _, Int.le_max_left _ _⟩
    · have q := iv_mn_ok h
      exact ⟨Int.le_trans (Int.min_le_right _ _) q.1, Int.le_trans q.2 (Int.le_max_right _ _)⟩
/-- a shift of a known number by few, all of them tried -/
def iv_sl (x : Int32) (lo : Int) (n : Nat) : List Int := (List.range n).map (fun k : Nat => (x <<< (Int32.ofInt (lo + (k : Int)) &&& 31)).toInt)
def iv_shlg (i j : AI) : AI := match i, j with
  | .inl x, .inr q => if q.2 - q.1 < 32 then iv_mk (iv_mn (iv_sl x q.1 (q.2 - q.1 + 1).toNat)) (iv_mx (iv_sl x q.1 (q.2 - q.1 + 1).toNat)) else ea_any
  | _, _ => ea_any
theorem iv_shlg_ok (i j : AI) (x y : Int32) (hx : ea_gi i x) (hy : ea_gi j y) : ea_gi (iv_shlg i j) (x <<< (y &&& 31)) := by
  match i, j, hx, hy with
  | .inl u, .inl v, _, _ => exact ea_any_ok _
  | .inr u, _, _, _ => exact ea_any_ok _
  | .inl u, .inr q, hx, hy =>
    obtain rfl : x = u := hx
    show ea_gi (if q.2 - q.1 < 32 then iv_mk (iv_mn (iv_sl x q.1 (q.2 - q.1 + 1).toNat)) (iv_mx (iv_sl x q.1 (q.2 - q.1 + 1).toNat)) else ea_any) (x <<< (y &&& 31))
    split
    · have b : q.1 ≤ y.toInt ∧ y.toInt ≤ q.2 := hy
      have hm : (x <<< (y &&& 31)).toInt ∈ iv_sl x q.1 (q.2 - q.1 + 1).toNat := by
        refine List.mem_map.mpr ⟨(y.toInt - q.1).toNat, List.mem_range.mpr (by omega), ?_⟩
        have e : q.1 + (((y.toInt - q.1).toNat : Nat) : Int) = y.toInt := by omega
        rw [e, Int32.ofInt_toInt]
      have r := iv_mn_ok hm
      exact iv_in r.1 r.2
    · exact ea_any_ok _
