/-! INTERVALS: quotients, remainders, shifts, bytes -/
theorem iv_div_nn {x y : Int32} {a b : Nat} (hx : x.toInt = (a : Int)) (hy : y.toInt = (b : Int)) : (x / y).toInt = ((a / b : Nat) : Int) := by
  have h1 := Int32.toInt_lt x
  have h2 : a / b ≤ a := Nat.div_le_self a b
  rw [Int32.toInt_div, hx, hy, ← Int.ofNat_tdiv]
  rw [hx] at h1
  generalize a / b = q at h2 ⊢
  exact iv_bm (by omega) (by omega)
theorem iv_rem_nn {x y : Int32} {a b : Nat} (hx : x.toInt = (a : Int)) (hy : y.toInt = (b : Int)) : (x - x / y * y).toInt = ((a % b : Nat) : Int) := by
  have h1 := Int32.toInt_lt x
  have h3 : a / b * b ≤ a := Nat.div_mul_le_self a b
  have h4 : a / b * b + a % b = a := Nat.div_add_mod' a b
  rw [hx] at h1
  have e1 : (x / y * y).toInt = ((a / b * b : Nat) : Int) := by
    rw [Int32.toInt_mul, iv_div_nn hx hy, hy, ← Int.natCast_mul]
    exact iv_bm (by omega) (by omega)
  rw [Int32.toInt_sub, e1, hx]
  have e2 : (a : Int) - ((a / b * b : Nat) : Int) = ((a % b : Nat) : Int) := by omega
  rw [e2]
  exact iv_bm (by omega) (by omega)
theorem iv_nat {i : AI} {x : Int32} (h : 0 ≤ ea_lo i) (hx : ea_gi i x) : ∃ a : Nat, x.toInt = (a : Int) ∧ (a : Int) ≤ ea_hi i ∧ ea_lo i ≤ (a : Int) := by
  have b := ea_bd hx
  exact ⟨x.toInt.toNat, by omega, by omega, by omega⟩
def iv_divg (i j : AI) : AI := if 0 ≤ ea_lo i ∧ 1 ≤ ea_lo j then iv_mk 0 (((ea_hi i).toNat / (ea_lo j).toNat : Nat) : Int) else ea_any
theorem iv_divg_ok (i j : AI) (x y : Int32) (hx : ea_gi i x) (hy : ea_gi j y) : ea_gi (iv_divg i j) (x / y) := by
  unfold iv_divg
  split
  · rename_i h
    obtain ⟨a, ha, ha2, ha3⟩ := iv_nat h.1 hx
    obtain ⟨b, hb, hb2, hb3⟩ := iv_nat (by omega) hy
    have e := iv_div_nn ha hb
    have h5 : a / b ≤ (ea_hi i).toNat / (ea_lo j).toNat := Nat.div_le_div (by omega) (by omega) (by omega)
    exact iv_in (by rw [e]; exact Int.natCast_nonneg _) (by rw [e]; exact Int.ofNat_le.mpr h5)
  · exact ea_any_ok _
def iv_remg (i j : AI) : AI := if 0 ≤ ea_lo i ∧ 1 ≤ ea_lo j then iv_mk 0 (min (ea_hi i) (ea_hi j - 1)) else ea_any
theorem iv_remg_ok (i j : AI) (x y : Int32) (hx : ea_gi i x) (hy : ea_gi j y) : ea_gi (iv_remg i j) (x - x / y * y) := by
  unfold iv_remg
  split
  · rename_i h
    obtain ⟨a, ha, ha2, ha3⟩ := iv_nat h.1 hx
    obtain ⟨b, hb, hb2, hb3⟩ := iv_nat (by omega) hy
    have e := iv_rem_nn ha hb
    have h5 : a % b < b := Nat.mod_lt _ (by omega)
    have h6 : a % b ≤ a := Nat.mod_le _ _
    exact iv_in (by rw [e]; omega) (by rw [e]; omega)
  · exact ea_any_ok _
/-- not 0 -/
def iv_nz (i : AI) : Bool := decide (1 ≤ ea_lo i) || decide (ea_hi i ≤ -1)
theorem iv_nz_ok {i : AI} (h : iv_nz i = true) {x : Int32} (hx : ea_gi i x) : x ≠ 0 := by
  have b := ea_bd hx
  unfold iv_nz at h
  simp only [Bool.or_eq_true, decide_eq_true_eq] at h
  intro e
  have e2 : x.toInt = 0 := by rw [e]; rfl
  omega
/-- a byte -/
def iv_byg (_ : AI) : AI := .inr (-128, 127)
theorem iv_byg_ok (x : Int32) : ea_gi (iv_byg (.inl x)) x.toInt8.toInt32 := by
  have h1 := Int8.le_toInt x.toInt8
  have h2 := Int8.toInt_lt x.toInt8
  refine ⟨?_, ?_⟩
  · show -128 ≤ x.toInt8.toInt32.toInt
    rw [Int8.toInt_toInt32]; omega
  · show x.toInt8.toInt32.toInt ≤ 127
    rw [Int8.toInt_toInt32]; omega
def iv_by (i : AI) : AI := match i with
  | .inl x => .inl x.toInt8.toInt32
  | .inr _ => .inr (-128, 127)
theorem iv_by_ok {i : AI} {x : Int32} (hx : ea_gi i x) : ea_gi (iv_by i) x.toInt8.toInt32 := by
  match i, hx with
  | .inl u, hx => rw [show x = u from hx]; rfl
  | .inr q, _ => exact iv_byg_ok x
