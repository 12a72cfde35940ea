/-! chars and bytes -/
theorem ch_nat {x : Int32} (h : 0 ≤ x.toInt) : (x.toBitVec.toNat : Int) = x.toInt := by
  have h1 : x.toInt = x.toBitVec.toInt := rfl
  have h2 := BitVec.toInt_eq_toNat_cond x.toBitVec
  have h3 := x.toBitVec.isLt
  rw [h1] at h ⊢
  rw [h2] at h ⊢
  split at h
  · rw [if_pos (by assumption)]
  · omega
theorem ch_int {x : Int32} (h : 2 * x.toBitVec.toNat < 2 ^ 32) : x.toInt = (x.toBitVec.toNat : Int) := by
  have h1 : x.toInt = x.toBitVec.toInt := rfl
  rw [h1, BitVec.toInt_eq_toNat_cond, if_pos h]
theorem ch_fit {x : Int32} (h1 : 0 ≤ x.toInt) (h2 : x.toInt ≤ 65535) : x.toUInt32.toUInt16.toUInt32.toInt32 = x := by
  have hn := ch_nat h1
  apply Int32.toBitVec_inj.mp
  show (x.toBitVec.setWidth 16).setWidth 32 = x.toBitVec
  apply BitVec.eq_of_toNat_eq
  rw [BitVec.toNat_setWidth, BitVec.toNat_setWidth]
  have : x.toBitVec.toNat < 65536 := by omega
  omega
theorem by_fit {x : Int32} (h1 : -128 ≤ x.toInt) (h2 : x.toInt ≤ 127) : x.toInt8.toInt32 = x := by
  apply Int32.toInt_inj.mp
  rw [Int8.toInt_toInt32, Int32.toInt_toInt8, Int.bmod_eq_of_le (by omega) (by omega)]
def ch_g (_ : AI) : AI := .inr (0, 65535)
theorem ch_ok (x : Int32) : 0 ≤ ((x.toUInt32 % 65536).toInt32).toInt ∧ ((x.toUInt32 % 65536).toInt32).toInt ≤ 65535 := by
  have hb : ((x.toUInt32 % 65536).toInt32).toBitVec = x.toBitVec % 65536#32 := rfl
  have hn : ((x.toUInt32 % 65536).toInt32).toBitVec.toNat = x.toBitVec.toNat % 65536 := by
    rw [hb, BitVec.toNat_umod]
    rfl
  have hl : x.toBitVec.toNat % 65536 < 65536 := Nat.mod_lt _ (by decide)
  have hi := ch_int (x := (x.toUInt32 % 65536).toInt32) (by rw [hn]; omega)
  rw [hi, hn]
  omega
/-- an int as a char: what is known of it -/
def ch_1 (i : AI) : AI := match i with
  | .inl x => .inl (x.toUInt32 % 65536).toInt32
  | .inr _ => .inr (0, 65535)
theorem ch_1_ok {i : AI} {x : Int32} (h : ea_gi i x) : ea_gi (ch_1 i) (x.toUInt32 % 65536).toInt32 := by
  match i, h with
  | .inl y, h => rw [show x = y from h]; rfl
  | .inr q, _ => exact ch_ok x
