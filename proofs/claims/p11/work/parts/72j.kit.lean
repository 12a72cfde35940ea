/-! KIT: ints, bits -/
def i32 (j : Nat) : Int32 := Int32.ofNat j
def tb (x : Int32) (k : Nat) : Bool := x.toBitVec.getLsbD k
theorem i32_i {j : Nat} (h : j < 2147483648) : (i32 j).toInt = (j : Int) := by
  unfold i32
  rw [Int32.toInt_ofNat']
  exact Int.bmod_eq_of_le (by simp [Int32.size]) (by simp [Int32.size]; omega)
theorem i32_of {x : Int32} {j : Nat} (h : x.toInt = (j : Int)) : x = i32 j := by
  have := Int32.toInt_lt x
  exact Int32.toInt_inj.mp (by rw [i32_i (by omega)]; exact h)
theorem ni_i {j : Nat} (h : j < 2147483648) : ni (i32 j) = j := by
  unfold ni
  rw [i32_i h]
  rfl
theorem i32_s (j : Nat) : i32 j + 1 = i32 (j + 1) := by
  unfold i32
  rw [Int32.ofNat_add]
  rfl
theorem i32_inj {j k : Nat} (hj : j < 2147483648) (hk : k < 2147483648) : i32 j = i32 k ↔ j = k := by
  constructor
  · intro h
    have := i32_i hj
    rw [h, i32_i hk] at this
    omega
  · rintro rfl; rfl
theorem i32_lt {j k : Nat} (hj : j < 2147483648) (hk : k < 2147483648) : i32 j < i32 k ↔ j < k := by
  rw [Int32.lt_iff_toInt_lt, i32_i hj, i32_i hk]
  omega
theorem tb_ext {x y : Int32} (h : ∀ k, k < 32 → tb x k = tb y k) : x = y := by
  rw [← Int32.toBitVec_inj]
  exact BitVec.eq_of_getLsbD_eq h
theorem tb_or (x y : Int32) (k : Nat) : tb (x ||| y) k = (tb x k || tb y k) := by
  unfold tb
  rw [Int32.toBitVec_or, BitVec.getLsbD_or]
theorem tb_and (x y : Int32) (k : Nat) : tb (x &&& y) k = (tb x k && tb y k) := by
  unfold tb
  rw [Int32.toBitVec_and, BitVec.getLsbD_and]
theorem tb_not {x : Int32} {k : Nat} (hk : k < 32) : tb (x ^^^ (-1)) k = !tb x k := by
  unfold tb
  rw [Int32.xor_neg_one, Int32.toBitVec_not, BitVec.getLsbD_not]
  simp [hk]
theorem tb_0 (k : Nat) : tb 0 k = false := by
  unfold tb
  simp
theorem sl_a : ∀ j : Fin 32, sl 1 (i32 j) = Int32.ofBitVec (1#32 <<< (j : Nat)) := by decide
theorem tb_sl {j k : Nat} (hj : j < 32) (hk : k < 32) : tb (sl 1 (i32 j)) k = decide (k = j) := by
  rw [show sl 1 (i32 j) = Int32.ofBitVec (1#32 <<< j) from sl_a ⟨j, hj⟩]
  unfold tb
  rw [Int32.toBitVec_ofBitVec, BitVec.getLsbD_shiftLeft]
  by_cases h : k = j
  · subst h; simp [hk]
  · by_cases h2 : k < j
    · simp [h2, h]
    · have : k - j ≠ 0 := by omega
      simp [h2, h, hk, BitVec.getLsbD_one, this]
theorem sh_a : ∀ j : Fin 32, ((i32 j &&& 31).toBitVec.smod 32).toNat = (j : Nat) := by decide
theorem tb_sr1 {x : Int32} {j : Nat} (hj : j < 32) : tb (sr x (i32 j)) 0 = tb x j := by
  unfold tb sr
  rw [Int32.toBitVec_shiftRight]
  simp only [BitVec.sshiftRight_eq', BitVec.getLsbD_sshiftRight]
  rw [sh_a ⟨j, hj⟩]
  simp [hj]
theorem tb_1 (k : Nat) : tb 1 k = decide (k = 0) := by
  unfold tb
  show (1#32).getLsbD k = _
  rw [BitVec.getLsbD_one]
  simp
theorem bt_b {x : Int32} {j : Nat} (hj : j < 32) : (sr x (i32 j) &&& 1) = if tb x j then 1 else 0 := by
  apply tb_ext
  intro k hk
  rw [tb_and, tb_1]
  by_cases h : k = 0
  · subst h
    rw [tb_sr1 hj]
    cases tb x j <;> simp [tb_1, tb_0]
  · cases tb x j <;> simp [tb_1, tb_0, h]
theorem bt_1 {x : Int32} {j : Nat} (hj : j < 32) : (sr x (i32 j) &&& 1) = 1 ↔ tb x j = true := by
  rw [bt_b hj]
  cases tb x j <;> simp
def bs (P : Nat → Bool) : Nat → Int32
  | 0 => 0
  | n + 1 => if P n = true then bs P n ||| sl 1 (i32 n) else bs P n
theorem tb_bs (P : Nat → Bool) : ∀ (n : Nat), n ≤ 32 → ∀ k, k < 32 → tb (bs P n) k = (decide (k < n) && P k)
  | 0, _, k, hk => by simp [bs, tb_0]
  | n + 1, hn, k, hk => by
    unfold bs
    have IH := tb_bs P n (by omega) k hk
    by_cases h : P n = true
    · rw [if_pos h, tb_or, IH, tb_sl (by omega) hk]
      by_cases hkn : k = n
      · subst hkn; simp [h]
      · have : (k < n + 1) ↔ k < n := by omega
        simp [hkn, this]
    · rw [if_neg h, IH]
      by_cases hkn : k = n
      · subst hkn; simp at h; simp [h]
      · have : (k < n + 1) ↔ k < n := by omega
        simp [this]
theorem bs_congr {P P' : Nat → Bool} : ∀ {n : Nat}, (∀ k, k < n → P k = P' k) → bs P n = bs P' n
  | 0, _ => rfl
  | n + 1, h => by
    unfold bs
    rw [h n (by omega), bs_congr (fun k hk => h k (by omega))]
theorem up_i {A : Type} {f : Nat → Nat → A} {a k b j : Nat} {x : A} : up f a k x b j = if b = a ∧ j = k then x else f b j := rfl
