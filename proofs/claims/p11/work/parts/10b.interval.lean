/-! INTERVALS: operations on ints that lie between bounds -/
def ea_mk (lo hi : Int) : AI := if lo = hi then .inl (Int32.ofInt lo) else .inr (lo, hi)
theorem ea_mk_ok {lo hi : Int} {x : Int32} (h1 : lo ≤ x.toInt) (h2 : x.toInt ≤ hi) : ea_gi (ea_mk lo hi) x := by
  unfold ea_mk
  split
  · rename_i e
    show x = Int32.ofInt lo
    have : lo = x.toInt := by omega
    rw [this, Int32.ofInt_toInt]
  · exact ⟨h1, h2⟩
/-- between bounds, if an int can hold them; else any int -/
def iv_mk (lo hi : Int) : AI := if -2147483648 ≤ lo ∧ hi ≤ 2147483647 then ea_mk lo hi else ea_any
theorem iv_bm {z : Int} (h1 : -2147483648 ≤ z) (h2 : z ≤ 2147483647) : z.bmod (2 ^ 32) = z := by
  rw [Int.bmod_def]
  show (if z % 4294967296 < (4294967296 + 1) / 2 then z % 4294967296 else z % 4294967296 - 4294967296) = z
  split <;> omega
theorem iv_mk_ok {lo hi z : Int} {r : Int32} (h1 : lo ≤ z) (h2 : z ≤ hi) (hr : r.toInt = z.bmod (2 ^ 32)) : ea_gi (iv_mk lo hi) r := by
  unfold iv_mk
  split
  · rename_i h
    rw [iv_bm (by omega) (by omega)] at hr
    exact ea_mk_ok (by omega) (by omega)
  · exact ea_any_ok _
/-- an operation: known of known ones, else by bounds -/
def iv_2 (f : Int32 → Int32 → Int32) (g : AI → AI → AI) (i j : AI) : AI := match i, j with
  | .inl x, .inl y => .inl (f x y)
  | _, _ => g i j
theorem iv_2_ok {f : Int32 → Int32 → Int32} {g : AI → AI → AI} (hg : ∀ i j x y, ea_gi i x → ea_gi j y → ea_gi (g i j) (f x y)) {i j : AI} {x y : Int32} (hx : ea_gi i x) (hy : ea_gi j y) : ea_gi (iv_2 f g i j) (f x y) := by
  match i, j, hx, hy with
  | .inl u, .inl v, hx, hy => rw [show x = u from hx, show y = v from hy]; rfl
  | .inl u, .inr v, hx, hy => exact hg _ _ _ _ hx hy
  | .inr u, .inl v, hx, hy => exact hg _ _ _ _ hx hy
  | .inr u, .inr v, hx, hy => exact hg _ _ _ _ hx hy
def iv_addg (i j : AI) : AI := iv_mk (ea_lo i + ea_lo j) (ea_hi i + ea_hi j)
theorem iv_addg_ok (i j : AI) (x y : Int32) (hx : ea_gi i x) (hy : ea_gi j y) : ea_gi (iv_addg i j) (x + y) := by
  have a := ea_bd hx
  have b := ea_bd hy
  exact iv_mk_ok (z := x.toInt + y.toInt) (by omega) (by omega) (Int32.toInt_add x y)
def iv_subg (i j : AI) : AI := iv_mk (ea_lo i - ea_hi j) (ea_hi i - ea_lo j)
theorem iv_subg_ok (i j : AI) (x y : Int32) (hx : ea_gi i x) (hy : ea_gi j y) : ea_gi (iv_subg i j) (x - y) := by
  have a := ea_bd hx
  have b := ea_bd hy
  exact iv_mk_ok (z := x.toInt - y.toInt) (by omega) (by omega) (Int32.toInt_sub x y)
/-- products: of a number that is known and not below 0 -/
def iv_mulg (i j : AI) : AI := match i, j with
  | .inl k, j => if 0 ≤ k.toInt then iv_mk (k.toInt * ea_lo j) (k.toInt * ea_hi j) else ea_any
  | i, .inl k => if 0 ≤ k.toInt then iv_mk (ea_lo i * k.toInt) (ea_hi i * k.toInt) else ea_any
  | i, j => if 0 ≤ ea_lo i ∧ 0 ≤ ea_lo j then iv_mk 0 (ea_hi i * ea_hi j) else ea_any
theorem iv_mulg_ok (i j : AI) (x y : Int32) (hx : ea_gi i x) (hy : ea_gi j y) : ea_gi (iv_mulg i j) (x * y) := by
  have a := ea_bd hx
  have b := ea_bd hy
  match i, j, hx, hy, a, b with
  | .inl k, j, hx, hy, a, b =>
    show ea_gi (if 0 ≤ k.toInt then iv_mk (k.toInt * ea_lo j) (k.toInt * ea_hi j) else ea_any) (x * y)
    split
    · rename_i hk
      obtain rfl : x = k := hx
      exact iv_mk_ok (z := x.toInt * y.toInt) (Int.mul_le_mul_of_nonneg_left b.1 hk) (Int.mul_le_mul_of_nonneg_left b.2 hk) (Int32.toInt_mul x y)
    · exact ea_any_ok _
  | .inr p, .inl k, hx, hy, a, b =>
    show ea_gi (if 0 ≤ k.toInt then iv_mk (ea_lo (.inr p) * k.toInt) (ea_hi (.inr p) * k.toInt) else ea_any) (x * y)
    split
    · rename_i hk
      obtain rfl : y = k := hy
      exact iv_mk_ok (z := x.toInt * y.toInt) (Int.mul_le_mul_of_nonneg_right a.1 hk) (Int.mul_le_mul_of_nonneg_right a.2 hk) (Int32.toInt_mul x y)
    · exact ea_any_ok _
  | .inr p, .inr q, hx, hy, a, b =>
    show ea_gi (if 0 ≤ ea_lo (.inr p) ∧ 0 ≤ ea_lo (.inr q) then iv_mk 0 (ea_hi (.inr p) * ea_hi (.inr q)) else ea_any) (x * y)
    split
    · rename_i hk
      have h1 : 0 ≤ x.toInt := by omega
      have h2 : 0 ≤ y.toInt := by omega
      refine iv_mk_ok (z := x.toInt * y.toInt) (Int.mul_nonneg h1 h2) ?_ (Int32.toInt_mul x y)
      exact Int.le_trans (Int.mul_le_mul_of_nonneg_right a.2 h2) (Int.mul_le_mul_of_nonneg_left b.2 (by omega))
    · exact ea_any_ok _
/-- smaller: every int of the one is one of the other -/
def iv_le (i j : AI) : Bool := match i, j with
  | .inl x, .inl y => decide (x = y)
  | _, .inl _ => false
  | i, .inr q => decide (q.1 ≤ ea_lo i) && decide (ea_hi i ≤ q.2)
theorem iv_le_ok {i j : AI} (h : iv_le i j = true) {x : Int32} (hx : ea_gi i x) : ea_gi j x := by
  have a := ea_bd hx
  match i, j, h, hx with
  | .inl u, .inl v, h, hx =>
    have e : u = v := of_decide_eq_true h
    subst e
    exact hx
  | .inl u, .inr q, h, hx =>
    have h' : (decide (q.1 ≤ ea_lo (.inl u)) && decide (ea_hi (.inl u) ≤ q.2)) = true := h
    simp only [Bool.and_eq_true, decide_eq_true_eq] at h'
    exact ⟨by omega, by omega⟩
  | .inr p, .inr q, h, hx =>
    have h' : (decide (q.1 ≤ ea_lo (.inr p)) && decide (ea_hi (.inr p) ≤ q.2)) = true := h
    simp only [Bool.and_eq_true, decide_eq_true_eq] at h'
    exact ⟨by omega, by omega⟩
/-- bits: both, one of them not below 0 -/
theorem iv_and_nn (x y : Int32) (h : 0 ≤ y.toInt) : 0 ≤ (x &&& y).toInt ∧ (x &&& y).toInt ≤ y.toInt := by
  have e : (x &&& y).toBitVec = x.toBitVec &&& y.toBitVec := Int32.toBitVec_and x y
  have hy : y.toInt = (y.toBitVec.toNat : Int) := by
    show y.toBitVec.toInt = _
    have h' : 0 ≤ y.toBitVec.toInt := h
    rw [BitVec.toInt_eq_toNat_cond] at h' ⊢
    split at h' <;> rename_i hc
    · rw [if_pos hc]
    · have := y.toBitVec.isLt
      omega
  have hle : (x.toBitVec &&& y.toBitVec).toNat ≤ y.toBitVec.toNat := by
    rw [BitVec.toNat_and]
    exact Nat.and_le_right
  have hr : (x &&& y).toInt = ((x.toBitVec &&& y.toBitVec).toNat : Int) := by
    show (x &&& y).toBitVec.toInt = _
    rw [e, BitVec.toInt_eq_toNat_cond, if_pos]
    have h2 : y.toInt < 2 ^ 31 := Int32.toInt_lt y
    have h3 : (y.toBitVec.toNat : Int) < 2147483648 := by rw [← hy]; exact h2
    show 2 * (x.toBitVec &&& y.toBitVec).toNat < 4294967296
    omega
  rw [hr, hy]
  exact ⟨by omega, by omega⟩
theorem iv_and_comm (x y : Int32) : x &&& y = y &&& x := by
  apply Int32.toBitVec_inj.mp
  rw [Int32.toBitVec_and, Int32.toBitVec_and, BitVec.and_comm]
def iv_andg (i j : AI) : AI := if 0 ≤ ea_lo j then iv_mk 0 (ea_hi j) else if 0 ≤ ea_lo i then iv_mk 0 (ea_hi i) else ea_any
theorem iv_in {lo hi : Int} {r : Int32} (h1 : lo ≤ r.toInt) (h2 : r.toInt ≤ hi) : ea_gi (iv_mk lo hi) r := by
  unfold iv_mk
  split
  · exact ea_mk_ok h1 h2
  · exact ea_any_ok _
theorem iv_andg_ok (i j : AI) (x y : Int32) (hx : ea_gi i x) (hy : ea_gi j y) : ea_gi (iv_andg i j) (x &&& y) := by
  have a := ea_bd hx
  have b := ea_bd hy
  unfold iv_andg
  split
  · rename_i h
    have q := iv_and_nn x y (by omega)
    exact iv_in q.1 (by omega)
  · split
    · rename_i h
      have q := iv_and_nn y x (by omega)
      rw [iv_and_comm]
      exact iv_in q.1 (by omega)
    · exact ea_any_ok _
