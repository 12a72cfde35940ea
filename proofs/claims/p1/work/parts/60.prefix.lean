/-! states compared -/
def aiq (a b : AI) : Bool := match a, b with
  | .inl x, .inl y => Nat.beq x.toUInt32.toNat y.toUInt32.toNat
  | .inr p, .inr q => decide (p.1 = q.1) && decide (p.2 = q.2)
  | _, _ => false
theorem aiq_ok {a b : AI} (h : aiq a b = true) : a = b := by
  match a, b, h with
  | .inl x, .inl y, h =>
    have e : x.toUInt32.toNat = y.toUInt32.toNat := Nat.eq_of_beq_eq_true h
    have e2 : x = y := by rw [← en_u x, e, en_u]
    rw [e2]
  | .inr (p1, p2), .inr (q1, q2), h =>
    have h' : (decide (p1 = q1) && decide (p2 = q2)) = true := h
    simp only [Bool.and_eq_true, decide_eq_true_eq] at h'
    rw [h'.1, h'.2]
def avq (a b : AV) : Bool := match a, b with
  | .inl a, .inl b => aiq a b
  | .inr (.inl none), .inr (.inl none) => true
  | .inr (.inl (some k)), .inr (.inl (some j)) => Nat.beq k j
  | .inr (.inr (.inl none)), .inr (.inr (.inl none)) => true
  | .inr (.inr (.inl (some x))), .inr (.inr (.inl (some y))) => Nat.beq x.toUInt64.toNat y.toUInt64.toNat
  | .inr (.inr (.inr true)), .inr (.inr (.inr true)) => true
  | .inr (.inr (.inr false)), .inr (.inr (.inr false)) => true
  | _, _ => false
theorem avq_ok {a b : AV} (h : avq a b = true) : a = b := by
  unfold avq at h
  split at h
  · rw [aiq_ok h]
  · rfl
  · rw [Nat.eq_of_beq_eq_true h]
  · rfl
  · rename_i x y
    have e : x.toUInt64.toNat = y.toUInt64.toNat := Nat.eq_of_beq_eq_true h
    have e2 : x.toUInt64 = y.toUInt64 := UInt64.toNat_inj.mp e
    have e3 : x = y := by rw [← Int64.toInt64_toUInt64 x, e2, Int64.toInt64_toUInt64]
    rw [e3]
  · rfl
  · rfl
  · cases h
def lsq {α : Type} (f : α → α → Bool) (l m : List α) : Bool := match l, m with
  | [], [] => true
  | a :: l, b :: m => f a b && lsq f l m
  | _, _ => false
theorem lsq_ok {α : Type} {f : α → α → Bool} (hf : ∀ a b, f a b = true → a = b) : ∀ {l m : List α}, lsq f l m = true → l = m
  | [], [], _ => rfl
  | a :: l, b :: m, h => by
    have h' : (f a b && lsq f l m) = true := h
    simp only [Bool.and_eq_true] at h'
    rw [hf a b h'.1, lsq_ok hf h'.2]
  | [], _ :: _, h => by cases h
  | _ :: _, [], h => by cases h
def npq (a b : Nat × AV) : Bool := Nat.beq a.1 b.1 && avq a.2 b.2
theorem npq_ok (a b : Nat × AV) (h : npq a b = true) : a = b := by
  obtain ⟨a1, a2⟩ := a
  obtain ⟨b1, b2⟩ := b
  have h' : (Nat.beq a1 b1 && avq a2 b2) = true := h
  simp only [Bool.and_eq_true] at h'
  rw [Nat.eq_of_beq_eq_true h'.1, avq_ok h'.2]
def acq (a b : AC) : Bool := match a, b with
  | .inl p, .inl q => Nat.beq p.1 q.1 && (Nat.beq p.2.1 q.2.1 && (avq p.2.2.1 q.2.2.1 && lsq npq p.2.2.2 q.2.2.2))
  | .inr p, .inr q => Nat.beq p.1 q.1 && lsq avq p.2 q.2
  | _, _ => false
theorem acq_ok (a b : AC) (h : acq a b = true) : a = b := by
  match a, b, h with
  | .inl (p1, p2, p3, p4), .inl (q1, q2, q3, q4), h =>
    have h' : (Nat.beq p1 q1 && (Nat.beq p2 q2 && (avq p3 q3 && lsq npq p4 q4))) = true := h
    simp only [Bool.and_eq_true] at h'
    rw [Nat.eq_of_beq_eq_true h'.1, Nat.eq_of_beq_eq_true h'.2.1, avq_ok h'.2.2.1, lsq_ok npq_ok h'.2.2.2]
  | .inr (p1, p2), .inr (q1, q2), h =>
    have h' : (Nat.beq p1 q1 && lsq avq p2 q2) = true := h
    simp only [Bool.and_eq_true] at h'
    rw [Nat.eq_of_beq_eq_true h'.1, lsq_ok (fun _ _ => avq_ok) h'.2]
def afq (a : Option AF) (b : AF) : Bool := match a with
  | some a => Nat.beq a.1 b.1 && (lsq npq a.2.1 b.2.1 && (lsq avq a.2.2.1 b.2.2.1 && (lsq acq a.2.2.2.1 b.2.2.2.1 && (Nat.beq a.2.2.2.2.1 b.2.2.2.2.1 && Nat.beq a.2.2.2.2.2 b.2.2.2.2.2))))
  | none => false
theorem afq_ok {a : Option AF} {b : AF} (h : afq a b = true) : a = some b := by
  match a, b, h with
  | some (a1, a2, a3, a4, a5, a6), (b1, b2, b3, b4, b5, b6), h =>
    have h' : (Nat.beq a1 b1 && (lsq npq a2 b2 && (lsq avq a3 b3 && (lsq acq a4 b4 && (Nat.beq a5 b5 && Nat.beq a6 b6))))) = true := h
    simp only [Bool.and_eq_true] at h'
    obtain ⟨h1, h2, h3, h4, h5, h6⟩ := h'
    rw [Nat.eq_of_beq_eq_true h1, lsq_ok npq_ok h2, lsq_ok (fun _ _ => avq_ok) h3, lsq_ok acq_ok h4, Nat.eq_of_beq_eq_true h5, Nat.eq_of_beq_eq_true h6]
def atq (a : Option (Nat × List (Nat × AV) × List AV)) (b : Nat × List (Nat × AV) × List AV) : Bool := match a with
  | some a => Nat.beq a.1 b.1 && (lsq npq a.2.1 b.2.1 && lsq avq a.2.2 b.2.2)
  | none => false
theorem atq_ok {a : Option (Nat × List (Nat × AV) × List AV)} {b : Nat × List (Nat × AV) × List AV} (h : atq a b = true) : a = some b := by
  match a, b, h with
  | some (a1, a2, a3), (b1, b2, b3), h =>
    have h' : (Nat.beq a1 b1 && (lsq npq a2 b2 && lsq avq a3 b3)) = true := h
    simp only [Bool.and_eq_true] at h'
    obtain ⟨h1, h2, h3⟩ := h'
    rw [Nat.eq_of_beq_eq_true h1, lsq_ok npq_ok h2, lsq_ok (fun _ _ => avq_ok) h3]
/-! the law up to its loop, up to its switch, and with scripts that are too short -/
def tz_L0 : List (Nat × AV) := [(0, .inr (.inr (.inr true)))]
set_option maxRecDepth 100000 in
theorem tz_pre0 : afq (ea_y (tb_P none) 100000 0 23 1000 0 tz_L0 [] [] 0 0) (23, tb_L, [], tb_C, 216, 22951) = true := by decide +kernel
theorem tz_pre : ea_y (tb_P none) 100000 0 23 1000 0 tz_L0 [] [] 0 0 = some (23, tb_L, [], tb_C, 216, 22951) := afq_ok tz_pre0
def tz_X (n : Nat) : List AI := List.replicate n ea_any
set_option maxRecDepth 100000 in
theorem tz_short : ∀ n, n < 6 → ea_v (tb_P (some (tz_X n))) (ea_R (tb_P (some (tz_X n))) 0) 600002 7302232 20 23 tb_L [] tb_C 216 22951 = true := by decide +kernel
set_option maxRecDepth 100000 in
theorem tz_400 : afq (ea_y (tb_P (some (tz_X 6))) 0 0 40 50 23 tb_L [] tb_C 216 22951) (40, tb_L, [.inl ea_any], tb_C, 216, 22951) = true := by decide +kernel
theorem tz_40 : ea_y (tb_P (some (tz_X 6))) 0 0 40 50 23 tb_L [] tb_C 216 22951 = some (40, tb_L, [.inl ea_any], tb_C, 216, 22951) := afq_ok tz_400
/-- where the switch goes -/
def tz_g (j : Nat) : Nat := 40 + ([204, 277, 302, 346, 390, 403, 471, 539, 594, 662, 742, 810, 866, 934, 990, 1046, 1102, 1115, 1128, 1184, 1240, 1253, 1309, 1365, 1433, 1501, 1569, 1653, 1709, 1765, 1821, 1863, 1919, 1932, 2016, 2084, 2164, 2232, 2316, 2329, 2385, 2398, 2466, 2491, 2504, 2515, 2528][j]?.getD 2553)
def tz_t (S : List AV) : Option (Nat × List (Nat × AV) × List AV) := match tb_cd 0 40 with
  | some (i, _, _) => ea_p i 40 (fp_nl 0) tb_L S
  | none => none
theorem tz_in0 : ∀ j, j < 47 → atq (tz_t [.inl (.inl (ea_n j))]) (tz_g j, tb_L, []) = true := by decide +kernel
theorem tz_in : ∀ j, j < 47 → tz_t [.inl (.inl (ea_n j))] = some (tz_g j, tb_L, []) := fun j h => atq_ok (tz_in0 j h)
theorem tz_lo : tz_t [.inl (.inr (-2147483648, -1))] = some (tz_g 47, tb_L, []) := atq_ok (by decide +kernel)
theorem tz_hi : tz_t [.inl (.inr (47, 2147483647))] = some (tz_g 47, tb_L, []) := atq_ok (by decide +kernel)
theorem tz_1 {Y : Option (List AI)} {cal : Nat → Nat → List (Nat × AV) → List AV → List AC → Nat → Nat → Option AR} {S : List AV} {pc' : Nat} {L' : List (Nat × AV)} {S' : List AV} {C : List AC} {k w : Nat} (h : tz_t S = some (pc', L', S')) : ea_1 (tb_P Y) cal 0 40 tb_L S C k w = some (.inl (pc', L', S', C, k, w)) := by
  unfold tz_t at h
  split at h
  · rename_i i nx tg hc
    exact ea1_p hc h
  · cases h
theorem tz_sw (v : Int32) : ∃ (i : AI) (j : Nat), j < 48 ∧ ea_gi i v ∧ tz_t [.inl i] = some (tz_g j, tb_L, []) := by
  have h1 := Int32.le_toInt v
  have h2 := Int32.toInt_lt v
  by_cases h3 : v.toInt < 0
  · exact ⟨.inr (-2147483648, -1), 47, by decide, ⟨h1, show v.toInt ≤ -1 by omega⟩, tz_lo⟩
  · by_cases h4 : 46 < v.toInt
    · exact ⟨.inr (47, 2147483647), 47, by decide, ⟨show 47 ≤ v.toInt by omega, show v.toInt ≤ 2147483647 by omega⟩, tz_hi⟩
    · refine ⟨.inl (ea_n v.toInt.toNat), v.toInt.toNat, by omega, ?_, tz_in _ (by omega)⟩
      show v = ea_n v.toInt.toNat
      apply Int32.toInt_inj.mp
      rw [en_toInt, Nat.mod_eq_of_lt (by omega), if_pos (by omega)]
      omega
