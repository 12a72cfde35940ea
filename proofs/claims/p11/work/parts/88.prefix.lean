/-! states compared -/
def aiq (a b : AI) : Bool := match a, b with
  | .inl x, .inl y => Nat.beq x.toUInt32.toNat y.toUInt32.toNat
  | .inr p, .inr q => decide (p.1 = q.1) && decide (p.2 = q.2)
  | _, _ => false
theorem aiq_ok {a b : AI} (h : aiq a b = true) : a = b := by
  match a, b, h with
  | .inl x, .inl y, h =>
    have e : x.toUInt32.toNat = y.toUInt32.toNat := Nat.eq_of_beq_eq_true h
    have e1 : x.toUInt32 = y.toUInt32 := UInt32.toNat_inj.mp e
    have e2 : x = y := by rw [← Int32.toInt32_toUInt32 x, e1, Int32.toInt32_toUInt32]
    rw [e2]
  | .inr (p1, p2), .inr (q1, q2), h =>
    have h' : (decide (p1 = q1) && decide (p2 = q2)) = true := h
    simp only [Bool.and_eq_true, decide_eq_true_eq] at h'
    rw [h'.1, h'.2]
def avq (a b : AV) : Bool := match a, b with
  | .inl a, .inl b => aiq a b
  | .inr (.inl none), .inr (.inl none) => true
  | .inr (.inl (some k)), .inr (.inl (some j)) => Nat.beq k j
  | .inr (.inr (.inl none)), .inr (.inr (.inl none)) => true
  | .inr (.inr (.inl (some x))), .inr (.inr (.inl (some y))) => Nat.beq x.toUInt64.toNat y.toUInt64.toNat
  | .inr (.inr (.inr (.inl true))), .inr (.inr (.inr (.inl true))) => true
  | .inr (.inr (.inr (.inl false))), .inr (.inr (.inr (.inl false))) => true
  | .inr (.inr (.inr (.inr p))), .inr (.inr (.inr (.inr q))) => Nat.beq p q
  | _, _ => false
theorem avq_ok {a b : AV} (h : avq a b = true) : a = b := by
  unfold avq at h
  split at h
  · rw [aiq_ok h]
  · rfl
  · rw [Nat.eq_of_beq_eq_true h]
  · rfl
  · rename_i x y
    have e : x.toUInt64.toNat = y.toUInt64.toNat := Nat.eq_of_beq_eq_true h
    have e2 : x.toUInt64 = y.toUInt64 := UInt64.toNat_inj.mp e
    have e3 : x = y := by rw [← Int64.toInt64_toUInt64 x, e2, Int64.toInt64_toUInt64]
    rw [e3]
  · rfl
  · rfl
  · rw [Nat.eq_of_beq_eq_true h]
  · cases h
def lsq {α : Type} (f : α → α → Bool) (l m : List α) : Bool := match l, m with
  | [], [] => true
  | a :: l, b :: m => f a b && lsq f l m
  | _, _ => false
theorem lsq_ok {α : Type} {f : α → α → Bool} (hf : ∀ a b, f a b = true → a = b) : ∀ {l m : List α}, lsq f l m = true → l = m
  | [], [], _ => rfl
  | a :: l, b :: m, h => by
    have h' : (f a b && lsq f l m) = true := h
    simp only [Bool.and_eq_true] at h'
    rw [hf a b h'.1, lsq_ok hf h'.2]
  | [], _ :: _, h => by cases h
  | _ :: _, [], h => by cases h
def npq (a b : Nat × AV) : Bool := Nat.beq a.1 b.1 && avq a.2 b.2
theorem npq_ok (a b : Nat × AV) (h : npq a b = true) : a = b := by
  obtain ⟨a1, a2⟩ := a
  obtain ⟨b1, b2⟩ := b
  have h' : (Nat.beq a1 b1 && avq a2 b2) = true := h
  simp only [Bool.and_eq_true] at h'
  rw [Nat.eq_of_beq_eq_true h'.1, avq_ok h'.2]
def acq (a b : AC) : Bool := match a, b with
  | .inl p, .inl q => Nat.beq p.1 q.1 && (Nat.beq p.2.1 q.2.1 && (avq p.2.2.1 q.2.2.1 && lsq npq p.2.2.2 q.2.2.2))
  | .inr p, .inr q => Nat.beq p.1 q.1 && lsq avq p.2 q.2
  | _, _ => false
theorem acq_ok (a b : AC) (h : acq a b = true) : a = b := by
  match a, b, h with
  | .inl (p1, p2, p3, p4), .inl (q1, q2, q3, q4), h =>
    have h' : (Nat.beq p1 q1 && (Nat.beq p2 q2 && (avq p3 q3 && lsq npq p4 q4))) = true := h
    simp only [Bool.and_eq_true] at h'
    rw [Nat.eq_of_beq_eq_true h'.1, Nat.eq_of_beq_eq_true h'.2.1, avq_ok h'.2.2.1, lsq_ok npq_ok h'.2.2.2]
  | .inr (p1, p2), .inr (q1, q2), h =>
    have h' : (Nat.beq p1 q1 && lsq avq p2 q2) = true := h
    simp only [Bool.and_eq_true] at h'
    rw [Nat.eq_of_beq_eq_true h'.1, lsq_ok (fun _ _ => avq_ok) h'.2]
def afq (a : Option AF) (b : AF) : Bool := match a with
  | some a => Nat.beq a.1 b.1 && (lsq npq a.2.1 b.2.1 && (lsq avq a.2.2.1 b.2.2.1 && (lsq acq a.2.2.2.1 b.2.2.2.1 && (Nat.beq a.2.2.2.2.1 b.2.2.2.2.1 && Nat.beq a.2.2.2.2.2 b.2.2.2.2.2))))
  | none => false
theorem afq_ok {a : Option AF} {b : AF} (h : afq a b = true) : a = some b := by
  match a, b, h with
  | some (a1, a2, a3, a4, a5, a6), (b1, b2, b3, b4, b5, b6), h =>
    have h' : (Nat.beq a1 b1 && (lsq npq a2 b2 && (lsq avq a3 b3 && (lsq acq a4 b4 && (Nat.beq a5 b5 && Nat.beq a6 b6))))) = true := h
    simp only [Bool.and_eq_true] at h'
    obtain ⟨h1, h2, h3, h4, h5, h6⟩ := h'
    rw [Nat.eq_of_beq_eq_true h1, lsq_ok npq_ok h2, lsq_ok (fun _ _ => avq_ok) h3, lsq_ok acq_ok h4, Nat.eq_of_beq_eq_true h5, Nat.eq_of_beq_eq_true h6]
def atq (a : Option (Nat × List (Nat × AV) × List AV)) (b : Nat × List (Nat × AV) × List AV) : Bool := match a with
  | some a => Nat.beq a.1 b.1 && (lsq npq a.2.1 b.2.1 && lsq avq a.2.2 b.2.2)
  | none => false
theorem atq_ok {a : Option (Nat × List (Nat × AV) × List AV)} {b : Nat × List (Nat × AV) × List AV} (h : atq a b = true) : a = some b := by
  match a, b, h with
  | some (a1, a2, a3), (b1, b2, b3), h =>
    have h' : (Nat.beq a1 b1 && (lsq npq a2 b2 && lsq avq a3 b3)) = true := h
    simp only [Bool.and_eq_true] at h'
    obtain ⟨h1, h2, h3⟩ := h'
    rw [Nat.eq_of_beq_eq_true h1, lsq_ok npq_ok h2, lsq_ok (fun _ _ => avq_ok) h3]
/-! the law up to its loop -/
def tz_L0 : List (Nat × AV) := [(0, .inr (.inr (.inr (.inl true))))]
set_option maxRecDepth 100000 in
theorem tz_pre0 : afq (ea_y (tb_P none) 100000 0 23 1000 0 tz_L0 [] [] 0 0) (23, tb_L, [], tb_C, 216, 22951) = true := by decide +kernel
theorem tz_pre : ea_y (tb_P none) 100000 0 23 1000 0 tz_L0 [] [] 0 0 = some (23, tb_L, [], tb_C, 216, 22951) := afq_ok tz_pre0
