/-! WHAT A CLAUSE SAYS: the class's steps, the reference's steps -/
def lin (tm : Nat → Int32) (pl wh kn dy st : Int32) : Int32 := ((((tm (ni st)) + ((tm (ni (st + 1))) * pl)) + ((tm (ni (st + 2))) * dy)) + ((tm (ni (st + 3))) * wh)) + ((tm (ni (st + 4))) * kn)
def b32 (b : Bool) : Int32 := if b = true then 1 else 0
def cst (tm : Nat → Int32) (pl wh kn dy st t : Int32) : Int32 :=
  if st = -1 then sl t 1 ||| b32 (decide (rm dy 7 = 0))
  else if st = -2 then t ^^^ 1
  else if st = -3 then (sr t 1) &&& ((t &&& 1) ||| (-2))
  else if st = -4 then (sr t 1) ||| (t &&& 1)
  else if st < 0 then t
  else if 665 < st + 5 then t
  else sl t 1 ||| b32 (decide (0 < lin tm pl wh kn dy st))
def crun (sp tm : Nat → Int32) (pl wh kn dy : Int32) : Nat → Nat → Int32 → Int32
  | _, 0, t => t
  | i, n + 1, t => crun sp tm pl wh kn dy (i + 1) n (cst tm pl wh kn dy (sp i) t)
theorem crun_0 {sp tm : Nat → Int32} {pl wh kn dy t : Int32} {i : Nat} : crun sp tm pl wh kn dy i 0 t = t := rfl
theorem crun_s {sp tm : Nat → Int32} {pl wh kn dy t : Int32} {i n : Nat} : crun sp tm pl wh kn dy i (n + 1) t = crun sp tm pl wh kn dy (i + 1) n (cst tm pl wh kn dy (sp i) t) := rfl
def cfrom (M : MM) (a k : Nat) : Nat := if k = 0 then 0 else ni (M.1 (a + 2) (k - 1))
def cT (M : MM) (a k : Nat) (pl wh kn dy : Int32) : Bool := decide ((crun (M.1 (a + 3)) (M.1 (a + 4)) pl wh kn dy (cfrom M a k) (ni (M.1 (a + 2) k) - cfrom M a k) 1) &&& 1 = 1)
theorem b32_1 : b32 true = 1 := rfl
theorem b32_0 : b32 false = 0 := rfl
theorem ni_lt {x y : Int32} (hx : 0 ≤ x.toInt) : x < y ↔ ni x < ni y := by
  rw [Int32.lt_iff_toInt_lt]
  unfold ni
  omega
theorem ni_ge (x : Int32) : ni x < 2147483648 := by
  have := Int32.toInt_lt x
  unfold ni
  omega
theorem i32_ni {x : Int32} (h : 0 ≤ x.toInt) : x = i32 (ni x) := i32_of (by unfold ni; omega)
theorem i32_0 : (0 : Int32) = i32 0 := rfl
theorem sp_holds {a k N : Nat} {M : MM} {pl wh kn dy : Int32} {Q : Int32 → Prop} (hk : k < 12) (he : ∀ j, j < k → 0 ≤ (M.1 (a + 2) j).toInt) (hQ : Q (b32 (cT M a k pl wh kn dy))) : W_Law_holds a (i32 k) pl wh kn dy N M Q := by
  have key : ∀ j0, j0 < 2147483648 → crun (M.1 (a + 3)) (M.1 (a + 4)) pl wh kn dy j0 (ni (M.1 (a + 2) k) - j0) 1 = crun (M.1 (a + 3)) (M.1 (a + 4)) pl wh kn dy (cfrom M a k) (ni (M.1 (a + 2) k) - cfrom M a k) 1 → W_Law_holds_25 a (i32 k) pl wh kn dy M Q N 1 (i32 j0) := by
    intro j0 hj0 e0
    have hb := ni_ge (M.1 (a + 2) k)
    refine I_Law_holds_25 a _ _ _ _ _ M Q (fun t v => ∃ j, j < 2147483648 ∧ v = i32 j ∧ crun (M.1 (a + 3)) (M.1 (a + 4)) pl wh kn dy j (ni (M.1 (a + 2) k) - j) t = crun (M.1 (a + 3)) (M.1 (a + 4)) pl wh kn dy (cfrom M a k) (ni (M.1 (a + 2) k) - cfrom M a k) 1) (fun N ih t v hih hv => ?_) N _ _ ⟨j0, hj0, rfl, e0⟩
    obtain ⟨j, hj, rfl, e⟩ := hv
    unfold B_Law_holds_25
    rw [ni_i (show k < 2147483648 by omega), ni_i hj]
    refine ⟨fun hlt => ?_, fun hlt => ?_⟩
    · rw [ni_lt (by rw [i32_i hj]; omega), ni_i hj] at hlt
      have e1 : ni (M.1 (a + 2) k) - j = (ni (M.1 (a + 2) k) - (j + 1)) + 1 := by omega
      rw [e1, crun_s] at e
      have nx : ∀ t', cst (M.1 (a + 4)) pl wh kn dy (M.1 (a + 3) j) t = t' → ih t' (i32 j + 1) := fun t' ht => hih _ _ ⟨j + 1, by omega, i32_s j, by rw [← ht]; exact e⟩
      unfold cst at nx
      refine ⟨fun h1 => ?_, fun h1 => ⟨fun h2 => ?_, fun h2 => ⟨fun h3 => ?_, fun h3 => ⟨fun h4 => ?_, fun h4 => ⟨fun h5 => ?_, fun h5 => ⟨fun h6 => ?_, fun h6 => ?_⟩⟩⟩⟩⟩⟩
      · simp only [h1, if_true] at nx
        refine ⟨fun h7 => nx _ ?_, fun h7 => nx _ ?_⟩
        · rw [decide_eq_true h7]; rfl
        · rw [decide_eq_false h7]; rfl
      · simp only [h1, h2, if_true, if_false] at nx
        exact nx _ rfl
      · simp only [h1, h2, h3, if_true, if_false] at nx
        exact nx _ rfl
      · simp only [h1, h2, h3, h4, if_true, if_false] at nx
        exact nx _ rfl
      · simp only [h1, h2, h3, h4, h5, if_true, if_false] at nx
        exact nx _ rfl
      · simp only [h1, h2, h3, h4, h5, h6, if_true, if_false] at nx
        exact nx _ rfl
      · simp only [h1, h2, h3, h4, h5, h6, if_true, if_false] at nx
        refine ⟨fun h7 => nx _ ?_, fun h7 => nx _ ?_⟩
        · rw [show decide (0 < lin (M.1 (a + 4)) pl wh kn dy (M.1 (a + 3) j)) = true from decide_eq_true h7]; rfl
        · rw [show decide (0 < lin (M.1 (a + 4)) pl wh kn dy (M.1 (a + 3) j)) = false from decide_eq_false h7]; rfl
    · rw [ni_lt (by rw [i32_i hj]; omega), ni_i hj] at hlt
      have e1 : ni (M.1 (a + 2) k) - j = 0 := by omega
      rw [e1, crun_0] at e
      unfold cT at hQ
      rw [← e] at hQ
      refine ⟨fun h1 => ?_, fun h1 => ?_⟩
      · rw [decide_eq_true h1] at hQ; exact hQ
      · rw [decide_eq_false h1] at hQ; exact hQ
  unfold W_Law_holds
  refine ⟨fun h => ?_, fun h => ?_⟩
  · refine key 0 (by omega) ?_
    have : k = 0 := (i32_inj (by omega) (by omega)).mp (h.trans i32_0)
    subst this
    rfl
  · have hk0 : k ≠ 0 := fun e => h (by rw [e]; rfl)
    obtain ⟨k', rfl⟩ : ∃ k', k = k' + 1 := ⟨k - 1, by omega⟩
    have e1 : i32 (k' + 1) - 1 = i32 k' := by
      rw [← i32_s]
      exact Int32.add_sub_cancel _ _
    rw [e1, ni_i (by omega), i32_ni (he k' (by omega))]
    refine key _ (ni_ge _) ?_
    unfold cfrom
    rw [if_neg hk0]
    rfl
/-- what the class's law tells: how many clauses; of each: does it demand, the deed, the truth -/
abbrev LWT : Type := Nat × (Nat → Int32) × (Nat → Int32) × (Nat → Int32 → Int32 → Int32 → Int32 → Bool)
def rng (pl wh kn dy : Int32) : Prop := (0 ≤ pl.toInt ∧ pl.toInt < 8) ∧ (0 ≤ wh.toInt ∧ wh.toInt < 10) ∧ (0 ≤ kn.toInt ∧ kn.toInt ≤ 64) ∧ (0 ≤ dy.toInt ∧ dy.toInt ≤ 30000)
def LawC (M : MM) (a : Nat) (L : LWT) : Prop := M.1 a 1 = i32 L.1 ∧ L.1 ≤ 12 ∧ (∀ j, j < L.1 → 0 ≤ (M.1 (a + 2) j).toInt) ∧ ∀ k, k < L.1 → (sr (M.1 a 2) (i32 k) &&& 1) = L.2.1 k ∧ M.1 (a + 1) k = L.2.2.1 k ∧ ∀ pl wh kn dy, rng pl wh kn dy → cT M a k pl wh kn dy = L.2.2.2 k pl wh kn dy
/-- the clauses that bear so -/
def bear (L : LWT) (dem m wh kn dy : Int32) (k : Nat) : Bool := decide (L.2.2.1 k = m / 8) && (decide (L.2.1 k = dem) && L.2.2.2 k (rm m 8) wh kn dy)
theorem bs_s {P : Nat → Bool} {n : Nat} : bs P (n + 1) = if P n = true then bs P n ||| sl 1 (i32 n) else bs P n := rfl
theorem sp_bearing {a N : Nat} {M : MM} {L : LWT} {d m wh kn dy : Int32} {Q : Int32 → Prop} (hL : LawC M a L) (hd : d = 0 ∨ d = 1) (hr : rng (rm m 8) wh kn dy) (hQ : Q (bs (bear L d m wh kn dy) L.1)) : W_Law_bearing a d m wh kn dy N M Q := by
  obtain ⟨l1, l2, l3, l4⟩ := hL
  have key : W_Law_bearing_23 a d m wh kn dy (m / 8) d M Q N 0 (i32 0) := by
    refine I_Law_bearing_23 a _ _ _ _ _ _ _ M Q (fun acc v => ∃ j, j ≤ L.1 ∧ v = i32 j ∧ acc = bs (bear L d m wh kn dy) j) (fun N ih acc v hih hv => ?_) N _ _ ⟨0, by omega, rfl, rfl⟩
    obtain ⟨j, hj, rfl, rfl⟩ := hv
    unfold B_Law_bearing_23
    rw [l1, i32_lt (by omega) (by omega), ni_i (by omega)]
    refine ⟨fun hlt => ?_, fun hlt => ?_⟩
    · obtain ⟨m1, m2, m3⟩ := l4 j hlt
      have nx : ih (bs (bear L d m wh kn dy) (j + 1)) (i32 j + 1) := hih _ _ ⟨j + 1, by omega, i32_s j, rfl⟩
      rw [bs_s] at nx
      unfold bear at nx
      rw [m2]
      unfold V_E_bit
      rw [m1]
      refine ⟨fun h1 => ⟨fun h2 => ?_, fun h2 => ?_⟩, fun h1 => ?_⟩
      · refine sp_holds (by omega) (fun j2 hj2 => l3 j2 (by omega)) ?_
        rw [m3 _ _ _ _ hr]
        simp only [h1, h2, decide_true, Bool.true_and] at nx
        cases hT : L.2.2.2 j (rm m 8) wh kn dy with
        | true =>
          rw [hT] at nx
          simp only [if_true] at nx
          exact ⟨fun h => absurd h (by decide), fun _ => nx⟩
        | false =>
          rw [hT] at nx
          simp only [Bool.false_eq_true, if_false] at nx
          exact ⟨fun _ => nx, fun h => absurd rfl h⟩
      · simp only [h2, decide_false, Bool.false_and, Bool.and_false, Bool.false_eq_true, if_false] at nx
        exact nx
      · simp only [h1, decide_false, Bool.false_and, Bool.false_eq_true, if_false] at nx
        exact nx
    · obtain rfl : j = L.1 := by omega
      exact hQ
  unfold W_Law_bearing
  rcases hd with rfl | rfl
  · exact ⟨fun _ => key, fun h => absurd rfl h⟩
  · exact ⟨fun h => absurd h (by decide), fun _ => key⟩
/-! the reference's steps: a stack of values -/
abbrev RV : Type := Int32 × (Nat → Int32)
def up1 (f : Nat → Int32) (k : Nat) (x : Int32) : Nat → Int32 := fun j => if j = k then x else f j
def rfact (op n pl wh kn dy : Int32) : Int32 := if op = 0 then pl else if op = 1 then dy else if op = 2 then wh else if op = 3 then kn else if op = 4 then (if rm dy 7 = 0 then 1 else 0) else n
def rop (op x y : Int32) : Int32 := if op = 6 then x + y else b32 (if op = 7 then decide (x < y) else if op = 8 then decide (y < x) else if op = 10 then decide (x + y = 2) else decide (0 < x + y))
def rst (pl wh kn dy op n : Int32) (v : RV) : RV :=
  if 5 < op then
    (if op = 9 then (v.1, up1 v.2 (ni (v.1 - 1)) (1 - v.2 (ni (v.1 - 1))))
     else (v.1 + (-1), up1 v.2 (ni ((v.1 + (-1)) - 1)) (rop op (v.2 (ni ((v.1 + (-1)) - 1))) (v.2 (ni (v.1 + (-1)))))))
  else (v.1 + 1, up1 v.2 (ni v.1) (rfact op n pl wh kn dy))
def rrun (td : Nat → Int32) (pl wh kn dy : Int32) : Nat → Nat → RV → RV
  | _, 0, v => v
  | i, n + 1, v => rrun td pl wh kn dy (i + 1) n (rst pl wh kn dy (td (2 * i)) (td (2 * i + 1)) v)
def rfin (v : RV) : Bool := decide (v.1 = 0) || decide (v.2 0 = 1)
def rT (M : MM) (k : Nat) (pl wh kn dy : Int32) (val : Nat → Int32) : Bool := rfin (rrun (M.1 202) pl wh kn dy (ni (M.1 201 (4 * k + 2))) (ni (M.1 201 (4 * k + 3)) - ni (M.1 201 (4 * k + 2))) (0, val))
def svM (M : MM) (val : Nat → Int32) : MM := (fun c j => if c = 207 then val j else M.1 c j, M.2)
theorem svM_n {M : MM} {val : Nat → Int32} {c j : Nat} (h : c ≠ 207) : (svM M val).1 c j = M.1 c j := if_neg h
theorem svM_e {M : MM} {val : Nat → Int32} {j : Nat} : (svM M val).1 207 j = val j := by
  show (if (207 : Nat) = 207 then val j else M.1 207 j) = val j
  exact if_pos rfl
theorem svM_2 {M : MM} {val : Nat → Int32} : (svM M val).2 = M.2 := rfl
theorem svM_w {M : MM} {val : Nat → Int32} {k : Nat} {x : Int32} : wi (svM M val) 207 k x = svM M (up1 val k x) := by
  unfold wi svM
  congr 1
  funext c j
  unfold up up1
  by_cases hc : c = 207
  · subst hc
    by_cases hj : j = k
    · simp [hj]
    · simp [hj]
  · simp [hc]
theorem svM_s {M : MM} {v v' : Nat → Int32} : svM (svM M v) v' = svM M v' := by
  unfold svM
  congr 1
  funext c j
  by_cases hc : c = 207 <;> simp [hc]
theorem svM_id {M : MM} : svM M (M.1 207) = M := by
  unfold svM
  have : (fun c j => if c = 207 then M.1 207 j else M.1 c j) = M.1 := by
    funext c j
    by_cases hc : c = 207
    · subst hc; simp
    · simp [hc]
  rw [this]
def LawR (M : MM) (L : LWT) : Prop := L.1 ≤ 12 ∧ ∀ k, k < L.1 → (if M.1 201 (4 * k) = 1 then (1 : Int32) else 0) = L.2.1 k ∧ M.1 201 (4 * k + 1) = L.2.2.1 k ∧ 0 ≤ (M.1 201 (4 * k + 2)).toInt ∧ ni (M.1 201 (4 * k + 3)) ≤ 400 ∧ ∀ pl wh kn dy val, rng pl wh kn dy → rT M k pl wh kn dy val = L.2.2.2 k pl wh kn dy
