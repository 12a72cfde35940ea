/-! THE LAW: a walk of its own method, where a branch on what is not known goes both ways -/
def ea_ir (q : Option (Instr × Nat)) : Bool := match q with
  | some (.ireturn, 1) => true
  | _ => false
theorem ea_ir_ok {q : Option (Instr × Nat)} (h : ea_ir q = true) : q = some (.ireturn, 1) := by
  unfold ea_ir at h
  split at h
  · rfl
  · cases h
/-- the law's end: 1 on the stack, within the room -/
def ea_e1 (K V : Nat) (S : List AV) (k w : Nat) : Bool := match S with
  | [.inl (.inl x)] => Nat.beq x.toUInt32.toNat 1 && (Nat.ble k K && Nat.ble w V)
  | _ => false
/-- a branch on what is not known -/
def ea_br (q : Option (Instr × Nat)) (pc : Nat) (S : List AV) : Option (Nat × List AV) := match q, S with
  | some (.ifCond _ off, 3), .inl _ :: T => match ea_to pc off with
    | some t => some (t, T)
    | none => none
  | _, _ => none
def ea_v (P : EP) (cc K V : Nat) (n : Nat) : Nat → List (Nat × AV) → List AV → List AC → Nat → Nat → Bool := Nat.rec (fun _ _ _ _ _ _ => false) (fun _ ih pc L S C k w =>
  bif ea_ir (ep_cod P 0 pc) then ea_e1 K V S k w else match ea_1 P (ea_x P cc) 0 pc L S C k w with
  | some (.inl (pc, L, S, C, k, w)) => ih pc L S C k w
  | some (.inr _) => false
  | none => match ea_br (ep_cod P 0 pc) pc S with
    | some (t, T) => ih t L T C k w && ih (pc + 3) L T C k w
    | none => false) n
/-- the script cut at hints, where the walk asks it -/
def ea_mk (lo hi : Int) : AI := if lo = hi then .inl (Int32.ofInt lo) else .inr (lo, hi)
def ea_bx (f : List AI → Bool) (hs : List (Nat × Int)) (X : List AI) : Bool := match hs with
  | [] => f X
  | q :: t => bif f X then true else match ea_nt X q.1 with
    | some i => bif decide (ea_lo i < q.2) && decide (q.2 ≤ ea_hi i) then ea_bx f t (X.set q.1 (ea_mk (ea_lo i) (q.2 - 1))) && ea_bx f t (X.set q.1 (ea_mk q.2 (ea_hi i))) else ea_bx f t X
    | none => false
/-- one case of the law: where it begins, and its hints -/
def ea_cs (P : List AI → EP) (cc K V n : Nat) (f : AF) (X : List AI) (q : Nat × List (Nat × Int)) : Bool := ea_bx (fun X => ea_v (P X) cc K V n q.1 f.2.1 [] f.2.2.2.1 f.2.2.2.2.1 f.2.2.2.2.2) q.2 X
def ea_law (P : List AI → EP) (cc K V n stop : Nat) (X : List AI) (qs : List (Nat × List (Nat × Int))) : Bool := match ea_y (P X) cc 0 stop n 0 [(0, .inr (.inr (.inr true)))] [] [] 0 0 with
  | some (pc, L, [.inl _], C, k, w) => ea_fL L fun L => ea_fL C fun C => qs.all (ea_cs P cc K V n (pc, L, [], C, k, w) X)
  | _ => false
