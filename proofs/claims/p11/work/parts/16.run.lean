/-! THE ABSTRACT MACHINE, its run -/
def ea_ar (i : Nat) (as : List AV) : List (Nat × AV) := match as with
  | [] => []
  | a :: t => (i, a) :: ea_ar (if ea_cat a = 2 then i + 2 else i + 1) t
/-- evaluated first -/
def ea_fn {α : Type} (n : Nat) (k : Nat → α) : α := match n with
  | 0 => k 0
  | m + 1 => k (m + 1)
theorem ea_fn_eq {α : Type} (n : Nat) (k : Nat → α) : ea_fn n k = k n := by cases n <;> rfl
def ea_fi {α : Type} (x : Int32) (k : Int32 → α) : α := ea_fn x.toUInt32.toNat (fun n => k (UInt32.ofNat n).toInt32)
theorem ea_fi_eq {α : Type} (x : Int32) (k : Int32 → α) : ea_fi x k = k x := by
  rw [ea_fi, ea_fn_eq]
  congr 1
  simp
def ea_fL {α β : Type} (l : List α) (k : List α → β) : β := match l with
  | [] => k []
  | a :: t => ea_fL t (fun t => k (a :: t))
theorem ea_fL_eq {α β : Type} : ∀ (l : List α) (k : List α → β), ea_fL l k = k l
  | [], k => rfl
  | a :: t, k => by rw [ea_fL, ea_fL_eq t]
def ea_fS {β : Type} (S : List AV) (k : List AV → β) : β := match S with
  | .inl (.inl x) :: t => ea_fi x (fun x => k (.inl (.inl x) :: t))
  | S => k S
theorem ea_fS_eq {β : Type} (S : List AV) (k : List AV → β) : ea_fS S k = k S := by
  unfold ea_fS
  split
  · rw [ea_fi_eq]
  · rfl
/-- what a run gives: a value, nothing, or an exception (by its class); the cells; how many cells and slots were made -/
abbrev AR : Type := (Option AV ⊕ Nat) × List AC × Nat × Nat
/-- A PROGRAM, its methods by numbers: its instructions; its class's pool (1, 13: a static method: number, how many arguments; 2: a method of an object; 3, 15: a constructor; 4: Object's; 9: System.arraycopy; 8: a String; 11: the class of an exception to be made; 12: its constructor); the kinds of fields; is it a constructor; its locals; what it gives (0 nothing, 1 int, 2 long, 3 boolean); how deep it calls; its class's number; its handlers (from, to, where, the class, its pool entry); which exception is one of which class; the script -/
abbrev EP : Type := (Nat → Nat → Option (Instr × Nat)) × (Nat → Nat → Option (Nat × Nat × Nat)) × (Nat → Nat → Nat) × (Nat → Bool) × (Nat → Nat) × (Nat → Nat) × (Nat → Nat) × (Nat → Nat) × (Nat → List (Nat × Nat × Nat × Nat × Nat)) × (Nat → Nat → Bool) × (Nat → Option (List AI))
abbrev ep_cod (P : EP) : Nat → Nat → Option (Instr × Nat) := P.1
abbrev ep_pl (P : EP) : Nat → Nat → Option (Nat × Nat × Nat) := P.2.1
abbrev ep_fty (P : EP) : Nat → Nat → Nat := P.2.2.1
abbrev ep_ini (P : EP) : Nat → Bool := P.2.2.2.1
abbrev ep_nls (P : EP) : Nat → Nat := P.2.2.2.2.1
abbrev ep_rtp (P : EP) : Nat → Nat := P.2.2.2.2.2.1
abbrev ep_dep (P : EP) : Nat → Nat := P.2.2.2.2.2.2.1
abbrev ep_own (P : EP) : Nat → Nat := P.2.2.2.2.2.2.2.1
abbrev ep_hdl (P : EP) : Nat → List (Nat × Nat × Nat × Nat × Nat) := P.2.2.2.2.2.2.2.2.1
abbrev ep_sub (P : EP) : Nat → Nat → Bool := P.2.2.2.2.2.2.2.2.2.1
abbrev ep_scr (P : EP) : Nat → Option (List AI) := P.2.2.2.2.2.2.2.2.2.2
/-- the handler that takes an exception of the class ce at pc -/
def ea_hd (sub : Nat → Nat → Bool) (ce pc : Nat) (hs : List (Nat × Nat × Nat × Nat × Nat)) : Option Nat := match hs with
  | [] => none
  | q :: t => bif Nat.ble q.1 pc && (Nat.blt pc q.2.1 && sub ce q.2.2.2.1) then some q.2.2.1 else ea_hd sub ce pc t
/-- the end of a method -/
def ea_rt (r : Nat) (i : Instr) (S : List AV) : Option (Option AV) := match i, S with
  | .ireturn, [a] => match r with
    | 1 => bif ea_fit 0 a then some (some a) else none
    | 3 => bif ea_fit 2 a then some (some a) else none
    | 4 => match a with
      | .inl (.inl x) => if x.toUInt32.toUInt16.toUInt32.toInt32 = x then some (some (.inl (.inl x))) else none
      | _ => none
    | 5 => match a with
      | .inl (.inl x) => if x.toInt8.toInt32 = x then some (some (.inl (.inl x))) else none
      | _ => none
    | _ => none
  | .lreturn, [a] => match r with
    | 2 => bif ea_fit 1 a then some (some a) else none
    | _ => none
  | .return_, [] => match r with
    | 0 => some none
    | _ => none
  | _, _ => none
/-- which call it is: the method's number, its arguments (the object first), what stays on the stack; may it throw -/
def ea_cl (own : Nat → Nat) (i : Instr) (r : Option (Nat × Nat × Nat)) (S : List AV) (C : List AC) : Option (Nat × List AV × List AV × Bool) := match i, r with
  | .invokestatic _, some (1, mj, n) => bif Nat.ble n S.length then some (mj, (S.take n).reverse, S.drop n, true) else none
  | .invokestatic _, some (13, mj, n) => bif Nat.ble n S.length then some (mj, (S.take n).reverse, S.drop n, false) else none
  | .invokespecial _, some (3, mj, n) => match S.drop n with
    | .inr (.inl (some a)) :: T => some (mj, .inr (.inl (some a)) :: (S.take n).reverse, T, false)
    | _ => none
  | .invokespecial _, some (15, mj, n) => match S.drop n with
    | .inr (.inl (some a)) :: T => some (mj, .inr (.inl (some a)) :: (S.take n).reverse, T, false)
    | _ => none
  | .invokevirtual _, some (2, mj, n) => match S.drop n with
    | .inr (.inl (some a)) :: T => match ea_nt C a with
      | some (.inr o) => bif Nat.beq o.1 (own mj) then some (mj, .inr (.inl (some a)) :: (S.take n).reverse, T, true) else none
      | _ => none
    | _ => none
  | .invokevirtual _, some (26, mj, n) => match S.drop n with
    | .inr (.inr (.inr (.inr (q + 1)))) :: T => bif Nat.beq ((q + 1) % 2) 0 then some (mj, .inr (.inr (.inr (.inr (q + 1)))) :: (S.take n).reverse, T, true) else none
    | _ => none
  | _, _ => none
def ea_wt (S : List AV) : Nat := match S with
  | [] => 0
  | a :: t => ea_cat a + ea_wt t
/-- Object's constructor: what stays -/
def ea_oi (r : Option (Nat × Nat × Nat)) (S : List AV) : Option (List AV) := match r, S with
  | some (4, _), .inr (.inl (some _)) :: T => some T
  | _, _ => none
theorem ea_oi_ok {r : Option (Nat × Nat × Nat)} {S T : List AV} (h : ea_oi r S = some T) : ∃ u a, r = some (4, u) ∧ S = .inr (.inl (some a)) :: T := by
  unfold ea_oi at h
  split at h
  · cases h; exact ⟨_, _, rfl, rfl⟩
  · cases h
/-- Math.max, Math.min -/
def ea_mx (S : List AV) : Option (List AV) := match S with
  | .inl b :: .inl a :: T => some (.inl (ea_i2 (fun x y => if x < y then y else x) a b) :: T)
  | _ => none
def ea_mn (S : List AV) : Option (List AV) := match S with
  | .inl b :: .inl a :: T => some (.inl (ea_i2 (fun x y => if y < x then y else x) a b) :: T)
  | _ => none
def ea_mm (r : Option (Nat × Nat × Nat)) (S : List AV) : Option (List AV) := match r with
  | some (16, _) => ea_mx S
  | some (17, _) => ea_mn S
  | _ => none
def ea_is9 (r : Option (Nat × Nat × Nat)) : Bool := match r with
  | some (9, _) => true
  | _ => false
theorem ea_is9_ok {r : Option (Nat × Nat × Nat)} (h : ea_is9 r = true) : ∃ u, r = some (9, u) := by
  unfold ea_is9 at h
  split at h
  · exact ⟨_, rfl⟩
  · cases h
/-- System.arraycopy of a whole array onto one of its kind and length -/
def ea_cy (S : List AV) (C : List AC) : Option (List AV × List AC) := match S with
  | .inl (.inl n) :: .inl (.inl dp) :: .inr (.inl (some b)) :: .inl (.inl sp) :: .inr (.inl (some a)) :: T => match ea_nt C a, ea_nt C b with
    | some (.inl (t, n0, d, us)), some (.inl (t1, n1, _, _)) => if t = t1 ∧ t < 2 ∧ n0 = n1 ∧ n0 < 2147483648 ∧ n = Int32.ofNat n0 ∧ sp = 0 ∧ dp = 0 ∧ ea_wt T ≤ 8 then some (T, C.set b (.inl (t, n0, d, us))) else none
    | _, _ => none
  | _ => none
/-- 'throw new X("..")' from its first instruction on, the constructor a further, athrow b further: the class -/
def ea_t2 (P : EP) (m pc y a b : Nat) : Option Nat := match ep_cod P m pc, ep_cod P m (pc + 3), ep_cod P m (pc + a), ep_cod P m (pc + b) with
  | some (.new x, 3), some (.dup, 1), some (.invokespecial z, 3), some (.athrow, 1) => match ep_pl P m x, ep_pl P m y, ep_pl P m z with
    | some (11, ce, _), some (8, _, _), some (12, ce', _) => bif Nat.beq ce ce' && Nat.ble 9 (ep_dep P m) then match ep_hdl P m with
        | [] => some ce
        | _ => none
      else none
    | _, _, _ => none
  | _, _, _, _ => none
def ea_tw (P : EP) (m pc : Nat) : Option Nat := match ep_cod P m (pc + 4) with
  | some (.ldc y, 2) => ea_t2 P m pc y 6 9
  | some (.ldc_w y, 3) => ea_t2 P m pc y 7 10
  | _ => none
/-- a point of a method: where, locals, stack, cells, how many cells and slots were made -/
abbrev AF : Type := Nat × List (Nat × AV) × List AV × List AC × Nat × Nat
/-- a call -/
def ea_q (P : EP) (cal : Nat → Nat → List (Nat × AV) → List AV → List AC → Nat → Nat → Option AR) (m pc : Nat) (L : List (Nat × AV)) (S : List AV) (C : List AC) (k w : Nat) (i : Instr) (r : Option (Nat × Nat × Nat)) : Option (AF ⊕ AR) :=
  match ea_cl (ep_own P) i r S C with
  | some (mj, as, T, b) =>
    bif Nat.blt (ep_dep P mj) (ep_dep P m) && (Nat.ble (ea_wt T) 8 && Nat.ble (ea_wt as) (ep_nls P mj)) then
      match cal mj 0 (ea_ar 0 as) [] C 0 0 with
      | some (.inl v, C, dk, dw) => ea_fn (pc + 3) fun pc => ea_fn (k + dk) fun k => ea_fn (w + dw) fun w => some (.inl (pc, L, v.toList ++ T, C, k, w))
      | some (.inr ce, C, dk, dw) => bif b then ea_fn (k + dk) fun k => ea_fn (w + dw) fun w => match ea_hd (ep_sub P) ce pc (ep_hdl P m) with
          | some h => some (.inl (h, L, [.inr (.inr (.inr (.inl false)))], C, k, w))
          | none => some (.inr (.inr ce, C, k, w))
        else none
      | none => none
    else none
  | none => none
/-- one instruction -/
def ea_1 (P : EP) (cal : Nat → Nat → List (Nat × AV) → List AV → List AC → Nat → Nat → Option AR) (m pc : Nat) (L : List (Nat × AV)) (S : List AV) (C : List AC) (k w : Nat) : Option (AF ⊕ AR) :=
  match ep_cod P m pc with
  | none => none
  | some (i, len) =>
    bif Nat.beq (ea_len i) 0 || Nat.beq (ea_len i) len then
      match ea_p i pc (ep_nls P m) L S with
      | some (pc, L, S) => ea_fn pc fun pc => ea_fL L fun L => ea_fS S fun S => some (.inl (pc, L, S, C, k, w))
      | none =>
        match ea_h (ep_ini P m) (ep_pl P m) (ep_fty P) (ep_scr P m) i pc S C with
        | some (pc, S, C', dk, dw) => ea_fn pc fun pc => ea_fS S fun S => ea_fn (k + dk) fun k => ea_fn (w + dw) fun w => match C' with
          | none => some (.inl (pc, L, S, C, k, w))
          | some C' => ea_fL C' fun C' => some (.inl (pc, L, S, C', k, w))
        | none =>
          match ea_rt (ep_rtp P m) i S with
          | some v => some (.inr (.inl v, C, k, w))
          | none =>
            match i with
            | .invokespecial x => match ea_oi (ep_pl P m x) S with
              | some T => bif Nat.ble (ea_wt T) 8 && Nat.ble 1 (ep_dep P m) then ea_fn (pc + 3) fun pc => some (.inl (pc, L, T, C, k, w)) else none
              | none => ea_q P cal m pc L S C k w (.invokespecial x) (ep_pl P m x)
            | .invokestatic x => match ea_mm (ep_pl P m x) S with
              | some T => bif Nat.ble (ea_wt T) 80 && Nat.ble 1 (ep_dep P m) then ea_fn (pc + 3) fun pc => ea_fS T fun T => some (.inl (pc, L, T, C, k, w)) else none
              | none => bif ea_is9 (ep_pl P m x) then match ea_cy S C with
                | some (T, C) => bif Nat.ble 1 (ep_dep P m) then ea_fn (pc + 3) fun pc => ea_fL C fun C => some (.inl (pc, L, T, C, k, w)) else none
                | none => none
              else ea_q P cal m pc L S C k w (.invokestatic x) (ep_pl P m x)
            | .invokevirtual x => ea_q P cal m pc L S C k w (.invokevirtual x) (ep_pl P m x)
            | .new _ => bif Nat.ble (ea_wt S) 100 then match ea_tw P m pc with
                | some ce => some (.inr (.inr ce, C, k + 1, w + 6))
                | none => none
              else none
            | _ => none
    else none
def ea_b (P : EP) (ih : Nat → Nat → List (Nat × AV) → List AV → List AC → Nat → Nat → Option AR) (m pc : Nat) (L : List (Nat × AV)) (S : List AV) (C : List AC) (k w : Nat) : Option AR := match ea_1 P ih m pc L S C k w with
  | some (.inl (pc, L, S, C, k, w)) => ih m pc L S C k w
  | some (.inr r) => some r
  | none => none
/-- a run to the end -/
def ea_x (P : EP) (n : Nat) : Nat → Nat → List (Nat × AV) → List AV → List AC → Nat → Nat → Option AR := Nat.rec (fun _ _ _ _ _ _ _ => none) (fun _ ih => ea_b P ih) n
/-- a run of the method m up to the place stop -/
def ea_y (P : EP) (c m stop : Nat) (n : Nat) : Nat → List (Nat × AV) → List AV → List AC → Nat → Nat → Option AF := Nat.rec (fun _ _ _ _ _ _ => none) (fun _ ih pc L S C k w => bif Nat.beq pc stop then some (pc, L, S, C, k, w) else match ea_1 P (ea_x P c) m pc L S C k w with
  | some (.inl (pc, L, S, C, k, w)) => ih pc L S C k w
  | _ => none) n
