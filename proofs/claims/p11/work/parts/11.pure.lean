/-! THE ABSTRACT MACHINE, its instructions that touch no cell -/
def ea_lk (L : List (Nat × AV)) (i : Nat) : Option AV := match L with
  | [] => none
  | q :: t => bif Nat.beq q.1 i then some q.2 else ea_lk t i
def ea_s1 (L : List (Nat × AV)) (i : Nat) (a : AV) : List (Nat × AV) := (i, a) :: L.filter (fun q => !(q.1 == i) && !(q.1 + 1 == i && ea_cat q.2 == 2))
def ea_s2 (L : List (Nat × AV)) (i : Nat) (a : AV) : List (Nat × AV) := (i, a) :: L.filter (fun q => !(q.1 == i) && (!(q.1 == i + 1) && !(q.1 + 1 == i && ea_cat q.2 == 2)))
/-- a place of the locals, and its value -/
def ea_lr (ad : SB × List Nat) (p : Nat × AV) (q : Nat × Value) : Prop := p.1 = q.1 ∧ ea_gv ad p.2 q.2
/-- the locals -/
def ea_L (ad : SB × List Nat) (nL : Nat) (L : List (Nat × AV)) (ls : Array Slot) : Prop := ∃ vl : List (Nat × Value), ea_rl (ea_lr ad) L vl ∧ lv_has ls nL vl
theorem ea_lk_mem : ∀ {L : List (Nat × AV)} {i : Nat} {a : AV}, ea_lk L i = some a → ∃ k : Nat, L[k]? = some (i, a)
  | [], i, a, h => by cases h
  | q :: t, i, a, h => by
    unfold ea_lk at h
    cases hb : Nat.beq q.1 i with
    | true =>
      rw [hb] at h
      cases h
      have e : q.1 = i := Nat.eq_of_beq_eq_true hb
      subst e
      exact ⟨0, rfl⟩
    | false =>
      rw [hb] at h
      obtain ⟨k, hk⟩ := ea_lk_mem (L := t) h
      exact ⟨k + 1, by simpa using hk⟩
theorem ea_L_at {ad : SB × List Nat} {nL : Nat} {L : List (Nat × AV)} {ls : Array Slot} (h : ea_L ad nL L ls) {i : Nat} {a : AV} (hk : ea_lk L i = some a) : ∃ v, ls[i]? = some (.val v) ∧ ea_gv ad a v := by
  obtain ⟨vl, h1, h2⟩ := h
  obtain ⟨k, hk⟩ := ea_lk_mem hk
  obtain ⟨⟨i', v⟩, h3, h4, h5⟩ := ea_rl_get h1 hk
  dsimp only at h4 h5
  subst h4
  exact ⟨v, lv_at h2 k h3, h5⟩
theorem ea_rl_filter {α β : Type} {R : α → β → Prop} {f : α → Bool} {g : β → Bool} (hfg : ∀ a b, R a b → f a = g b) : ∀ {as : List α} {bs : List β}, ea_rl R as bs → ea_rl R (as.filter f) (bs.filter g)
  | [], [], _ => trivial
  | a :: as, b :: bs, h => by
    rw [List.filter_cons, List.filter_cons, hfg a b h.1]
    cases g b with
    | true => exact ⟨h.1, ea_rl_filter hfg h.2⟩
    | false => exact ea_rl_filter hfg h.2
  | [], _ :: _, h => h.elim
  | _ :: _, [], h => h.elim
theorem ea_rl_s1 {ad : SB × List Nat} {L : List (Nat × AV)} {vl : List (Nat × Value)} (h : ea_rl (ea_lr ad) L vl) (i : Nat) {a : AV} {v : Value} (hv : ea_gv ad a v) : ea_rl (ea_lr ad) (ea_s1 L i a) ((i, v) :: vl.filter (fun q => !(q.1 == i) && !(q.1 + 1 == i && q.2.category == 2))) :=
  ⟨⟨rfl, hv⟩, ea_rl_filter (fun p q hpq => by rw [hpq.1, ea_gv_cat hpq.2]) h⟩
theorem ea_rl_s2 {ad : SB × List Nat} {L : List (Nat × AV)} {vl : List (Nat × Value)} (h : ea_rl (ea_lr ad) L vl) (i : Nat) {a : AV} {v : Value} (hv : ea_gv ad a v) : ea_rl (ea_lr ad) (ea_s2 L i a) ((i, v) :: vl.filter (fun q => !(q.1 == i) && (!(q.1 == i + 1) && !(q.1 + 1 == i && q.2.category == 2)))) :=
  ⟨⟨rfl, hv⟩, ea_rl_filter (fun p q hpq => by rw [hpq.1, ea_gv_cat hpq.2]) h⟩
theorem ea_L_mono {ad ad' : SB × List Nat} (hp : ad.1 = ad'.1 ∧ ∀ k q : Nat, ad.2[k]? = some q → ad'.2[k]? = some q) {nL : Nat} {L : List (Nat × AV)} {ls : Array Slot} (h : ea_L ad nL L ls) : ea_L ad' nL L ls := by
  obtain ⟨vl, h1, h2⟩ := h
  exact ⟨vl, ea_rl_mono (fun a b hab => ⟨hab.1, ea_gv_mono hp hab.2⟩) h1, h2⟩
/-- where a branch goes -/
def ea_to (pc : Nat) (off : Int) : Option Nat := match (pc : Int) + off with
  | .ofNat n => some n
  | .negSucc _ => none
theorem ea_to_ok {pc : Nat} {off : Int} {t : Nat} (h : ea_to pc off = some t) : (pc : Int) + off = (t : Int) := by
  unfold ea_to at h
  split at h
  · rename_i n e; cases h; exact e
  · cases h
/-- how long an instruction is that takes one of the rows below (0: any) -/
def ea_len (i : Instr) : Nat := match i with
  | .bipush _ | .iload _ | .lload _ | .aload _ | .istore _ | .lstore _ | .astore _ | .ldc _ | .newarray _ => 2
  | .sipush _ | .iinc _ _ | .goto _ | .ifCond _ _ | .if_icmp _ _ | .ldc2_w _ | .ldc_w _ | .getfield _ | .getstatic _ | .putfield _ | .new _ | .anewarray _ | .invokespecial _ | .invokestatic _ | .invokevirtual _ | .ifnull _ | .ifnonnull _ => 3
  | .tableswitch _ _ _ _ | .lookupswitch _ _ => 0
  | _ => 1
/-- which of a switch's ways is taken -/
def ea_sw (dflt lo hi : Int) (offs : Array Int) (i : AI) : Option Int :=
  if ea_hi i < lo then some dflt else if hi < ea_lo i then some dflt else match i with
    | .inl x => if ¬ x.toInt < lo ∧ ¬ hi < x.toInt then offs.toList[(x.toInt - lo).toNat]? else none
    | .inr _ => none
def ea_p (i : Instr) (pc nL : Nat) (L : List (Nat × AV)) (S : List AV) : Option (Nat × List (Nat × AV) × List AV) :=
  match i with
  | .iconst n => some (pc + 1, L, .inl (.inl (Int32.ofInt n)) :: S)
  | .bipush n => some (pc + 2, L, .inl (.inl (Int8.ofInt n).toInt32) :: S)
  | .sipush n => some (pc + 3, L, .inl (.inl (Int16.ofInt n).toInt32) :: S)
  | .lconst n => some (pc + 1, L, .inr (.inr (.inl (some (Int64.ofNat n)))) :: S)
  | .iload_n k => match ea_lk L k with
    | some (.inl a) => some (pc + 1, L, .inl a :: S)
    | _ => none
  | .iload k => match ea_lk L k with
    | some (.inl a) => some (pc + 2, L, .inl a :: S)
    | _ => none
  | .lload_n k => match ea_lk L k with
    | some (.inr (.inr (.inl a))) => some (pc + 1, L, .inr (.inr (.inl a)) :: S)
    | _ => none
  | .lload k => match ea_lk L k with
    | some (.inr (.inr (.inl a))) => some (pc + 2, L, .inr (.inr (.inl a)) :: S)
    | _ => none
  | .aload_n k => match ea_lk L k with
    | some a => if ea_isr a = true then some (pc + 1, L, a :: S) else none
    | none => none
  | .aload k => match ea_lk L k with
    | some a => if ea_isr a = true then some (pc + 2, L, a :: S) else none
    | none => none
  | .istore_n k => match S with
    | .inl a :: S => if (k : Nat) < nL then some (pc + 1, ea_s1 L k (.inl a), S) else none
    | _ => none
  | .istore k => match S with
    | .inl a :: S => if k < nL then some (pc + 2, ea_s1 L k (.inl a), S) else none
    | _ => none
  | .lstore_n k => match S with
    | .inr (.inr (.inl a)) :: S => if (k : Nat) + 1 < nL then some (pc + 1, ea_s2 L k (.inr (.inr (.inl a))), S) else none
    | _ => none
  | .lstore k => match S with
    | .inr (.inr (.inl a)) :: S => if k + 1 < nL then some (pc + 2, ea_s2 L k (.inr (.inr (.inl a))), S) else none
    | _ => none
  | .astore_n k => match S with
    | a :: S => if ea_isr a = true ∧ (k : Nat) < nL then some (pc + 1, ea_s1 L k a, S) else none
    | _ => none
  | .astore k => match S with
    | a :: S => if ea_isr a = true ∧ k < nL then some (pc + 2, ea_s1 L k a, S) else none
    | _ => none
  | .iinc k n => match ea_lk L k with
    | some (.inl a) => if k < nL then some (pc + 3, ea_s1 L k (.inl (iv_2 (fun x y => x + y) iv_addg a (.inl (Int32.ofInt n)))), S) else none
    | _ => none
  | .iadd => match S with
    | .inl b :: .inl a :: S => some (pc + 1, L, .inl (iv_2 (fun x y => x + y) iv_addg a b) :: S)
    | _ => none
  | .isub => match S with
    | .inl b :: .inl a :: S => some (pc + 1, L, .inl (iv_2 (fun x y => x - y) iv_subg a b) :: S)
    | _ => none
  | .imul => match S with
    | .inl b :: .inl a :: S => some (pc + 1, L, .inl (iv_2 (fun x y => x * y) iv_mulg a b) :: S)
    | _ => none
  | .iand => match S with
    | .inl b :: .inl a :: S => some (pc + 1, L, .inl (iv_2 (fun x y => x &&& y) iv_andg a b) :: S)
    | _ => none
  | .ior => match S with
    | .inl b :: .inl a :: S => some (pc + 1, L, .inl (iv_2 (fun x y => x ||| y) iv_org a b) :: S)
    | _ => none
  | .ixor => match S with
    | .inl b :: .inl a :: S => some (pc + 1, L, .inl (iv_2 (fun x y => x ^^^ y) iv_org a b) :: S)
    | _ => none
  | .ishl => match S with
    | .inl b :: .inl a :: S => some (pc + 1, L, .inl (iv_2 (fun x y => x <<< (y &&& 31)) iv_shlg a b) :: S)
    | _ => none
  | .ishr => match S with
    | .inl b :: .inl a :: S => some (pc + 1, L, .inl (ea_i2 (fun x y => x >>> (y &&& 31)) a b) :: S)
    | _ => none
  | .iushr => match S with
    | .inl b :: .inl a :: S => some (pc + 1, L, .inl (ea_i2 (fun x y => (x.toUInt32 >>> (y.toUInt32 &&& Int32.toUInt32 31)).toInt32) a b) :: S)
    | _ => none
  | .ineg => match S with
    | .inl a :: S => some (pc + 1, L, .inl (ea_i1 (fun x => -x) a) :: S)
    | _ => none
  | .idiv => match S with
    | .inl b :: .inl a :: S => if iv_nz b = true then some (pc + 1, L, .inl (iv_2 (fun x y => x / y) iv_divg a b) :: S) else none
    | _ => none
  | .irem => match S with
    | .inl b :: .inl a :: S => if iv_nz b = true then some (pc + 1, L, .inl (iv_2 (fun x y => x - x / y * y) iv_remg a b) :: S) else none
    | _ => none
  | .i2c => match S with
    | .inl a :: S => some (pc + 1, L, .inl (ch_1 a) :: S)
    | _ => none
  | .i2b => match S with
    | .inl a :: S => some (pc + 1, L, .inl (iv_by a) :: S)
    | _ => none
  | .i2l => match S with
    | .inl (.inl x) :: S => some (pc + 1, L, .inr (.inr (.inl (some x.toInt64))) :: S)
    | .inl (.inr _) :: S => some (pc + 1, L, .inr (.inr (.inl none)) :: S)
    | _ => none
  | .l2i => match S with
    | .inr (.inr (.inl (some x))) :: S => some (pc + 1, L, .inl (.inl x.toInt32) :: S)
    | .inr (.inr (.inl none)) :: S => some (pc + 1, L, .inl ea_any :: S)
    | _ => none
  | .ladd => match S with
    | .inr (.inr (.inl b)) :: .inr (.inr (.inl a)) :: S => some (pc + 1, L, .inr (.inr (.inl (ea_l2 (fun x y => x + y) a b))) :: S)
    | _ => none
  | .lsub => match S with
    | .inr (.inr (.inl b)) :: .inr (.inr (.inl a)) :: S => some (pc + 1, L, .inr (.inr (.inl (ea_l2 (fun x y => x - y) a b))) :: S)
    | _ => none
  | .land => match S with
    | .inr (.inr (.inl b)) :: .inr (.inr (.inl a)) :: S => some (pc + 1, L, .inr (.inr (.inl (ea_l2 (fun x y => x &&& y) a b))) :: S)
    | _ => none
  | .lor => match S with
    | .inr (.inr (.inl b)) :: .inr (.inr (.inl a)) :: S => some (pc + 1, L, .inr (.inr (.inl (ea_l2 (fun x y => x ||| y) a b))) :: S)
    | _ => none
  | .lxor => match S with
    | .inr (.inr (.inl b)) :: .inr (.inr (.inl a)) :: S => some (pc + 1, L, .inr (.inr (.inl (ea_l2 (fun x y => x ^^^ y) a b))) :: S)
    | _ => none
  | .lshl => match S with
    | .inl (.inl y) :: .inr (.inr (.inl (some x))) :: S => some (pc + 1, L, .inr (.inr (.inl (some (x <<< (y.toInt64 &&& 63))))) :: S)
    | .inl _ :: .inr (.inr (.inl _)) :: S => some (pc + 1, L, .inr (.inr (.inl none)) :: S)
    | _ => none
  | .lshr => match S with
    | .inl (.inl y) :: .inr (.inr (.inl (some x))) :: S => some (pc + 1, L, .inr (.inr (.inl (some (x >>> (y.toInt64 &&& 63))))) :: S)
    | .inl _ :: .inr (.inr (.inl _)) :: S => some (pc + 1, L, .inr (.inr (.inl none)) :: S)
    | _ => none
  | .lushr => match S with
    | .inl (.inl y) :: .inr (.inr (.inl (some x))) :: S => some (pc + 1, L, .inr (.inr (.inl (some (x.toUInt64 >>> (y.toInt64.toUInt64 &&& Int64.toUInt64 63)).toInt64))) :: S)
    | .inl _ :: .inr (.inr (.inl _)) :: S => some (pc + 1, L, .inr (.inr (.inl none)) :: S)
    | _ => none
  | .lcmp => match S with
    | .inr (.inr (.inl (some y))) :: .inr (.inr (.inl (some x))) :: S => some (pc + 1, L, .inl (.inl (lg_cmp x y)) :: S)
    | .inr (.inr (.inl _)) :: .inr (.inr (.inl _)) :: S => some (pc + 1, L, .inl ea_any :: S)
    | _ => none
  | .dup => match S with
    | a :: S => if ea_cat a = 1 then some (pc + 1, L, a :: a :: S) else none
    | _ => none
  | .pop => match S with
    | a :: S => if ea_cat a = 1 then some (pc + 1, L, S) else none
    | _ => none
  | .pop2 => match S with
    | a :: S => if ea_cat a = 2 then some (pc + 1, L, S) else none
    | _ => none
  | .dup_x1 => match S with
    | a :: b :: S => if ea_cat a = 1 ∧ ea_cat b = 1 then some (pc + 1, L, a :: b :: a :: S) else none
    | _ => none
  | .dup_x2 => match S with
    | a :: b :: d :: S => if ea_cat a = 1 ∧ ea_cat b = 1 ∧ ea_cat d = 1 then some (pc + 1, L, a :: b :: d :: a :: S) else none
    | _ => none
  | .dup2 => match S with
    | a :: b :: S => if ea_cat a = 1 ∧ ea_cat b = 1 then some (pc + 1, L, a :: b :: a :: b :: S) else none
    | _ => none
  | .goto off => match ea_to pc off with
    | some t => some (t, L, S)
    | none => none
  | .ifCond c off => match S with
    | .inl a :: S => match ea_if c a (.inl 0), ea_to pc off with
      | some true, some t => some (t, L, S)
      | some false, some _ => some (pc + 3, L, S)
      | _, _ => none
    | _ => none
  | .if_icmp c off => match S with
    | .inl b :: .inl a :: S => match ea_if c a b, ea_to pc off with
      | some true, some t => some (t, L, S)
      | some false, some _ => some (pc + 3, L, S)
      | _, _ => none
    | _ => none
  | .tableswitch dflt lo hi offs => match S with
    | .inl a :: S => match ea_sw dflt lo hi offs a with
      | some off => match ea_to pc off with
        | some t => some (t, L, S)
        | none => none
      | none => none
    | _ => none
  | .lookupswitch dflt ps => match S with
    | .inl (.inl x) :: S => if (ps.toList.zip (ps.toList.drop 1)).all (fun (a, next) => a.1 < next.1) = true then match ea_to pc (Op.lookupswitch.offset ps.toList dflt x.toInt) with
        | some t => some (t, L, S)
        | none => none
      else none
    | _ => none
  | _ => none
