/-! THE CHECKER, its plain instructions -/
def xs_any (f : Int32 → Int32 → Int32) (e : XE) (i j : XI) : XI × XE := xo_2 f (fun _ _ => ea_any) e i j
theorem xs_any_ok (f : Int32 → Int32 → Int32) {r : RN} {e : XE} (he : xe_g r e) {i j : XI} {x y : Int32} (hx : xi_g r i x) (hy : xi_g r j y) : xo_ok r e (xs_any f e i j) (f x y) := xo_2_ok (fun _ _ _ _ _ _ => ea_any_ok _) he hx hy
def xs_nz (e : XE) (S : List XV) : Bool := match S with
  | .inl b :: _ => iv_nz (xo_ai e b)
  | _ => false
theorem iv_nz_pt {i : AI} (h : iv_nz i = true) {x : Int32} (hx : ea_gi i x) : iv_nz (.inl x) = true := by
  have b := ea_bd hx
  unfold iv_nz at h ⊢
  simp only [Bool.or_eq_true, decide_eq_true_eq] at h ⊢
  show 1 ≤ x.toInt ∨ x.toInt ≤ -1
  omega
def xs_dv (op : XE → XI → XI → XI × XE) (pc : Nat) (L : List (Nat × XV)) (S : List XV) (e : XE) : Option XF := match S with
  | .inl b :: .inl a :: S => if iv_nz (xo_ai e b) = true then some (pc + 1, L, .inl (op e a b).1 :: S, (op e a b).2) else none
  | _ => none
theorem xs_dv_ok {r : RN} {e : XE} {i : Instr} {pc nL : Nat} {cl : List (Nat × AV)} {cs : List AV} {L : List (Nat × XV)} {S : List XV} {f : XF} {op : XE → XI → XI → XI × XE} {fn : Int32 → Int32 → Int32} (he : xe_g r e) (hl : xl_g r L cl) (hs : xs_g r S cs) (h : xs_dv op pc L S e = some f)
    (hop : ∀ a b x y, xi_g r a x → xi_g r b y → xo_ok r e (op e a b) (fn x y)) (hp : ∀ x y t, iv_nz (.inl y) = true → ea_p i pc nL cl (.inl (.inl y) :: .inl (.inl x) :: t) = some (pc + 1, cl, .inl (.inl (fn x y)) :: t)) : xp_r r e i pc nL cl cs f := by
  unfold xs_dv at h
  split at h
  · split at h
    · rename_i hz
      cases h
      obtain ⟨_, _, rfl, ⟨y, rfl, hy⟩, hs1⟩ := xs_pop hs
      obtain ⟨_, _, rfl, ⟨x, rfl, hx⟩, hs2⟩ := xs_pop hs1
      exact xp_push hl hs2 (hop _ _ _ _ hx hy) (hp _ _ _ (iv_nz_pt hz (xo_ai_ok he hy)))
    · cases h
  · cases h
def xs_ii (n : Nat) (pc k nL : Nat) (z : Int) (L : List (Nat × XV)) (S : List XV) (e : XE) : Option XF := match xl_k L k with
  | some (.inl a) => bif Nat.blt k nL then some (pc + n, xl_s1 L k (.inl (xo_add e a (0, 0, z)).1), S, (xo_add e a (0, 0, z)).2) else none
  | _ => none
def xs_p (i : Instr) (pc nL : Nat) (L : List (Nat × XV)) (S : List XV) (e : XE) : Option XF := match i with
  | .iconst n => some (pc + 1, L, .inl (0, 0, (Int32.ofInt n).toInt) :: S, e)
  | .bipush n => some (pc + 2, L, .inl (0, 0, (Int8.ofInt n).toInt32.toInt) :: S, e)
  | .sipush n => some (pc + 3, L, .inl (0, 0, (Int16.ofInt n).toInt32.toInt) :: S, e)
  | .lconst _ => some (pc + 1, L, .inr (.inr 0) :: S, e)
  | .iload_n k => xs_ld 1 pc k L S e
  | .iload k => xs_ld 2 pc k L S e
  | .lload_n k => xs_ldl 1 pc k L S e
  | .lload k => xs_ldl 2 pc k L S e
  | .aload_n k => xs_lda 1 pc k L S e
  | .aload k => xs_lda 2 pc k L S e
  | .istore_n k => xs_st 1 pc k nL L S e
  | .istore k => xs_st 2 pc k nL L S e
  | .lstore_n k => xs_stl 1 pc k nL L S e
  | .lstore k => xs_stl 2 pc k nL L S e
  | .astore_n k => xs_sta 1 pc k nL L S e
  | .astore k => xs_sta 2 pc k nL L S e
  | .iinc k n => xs_ii 3 pc k nL (Int32.ofInt n).toInt L S e
  | .iadd => xs_i2 xo_add pc L S e
  | .isub => xs_i2 xo_sub pc L S e
  | .imul => xs_i2 xo_mul pc L S e
  | .iand => xs_i2 (xo_2 (fun x y => x &&& y) iv_andg) pc L S e
  | .ior => xs_i2 (xo_2 (fun x y => x ||| y) iv_org) pc L S e
  | .ixor => xs_i2 (xo_2 (fun x y => x ^^^ y) iv_org) pc L S e
  | .ishl => xs_i2 xo_shl pc L S e
  | .ladd => xs_l2 pc L S e
  | .lsub => xs_l2 pc L S e
  | .l2i => match S with
    | .inr (.inr 0) :: S => some (pc + 1, L, .inl (xo_new e (-2147483648) 2147483647).1 :: S, (xo_new e (-2147483648) 2147483647).2)
    | _ => none
  | .ishr => xs_i2 (xs_any (fun x y => x >>> (y &&& 31))) pc L S e
  | .iushr => xs_i2 (xs_any (fun x y => (x.toUInt32 >>> (y.toUInt32 &&& Int32.toUInt32 31)).toInt32)) pc L S e
  | .idiv => xs_dv (xo_2 (fun x y => x / y) iv_divg) pc L S e
  | .irem => xs_dv (xo_2 (fun x y => x - x / y * y) iv_remg) pc L S e
  | .ineg => match S with
    | .inl a :: S => some (pc + 1, L, .inl (xo_neg e a).1 :: S, (xo_neg e a).2)
    | _ => none
  | .i2c => match S with
    | .inl a :: S => some (pc + 1, L, .inl (xo_of e (ch_1 (xo_ai e a))).1 :: S, (xo_of e (ch_1 (xo_ai e a))).2)
    | _ => none
  | .i2b => match S with
    | .inl a :: S => some (pc + 1, L, .inl (xo_of e (iv_by (xo_ai e a))).1 :: S, (xo_of e (iv_by (xo_ai e a))).2)
    | _ => none
  | .i2l => match S with
    | .inl _ :: S => some (pc + 1, L, .inr (.inr 0) :: S, e)
    | _ => none
  | .land => xs_l2 pc L S e
  | .lor => xs_l2 pc L S e
  | .lxor => xs_l2 pc L S e
  | .lshl => xs_ls pc L S e
  | .lshr => xs_ls pc L S e
  | .lushr => xs_ls pc L S e
  | .lcmp => match S with
    | .inr (.inr 0) :: .inr (.inr 0) :: S => some (pc + 1, L, .inl (xo_new e (-2147483648) 2147483647).1 :: S, (xo_new e (-2147483648) 2147483647).2)
    | _ => none
  | .dup => match S with
    | a :: S => if xv_cat a = 1 then some (pc + 1, L, a :: a :: S, e) else none
    | _ => none
  | .pop => match S with
    | a :: S => if xv_cat a = 1 then some (pc + 1, L, S, e) else none
    | _ => none
  | .pop2 => match S with
    | a :: S => if xv_cat a = 2 then some (pc + 1, L, S, e) else none
    | _ => none
  | .dup2 => match S with
    | a :: b :: S => if xv_cat a = 1 ∧ xv_cat b = 1 then some (pc + 1, L, a :: b :: a :: b :: S, e) else none
    | _ => none
  | .goto off => match ea_to pc off with
    | some t => some (t, L, S, e)
    | none => none
  | _ => none
set_option maxHeartbeats 4000000 in
theorem xs_p_ok {r : RN} {e : XE} {i : Instr} {pc nL : Nat} {cl : List (Nat × AV)} {cs : List AV} {L : List (Nat × XV)} {S : List XV} {f : XF} (he : xe_g r e) (hl : xl_g r L cl) (hs : xs_g r S cs) (h : xs_p i pc nL L S e = some f) : xp_r r e i pc nL cl cs f := by
  cases i with
  | iconst n => cases h; exact xp_push hl hs (xo_const he rfl) rfl
  | bipush n => cases h; exact xp_push hl hs (xo_const he rfl) rfl
  | sipush n => cases h; exact xp_push hl hs (xo_const he rfl) rfl
  | lconst n => cases h; exact xp_same he hl (xs_cons (xv_gl r _) hs) rfl
  | iload_n k => exact xs_ld_ok he hl hs h (fun x hx => by simp only [ea_p, hx])
  | iload k => exact xs_ld_ok he hl hs h (fun x hx => by simp only [ea_p, hx])
  | lload_n k => exact xs_ldl_ok he hl hs h (fun x hx => by simp only [ea_p, hx])
  | lload k => exact xs_ldl_ok he hl hs h (fun x hx => by simp only [ea_p, hx])
  | aload_n k => exact xs_lda_ok he hl hs h (fun x hx hi => by simp only [ea_p, hx]; rw [if_pos hi])
  | aload k => exact xs_lda_ok he hl hs h (fun x hx hi => by simp only [ea_p, hx]; rw [if_pos hi])
  | istore_n k => exact xs_st_ok he hl hs h (fun x t hk => by simp only [ea_p]; rw [if_pos hk])
  | istore k => exact xs_st_ok he hl hs h (fun x t hk => by simp only [ea_p]; rw [if_pos hk])
  | lstore_n k => exact xs_stl_ok he hl hs h (fun x t hk => by simp only [ea_p]; rw [if_pos hk])
  | lstore k => exact xs_stl_ok he hl hs h (fun x t hk => by simp only [ea_p]; rw [if_pos hk])
  | astore_n k => exact xs_sta_ok he hl hs h (fun v t hv hk => by simp only [ea_p]; rw [if_pos ⟨hv, hk⟩])
  | astore k => exact xs_sta_ok he hl hs h (fun v t hv hk => by simp only [ea_p]; rw [if_pos ⟨hv, hk⟩])
  | iinc k n =>
    unfold xs_p xs_ii at h
    dsimp only at h
    split at h
    · rename_i a ha
      cases hb : Nat.blt k nL with
      | false => rw [hb] at h; cases h
      | true =>
        rw [hb] at h
        cases h
        obtain ⟨v, h1, x, rfl, h2⟩ := xl_k_ok hl ha
        obtain ⟨r', g1, g2, g3, g4⟩ := xo_add_ok he h2 (j := (0, 0, (Int32.ofInt n).toInt)) (y := Int32.ofInt n) ⟨he.1, by simp [xi_z]⟩
        exact ⟨r', _, _, g1, g2, xl_s1_ok (xl_g_mono g1 hl) k (xv_gi g3), xs_g_mono g1 hs, g4, by simp only [ea_p, h1]; rw [if_pos (blt_lt hb)]; rfl⟩
    · cases h
  | iadd => exact xs_i2_ok hl hs h (fn := fun x y => x + y) (fun a b x y hx hy => xo_add_ok he hx hy) (fun x y t => rfl)
  | isub => exact xs_i2_ok hl hs h (fn := fun x y => x - y) (fun a b x y hx hy => xo_sub_ok he hx hy) (fun x y t => rfl)
  | imul => exact xs_i2_ok hl hs h (fn := fun x y => x * y) (fun a b x y hx hy => xo_mul_ok he hx hy) (fun x y t => rfl)
  | iand => exact xs_i2_ok hl hs h (fn := fun x y => x &&& y) (fun a b x y hx hy => xo_2_ok iv_andg_ok he hx hy) (fun x y t => rfl)
  | ior => exact xs_i2_ok hl hs h (fn := fun x y => x ||| y) (fun a b x y hx hy => xo_2_ok iv_org_ok he hx hy) (fun x y t => rfl)
  | ixor => exact xs_i2_ok hl hs h (fn := fun x y => x ^^^ y) (fun a b x y hx hy => xo_2_ok iv_xorg_ok he hx hy) (fun x y t => rfl)
  | ishl => exact xs_i2_ok hl hs h (fn := fun x y => x <<< (y &&& 31)) (fun a b x y hx hy => xo_shl_ok he hx hy) (fun x y t => rfl)
  | ladd => exact xs_l2_ok (fun x y => x + y) he hl hs h (fun x y t => rfl)
  | lsub => exact xs_l2_ok (fun x y => x - y) he hl hs h (fun x y t => rfl)
  | l2i =>
    unfold xs_p at h
    dsimp only at h
    split at h
    · cases h
      obtain ⟨_, _, rfl, ⟨x, rfl⟩, hs1⟩ := xs_pop hs
      exact xp_push hl hs1 (xo_any he x.toInt32) rfl
    · cases h
  | ishr => exact xs_i2_ok hl hs h (fn := fun x y => x >>> (y &&& 31)) (fun a b x y hx hy => xs_any_ok _ he hx hy) (fun x y t => rfl)
  | iushr => exact xs_i2_ok hl hs h (fn := fun x y => (x.toUInt32 >>> (y.toUInt32 &&& Int32.toUInt32 31)).toInt32) (fun a b x y hx hy => xs_any_ok _ he hx hy) (fun x y t => rfl)
  | idiv => exact xs_dv_ok he hl hs h (fn := fun x y => x / y) (fun a b x y hx hy => xo_2_ok iv_divg_ok he hx hy) (fun x y t hz => by simp only [ea_p]; rw [if_pos hz]; rfl)
  | irem => exact xs_dv_ok he hl hs h (fn := fun x y => x - x / y * y) (fun a b x y hx hy => xo_2_ok iv_remg_ok he hx hy) (fun x y t hz => by simp only [ea_p]; rw [if_pos hz]; rfl)
  | ineg =>
    unfold xs_p at h
    dsimp only at h
    split at h
    · cases h
      obtain ⟨_, _, rfl, ⟨x, rfl, hx⟩, hs1⟩ := xs_pop hs
      exact xp_push hl hs1 (xo_neg_ok he hx) rfl
    · cases h
  | i2c =>
    unfold xs_p at h
    dsimp only at h
    split at h
    · cases h
      obtain ⟨_, _, rfl, ⟨x, rfl, hx⟩, hs1⟩ := xs_pop hs
      exact xp_push hl hs1 (xo_of_ok he (ch_1_ok (xo_ai_ok he hx))) rfl
    · cases h
  | i2b =>
    unfold xs_p at h
    dsimp only at h
    split at h
    · cases h
      obtain ⟨_, _, rfl, ⟨x, rfl, hx⟩, hs1⟩ := xs_pop hs
      exact xp_push hl hs1 (xo_of_ok he (iv_by_ok (xo_ai_ok he hx))) rfl
    · cases h
  | i2l =>
    unfold xs_p at h
    dsimp only at h
    split at h
    · cases h
      obtain ⟨_, _, rfl, ⟨x, rfl, hx⟩, hs1⟩ := xs_pop hs
      exact xp_same he hl (xs_cons (xv_gl r _) hs1) rfl
    · cases h
  | land => exact xs_l2_ok (fun x y => x &&& y) he hl hs h (fun x y t => rfl)
  | lor => exact xs_l2_ok (fun x y => x ||| y) he hl hs h (fun x y t => rfl)
  | lxor => exact xs_l2_ok (fun x y => x ^^^ y) he hl hs h (fun x y t => rfl)
  | lshl => exact xs_ls_ok (fun x y => x <<< (y.toInt64 &&& 63)) he hl hs h (fun x y t => rfl)
  | lshr => exact xs_ls_ok (fun x y => x >>> (y.toInt64 &&& 63)) he hl hs h (fun x y t => rfl)
  | lushr => exact xs_ls_ok (fun x y => (x.toUInt64 >>> (y.toInt64.toUInt64 &&& Int64.toUInt64 63)).toInt64) he hl hs h (fun x y t => rfl)
  | lcmp =>
    unfold xs_p at h
    dsimp only at h
    split at h
    · cases h
      obtain ⟨_, _, rfl, ⟨y, rfl⟩, hs1⟩ := xs_pop hs
      obtain ⟨_, _, rfl, ⟨x, rfl⟩, hs2⟩ := xs_pop hs1
      exact xp_push hl hs2 (xo_any he (lg_cmp x y)) rfl
    · cases h
  | dup =>
    unfold xs_p at h
    dsimp only at h
    split at h
    · split at h
      · rename_i hc
        cases h
        obtain ⟨v, _, rfl, hv, hs1⟩ := xs_pop hs
        exact xp_same he hl (xs_cons hv hs) (by simp only [ea_p]; rw [if_pos ((xv_g_cat hv).trans hc)])
      · cases h
    · cases h
  | pop =>
    unfold xs_p at h
    dsimp only at h
    split at h
    · split at h
      · rename_i hc
        cases h
        obtain ⟨v, _, rfl, hv, hs1⟩ := xs_pop hs
        exact xp_same he hl hs1 (by simp only [ea_p]; rw [if_pos ((xv_g_cat hv).trans hc)])
      · cases h
    · cases h
  | pop2 =>
    unfold xs_p at h
    dsimp only at h
    split at h
    · split at h
      · rename_i hc
        cases h
        obtain ⟨v, _, rfl, hv, hs1⟩ := xs_pop hs
        exact xp_same he hl hs1 (by simp only [ea_p]; rw [if_pos ((xv_g_cat hv).trans hc)])
      · cases h
    · cases h
  | dup2 =>
    unfold xs_p at h
    dsimp only at h
    split at h
    · split at h
      · rename_i hc
        cases h
        obtain ⟨v, _, rfl, hv, hs1⟩ := xs_pop hs
        obtain ⟨u, _, rfl, hu, hs2⟩ := xs_pop hs1
        exact xp_same he hl (xs_cons hv (xs_cons hu hs)) (by simp only [ea_p]; rw [if_pos ⟨(xv_g_cat hv).trans hc.1, (xv_g_cat hu).trans hc.2⟩])
      · cases h
    · cases h
  | goto off =>
    unfold xs_p at h
    dsimp only at h
    split at h
    · rename_i t ht
      cases h
      exact xp_same he hl hs (by simp only [ea_p, ht])
    · cases h
  | _ => cases h
