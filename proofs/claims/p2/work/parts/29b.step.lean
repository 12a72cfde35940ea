/-! THE CHECKER, instructions on cells; branches; Math; copies -/
theorem nar_byte (x : Int32) : -128 ≤ (vp_nar .byte x).toInt ∧ (vp_nar .byte x).toInt ≤ 127 := iv_byg_ok x
def xs_h (M : Nat → Bool) (G : Nat → Option CT) (ini : Bool) (pl : Nat → Option (Nat × Nat × Nat)) (fty : Nat → Nat → Nat) (i : Instr) (pc : Nat) (S : List XV) (e : XE) : Option (Nat × List XV × XE) := match i with
  | .getfield x => match ea_rd (pl x) with
    | some (ci, k) => xs_gf G ci k pc S e
    | none => none
  | .putfield x => match ea_wr ini (pl x) with
    | some (ci, k) => xs_pf M G fty ci k pc S e
    | none => none
  | .iaload => xs_al 0 G pc S e
  | .baload => xs_al 2 G pc S e
  | .iastore => xs_as M G pc S e
  | .bastore => xs_bs M G pc S e
  | .laload => xs_ll G pc S e
  | .lastore => xs_lst M G pc S e
  | .aaload => xs_aa G pc S e
  | .arraylength => xs_len G pc S e
  | .ldc x => match pl x with
    | some (6, v, _) => some (pc + 2, .inl (0, 0, (Int32.ofNat v).toInt) :: S, e)
    | _ => none
  | .ldc_w x => match pl x with
    | some (6, v, _) => some (pc + 3, .inl (0, 0, (Int32.ofNat v).toInt) :: S, e)
    | _ => none
  | .ldc2_w x => match pl x with
    | some (7, _, _) => some (pc + 3, .inr (.inr 0) :: S, e)
    | _ => none
  | _ => none
theorem xs_h_ok {r : RN} {M : Nat → Bool} {G : Nat → Option CT} {ini : Bool} {pl : Nat → Option (Nat × Nat × Nat)} {fty : Nat → Nat → Nat} {scr : Option (List AI)} {pc nL : Nat} {cl : List (Nat × AV)} {cs : List AV} {C : List AC} {e : XE} {S : List XV} {i : Instr} {f : Nat × List XV × XE} (he : xe_g r e) (hs : xs_g r S cs) (hh : xh_g r G e C) (h : xs_h M G ini pl fty i pc S e = some f) : xh_r r M G ini pl fty scr i pc cs C f ∧ ea_p i pc nL cl cs = none := by
  cases i with
  | getfield x =>
    refine ⟨?_, rfl⟩
    unfold xs_h at h
    dsimp only at h
    split at h
    · rename_i ci k hp
      exact xs_gf_ok he hs hh hp h
    · cases h
  | putfield x =>
    refine ⟨?_, rfl⟩
    unfold xs_h at h
    dsimp only at h
    split at h
    · rename_i ci k hp
      exact xs_pf_ok he hs hh hp h
    · cases h
  | iaload => exact ⟨xs_al_ok (by decide) he hs hh h (fun x y a n d us t h1 h2 h3 => by simp only [ea_h, h1, h2, h3]), rfl⟩
  | baload => exact ⟨xs_al_ok (by decide) he hs hh h (fun x y a n d us t h1 h2 h3 => by simp only [ea_h, h1, h2, h3]), rfl⟩
  | iastore => exact ⟨xs_as_ok he hs hh h, rfl⟩
  | bastore => exact ⟨xs_bs_ok nar_byte he hs hh h, rfl⟩
  | laload => exact ⟨xs_ll_ok he hs hh h, rfl⟩
  | lastore => exact ⟨xs_lst_ok he hs hh h, rfl⟩
  | aaload => exact ⟨xs_aa_ok he hs hh h, rfl⟩
  | arraylength => exact ⟨xs_len_ok he hs hh h, rfl⟩
  | ldc x =>
    refine ⟨?_, rfl⟩
    unfold xs_h at h
    dsimp only at h
    split at h
    · rename_i v u hp
      cases h
      exact ⟨r, _, none, rn_le_rf r, he, xs_cons (xv_gi (xi_c he (Int32.ofNat v))) hs, hh, fun _ _ => rfl, by simp only [ea_h, hp]⟩
    · cases h
  | ldc_w x =>
    refine ⟨?_, rfl⟩
    unfold xs_h at h
    dsimp only at h
    split at h
    · rename_i v u hp
      cases h
      exact ⟨r, _, none, rn_le_rf r, he, xs_cons (xv_gi (xi_c he (Int32.ofNat v))) hs, hh, fun _ _ => rfl, by simp only [ea_h, hp]⟩
    · cases h
  | ldc2_w x =>
    refine ⟨?_, rfl⟩
    unfold xs_h at h
    dsimp only at h
    split at h
    · rename_i v u hp
      cases h
      exact ⟨r, _, none, rn_le_rf r, he, xs_cons (xv_gl r (Int64.ofNat v)) hs, hh, fun _ _ => rfl, by simp only [ea_h, hp]⟩
    · cases h
  | _ => cases h
/-- a branch: what it compares, where it goes -/
def xs_br (i : Instr) (pc : Nat) (S : List XV) : Option (Jvm.ClassFile.Cond × XI × XI × Nat × List XV) := match i with
  | .ifCond c off => match S with
    | .inl a :: S => match ea_to pc off with
      | some t => some (c, a, (0, 0, 0), t, S)
      | none => none
    | _ => none
  | .if_icmp c off => match S with
    | .inl b :: .inl a :: S => match ea_to pc off with
      | some t => some (c, a, b, t, S)
      | none => none
    | _ => none
  | _ => none
theorem ea_if_pt (c : Jvm.ClassFile.Cond) (x y : Int32) : ea_if c (.inl x) (.inl y) = some (ea_ck c x y) := rfl
theorem xs_br_ok {r : RN} {e : XE} {i : Instr} {pc nL : Nat} {cl : List (Nat × AV)} {cs : List AV} {S S' : List XV} {c : Jvm.ClassFile.Cond} {a b : XI} {t : Nat} (he : xe_g r e) (hs : xs_g r S cs) (h : xs_br i pc S = some (c, a, b, t, S')) : ∃ x y cs', xi_g r a x ∧ xi_g r b y ∧ xs_g r S' cs' ∧ ((ea_cp c x y ∧ ea_p i pc nL cl cs = some (t, cl, cs')) ∨ (¬ ea_cp c x y ∧ ea_p i pc nL cl cs = some (pc + 3, cl, cs'))) := by
  cases i with
  | ifCond c' off =>
    unfold xs_br at h
    dsimp only at h
    split at h
    · split at h
      · rename_i ht
        cases h
        obtain ⟨_, cs', rfl, ⟨x, rfl, hx⟩, hs1⟩ := xs_pop hs
        refine ⟨x, 0, cs', hx, xi_c he 0, hs1, ?_⟩
        have hk := ea_ck_ok c x 0
        cases hb : ea_ck c x 0 with
        | true => left; exact ⟨hk.mpr hb, by simp only [ea_p, ea_if_pt, ht, hb]⟩
        | false => right; exact ⟨fun hc => Bool.noConfusion ((hk.mp hc).symm.trans hb), by simp only [ea_p, ea_if_pt, ht, hb]⟩
      · cases h
    · cases h
  | if_icmp c' off =>
    unfold xs_br at h
    dsimp only at h
    split at h
    · split at h
      · rename_i ht
        cases h
        obtain ⟨_, _, rfl, ⟨y, rfl, hy⟩, hs1⟩ := xs_pop hs
        obtain ⟨_, cs', rfl, ⟨x, rfl, hx⟩, hs2⟩ := xs_pop hs1
        refine ⟨x, y, cs', hx, hy, hs2, ?_⟩
        have hk := ea_ck_ok c x y
        cases hb : ea_ck c x y with
        | true => left; exact ⟨hk.mpr hb, by simp only [ea_p, ea_if_pt, ht, hb]⟩
        | false => right; exact ⟨fun hc => Bool.noConfusion ((hk.mp hc).symm.trans hb), by simp only [ea_p, ea_if_pt, ht, hb]⟩
      · cases h
    · cases h
  | _ => cases h
