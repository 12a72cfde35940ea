/-! THE CHECKER, instructions on cells; branches; Math; copies -/
theorem nar_byte (x : Int32) : -128 ≤ (vp_nar .byte x).toInt ∧ (vp_nar .byte x).toInt ≤ 127 := iv_byg_ok x
/-- Strings: a field, the length of their bytes, a byte -/
def xs_sf (r : Option (Nat × Nat × Nat)) (pc : Nat) (S : List XV) (e : XE) : Option (Nat × List XV × XE) := match S with
  | .inr (.inr (q + 4)) :: S => match r with
    | some (24, 0, _) => bif Nat.beq ((q + 1) % 2) 0 then some (pc + 3, .inr (.inr (q + 5)) :: S, e) else none
    | some (24, _ + 1, _) => bif Nat.beq ((q + 1) % 2) 0 then some (pc + 3, .inl (0, 0, 0) :: S, e) else none
    | _ => none
  | _ => none
def xs_sl (pc : Nat) (S : List XV) (e : XE) : Option (Nat × List XV × XE) := match S with
  | .inr (.inr (q + 4)) :: S => bif Nat.beq ((q + 1) % 2) 1 then some (pc + 1, .inl (0, 0, (Int32.ofNat (sx_len ((q + 1) / 128))).toInt) :: S, e) else none
  | _ => none
def xs_sb (pc : Nat) (S : List XV) (e : XE) : Option (Nat × List XV × XE) := match S with
  | .inl i :: .inr (.inr (q + 4)) :: S => bif Nat.beq ((q + 1) % 2) 1 && xs_ix e.2.1 i (sx_len ((q + 1) / 128)) then (bif decide (i.1 = 0) then some (pc + 1, .inl (0, 0, (Int32.ofNat (sx_ch ((q + 1) / 128) i.2.2.toNat)).toInt) :: S, e)
      else some (pc + 1, .inl (xo_new e 0 255).1 :: S, (xo_new e 0 255).2)) else none
  | _ => none
theorem ofNat_small {n : Nat} (h : n < 256) : (Int32.ofNat n).toInt = (n : Int) := Int32.toInt_ofNat_of_lt (by omega)
section XSS
variable {r : RN} {M : Nat → Bool} {G : Nat → Option CT} {ini : Bool} {pl : Nat → Option (Nat × Nat × Nat)} {fty : Nat → Nat → Nat} {scr : Option (List AI)} {pc : Nat} {cs : List AV} {C : List AC} {e : XE} {S : List XV} {f : Nat × List XV × XE}
theorem xs_sf_ok (he : xe_g r e) (hs : xs_g r S cs) (hh : xh_g r G e C) {x : Nat} (hr : ea_rd (pl x) = none) (h : xs_sf (pl x) pc S e = some f) : xh_r r M G ini pl fty scr (.getfield x) pc cs C f := by
  unfold xs_sf at h
  split at h
  · rename_i q S0
    obtain ⟨v0, cs0, rfl, hv0, hs0⟩ := xs_pop hs
    obtain rfl : v0 = .inr (.inr (.inr (.inr (q + 1)))) := hv0
    split at h
    · rename_i u hp
      cases hb : Nat.beq ((q + 1) % 2) 0 with
      | false => rw [hb] at h; cases h
      | true =>
        rw [hb] at h
        cases h
        exact ⟨r, .inr (.inr (.inr (.inr (q + 2)))) :: cs0, none, rn_le_rf r, he, xs_cons (a := .inr (.inr (q + 5))) rfl hs0, hh, fun _ _ => rfl, by
          unfold ea_h
          dsimp only
          rw [hr]
          dsimp only
          rw [hp]
          simp only [sx_f, hb, cond_true]⟩
    · rename_i j u hp
      cases hb : Nat.beq ((q + 1) % 2) 0 with
      | false => rw [hb] at h; cases h
      | true =>
        rw [hb] at h
        cases h
        exact ⟨r, .inl (.inl 0) :: cs0, none, rn_le_rf r, he, xs_cons (xv_gi (xi_c he 0)) hs0, hh, fun _ _ => rfl, by
          unfold ea_h
          dsimp only
          rw [hr]
          dsimp only
          rw [hp]
          simp only [sx_f, hb, cond_true]⟩
    · cases h
  · cases h
theorem xs_sl_ok (he : xe_g r e) (hs : xs_g r S cs) (hh : xh_g r G e C) (h : xs_sl pc S e = some f) : xh_r r M G ini pl fty scr .arraylength pc cs C f := by
  unfold xs_sl at h
  split at h
  · rename_i q S0
    obtain ⟨v0, cs0, rfl, hv0, hs0⟩ := xs_pop hs
    obtain rfl : v0 = .inr (.inr (.inr (.inr (q + 1)))) := hv0
    cases hb : Nat.beq ((q + 1) % 2) 1 with
    | false => rw [hb] at h; cases h
    | true =>
      rw [hb] at h
      cases h
      exact ⟨r, _, none, rn_le_rf r, he, xs_cons (xv_gi (xi_c he _)) hs0, hh, fun _ _ => rfl, by simp only [ea_h, hb, cond_true]⟩
  · cases h
theorem xs_sb_ok (he : xe_g r e) (hs : xs_g r S cs) (hh : xh_g r G e C) (h : xs_sb pc S e = some f) : xh_r r M G ini pl fty scr .baload pc cs C f := by
  unfold xs_sb at h
  split at h
  · rename_i i q S0
    obtain ⟨_, _, rfl, ⟨x, rfl, hx⟩, hs1⟩ := xs_pop hs
    obtain ⟨v0, cs0, rfl, hv0, hs0⟩ := xs_pop hs1
    obtain rfl : v0 = .inr (.inr (.inr (.inr (q + 1)))) := hv0
    cases hb : (Nat.beq ((q + 1) % 2) 1 && xs_ix e.2.1 i (sx_len ((q + 1) / 128))) with
    | false => rw [hb] at h; cases h
    | true =>
      rw [hb] at h
      simp only [cond_true] at h
      simp only [Bool.and_eq_true] at hb
      obtain ⟨hb, hix⟩ := hb
      obtain ⟨i1, i2, i3⟩ := xs_ix_ok he hix hx
      have run : ea_h ini pl fty scr .baload pc (.inl (.inl x) :: .inr (.inr (.inr (.inr (q + 1)))) :: cs0) C = some (pc + 1, .inl (.inl (Int32.ofNat (sx_ch ((q + 1) / 128) x.toNatClampNeg))) :: cs0, none, 0, 0) := by simp only [ea_h, hb, cond_true, i1]
      cases h0 : decide (i.1 = 0) with
      | true =>
        rw [h0] at h
        cases h
        rw [decide_eq_true_eq] at h0
        have hk : x.toNatClampNeg = i.2.2.toNat := by
          unfold xi_z at i2
          rw [h0] at i2
          omega
        rw [hk] at run
        exact ⟨r, _, none, rn_le_rf r, he, xs_cons (xv_gi (xi_c he _)) hs0, hh, fun _ _ => rfl, run⟩
      | false =>
        rw [h0] at h
        cases h
        have hs256 : sx_ch ((q + 1) / 128) x.toNatClampNeg < 256 := Nat.mod_lt _ (by decide)
        have hz := ofNat_small hs256
        obtain ⟨r', k1, k2, k3, k4⟩ := xo_new_ok (lo := 0) (hi := 255) he (x := Int32.ofNat (sx_ch ((q + 1) / 128) x.toNatClampNeg)) (by omega) (by omega)
        exact ⟨r', _, none, k1, k2, xs_cons (xv_gi k3) (xs_g_mono k1 hs0), xh_g_mono k1 k4 hh, fun _ _ => rfl, run⟩
  · cases h
end XSS
def xs_h (M : Nat → Bool) (G : Nat → Option CT) (ini : Bool) (pl : Nat → Option (Nat × Nat × Nat)) (fty : Nat → Nat → Nat) (i : Instr) (pc : Nat) (S : List XV) (e : XE) : Option (Nat × List XV × XE) := match i with
  | .getfield x => match ea_rd (pl x) with
    | some (ci, k) => xs_gf G ci k pc S e
    | none => xs_sf (pl x) pc S e
  | .getstatic x => match pl x with
    | some (25, _, _) => some (pc + 3, .inl (0, 0, 1) :: S, e)
    | some (27, _, _) => some (pc + 3, .inr (.inr 3) :: S, e)
    | _ => none
  | .putfield x => match ea_wr ini (pl x) with
    | some (ci, k) => xs_pf M G fty ci k pc S e
    | none => none
  | .iaload => xs_al 0 G pc S e
  | .baload => match xs_al 2 G pc S e with
    | some f => some f
    | none => xs_sb pc S e
  | .iastore => xs_as M G pc S e
  | .bastore => xs_bs M G pc S e
  | .laload => xs_ll G pc S e
  | .lastore => xs_lst M G pc S e
  | .aaload => xs_aa G pc S e
  | .arraylength => match xs_len G pc S e with
    | some f => some f
    | none => xs_sl pc S e
  | .ldc x => match pl x with
    | some (6, v, _) => some (pc + 2, .inl (0, 0, (Int32.ofNat v).toInt) :: S, e)
    | some (23, q + 1, _) => bif Nat.beq ((q + 1) % 2) 0 then some (pc + 2, .inr (.inr (q + 4)) :: S, e) else none
    | _ => none
  | .ldc_w x => match pl x with
    | some (6, v, _) => some (pc + 3, .inl (0, 0, (Int32.ofNat v).toInt) :: S, e)
    | some (23, q + 1, _) => bif Nat.beq ((q + 1) % 2) 0 then some (pc + 3, .inr (.inr (q + 4)) :: S, e) else none
    | _ => none
  | .ldc2_w x => match pl x with
    | some (7, _, _) => some (pc + 3, .inr (.inr 0) :: S, e)
    | _ => none
  | _ => none
theorem xs_h_ok {r : RN} {M : Nat → Bool} {G : Nat → Option CT} {ini : Bool} {pl : Nat → Option (Nat × Nat × Nat)} {fty : Nat → Nat → Nat} {scr : Option (List AI)} {pc nL : Nat} {cl : List (Nat × AV)} {cs : List AV} {C : List AC} {e : XE} {S : List XV} {i : Instr} {f : Nat × List XV × XE} (he : xe_g r e) (hs : xs_g r S cs) (hh : xh_g r G e C) (h : xs_h M G ini pl fty i pc S e = some f) : xh_r r M G ini pl fty scr i pc cs C f ∧ ea_p i pc nL cl cs = none := by
  cases i with
  | getfield x =>
    refine ⟨?_, rfl⟩
    unfold xs_h at h
    dsimp only at h
    split at h
    · rename_i ci k hp
      exact xs_gf_ok he hs hh hp h
    · rename_i hp
      exact xs_sf_ok he hs hh hp h
  | getstatic x =>
    refine ⟨?_, rfl⟩
    unfold xs_h at h
    dsimp only at h
    split at h
    · rename_i u1 u2 hp
      cases h
      exact ⟨r, _, none, rn_le_rf r, he, xs_cons (xv_gi (xi_c he 1)) hs, hh, fun _ _ => rfl, by simp only [ea_h, hp]⟩
    · rename_i u1 u2 hp
      cases h
      exact ⟨r, .inr (.inr (.inr (.inr 0))) :: cs, none, rn_le_rf r, he, xs_cons (a := .inr (.inr 3)) rfl hs, hh, fun _ _ => rfl, by simp only [ea_h, hp]⟩
    · cases h
  | putfield x =>
    refine ⟨?_, rfl⟩
    unfold xs_h at h
    dsimp only at h
    split at h
    · rename_i ci k hp
      exact xs_pf_ok he hs hh hp h
    · cases h
  | iaload => exact ⟨xs_al_ok (by decide) he hs hh h (fun x y a n d us t h1 h2 h3 => by simp only [ea_h, h1, h2, h3]), rfl⟩
  | baload =>
    refine ⟨?_, rfl⟩
    unfold xs_h at h
    dsimp only at h
    split at h
    · rename_i f' hf
      cases h
      exact xs_al_ok (by decide) he hs hh hf (fun x y a n d us t h1 h2 h3 => by simp only [ea_h, h1, h2, h3])
    · exact xs_sb_ok he hs hh h
  | iastore => exact ⟨xs_as_ok he hs hh h, rfl⟩
  | bastore => exact ⟨xs_bs_ok nar_byte he hs hh h, rfl⟩
  | laload => exact ⟨xs_ll_ok he hs hh h, rfl⟩
  | lastore => exact ⟨xs_lst_ok he hs hh h, rfl⟩
  | aaload => exact ⟨xs_aa_ok he hs hh h, rfl⟩
  | arraylength =>
    refine ⟨?_, rfl⟩
    unfold xs_h at h
    dsimp only at h
    split at h
    · rename_i f' hf
      cases h
      exact xs_len_ok he hs hh hf
    · exact xs_sl_ok he hs hh h
  | ldc x =>
    refine ⟨?_, rfl⟩
    unfold xs_h at h
    dsimp only at h
    split at h
    · rename_i v u hp
      cases h
      exact ⟨r, _, none, rn_le_rf r, he, xs_cons (xv_gi (xi_c he (Int32.ofNat v))) hs, hh, fun _ _ => rfl, by simp only [ea_h, hp]⟩
    · rename_i q u hp
      cases hb : Nat.beq ((q + 1) % 2) 0 with
      | false => rw [hb] at h; cases h
      | true =>
        rw [hb] at h
        cases h
        exact ⟨r, .inr (.inr (.inr (.inr (q + 1)))) :: cs, none, rn_le_rf r, he, xs_cons (a := .inr (.inr (q + 4))) rfl hs, hh, fun _ _ => rfl, by simp only [ea_h, hp, hb, cond_true]⟩
    · cases h
  | ldc_w x =>
    refine ⟨?_, rfl⟩
    unfold xs_h at h
    dsimp only at h
    split at h
    · rename_i v u hp
      cases h
      exact ⟨r, _, none, rn_le_rf r, he, xs_cons (xv_gi (xi_c he (Int32.ofNat v))) hs, hh, fun _ _ => rfl, by simp only [ea_h, hp]⟩
    · rename_i q u hp
      cases hb : Nat.beq ((q + 1) % 2) 0 with
      | false => rw [hb] at h; cases h
      | true =>
        rw [hb] at h
        cases h
        exact ⟨r, .inr (.inr (.inr (.inr (q + 1)))) :: cs, none, rn_le_rf r, he, xs_cons (a := .inr (.inr (q + 4))) rfl hs, hh, fun _ _ => rfl, by simp only [ea_h, hp, hb, cond_true]⟩
    · cases h
  | ldc2_w x =>
    refine ⟨?_, rfl⟩
    unfold xs_h at h
    dsimp only at h
    split at h
    · rename_i v u hp
      cases h
      exact ⟨r, _, none, rn_le_rf r, he, xs_cons (xv_gl r (Int64.ofNat v)) hs, hh, fun _ _ => rfl, by simp only [ea_h, hp]⟩
    · cases h
  | _ => cases h
/-- a branch: what it compares, where it goes -/
def xs_br (i : Instr) (pc : Nat) (S : List XV) : Option (Jvm.ClassFile.Cond × XI × XI × Nat × List XV) := match i with
  | .ifCond c off => match S with
    | .inl a :: S => match ea_to pc off with
      | some t => some (c, a, (0, 0, 0), t, S)
      | none => none
    | _ => none
  | .if_icmp c off => match S with
    | .inl b :: .inl a :: S => match ea_to pc off with
      | some t => some (c, a, b, t, S)
      | none => none
    | _ => none
  | _ => none
theorem ea_if_pt (c : Jvm.ClassFile.Cond) (x y : Int32) : ea_if c (.inl x) (.inl y) = some (ea_ck c x y) := rfl
theorem xs_br_ok {r : RN} {e : XE} {i : Instr} {pc nL : Nat} {cl : List (Nat × AV)} {cs : List AV} {S S' : List XV} {c : Jvm.ClassFile.Cond} {a b : XI} {t : Nat} (he : xe_g r e) (hs : xs_g r S cs) (h : xs_br i pc S = some (c, a, b, t, S')) : ∃ x y cs', xi_g r a x ∧ xi_g r b y ∧ xs_g r S' cs' ∧ ((ea_cp c x y ∧ ea_p i pc nL cl cs = some (t, cl, cs')) ∨ (¬ ea_cp c x y ∧ ea_p i pc nL cl cs = some (pc + 3, cl, cs'))) := by
  cases i with
  | ifCond c' off =>
    unfold xs_br at h
    dsimp only at h
    split at h
    · split at h
      · rename_i ht
        cases h
        obtain ⟨_, cs', rfl, ⟨x, rfl, hx⟩, hs1⟩ := xs_pop hs
        refine ⟨x, 0, cs', hx, xi_c he 0, hs1, ?_⟩
        have hk := ea_ck_ok c x 0
        cases hb : ea_ck c x 0 with
        | true => left; exact ⟨hk.mpr hb, by simp only [ea_p, ea_if_pt, ht, hb]⟩
        | false => right; exact ⟨fun hc => Bool.noConfusion ((hk.mp hc).symm.trans hb), by simp only [ea_p, ea_if_pt, ht, hb]⟩
      · cases h
    · cases h
  | if_icmp c' off =>
    unfold xs_br at h
    dsimp only at h
    split at h
    · split at h
      · rename_i ht
        cases h
        obtain ⟨_, _, rfl, ⟨y, rfl, hy⟩, hs1⟩ := xs_pop hs
        obtain ⟨_, cs', rfl, ⟨x, rfl, hx⟩, hs2⟩ := xs_pop hs1
        refine ⟨x, y, cs', hx, hy, hs2, ?_⟩
        have hk := ea_ck_ok c x y
        cases hb : ea_ck c x y with
        | true => left; exact ⟨hk.mpr hb, by simp only [ea_p, ea_if_pt, ht, hb]⟩
        | false => right; exact ⟨fun hc => Bool.noConfusion ((hk.mp hc).symm.trans hb), by simp only [ea_p, ea_if_pt, ht, hb]⟩
      · cases h
    · cases h
  | _ => cases h
