section
/-! THE CHECKER, instructions on cells; branches; Math; copies -/
theorem nar_byte (x : Int32) : -128 ≤ (vp_nar .byte x).toInt ∧ (vp_nar .byte x).toInt ≤ 127 := iv_byg_ok x
/-- Strings: a field, the length of their bytes, a byte -/
def xs_sf (r : Option (Nat × Nat × Nat)) (pc : Nat) (S : List XV) (e : XE) : Option (Nat × List XV × XE) := match S with
  | .inr (.inr (q + 4)) :: S => match r with
    | some (24, 0, _) => bif Nat.beq ((q + 1) % 2) 0 then some (pc + 3, .inr (.inr (q + 5)) :: S, e) else none
    | some (24, _ + 1, _) => bif Nat.beq ((q + 1) % 2) 0 then some (pc + 3, .inl (0, 0, 0) :: S, e) else none
    | _ => none
  | _ => none
def xs_sl (pc : Nat) (S : List XV) (e : XE) : Option (Nat × List XV × XE) := match S with
  | .inr (.inr (q + 4)) :: S => bif Nat.beq ((q + 1) % 2) 1 then some (pc + 1, .inl (0, 0, (Int32.ofNat (sx_len ((q + 1) / 128))).toInt) :: S, e) else none
  | _ => none
def xs_sb (pc : Nat) (S : List XV) (e : XE) : Option (Nat × List XV × XE) := match S with
  | .inl i :: .inr (.inr (q + 4)) :: S => bif Nat.beq ((q + 1) % 2) 1 && xs_ix e.2.1 i (sx_len ((q + 1) / 128)) then (bif decide (i.1 = 0) then some (pc + 1, .inl (0, 0, (Int32.ofNat (sx_ch ((q + 1) / 128) i.2.2.toNat)).toInt) :: S, e)
      else some (pc + 1, .inl (xo_new e 0 255).1 :: S, (xo_new e 0 255).2)) else none
  | _ => none
theorem ofNat_small {n : Nat} (h : n < 256) : (Int32.ofNat n).toInt = (n : Int) := Int32.toInt_ofNat_of_lt (by omega)
section XSS
variable {r : RN} {M : Nat → Bool} {G : Nat → Option CT} {ini : Bool} {pl : Nat → Option (Nat × Nat × Nat)} {fty : Nat → Nat → Nat} {scr : Option (List AI)} {pc : Nat} {cs : List AV} {C : List AC} {e : XE} {S : List XV} {f : Nat × List XV × XE}
theorem xs_sf_ok (he : xe_g r e) (hs : xs_g r S cs) (hh : xh_g r G e C) {x : Nat} (hr : ea_rd (pl x) = none) (h : xs_sf (pl x) pc S e = some f) : xh_r r M G ini pl fty scr (.getfield x) pc cs C f := by
  unfold xs_sf at h
  split at h
  · rename_i q S0
    obtain ⟨v0, cs0, rfl, hv0, hs0⟩ := xs_pop hs
    obtain rfl : v0 = .inr (.inr (.inr (.inr (q + 1)))) := hv0
    split at h
    · rename_i u hp
      cases hb : Nat.beq ((q + 1) % 2) 0 with
      | false => rw [hb] at h; cases h
      | true =>
        rw [hb] at h
        cases h
        exact ⟨r, .inr (.inr (.inr (.inr (q + 2)))) :: cs0, none, rn_le_rf r, he, xs_cons (a := .inr (.inr (q + 5))) rfl hs0, hh, fun _ _ => rfl, by
          unfold ea_h
          dsimp only
          rw [hr]
          dsimp only
          rw [hp]
          simp only [sx_f, hb, cond_true]⟩
    · rename_i j u hp
      cases hb : Nat.beq ((q + 1) % 2) 0 with
      | false => rw [hb] at h; cases h
      | true =>
        rw [hb] at h
        cases h
        exact ⟨r, .inl (.inl 0) :: cs0, none, rn_le_rf r, he, xs_cons (xv_gi (xi_c he 0)) hs0, hh, fun _ _ => rfl, by
          unfold ea_h
          dsimp only
          rw [hr]
          dsimp only
          rw [hp]
          simp only [sx_f, hb, cond_true]⟩
    · cases h
  · cases h
theorem xs_sl_ok (he : xe_g r e) (hs : xs_g r S cs) (hh : xh_g r G e C) (h : xs_sl pc S e = some f) : xh_r r M G ini pl fty scr .arraylength pc cs C f := by
  unfold xs_sl at h
  split at h
  · rename_i q S0
    obtain ⟨v0, cs0, rfl, hv0, hs0⟩ := xs_pop hs
    obtain rfl : v0 = .inr (.inr (.inr (.inr (q + 1)))) := hv0
    cases hb : Nat.beq ((q + 1) % 2) 1 with
    | false => rw [hb] at h; cases h
    | true =>
      rw [hb] at h
      cases h
      exact ⟨r, _, none, rn_le_rf r, he, xs_cons (xv_gi (xi_c he _)) hs0, hh, fun _ _ => rfl, by simp only [ea_h, hb, cond_true]⟩
  · cases h
theorem xs_sb_ok (he : xe_g r e) (hs : xs_g r S cs) (hh : xh_g r G e C) (h : xs_sb pc S e = some f) : xh_r r M G ini pl fty scr .baload pc cs C f := by
  unfold xs_sb at h
  split at h
  · rename_i i q S0
    obtain ⟨_, _, rfl, ⟨x, rfl, hx⟩, hs1⟩ := xs_pop hs
    obtain ⟨v0, cs0, rfl, hv0, hs0⟩ := xs_pop hs1
    obtain rfl : v0 = .inr (.inr (.inr (.inr (q + 1)))) := hv0
    cases hb : (Nat.beq ((q + 1) % 2) 1 && xs_ix e.2.1 i (sx_len ((q + 1) / 128))) with
    | false => rw [hb] at h; cases h
    | true =>
      rw [hb] at h
      simp only [cond_true] at h
      simp only [Bool.and_eq_true] at hb
      obtain ⟨hb, hix⟩ := hb
      obtain ⟨i1, i2, i3⟩ := xs_ix_ok he hix hx
      have run : ea_h ini pl fty scr .baload pc (.inl (.inl x) :: .inr (.inr (.inr (.inr (q + 1)))) :: cs0) C = some (pc + 1, .inl (.inl (Int32.ofNat (sx_ch ((q + 1) / 128) x.toNatClampNeg))) :: cs0, none, 0, 0) := by simp only [ea_h, hb, cond_true, i1]
      cases h0 : decide (i.1 = 0) with
      | true =>
        rw [h0] at h
        cases h
        rw [decide_eq_true_eq] at h0
        have hk : x.toNatClampNeg = i.2.2.toNat := by
          unfold xi_z at i2
          rw [h0] at i2
          omega
        rw [hk] at run
        exact ⟨r, _, none, rn_le_rf r, he, xs_cons (xv_gi (xi_c he _)) hs0, hh, fun _ _ => rfl, run⟩
      | false =>
        rw [h0] at h
        cases h
        have hs256 : sx_ch ((q + 1) / 128) x.toNatClampNeg < 256 := Nat.mod_lt _ (by decide)
        have hz := ofNat_small hs256
        obtain ⟨r', k1, k2, k3, k4⟩ := xo_new_ok (lo := 0) (hi := 255) he (x := Int32.ofNat (sx_ch ((q + 1) / 128) x.toNatClampNeg)) (by omega) (by omega)
        exact ⟨r', _, none, k1, k2, xs_cons (xv_gi k3) (xs_g_mono k1 hs0), xh_g_mono k1 k4 hh, fun _ _ => rfl, run⟩
  · cases h
end XSS
def xs_h (M : Nat → Bool) (G : Nat → Option CT) (ini : Bool) (pl : Nat → Option (Nat × Nat × Nat)) (fty : Nat → Nat → Nat) (i : Instr) (pc : Nat) (S : List XV) (e : XE) : Option (Nat × List XV × XE) := match i with
  | .getfield x => match ea_rd (pl x) with
    | some (ci, k) => xs_gf G ci k pc S e
    | none => xs_sf (pl x) pc S e
  | .getstatic x => match pl x with
    | some (25, _, _) => some (pc + 3, .inl (0, 0, 1) :: S, e)
    | some (27, _, _) => some (pc + 3, .inr (.inr 3) :: S, e)
    | _ => none
  | .putfield x => match ea_wr ini (pl x) with
    | some (ci, k) => xs_pf M G fty ci k pc S e
    | none => none
  | .iaload => xs_al 0 G pc S e
  | .baload => match xs_al 2 G pc S e with
    | some f => some f
    | none => xs_sb pc S e
  | .iastore => xs_as M G pc S e
  | .bastore => xs_bs M G pc S e
  | .laload => xs_ll G pc S e
  | .lastore => xs_lst M G pc S e
  | .aaload => xs_aa G pc S e
  | .arraylength => match xs_len G pc S e with
    | some f => some f
    | none => xs_sl pc S e
  | .ldc x => match pl x with
    | some (6, v, _) => some (pc + 2, .inl (0, 0, (Int32.ofNat v).toInt) :: S, e)
    | some (23, q + 1, _) => bif Nat.beq ((q + 1) % 2) 0 then some (pc + 2, .inr (.inr (q + 4)) :: S, e) else none
    | _ => none
  | .ldc_w x => match pl x with
    | some (6, v, _) => some (pc + 3, .inl (0, 0, (Int32.ofNat v).toInt) :: S, e)
    | some (23, q + 1, _) => bif Nat.beq ((q + 1) % 2) 0 then some (pc + 3, .inr (.inr (q + 4)) :: S, e) else none
    | _ => none
  | .ldc2_w x => match pl x with
    | some (7, _, _) => some (pc + 3, .inr (.inr 0) :: S, e)
    | _ => none
  | _ => none
theorem xs_h_ok {r : RN} {M : Nat → Bool} {G : Nat → Option CT} {ini : Bool} {pl : Nat → Option (Nat × Nat × Nat)} {fty : Nat → Nat → Nat} {scr : Option (List AI)} {pc nL : Nat} {cl : List (Nat × AV)} {cs : List AV} {C : List AC} {e : XE} {S : List XV} {i : Instr} {f : Nat × List XV × XE} (he : xe_g r e) (hs : xs_g r S cs) (hh : xh_g r G e C) (h : xs_h M G ini pl fty i pc S e = some f) : xh_r r M G ini pl fty scr i pc cs C f ∧ ea_p i pc nL cl cs = none := by
  cases i with
  | getfield x =>
    refine ⟨?_, rfl⟩
    unfold xs_h at h
    dsimp only at h
    split at h
    · rename_i ci k hp
      exact xs_gf_ok he hs hh hp h
    · rename_i hp
      exact xs_sf_ok he hs hh hp h
  | getstatic x =>
    refine ⟨?_, rfl⟩
    unfold xs_h at h
    dsimp only at h
    split at h
    · rename_i u1 u2 hp
      cases h
      exact ⟨r, _, none, rn_le_rf r, he, xs_cons (xv_gi (xi_c he 1)) hs, hh, fun _ _ => rfl, by simp only [ea_h, hp]⟩
    · rename_i u1 u2 hp
      cases h
      exact ⟨r, .inr (.inr (.inr (.inr 0))) :: cs, none, rn_le_rf r, he, xs_cons (a := .inr (.inr 3)) rfl hs, hh, fun _ _ => rfl, by simp only [ea_h, hp]⟩
    · cases h
  | putfield x =>
    refine ⟨?_, rfl⟩
    unfold xs_h at h
    dsimp only at h
    split at h
    · rename_i ci k hp
      exact xs_pf_ok he hs hh hp h
    · cases h
  | iaload => exact ⟨xs_al_ok (by decide) he hs hh h (fun x y a n d us t h1 h2 h3 => by simp only [ea_h, h1, h2, h3]), rfl⟩
  | baload =>
    refine ⟨?_, rfl⟩
    unfold xs_h at h
    dsimp only at h
    split at h
    · rename_i f' hf
      cases h
      exact xs_al_ok (by decide) he hs hh hf (fun x y a n d us t h1 h2 h3 => by simp only [ea_h, h1, h2, h3])
    · exact xs_sb_ok he hs hh h
  | iastore => exact ⟨xs_as_ok he hs hh h, rfl⟩
  | bastore => exact ⟨xs_bs_ok nar_byte he hs hh h, rfl⟩
  | laload => exact ⟨xs_ll_ok he hs hh h, rfl⟩
  | lastore => exact ⟨xs_lst_ok he hs hh h, rfl⟩
  | aaload => exact ⟨xs_aa_ok he hs hh h, rfl⟩
  | arraylength =>
    refine ⟨?_, rfl⟩
    unfold xs_h at h
    dsimp only at h
    split at h
    · rename_i f' hf
      cases h
      exact xs_len_ok he hs hh hf
    · exact xs_sl_ok he hs hh h
  | ldc x =>
    refine ⟨?_, rfl⟩
    unfold xs_h at h
    dsimp only at h
    split at h
    · rename_i v u hp
      cases h
      exact ⟨r, _, none, rn_le_rf r, he, xs_cons (xv_gi (xi_c he (Int32.ofNat v))) hs, hh, fun _ _ => rfl, by simp only [ea_h, hp]⟩
    · rename_i q u hp
      cases hb : Nat.beq ((q + 1) % 2) 0 with
      | false => rw [hb] at h; cases h
      | true =>
        rw [hb] at h
        cases h
        exact ⟨r, .inr (.inr (.inr (.inr (q + 1)))) :: cs, none, rn_le_rf r, he, xs_cons (a := .inr (.inr (q + 4))) rfl hs, hh, fun _ _ => rfl, by simp only [ea_h, hp, hb, cond_true]⟩
    · cases h
  | ldc_w x =>
    refine ⟨?_, rfl⟩
    unfold xs_h at h
    dsimp only at h
    split at h
    · rename_i v u hp
      cases h
      exact ⟨r, _, none, rn_le_rf r, he, xs_cons (xv_gi (xi_c he (Int32.ofNat v))) hs, hh, fun _ _ => rfl, by simp only [ea_h, hp]⟩
    · rename_i q u hp
      cases hb : Nat.beq ((q + 1) % 2) 0 with
      | false => rw [hb] at h; cases h
      | true =>
        rw [hb] at h
        cases h
        exact ⟨r, .inr (.inr (.inr (.inr (q + 1)))) :: cs, none, rn_le_rf r, he, xs_cons (a := .inr (.inr (q + 4))) rfl hs, hh, fun _ _ => rfl, by simp only [ea_h, hp, hb, cond_true]⟩
    · cases h
  | ldc2_w x =>
    refine ⟨?_, rfl⟩
    unfold xs_h at h
    dsimp only at h
    split at h
    · rename_i v u hp
      cases h
      exact ⟨r, _, none, rn_le_rf r, he, xs_cons (xv_gl r (Int64.ofNat v)) hs, hh, fun _ _ => rfl, by simp only [ea_h, hp]⟩
    · cases h
  | _ => cases h
/-- a branch: what it compares, where it goes -/
def xs_br (i : Instr) (pc : Nat) (S : List XV) : Option (Jvm.ClassFile.Cond × XI × XI × Nat × List XV) := match i with
  | .ifCond c off => match S with
    | .inl a :: S => match ea_to pc off with
      | some t => some (c, a, (0, 0, 0), t, S)
      | none => none
    | _ => none
  | .if_icmp c off => match S with
    | .inl b :: .inl a :: S => match ea_to pc off with
      | some t => some (c, a, b, t, S)
      | none => none
    | _ => none
  | _ => none
theorem ea_if_pt (c : Jvm.ClassFile.Cond) (x y : Int32) : ea_if c (.inl x) (.inl y) = some (ea_ck c x y) := rfl
theorem xs_br_ok {r : RN} {e : XE} {i : Instr} {pc nL : Nat} {cl : List (Nat × AV)} {cs : List AV} {S S' : List XV} {c : Jvm.ClassFile.Cond} {a b : XI} {t : Nat} (he : xe_g r e) (hs : xs_g r S cs) (h : xs_br i pc S = some (c, a, b, t, S')) : ∃ x y cs', xi_g r a x ∧ xi_g r b y ∧ xs_g r S' cs' ∧ ((ea_cp c x y ∧ ea_p i pc nL cl cs = some (t, cl, cs')) ∨ (¬ ea_cp c x y ∧ ea_p i pc nL cl cs = some (pc + 3, cl, cs'))) := by
  cases i with
  | ifCond c' off =>
    unfold xs_br at h
    dsimp only at h
    split at h
    · split at h
      · rename_i ht
        cases h
        obtain ⟨_, cs', rfl, ⟨x, rfl, hx⟩, hs1⟩ := xs_pop hs
        refine ⟨x, 0, cs', hx, xi_c he 0, hs1, ?_⟩
        have hk := ea_ck_ok c x 0
        cases hb : ea_ck c x 0 with
        | true => left; exact ⟨hk.mpr hb, by simp only [ea_p, ea_if_pt, ht, hb]⟩
        | false => right; exact ⟨fun hc => Bool.noConfusion ((hk.mp hc).symm.trans hb), by simp only [ea_p, ea_if_pt, ht, hb]⟩
      · cases h
    · cases h
  | if_icmp c' off =>
    unfold xs_br at h
    dsimp only at h
    split at h
    · split at h
      · rename_i ht
        cases h
        obtain ⟨_, _, rfl, ⟨y, rfl, hy⟩, hs1⟩ := xs_pop hs
        obtain ⟨_, cs', rfl, ⟨x, rfl, hx⟩, hs2⟩ := xs_pop hs1
        refine ⟨x, y, cs', hx, hy, hs2, ?_⟩
        have hk := ea_ck_ok c x y
        cases hb : ea_ck c x y with
        | true => left; exact ⟨hk.mpr hb, by simp only [ea_p, ea_if_pt, ht, hb]⟩
        | false => right; exact ⟨fun hc => Bool.noConfusion ((hk.mp hc).symm.trans hb), by simp only [ea_p, ea_if_pt, ht, hb]⟩
      · cases h
    · cases h
  | _ => cases h
end
section
/-! THE CHECKER, switches, Math, copies, throws -/
def xs_sw1 (pc : Nat) (offs : List Int) (k : Int) (a : XI) (e : XE) : Option (List (Nat × Option XE)) := match offs with
  | [] => some []
  | o :: t => match ea_to pc o, xs_sw1 pc t (k + 1) a e with
    | some tt, some l => some ((tt, xr_eq e a (0, 0, k)) :: l)
    | _, _ => none
theorem xi_k {r : RN} {e : XE} (he : xe_g r e) {k : Int} {x : Int32} (h : x.toInt = k) : xi_g r (0, 0, k) x := ⟨he.1, by rw [xi_z]; dsimp only; omega⟩
theorem xs_sw1_ok {r : RN} {e : XE} (he : xe_g r e) {pc : Nat} {a : XI} {x : Int32} (hx : xi_g r a x) : ∀ {offs : List Int} {k : Int} {l : List (Nat × Option XE)}, xs_sw1 pc offs k a e = some l → ∀ {j : Nat} {o : Int}, x.toInt = k + j → offs[j]? = some o → ∃ tt e', ea_to pc o = some tt ∧ (tt, some e') ∈ l ∧ xe_g r e' ∧ e'.2.2.2 = e.2.2.2
  | [], k, l, h, j, o, hj, ho => by simp at ho
  | o0 :: t, k, l, h, j, o, hj, ho => by
    unfold xs_sw1 at h
    split at h
    · rename_i tt l0 h1 h2
      cases h
      cases j with
      | zero =>
        simp at ho
        subst ho
        obtain ⟨e', g1, g2, g3⟩ := xr_eq_ok he hx (xi_k he (k := k) (x := x) (by omega)) rfl
        exact ⟨tt, e', h1, by rw [g1]; exact List.mem_cons_self, g2, g3⟩
      | succ j =>
        have ho' : t[j]? = some o := by simpa using ho
        obtain ⟨tt', e', g1, g2, g3⟩ := xs_sw1_ok he hx h2 (j := j) (by omega) ho'
        exact ⟨tt', e', g1, List.mem_cons_of_mem _ g2, g3⟩
    · cases h
/-- the ways of a switch -/
def xs_sw (i : Instr) (pc : Nat) (S : List XV) (e : XE) : Option (List (Nat × Option XE) × List XV) := match i with
  | .tableswitch dflt lo hi offs => match S with
    | .inl a :: S => match ea_to pc dflt, xs_sw1 pc offs.toList lo a e with
      | some t, some l => if hi - lo < (offs.toList.length : Int) then some ((t, xr_le e a (0, 0, lo) (-1)) :: (t, xr_le e (0, 0, hi) a (-1)) :: l, S) else none
      | _, _ => none
    | _ => none
  | _ => none
theorem xs_sw_ok {r : RN} {e : XE} {i : Instr} {pc nL : Nat} {cl : List (Nat × AV)} {cs : List AV} {S S' : List XV} {l : List (Nat × Option XE)} (hbd : ∀ d lo hi offs, i = .tableswitch d lo hi offs → -2147483648 ≤ lo ∧ lo ≤ 2147483647 ∧ -2147483648 ≤ hi ∧ hi ≤ 2147483647) (he : xe_g r e) (hs : xs_g r S cs) (h : xs_sw i pc S e = some (l, S')) : ∃ t e' cs', (t, some e') ∈ l ∧ xe_g r e' ∧ e'.2.2.2 = e.2.2.2 ∧ xs_g r S' cs' ∧ ea_p i pc nL cl cs = some (t, cl, cs') := by
  cases i with
  | tableswitch dflt lo hi offs =>
    obtain ⟨b1, b2, b3, b4⟩ := hbd _ _ _ _ rfl
    unfold xs_sw at h
    dsimp only at h
    split at h
    · rename_i a S0
      split at h
      · rename_i t l0 h1 h2
        split at h
        · rename_i hlen
          cases h
          obtain ⟨_, cs', rfl, ⟨x, rfl, hx⟩, hs1⟩ := xs_pop hs
          have pt : ∀ z : Int, -2147483648 ≤ z → z ≤ 2147483647 → (Int32.ofInt z).toInt = z := fun z z1 z2 => by
            rw [Int32.toInt_ofInt]
            exact iv_bm z1 z2
          by_cases c1 : x.toInt < lo
          · obtain ⟨e', g1, g2, g3⟩ := xr_le_ok he hx (xi_k he (pt lo b1 b2)) (k := -1) (by rw [pt lo b1 b2]; omega)
            refine ⟨t, e', cs', by rw [g1]; exact List.mem_cons_self, g2, g3, hs1, ?_⟩
            have : ea_sw dflt lo hi offs (.inl x) = some dflt := by
              unfold ea_sw
              exact if_pos c1
            simp only [ea_p, this, h1]
          · by_cases c2 : hi < x.toInt
            · obtain ⟨e', g1, g2, g3⟩ := xr_le_ok he (xi_k he (pt hi b3 b4)) hx (k := -1) (by rw [pt hi b3 b4]; omega)
              refine ⟨t, e', cs', by rw [g1]; exact List.mem_cons_of_mem _ List.mem_cons_self, g2, g3, hs1, ?_⟩
              have : ea_sw dflt lo hi offs (.inl x) = some dflt := by
                unfold ea_sw
                rw [if_neg (show ¬ ea_hi (.inl x) < lo from c1)]
                exact if_pos c2
              simp only [ea_p, this, h1]
            · have hj : (x.toInt - lo).toNat < offs.toList.length := by omega
              obtain ⟨tt, e', g1, g2, g3, g4⟩ := xs_sw1_ok he hx h2 (j := (x.toInt - lo).toNat) (by omega) (List.getElem?_eq_some_iff.mpr ⟨hj, rfl⟩)
              refine ⟨tt, e', cs', List.mem_cons_of_mem _ (List.mem_cons_of_mem _ g2), g3, g4, hs1, ?_⟩
              have : ea_sw dflt lo hi offs (.inl x) = offs.toList[(x.toInt - lo).toNat]? := by
                unfold ea_sw
                rw [if_neg (show ¬ ea_hi (.inl x) < lo from c1), if_neg (show ¬ hi < ea_lo (.inl x) from c2)]
                exact if_pos ⟨c1, c2⟩
              simp only [ea_p, this, List.getElem?_eq_some_iff.mpr ⟨hj, rfl⟩, g1]
        · cases h
      · cases h
    · cases h
  | _ => cases h
/-- the greater, the lesser -/
def iv_mxg (i j : AI) : AI := iv_mk (max (ea_lo i) (ea_lo j)) (max (ea_hi i) (ea_hi j))
theorem iv_mxg_ok (i j : AI) (x y : Int32) (hx : ea_gi i x) (hy : ea_gi j y) : ea_gi (iv_mxg i j) (if x < y then y else x) := by
  have a := ea_bd hx
  have b := ea_bd hy
  split
  · rename_i h
    have := Int32.lt_iff_toInt_lt.mp h
    exact iv_in (by omega) (by omega)
  · rename_i h
    have : ¬ x.toInt < y.toInt := fun h' => h (Int32.lt_iff_toInt_lt.mpr h')
    exact iv_in (by omega) (by omega)
def iv_mng (i j : AI) : AI := iv_mk (min (ea_lo i) (ea_lo j)) (min (ea_hi i) (ea_hi j))
theorem iv_mng_ok (i j : AI) (x y : Int32) (hx : ea_gi i x) (hy : ea_gi j y) : ea_gi (iv_mng i j) (if y < x then y else x) := by
  have a := ea_bd hx
  have b := ea_bd hy
  split
  · rename_i h
    have := Int32.lt_iff_toInt_lt.mp h
    exact iv_in (by omega) (by omega)
  · rename_i h
    have : ¬ y.toInt < x.toInt := fun h' => h (Int32.lt_iff_toInt_lt.mpr h')
    exact iv_in (by omega) (by omega)
def xs_wt (S : List XV) : Nat := match S with
  | [] => 0
  | a :: t => xv_cat a + xs_wt t
theorem xs_wt_ok {r : RN} : ∀ {S : List XV} {cs : List AV}, xs_g r S cs → ea_wt cs = xs_wt S
  | [], [], _ => rfl
  | a :: S, v :: cs, h => by
    show ea_cat v + ea_wt cs = xv_cat a + xs_wt S
    rw [xs_wt_ok h.2, xv_g_cat h.1]
  | [], _ :: _, h => h.elim
  | _ :: _, [], h => h.elim
def xs_mm (i : Instr) (pl : Nat → Option (Nat × Nat × Nat)) (S : List XV) (e : XE) : Option (List XV × XE) := match i with
  | .invokestatic x => match pl x, S with
    | some (16, _), .inl b :: .inl a :: T => some (.inl (xo_2 (fun x y => if x < y then y else x) iv_mxg e a b).1 :: T, (xo_2 (fun x y => if x < y then y else x) iv_mxg e a b).2)
    | some (17, _), .inl b :: .inl a :: T => some (.inl (xo_2 (fun x y => if y < x then y else x) iv_mng e a b).1 :: T, (xo_2 (fun x y => if y < x then y else x) iv_mng e a b).2)
    | _, _ => none
  | _ => none
theorem xs_mm_ok {r : RN} {e e' : XE} {i : Instr} {pl : Nat → Option (Nat × Nat × Nat)} {S T : List XV} {cs : List AV} (he : xe_g r e) (hs : xs_g r S cs) (h : xs_mm i pl S e = some (T, e')) : ∃ x r' cs', i = .invokestatic x ∧ rn_le r r' ∧ xe_g r' e' ∧ e'.2.2.2 = e.2.2.2 ∧ xs_g r' T cs' ∧ ea_mm (pl x) cs = some cs' := by
  cases i with
  | invokestatic x =>
    unfold xs_mm at h
    dsimp only at h
    split at h
    · rename_i hp
      cases h
      obtain ⟨_, _, rfl, ⟨y, rfl, hy⟩, hs1⟩ := xs_pop hs
      obtain ⟨_, cs', rfl, ⟨z, rfl, hz⟩, hs2⟩ := xs_pop hs1
      obtain ⟨r', k1, k2, k3, k4⟩ := xo_2_ok (f := fun x y => if x < y then y else x) iv_mxg_ok he hz hy
      exact ⟨x, r', _, rfl, k1, k2, k4, xs_cons (xv_gi k3) (xs_g_mono k1 hs2), by rw [hp]; rfl⟩
    · rename_i hp
      cases h
      obtain ⟨_, _, rfl, ⟨y, rfl, hy⟩, hs1⟩ := xs_pop hs
      obtain ⟨_, cs', rfl, ⟨z, rfl, hz⟩, hs2⟩ := xs_pop hs1
      obtain ⟨r', k1, k2, k3, k4⟩ := xo_2_ok (f := fun x y => if y < x then y else x) iv_mng_ok he hz hy
      exact ⟨x, r', _, rfl, k1, k2, k4, xs_cons (xv_gi k3) (xs_g_mono k1 hs2), by rw [hp]; rfl⟩
    · cases h
  | _ => cases h
theorem ok_mm {P : EP} {m pc x : Nat} {L : List (Nat × AV)} {S T : List AV} {C : List AC} {K : Option AV ⊕ Nat → List AC → Prop} (hc : ep_cod P m pc = some (.invokestatic x, 3)) (hm : ea_mm (ep_pl P m x) S = some T) (hw : (Nat.ble (ea_wt T) 80 && Nat.ble 1 (ep_dep P m)) = true) (h : ok_ P m (pc + 3) L T C K) : ok_ P m pc L S C K := by
  refine ok_step 0 (fun k w => ?_) h
  unfold ea_1
  rw [hc]
  show (match ea_mm _ S with | some T => _ | none => _) = _
  rw [hm]
  dsimp only
  rw [hw]
  simp only [cond_true]
  rw [ea_fn_eq, ea_fS_eq]
/-- types of elements: all of the one go into the other -/
def ft_le (f g : FT) : Bool := match f, g with
  | .inl p, .inl q => decide (q.1 ≤ p.1) && decide (p.2 ≤ q.2)
  | _, _ => false
def fl_le (fs gs : List FT) : Bool := match fs, gs with
  | [], [] => true
  | f :: fs, g :: gs => ft_le f g && fl_le fs gs
  | _, _ => false
theorem ft_le_ok {f g : FT} (h : ft_le f g = true) {v : AV} (hv : ft_g f v) : ft_g g v := by
  match f, g, h, hv with
  | .inl p, .inl q, h, ⟨x, e, h1, h2⟩ =>
    have h' : (decide (q.1 ≤ p.1) && decide (p.2 ≤ q.2)) = true := h
    simp only [Bool.and_eq_true, decide_eq_true_eq] at h'
    exact ⟨x, e, by omega, by omega⟩
theorem fl_le_ok : ∀ {fs gs : List FT}, fl_le fs gs = true → ∀ {k : Nat} {f : FT}, ea_nt fs k = some f → ∃ g, ea_nt gs k = some g ∧ ft_le f g = true
  | [], [], _, k, f, h => by cases h
  | f0 :: fs, g0 :: gs, hl, k, f, h => by
    unfold fl_le at hl
    simp only [Bool.and_eq_true] at hl
    cases k with
    | zero => cases h; exact ⟨g0, rfl, hl.1⟩
    | succ k => exact fl_le_ok hl.2 (k := k) h
  | [], _ :: _, hl, _, _, _ => by cases hl
  | _ :: _, [], hl, _, _, _ => by cases hl
/-- a copy of a whole array -/
def xs_cy (M : Nat → Bool) (G : Nat → Option CT) (S : List XV) (e : XE) : Option (List XV × XE) := match S with
  | .inl n :: .inl dp :: .inr (.inl b) :: .inl sp :: .inr (.inl a) :: T => match G a, G b with
    | some (.inr (t, n0, p, fs)), some (.inr (t1, n1, p1, gs)) => if t = t1 ∧ t < 2 ∧ n0 = n1 ∧ p = p1 ∧ n0 < 2147483648 ∧ n.1 = 0 ∧ n.2.2 = (n0 : Int) ∧ sp.1 = 0 ∧ sp.2.2 = 0 ∧ dp.1 = 0 ∧ dp.2.2 = 0 ∧ xs_wt T ≤ 8 ∧ M b = true ∧ ((t = 1 ∧ xR_n e.2.2.2.1 a = true) ∨ (t = 0 ∧ fl_le fs gs = true ∧ xR_c e.2.1 e.2.2.2.1 a p fs = true)) then some (T, xe_rf e b) else none
    | _, _ => none
  | _ => none
theorem xs_cy_ok {r : RN} {M : Nat → Bool} {G : Nat → Option CT} {e e' : XE} {S T : List XV} {cs : List AV} {C : List AC} (he : xe_g r e) (hs : xs_g r S cs) (hh : xh_g r G e C) (h : xs_cy M G S e = some (T, e')) : ∃ cs' C', xe_g r e' ∧ xs_g r T cs' ∧ xh_g r G e' C' ∧ (∀ b, M b = false → ea_nt C' b = ea_nt C b) ∧ ea_cy cs C = some (cs', C') := by
  unfold xs_cy at h
  split at h
  · rename_i n dp b sp a T0
    split at h
    · rename_i t n0 p fs t1 n1 p1 gs hGa hGb
      split at h
      · rename_i hc
        obtain ⟨rfl, ht, rfl, rfl, hn, c1, c2, c3, c4, c5, c6, hw, hM, hle⟩ := hc
        cases h
        obtain ⟨_, _, rfl, ⟨x1, rfl, h1⟩, hs1⟩ := xs_pop hs
        obtain ⟨_, _, rfl, ⟨x2, rfl, h2⟩, hs2⟩ := xs_pop hs1
        obtain ⟨v3, _, rfl, h3, hs3⟩ := xs_pop hs2
        obtain rfl : v3 = .inr (.inl (some b)) := h3
        obtain ⟨_, _, rfl, ⟨x4, rfl, h4⟩, hs4⟩ := xs_pop hs3
        obtain ⟨v5, cs', rfl, h5, hs5⟩ := xs_pop hs4
        obtain rfl : v5 = .inr (.inl (some a)) := h5
        have e1 : x1 = Int32.ofNat n0 := by
          apply Int32.toInt_inj.mp
          rw [h1.2, xi_z, c1, c2, show (Int32.ofNat n0).toInt = ((n0 : Int)).bmod (2 ^ 32) from by rw [Int32.toInt_ofNat'], iv_bm (by omega) (by omega)]
          omega
        have e2 : x2 = 0 := by
          apply Int32.toInt_inj.mp
          rw [h2.2, xi_z, c5, c6]
          show 0 * _ + 0 = (0 : Int)
          omega
        have e4 : x4 = 0 := by
          apply Int32.toInt_inj.mp
          rw [h4.2, xi_z, c3, c4]
          show 0 * _ + 0 = (0 : Int)
          omega
        obtain ⟨d, us, g1, g2⟩ := hh.2.1 a t n0 p fs hGa
        obtain ⟨d', us', f1, f2⟩ := hh.2.1 b t n0 p gs hGb
        refine ⟨cs', C.set b (.inl (t, n0, d, us)), he, hs5, ⟨fun b' cj fs' hG' => ?_, fun b' kd' n' p' fs' hG' => ?_, fun q hq => ?_⟩, fun b' hb' => ?_, ?_⟩
        · obtain ⟨vs', n1, n2⟩ := hh.1 b' cj fs' hG'
          have hab : b ≠ b' := by rintro rfl; rw [hGb] at hG'; cases hG'
          exact ⟨vs', by rw [nt_set_ne hab]; exact n1, n2⟩
        · by_cases hab : b = b'
          · subst hab
            rw [hGb] at hG'
            cases hG'
            refine ⟨d, us, nt_set_self f1, fun j hj => Or.inl ?_⟩
            rcases hle with ⟨rfl, hrn⟩ | ⟨rfl, hle, hrc⟩
            · exact (g2 j hj).elim id (fun ⟨q, q1, q2, _⟩ => absurd q2 (xR_n_ok hrn q q1))
            · have hg : el_g 0 p fs j (ea_al d us j) := (g2 j hj).elim id (fun ⟨q, q1, q2, q3⟩ => xR_1_ok he (by decide) (hh.2.2 q q1) (by rw [q2]; exact g1) q3 (xR_c_mem hrc q q1 q2))
              obtain ⟨f0, k1, k2⟩ := el_get (by decide) hg
              obtain ⟨g0, k3, k4⟩ := fl_le_ok hle k1
              exact el_put (by decide) ⟨g0, k3, ft_le_ok k4 k2⟩
          · obtain ⟨d2, us2, n1, n2⟩ := hh.2.1 b' kd' n' p' fs' hG'
            refine ⟨d2, us2, by rw [nt_set_ne hab]; exact n1, fun j hj => ?_⟩
            rcases n2 j hj with w | ⟨q, q1, q2, q3⟩
            · exact Or.inl w
            · exact Or.inr ⟨q, xe_rf_in q1 (by rw [q2]; exact fun h => hab h.symm), q2, q3⟩
        · obtain ⟨hq1, hq2⟩ := xe_rf_mem hq
          obtain ⟨kd', n', d2, us2, j, x, n1, n2⟩ := hh.2.2 q hq1
          exact ⟨kd', n', d2, us2, j, x, by rw [nt_set_ne (fun h => hq2 h.symm)]; exact n1, n2⟩
        · have hab : b ≠ b' := by rintro rfl; rw [hM] at hb'; cases hb'
          rw [nt_set_ne hab]
        · subst e1 e2 e4
          have hw' : ea_wt cs' ≤ 8 := by rw [xs_wt_ok hs5]; exact hw
          simp only [ea_cy, g1, f1]
          rw [if_pos ⟨trivial, ht, trivial, hn, trivial, trivial, trivial, hw'⟩]
      · cases h
    · cases h
  · cases h
theorem ok_cy {P : EP} {m pc x : Nat} {L : List (Nat × AV)} {S T : List AV} {C C' : List AC} {K : Option AV ⊕ Nat → List AC → Prop} (hc : ep_cod P m pc = some (.invokestatic x, 3)) (h9 : ea_is9 (ep_pl P m x) = true) (hm : ea_cy S C = some (T, C')) (hd : Nat.ble 1 (ep_dep P m) = true) (h : ok_ P m (pc + 3) L T C' K) : ok_ P m pc L S C K := by
  refine ok_step 0 (fun k w => ?_) h
  obtain ⟨u, hu⟩ := ea_is9_ok h9
  unfold ea_1
  rw [hc]
  show (match ea_mm _ S with | some T => _ | none => _) = _
  rw [show ea_mm (ep_pl P m x) S = none from by rw [hu]; rfl]
  dsimp only
  rw [h9]
  simp only [cond_true]
  rw [hm]
  dsimp only
  rw [hd]
  simp only [cond_true]
  rw [ea_fn_eq, ea_fL_eq]
/-- a throw -/
theorem ok_tw {P : EP} {m pc x ce : Nat} {L : List (Nat × AV)} {S : List AV} {C : List AC} {K : Option AV ⊕ Nat → List AC → Prop} (hc : ep_cod P m pc = some (.new x, 3)) (hx : ∃ q, ep_pl P m x = some (11, q)) (hw : Nat.ble (ea_wt S) 100 = true) (ht : ea_tw P m pc = some ce) (h : K (.inr ce) C) : ok_ P m pc L S C K := by
  refine ok_end (o := .inr ce) (C' := C) 0 (fun k w => ?_) h
  obtain ⟨q, hq⟩ := hx
  unfold ea_1
  rw [hc]
  dsimp only
  rw [show (Nat.beq (ea_len (.new x)) 0 || Nat.beq (ea_len (.new x)) 3) = true from rfl]
  simp only [cond_true]
  rw [show ea_p (.new x) pc (ep_nls P m) L S = none from rfl]
  dsimp only
  rw [show ea_h (ep_ini P m) (ep_pl P m) (ep_fty P) (ep_scr P m) (.new x) pc S C = none from by simp only [ea_h, hq]]
  dsimp only
  rw [show ea_rt (ep_rtp P m) (.new x) S = none from rfl]
  dsimp only
  rw [hw]
  simp only [cond_true]
  rw [ht]
  rfl
end
section
/-! THE CHECKER, contracts: kinds of arguments; which cells may be written (ranges); what is given; what may be thrown -/
abbrev AT : Type := (Int × Int) ⊕ (Nat ⊕ Nat)
def at_g (t : AT) (v : AV) : Prop := match t with
  | .inl q => ∃ x : Int32, v = .inl (.inl x) ∧ q.1 ≤ x.toInt ∧ x.toInt ≤ q.2
  | .inr (.inl k) => v = .inr (.inl (some k))
  | .inr (.inr 0) => ∃ y : Int64, v = .inr (.inr (.inl (some y)))
  | .inr (.inr 1) => v = .inr (.inr (.inr (.inl true)))
  | .inr (.inr 2) => v = .inr (.inr (.inr (.inl false)))
  | .inr (.inr (q + 3)) => v = .inr (.inr (.inr (.inr q)))
def xa_in (ts : List AT) (e : XE) : List XV × XE := match ts with
  | [] => ([], e)
  | .inl q :: t => (.inl (xo_new e q.1 q.2).1 :: (xa_in t (xo_new e q.1 q.2).2).1, (xa_in t (xo_new e q.1 q.2).2).2)
  | .inr u :: t => (.inr u :: (xa_in t e).1, (xa_in t e).2)
theorem at_u {r : RN} {u : Nat ⊕ Nat} {v : AV} (h : at_g (.inr u) v) : xv_g r (.inr u) v := by
  match u, h with
  | .inl k, h => exact h
  | .inr 0, h => exact h
  | .inr 1, h => exact h
  | .inr 2, h => exact h
  | .inr (_ + 3), h => exact h
theorem xa_in_ok : ∀ {ts : List AT} {vs : List AV} {r : RN} {e : XE}, xe_g r e → ea_rl at_g ts vs → ∃ r', rn_le r r' ∧ xe_g r' (xa_in ts e).2 ∧ xs_g r' (xa_in ts e).1 vs ∧ (xa_in ts e).2.2.2.2 = e.2.2.2
  | [], [], r, e, he, _ => ⟨r, rn_le_rf r, he, trivial, rfl⟩
  | .inl q :: t, v :: vs, r, e, he, h => by
    obtain ⟨⟨x, rfl, h1, h2⟩, h3⟩ := h
    obtain ⟨r1, k1, k2, k3, k4⟩ := xo_new_ok he h1 h2
    obtain ⟨r2, j1, j2, j3, j4⟩ := xa_in_ok k2 h3
    exact ⟨r2, rn_le_tr k1 j1, j2, xs_cons (xv_gi (xi_g_mono j1 k3)) j3, j4.trans k4⟩
  | .inr u :: t, v :: vs, r, e, he, h => by
    obtain ⟨h1, h3⟩ := h
    obtain ⟨r2, j1, j2, j3, j4⟩ := xa_in_ok he h3
    exact ⟨r2, j1, j2, xs_cons (at_u h1) j3, j4⟩
  | [], _ :: _, _, _, _, h => h.elim
  | .inl _ :: _, [], _, _, _, h => h.elim
  | .inr _ :: _, [], _, _, _, h => h.elim
def xa_ar (i : Nat) (as : List XV) : List (Nat × XV) := match as with
  | [] => []
  | a :: t => (i, a) :: xa_ar (if xv_cat a = 2 then i + 2 else i + 1) t
theorem xa_ar_ge : ∀ {as : List XV} {i : Nat} {q : Nat × XV}, q ∈ xa_ar i as → i ≤ q.1
  | [], i, q, h => nomatch h
  | a :: t, i, q, h => by
    rcases List.mem_cons.mp h with rfl | h
    · exact Nat.le_refl _
    · have := xa_ar_ge h
      split at this <;> omega
theorem xa_ar_ok {r : RN} : ∀ {as : List XV} {vs : List AV} (i : Nat), xs_g r as vs → xl_g r (xa_ar i as) (ea_ar i vs)
  | [], [], _, _ => fun q hq => nomatch hq
  | a :: as, v :: vs, i, h => by
    intro q hq
    show ∃ u, ea_lk ((i, v) :: ea_ar _ vs) q.1 = some u ∧ _
    rw [lk_cons]
    rcases List.mem_cons.mp hq with rfl | hq
    · exact ⟨v, if_pos rfl, h.1⟩
    · have hge := xa_ar_ge hq
      have hne : ¬ i = q.1 := by
        split at hge <;> omega
      rw [if_neg hne, xv_g_cat h.1]
      exact xa_ar_ok _ h.2 q hq
  | [], _ :: _, _, h => h.elim
  | _ :: _, [], _, h => h.elim
/-- a value is of a kind -/
def xa_fit (e : XE) (a : XV) (t : AT) : Bool := match a, t with
  | .inl i, .inl q => decide (q.1 ≤ (xi_b e.2.1 i).1) && decide ((xi_b e.2.1 i).2 ≤ q.2)
  | .inr (.inl k), .inr (.inl k') => Nat.beq k k'
  | .inr (.inr n), .inr (.inr n') => Nat.beq n n'
  | _, _ => false
theorem xa_fit_ok {r : RN} {e : XE} (he : xe_g r e) {a : XV} {t : AT} (h : xa_fit e a t = true) {v : AV} (hv : xv_g r a v) : at_g t v := by
  match a, t, h, hv with
  | .inl i, .inl q, h, ⟨x, ex, hx⟩ =>
    have h' : (decide (q.1 ≤ (xi_b e.2.1 i).1) && decide ((xi_b e.2.1 i).2 ≤ q.2)) = true := h
    simp only [Bool.and_eq_true, decide_eq_true_eq] at h'
    have b := xi_b_ok he hx
    exact ⟨x, ex, by omega, by omega⟩
  | .inr (.inl k), .inr (.inl k'), h, hv =>
    obtain rfl : k = k' := Nat.eq_of_beq_eq_true h
    exact hv
  | .inr (.inr n), .inr (.inr n'), h, hv =>
    obtain rfl : n = n' := Nat.eq_of_beq_eq_true h
    match n, hv with
    | 0, hv => exact hv
    | 1, hv => exact hv
    | 2, hv => exact hv
    | _ + 3, hv => exact hv
def xa_fits (e : XE) (as : List XV) (ts : List AT) : Bool := match as, ts with
  | [], [] => true
  | a :: as, t :: ts => xa_fit e a t && xa_fits e as ts
  | _, _ => false
theorem xa_fits_ok {r : RN} {e : XE} (he : xe_g r e) : ∀ {as : List XV} {ts : List AT} {vs : List AV}, xa_fits e as ts = true → xs_g r as vs → ea_rl at_g ts vs
  | [], [], [], _, _ => trivial
  | a :: as, t :: ts, v :: vs, h, hs => by
    unfold xa_fits at h
    simp only [Bool.and_eq_true] at h
    exact ⟨xa_fit_ok he h.1 hs.1, xa_fits_ok he h.2 hs.2⟩
  | [], _ :: _, _, h, _ => by cases h
  | _ :: _, [], _, h, _ => by cases h
  | [], [], _ :: _, _, hs => hs.elim
  | _ :: _, _ :: _, [], _, hs => hs.elim
/-- cells by ranges -/
def xm (l : List (Nat × Nat)) (a : Nat) : Bool := match l with
  | [] => false
  | q :: t => (Nat.ble q.1 a && Nat.blt a q.2) || xm t a
def xm_in (q : Nat × Nat) (l : List (Nat × Nat)) : Bool := match l with
  | [] => false
  | p :: t => (Nat.ble p.1 q.1 && Nat.ble q.2 p.2) || xm_in q t
theorem xm_in_ok {q : Nat × Nat} {a : Nat} (h1 : q.1 ≤ a) (h2 : a < q.2) : ∀ {l : List (Nat × Nat)}, xm_in q l = true → xm l a = true
  | [], h => by cases h
  | p :: t, h => by
    unfold xm_in at h
    unfold xm
    simp only [Bool.or_eq_true, Bool.and_eq_true] at h ⊢
    rcases h with ⟨g1, g2⟩ | h
    · left
      have g1' := Nat.le_of_ble_eq_true g1
      have g2' := Nat.le_of_ble_eq_true g2
      exact ⟨Nat.ble_eq_true_of_le (by omega), Nat.ble_eq_true_of_le (by omega)⟩
    · exact Or.inr (xm_in_ok h1 h2 h)
def xm_sub (l l' : List (Nat × Nat)) : Bool := match l with
  | [] => true
  | q :: t => xm_in q l' && xm_sub t l'
theorem xm_sub_ok {l' : List (Nat × Nat)} {a : Nat} : ∀ {l : List (Nat × Nat)}, xm_sub l l' = true → xm l a = true → xm l' a = true
  | [], _, h => by cases h
  | q :: t, hs, h => by
    unfold xm_sub at hs
    unfold xm at h
    simp only [Bool.or_eq_true, Bool.and_eq_true] at h hs
    rcases h with ⟨g1, g2⟩ | h
    · exact xm_in_ok (Nat.le_of_ble_eq_true g1) (blt_lt g2) hs.1
    · exact xm_sub_ok hs.2 h
/-- all cells are of their kinds -/
def xI (G : Nat → Option CT) (C : List AC) : Prop := xh_g (fun _ => 0, 1) G (1, [], [], [], []) C
theorem xo_k_mem : ∀ {O : List (Nat × Nat × XI)} {a k : Nat} {x : XI}, xo_k O a k = some x → (a, k, x) ∈ O
  | [], a, k, x, h => by cases h
  | q :: t, a, k, x, h => by
    unfold xo_k at h
    cases hb : (Nat.beq q.1 a && Nat.beq q.2.1 k) with
    | true =>
      rw [hb] at h
      cases h
      simp only [Bool.and_eq_true] at hb
      have e1 : q.1 = a := Nat.eq_of_beq_eq_true hb.1
      have e2 : q.2.1 = k := Nat.eq_of_beq_eq_true hb.2
      subst e1
      subst e2
      exact List.mem_cons_self
    | false =>
      rw [hb] at h
      exact List.mem_cons_of_mem _ (xo_k_mem h)
def xi_in1 (G : Nat → Option CT) (E : List (Nat × Int × Int)) (q : Nat × Nat × XI) : Bool := match G q.1 with
  | some (.inl (_, fs)) => match ea_nt fs q.2.1 with
    | some (.inl p) => decide (p.1 ≤ (xi_b E q.2.2).1) && decide ((xi_b E q.2.2).2 ≤ p.2)
    | _ => false
  | _ => false
def xi_inv (G : Nat → Option CT) (E : List (Nat × Int × Int)) (O : List (Nat × Nat × XI)) : Bool := match O with
  | [] => true
  | q :: t => xi_in1 G E q && xi_inv G E t
theorem xi_inv_mem {G : Nat → Option CT} {E : List (Nat × Int × Int)} : ∀ {O : List (Nat × Nat × XI)}, xi_inv G E O = true → ∀ q ∈ O, xi_in1 G E q = true
  | [], _, q, hq => nomatch hq
  | p :: t, h, q, hq => by
    unfold xi_inv at h
    simp only [Bool.and_eq_true] at h
    rcases List.mem_cons.mp hq with rfl | hq
    · exact h.1
    · exact xi_inv_mem h.2 q hq
def xi_R (G : Nat → Option CT) (E : List (Nat × Int × Int)) (R : List (Nat × XI × XI)) : Bool := match R with
  | [] => true
  | q :: t => (match G q.1 with
    | some (.inr (kd, _, p, fs)) => !(Nat.beq kd 1) && xR_1 E p fs q
    | _ => false) && xi_R G E t
theorem xi_R_mem {G : Nat → Option CT} {E : List (Nat × Int × Int)} : ∀ {R : List (Nat × XI × XI)}, xi_R G E R = true → ∀ q ∈ R, ∀ kd n p fs, G q.1 = some (.inr (kd, n, p, fs)) → kd ≠ 1 ∧ xR_1 E p fs q = true
  | [], _, q, hq, _, _, _, _, _ => nomatch hq
  | p0 :: t, h, q, hq, kd, n, p, fs, hG => by
    unfold xi_R at h
    simp only [Bool.and_eq_true] at h
    rcases List.mem_cons.mp hq with rfl | hq
    · have h1 := h.1
      rw [hG] at h1
      simp only [Bool.and_eq_true] at h1
      refine ⟨?_, h1.2⟩
      rintro rfl
      exact absurd h1.1 (by decide)
    · exact xi_R_mem h.2 q hq kd n p fs hG
/-- all that is known is of its kind -/
def xi_all (G : Nat → Option CT) (e : XE) : Bool := xi_inv G e.2.1 e.2.2.2.2 && xi_R G e.2.1 e.2.2.2.1
theorem xI_of {r : RN} {G : Nat → Option CT} {e : XE} {C : List AC} (he : xe_g r e) (hh : xh_g r G e C) (h' : xi_all G e = true) : xI G C := by
  unfold xi_all at h'
  simp only [Bool.and_eq_true] at h'
  obtain ⟨h, hRR⟩ := h'
  refine ⟨fun a ci fs hG => ?_, fun a kd n p fs hG => ?_, fun q hq => nomatch hq⟩
  rotate_left
  · obtain ⟨d, us, g1, g2⟩ := hh.2.1 a kd n p fs hG
    refine ⟨d, us, g1, fun j hj => Or.inl ?_⟩
    rcases g2 j hj with w | ⟨q, q1, q2, q3⟩
    · exact w
    · obtain ⟨z1, z2⟩ := xi_R_mem hRR q q1 kd n p fs (by rw [q2]; exact hG)
      exact xR_1_ok he z1 (hh.2.2 q q1) (by rw [q2]; exact g1) q3 z2
  obtain ⟨vs, g1, g2, g3⟩ := hh.1 a ci fs hG
  refine ⟨vs, g1, g2, fun k f hf => ?_⟩
  obtain ⟨v, j1, j2⟩ := g3 k f hf
  refine ⟨v, j1, ?_⟩
  show ft_g f v
  cases hx : xo_k e.2.2.2.2 a k with
  | none => rw [hx] at j2; exact j2
  | some x =>
    rw [hx] at j2
    obtain ⟨y, rfl, hy⟩ : ∃ y : Int32, v = .inl (.inl y) ∧ xi_g r x y := j2
    have h1 := xi_inv_mem h _ (xo_k_mem hx)
    unfold xi_in1 at h1
    dsimp only at h1
    rw [hG] at h1
    dsimp only at h1
    rw [hf] at h1
    match f, h1 with
    | .inl p, h1 =>
      have h' : (decide (p.1 ≤ (xi_b e.2.1 x).1) && decide ((xi_b e.2.1 x).2 ≤ p.2)) = true := h1
      simp only [Bool.and_eq_true, decide_eq_true_eq] at h'
      have b := xi_b_ok he hy
      exact ⟨y, rfl, by omega, by omega⟩
/-- behind a call: what was written is known no more -/
def xe_fr (e : XE) (M : List (Nat × Nat)) : XE := (e.1, e.2.1, e.2.2.1, e.2.2.2.1.filter (fun q => !xm M q.1), e.2.2.2.2.filter (fun q => !xm M q.1))
theorem xo_k_filter {M : List (Nat × Nat)} {a k : Nat} : ∀ {O : List (Nat × Nat × XI)}, xo_k (O.filter (fun q => !xm M q.1)) a k = if xm M a = true then none else xo_k O a k
  | [] => by simp [xo_k]
  | q :: t => by
    rw [List.filter_cons]
    have ih := xo_k_filter (M := M) (a := a) (k := k) (O := t)
    obtain ⟨qa, qk, qx⟩ := q
    rw [xo_k_cons]
    cases hq : xm M qa with
    | true =>
      simp only [Bool.not_true, Bool.false_eq_true, if_false]
      rw [ih]
      by_cases hc : qa = a ∧ qk = k
      · rw [← hc.1, if_pos hq, if_pos hq]
      · rw [if_neg hc]
    | false =>
      simp only [Bool.not_false, if_true]
      rw [xo_k_cons, ih]
      by_cases hc : qa = a ∧ qk = k
      · rw [if_pos hc, if_pos hc, ← hc.1, if_neg (by rw [hq]; exact Bool.false_ne_true)]
      · rw [if_neg hc, if_neg hc]
theorem xI_to {r : RN} {G : Nat → Option CT} {e : XE} {C C' : List AC} {M : List (Nat × Nat)} (hh : xh_g r G e C) (hI : xI G C') (hM : ∀ b, xm M b = false → ea_nt C' b = ea_nt C b) : xh_g r G (xe_fr e M) C' := by
  refine ⟨fun a ci fs hG => ?_, fun a kd n p fs hG => ?_, fun q hq => ?_⟩
  rotate_left
  · obtain ⟨d, us, g1, g2⟩ := hI.2.1 a kd n p fs hG
    exact ⟨d, us, g1, fun j hj => Or.inl ((g2 j hj).elim id (fun ⟨q, q1, _⟩ => nomatch q1))⟩
  rotate_left
  · show ∃ vs, _ ∧ xh_o r (e.2.2.2.2.filter (fun q => !xm M q.1)) a fs vs
    cases hm : xm M a with
    | true =>
      obtain ⟨vs, g1, g2, g3⟩ := hI.1 a ci fs hG
      refine ⟨vs, g1, g2, fun k f hf => ?_⟩
      rw [xo_k_filter, if_pos hm]
      exact g3 k f hf
    | false =>
      obtain ⟨vs, g1, g2, g3⟩ := hh.1 a ci fs hG
      refine ⟨vs, by rw [hM a hm]; exact g1, g2, fun k f hf => ?_⟩
      rw [xo_k_filter, if_neg (by rw [hm]; exact Bool.false_ne_true)]
      exact g3 k f hf
  · have hq' : q ∈ e.2.2.2.1.filter (fun q => !xm M q.1) := hq
    rw [List.mem_filter] at hq'
    have hm : xm M q.1 = false := by
      have := hq'.2
      cases hx : xm M q.1 with
      | false => rfl
      | true => rw [hx] at this; cases this
    obtain ⟨kd, n, d, us, j, x, n1, n2⟩ := hh.2.2 q hq'.1
    exact ⟨kd, n, d, us, j, x, by rw [hM _ hm]; exact n1, n2⟩
def fd_g (C : List AC) (a k : Nat) (x : Int32) : Prop := ∃ ci vs, ea_nt C a = some (.inr (ci, vs)) ∧ ea_nt vs k = some (.inl (.inl x))
theorem fd_one {C : List AC} {a k : Nat} {x y : Int32} (h1 : fd_g C a k x) (h2 : fd_g C a k y) : x = y := by
  obtain ⟨ci, vs, g1, g2⟩ := h1
  obtain ⟨ci', vs', j1, j2⟩ := h2
  rw [g1] at j1
  cases j1
  rw [g2] at j2
  cases j2
  rfl
/-- a contract: the method, its arguments, the cells that it may write, what it gives (0 nothing, 1 an int between bounds, 2 a long), what it may throw, bounds of fields that it asks for -/
abbrev CN : Type := Nat × List AT × List (Nat × Nat) × (Nat × Int × Int) × List Nat × List (Nat × Nat × Int × Int)
def rt_g (t : Nat × Int × Int) (v : Option AV) : Prop := match t.1 with
  | 0 => v = none
  | 1 => ∃ x : Int32, v = some (.inl (.inl x)) ∧ t.2.1 ≤ x.toInt ∧ x.toInt ≤ t.2.2
  | _ + 2 => ∃ y : Int64, v = some (.inr (.inr (.inl (some y))))
def cn_end (c : CN) (o : Option AV ⊕ Nat) : Prop := match o with
  | .inl v => rt_g c.2.2.2.1 v
  | .inr ce => ce ∈ c.2.2.2.2.1
def cn_post (G : Nat → Option CT) (c : CN) (C : List AC) : Option AV ⊕ Nat → List AC → Prop := fun o C' => xI G C' ∧ (∀ b, xm c.2.2.1 b = false → ea_nt C' b = ea_nt C b) ∧ cn_end c o
def cn_ok (P : EP) (G : Nat → Option CT) (c : CN) : Prop := ∀ (vs : List AV) (C : List AC), ea_rl at_g c.2.1 vs → xI G C → (∀ q ∈ c.2.2.2.2.2, ∃ x : Int32, fd_g C q.1 q.2.1 x ∧ q.2.2.1 ≤ x.toInt ∧ x.toInt ≤ q.2.2.2) → ok_ P c.1 0 (ea_ar 0 vs) [] C (cn_post G c C)
def xc_ret (t : Nat × Int × Int) (T : List XV) (e : XE) : List XV × XE := match t.1 with
  | 0 => (T, e)
  | 1 => (.inl (xo_new e t.2.1 t.2.2).1 :: T, (xo_new e t.2.1 t.2.2).2)
  | _ + 2 => (.inr (.inr 0) :: T, e)
theorem xc_ret_ok {r : RN} {e : XE} (he : xe_g r e) {t : Nat × Int × Int} {v : Option AV} (hv : rt_g t v) {T : List XV} {ct : List AV} (hT : xs_g r T ct) : ∃ r', rn_le r r' ∧ xe_g r' (xc_ret t T e).2 ∧ xs_g r' (xc_ret t T e).1 (v.toList ++ ct) ∧ (xc_ret t T e).2.2.2.2 = e.2.2.2 := by
  obtain ⟨t1, lo, hi⟩ := t
  match t1, hv with
  | 0, hv =>
    obtain rfl : v = none := hv
    exact ⟨r, rn_le_rf r, he, hT, rfl⟩
  | 1, ⟨x, hx, h1, h2⟩ =>
    subst hx
    obtain ⟨r1, k1, k2, k3, k4⟩ := xo_new_ok he h1 h2
    exact ⟨r1, k1, k2, xs_cons (xv_gi k3) (xs_g_mono k1 hT), k4⟩
  | _ + 2, ⟨y, hy⟩ =>
    subst hy
    exact ⟨r, rn_le_rf r, he, xs_cons (xv_gl r y) hT, rfl⟩
/-- which call it is -/
def xs_cl (own : Nat → Nat) (G : Nat → Option CT) (i : Instr) (pl : Nat → Option (Nat × Nat × Nat)) (S : List XV) : Option (Nat × List XV × List XV × Bool) := match i with
  | .invokestatic x => match pl x with
    | some (1, mj, n) => bif Nat.ble n S.length then some (mj, (S.take n).reverse, S.drop n, true) else none
    | some (13, mj, n) => bif Nat.ble n S.length then some (mj, (S.take n).reverse, S.drop n, false) else none
    | _ => none
  | .invokevirtual x => match pl x with
    | some (2, mj, n) => match S.drop n with
      | .inr (.inl a) :: T => match G a with
        | some (.inl (ci, _)) => bif Nat.beq ci (own mj) then some (mj, .inr (.inl a) :: (S.take n).reverse, T, true) else none
        | _ => none
      | _ => none
    | some (26, mj, n) => match S.drop n with
      | .inr (.inr (q + 4)) :: T => bif Nat.beq ((q + 1) % 2) 0 then some (mj, .inr (.inr (q + 4)) :: (S.take n).reverse, T, true) else none
      | _ => none
    | _ => none
  | _ => none
theorem xs_cl_ok {P : EP} {m : Nat} {G : Nat → Option CT} {i : Instr} {r : RN} {e : XE} {S as T : List XV} {cs : List AV} {C : List AC} {mj : Nat} {b : Bool} (hs : xs_g r S cs) (hh : xh_g r G e C) (h : xs_cl (ep_own P) G i (ep_pl P m) S = some (mj, as, T, b)) : ∃ q vs ct, ok_iv P m i cs = some q ∧ ea_cl (ep_own P) i q cs C = some (mj, vs, ct, b) ∧ xs_g r as vs ∧ xs_g r T ct ∧ ea_len i = 3 := by
  cases i with
  | invokestatic x =>
    unfold xs_cl at h
    dsimp only at h
    split at h
    · rename_i mj' n hp
      cases hb : Nat.ble n S.length with
      | false => rw [hb] at h; cases h
      | true =>
        rw [hb] at h
        cases h
        have hl := ea_rl_len hs
        obtain ⟨h1, h2⟩ := ea_rl_take n hs
        refine ⟨ep_pl P m x, (cs.take n).reverse, cs.drop n, ?_, ?_, ea_rl_rev h1, h2, rfl⟩
        · simp only [ok_iv, hp, ea_mm, ea_is9, cond_false]
        · rw [hp]
          simp only [ea_cl, ← hl, hb, cond_true]
    · rename_i mj' n hp
      cases hb : Nat.ble n S.length with
      | false => rw [hb] at h; cases h
      | true =>
        rw [hb] at h
        cases h
        have hl := ea_rl_len hs
        obtain ⟨h1, h2⟩ := ea_rl_take n hs
        refine ⟨ep_pl P m x, (cs.take n).reverse, cs.drop n, ?_, ?_, ea_rl_rev h1, h2, rfl⟩
        · simp only [ok_iv, hp, ea_mm, ea_is9, cond_false]
        · rw [hp]
          simp only [ea_cl, ← hl, hb, cond_true]
    · cases h
  | invokevirtual x =>
    unfold xs_cl at h
    dsimp only at h
    split at h
    · rename_i mj' n hp
      split at h
      · rename_i a T' hd
        split at h
        · rename_i ci fs hG
          cases hb : Nat.beq ci (ep_own P mj') with
          | false => rw [hb] at h; cases h
          | true =>
            rw [hb] at h
            cases h
            obtain ⟨h1, h2⟩ := ea_rl_take n hs
            rw [hd] at h2
            obtain ⟨v0, ct, hdr, hv0, h3⟩ := ea_rl_cons h2
            obtain rfl : v0 = .inr (.inl (some a)) := hv0
            obtain ⟨vs, g1, -⟩ := hh.1 a ci fs hG
            refine ⟨ep_pl P m x, .inr (.inl (some a)) :: (cs.take n).reverse, ct, rfl, ?_, xs_cons (a := .inr (.inl a)) rfl (ea_rl_rev h1), h3, rfl⟩
            rw [hp]
            simp only [ea_cl, hdr, g1, hb, cond_true]
        · cases h
      · cases h
    · rename_i mj' n hp
      split at h
      · rename_i q T' hd
        cases hb : Nat.beq ((q + 1) % 2) 0 with
        | false => rw [hb] at h; cases h
        | true =>
          rw [hb] at h
          cases h
          obtain ⟨h1, h2⟩ := ea_rl_take n hs
          rw [hd] at h2
          obtain ⟨v0, ct, hdr, hv0, h3⟩ := ea_rl_cons h2
          obtain rfl : v0 = .inr (.inr (.inr (.inr (q + 1)))) := hv0
          refine ⟨ep_pl P m x, .inr (.inr (.inr (.inr (q + 1)))) :: (cs.take n).reverse, ct, rfl, ?_, xs_cons (a := .inr (.inr (q + 4))) rfl (ea_rl_rev h1), h3, rfl⟩
          rw [hp]
          simp only [ea_cl, hdr, hb, cond_true]
      · cases h
    · cases h
  | _ => cases h
end
section
/-! THE CHECKER, its walk -/
def fZ {α : Type} (z : Int) (k : Int → α) : α := match z with
  | .ofNat n => ea_fn n (fun n => k (.ofNat n))
  | .negSucc n => ea_fn n (fun n => k (.negSucc n))
theorem fZ_eq {α : Type} (z : Int) (k : Int → α) : fZ z k = k z := by
  cases z with
  | ofNat n => unfold fZ; exact ea_fn_eq n (fun n => k (.ofNat n))
  | negSucc n => unfold fZ; exact ea_fn_eq n (fun n => k (.negSucc n))
def fX {α : Type} (i : XI) (k : XI → α) : α := fZ i.1 fun a => ea_fn i.2.1 fun b => fZ i.2.2 fun c => k (a, b, c)
theorem fX_eq {α : Type} (i : XI) (k : XI → α) : fX i k = k i := by rw [fX, fZ_eq, ea_fn_eq, fZ_eq]
def fS {α : Type} (S : List XV) (k : List XV → α) : α := match S with
  | .inl i :: t => fX i (fun i => k (.inl i :: t))
  | S => k S
theorem fS_eq {α : Type} (S : List XV) (k : List XV → α) : fS S k = k S := by
  unfold fS
  split
  · rw [fX_eq]
  · rfl
def fL {α : Type} (L : List (Nat × XV)) (k : List (Nat × XV) → α) : α := match L with
  | (n, .inl i) :: t => fX i (fun i => ea_fL t fun t => k ((n, .inl i) :: t))
  | L => k L
theorem fL_eq {α : Type} (L : List (Nat × XV)) (k : List (Nat × XV) → α) : fL L k = k L := by
  unfold fL
  split
  · rw [fX_eq, ea_fL_eq]
  · rfl
def fB {α : Type} (E : List (Nat × Int × Int)) (k : List (Nat × Int × Int) → α) : α := match E with
  | q :: t => ea_fn q.1 fun a => fZ q.2.1 fun lo => fZ q.2.2 fun hi => k ((a, lo, hi) :: t)
  | [] => k []
theorem fB_eq {α : Type} (E : List (Nat × Int × Int)) (k : List (Nat × Int × Int) → α) : fB E k = k E := by
  cases E with
  | nil => rfl
  | cons q t => unfold fB; dsimp only; rw [ea_fn_eq, fZ_eq, fZ_eq]
def fD {α : Type} (E : List (Nat × Nat × Int)) (k : List (Nat × Nat × Int) → α) : α := match E with
  | q :: t => ea_fn q.1 fun a => ea_fn q.2.1 fun lo => fZ q.2.2 fun hi => k ((a, lo, hi) :: t)
  | [] => k []
theorem fD_eq {α : Type} (E : List (Nat × Nat × Int)) (k : List (Nat × Nat × Int) → α) : fD E k = k E := by
  cases E with
  | nil => rfl
  | cons q t => unfold fD; dsimp only; rw [ea_fn_eq, ea_fn_eq, fZ_eq]
def fR {α : Type} (R : List (Nat × XI × XI)) (k : List (Nat × XI × XI) → α) : α := match R with
  | q :: t => ea_fn q.1 fun a => fX q.2.1 fun i => fX q.2.2 fun x => k ((a, i, x) :: t)
  | [] => k []
theorem fR_eq {α : Type} (R : List (Nat × XI × XI)) (k : List (Nat × XI × XI) → α) : fR R k = k R := by
  cases R with
  | nil => rfl
  | cons q t => unfold fR; dsimp only; rw [ea_fn_eq, fX_eq, fX_eq]
def fO {α : Type} (O : List (Nat × Nat × XI)) (k : List (Nat × Nat × XI) → α) : α := match O with
  | q :: t => ea_fn q.1 fun a => ea_fn q.2.1 fun i => fX q.2.2 fun x => k ((a, i, x) :: t)
  | [] => k []
theorem fO_eq {α : Type} (O : List (Nat × Nat × XI)) (k : List (Nat × Nat × XI) → α) : fO O k = k O := by
  cases O with
  | nil => rfl
  | cons q t => unfold fO; dsimp only; rw [ea_fn_eq, ea_fn_eq, fX_eq]
def fE {α : Type} (e : XE) (k : XE → α) : α := ea_fn e.1 fun n => fB e.2.1 fun E => fD e.2.2.1 fun D => fR e.2.2.2.1 fun R => fO e.2.2.2.2 fun O => k (n, E, D, R, O)
theorem fE_eq {α : Type} (e : XE) (k : XE → α) : fE e k = k e := by rw [fE, ea_fn_eq, fB_eq, fD_eq, fR_eq, fO_eq]
/-- what a method gives at its end -/
def xs_rt (t : Nat) (i : Instr) (S : List XV) (e : XE) : Option (Option XV) := match i, S with
  | .ireturn, [.inl a] => match t with
    | 1 => some (some (.inl a))
    | 3 => if 0 ≤ (xi_b e.2.1 a).1 ∧ (xi_b e.2.1 a).2 ≤ 1 then some (some (.inl a)) else none
    | 4 => if 0 ≤ (xi_b e.2.1 a).1 ∧ (xi_b e.2.1 a).2 ≤ 65535 then some (some (.inl a)) else none
    | 5 => if -128 ≤ (xi_b e.2.1 a).1 ∧ (xi_b e.2.1 a).2 ≤ 127 then some (some (.inl a)) else none
    | _ => none
  | .lreturn, [.inr (.inr 0)] => match t with
    | 2 => some (some (.inr (.inr 0)))
    | _ => none
  | .return_, [] => match t with
    | 0 => some none
    | _ => none
  | _, _ => none
def xs_ov (r : RN) (a : Option XV) (v : Option AV) : Prop := match a with
  | none => v = none
  | some a => ∃ u, v = some u ∧ xv_g r a u
theorem xs_rt_ok {r : RN} {e : XE} {t : Nat} {i : Instr} {S : List XV} {cs : List AV} {a : Option XV} (he : xe_g r e) (hs : xs_g r S cs) (h : xs_rt t i S e = some a) : ∃ v, ea_rt t i cs = some v ∧ xs_ov r a v ∧ (∀ pc nL cl, ea_p i pc nL cl cs = none) ∧ (∀ ini pl fty scr pc C, ea_h ini pl fty scr i pc cs C = none) := by
  unfold xs_rt at h
  split at h
  · rename_i b
    obtain ⟨_, _, rfl, ⟨x, rfl, hx⟩, hs1⟩ := xs_pop hs
    obtain rfl := ea_rl_nil hs1
    split at h
    · cases h
      exact ⟨_, rfl, ⟨_, rfl, xv_gi hx⟩, fun _ _ _ => rfl, fun _ _ _ _ _ _ => rfl⟩
    · split at h
      · rename_i h01
        cases h
        refine ⟨some (.inl (.inl x)), ?_, ⟨_, rfl, xv_gi hx⟩, fun _ _ _ => rfl, fun _ _ _ _ _ _ => rfl⟩
        unfold ea_rt
        dsimp only
        rw [xs_01 he hx h01]
        rfl
      · cases h
    · split at h
      · rename_i h01
        cases h
        have b := xi_b_ok he hx
        refine ⟨some (.inl (.inl x)), ?_, ⟨_, rfl, xv_gi hx⟩, fun _ _ _ => rfl, fun _ _ _ _ _ _ => rfl⟩
        unfold ea_rt
        dsimp only
        rw [if_pos (ch_fit (by omega) (by omega))]
        rfl
      · cases h
    · split at h
      · rename_i h01
        cases h
        have b := xi_b_ok he hx
        refine ⟨some (.inl (.inl x)), ?_, ⟨_, rfl, xv_gi hx⟩, fun _ _ _ => rfl, fun _ _ _ _ _ _ => rfl⟩
        unfold ea_rt
        dsimp only
        rw [if_pos (by_fit (by omega) (by omega))]
        rfl
      · cases h
    · cases h
  · obtain ⟨_, _, rfl, ⟨y, rfl⟩, hs1⟩ := xs_pop hs
    obtain rfl := ea_rl_nil hs1
    split at h
    · cases h
      exact ⟨_, rfl, ⟨_, rfl, xv_gl r y⟩, fun _ _ _ => rfl, fun _ _ _ _ _ _ => rfl⟩
    · cases h
  · obtain rfl := ea_rl_nil hs
    split at h
    · cases h
      exact ⟨none, rfl, rfl, fun _ _ _ => rfl, fun _ _ _ _ _ _ => rfl⟩
    · cases h
  · cases h
/-- within what a contract says -/
def xs_fit (e : XE) (t : Nat × Int × Int) (a : Option XV) : Bool := match t.1, a with
  | 0, none => true
  | 1, some (.inl i) => decide (t.2.1 ≤ (xi_b e.2.1 i).1) && decide ((xi_b e.2.1 i).2 ≤ t.2.2)
  | _ + 2, some (.inr (.inr 0)) => true
  | _, _ => false
theorem xs_fit_ok {r : RN} {e : XE} (he : xe_g r e) {t : Nat × Int × Int} {a : Option XV} {v : Option AV} (h : xs_fit e t a = true) (hv : xs_ov r a v) : rt_g t v := by
  obtain ⟨t1, lo, hi⟩ := t
  unfold xs_fit at h
  dsimp only at h
  split at h
  · exact hv
  · rename_i i
    obtain ⟨u, rfl, x, rfl, hx⟩ := hv
    simp only [Bool.and_eq_true, decide_eq_true_eq] at h
    have b := xi_b_ok he hx
    exact ⟨x, rfl, by dsimp only; omega, by dsimp only; omega⟩
  · obtain ⟨u, rfl, y, rfl⟩ := hv
    exact ⟨y, rfl⟩
  · cases h
/-- heads of loops: kinds of locals, bounds of fields, and a number that goes down: a number less so many times locals, fields -/
abbrev SR : Type := Nat ⊕ Option (Nat × Nat)
abbrev HA : Type := List (Nat × AT) × List (Nat × Nat × Int × Int) × Int × List (Int × SR)
def sr_g (cl : List (Nat × AV)) (C : List AC) (s : SR) (z : Int) : Prop := match s with
  | .inl k => ∃ x : Int32, ea_lk cl k = some (.inl (.inl x)) ∧ x.toInt = z
  | .inr (some q) => ∃ x : Int32, fd_g C q.1 q.2 x ∧ x.toInt = z
  | .inr none => z = 0
def ms_g (cl : List (Nat × AV)) (C : List AC) (l : List (Int × SR)) (z : Int) : Prop := match l with
  | [] => z = 0
  | q :: t => ∃ z1 z2, sr_g cl C q.2 z1 ∧ ms_g cl C t z2 ∧ z = q.1 * z1 + z2
def ha_g (G : Nat → Option CT) (h : HA) (cl : List (Nat × AV)) (C : List AC) : Prop := xI G C ∧ (∀ q ∈ h.1, ∃ v, ea_lk cl q.1 = some v ∧ at_g q.2 v) ∧ ∀ q ∈ h.2.1, ∃ x : Int32, fd_g C q.1 q.2.1 x ∧ q.2.2.1 ≤ x.toInt ∧ x.toInt ≤ q.2.2.2
/-- a field that is known -/
def xf_k (G : Nat → Option CT) (e : XE) (a k : Nat) : Option XI := match G a with
  | some (.inl (_, fs)) => bif Nat.blt k fs.length then xo_k e.2.2.2.2 a k else none
  | _ => none
theorem xf_k_ok {r : RN} {G : Nat → Option CT} {e : XE} {C : List AC} (hh : xh_g r G e C) {a k : Nat} {x : XI} (h : xf_k G e a k = some x) : ∃ y : Int32, fd_g C a k y ∧ xi_g r x y := by
  unfold xf_k at h
  split at h
  · rename_i ci fs hG
    cases hb : Nat.blt k fs.length with
    | false => rw [hb] at h; cases h
    | true =>
      rw [hb] at h
      simp only [cond_true] at h
      obtain ⟨vs, g1, g2, g3⟩ := hh.1 a ci fs hG
      obtain ⟨f0, hf0⟩ := nt_some (blt_lt hb)
      obtain ⟨v, j1, j2⟩ := g3 k f0 hf0
      rw [h] at j2
      obtain ⟨y, rfl, hy⟩ : ∃ y : Int32, v = .inl (.inl y) ∧ xi_g r x y := j2
      exact ⟨y, ⟨ci, vs, g1, j1⟩, hy⟩
  · cases h
def sr_x (G : Nat → Option CT) (L : List (Nat × XV)) (e : XE) (s : SR) : Option XI := match s with
  | .inl k => match xl_k L k with
    | some (.inl a) => some a
    | _ => none
  | .inr (some q) => xf_k G e q.1 q.2
  | .inr none => some (0, 0, 0)
theorem sr_x_ok {r : RN} {G : Nat → Option CT} {L : List (Nat × XV)} {cl : List (Nat × AV)} {e : XE} {C : List AC} (he : xe_g r e) (hl : xl_g r L cl) (hh : xh_g r G e C) {s : SR} {x : XI} (h : sr_x G L e s = some x) : (∃ y : Int32, xi_g r x y) ∧ ∀ z, sr_g cl C s z ↔ z = xi_z r x := by
  match s, h with
  | .inl k, h =>
    unfold sr_x at h
    dsimp only at h
    split at h
    · rename_i a ha
      cases h
      obtain ⟨v, h1, y, rfl, hy⟩ := xl_k_ok hl ha
      refine ⟨⟨y, hy⟩, fun z => ⟨fun ⟨y', g1, g2⟩ => ?_, fun hz => ⟨y, h1, by rw [hy.2, hz]⟩⟩⟩
      rw [h1] at g1
      cases g1
      rw [← g2, hy.2]
    · cases h
  | .inr (some q), h =>
    obtain ⟨y, h1, hy⟩ := xf_k_ok hh (show xf_k G e q.1 q.2 = some x from h)
    refine ⟨⟨y, hy⟩, fun z => ⟨fun ⟨y', g1, g2⟩ => ?_, fun hz => ⟨y, h1, by rw [hy.2, hz]⟩⟩⟩
    rw [← g2, ← fd_one h1 g1, hy.2]
  | .inr none, h =>
    cases h
    have h0 : xi_z r (0, 0, 0) = 0 := by rw [xi_z]; dsimp only; omega
    refine ⟨⟨0, xi_c he 0⟩, fun z => ?_⟩
    rw [h0]
    exact Iff.rfl
def ms_x (G : Nat → Option CT) (L : List (Nat × XV)) (e : XE) (l : List (Int × SR)) : Option (List (Int × XI)) := match l with
  | [] => some []
  | q :: t => match sr_x G L e q.2, ms_x G L e t with
    | some x, some u => some ((q.1, x) :: u)
    | _, _ => none
def ln_z (r : RN) (l : List (Int × XI)) : Int := match l with
  | [] => 0
  | q :: t => q.1 * xi_z r q.2 + ln_z r t
def ln_g (r : RN) (l : List (Int × XI)) : Prop := ∀ q ∈ l, ∃ x : Int32, xi_g r q.2 x
theorem ln_g_mono {r r' : RN} (h : rn_le r r') {l : List (Int × XI)} (hl : ln_g r l) : ln_g r' l := fun q hq => by
  obtain ⟨x, hx⟩ := hl q hq
  exact ⟨x, xi_g_mono h hx⟩
theorem ln_z_mono {r r' : RN} (h : rn_le r r') : ∀ {l : List (Int × XI)}, ln_g r l → ln_z r' l = ln_z r l
  | [], _ => rfl
  | q :: t, hl => by
    obtain ⟨x, hx⟩ := hl q List.mem_cons_self
    have h1 := hx.2
    have h2 := (xi_g_mono h hx).2
    show q.1 * xi_z r' q.2 + ln_z r' t = q.1 * xi_z r q.2 + ln_z r t
    rw [ln_z_mono h (fun p hp => hl p (List.mem_cons_of_mem _ hp)), ← h1, ← h2]
theorem ms_x_ok {r : RN} {G : Nat → Option CT} {L : List (Nat × XV)} {cl : List (Nat × AV)} {e : XE} {C : List AC} (he : xe_g r e) (hl : xl_g r L cl) (hh : xh_g r G e C) : ∀ {l : List (Int × SR)} {u : List (Int × XI)}, ms_x G L e l = some u → ln_g r u ∧ ∀ z, ms_g cl C l z ↔ z = ln_z r u
  | [], u, h => by cases h; exact ⟨(fun q hq => nomatch hq), (fun z => Iff.rfl)⟩
  | q :: t, u, h => by
    unfold ms_x at h
    split at h
    · rename_i x u' h1 h2
      cases h
      obtain ⟨a1, a2⟩ := sr_x_ok he hl hh h1
      obtain ⟨b1, b2⟩ := ms_x_ok he hl hh h2
      refine ⟨fun p hp => ?_, fun z => ⟨fun ⟨z1, z2, g1, g2, g3⟩ => ?_, fun hz => ⟨_, _, (a2 _).mpr rfl, (b2 _).mpr rfl, hz⟩⟩⟩
      · rcases List.mem_cons.mp hp with rfl | hp
        · exact a1
        · exact b1 p hp
      · show z = q.1 * xi_z r x + ln_z r u'
        rw [← (a2 _).mp g1, ← (b2 _).mp g2]
        exact g3
    · cases h
/-- at most so much is the one sum above the other -/
def ln_d (e : XE) (l l' : List (Int × XI)) : Option Int := match l, l' with
  | [], [] => some 0
  | q :: t, q' :: t' => if q.1 = q'.1 ∧ 0 ≤ q.1 then match ln_d e t t' with
      | some d => some (q.1 * xi_du e q.2 q'.2 + d)
      | none => none
    else none
  | _, _ => none
theorem ln_d_ok {r : RN} {e : XE} (he : xe_g r e) : ∀ {l l' : List (Int × XI)} {d : Int}, ln_d e l l' = some d → ln_g r l → ln_g r l' → ln_z r l - ln_z r l' ≤ d
  | [], [], d, h, _, _ => by cases h; exact Int.le_refl _
  | q :: t, q' :: t', d, h, hl, hl' => by
    unfold ln_d at h
    split at h
    · rename_i hc
      split at h
      · rename_i d0 h0
        cases h
        have ih := ln_d_ok he h0 (fun p hp => hl p (List.mem_cons_of_mem _ hp)) (fun p hp => hl' p (List.mem_cons_of_mem _ hp))
        obtain ⟨x, hx⟩ := hl q List.mem_cons_self
        obtain ⟨y, hy⟩ := hl' q' List.mem_cons_self
        have du := xi_du_ok he hx hy
        have m := Int.mul_le_mul_of_nonneg_left du hc.2
        rw [Int.mul_sub] at m
        show q.1 * xi_z r q.2 + ln_z r t - (q'.1 * xi_z r q'.2 + ln_z r t') ≤ _
        rw [← hc.1, ← hx.2, ← hy.2]
        omega
      · cases h
    · cases h
  | [], _ :: _, d, h, _, _ => by cases h
  | _ :: _, [], d, h, _, _ => by cases h
def ln_h (e : XE) (l : List (Int × XI)) : Option Int := match l with
  | [] => some 0
  | q :: t => if 0 ≤ q.1 then match ln_h e t with
      | some d => some (q.1 * (xi_b e.2.1 q.2).2 + d)
      | none => none
    else none
theorem ln_h_ok {r : RN} {e : XE} (he : xe_g r e) : ∀ {l : List (Int × XI)} {d : Int}, ln_h e l = some d → ln_g r l → ln_z r l ≤ d
  | [], d, h, _ => by cases h; exact Int.le_refl _
  | q :: t, d, h, hl => by
    unfold ln_h at h
    split at h
    · rename_i hc
      split at h
      · rename_i d0 h0
        cases h
        have ih := ln_h_ok he h0 (fun p hp => hl p (List.mem_cons_of_mem _ hp))
        obtain ⟨x, hx⟩ := hl q List.mem_cons_self
        have b := (xi_b_ok he hx).2
        have m := Int.mul_le_mul_of_nonneg_left b hc
        show q.1 * xi_z r q.2 + ln_z r t ≤ _
        rw [← hx.2]
        omega
      · cases h
    · cases h
/-- from where one came: the number there -/
def st_g (r : RN) (st : Option (Int × List (Int × XI))) (Q : Int → Prop) : Prop := match st with
  | none => ∀ z, 0 ≤ z → Q z
  | some q => ln_g r q.2 ∧ ∀ z, 0 ≤ z → z < q.1 - ln_z r q.2 → Q z
theorem st_g_mono {r r' : RN} (h : rn_le r r') {st : Option (Int × List (Int × XI))} {Q : Int → Prop} (hs : st_g r st Q) : st_g r' st Q := by
  cases st with
  | none => exact hs
  | some q =>
    obtain ⟨h1, h2⟩ := hs
    refine ⟨ln_g_mono h h1, fun z hz hlt => h2 z hz ?_⟩
    rw [ln_z_mono h h1] at hlt
    exact hlt
def ms_ok (e : XE) (c : Int) (l : List (Int × XI)) (st : Option (Int × List (Int × XI))) : Bool := (match ln_h e l with
  | some d => decide (d ≤ c)
  | none => false) && match st with
  | none => true
  | some q => match ln_d e q.2 l with
    | some d => decide (c - q.1 + d ≤ -1)
    | none => false
theorem ms_ok_ok {r : RN} {e : XE} (he : xe_g r e) {c : Int} {l : List (Int × XI)} {st : Option (Int × List (Int × XI))} {Q : Int → Prop} (hl : ln_g r l) (hs : st_g r st Q) (h : ms_ok e c l st = true) : Q (c - ln_z r l) := by
  unfold ms_ok at h
  simp only [Bool.and_eq_true] at h
  obtain ⟨h1, h2⟩ := h
  have low : 0 ≤ c - ln_z r l := by
    split at h1
    · rename_i d hd
      have := ln_h_ok he hd hl
      simp only [decide_eq_true_eq] at h1
      omega
    · cases h1
  cases st with
  | none => exact hs _ low
  | some q =>
    dsimp only at h2
    split at h2
    · rename_i d hd
      have := ln_d_ok he hd hs.1 hl
      simp only [decide_eq_true_eq] at h2
      exact hs.2 _ low (by omega)
    · cases h2
/-- an arrival at a head -/
def ha_l (L : List (Nat × XV)) (e : XE) (l : List (Nat × AT)) : Bool := match l with
  | [] => true
  | q :: t => (match xl_k L q.1 with
    | some a => xa_fit e a q.2
    | none => false) && ha_l L e t
def ha_f (G : Nat → Option CT) (e : XE) (l : List (Nat × Nat × Int × Int)) : Bool := match l with
  | [] => true
  | q :: t => (match xf_k G e q.1 q.2.1 with
    | some x => decide (q.2.2.1 ≤ (xi_b e.2.1 x).1) && decide ((xi_b e.2.1 x).2 ≤ q.2.2.2)
    | none => false) && ha_f G e t
theorem ha_l_ok {r : RN} {L : List (Nat × XV)} {cl : List (Nat × AV)} {e : XE} (he : xe_g r e) (hl : xl_g r L cl) : ∀ {l : List (Nat × AT)}, ha_l L e l = true → ∀ q ∈ l, ∃ v, ea_lk cl q.1 = some v ∧ at_g q.2 v
  | [], _, q, hq => nomatch hq
  | p :: t, h, q, hq => by
    unfold ha_l at h
    simp only [Bool.and_eq_true] at h
    rcases List.mem_cons.mp hq with rfl | hq
    · have h1 := h.1
      split at h1
      · rename_i a ha
        obtain ⟨v, g1, g2⟩ := xl_k_ok hl ha
        exact ⟨v, g1, xa_fit_ok he h1 g2⟩
      · cases h1
    · exact ha_l_ok he hl h.2 q hq
theorem ha_f_ok {r : RN} {G : Nat → Option CT} {e : XE} {C : List AC} (he : xe_g r e) (hh : xh_g r G e C) : ∀ {l : List (Nat × Nat × Int × Int)}, ha_f G e l = true → ∀ q ∈ l, ∃ x : Int32, fd_g C q.1 q.2.1 x ∧ q.2.2.1 ≤ x.toInt ∧ x.toInt ≤ q.2.2.2
  | [], _, q, hq => nomatch hq
  | p :: t, h, q, hq => by
    unfold ha_f at h
    simp only [Bool.and_eq_true] at h
    rcases List.mem_cons.mp hq with rfl | hq
    · have h1 := h.1
      split at h1
      · rename_i x hx
        obtain ⟨y, g1, g2⟩ := xf_k_ok hh hx
        simp only [Bool.and_eq_true, decide_eq_true_eq] at h1
        have b := xi_b_ok he g2
        exact ⟨y, g1, by omega, by omega⟩
      · cases h1
    · exact ha_f_ok he hh h.2 q hq
def ha_at (G : Nat → Option CT) (h : HA) (st : Option (Int × List (Int × XI))) (L : List (Nat × XV)) (S : List XV) (e : XE) : Bool := match S with
  | [] => xi_all G e && (ha_l L e h.1 && (ha_f G e h.2.1 && match ms_x G L e h.2.2.2 with
    | some l => ms_ok e h.2.2.1 l st
    | none => false))
  | _ => false
theorem ha_at_ok {r : RN} {G : Nat → Option CT} {h : HA} {st : Option (Int × List (Int × XI))} {L : List (Nat × XV)} {cl : List (Nat × AV)} {S : List XV} {cs : List AV} {e : XE} {C : List AC} {Q : Int → Prop} (he : xe_g r e) (hl : xl_g r L cl) (hs : xs_g r S cs) (hh : xh_g r G e C) (hst : st_g r st Q) (h1 : ha_at G h st L S e = true) : cs = [] ∧ ha_g G h cl C ∧ ∃ z, ms_g cl C h.2.2.2 z ∧ Q (h.2.2.1 - z) := by
  unfold ha_at at h1
  split at h1
  · simp only [Bool.and_eq_true] at h1
    obtain ⟨g1, g2, g3, g4⟩ := h1
    refine ⟨ea_rl_nil hs, ⟨xI_of he hh g1, ha_l_ok he hl g2, ha_f_ok he hh g3⟩, ?_⟩
    split at g4
    · rename_i l hm
      obtain ⟨k1, k2⟩ := ms_x_ok he hl hh hm
      exact ⟨_, (k2 _).mpr rfl, ms_ok_ok he k1 hst g4⟩
    · cases g4
  · cases h1
end
section
/-! THE CHECKER, the whole -/
abbrev FR : Type := Nat × Nat × List (Nat × XV) × List XV × Bool
abbrev FC : Type := Nat × Nat × List (Nat × AV) × List AV × Bool
def fr_g (r : RN) (f : FR) (g : FC) : Prop := f.1 = g.1 ∧ f.2.1 = g.2.1 ∧ xl_g r f.2.2.1 g.2.2.1 ∧ xs_g r f.2.2.2.1 g.2.2.2.1 ∧ f.2.2.2.2 = g.2.2.2.2
theorem fr_g_mono {r r' : RN} (h : rn_le r r') {F : List FR} {cf : List FC} (hf : ea_rl (fr_g r) F cf) : ea_rl (fr_g r') F cf := ea_rl_mono (fun _ _ q => ⟨q.1, q.2.1, xl_g_mono h q.2.2.1, xs_g_mono h q.2.2.2.1, q.2.2.2.2⟩) hf
def fr_K (P : EP) (K : Option AV ⊕ Nat → List AC → Prop) (l : List FC) : Option AV ⊕ Nat → List AC → Prop := match l with
  | [] => K
  | g :: t => ok_back P g.1 g.2.1 g.2.2.1 g.2.2.2.1 g.2.2.2.2 (fr_K P K t)
def fr_nh (P : EP) (m : Nat) : Bool := match ep_hdl P m with
  | [] => true
  | _ => false
theorem fr_nh_ok {P : EP} {m : Nat} (h : fr_nh P m = true) : ep_hdl P m = [] := by
  unfold fr_nh at h
  split at h
  · assumption
  · cases h
def fr_t (P : EP) (F : List FR) : Bool := match F with
  | [] => true
  | f :: t => f.2.2.2.2 && (fr_nh P f.1 && fr_t P t)
theorem fr_t_ok {P : EP} {r : RN} {K : Option AV ⊕ Nat → List AC → Prop} {ce : Nat} {C : List AC} (hK : K (.inr ce) C) : ∀ {F : List FR} {cf : List FC}, fr_t P F = true → ea_rl (fr_g r) F cf → fr_K P K cf (.inr ce) C
  | [], [], _, _ => hK
  | f :: t, g :: u, h, hf => by
    unfold fr_t at h
    simp only [Bool.and_eq_true] at h
    obtain ⟨h1, h2, h3⟩ := h
    obtain ⟨⟨g1, g2, g3, g4, g5⟩, hf2⟩ := hf
    refine ⟨by rw [← g5]; exact h1, ?_, fr_t_ok hK h3 hf2⟩
    rw [← g1, fr_nh_ok h2]
    rfl
  | [], _ :: _, _, hf => hf.elim
  | _ :: _, [], _, hf => hf.elim
def nl_in (a : Nat) (l : List Nat) : Bool := match l with
  | [] => false
  | b :: t => Nat.beq b a || nl_in a t
theorem nl_in_ok {a : Nat} : ∀ {l : List Nat}, nl_in a l = true → a ∈ l
  | [], h => by cases h
  | b :: t, h => by
    unfold nl_in at h
    simp only [Bool.or_eq_true] at h
    rcases h with h | h
    · rw [Nat.eq_of_beq_eq_true h]; exact List.mem_cons_self
    · exact List.mem_cons_of_mem _ (nl_in_ok h)
def nl_sub (l l' : List Nat) : Bool := match l with
  | [] => true
  | a :: t => nl_in a l' && nl_sub t l'
theorem nl_sub_ok {l' : List Nat} {a : Nat} : ∀ {l : List Nat}, nl_sub l l' = true → a ∈ l → a ∈ l'
  | [], _, h => nomatch h
  | b :: t, hs, h => by
    unfold nl_sub at hs
    simp only [Bool.and_eq_true] at hs
    rcases List.mem_cons.mp h with rfl | h
    · exact nl_in_ok hs.1
    · exact nl_sub_ok hs.2 h
def nl_nil (l : List Nat) : Bool := match l with
  | [] => true
  | _ => false
def cn_pick (e : XE) (as : List XV) (l : List CN) : Option CN := match l with
  | [] => none
  | c :: t => bif xa_fits e as c.2.1 then some c else cn_pick e as t
theorem cn_pick_ok {e : XE} {as : List XV} : ∀ {l : List CN} {c : CN}, cn_pick e as l = some c → c ∈ l ∧ xa_fits e as c.2.1 = true
  | [], c, h => by cases h
  | d :: t, c, h => by
    unfold cn_pick at h
    cases hb : xa_fits e as d.2.1 with
    | true => rw [hb] at h; cases h; exact ⟨List.mem_cons_self, hb⟩
    | false => rw [hb] at h; exact ⟨List.mem_cons_of_mem _ (cn_pick_ok h).1, (cn_pick_ok h).2⟩
abbrev IH : Type := Nat → Nat → List (Nat × XV) → List XV → XE → List FR → Bool
def xz_o (o : Option XE) (k : XE → Bool) : Bool := match o with
  | some e => fE e k
  | none => true
def xz_l (l : List (Nat × Option XE)) (k : Nat → XE → Bool) : Bool := match l with
  | [] => true
  | q :: t => xz_o q.2 (fun e => k q.1 e) && xz_l t k
theorem xz_l_ok {k : Nat → XE → Bool} : ∀ {l : List (Nat × Option XE)}, xz_l l k = true → ∀ {t : Nat} {e : XE}, (t, some e) ∈ l → k t e = true
  | [], _, t, e, h => nomatch h
  | q :: u, hl, t, e, h => by
    unfold xz_l at hl
    simp only [Bool.and_eq_true] at hl
    rcases List.mem_cons.mp h with rfl | h
    · have h1 : fE e (fun e => k t e) = true := hl.1
      rw [fE_eq] at h1
      exact h1
    · exact xz_l_ok hl.2 h
/-- references by an index between bounds -/
def xs_sp (e : XE) (i : XI) (fs : List FT) (p : Nat) (lo : Int) (n : Nat) : Option (List (Nat × Option XE)) := match n with
  | 0 => some []
  | n + 1 => match ea_nt fs ((lo + (n : Int)).toNat % p), xs_sp e i fs p lo n with
    | some (.inr k), some l => some ((k, xr_eq e i (0, 0, lo + (n : Int))) :: l)
    | _, _ => none
theorem xs_sp_ok {r : RN} {e : XE} (he : xe_g r e) {i : XI} {x : Int32} (hx : xi_g r i x) {fs : List FT} {p : Nat} {lo : Int} : ∀ {n : Nat} {l : List (Nat × Option XE)}, xs_sp e i fs p lo n = some l → lo ≤ x.toInt → x.toInt < lo + (n : Int) → ∃ k e', ea_nt fs (x.toInt.toNat % p) = some (.inr k) ∧ (k, some e') ∈ l ∧ xe_g r e' ∧ e'.2.2.2 = e.2.2.2
  | 0, l, h, h1, h2 => by omega
  | n + 1, l, h, h1, h2 => by
    unfold xs_sp at h
    split at h
    · rename_i k l0 g1 g2
      cases h
      by_cases hz : x.toInt = lo + (n : Int)
      · obtain ⟨e', j1, j2, j3⟩ := xr_eq_ok he hx (xi_k he hz) rfl
        exact ⟨k, e', by rw [hz]; exact g1, by rw [j1]; exact List.mem_cons_self, j2, j3⟩
      · obtain ⟨k', e', j1, j2, j3⟩ := xs_sp_ok he hx g2 h1 (by omega)
        exact ⟨k', e', j1, List.mem_cons_of_mem _ j2, j3⟩
    · cases h
/-- a method's end -/
def xz_r (G : Nat → Option CT) (c : CN) (ih : IH) (v : Option XV) (e : XE) (F : List FR) : Bool := match F with
  | [] => xs_fit e c.2.2.2.1 v && xi_all G e
  | f :: t => ea_fn (f.2.1 + 3) fun pc => ih f.1 pc f.2.2.1 (v.toList ++ f.2.2.2.1) e t
/-- a call -/
def xz_c (P : EP) (G : Nat → Option CT) (cts : Nat → List CN) (c : CN) (ih : IH) (i : Instr) (m pc : Nat) (L : List (Nat × XV)) (S : List XV) (e : XE) (F : List FR) : Bool := match xs_cl (ep_own P) G i (ep_pl P m) S with
  | some (mj, as, T, b) => bif Nat.blt (ep_dep P mj) (ep_dep P m) && (Nat.ble (xs_wt T) 8 && Nat.ble (xs_wt as) (ep_nls P mj)) then match cts mj with
      | [] => ea_fL (xa_ar 0 as) fun L1 => ea_fL T fun T => ih mj 0 L1 [] e ((m, pc, L, T, b) :: F)
      | c1 :: l => match cn_pick e as (c1 :: l) with
        | some c' => bif (xi_all G e && ha_f G e c'.2.2.2.2.2) && (xm_sub c'.2.2.1 c.2.2.1 && (nl_nil c'.2.2.2.2.1 || (b && (fr_nh P m && (fr_t P F && nl_sub c'.2.2.2.2.1 c.2.2.2.2.1))))) then
            ea_fn (pc + 3) fun pc => ea_fL (xe_fr e c'.2.2.1).2.2.2.1 fun R => ea_fL (xe_fr e c'.2.2.1).2.2.2.2 fun O => fS (xc_ret c'.2.2.2.1 T (e.1, e.2.1, e.2.2.1, R, O)).1 fun S => fE (xc_ret c'.2.2.2.1 T (e.1, e.2.1, e.2.2.1, R, O)).2 fun e => ih m pc L S e F
          else false
        | none => false
    else false
  | none => false
def xz_i (P : EP) (G : Nat → Option CT) (cts : Nat → List CN) (c : CN) (ih : IH) (i : Instr) (m pc : Nat) (L : List (Nat × XV)) (S : List XV) (e : XE) (F : List FR) : Bool := match i with
  | .invokestatic x => match xs_mm i (ep_pl P m) S e with
    | some q => bif Nat.ble (xs_wt q.1) 80 && Nat.ble 1 (ep_dep P m) then ea_fn (pc + 3) fun pc => fS q.1 fun S => fE q.2 fun e => ih m pc L S e F else false
    | none => bif ea_is9 (ep_pl P m x) then match xs_cy (xm c.2.2.1) G S e with
        | some q => bif Nat.ble 1 (ep_dep P m) then ea_fn (pc + 3) fun pc => ea_fL q.2.2.2.2.1 fun R => ih m pc L q.1 (q.2.1, q.2.2.1, q.2.2.2.1, R, q.2.2.2.2.2) F else false
        | none => false
      else xz_c P G cts c ih i m pc L S e F
  | .invokevirtual _ => xz_c P G cts c ih i m pc L S e F
  | .aaload => match S with
    | .inl i :: .inr (.inl a) :: S => match G a with
      | some (.inr (_ + 3, n, p, fs)) => bif xs_ix e.2.1 i n && xR_n e.2.2.2.1 a then match xs_sp e i fs p (xi_b e.2.1 i).1 ((xi_b e.2.1 i).2 - (xi_b e.2.1 i).1 + 1).toNat with
          | some l => ea_fn (pc + 1) fun pc => xz_l l (fun k e => ih m pc L (.inr (.inl k) :: S) e F)
          | none => false
        else false
      | _ => false
    | _ => false
  | .tableswitch _ lo hi _ => if -2147483648 ≤ lo ∧ lo ≤ 2147483647 ∧ -2147483648 ≤ hi ∧ hi ≤ 2147483647 then match xs_sw i pc S e with
      | some (l, S) => xz_l l (fun t e => ih m t L S e F)
      | none => false
    else false
  | .new x => match ep_pl P m x with
    | some (11, _) => match ea_tw P m pc with
      | some ce => Nat.ble (xs_wt S) 100 && (nl_in ce c.2.2.2.2.1 && (xi_all G e && fr_t P F))
      | none => false
    | _ => false
  | _ => false
/-- a step -/
def xz (P : EP) (G : Nat → Option CT) (cts : Nat → List CN) (c : CN) (ih : IH) (m pc : Nat) (L : List (Nat × XV)) (S : List XV) (e : XE) (F : List FR) : Bool := match ep_cod P m pc with
  | none => false
  | some (i, len) => bif Nat.beq (ea_len i) 0 || Nat.beq (ea_len i) len then match xs_p i pc (ep_nls P m) L S e with
      | some f => ea_fn f.1 fun pc => fL f.2.1 fun L => fS f.2.2.1 fun S => fE f.2.2.2 fun e => ih m pc L S e F
      | none => match xs_h (xm c.2.2.1) G (ep_ini P m) (ep_pl P m) (ep_fty P) i pc S e with
        | some f => ea_fn f.1 fun pc => fS f.2.1 fun S => fE f.2.2 fun e => ih m pc L S e F
        | none => match xs_br i pc S with
          | some (cd, a, b, t, S) => xz_o (xr_c cd e a b) (fun e => ih m t L S e F) && xz_o (xr_c (xr_not cd) e a b) (fun e => ea_fn (pc + 3) fun pc => ih m pc L S e F)
          | none => match xs_rt (ep_rtp P m) i S e with
            | some v => xz_r G c ih v e F
            | none => xz_i P G cts c ih i m pc L S e F
    else false
def xw_s (P : EP) (G : Nat → Option CT) (c : CN) (C0 : List AC) (st : Option (Int × List (Int × XI))) (Q : Int → Prop) (m pc : Nat) (L : List (Nat × XV)) (S : List XV) (e : XE) (F : List FR) : Prop := ∀ (r : RN) (cl : List (Nat × AV)) (cs : List AV) (C : List AC) (cf : List FC), st_g r st Q → xe_g r e → xl_g r L cl → xs_g r S cs → xh_g r G e C → ea_rl (fr_g r) F cf → (∀ b, xm c.2.2.1 b = false → ea_nt C b = ea_nt C0 b) → ok_ P m pc cl cs C (fr_K P (cn_post G c C0) cf)
section XW
variable {P : EP} {G : Nat → Option CT} {cts : Nat → List CN} {c : CN} {C0 : List AC} {st : Option (Int × List (Int × XI))} {Q : Int → Prop} {ih : IH}
theorem xz_o_ok {o : Option XE} {k : XE → Bool} (h : xz_o o k = true) {e : XE} (he : o = some e) : k e = true := by
  rw [he] at h
  have h1 : fE e k = true := h
  rw [fE_eq] at h1
  exact h1
theorem xs_ov_list {r : RN} {a : Option XV} {v : Option AV} (h : xs_ov r a v) {T : List XV} {ct : List AV} (hT : xs_g r T ct) : xs_g r (a.toList ++ T) (v.toList ++ ct) := by
  cases a with
  | none => rw [show v = none from h]; exact hT
  | some a =>
    obtain ⟨u, rfl, hu⟩ := h
    exact xs_cons hu hT
theorem len3 {i : Instr} {len : Nat} (h : (Nat.beq (ea_len i) 0 || Nat.beq (ea_len i) len) = true) (h3 : ea_len i = 3) : len = 3 := by
  rw [h3] at h
  simp only [Bool.or_eq_true] at h
  rcases h with h | h
  · cases h
  · exact (Nat.eq_of_beq_eq_true h).symm
set_option maxHeartbeats 2000000 in
theorem xz_c_ok (hct : ∀ mj c', c' ∈ cts mj → c'.1 = mj ∧ cn_ok P G c') (hI : ∀ m pc L S e F, ih m pc L S e F = true → xw_s P G c C0 st Q m pc L S e F) {i : Instr} {m pc : Nat} {L : List (Nat × XV)} {S : List XV} {e : XE} {F : List FR} (hc : ep_cod P m pc = some (i, 3)) (h : xz_c P G cts c ih i m pc L S e F = true) : xw_s P G c C0 st Q m pc L S e F := by
  intro r cl cs C cf hst he hl hs hh hf hfr
  unfold xz_c at h
  split at h
  · rename_i mj as T b hcl
    obtain ⟨q, vs, ct, k1, k2, k3, k4, k5⟩ := xs_cl_ok hs hh hcl
    cases hd : (Nat.blt (ep_dep P mj) (ep_dep P m) && (Nat.ble (xs_wt T) 8 && Nat.ble (xs_wt as) (ep_nls P mj))) with
    | false => rw [hd] at h; cases h
    | true =>
      rw [hd] at h
      simp only [cond_true] at h
      rw [← xs_wt_ok k3, ← xs_wt_ok k4] at hd
      refine ok_call hc k1 k2 hd ?_
      split at h
      · rw [ea_fL_eq, ea_fL_eq] at h
        exact hI _ _ _ _ _ _ h r _ [] C ((m, pc, cl, ct, b) :: cf) hst he (xa_ar_ok 0 k3) trivial hh ⟨⟨rfl, rfl, hl, k4, rfl⟩, hf⟩ hfr
      · rename_i c1 l hcts
        split at h
        · rename_i c' hpick
          obtain ⟨p1, p2⟩ := cn_pick_ok hpick
          obtain ⟨q1, q2⟩ := hct mj c' (by rw [hcts]; exact p1)
          cases hb : ((xi_all G e && ha_f G e c'.2.2.2.2.2) && (xm_sub c'.2.2.1 c.2.2.1 && (nl_nil c'.2.2.2.2.1 || (b && (fr_nh P m && (fr_t P F && nl_sub c'.2.2.2.2.1 c.2.2.2.2.1)))))) with
          | false => rw [hb] at h; cases h
          | true =>
            rw [hb] at h
            simp only [cond_true] at h
            rw [ea_fn_eq, ea_fL_eq, ea_fL_eq, fS_eq, fE_eq] at h
            simp only [Bool.and_eq_true] at hb
            obtain ⟨⟨i1, i0⟩, i2, i3⟩ := hb
            have hx : xI G C := xI_of he hh i1
            have run := q2 vs C (xa_fits_ok he p2 k3) hx (ha_f_ok he hh i0)
            rw [q1] at run
            refine ok_post run (fun o C' ho => ?_)
            obtain ⟨o1, o2, o3⟩ := ho
            have hfr' : ∀ b, xm c.2.2.1 b = false → ea_nt C' b = ea_nt C0 b := fun b' hb' => by
              have : xm c'.2.2.1 b' = false := by
                cases hx : xm c'.2.2.1 b' with
                | false => rfl
                | true => rw [xm_sub_ok i2 hx] at hb'; cases hb'
              rw [o2 b' this, hfr b' hb']
            cases o with
            | inl v =>
              have o3' : rt_g c'.2.2.2.1 v := o3
              have he' : xe_g r (xe_fr e c'.2.2.1) := he
              obtain ⟨r', j1, j2, j3, j4⟩ := xc_ret_ok he' o3' k4
              have hh' : xh_g r G (xe_fr e c'.2.2.1) C' := xI_to hh o1 o2
              exact hI _ _ _ _ _ _ h r' cl (v.toList ++ ct) C' cf (st_g_mono j1 hst) j2 (xl_g_mono j1 hl) j3 (xh_g_mono j1 j4 hh') (fr_g_mono j1 hf) hfr'
            | inr ce =>
              have o3' : ce ∈ c'.2.2.2.2.1 := o3
              simp only [Bool.or_eq_true, Bool.and_eq_true] at i3
              rcases i3 with i3 | ⟨b1, b2, b3, b4⟩
              · unfold nl_nil at i3
                split at i3
                · rename_i hn
                  rw [hn] at o3'
                  nomatch o3'
                · cases i3
              · refine ⟨b1, by rw [fr_nh_ok b2]; rfl, ?_⟩
                exact fr_t_ok (r := r) ⟨o1, hfr', nl_sub_ok b4 o3'⟩ b3 hf
        · cases h
  · cases h
set_option maxHeartbeats 2000000 in
theorem xz_i_ok (hct : ∀ mj c', c' ∈ cts mj → c'.1 = mj ∧ cn_ok P G c') (hI : ∀ m pc L S e F, ih m pc L S e F = true → xw_s P G c C0 st Q m pc L S e F) {i : Instr} {len m pc : Nat} {L : List (Nat × XV)} {S : List XV} {e : XE} {F : List FR} (hc : ep_cod P m pc = some (i, len)) (hlen : (Nat.beq (ea_len i) 0 || Nat.beq (ea_len i) len) = true) (h : xz_i P G cts c ih i m pc L S e F = true) : xw_s P G c C0 st Q m pc L S e F := by
  cases i with
  | invokestatic x =>
    obtain rfl := len3 hlen rfl
    unfold xz_i at h
    dsimp only at h
    split at h
    · rename_i q hq
      cases hb : (Nat.ble (xs_wt q.1) 80 && Nat.ble 1 (ep_dep P m)) with
      | false => rw [hb] at h; cases h
      | true =>
        rw [hb] at h
        simp only [cond_true] at h
        rw [ea_fn_eq, fS_eq, fE_eq] at h
        intro r cl cs C cf hst he hl hs hh hf hfr
        obtain ⟨x', r', cs', e1, k1, k2, k3, k4, k5⟩ := xs_mm_ok (T := q.1) (e' := q.2) he hs hq
        cases e1
        refine ok_mm hc k5 (by rw [xs_wt_ok k4]; exact hb) ?_
        exact hI _ _ _ _ _ _ h r' cl cs' C cf (st_g_mono k1 hst) k2 (xl_g_mono k1 hl) k4 (xh_g_mono k1 k3 hh) (fr_g_mono k1 hf) hfr
    · cases h9 : ea_is9 (ep_pl P m x) with
      | true =>
        rw [h9] at h
        simp only [cond_true] at h
        split at h
        · rename_i q hq
          cases hb : Nat.ble 1 (ep_dep P m) with
          | false => rw [hb] at h; cases h
          | true =>
            rw [hb] at h
            simp only [cond_true] at h
            rw [ea_fn_eq, ea_fL_eq] at h
            intro r cl cs C cf hst he hl hs hh hf hfr
            obtain ⟨cs', C', k1, k2, k3, k4, k5⟩ := xs_cy_ok (T := q.1) (e' := q.2) he hs hh hq
            refine ok_cy hc h9 k5 hb ?_
            exact hI _ _ _ _ _ _ h r cl cs' C' cf hst k1 hl k2 k3 hf (fun b' hb' => by rw [k4 b' hb', hfr b' hb'])
        · cases h
      | false =>
        rw [h9] at h
        exact xz_c_ok hct hI hc h
  | invokevirtual x =>
    obtain rfl := len3 hlen rfl
    exact xz_c_ok hct hI hc h
  | aaload =>
    unfold xz_i at h
    dsimp only at h
    split at h
    · rename_i ii a S0
      split at h
      · rename_i kd n p fs hG
        cases hb : (xs_ix e.2.1 ii n && xR_n e.2.2.2.1 a) with
        | false => rw [hb] at h; cases h
        | true =>
          rw [hb] at h
          simp only [cond_true] at h
          simp only [Bool.and_eq_true] at hb
          obtain ⟨hix, hrn⟩ := hb
          split at h
          · rename_i l hsp
            rw [ea_fn_eq] at h
            intro r cl cs C cf hst he hl hs hh hf hfr
            obtain ⟨_, _, rfl, ⟨x, rfl, hx⟩, hs1⟩ := xs_pop hs
            obtain ⟨v0, cs0, rfl, hv0, hs0⟩ := xs_pop hs1
            obtain rfl : v0 = .inr (.inl (some a)) := hv0
            obtain ⟨d, us, g1, g2⟩ := hh.2.1 a (kd + 3) n p fs hG
            obtain ⟨i1, i2, i3⟩ := xs_ix_ok he hix hx
            have b := xi_b_ok he hx
            obtain ⟨k, e', k1, k2, k3, k4⟩ := xs_sp_ok he hx hsp b.1 (by omega)
            obtain ⟨f0, f1, f2⟩ := el_get (by omega) ((g2 _ i3).elim id (fun ⟨q, q1, q2, _⟩ => absurd q2 (xR_n_ok hrn q q1)))
            have hn : x.toNatClampNeg = x.toInt.toNat := rfl
            rw [← hn, f1] at k1
            cases k1
            refine ok_h hc hlen rfl (show ea_h (ep_ini P m) (ep_pl P m) (ep_fty P) (ep_scr P m) .aaload pc _ C = some (pc + 1, .inr (.inl (some k)) :: cs0, none, 0, 0) from by simp only [ea_h, g1, i1, show ea_al d us x.toNatClampNeg = .inr (.inl (some k)) from f2]) ?_
            exact hI _ _ _ _ _ _ (xz_l_ok h k2) r cl _ C cf hst k3 hl (xs_cons (a := .inr (.inl k)) rfl hs0) (xh_g_mono (rn_le_rf r) k4 hh) hf hfr
          · cases h
      · cases h
    · cases h
  | tableswitch d lo hi offs =>
    unfold xz_i at h
    dsimp only at h
    split at h
    · rename_i hb
      split at h
      · rename_i l S' hsw
        intro r cl cs C cf hst he hl hs hh hf hfr
        obtain ⟨t, e', cs', k1, k2, k3, k4, k5⟩ := xs_sw_ok (nL := ep_nls P m) (cl := cl) (fun _ _ _ _ heq => by cases heq; exact hb) he hs hsw
        refine ok_p hc hlen k5 ?_
        exact hI _ _ _ _ _ _ (xz_l_ok h k1) r cl cs' C cf hst k2 hl k4 (xh_g_mono (rn_le_rf r) k3 hh) hf hfr
      · cases h
    · cases h
  | new x =>
    obtain rfl := len3 hlen rfl
    unfold xz_i at h
    dsimp only at h
    split at h
    · rename_i q hq
      split at h
      · rename_i ce hce
        simp only [Bool.and_eq_true] at h
        obtain ⟨h1, h2, h3, h4⟩ := h
        intro r cl cs C cf hst he hl hs hh hf hfr
        refine ok_tw hc ⟨_, hq⟩ (by rw [xs_wt_ok hs]; exact h1) hce ?_
        exact fr_t_ok (r := r) ⟨xI_of he hh h3, hfr, nl_in_ok h2⟩ h4 hf
      · cases h
    · cases h
  | _ => cases h
set_option maxHeartbeats 2000000 in
theorem xz_ok (hct : ∀ mj c', c' ∈ cts mj → c'.1 = mj ∧ cn_ok P G c') (hI : ∀ m pc L S e F, ih m pc L S e F = true → xw_s P G c C0 st Q m pc L S e F) {m pc : Nat} {L : List (Nat × XV)} {S : List XV} {e : XE} {F : List FR} (h : xz P G cts c ih m pc L S e F = true) : xw_s P G c C0 st Q m pc L S e F := by
  unfold xz at h
  split at h
  · cases h
  · rename_i i len hc
    cases hlen : (Nat.beq (ea_len i) 0 || Nat.beq (ea_len i) len) with
    | false => rw [hlen] at h; cases h
    | true =>
      rw [hlen] at h
      simp only [cond_true] at h
      split at h
      · rename_i f hp
        rw [ea_fn_eq, fL_eq, fS_eq, fE_eq] at h
        intro r cl cs C cf hst he hl hs hh hf hfr
        obtain ⟨r', cl', cs', k1, k2, k3, k4, k5, k6⟩ := xs_p_ok he hl hs hp
        refine ok_p hc hlen k6 ?_
        exact hI _ _ _ _ _ _ h r' cl' cs' C cf (st_g_mono k1 hst) k2 k3 k4 (xh_g_mono k1 k5 hh) (fr_g_mono k1 hf) hfr
      · split at h
        · rename_i f hp
          rw [ea_fn_eq, fS_eq, fE_eq] at h
          intro r cl cs C cf hst he hl hs hh hf hfr
          obtain ⟨⟨r', cs', C', k1, k2, k3, k4, k5, k6⟩, k7⟩ := xs_h_ok (nL := ep_nls P m) (cl := cl) (scr := ep_scr P m) he hs hh hp
          refine ok_h hc hlen k7 k6 ?_
          exact hI _ _ _ _ _ _ h r' cl cs' _ cf (st_g_mono k1 hst) k2 (xl_g_mono k1 hl) k3 k4 (fr_g_mono k1 hf) (fun b' hb' => by rw [k5 b' hb', hfr b' hb'])
        · split at h
          · rename_i cd a b t S' hp
            simp only [Bool.and_eq_true] at h
            intro r cl cs C cf hst he hl hs hh hf hfr
            obtain ⟨x, y, cs', k1, k2, k3, k4⟩ := xs_br_ok (nL := ep_nls P m) (cl := cl) he hs hp
            rcases k4 with ⟨k4, k5⟩ | ⟨k4, k5⟩
            · obtain ⟨e', j1, j2, j3⟩ := xr_c_ok he k1 k2 k4
              refine ok_p hc hlen k5 ?_
              exact hI _ _ _ _ _ _ (xz_o_ok h.1 j1) r cl cs' C cf hst j2 hl k3 (xh_g_mono (rn_le_rf r) j3 hh) hf hfr
            · obtain ⟨e', j1, j2, j3⟩ := xr_c_ok he k1 k2 (xr_not_ok k4)
              refine ok_p hc hlen k5 ?_
              have h2 := xz_o_ok h.2 j1
              rw [ea_fn_eq] at h2
              exact hI _ _ _ _ _ _ h2 r cl cs' C cf hst j2 hl k3 (xh_g_mono (rn_le_rf r) j3 hh) hf hfr
          · split at h
            · rename_i v hv
              intro r cl cs C cf hst he hl hs hh hf hfr
              obtain ⟨w, k1, k2, k3, k4⟩ := xs_rt_ok he hs hv
              refine ok_r hc hlen (k3 _ _ _) (k4 _ _ _ _ _ _) k1 ?_
              unfold xz_r at h
              split at h
              · obtain rfl := ea_rl_nil hf
                simp only [Bool.and_eq_true] at h
                exact ⟨xI_of he hh h.2, hfr, xs_fit_ok he h.1 k2⟩
              · rename_i f t
                obtain ⟨g, u, rfl, ⟨g1, g2, g3, g4, g5⟩, hf2⟩ := ea_rl_cons hf
                rw [ea_fn_eq] at h
                show ok_ P g.1 (g.2.1 + 3) g.2.2.1 (w.toList ++ g.2.2.2.1) C _
                rw [← g1, ← g2]
                exact hI _ _ _ _ _ _ h r _ _ C u hst he g3 (xs_ov_list k2 g4) hh hf2 hfr
            · exact xz_i_ok hct hI hc hlen h
end XW
end
section
/-! THE CHECKER: a contract that it checks holds -/
def xw_h (hd : Nat → Option HA) (c : CN) (m pc : Nat) (F : List FR) : Option HA := match F with
  | [] => bif Nat.beq m c.1 then hd pc else none
  | _ => none
theorem xw_h_ok {hd : Nat → Option HA} {c : CN} {m pc : Nat} {F : List FR} {h : HA} (hx : xw_h hd c m pc F = some h) : F = [] ∧ m = c.1 ∧ hd pc = some h := by
  unfold xw_h at hx
  split at hx
  · cases hb : Nat.beq m c.1 with
    | false => rw [hb] at hx; cases hx
    | true => rw [hb] at hx; exact ⟨rfl, Nat.eq_of_beq_eq_true hb, hx⟩
  · cases hx
def xw (P : EP) (G : Nat → Option CT) (cts : Nat → List CN) (hd : Nat → Option HA) (c : CN) (st : Option (Int × List (Int × XI))) (n : Nat) : IH := Nat.rec (fun _ _ _ _ _ _ => false) (fun _ ih m pc L S e F => match xw_h hd c m pc F with
  | some h => ha_at G h st L S e
  | none => xz P G cts c ih m pc L S e F) n
section XC
variable {P : EP} {G : Nat → Option CT} {cts : Nat → List CN} {hd : Nat → Option HA} {c : CN} {C0 : List AC} {st : Option (Int × List (Int × XI))} {Q : Int → Prop}
theorem xw_ok (hct : ∀ mj c', c' ∈ cts mj → c'.1 = mj ∧ cn_ok P G c')
    (hQ : ∀ pc h, hd pc = some h → ∀ cl C z, ha_g G h cl C → ms_g cl C h.2.2.2 z → Q (h.2.2.1 - z) → (∀ b, xm c.2.2.1 b = false → ea_nt C b = ea_nt C0 b) → ok_ P c.1 pc cl [] C (cn_post G c C0)) (n : Nat) : ∀ m pc L S e F, xw P G cts hd c st n m pc L S e F = true → xw_s P G c C0 st Q m pc L S e F := by
  induction n with
  | zero => intro m pc L S e F h; cases h
  | succ n IHn =>
    intro m pc L S e F hx
    have h : (match xw_h hd c m pc F with
      | some h => ha_at G h st L S e
      | none => xz P G cts c (xw P G cts hd c st n) m pc L S e F) = true := hx
    clear hx
    split at h
    · rename_i a ha
      obtain ⟨rfl, rfl, h1⟩ := xw_h_ok ha
      intro r cl cs C cf hst he hl hs hh hf hfr
      obtain ⟨rfl, k1, z, k2, k3⟩ := ha_at_ok he hl hs hh hst h
      obtain rfl := ea_rl_nil hf
      exact hQ _ _ h1 cl C z k1 k2 k3 hfr
    · exact xz_ok hct IHn h
/-- the start at a head -/
def hl_in (l : List (Nat × AT)) (e : XE) : List (Nat × XV) × XE := match l with
  | [] => ([], e)
  | (k, .inl q) :: t => ((k, .inl (xo_new e q.1 q.2).1) :: (hl_in t (xo_new e q.1 q.2).2).1, (hl_in t (xo_new e q.1 q.2).2).2)
  | (k, .inr u) :: t => ((k, .inr u) :: (hl_in t e).1, (hl_in t e).2)
theorem hl_in_ok {cl : List (Nat × AV)} : ∀ {l : List (Nat × AT)} {r : RN} {e : XE}, xe_g r e → (∀ q ∈ l, ∃ v, ea_lk cl q.1 = some v ∧ at_g q.2 v) → ∃ r', rn_le r r' ∧ xe_g r' (hl_in l e).2 ∧ xl_g r' (hl_in l e).1 cl ∧ (hl_in l e).2.2.2.2 = e.2.2.2
  | [], r, e, he, _ => ⟨r, rn_le_rf r, he, (fun q hq => nomatch hq), rfl⟩
  | (k, .inl q) :: t, r, e, he, h => by
    obtain ⟨v, g1, x, rfl, h1, h2⟩ := h _ List.mem_cons_self
    obtain ⟨r1, k1, k2, k3, k4⟩ := xo_new_ok he h1 h2
    obtain ⟨r2, j1, j2, j3, j4⟩ := hl_in_ok (l := t) k2 (fun p hp => h p (List.mem_cons_of_mem _ hp))
    refine ⟨r2, rn_le_tr k1 j1, j2, fun p hp => ?_, j4.trans k4⟩
    rcases List.mem_cons.mp hp with rfl | hp
    · exact ⟨_, g1, xv_gi (xi_g_mono j1 k3)⟩
    · exact j3 p hp
  | (k, .inr u) :: t, r, e, he, h => by
    obtain ⟨v, g1, g2⟩ := h _ List.mem_cons_self
    obtain ⟨r2, j1, j2, j3, j4⟩ := hl_in_ok (l := t) he (fun p hp => h p (List.mem_cons_of_mem _ hp))
    refine ⟨r2, j1, j2, fun p hp => ?_, j4⟩
    rcases List.mem_cons.mp hp with rfl | hp
    · exact ⟨_, g1, at_u g2⟩
    · exact j3 p hp
theorem xe_o_h {r : RN} {e : XE} {C : List AC} {a k : Nat} {x : XI} {y : Int32} (hh : xh_g r G e C) (hf : fd_g C a k y) (hx : xi_g r x y) : xh_g r G (xe_o e a k x) C := by
  obtain ⟨m1, m2, m3⟩ := hh
  obtain ⟨ci, vs, g1, g2⟩ := hf
  refine ⟨fun b cj fs' hG' => ?_, m2, m3⟩
  obtain ⟨vs', n1, n2, n3⟩ := m1 b cj fs' hG'
  refine ⟨vs', n1, n2, fun k' f' hf' => ?_⟩
  obtain ⟨v', o1, o2⟩ := n3 k' f' hf'
  refine ⟨v', o1, ?_⟩
  show xh_f r (xo_k ((a, k, x) :: e.2.2.2.2) b k') f' v'
  rw [xo_k_cons]
  split
  · rename_i hc
    obtain ⟨rfl, rfl⟩ := hc
    rw [g1] at n1
    cases n1
    rw [g2] at o1
    cases o1
    exact xv_gi hx
  · exact o2
def hf_in (l : List (Nat × Nat × Int × Int)) (e : XE) : XE := match l with
  | [] => e
  | q :: t => hf_in t (xe_o (xo_new e q.2.2.1 q.2.2.2).2 q.1 q.2.1 (xo_new e q.2.2.1 q.2.2.2).1)
theorem hf_in_ok {C : List AC} : ∀ {l : List (Nat × Nat × Int × Int)} {r : RN} {e : XE}, xe_g r e → xh_g r G e C → (∀ q ∈ l, ∃ x : Int32, fd_g C q.1 q.2.1 x ∧ q.2.2.1 ≤ x.toInt ∧ x.toInt ≤ q.2.2.2) → ∃ r', rn_le r r' ∧ xe_g r' (hf_in l e) ∧ xh_g r' G (hf_in l e) C
  | [], r, e, he, hh, _ => ⟨r, rn_le_rf r, he, hh⟩
  | q :: t, r, e, he, hh, h => by
    obtain ⟨x, g1, g2, g3⟩ := h _ List.mem_cons_self
    obtain ⟨r1, k1, k2, k3, k4⟩ := xo_new_ok he g2 g3
    obtain ⟨r2, j1, j2, j3⟩ := hf_in_ok (l := t) (xe_o_g k2 q.1 q.2.1 _) (xe_o_h (xh_g_mono k1 k4 hh) g1 k3) (fun p hp => h p (List.mem_cons_of_mem _ hp))
    exact ⟨r2, rn_le_tr k1 j1, j2, j3⟩
def xe_0 : XE := (1, [], [], [], [])
def rn_0 : RN := (fun _ => 0, 1)
theorem xe_0_g : xe_g rn_0 xe_0 := ⟨Nat.one_pos, rfl, (fun q hq => nomatch hq), (fun q hq => nomatch hq)⟩
/-- a head is checked -/
def hd_ck (P : EP) (G : Nat → Option CT) (cts : Nat → List CN) (hd : Nat → Option HA) (c : CN) (n pc : Nat) (h : HA) : Bool :=
  match ms_x G (hl_in h.1 xe_0).1 (hf_in h.2.1 (hl_in h.1 xe_0).2) h.2.2.2 with
  | some l => xz P G cts c (xw P G cts hd c (some (h.2.2.1, l)) n) c.1 pc (hl_in h.1 xe_0).1 [] (hf_in h.2.1 (hl_in h.1 xe_0).2) []
  | none => false
theorem cn_by (hct : ∀ mj c', c' ∈ cts mj → c'.1 = mj ∧ cn_ok P G c') (n : Nat) (hhd : ∀ pc h, hd pc = some h → hd_ck P G cts hd c n pc h = true) (hen : xw P G cts hd c none n c.1 0 (xa_ar 0 (xa_in c.2.1 xe_0).1) [] (hf_in c.2.2.2.2.2 (xa_in c.2.1 xe_0).2) [] = true) : cn_ok P G c := by
  intro vs C0 hvs hI hpre
  have main : ∀ (N : Nat) (pc : Nat) (h : HA), hd pc = some h → ∀ cl C z, ha_g G h cl C → ms_g cl C h.2.2.2 z → 0 ≤ h.2.2.1 - z → (h.2.2.1 - z).toNat = N → (∀ b, xm c.2.2.1 b = false → ea_nt C b = ea_nt C0 b) → ok_ P c.1 pc cl [] C (cn_post G c C0) := by
    intro N
    induction N using Nat.strongRecOn with
    | ind N IHN =>
      intro pc h hp cl C z hg hm hz hN hfr
      have hck := hhd pc h hp
      unfold hd_ck at hck
      split at hck
      · rename_i l hl
        obtain ⟨r1, a1, a2, a3, a4⟩ := hl_in_ok xe_0_g hg.2.1
        have hh1 : xh_g r1 G (hl_in h.1 xe_0).2 C := xh_g_mono a1 a4 (show xh_g rn_0 G xe_0 C from hg.1)
        obtain ⟨r2, b1, b2, b3⟩ := hf_in_ok a2 hh1 hg.2.2
        have hl2 := xl_g_mono b1 a3
        obtain ⟨k1, k2⟩ := ms_x_ok b2 hl2 b3 hl
        have hz' : z = ln_z r2 l := (k2 z).mp hm
        have hI2 := xw_ok (P := P) (G := G) (cts := cts) (hd := hd) (c := c) (C0 := C0) (st := some (h.2.2.1, l)) (Q := fun u => 0 ≤ u ∧ u < h.2.2.1 - z) hct (fun pc' h' hp' cl' C' z' hg' hm' hq' hfr' => IHN ((h'.2.2.1 - z').toNat) (by omega) pc' h' hp' cl' C' z' hg' hm' hq'.1 rfl hfr') n
        refine xz_ok hct hI2 hck r2 cl [] C [] ⟨k1, fun u hu hlt => ⟨hu, ?_⟩⟩ b2 hl2 trivial b3 trivial hfr
        rw [hz']
        exact hlt
      · cases hck
  obtain ⟨r1, a1, a2, a3, a4⟩ := xa_in_ok xe_0_g hvs
  have hh1 : xh_g r1 G (xa_in c.2.1 xe_0).2 C0 := xh_g_mono a1 a4 (show xh_g rn_0 G xe_0 C0 from hI)
  obtain ⟨r2, b1, b2, b3⟩ := hf_in_ok a2 hh1 hpre
  exact xw_ok (P := P) (G := G) (cts := cts) (hd := hd) (c := c) (C0 := C0) (st := none) (Q := fun u => 0 ≤ u) hct (fun pc' h' hp' cl' C' z' hg' hm' hq' hfr' => main _ pc' h' hp' cl' C' z' hg' hm' hq' rfl hfr') n _ _ _ _ _ _ hen r2 _ [] C0 [] (fun z hz => hz) b2 (xa_ar_ok 0 (xs_g_mono b1 a3)) trivial b3 trivial (fun b _ => rfl)
end XC
end
