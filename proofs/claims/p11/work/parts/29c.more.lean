/-! THE CHECKER, switches, Math, copies, throws -/
def xs_sw1 (pc : Nat) (offs : List Int) (k : Int) (a : XI) (e : XE) : Option (List (Nat × Option XE)) := match offs with
  | [] => some []
  | o :: t => match ea_to pc o, xs_sw1 pc t (k + 1) a e with
    | some tt, some l => some ((tt, xr_eq e a (0, 0, k)) :: l)
    | _, _ => none
theorem xi_k {r : RN} {e : XE} (he : xe_g r e) {k : Int} {x : Int32} (h : x.toInt = k) : xi_g r (0, 0, k) x := ⟨he.1, by rw [xi_z]; dsimp only; omega⟩
theorem xs_sw1_ok {r : RN} {e : XE} (he : xe_g r e) {pc : Nat} {a : XI} {x : Int32} (hx : xi_g r a x) : ∀ {offs : List Int} {k : Int} {l : List (Nat × Option XE)}, xs_sw1 pc offs k a e = some l → ∀ {j : Nat} {o : Int}, x.toInt = k + j → offs[j]? = some o → ∃ tt e', ea_to pc o = some tt ∧ (tt, some e') ∈ l ∧ xe_g r e' ∧ e'.2.2.2 = e.2.2.2
  | [], k, l, h, j, o, hj, ho => by simp at ho
  | o0 :: t, k, l, h, j, o, hj, ho => by
    unfold xs_sw1 at h
    split at h
    · rename_i tt l0 h1 h2
      cases h
      cases j with
      | zero =>
        simp at ho
        subst ho
        obtain ⟨e', g1, g2, g3⟩ := xr_eq_ok he hx (xi_k he (k := k) (x := x) (by omega)) rfl
        exact ⟨tt, e', h1, by rw [g1]; exact List.mem_cons_self, g2, g3⟩
      | succ j =>
        have ho' : t[j]? = some o := by simpa using ho
        obtain ⟨tt', e', g1, g2, g3⟩ := xs_sw1_ok he hx h2 (j := j) (by omega) ho'
        exact ⟨tt', e', g1, List.mem_cons_of_mem _ g2, g3⟩
    · cases h
/-- the ways of a switch -/
def xs_sw (i : Instr) (pc : Nat) (S : List XV) (e : XE) : Option (List (Nat × Option XE) × List XV) := match i with
  | .tableswitch dflt lo hi offs => match S with
    | .inl a :: S => match ea_to pc dflt, xs_sw1 pc offs.toList lo a e with
      | some t, some l => if hi - lo < (offs.toList.length : Int) then some ((t, xr_le e a (0, 0, lo) (-1)) :: (t, xr_le e (0, 0, hi) a (-1)) :: l, S) else none
      | _, _ => none
    | _ => none
  | _ => none
theorem xs_sw_ok {r : RN} {e : XE} {i : Instr} {pc nL : Nat} {cl : List (Nat × AV)} {cs : List AV} {S S' : List XV} {l : List (Nat × Option XE)} (hbd : ∀ d lo hi offs, i = .tableswitch d lo hi offs → -2147483648 ≤ lo ∧ lo ≤ 2147483647 ∧ -2147483648 ≤ hi ∧ hi ≤ 2147483647) (he : xe_g r e) (hs : xs_g r S cs) (h : xs_sw i pc S e = some (l, S')) : ∃ t e' cs', (t, some e') ∈ l ∧ xe_g r e' ∧ e'.2.2.2 = e.2.2.2 ∧ xs_g r S' cs' ∧ ea_p i pc nL cl cs = some (t, cl, cs') := by
  cases i with
  | tableswitch dflt lo hi offs =>
    obtain ⟨b1, b2, b3, b4⟩ := hbd _ _ _ _ rfl
    unfold xs_sw at h
    dsimp only at h
    split at h
    · rename_i a S0
      split at h
      · rename_i t l0 h1 h2
        split at h
        · rename_i hlen
          cases h
          obtain ⟨_, cs', rfl, ⟨x, rfl, hx⟩, hs1⟩ := xs_pop hs
          have pt : ∀ z : Int, -2147483648 ≤ z → z ≤ 2147483647 → (Int32.ofInt z).toInt = z := fun z z1 z2 => by
            rw [Int32.toInt_ofInt]
            exact iv_bm z1 z2
          by_cases c1 : x.toInt < lo
          · obtain ⟨e', g1, g2, g3⟩ := xr_le_ok he hx (xi_k he (pt lo b1 b2)) (k := -1) (by rw [pt lo b1 b2]; omega)
            refine ⟨t, e', cs', by rw [g1]; exact List.mem_cons_self, g2, g3, hs1, ?_⟩
            have : ea_sw dflt lo hi offs (.inl x) = some dflt := by
              unfold ea_sw
              exact if_pos c1
            simp only [ea_p, this, h1]
          · by_cases c2 : hi < x.toInt
            · obtain ⟨e', g1, g2, g3⟩ := xr_le_ok he (xi_k he (pt hi b3 b4)) hx (k := -1) (by rw [pt hi b3 b4]; omega)
              refine ⟨t, e', cs', by rw [g1]; exact List.mem_cons_of_mem _ List.mem_cons_self, g2, g3, hs1, ?_⟩
              have : ea_sw dflt lo hi offs (.inl x) = some dflt := by
                unfold ea_sw
                rw [if_neg (show ¬ ea_hi (.inl x) < lo from c1)]
                exact if_pos c2
              simp only [ea_p, this, h1]
            · have hj : (x.toInt - lo).toNat < offs.toList.length := by omega
              obtain ⟨tt, e', g1, g2, g3, g4⟩ := xs_sw1_ok he hx h2 (j := (x.toInt - lo).toNat) (by omega) (List.getElem?_eq_some_iff.mpr ⟨hj, rfl⟩)
              refine ⟨tt, e', cs', List.mem_cons_of_mem _ (List.mem_cons_of_mem _ g2), g3, g4, hs1, ?_⟩
              have : ea_sw dflt lo hi offs (.inl x) = offs.toList[(x.toInt - lo).toNat]? := by
                unfold ea_sw
                rw [if_neg (show ¬ ea_hi (.inl x) < lo from c1), if_neg (show ¬ hi < ea_lo (.inl x) from c2)]
                exact if_pos ⟨c1, c2⟩
              simp only [ea_p, this, List.getElem?_eq_some_iff.mpr ⟨hj, rfl⟩, g1]
        · cases h
      · cases h
    · cases h
  | _ => cases h
/-- the greater, the lesser -/
def iv_mxg (i j : AI) : AI := iv_mk (max (ea_lo i) (ea_lo j)) (max (ea_hi i) (ea_hi j))
theorem iv_mxg_ok (i j : AI) (x y : Int32) (hx : ea_gi i x) (hy : ea_gi j y) : ea_gi (iv_mxg i j) (if x < y then y else x) := by
  have a := ea_bd hx
  have b := ea_bd hy
  split
  · rename_i h
    have := Int32.lt_iff_toInt_lt.mp h
    exact iv_in (by omega) (by omega)
  · rename_i h
    have : ¬ x.toInt < y.toInt := fun h' => h (Int32.lt_iff_toInt_lt.mpr h')
    exact iv_in (by omega) (by omega)
def iv_mng (i j : AI) : AI := iv_mk (min (ea_lo i) (ea_lo j)) (min (ea_hi i) (ea_hi j))
theorem iv_mng_ok (i j : AI) (x y : Int32) (hx : ea_gi i x) (hy : ea_gi j y) : ea_gi (iv_mng i j) (if y < x then y else x) := by
  have a := ea_bd hx
  have b := ea_bd hy
  split
  · rename_i h
    have := Int32.lt_iff_toInt_lt.mp h
    exact iv_in (by omega) (by omega)
  · rename_i h
    have : ¬ y.toInt < x.toInt := fun h' => h (Int32.lt_iff_toInt_lt.mpr h')
    exact iv_in (by omega) (by omega)
def xs_wt (S : List XV) : Nat := match S with
  | [] => 0
  | a :: t => xv_cat a + xs_wt t
theorem xs_wt_ok {r : RN} : ∀ {S : List XV} {cs : List AV}, xs_g r S cs → ea_wt cs = xs_wt S
  | [], [], _ => rfl
  | a :: S, v :: cs, h => by
    show ea_cat v + ea_wt cs = xv_cat a + xs_wt S
    rw [xs_wt_ok h.2, xv_g_cat h.1]
  | [], _ :: _, h => h.elim
  | _ :: _, [], h => h.elim
def xs_mm (i : Instr) (pl : Nat → Option (Nat × Nat × Nat)) (S : List XV) (e : XE) : Option (List XV × XE) := match i with
  | .invokestatic x => match pl x, S with
    | some (16, _), .inl b :: .inl a :: T => some (.inl (xo_2 (fun x y => if x < y then y else x) iv_mxg e a b).1 :: T, (xo_2 (fun x y => if x < y then y else x) iv_mxg e a b).2)
    | some (17, _), .inl b :: .inl a :: T => some (.inl (xo_2 (fun x y => if y < x then y else x) iv_mng e a b).1 :: T, (xo_2 (fun x y => if y < x then y else x) iv_mng e a b).2)
    | _, _ => none
  | _ => none
theorem xs_mm_ok {r : RN} {e e' : XE} {i : Instr} {pl : Nat → Option (Nat × Nat × Nat)} {S T : List XV} {cs : List AV} (he : xe_g r e) (hs : xs_g r S cs) (h : xs_mm i pl S e = some (T, e')) : ∃ x r' cs', i = .invokestatic x ∧ rn_le r r' ∧ xe_g r' e' ∧ e'.2.2.2 = e.2.2.2 ∧ xs_g r' T cs' ∧ ea_mm (pl x) cs = some cs' := by
  cases i with
  | invokestatic x =>
    unfold xs_mm at h
    dsimp only at h
    split at h
    · rename_i hp
      cases h
      obtain ⟨_, _, rfl, ⟨y, rfl, hy⟩, hs1⟩ := xs_pop hs
      obtain ⟨_, cs', rfl, ⟨z, rfl, hz⟩, hs2⟩ := xs_pop hs1
      obtain ⟨r', k1, k2, k3, k4⟩ := xo_2_ok (f := fun x y => if x < y then y else x) iv_mxg_ok he hz hy
      exact ⟨x, r', _, rfl, k1, k2, k4, xs_cons (xv_gi k3) (xs_g_mono k1 hs2), by rw [hp]; rfl⟩
    · rename_i hp
      cases h
      obtain ⟨_, _, rfl, ⟨y, rfl, hy⟩, hs1⟩ := xs_pop hs
      obtain ⟨_, cs', rfl, ⟨z, rfl, hz⟩, hs2⟩ := xs_pop hs1
      obtain ⟨r', k1, k2, k3, k4⟩ := xo_2_ok (f := fun x y => if y < x then y else x) iv_mng_ok he hz hy
      exact ⟨x, r', _, rfl, k1, k2, k4, xs_cons (xv_gi k3) (xs_g_mono k1 hs2), by rw [hp]; rfl⟩
    · cases h
  | _ => cases h
theorem ok_mm {P : EP} {m pc x : Nat} {L : List (Nat × AV)} {S T : List AV} {C : List AC} {K : Option AV ⊕ Nat → List AC → Prop} (hc : ep_cod P m pc = some (.invokestatic x, 3)) (hm : ea_mm (ep_pl P m x) S = some T) (hw : (Nat.ble (ea_wt T) 80 && Nat.ble 1 (ep_dep P m)) = true) (h : ok_ P m (pc + 3) L T C K) : ok_ P m pc L S C K := by
  refine ok_step 0 (fun k w => ?_) h
  unfold ea_1
  rw [hc]
  show (match ea_mm _ S with | some T => _ | none => _) = _
  rw [hm]
  dsimp only
  rw [hw]
  simp only [cond_true]
  rw [ea_fn_eq, ea_fS_eq]
/-- types of elements: all of the one go into the other -/
def ft_le (f g : FT) : Bool := match f, g with
  | .inl p, .inl q => decide (q.1 ≤ p.1) && decide (p.2 ≤ q.2)
  | _, _ => false
def fl_le (fs gs : List FT) : Bool := match fs, gs with
  | [], [] => true
  | f :: fs, g :: gs => ft_le f g && fl_le fs gs
  | _, _ => false
theorem ft_le_ok {f g : FT} (h : ft_le f g = true) {v : AV} (hv : ft_g f v) : ft_g g v := by
  match f, g, h, hv with
  | .inl p, .inl q, h, ⟨x, e, h1, h2⟩ =>
    have h' : (decide (q.1 ≤ p.1) && decide (p.2 ≤ q.2)) = true := h
    simp only [Bool.and_eq_true, decide_eq_true_eq] at h'
    exact ⟨x, e, by omega, by omega⟩
theorem fl_le_ok : ∀ {fs gs : List FT}, fl_le fs gs = true → ∀ {k : Nat} {f : FT}, ea_nt fs k = some f → ∃ g, ea_nt gs k = some g ∧ ft_le f g = true
  | [], [], _, k, f, h => by cases h
  | f0 :: fs, g0 :: gs, hl, k, f, h => by
    unfold fl_le at hl
    simp only [Bool.and_eq_true] at hl
    cases k with
    | zero => cases h; exact ⟨g0, rfl, hl.1⟩
    | succ k => exact fl_le_ok hl.2 (k := k) h
  | [], _ :: _, hl, _, _, _ => by cases hl
  | _ :: _, [], hl, _, _, _ => by cases hl
/-- a copy of a whole array -/
def xs_cy (M : Nat → Bool) (G : Nat → Option CT) (S : List XV) (e : XE) : Option (List XV × XE) := match S with
  | .inl n :: .inl dp :: .inr (.inl b) :: .inl sp :: .inr (.inl a) :: T => match G a, G b with
    | some (.inr (t, n0, p, fs)), some (.inr (t1, n1, p1, gs)) => if t = t1 ∧ t < 2 ∧ n0 = n1 ∧ p = p1 ∧ n0 < 2147483648 ∧ n.1 = 0 ∧ n.2.2 = (n0 : Int) ∧ sp.1 = 0 ∧ sp.2.2 = 0 ∧ dp.1 = 0 ∧ dp.2.2 = 0 ∧ xs_wt T ≤ 8 ∧ M b = true ∧ ((t = 1 ∧ xR_n e.2.2.2.1 a = true) ∨ (t = 0 ∧ fl_le fs gs = true ∧ xR_c e.2.1 e.2.2.2.1 a p fs = true)) then some (T, xe_rf e b) else none
    | _, _ => none
  | _ => none
theorem xs_cy_ok {r : RN} {M : Nat → Bool} {G : Nat → Option CT} {e e' : XE} {S T : List XV} {cs : List AV} {C : List AC} (he : xe_g r e) (hs : xs_g r S cs) (hh : xh_g r G e C) (h : xs_cy M G S e = some (T, e')) : ∃ cs' C', xe_g r e' ∧ xs_g r T cs' ∧ xh_g r G e' C' ∧ (∀ b, M b = false → ea_nt C' b = ea_nt C b) ∧ ea_cy cs C = some (cs', C') := by
  unfold xs_cy at h
  split at h
  · rename_i n dp b sp a T0
    split at h
    · rename_i t n0 p fs t1 n1 p1 gs hGa hGb
      split at h
      · rename_i hc
        obtain ⟨rfl, ht, rfl, rfl, hn, c1, c2, c3, c4, c5, c6, hw, hM, hle⟩ := hc
        cases h
        obtain ⟨_, _, rfl, ⟨x1, rfl, h1⟩, hs1⟩ := xs_pop hs
        obtain ⟨_, _, rfl, ⟨x2, rfl, h2⟩, hs2⟩ := xs_pop hs1
        obtain ⟨v3, _, rfl, h3, hs3⟩ := xs_pop hs2
        obtain rfl : v3 = .inr (.inl (some b)) := h3
        obtain ⟨_, _, rfl, ⟨x4, rfl, h4⟩, hs4⟩ := xs_pop hs3
        obtain ⟨v5, cs', rfl, h5, hs5⟩ := xs_pop hs4
        obtain rfl : v5 = .inr (.inl (some a)) := h5
        have e1 : x1 = Int32.ofNat n0 := by
          apply Int32.toInt_inj.mp
          rw [h1.2, xi_z, c1, c2, show (Int32.ofNat n0).toInt = ((n0 : Int)).bmod (2 ^ 32) from by rw [Int32.toInt_ofNat'], iv_bm (by omega) (by omega)]
          omega
        have e2 : x2 = 0 := by
          apply Int32.toInt_inj.mp
          rw [h2.2, xi_z, c5, c6]
          show 0 * _ + 0 = (0 : Int)
          omega
        have e4 : x4 = 0 := by
          apply Int32.toInt_inj.mp
          rw [h4.2, xi_z, c3, c4]
          show 0 * _ + 0 = (0 : Int)
          omega
        obtain ⟨d, us, g1, g2⟩ := hh.2.1 a t n0 p fs hGa
        obtain ⟨d', us', f1, f2⟩ := hh.2.1 b t n0 p gs hGb
        refine ⟨cs', C.set b (.inl (t, n0, d, us)), he, hs5, ⟨fun b' cj fs' hG' => ?_, fun b' kd' n' p' fs' hG' => ?_, fun q hq => ?_⟩, fun b' hb' => ?_, ?_⟩
        · obtain ⟨vs', n1, n2⟩ := hh.1 b' cj fs' hG'
          have hab : b ≠ b' := by rintro rfl; rw [hGb] at hG'; cases hG'
          exact ⟨vs', by rw [nt_set_ne hab]; exact n1, n2⟩
        · by_cases hab : b = b'
          · subst hab
            rw [hGb] at hG'
            cases hG'
            refine ⟨d, us, nt_set_self f1, fun j hj => Or.inl ?_⟩
            rcases hle with ⟨rfl, hrn⟩ | ⟨rfl, hle, hrc⟩
            · exact (g2 j hj).elim id (fun ⟨q, q1, q2, _⟩ => absurd q2 (xR_n_ok hrn q q1))
            · have hg : el_g 0 p fs j (ea_al d us j) := (g2 j hj).elim id (fun ⟨q, q1, q2, q3⟩ => xR_1_ok he (by decide) (hh.2.2 q q1) (by rw [q2]; exact g1) q3 (xR_c_mem hrc q q1 q2))
              obtain ⟨f0, k1, k2⟩ := el_get (by decide) hg
              obtain ⟨g0, k3, k4⟩ := fl_le_ok hle k1
              exact el_put (by decide) ⟨g0, k3, ft_le_ok k4 k2⟩
          · obtain ⟨d2, us2, n1, n2⟩ := hh.2.1 b' kd' n' p' fs' hG'
            refine ⟨d2, us2, by rw [nt_set_ne hab]; exact n1, fun j hj => ?_⟩
            rcases n2 j hj with w | ⟨q, q1, q2, q3⟩
            · exact Or.inl w
            · exact Or.inr ⟨q, xe_rf_in q1 (by rw [q2]; exact fun h => hab h.symm), q2, q3⟩
        · obtain ⟨hq1, hq2⟩ := xe_rf_mem hq
          obtain ⟨kd', n', d2, us2, j, x, n1, n2⟩ := hh.2.2 q hq1
          exact ⟨kd', n', d2, us2, j, x, by rw [nt_set_ne (fun h => hq2 h.symm)]; exact n1, n2⟩
        · have hab : b ≠ b' := by rintro rfl; rw [hM] at hb'; cases hb'
          rw [nt_set_ne hab]
        · subst e1 e2 e4
          have hw' : ea_wt cs' ≤ 8 := by rw [xs_wt_ok hs5]; exact hw
          simp only [ea_cy, g1, f1]
          rw [if_pos ⟨trivial, ht, trivial, hn, trivial, trivial, trivial, hw'⟩]
      · cases h
    · cases h
  · cases h
theorem ok_cy {P : EP} {m pc x : Nat} {L : List (Nat × AV)} {S T : List AV} {C C' : List AC} {K : Option AV ⊕ Nat → List AC → Prop} (hc : ep_cod P m pc = some (.invokestatic x, 3)) (h9 : ea_is9 (ep_pl P m x) = true) (hm : ea_cy S C = some (T, C')) (hd : Nat.ble 1 (ep_dep P m) = true) (h : ok_ P m (pc + 3) L T C' K) : ok_ P m pc L S C K := by
  refine ok_step 0 (fun k w => ?_) h
  obtain ⟨u, hu⟩ := ea_is9_ok h9
  unfold ea_1
  rw [hc]
  show (match ea_mm _ S with | some T => _ | none => _) = _
  rw [show ea_mm (ep_pl P m x) S = none from by rw [hu]; rfl]
  dsimp only
  rw [h9]
  simp only [cond_true]
  rw [hm]
  dsimp only
  rw [hd]
  simp only [cond_true]
  rw [ea_fn_eq, ea_fL_eq]
/-- a throw -/
theorem ok_tw {P : EP} {m pc x ce : Nat} {L : List (Nat × AV)} {S : List AV} {C : List AC} {K : Option AV ⊕ Nat → List AC → Prop} (hc : ep_cod P m pc = some (.new x, 3)) (hx : ∃ q, ep_pl P m x = some (11, q)) (hw : Nat.ble (ea_wt S) 100 = true) (ht : ea_tw P m pc = some ce) (h : K (.inr ce) C) : ok_ P m pc L S C K := by
  refine ok_end (o := .inr ce) (C' := C) 0 (fun k w => ?_) h
  obtain ⟨q, hq⟩ := hx
  unfold ea_1
  rw [hc]
  dsimp only
  rw [show (Nat.beq (ea_len (.new x)) 0 || Nat.beq (ea_len (.new x)) 3) = true from rfl]
  simp only [cond_true]
  rw [show ea_p (.new x) pc (ep_nls P m) L S = none from rfl]
  dsimp only
  rw [show ea_h (ep_ini P m) (ep_pl P m) (ep_fty P) (ep_scr P m) (.new x) pc S C = none from by simp only [ea_h, hq]]
  dsimp only
  rw [show ea_rt (ep_rtp P m) (.new x) S = none from rfl]
  dsimp only
  rw [hw]
  simp only [cond_true]
  rw [ht]
  rfl
