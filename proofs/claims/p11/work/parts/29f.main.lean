/-! THE CHECKER, the whole -/
abbrev FR : Type := Nat × Nat × List (Nat × XV) × List XV × Bool
abbrev FC : Type := Nat × Nat × List (Nat × AV) × List AV × Bool
def fr_g (r : RN) (f : FR) (g : FC) : Prop := f.1 = g.1 ∧ f.2.1 = g.2.1 ∧ xl_g r f.2.2.1 g.2.2.1 ∧ xs_g r f.2.2.2.1 g.2.2.2.1 ∧ f.2.2.2.2 = g.2.2.2.2
theorem fr_g_mono {r r' : RN} (h : rn_le r r') {F : List FR} {cf : List FC} (hf : ea_rl (fr_g r) F cf) : ea_rl (fr_g r') F cf := ea_rl_mono (fun _ _ q => ⟨q.1, q.2.1, xl_g_mono h q.2.2.1, xs_g_mono h q.2.2.2.1, q.2.2.2.2⟩) hf
def fr_K (P : EP) (K : Option AV ⊕ Nat → List AC → Prop) (l : List FC) : Option AV ⊕ Nat → List AC → Prop := match l with
  | [] => K
  | g :: t => ok_back P g.1 g.2.1 g.2.2.1 g.2.2.2.1 g.2.2.2.2 (fr_K P K t)
def fr_nh (P : EP) (m : Nat) : Bool := match ep_hdl P m with
  | [] => true
  | _ => false
theorem fr_nh_ok {P : EP} {m : Nat} (h : fr_nh P m = true) : ep_hdl P m = [] := by
  unfold fr_nh at h
  split at h
  · assumption
  · cases h
def fr_t (P : EP) (F : List FR) : Bool := match F with
  | [] => true
  | f :: t => f.2.2.2.2 && (fr_nh P f.1 && fr_t P t)
theorem fr_t_ok {P : EP} {r : RN} {K : Option AV ⊕ Nat → List AC → Prop} {ce : Nat} {C : List AC} (hK : K (.inr ce) C) : ∀ {F : List FR} {cf : List FC}, fr_t P F = true → ea_rl (fr_g r) F cf → fr_K P K cf (.inr ce) C
  | [], [], _, _ => hK
  | f :: t, g :: u, h, hf => by
    unfold fr_t at h
    simp only [Bool.and_eq_true] at h
    obtain ⟨h1, h2, h3⟩ := h
    obtain ⟨⟨g1, g2, g3, g4, g5⟩, hf2⟩ := hf
    refine ⟨by rw [← g5]; exact h1, ?_, fr_t_ok hK h3 hf2⟩
    rw [← g1, fr_nh_ok h2]
    rfl
  | [], _ :: _, _, hf => hf.elim
  | _ :: _, [], _, hf => hf.elim
def nl_in (a : Nat) (l : List Nat) : Bool := match l with
  | [] => false
  | b :: t => Nat.beq b a || nl_in a t
theorem nl_in_ok {a : Nat} : ∀ {l : List Nat}, nl_in a l = true → a ∈ l
  | [], h => by cases h
  | b :: t, h => by
    unfold nl_in at h
    simp only [Bool.or_eq_true] at h
    rcases h with h | h
    · rw [Nat.eq_of_beq_eq_true h]; exact List.mem_cons_self
    · exact List.mem_cons_of_mem _ (nl_in_ok h)
def nl_sub (l l' : List Nat) : Bool := match l with
  | [] => true
  | a :: t => nl_in a l' && nl_sub t l'
theorem nl_sub_ok {l' : List Nat} {a : Nat} : ∀ {l : List Nat}, nl_sub l l' = true → a ∈ l → a ∈ l'
  | [], _, h => nomatch h
  | b :: t, hs, h => by
    unfold nl_sub at hs
    simp only [Bool.and_eq_true] at hs
    rcases List.mem_cons.mp h with rfl | h
    · exact nl_in_ok hs.1
    · exact nl_sub_ok hs.2 h
def nl_nil (l : List Nat) : Bool := match l with
  | [] => true
  | _ => false
def cn_pick (e : XE) (as : List XV) (l : List CN) : Option CN := match l with
  | [] => none
  | c :: t => bif xa_fits e as c.2.1 then some c else cn_pick e as t
theorem cn_pick_ok {e : XE} {as : List XV} : ∀ {l : List CN} {c : CN}, cn_pick e as l = some c → c ∈ l ∧ xa_fits e as c.2.1 = true
  | [], c, h => by cases h
  | d :: t, c, h => by
    unfold cn_pick at h
    cases hb : xa_fits e as d.2.1 with
    | true => rw [hb] at h; cases h; exact ⟨List.mem_cons_self, hb⟩
    | false => rw [hb] at h; exact ⟨List.mem_cons_of_mem _ (cn_pick_ok h).1, (cn_pick_ok h).2⟩
abbrev IH : Type := Nat → Nat → List (Nat × XV) → List XV → XE → List FR → Bool
def xz_o (o : Option XE) (k : XE → Bool) : Bool := match o with
  | some e => fE e k
  | none => true
def xz_l (l : List (Nat × Option XE)) (k : Nat → XE → Bool) : Bool := match l with
  | [] => true
  | q :: t => xz_o q.2 (fun e => k q.1 e) && xz_l t k
theorem xz_l_ok {k : Nat → XE → Bool} : ∀ {l : List (Nat × Option XE)}, xz_l l k = true → ∀ {t : Nat} {e : XE}, (t, some e) ∈ l → k t e = true
  | [], _, t, e, h => nomatch h
  | q :: u, hl, t, e, h => by
    unfold xz_l at hl
    simp only [Bool.and_eq_true] at hl
    rcases List.mem_cons.mp h with rfl | h
    · have h1 : fE e (fun e => k t e) = true := hl.1
      rw [fE_eq] at h1
      exact h1
    · exact xz_l_ok hl.2 h
/-- references by an index between bounds -/
def xs_sp (e : XE) (i : XI) (fs : List FT) (p : Nat) (lo : Int) (n : Nat) : Option (List (Nat × Option XE)) := match n with
  | 0 => some []
  | n + 1 => match ea_nt fs ((lo + (n : Int)).toNat % p), xs_sp e i fs p lo n with
    | some (.inr k), some l => some ((k, xr_eq e i (0, 0, lo + (n : Int))) :: l)
    | _, _ => none
theorem xs_sp_ok {r : RN} {e : XE} (he : xe_g r e) {i : XI} {x : Int32} (hx : xi_g r i x) {fs : List FT} {p : Nat} {lo : Int} : ∀ {n : Nat} {l : List (Nat × Option XE)}, xs_sp e i fs p lo n = some l → lo ≤ x.toInt → x.toInt < lo + (n : Int) → ∃ k e', ea_nt fs (x.toInt.toNat % p) = some (.inr k) ∧ (k, some e') ∈ l ∧ xe_g r e' ∧ e'.2.2.2 = e.2.2.2
  | 0, l, h, h1, h2 => by omega
  | n + 1, l, h, h1, h2 => by
    unfold xs_sp at h
    split at h
    · rename_i k l0 g1 g2
      cases h
      by_cases hz : x.toInt = lo + (n : Int)
      · obtain ⟨e', j1, j2, j3⟩ := xr_eq_ok he hx (xi_k he hz) rfl
        exact ⟨k, e', by rw [hz]; exact g1, by rw [j1]; exact List.mem_cons_self, j2, j3⟩
      · obtain ⟨k', e', j1, j2, j3⟩ := xs_sp_ok he hx g2 h1 (by omega)
        exact ⟨k', e', j1, List.mem_cons_of_mem _ j2, j3⟩
    · cases h
/-- a method's end -/
def xz_r (G : Nat → Option CT) (c : CN) (ih : IH) (v : Option XV) (e : XE) (F : List FR) : Bool := match F with
  | [] => xs_fit e c.2.2.2.1 v && xi_all G e
  | f :: t => ea_fn (f.2.1 + 3) fun pc => ih f.1 pc f.2.2.1 (v.toList ++ f.2.2.2.1) e t
/-- a call -/
def xz_c (P : EP) (G : Nat → Option CT) (cts : Nat → List CN) (c : CN) (ih : IH) (i : Instr) (m pc : Nat) (L : List (Nat × XV)) (S : List XV) (e : XE) (F : List FR) : Bool := match xs_cl (ep_own P) G i (ep_pl P m) S with
  | some (mj, as, T, b) => bif Nat.blt (ep_dep P mj) (ep_dep P m) && (Nat.ble (xs_wt T) 8 && Nat.ble (xs_wt as) (ep_nls P mj)) then match cts mj with
      | [] => ea_fL (xa_ar 0 as) fun L1 => ea_fL T fun T => ih mj 0 L1 [] e ((m, pc, L, T, b) :: F)
      | c1 :: l => match cn_pick e as (c1 :: l) with
        | some c' => bif (xi_all G e && ha_f G e c'.2.2.2.2.2) && (xm_sub c'.2.2.1 c.2.2.1 && (nl_nil c'.2.2.2.2.1 || (b && (fr_nh P m && (fr_t P F && nl_sub c'.2.2.2.2.1 c.2.2.2.2.1))))) then
            ea_fn (pc + 3) fun pc => ea_fL (xe_fr e c'.2.2.1).2.2.2.1 fun R => ea_fL (xe_fr e c'.2.2.1).2.2.2.2 fun O => fS (xc_ret c'.2.2.2.1 T (e.1, e.2.1, e.2.2.1, R, O)).1 fun S => fE (xc_ret c'.2.2.2.1 T (e.1, e.2.1, e.2.2.1, R, O)).2 fun e => ih m pc L S e F
          else false
        | none => false
    else false
  | none => false
def xz_i (P : EP) (G : Nat → Option CT) (cts : Nat → List CN) (c : CN) (ih : IH) (i : Instr) (m pc : Nat) (L : List (Nat × XV)) (S : List XV) (e : XE) (F : List FR) : Bool := match i with
  | .invokestatic x => match xs_mm i (ep_pl P m) S e with
    | some q => bif Nat.ble (xs_wt q.1) 80 && Nat.ble 1 (ep_dep P m) then ea_fn (pc + 3) fun pc => fS q.1 fun S => fE q.2 fun e => ih m pc L S e F else false
    | none => bif ea_is9 (ep_pl P m x) then match xs_cy (xm c.2.2.1) G S e with
        | some q => bif Nat.ble 1 (ep_dep P m) then ea_fn (pc + 3) fun pc => ea_fL q.2.2.2.2.1 fun R => ih m pc L q.1 (q.2.1, q.2.2.1, q.2.2.2.1, R, q.2.2.2.2.2) F else false
        | none => false
      else xz_c P G cts c ih i m pc L S e F
  | .invokevirtual _ => xz_c P G cts c ih i m pc L S e F
  | .aaload => match S with
    | .inl i :: .inr (.inl a) :: S => match G a with
      | some (.inr (_ + 3, n, p, fs)) => bif xs_ix e.2.1 i n && xR_n e.2.2.2.1 a then match xs_sp e i fs p (xi_b e.2.1 i).1 ((xi_b e.2.1 i).2 - (xi_b e.2.1 i).1 + 1).toNat with
          | some l => ea_fn (pc + 1) fun pc => xz_l l (fun k e => ih m pc L (.inr (.inl k) :: S) e F)
          | none => false
        else false
      | _ => false
    | _ => false
  | .tableswitch _ lo hi _ => if -2147483648 ≤ lo ∧ lo ≤ 2147483647 ∧ -2147483648 ≤ hi ∧ hi ≤ 2147483647 then match xs_sw i pc S e with
      | some (l, S) => xz_l l (fun t e => ih m t L S e F)
      | none => false
    else false
  | .new x => match ep_pl P m x with
    | some (11, _) => match ea_tw P m pc with
      | some ce => Nat.ble (xs_wt S) 100 && (nl_in ce c.2.2.2.2.1 && (xi_all G e && fr_t P F))
      | none => false
    | _ => false
  | _ => false
/-- a step -/
def xz (P : EP) (G : Nat → Option CT) (cts : Nat → List CN) (c : CN) (ih : IH) (m pc : Nat) (L : List (Nat × XV)) (S : List XV) (e : XE) (F : List FR) : Bool := match ep_cod P m pc with
  | none => false
  | some (i, len) => bif Nat.beq (ea_len i) 0 || Nat.beq (ea_len i) len then match xs_p i pc (ep_nls P m) L S e with
      | some f => ea_fn f.1 fun pc => fL f.2.1 fun L => fS f.2.2.1 fun S => fE f.2.2.2 fun e => ih m pc L S e F
      | none => match xs_h (xm c.2.2.1) G (ep_ini P m) (ep_pl P m) (ep_fty P) i pc S e with
        | some f => ea_fn f.1 fun pc => fS f.2.1 fun S => fE f.2.2 fun e => ih m pc L S e F
        | none => match xs_br i pc S with
          | some (cd, a, b, t, S) => xz_o (xr_c cd e a b) (fun e => ih m t L S e F) && xz_o (xr_c (xr_not cd) e a b) (fun e => ea_fn (pc + 3) fun pc => ih m pc L S e F)
          | none => match xs_rt (ep_rtp P m) i S e with
            | some v => xz_r G c ih v e F
            | none => xz_i P G cts c ih i m pc L S e F
    else false
def xw_s (P : EP) (G : Nat → Option CT) (c : CN) (C0 : List AC) (st : Option (Int × List (Int × XI))) (Q : Int → Prop) (m pc : Nat) (L : List (Nat × XV)) (S : List XV) (e : XE) (F : List FR) : Prop := ∀ (r : RN) (cl : List (Nat × AV)) (cs : List AV) (C : List AC) (cf : List FC), st_g r st Q → xe_g r e → xl_g r L cl → xs_g r S cs → xh_g r G e C → ea_rl (fr_g r) F cf → (∀ b, xm c.2.2.1 b = false → ea_nt C b = ea_nt C0 b) → ok_ P m pc cl cs C (fr_K P (cn_post G c C0) cf)
section XW
variable {P : EP} {G : Nat → Option CT} {cts : Nat → List CN} {c : CN} {C0 : List AC} {st : Option (Int × List (Int × XI))} {Q : Int → Prop} {ih : IH}
theorem xz_o_ok {o : Option XE} {k : XE → Bool} (h : xz_o o k = true) {e : XE} (he : o = some e) : k e = true := by
  rw [he] at h
  have h1 : fE e k = true := h
  rw [fE_eq] at h1
  exact h1
theorem xs_ov_list {r : RN} {a : Option XV} {v : Option AV} (h : xs_ov r a v) {T : List XV} {ct : List AV} (hT : xs_g r T ct) : xs_g r (a.toList ++ T) (v.toList ++ ct) := by
  cases a with
  | none => rw [show v = none from h]; exact hT
  | some a =>
    obtain ⟨u, rfl, hu⟩ := h
    exact xs_cons hu hT
theorem len3 {i : Instr} {len : Nat} (h : (Nat.beq (ea_len i) 0 || Nat.beq (ea_len i) len) = true) (h3 : ea_len i = 3) : len = 3 := by
  rw [h3] at h
  simp only [Bool.or_eq_true] at h
  rcases h with h | h
  · cases h
  · exact (Nat.eq_of_beq_eq_true h).symm
set_option maxHeartbeats 2000000 in
theorem xz_c_ok (hct : ∀ mj c', c' ∈ cts mj → c'.1 = mj ∧ cn_ok P G c') (hI : ∀ m pc L S e F, ih m pc L S e F = true → xw_s P G c C0 st Q m pc L S e F) {i : Instr} {m pc : Nat} {L : List (Nat × XV)} {S : List XV} {e : XE} {F : List FR} (hc : ep_cod P m pc = some (i, 3)) (h : xz_c P G cts c ih i m pc L S e F = true) : xw_s P G c C0 st Q m pc L S e F := by
  intro r cl cs C cf hst he hl hs hh hf hfr
  unfold xz_c at h
  split at h
  · rename_i mj as T b hcl
    obtain ⟨q, vs, ct, k1, k2, k3, k4, k5⟩ := xs_cl_ok hs hh hcl
    cases hd : (Nat.blt (ep_dep P mj) (ep_dep P m) && (Nat.ble (xs_wt T) 8 && Nat.ble (xs_wt as) (ep_nls P mj))) with
    | false => rw [hd] at h; cases h
    | true =>
      rw [hd] at h
      simp only [cond_true] at h
      rw [← xs_wt_ok k3, ← xs_wt_ok k4] at hd
      refine ok_call hc k1 k2 hd ?_
      split at h
      · rw [ea_fL_eq, ea_fL_eq] at h
        exact hI _ _ _ _ _ _ h r _ [] C ((m, pc, cl, ct, b) :: cf) hst he (xa_ar_ok 0 k3) trivial hh ⟨⟨rfl, rfl, hl, k4, rfl⟩, hf⟩ hfr
      · rename_i c1 l hcts
        split at h
        · rename_i c' hpick
          obtain ⟨p1, p2⟩ := cn_pick_ok hpick
          obtain ⟨q1, q2⟩ := hct mj c' (by rw [hcts]; exact p1)
          cases hb : ((xi_all G e && ha_f G e c'.2.2.2.2.2) && (xm_sub c'.2.2.1 c.2.2.1 && (nl_nil c'.2.2.2.2.1 || (b && (fr_nh P m && (fr_t P F && nl_sub c'.2.2.2.2.1 c.2.2.2.2.1)))))) with
          | false => rw [hb] at h; cases h
          | true =>
            rw [hb] at h
            simp only [cond_true] at h
            rw [ea_fn_eq, ea_fL_eq, ea_fL_eq, fS_eq, fE_eq] at h
            simp only [Bool.and_eq_true] at hb
            obtain ⟨⟨i1, i0⟩, i2, i3⟩ := hb
            have hx : xI G C := xI_of he hh i1
            have run := q2 vs C (xa_fits_ok he p2 k3) hx (ha_f_ok he hh i0)
            rw [q1] at run
            refine ok_post run (fun o C' ho => ?_)
            obtain ⟨o1, o2, o3⟩ := ho
            have hfr' : ∀ b, xm c.2.2.1 b = false → ea_nt C' b = ea_nt C0 b := fun b' hb' => by
              have : xm c'.2.2.1 b' = false := by
                cases hx : xm c'.2.2.1 b' with
                | false => rfl
                | true => rw [xm_sub_ok i2 hx] at hb'; cases hb'
              rw [o2 b' this, hfr b' hb']
            cases o with
            | inl v =>
              have o3' : rt_g c'.2.2.2.1 v := o3
              have he' : xe_g r (xe_fr e c'.2.2.1) := he
              obtain ⟨r', j1, j2, j3, j4⟩ := xc_ret_ok he' o3' k4
              have hh' : xh_g r G (xe_fr e c'.2.2.1) C' := xI_to hh o1 o2
              exact hI _ _ _ _ _ _ h r' cl (v.toList ++ ct) C' cf (st_g_mono j1 hst) j2 (xl_g_mono j1 hl) j3 (xh_g_mono j1 j4 hh') (fr_g_mono j1 hf) hfr'
            | inr ce =>
              have o3' : ce ∈ c'.2.2.2.2.1 := o3
              simp only [Bool.or_eq_true, Bool.and_eq_true] at i3
              rcases i3 with i3 | ⟨b1, b2, b3, b4⟩
              · unfold nl_nil at i3
                split at i3
                · rename_i hn
                  rw [hn] at o3'
                  nomatch o3'
                · cases i3
              · refine ⟨b1, by rw [fr_nh_ok b2]; rfl, ?_⟩
                exact fr_t_ok (r := r) ⟨o1, hfr', nl_sub_ok b4 o3'⟩ b3 hf
        · cases h
  · cases h
set_option maxHeartbeats 2000000 in
theorem xz_i_ok (hct : ∀ mj c', c' ∈ cts mj → c'.1 = mj ∧ cn_ok P G c') (hI : ∀ m pc L S e F, ih m pc L S e F = true → xw_s P G c C0 st Q m pc L S e F) {i : Instr} {len m pc : Nat} {L : List (Nat × XV)} {S : List XV} {e : XE} {F : List FR} (hc : ep_cod P m pc = some (i, len)) (hlen : (Nat.beq (ea_len i) 0 || Nat.beq (ea_len i) len) = true) (h : xz_i P G cts c ih i m pc L S e F = true) : xw_s P G c C0 st Q m pc L S e F := by
  cases i with
  | invokestatic x =>
    obtain rfl := len3 hlen rfl
    unfold xz_i at h
    dsimp only at h
    split at h
    · rename_i q hq
      cases hb : (Nat.ble (xs_wt q.1) 80 && Nat.ble 1 (ep_dep P m)) with
      | false => rw [hb] at h; cases h
      | true =>
        rw [hb] at h
        simp only [cond_true] at h
        rw [ea_fn_eq, fS_eq, fE_eq] at h
        intro r cl cs C cf hst he hl hs hh hf hfr
        obtain ⟨x', r', cs', e1, k1, k2, k3, k4, k5⟩ := xs_mm_ok (T := q.1) (e' := q.2) he hs hq
        cases e1
        refine ok_mm hc k5 (by rw [xs_wt_ok k4]; exact hb) ?_
        exact hI _ _ _ _ _ _ h r' cl cs' C cf (st_g_mono k1 hst) k2 (xl_g_mono k1 hl) k4 (xh_g_mono k1 k3 hh) (fr_g_mono k1 hf) hfr
    · cases h9 : ea_is9 (ep_pl P m x) with
      | true =>
        rw [h9] at h
        simp only [cond_true] at h
        split at h
        · rename_i q hq
          cases hb : Nat.ble 1 (ep_dep P m) with
          | false => rw [hb] at h; cases h
          | true =>
            rw [hb] at h
            simp only [cond_true] at h
            rw [ea_fn_eq, ea_fL_eq] at h
            intro r cl cs C cf hst he hl hs hh hf hfr
            obtain ⟨cs', C', k1, k2, k3, k4, k5⟩ := xs_cy_ok (T := q.1) (e' := q.2) he hs hh hq
            refine ok_cy hc h9 k5 hb ?_
            exact hI _ _ _ _ _ _ h r cl cs' C' cf hst k1 hl k2 k3 hf (fun b' hb' => by rw [k4 b' hb', hfr b' hb'])
        · cases h
      | false =>
        rw [h9] at h
        exact xz_c_ok hct hI hc h
  | invokevirtual x =>
    obtain rfl := len3 hlen rfl
    exact xz_c_ok hct hI hc h
  | aaload =>
    unfold xz_i at h
    dsimp only at h
    split at h
    · rename_i ii a S0
      split at h
      · rename_i kd n p fs hG
        cases hb : (xs_ix e.2.1 ii n && xR_n e.2.2.2.1 a) with
        | false => rw [hb] at h; cases h
        | true =>
          rw [hb] at h
          simp only [cond_true] at h
          simp only [Bool.and_eq_true] at hb
          obtain ⟨hix, hrn⟩ := hb
          split at h
          · rename_i l hsp
            rw [ea_fn_eq] at h
            intro r cl cs C cf hst he hl hs hh hf hfr
            obtain ⟨_, _, rfl, ⟨x, rfl, hx⟩, hs1⟩ := xs_pop hs
            obtain ⟨v0, cs0, rfl, hv0, hs0⟩ := xs_pop hs1
            obtain rfl : v0 = .inr (.inl (some a)) := hv0
            obtain ⟨d, us, g1, g2⟩ := hh.2.1 a (kd + 3) n p fs hG
            obtain ⟨i1, i2, i3⟩ := xs_ix_ok he hix hx
            have b := xi_b_ok he hx
            obtain ⟨k, e', k1, k2, k3, k4⟩ := xs_sp_ok he hx hsp b.1 (by omega)
            obtain ⟨f0, f1, f2⟩ := el_get (by omega) ((g2 _ i3).elim id (fun ⟨q, q1, q2, _⟩ => absurd q2 (xR_n_ok hrn q q1)))
            have hn : x.toNatClampNeg = x.toInt.toNat := rfl
            rw [← hn, f1] at k1
            cases k1
            refine ok_h hc hlen rfl (show ea_h (ep_ini P m) (ep_pl P m) (ep_fty P) (ep_scr P m) .aaload pc _ C = some (pc + 1, .inr (.inl (some k)) :: cs0, none, 0, 0) from by simp only [ea_h, g1, i1, show ea_al d us x.toNatClampNeg = .inr (.inl (some k)) from f2]) ?_
            exact hI _ _ _ _ _ _ (xz_l_ok h k2) r cl _ C cf hst k3 hl (xs_cons (a := .inr (.inl k)) rfl hs0) (xh_g_mono (rn_le_rf r) k4 hh) hf hfr
          · cases h
      · cases h
    · cases h
  | tableswitch d lo hi offs =>
    unfold xz_i at h
    dsimp only at h
    split at h
    · rename_i hb
      split at h
      · rename_i l S' hsw
        intro r cl cs C cf hst he hl hs hh hf hfr
        obtain ⟨t, e', cs', k1, k2, k3, k4, k5⟩ := xs_sw_ok (nL := ep_nls P m) (cl := cl) (fun _ _ _ _ heq => by cases heq; exact hb) he hs hsw
        refine ok_p hc hlen k5 ?_
        exact hI _ _ _ _ _ _ (xz_l_ok h k1) r cl cs' C cf hst k2 hl k4 (xh_g_mono (rn_le_rf r) k3 hh) hf hfr
      · cases h
    · cases h
  | new x =>
    obtain rfl := len3 hlen rfl
    unfold xz_i at h
    dsimp only at h
    split at h
    · rename_i q hq
      split at h
      · rename_i ce hce
        simp only [Bool.and_eq_true] at h
        obtain ⟨h1, h2, h3, h4⟩ := h
        intro r cl cs C cf hst he hl hs hh hf hfr
        refine ok_tw hc ⟨_, hq⟩ (by rw [xs_wt_ok hs]; exact h1) hce ?_
        exact fr_t_ok (r := r) ⟨xI_of he hh h3, hfr, nl_in_ok h2⟩ h4 hf
      · cases h
    · cases h
  | _ => cases h
set_option maxHeartbeats 2000000 in
theorem xz_ok (hct : ∀ mj c', c' ∈ cts mj → c'.1 = mj ∧ cn_ok P G c') (hI : ∀ m pc L S e F, ih m pc L S e F = true → xw_s P G c C0 st Q m pc L S e F) {m pc : Nat} {L : List (Nat × XV)} {S : List XV} {e : XE} {F : List FR} (h : xz P G cts c ih m pc L S e F = true) : xw_s P G c C0 st Q m pc L S e F := by
  unfold xz at h
  split at h
  · cases h
  · rename_i i len hc
    cases hlen : (Nat.beq (ea_len i) 0 || Nat.beq (ea_len i) len) with
    | false => rw [hlen] at h; cases h
    | true =>
      rw [hlen] at h
      simp only [cond_true] at h
      split at h
      · rename_i f hp
        rw [ea_fn_eq, fL_eq, fS_eq, fE_eq] at h
        intro r cl cs C cf hst he hl hs hh hf hfr
        obtain ⟨r', cl', cs', k1, k2, k3, k4, k5, k6⟩ := xs_p_ok he hl hs hp
        refine ok_p hc hlen k6 ?_
        exact hI _ _ _ _ _ _ h r' cl' cs' C cf (st_g_mono k1 hst) k2 k3 k4 (xh_g_mono k1 k5 hh) (fr_g_mono k1 hf) hfr
      · split at h
        · rename_i f hp
          rw [ea_fn_eq, fS_eq, fE_eq] at h
          intro r cl cs C cf hst he hl hs hh hf hfr
          obtain ⟨⟨r', cs', C', k1, k2, k3, k4, k5, k6⟩, k7⟩ := xs_h_ok (nL := ep_nls P m) (cl := cl) (scr := ep_scr P m) he hs hh hp
          refine ok_h hc hlen k7 k6 ?_
          exact hI _ _ _ _ _ _ h r' cl cs' _ cf (st_g_mono k1 hst) k2 (xl_g_mono k1 hl) k3 k4 (fr_g_mono k1 hf) (fun b' hb' => by rw [k5 b' hb', hfr b' hb'])
        · split at h
          · rename_i cd a b t S' hp
            simp only [Bool.and_eq_true] at h
            intro r cl cs C cf hst he hl hs hh hf hfr
            obtain ⟨x, y, cs', k1, k2, k3, k4⟩ := xs_br_ok (nL := ep_nls P m) (cl := cl) he hs hp
            rcases k4 with ⟨k4, k5⟩ | ⟨k4, k5⟩
            · obtain ⟨e', j1, j2, j3⟩ := xr_c_ok he k1 k2 k4
              refine ok_p hc hlen k5 ?_
              exact hI _ _ _ _ _ _ (xz_o_ok h.1 j1) r cl cs' C cf hst j2 hl k3 (xh_g_mono (rn_le_rf r) j3 hh) hf hfr
            · obtain ⟨e', j1, j2, j3⟩ := xr_c_ok he k1 k2 (xr_not_ok k4)
              refine ok_p hc hlen k5 ?_
              have h2 := xz_o_ok h.2 j1
              rw [ea_fn_eq] at h2
              exact hI _ _ _ _ _ _ h2 r cl cs' C cf hst j2 hl k3 (xh_g_mono (rn_le_rf r) j3 hh) hf hfr
          · split at h
            · rename_i v hv
              intro r cl cs C cf hst he hl hs hh hf hfr
              obtain ⟨w, k1, k2, k3, k4⟩ := xs_rt_ok he hs hv
              refine ok_r hc hlen (k3 _ _ _) (k4 _ _ _ _ _ _) k1 ?_
              unfold xz_r at h
              split at h
              · obtain rfl := ea_rl_nil hf
                simp only [Bool.and_eq_true] at h
                exact ⟨xI_of he hh h.2, hfr, xs_fit_ok he h.1 k2⟩
              · rename_i f t
                obtain ⟨g, u, rfl, ⟨g1, g2, g3, g4, g5⟩, hf2⟩ := ea_rl_cons hf
                rw [ea_fn_eq] at h
                show ok_ P g.1 (g.2.1 + 3) g.2.2.1 (w.toList ++ g.2.2.2.1) C _
                rw [← g1, ← g2]
                exact hI _ _ _ _ _ _ h r _ _ C u hst he g3 (xs_ov_list k2 g4) hh hf2 hfr
            · exact xz_i_ok hct hI hc hlen h
end XW
