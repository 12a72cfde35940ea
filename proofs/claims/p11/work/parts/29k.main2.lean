/-! THE CHECKER WITH RELATIONS: its step -/
def cx_pick (G : Nat → Option CT) (e : XE) (L1 : List (Nat × XV)) (as : List XV) (l : List CX) : Option (CX × List XI) := match l with
  | [] => none
  | c :: t => bif xa_fits e as c.1.2.1 then (match pb_x G e c.1.2.2.2.2.2 with
      | some en => bif rl_c G L1 en e c.2.1 then some (c, en) else cx_pick G e L1 as t
      | none => cx_pick G e L1 as t) else cx_pick G e L1 as t
theorem cx_pick_ok {G : Nat → Option CT} {e : XE} {L1 : List (Nat × XV)} {as : List XV} : ∀ {l : List CX} {c : CX} {en : List XI}, cx_pick G e L1 as l = some (c, en) → c ∈ l ∧ xa_fits e as c.1.2.1 = true ∧ pb_x G e c.1.2.2.2.2.2 = some en ∧ rl_c G L1 en e c.2.1 = true
  | [], c, en, h => by cases h
  | d :: t, c, en, h => by
    have rec' : cx_pick G e L1 as t = some (c, en) → c ∈ d :: t ∧ xa_fits e as c.1.2.1 = true ∧ pb_x G e c.1.2.2.2.2.2 = some en ∧ rl_c G L1 en e c.2.1 = true := fun h => by
      obtain ⟨h1, h2⟩ := cx_pick_ok h
      exact ⟨List.mem_cons_of_mem _ h1, h2⟩
    unfold cx_pick at h
    cases hb : xa_fits e as d.1.2.1 with
    | false => rw [hb] at h; exact rec' h
    | true =>
      rw [hb] at h
      simp only [cond_true] at h
      split at h
      · rename_i en' hen
        cases hr : rl_c G L1 en' e d.2.1 with
        | false => rw [hr] at h; exact rec' h
        | true =>
          rw [hr] at h
          cases h
          exact ⟨List.mem_cons_self, hb, hen, hr⟩
      · exact rec' h
/-- behind a call, in one of its two ways -/
def xk_w (G : Nat → Option CT) (en : List XI) (rt : Nat × Int × Int) (po : PO) (T : List XV) (e : XE) (k : List XV → XE → Bool) : Bool :=
  match rl_i G (match rt.1 with
    | 1 => [(0, .inl (xo_new e rt.2.1 rt.2.2).1)]
    | _ => []) en (pb_i G po.1 (xc_ret rt T e).2) po.2 with
  | some e' => fS (xc_ret rt T e).1 fun S => fEa e' fun e' => k S e'
  | none => true
def xk_c (G : Nat → Option CT) (c : CX) (en : List XI) (T : List XV) (e : XE) (k : List XV → XE → Bool) : Bool := match c.1.2.2.2.1.1 with
  | 1 => bif decide (c.2.2.1 ≤ c.1.2.2.2.1.2.1) then xk_w G en c.1.2.2.2.1 c.2.2.2.2 T e k
    else xk_w G en (1, c.1.2.2.2.1.2.1, c.2.2.1 - 1) c.2.2.2.1 T e k && xk_w G en (1, c.2.2.1, c.1.2.2.2.1.2.2) c.2.2.2.2 T e k
  | _ => xk_w G en c.1.2.2.2.1 c.2.2.2.2 T e k
section XK
variable {r : RN} {GF : GH} {G : Nat → Option CT} {en : List XI} {EV : List Int} {e : XE} {C : List AC} {T : List XV} {ct : List AV} {k : List XV → XE → Bool}
theorem xk_w_ok (h9 : ∀ b, 999 ≤ b → G b = none) {rt : Nat × Int × Int} {po : PO} (he : xe_g r e) (hT : xs_g r T ct) (hn : en_g r en EV) (hh : xh_g r G e C) (hg : gh_g r GF e C) {v : Option AV} (hv : rt_g rt v) (hp : po_g GF po v EV C) (h : xk_w G en rt po T e k = true) : ∃ r' S e', rn_le r r' ∧ xe_g r' e' ∧ xs_g r' S (v.toList ++ ct) ∧ xh_g r' G e' C ∧ gh_g r' GF e' C ∧ k S e' = true := by
  unfold xk_w at h
  obtain ⟨r1, a1, a2, a3, a4⟩ := xc_ret_ok he hv hT
  obtain ⟨⟨NV, hNV⟩, hrl⟩ := hp
  obtain ⟨r2, b1, b2, b3, b4⟩ := pb_i_ok h9 a2 (xh_g_mono a1 a4 hh) (gh_g_mono a1 a4 hg) hNV
  have hL : xl_g r2 (match rt.1 with
    | 1 => [(0, .inl (xo_new e rt.2.1 rt.2.2).1)]
    | _ => []) (rv_l v) := by
    obtain ⟨t1, lo, hi⟩ := rt
    match t1, hv, a3 with
    | 0, hv, a3 => exact fun q hq => nomatch hq
    | 1, ⟨x, hx, h1, h2⟩, a3 =>
      subst hx
      intro q hq
      rcases List.mem_cons.mp hq with rfl | hq
      · exact ⟨_, rfl, xv_g_mono b1 a3.1⟩
      · exact nomatch hq
    | _ + 2, hv, a3 => exact fun q hq => nomatch hq
  obtain ⟨e2, c1, c2, c3⟩ := rl_i_ok b2 hL (en_g_mono (rn_le_tr a1 b1) hn) b3 b4 hrl
  rw [c1] at h
  dsimp only at h
  rw [fS_eq, fEa_eq] at h
  exact ⟨r2, _, e2, rn_le_tr a1 b1, c2, xs_g_mono b1 a3, xh_g_mono (rn_le_rf r2) c3 b3, gh_g_mono (rn_le_rf r2) c3 b4, h⟩
theorem xk_c_ok (h9 : ∀ b, 999 ≤ b → G b = none) {c : CX} (he : xe_g r e) (hT : xs_g r T ct) (hn : en_g r en EV) (hh : xh_g r G e C) (hg : gh_g r GF e C) {v : Option AV} (hv : rt_g c.1.2.2.2.1 v) (hp : po_g GF (cx_po c v) v EV C) (h : xk_c G c en T e k = true) : ∃ r' S e', rn_le r r' ∧ xe_g r' e' ∧ xs_g r' S (v.toList ++ ct) ∧ xh_g r' G e' C ∧ gh_g r' GF e' C ∧ k S e' = true := by
  unfold xk_c at h
  split at h
  · rename_i h1
    have hv0 := hv
    unfold rt_g at hv
    rw [h1] at hv
    obtain ⟨x, rfl, x1, x2⟩ := hv
    unfold cx_po at hp
    dsimp only at hp
    cases hb : decide (c.2.2.1 ≤ c.1.2.2.2.1.2.1) with
    | true =>
      rw [hb] at h
      simp only [cond_true, decide_eq_true_eq] at h hb
      rw [if_neg (by omega)] at hp
      exact xk_w_ok h9 he hT hn hh hg hv0 hp h
    | false =>
      rw [hb] at h
      simp only [cond_false, Bool.and_eq_true] at h
      split at hp
      · exact xk_w_ok h9 he hT hn hh hg (rt := (1, c.1.2.2.2.1.2.1, c.2.2.1 - 1)) ⟨x, rfl, x1, by dsimp only; omega⟩ hp h.1
      · exact xk_w_ok h9 he hT hn hh hg (rt := (1, c.2.2.1, c.1.2.2.2.1.2.2)) ⟨x, rfl, by dsimp only; omega, x2⟩ hp h.2
  · rename_i h1
    have hp2 : po_g GF c.2.2.2.2 v EV C := by
      unfold cx_po at hp
      split at hp
      · rename_i x
        exfalso
        unfold rt_g at hv
        split at hv
        · cases hv
        · rename_i h2
          exact h1 h2
        · obtain ⟨y, hy⟩ := hv
          cases hy
      · exact hp
    exact xk_w_ok h9 he hT hn hh hg hv hp2 h
end XK
/-- what holds at a method's end -/
def po_c (G : Nat → Option CT) (en : List XI) (v : Option XV) (po : PO) (e : XE) : Bool := pb_c G e po.1 && rl_c G (match v with
  | some x => [(0, x)]
  | none => []) en e po.2
def xr_po (G : Nat → Option CT) (c : CX) (en : List XI) (v : Option XV) (e : XE) : Bool := match v with
  | some (.inl i) => xz_o (xq_le e (0, 0, c.2.2.1) i 0) (fun e => po_c G en v c.2.2.2.2 e) && xz_o (xq_le e i (0, 0, c.2.2.1) (-1)) (fun e => po_c G en v c.2.2.2.1 e)
  | _ => po_c G en v c.2.2.2.2 e
theorem po_c_ok {r : RN} {GF : GH} {G : Nat → Option CT} {en : List XI} {EV : List Int} {e : XE} {C : List AC} (he : xe_g r e) (hn : en_g r en EV) (hh : xh_g r G e C) (hg : gh_g r GF e C) {a : Option XV} {v : Option AV} (hv : xs_ov r a v) {po : PO} (h : po_c G en a po e = true) : po_g GF po v EV C := by
  unfold po_c at h
  simp only [Bool.and_eq_true] at h
  refine ⟨pb_c_ok he hh hg h.1, rl_c_ok he ?_ hn hh hg h.2⟩
  cases a with
  | none => rw [show v = none from hv]; exact fun q hq => nomatch hq
  | some x =>
    obtain ⟨u, rfl, hu⟩ := hv
    intro q hq
    rcases List.mem_cons.mp hq with rfl | hq
    · exact ⟨u, rfl, hu⟩
    · exact nomatch hq
theorem xr_po_ok {r : RN} {GF : GH} {G : Nat → Option CT} {c : CX} {en : List XI} {EV : List Int} {e : XE} {C : List AC} (he : xe_g r e) (hn : en_g r en EV) (hh : xh_g r G e C) (hg : gh_g r GF e C) {a : Option XV} {v : Option AV} (hv : xs_ov r a v) (h : xr_po G c en a e = true) : po_g GF (cx_po c v) v EV C := by
  unfold xr_po at h
  split at h
  · rename_i i
    simp only [Bool.and_eq_true] at h
    have hv0 := hv
    obtain ⟨u, rfl, x, rfl, hx⟩ := hv
    unfold cx_po
    dsimp only
    have hk : xi_z r (0, 0, c.2.2.1) = c.2.2.1 := by unfold xi_z; dsimp only; omega
    split
    · obtain ⟨e', k1, k2, k3⟩ := xq_le_ok (k := -1) he hx.1 (j := (0, 0, c.2.2.1)) he.1 (by rw [hk, ← hx.2]; omega)
      exact po_c_ok k2 hn (xh_g_mono (rn_le_rf r) k3 hh) (gh_g_mono (rn_le_rf r) k3 hg) hv0 (xz_o_ok h.2 k1)
    · obtain ⟨e', k1, k2, k3⟩ := xq_le_ok (k := 0) he (i := (0, 0, c.2.2.1)) he.1 hx.1 (by rw [hk, ← hx.2]; omega)
      exact po_c_ok k2 hn (xh_g_mono (rn_le_rf r) k3 hh) (gh_g_mono (rn_le_rf r) k3 hg) hv0 (xz_o_ok h.1 k1)
  · rename_i hne
    have : cx_po c v = c.2.2.2.2 := by
      unfold cx_po
      split
      · rename_i x
        exfalso
        cases a with
        | none => cases (show some _ = none from hv)
        | some b =>
          obtain ⟨u, hu, hb⟩ := hv
          cases hu
          match b, hb, hne with
          | .inl i, _, hne => exact hne i rfl
          | .inr (.inl k), hb, _ => cases (show Sum.inl _ = Sum.inr _ from hb)
          | .inr (.inr 0), hb, _ => obtain ⟨y, hy⟩ := hb; cases hy
          | .inr (.inr 1), hb, _ => cases (show Sum.inl _ = Sum.inr _ from hb)
          | .inr (.inr 2), hb, _ => cases (show Sum.inl _ = Sum.inr _ from hb)
          | .inr (.inr (_ + 3)), hb, _ => cases (show Sum.inl _ = Sum.inr _ from hb)
      · rfl
    rw [this]
    exact po_c_ok he hn hh hg hv h
/-- a method's end -/
def xz2_r (G : Nat → Option CT) (c : CX) (en : List XI) (ih : IH) (v : Option XV) (e : XE) (F : List FR) : Bool := match F with
  | [] => xs_fit e c.1.2.2.2.1 v && (xi_al2 G e && xr_po G c en v e)
  | f :: t => ea_fn (f.2.1 + 3) fun pc => ih f.1 pc f.2.2.1 (v.toList ++ f.2.2.2.1) e t
/-- a call -/
def xz2_c (P : EP) (G : Nat → Option CT) (cts : Nat → List CX) (c : CX) (ih : IH) (i : Instr) (m pc : Nat) (L : List (Nat × XV)) (S : List XV) (e : XE) (F : List FR) : Bool := match xs_cl (ep_own P) G i (ep_pl P m) S with
  | some (mj, as, T, b) => bif Nat.blt (ep_dep P mj) (ep_dep P m) && (Nat.ble (xs_wt T) 8 && Nat.ble (xs_wt as) (ep_nls P mj)) then ea_fL (xa_ar 0 as) fun L1 => ea_fL T fun T => match cx_pick G e L1 as (cts mj) with
      | some (c', en') => bif xi_al2 G e && xm_sub c'.1.2.2.1 c.1.2.2.1 then
          ea_fn (pc + 3) fun pc => fEa (xe_fr e c'.1.2.2.1) fun e => xk_c G c' en' T e (fun S e => ih m pc L S e F)
        else false
      | none => ih mj 0 L1 [] e ((m, pc, L, T, b) :: F)
    else false
  | none => false
def xs_mm2 (i : Instr) (pl : Nat → Option (Nat × Nat × Nat)) (S : List XV) : Option (Bool × XI × XI × List XV) := match i with
  | .invokestatic x => match pl x, S with
    | some (16, _), .inl b :: .inl a :: T => some (true, a, b, T)
    | some (17, _), .inl b :: .inl a :: T => some (false, a, b, T)
    | _, _ => none
  | _ => none
def xz2_i (P : EP) (G : Nat → Option CT) (cts : Nat → List CX) (c : CX) (ih : IH) (i : Instr) (m pc : Nat) (L : List (Nat × XV)) (S : List XV) (e : XE) (F : List FR) : Bool := match i with
  | .invokestatic x => match xs_mm2 i (ep_pl P m) S with
    | some (mx, a, b, T) => bif Nat.ble (xs_wt T + 1) 80 && Nat.ble 1 (ep_dep P m) then ea_fn (pc + 3) fun pc =>
        bif mx then xz_o (xr_le e a b (-1)) (fun e => ih m pc L (.inl b :: T) e F) && xz_o (xr_le e b a 0) (fun e => ih m pc L (.inl a :: T) e F)
        else xz_o (xr_le e b a (-1)) (fun e => ih m pc L (.inl b :: T) e F) && xz_o (xr_le e a b 0) (fun e => ih m pc L (.inl a :: T) e F)
      else false
    | none => bif ea_is9 (ep_pl P m x) then false else xz2_c P G cts c ih i m pc L S e F
  | .invokevirtual _ => xz2_c P G cts c ih i m pc L S e F
  | .tableswitch _ lo hi _ => if -2147483648 ≤ lo ∧ lo ≤ 2147483647 ∧ -2147483648 ≤ hi ∧ hi ≤ 2147483647 then match xs_sw i pc S e with
      | some (l, S) => xz_l l (fun t e => ih m t L S e F)
      | none => false
    else false
  | _ => false
/-- an instruction on cells: ghosts that it reaches -/
def xz2_s (gs : GS) (c : CX) (pl : Nat → Option (Nat × Nat × Nat)) (i : Instr) (S : List XV) (e e' : XE) : Option XE := bif xs_sto i then match xs_tc pl i S e.2.1 with
  | some t => bif gs_all gs c.1.2.2.1 t then some (xe_gd gs t e') else none
  | none => none
  else some e'
/-- a piece that is proved otherwise -/
def xz2_m (G : Nat → Option CT) (c : CX) (mc : CX × Nat) (L : List (Nat × XV)) (e : XE) (k : XE → Bool) : Bool := match pb_x G e mc.1.1.2.2.2.2.2 with
  | some en' => bif rl_c G L en' e mc.1.2.1 && (xi_al2 G e && (xm_sub mc.1.1.2.2.1 c.1.2.2.1 && ha_l L e (mc_l mc.1.1.2.1))) then fEa (xe_fr e mc.1.1.2.2.1) fun e => match rl_i G [] en' (pb_i G mc.1.2.2.2.2.1 e) mc.1.2.2.2.2.2 with
      | some e' => fEa e' fun e' => k e'
      | none => true
    else false
  | none => false
/-- a step -/
def xz2 (P : EP) (G : Nat → Option CT) (gs : GS) (cts : Nat → List CX) (mac : Nat → Nat → Option (CX × Nat)) (c : CX) (en : List XI) (ih : IH) (m pc : Nat) (L : List (Nat × XV)) (S : List XV) (e : XE) (F : List FR) : Bool := match mac m pc with
  | some mc => xz2_m G c mc L e (fun e => ih m mc.2 L S e F)
  | none => match ep_cod P m pc with
    | none => false
    | some (i, len) => bif Nat.beq (ea_len i) 0 || Nat.beq (ea_len i) len then match xs_p i pc (ep_nls P m) L S e with
      | some f => ea_fn f.1 fun pc => fL f.2.1 fun L => fS f.2.2.1 fun S => fE f.2.2.2 fun e => ih m pc L S e F
      | none => match xs_h (xm c.1.2.2.1) G (ep_ini P m) (ep_pl P m) (ep_fty P) i pc S e with
        | some f => (match xz2_s gs c (ep_pl P m) i S e f.2.2 with
          | some e' => ea_fn f.1 fun pc => fS f.2.1 fun S => fE e' fun e => ih m pc L S e F
          | none => false)
        | none => match xs_br i pc S with
          | some (cd, a, b, t, S) => xz_o (xr_c cd e a b) (fun e => ih m t L S e F) && xz_o (xr_c (xr_not cd) e a b) (fun e => ea_fn (pc + 3) fun pc => ih m pc L S e F)
          | none => match xs_rt (ep_rtp P m) i S e with
            | some v => xz2_r G c en ih v e F
            | none => xz2_i P G cts c ih i m pc L S e F
    else false
def xw2_s (P : EP) (G : Nat → Option CT) (GF : GH) (c : CX) (en : List XI) (EV : List Int) (C0 : List AC) (st : Option (Int × List (Int × XI))) (Q : Int → Prop) (m pc : Nat) (L : List (Nat × XV)) (S : List XV) (e : XE) (F : List FR) : Prop := ∀ (r : RN) (cl : List (Nat × AV)) (cs : List AV) (C : List AC) (cf : List FC), st2_g r st Q → en_g r en EV → xe_g r e → xl_g r L cl → xs_g r S cs → xh_g r G e C → gh_g r GF e C → ea_rl (fr_g r) F cf → fr_c GF c.1.2.2.1 C0 C → ok_ P m pc cl cs C (fr_K P (cx_post GF G c EV C0) cf)
section XW2
variable {P : EP} {G : Nat → Option CT} {GF : GH} {gs : GS} {cts : Nat → List CX} {mac : Nat → Nat → Option (CX × Nat)} {c : CX} {en : List XI} {EV : List Int} {C0 : List AC} {st : Option (Int × List (Int × XI))} {Q : Int → Prop} {ih : IH}
theorem xe_fr_gh {r : RN} {e : XE} {C C' : List AC} {M : List (Nat × Nat)} (hg : gh_g r GF e C) (hM : ∀ k, 999 ≤ k → xm M k = false → GF k C' = GF k C) : gh_g r GF (xe_fr e M) C' := by
  intro a k x hk hx
  have hx2 : xo_k (e.2.2.2.2.filter (fun q => !xm M q.1)) a k = some x := hx
  rw [xo_k_filter] at hx2
  split at hx2
  · cases hx2
  · rename_i hn
    have h0 : xm M a = false := by
      cases h : xm M a with
      | false => rfl
      | true => exact absurd h hn
    rw [hM a hk h0]
    exact hg a k x hk hx2
set_option maxHeartbeats 2000000 in
theorem xz2_c_ok (h9 : ∀ b, 999 ≤ b → G b = none) (hct : ∀ mj c', c' ∈ cts mj → c'.1.1 = mj ∧ cx_ok P G GF c') (hI : ∀ m pc L S e F, ih m pc L S e F = true → xw2_s P G GF c en EV C0 st Q m pc L S e F) {i : Instr} {m pc : Nat} {L : List (Nat × XV)} {S : List XV} {e : XE} {F : List FR} (hc : ep_cod P m pc = some (i, 3)) (h : xz2_c P G cts c ih i m pc L S e F = true) : xw2_s P G GF c en EV C0 st Q m pc L S e F := by
  intro r cl cs C cf hst hn he hl hs hh hg hf hfr
  unfold xz2_c at h
  split at h
  · rename_i mj as T b hcl
    obtain ⟨q, vs, ct, k1, k2, k3, k4, k5⟩ := xs_cl_ok hs hh hcl
    cases hd : (Nat.blt (ep_dep P mj) (ep_dep P m) && (Nat.ble (xs_wt T) 8 && Nat.ble (xs_wt as) (ep_nls P mj))) with
    | false => rw [hd] at h; cases h
    | true =>
      rw [hd] at h
      simp only [cond_true] at h
      rw [ea_fL_eq, ea_fL_eq] at h
      rw [← xs_wt_ok k3, ← xs_wt_ok k4] at hd
      refine ok_call hc k1 k2 hd ?_
      split at h
      · rename_i c' en' hpick
        obtain ⟨p1, p2, p3, p4⟩ := cx_pick_ok hpick
        obtain ⟨q1, q2⟩ := hct mj c' p1
        cases hb : (xi_al2 G e && xm_sub c'.1.2.2.1 c.1.2.2.1) with
        | false => rw [hb] at h; cases h
        | true =>
          rw [hb] at h
          simp only [cond_true] at h
          rw [ea_fn_eq, fEa_eq] at h
          simp only [Bool.and_eq_true] at hb
          obtain ⟨i1, i2⟩ := hb
          have hx : xI G C := xI_of2 h9 he hh i1
          obtain ⟨EV', v1, v2⟩ := pb_x_ok he hh hg p3
          have run := q2 vs C EV' (xa_fits_ok he p2 k3) hx v1 (rl_c_ok he (xa_ar_ok 0 k3) v2 hh hg p4)
          rw [q1] at run
          refine ok_post run (fun o C' ho => ?_)
          obtain ⟨v, rfl, o1, o2, o3, o4⟩ := ho
          have he' : xe_g r (xe_fr e c'.1.2.2.1) := he
          obtain ⟨r', S', e', j1, j2, j3, j4, j5, j6⟩ := xk_c_ok h9 he' k4 v2 (xI_to hh o1 o2.1) (xe_fr_gh hg o2.2) o3 o4 h
          exact hI _ _ _ _ _ _ j6 r' cl (v.toList ++ ct) C' cf (st2_g_mono j1 hst) (en_g_mono j1 hn) j2 (xl_g_mono j1 hl) j3 j4 j5 (fr_g_mono j1 hf) (fr_c_tr hfr i2 o2)
      · exact hI _ _ _ _ _ _ h r _ [] C ((m, pc, cl, ct, b) :: cf) hst hn he (xa_ar_ok 0 k3) trivial hh hg ⟨⟨rfl, rfl, hl, k4, rfl⟩, hf⟩ hfr
  · cases h
theorem xs_mm2_ok {r : RN} {i : Instr} {pl : Nat → Option (Nat × Nat × Nat)} {S T : List XV} {cs : List AV} {mx : Bool} {a b : XI} (hs : xs_g r S cs) (h : xs_mm2 i pl S = some (mx, a, b, T)) : ∃ x y z ct, i = .invokestatic z ∧ xi_g r a x ∧ xi_g r b y ∧ xs_g r T ct ∧ ea_mm (pl z) cs = some (.inl (.inl (bif mx then (if x < y then y else x) else (if y < x then y else x))) :: ct) := by
  cases i with
  | invokestatic z =>
    unfold xs_mm2 at h
    dsimp only at h
    split at h
    · rename_i u b' a' T' hp
      cases h
      obtain ⟨_, _, rfl, ⟨y, rfl, hy⟩, hs1⟩ := xs_pop hs
      obtain ⟨_, _, rfl, ⟨x, rfl, hx⟩, hs2⟩ := xs_pop hs1
      exact ⟨x, y, z, _, rfl, hx, hy, hs2, by rw [hp]; rfl⟩
    · rename_i u b' a' T' hp
      cases h
      obtain ⟨_, _, rfl, ⟨y, rfl, hy⟩, hs1⟩ := xs_pop hs
      obtain ⟨_, _, rfl, ⟨x, rfl, hx⟩, hs2⟩ := xs_pop hs1
      exact ⟨x, y, z, _, rfl, hx, hy, hs2, by rw [hp]; rfl⟩
    · cases h
  | _ => cases h
set_option maxHeartbeats 2000000 in
theorem xz2_i_ok (h9 : ∀ b, 999 ≤ b → G b = none) (hct : ∀ mj c', c' ∈ cts mj → c'.1.1 = mj ∧ cx_ok P G GF c') (hI : ∀ m pc L S e F, ih m pc L S e F = true → xw2_s P G GF c en EV C0 st Q m pc L S e F) {i : Instr} {len m pc : Nat} {L : List (Nat × XV)} {S : List XV} {e : XE} {F : List FR} (hc : ep_cod P m pc = some (i, len)) (hlen : (Nat.beq (ea_len i) 0 || Nat.beq (ea_len i) len) = true) (h : xz2_i P G cts c ih i m pc L S e F = true) : xw2_s P G GF c en EV C0 st Q m pc L S e F := by
  cases i with
  | invokestatic x =>
    obtain rfl := len3 hlen rfl
    unfold xz2_i at h
    dsimp only at h
    split at h
    · rename_i mx a b T hq
      cases hb : (Nat.ble (xs_wt T + 1) 80 && Nat.ble 1 (ep_dep P m)) with
      | false => rw [hb] at h; cases h
      | true =>
        rw [hb] at h
        simp only [cond_true] at h
        rw [ea_fn_eq] at h
        intro r cl cs C cf hst hn he hl hs hh hg hf hfr
        obtain ⟨u, v, z, ct, e1, hu, hv, hT, hm⟩ := xs_mm2_ok hs hq
        cases e1
        refine ok_mm hc hm (by rw [show ea_wt (.inl (.inl (bif mx then (if u < v then v else u) else (if v < u then v else u))) :: ct) = xs_wt T + 1 from by rw [← xs_wt_ok hT]; exact Nat.add_comm _ _]; exact hb) ?_
        cases mx with
        | true =>
          simp only [cond_true, Bool.and_eq_true] at h ⊢
          split
          · rename_i hlt
            obtain ⟨e', j1, j2, j3⟩ := xr_le_ok (k := -1) he hu hv (by have := Int32.lt_iff_toInt_lt.mp hlt; omega)
            exact hI _ _ _ _ _ _ (xz_o_ok h.1 j1) r cl _ C cf hst hn j2 hl (xs_cons (xv_gi hv) hT) (xh_g_mono (rn_le_rf r) j3 hh) (gh_g_mono (rn_le_rf r) j3 hg) hf hfr
          · rename_i hlt
            obtain ⟨e', j1, j2, j3⟩ := xr_le_ok (k := 0) he hv hu (by have := mt Int32.lt_iff_toInt_lt.mpr hlt; omega)
            exact hI _ _ _ _ _ _ (xz_o_ok h.2 j1) r cl _ C cf hst hn j2 hl (xs_cons (xv_gi hu) hT) (xh_g_mono (rn_le_rf r) j3 hh) (gh_g_mono (rn_le_rf r) j3 hg) hf hfr
        | false =>
          simp only [cond_false, Bool.and_eq_true] at h ⊢
          split
          · rename_i hlt
            obtain ⟨e', j1, j2, j3⟩ := xr_le_ok (k := -1) he hv hu (by have := Int32.lt_iff_toInt_lt.mp hlt; omega)
            exact hI _ _ _ _ _ _ (xz_o_ok h.1 j1) r cl _ C cf hst hn j2 hl (xs_cons (xv_gi hv) hT) (xh_g_mono (rn_le_rf r) j3 hh) (gh_g_mono (rn_le_rf r) j3 hg) hf hfr
          · rename_i hlt
            obtain ⟨e', j1, j2, j3⟩ := xr_le_ok (k := 0) he hu hv (by have := mt Int32.lt_iff_toInt_lt.mpr hlt; omega)
            exact hI _ _ _ _ _ _ (xz_o_ok h.2 j1) r cl _ C cf hst hn j2 hl (xs_cons (xv_gi hu) hT) (xh_g_mono (rn_le_rf r) j3 hh) (gh_g_mono (rn_le_rf r) j3 hg) hf hfr
    · cases h9' : ea_is9 (ep_pl P m x) with
      | true => rw [h9'] at h; cases h
      | false =>
        rw [h9'] at h
        exact xz2_c_ok h9 hct hI hc h
  | invokevirtual x =>
    obtain rfl := len3 hlen rfl
    exact xz2_c_ok h9 hct hI hc h
  | tableswitch d lo hi offs =>
    unfold xz2_i at h
    dsimp only at h
    split at h
    · rename_i hb
      split at h
      · rename_i l S' hsw
        intro r cl cs C cf hst hn he hl hs hh hg hf hfr
        obtain ⟨t, e', cs', k1, k2, k3, k4, k5⟩ := xs_sw_ok (nL := ep_nls P m) (cl := cl) (fun _ _ _ _ heq => by cases heq; exact hb) he hs hsw
        refine ok_p hc hlen k5 ?_
        exact hI _ _ _ _ _ _ (xz_l_ok h k1) r cl cs' C cf hst hn k2 hl k4 (xh_g_mono (rn_le_rf r) k3 hh) (gh_g_mono (rn_le_rf r) k3 hg) hf hfr
      · cases h
    · cases h
  | _ => cases h
theorem xo_new_O (e : XE) (lo hi : Int) : (xo_new e lo hi).2.2.2.2 = e.2.2.2 := by
  unfold xo_new
  split <;> rfl
/-- what a step on cells does to the ghosts -/
theorem xs_h_O {M : Nat → Bool} {ini : Bool} {pl : Nat → Option (Nat × Nat × Nat)} {fty : Nat → Nat → Nat} {i : Instr} {pc : Nat} {S : List XV} {e : XE} {f : Nat × List XV × XE} (h9 : ∀ b, 999 ≤ b → G b = none) (h : xs_h M G ini pl fty i pc S e = some f) {g : Nat} (hg9 : 999 ≤ g) (k : Nat) : xo_k f.2.2.2.2.2.2 g k = xo_k e.2.2.2.2 g k := by
  have put : ∀ (a : Nat) (q : CT) (j : Nat) (x : XI) (O : List (Nat × Nat × XI)), G a = some q → xo_k ((a, j, x) :: O) g k = xo_k O g k := by
    intro a q j x O hG
    rw [xo_k_cons, if_neg]
    rintro ⟨rfl, -⟩
    rw [h9 _ hg9] at hG
    cases hG
  cases i with
  | getfield x =>
    unfold xs_h at h
    dsimp only at h
    split at h
    · rename_i ci j hp
      unfold xs_gf at h
      split at h
      · rename_i a S0
        split at h
        · rename_i ci' fs hG
          obtain ⟨-, h⟩ := bif_n h
          split at h
          · obtain ⟨-, h⟩ := bif_n h
            cases h
            rfl
          · split at h
            · cases h
              rfl
            · cases h
              show xo_k ((a, j, _) :: (xo_new e _ _).2.2.2.2.2) g k = _
              rw [put a _ _ _ _ hG, xo_new_O]
            · cases h
        · cases h
      · cases h
    · unfold xs_sf at h
      split at h
      · split at h
        · obtain ⟨-, h⟩ := bif_n h
          cases h
          rfl
        · obtain ⟨-, h⟩ := bif_n h
          cases h
          rfl
        · cases h
      · cases h
  | getstatic x =>
    unfold xs_h at h
    dsimp only at h
    split at h
    · cases h
      rfl
    · cases h
      rfl
    · cases h
  | putfield x =>
    unfold xs_h at h
    dsimp only at h
    split at h
    · rename_i ci j hp
      unfold xs_pf at h
      split at h
      · rename_i v a S0
        split at h
        · rename_i ci' fs hG
          obtain ⟨-, h⟩ := bif_n h
          split at h
          · split at h
            · cases h
              exact put a _ _ _ _ hG
            · split at h
              · cases h
                exact put a _ _ _ _ hG
              · cases h
            · cases h
          · cases h
        · cases h
      · cases h
    · cases h
  | iaload =>
    unfold xs_h xs_al at h
    dsimp only at h
    split at h
    · split at h
      · obtain ⟨-, h⟩ := bif_n h
        split at h
        · cases h; rfl
        · obtain ⟨-, h⟩ := bif_n h
          split at h
          · split at h
            · rename_i q hq
              cases h
              cases hb : (xt_in _ q.1 q.2 && Nat.blt e.2.2.2.1.length 10) with
              | true => show xo_k (xo_new e _ _).2.2.2.2.2 g k = _; rw [xo_new_O]
              | false => show xo_k (xo_new e _ _).2.2.2.2.2 g k = _; rw [xo_new_O]
            · cases h
          · cases h
      · cases h
    · cases h
  | baload =>
    unfold xs_h at h
    dsimp only at h
    split at h
    · rename_i f' hf
      cases h
      unfold xs_al at hf
      split at hf
      · split at hf
        · obtain ⟨-, hf⟩ := bif_n hf
          split at hf
          · cases hf; rfl
          · obtain ⟨-, hf⟩ := bif_n hf
            split at hf
            · split at hf
              · rename_i q hq
                cases hf
                cases hb : (xt_in _ q.1 q.2 && Nat.blt e.2.2.2.1.length 10) with
                | true => show xo_k (xo_new e _ _).2.2.2.2.2 g k = _; rw [xo_new_O]
                | false => show xo_k (xo_new e _ _).2.2.2.2.2 g k = _; rw [xo_new_O]
              · cases hf
            · cases hf
        · cases hf
      · cases hf
    · unfold xs_sb at h
      split at h
      · rename_i i q S0 hx9
        obtain ⟨-, h⟩ := bif_n h
        cases h0 : decide (i.1 = 0) with
        | true =>
          rw [h0] at h
          cases h
          rfl
        | false =>
          rw [h0] at h
          cases h
          show xo_k (xo_new e _ _).2.2.2.2.2 g k = _
          rw [xo_new_O]
      · cases h
  | iastore =>
    unfold xs_h xs_as at h
    dsimp only at h
    split at h
    · split at h
      · obtain ⟨-, h⟩ := bif_n h
        cases h
        rfl
      · cases h
    · cases h
  | bastore =>
    unfold xs_h xs_bs at h
    dsimp only at h
    split at h
    · split at h
      · obtain ⟨-, h⟩ := bif_n h
        obtain ⟨-, h⟩ := bif_n h
        cases h
        rfl
      · cases h
    · cases h
  | laload =>
    unfold xs_h xs_ll at h
    dsimp only at h
    split at h
    · split at h
      · obtain ⟨-, h⟩ := bif_n h
        cases h
        rfl
      · cases h
    · cases h
  | lastore =>
    unfold xs_h xs_lst at h
    dsimp only at h
    split at h
    · split at h
      · obtain ⟨-, h⟩ := bif_n h
        cases h
        rfl
      · cases h
    · cases h
  | aaload =>
    unfold xs_h xs_aa at h
    dsimp only at h
    repeat' (split at h)
    all_goals first | (cases h; rfl) | cases h
  | arraylength =>
    unfold xs_h at h
    dsimp only at h
    split at h
    · rename_i f' hf
      cases h
      unfold xs_len at hf
      repeat' (split at hf)
      all_goals first | (cases hf; rfl) | cases hf
    · unfold xs_sl at h
      split at h
      · obtain ⟨-, h⟩ := bif_n h
        cases h
        rfl
      · cases h
  | ldc x =>
    unfold xs_h at h
    dsimp only at h
    split at h
    · cases h; rfl
    · obtain ⟨-, h⟩ := bif_n h
      cases h
      rfl
    · cases h
  | ldc_w x =>
    unfold xs_h at h
    dsimp only at h
    split at h
    · cases h; rfl
    · obtain ⟨-, h⟩ := bif_n h
      cases h
      rfl
    · cases h
  | ldc2_w x =>
    unfold xs_h at h
    dsimp only at h
    repeat' (split at h)
    all_goals first | (cases h; rfl) | cases h
  | _ => cases h
set_option maxHeartbeats 2000000 in
theorem xz2_ok (h9 : ∀ b, 999 ≤ b → G b = none) (hgs : gs_ok GF gs) (hct : ∀ mj c', c' ∈ cts mj → c'.1.1 = mj ∧ cx_ok P G GF c') (hmc : ∀ m pc mc, mac m pc = some mc → mc_ok P G GF m pc mc.1 mc.2) (hI : ∀ m pc L S e F, ih m pc L S e F = true → xw2_s P G GF c en EV C0 st Q m pc L S e F) {m pc : Nat} {L : List (Nat × XV)} {S : List XV} {e : XE} {F : List FR} (h : xz2 P G gs cts mac c en ih m pc L S e F = true) : xw2_s P G GF c en EV C0 st Q m pc L S e F := by
  unfold xz2 at h
  split at h
  · rename_i mc hmac
    intro r cl cs C cf hst hn he hl hs hh hg hf hfr
    unfold xz2_m at h
    split at h
    · rename_i en' hen
      cases hb : (rl_c G L en' e mc.1.2.1 && (xi_al2 G e && (xm_sub mc.1.1.2.2.1 c.1.2.2.1 && ha_l L e (mc_l mc.1.1.2.1)))) with
      | false => rw [hb] at h; cases h
      | true =>
        rw [hb] at h
        simp only [cond_true] at h
        rw [fEa_eq] at h
        simp only [Bool.and_eq_true] at hb
        obtain ⟨p4, i1, i2, i4⟩ := hb
        obtain ⟨EV', v1, v2⟩ := pb_x_ok he hh hg hen
        refine hmc m pc mc hmac cl cs C EV' _ (ha_l_ok he hl i4) (xI_of2 h9 he hh i1) v1 (rl_c_ok he hl v2 hh hg p4) (fun C' o1 o2 o4 => ?_)
        obtain ⟨⟨NV, hNV⟩, hrl⟩ := o4
        have he' : xe_g r (xe_fr e mc.1.1.2.2.1) := he
        obtain ⟨r2, b1, b2, b3, b4⟩ := pb_i_ok h9 he' (xI_to hh o1 o2.1) (xe_fr_gh hg o2.2) hNV
        obtain ⟨e2, c1, c2, c3⟩ := rl_i_ok (L := []) b2 (fun q hq => nomatch hq) (en_g_mono b1 v2) b3 b4 hrl
        rw [c1] at h
        dsimp only at h
        rw [fEa_eq] at h
        exact hI _ _ _ _ _ _ h r2 cl cs C' cf (st2_g_mono b1 hst) (en_g_mono b1 hn) c2 (xl_g_mono b1 hl) (xs_g_mono b1 hs) (xh_g_mono (rn_le_rf r2) c3 b3) (gh_g_mono (rn_le_rf r2) c3 b4) (fr_g_mono b1 hf) (fr_c_tr hfr i2 o2)
    · cases h
  · split at h
    · cases h
    · rename_i i len hc
      cases hlen : (Nat.beq (ea_len i) 0 || Nat.beq (ea_len i) len) with
      | false => rw [hlen] at h; cases h
      | true =>
        rw [hlen] at h
        simp only [cond_true] at h
        split at h
        · rename_i f hp
          rw [ea_fn_eq, fL_eq, fS_eq, fE_eq] at h
          intro r cl cs C cf hst hn he hl hs hh hg hf hfr
          obtain ⟨r', cl', cs', k1, k2, k3, k4, k5, k6⟩ := xs_p_ok he hl hs hp
          refine ok_p hc hlen k6 ?_
          exact hI _ _ _ _ _ _ h r' cl' cs' C cf (st2_g_mono k1 hst) (en_g_mono k1 hn) k2 k3 k4 (xh_g_mono k1 k5 hh) (gh_g_mono k1 k5 hg) (fr_g_mono k1 hf) hfr
        · split at h
          · rename_i f hp
            split at h
            · rename_i e' he'
              rw [ea_fn_eq, fS_eq, fE_eq] at h
              intro r cl cs C cf hst hn he hl hs hh hg hf hfr
              obtain ⟨⟨r', cs', C', k1, k2, k3, k4, k5, k6⟩, k7⟩ := xs_h_ok (nL := ep_nls P m) (cl := cl) (scr := ep_scr P m) he hs hh hp
              refine ok_h hc hlen k7 k6 ?_
              have hg1 : gh_g r' GF f.2.2 C := by
                intro a9 k x ha9 hx
                rw [xs_h_O h9 hp ha9] at hx
                obtain ⟨w1, w2⟩ := hg a9 k x ha9 hx
                exact ⟨Nat.lt_of_lt_of_le w1 k1.1, by rw [← w2, xi_z, xi_z, k1.2 _ w1]⟩
              have key : xe_g r' e' ∧ xh_g r' G e' (C'.getD C) ∧ gh_g r' GF e' (C'.getD C) ∧ fr_c GF c.1.2.2.1 C0 (C'.getD C) := by
                unfold xz2_s at he'
                cases hsto : xs_sto i with
                | false =>
                  rw [hsto] at he'
                  cases he'
                  obtain rfl : C' = none := xs_no hp hsto k6
                  exact ⟨k2, k4, hg1, hfr⟩
                | true =>
                  rw [hsto] at he'
                  simp only [cond_true] at he'
                  split at he'
                  · rename_i t ht
                    have hbut := xs_yes he hs k6 ht
                    have hM : ∀ b, xm c.1.2.2.1 b = false → ea_nt (C'.getD C) b = ea_nt C0 b := fun b hb => by rw [k5 b hb, hfr.1 b hb]
                    cases ha : gs_all gs c.1.2.2.1 t with
                    | false => rw [ha] at he'; cases he'
                    | true =>
                      rw [ha] at he'
                      cases he'
                      exact ⟨k2, xe_gd_h h9 k4, xe_gd_g hgs hg1 hbut, hM, fun k hk hm => by rw [gs_same hgs (gs_all_hit hm ha) hbut, hfr.2 k hk hm]⟩
                  · cases he'
              exact hI _ _ _ _ _ _ h r' cl cs' _ cf (st2_g_mono k1 hst) (en_g_mono k1 hn) key.1 (xl_g_mono k1 hl) k3 key.2.1 key.2.2.1 (fr_g_mono k1 hf) key.2.2.2
            · cases h
          · split at h
            · rename_i cd a b t S' hp
              simp only [Bool.and_eq_true] at h
              intro r cl cs C cf hst hn he hl hs hh hg hf hfr
              obtain ⟨x, y, cs', k1, k2, k3, k4⟩ := xs_br_ok (nL := ep_nls P m) (cl := cl) he hs hp
              rcases k4 with ⟨k4, k5⟩ | ⟨k4, k5⟩
              · obtain ⟨e', j1, j2, j3⟩ := xr_c_ok he k1 k2 k4
                refine ok_p hc hlen k5 ?_
                exact hI _ _ _ _ _ _ (xz_o_ok h.1 j1) r cl cs' C cf hst hn j2 hl k3 (xh_g_mono (rn_le_rf r) j3 hh) (gh_g_mono (rn_le_rf r) j3 hg) hf hfr
              · obtain ⟨e', j1, j2, j3⟩ := xr_c_ok he k1 k2 (xr_not_ok k4)
                refine ok_p hc hlen k5 ?_
                have h2 := xz_o_ok h.2 j1
                rw [ea_fn_eq] at h2
                exact hI _ _ _ _ _ _ h2 r cl cs' C cf hst hn j2 hl k3 (xh_g_mono (rn_le_rf r) j3 hh) (gh_g_mono (rn_le_rf r) j3 hg) hf hfr
            · split at h
              · rename_i v hv
                intro r cl cs C cf hst hn he hl hs hh hg hf hfr
                obtain ⟨w, k1, k2, k3, k4⟩ := xs_rt_ok he hs hv
                refine ok_r hc hlen (k3 _ _ _) (k4 _ _ _ _ _ _) k1 ?_
                unfold xz2_r at h
                split at h
                · obtain rfl := ea_rl_nil hf
                  simp only [Bool.and_eq_true] at h
                  exact ⟨w, rfl, xI_of2 h9 he hh h.2.1, hfr, xs_fit_ok he h.1 k2, xr_po_ok he hn hh hg k2 h.2.2⟩
                · rename_i f t
                  obtain ⟨g, u, rfl, ⟨g1, g2, g3, g4, g5⟩, hf2⟩ := ea_rl_cons hf
                  rw [ea_fn_eq] at h
                  show ok_ P g.1 (g.2.1 + 3) g.2.2.1 (w.toList ++ g.2.2.2.1) C _
                  rw [← g1, ← g2]
                  exact hI _ _ _ _ _ _ h r _ _ C u hst hn he g3 (xs_ov_list k2 g4) hh hg hf2 hfr
              · exact xz2_i_ok h9 hct hI hc hlen h
end XW2
