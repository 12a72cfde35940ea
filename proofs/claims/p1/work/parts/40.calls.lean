/-! IN STEP: calls, copies, throws; every instruction; a run -/
theorem fr_I0 {v : FV} {f : Nat → Option FR} {r : FR} (H : @Sum.rec Nat (Nat ⊕ AV) (fun _ => Option FR) f (fun _ => none) v = some r) : ∃ n, v = .inl n ∧ f n = some r := by
  cases v with
  | inl n => exact ⟨n, rfl, H⟩
  | inr u => cases H
/-- the last of an instruction's ways -/
def ea_tl (P : EP) (cal : Nat → Nat → List (Nat × AV) → List AV → List AC → Nat → Nat → Option AR) (m pc : Nat) (L : List (Nat × AV)) (S : List AV) (C : List AC) (k w : Nat) (j : Instr) : Option (AF ⊕ AR) := match j with
            | .invokespecial x => match ea_oi (ep_pl P m x) S with
              | some T => bif Nat.ble (ea_wt T) 8 && Nat.ble 1 (ep_dep P m) then ea_fn (pc + 3) fun pc => some (.inl (pc, L, T, C, k, w)) else none
              | none => ea_q P cal m pc L S C k w (.invokespecial x) (ep_pl P m x)
            | .invokestatic x => match ea_mm (ep_pl P m x) S with
              | some T => bif Nat.ble (ea_wt T) 80 && Nat.ble 1 (ep_dep P m) then ea_fn (pc + 3) fun pc => ea_fS T fun T => some (.inl (pc, L, T, C, k, w)) else none
              | none => bif ea_is9 (ep_pl P m x) then match ea_cy S C with
                | some (T, C) => bif Nat.ble 1 (ep_dep P m) then ea_fn (pc + 3) fun pc => ea_fL C fun C => some (.inl (pc, L, T, C, k, w)) else none
                | none => none
              else ea_q P cal m pc L S C k w (.invokestatic x) (ep_pl P m x)
            | .invokevirtual x => ea_q P cal m pc L S C k w (.invokevirtual x) (ep_pl P m x)
            | .new _ => bif Nat.ble (ea_wt S) 100 then match ea_tw P m pc with
                | some ce => some (.inr (.inr ce, C, k + 1, w + 6))
                | none => none
              else none
            | _ => none
section FCA
variable {Y : Option (List AI)} {cal : Nat → Nat → List (Nat × AV) → List AV → List AC → Nat → Nat → Option AR}
variable {m pc nx tg : Nat} {L : FL} {S : List FV} {t : T8} {C : List AC} {k w : Nat} {ih : FK} {cl : FIH} {r : FR} {i : Instr}
/-- calls of the fast machine are calls of the list machine -/
def fcl (cl : FIH) (cal : Nat → Nat → List (Nat × AV) → List AV → List AC → Nat → Nat → Option AR) : Prop := ∀ (mj : Nat) (L1 : FL) (t : T8) (C : List AC) (r : FR), ft t C → cl mj 0 L1 [] (t, 0, 0) = some r → ∃ C', cal mj 0 (L1.map fl) [] C 0 0 = some (fou r.1, C', r.2.2.1, r.2.2.2) ∧ ft r.2.1 C'
theorem fCall_ok {b : Bool} {mj : Nat} {as T : List FV} {pe : Option (Nat × Nat × Nat)} (hnx : nx = pc + 3) (hq : ea_1 (tb_P Y) cal m pc (L.map fl) (S.map fv) C k w = ea_q (tb_P Y) cal m pc (L.map fl) (S.map fv) C k w i pe) (hcl : ea_cl (ep_own (tb_P Y)) i pe (S.map fv) C = some (mj, as.map fv, T.map fv, b)) (hcal : fcl cl cal) (hR : ft t C) (H : fCall b mj as T m pc nx tg L S (t, k, w) ih cl = some r) : fgo Y cal ih m pc L S C k w r := by
  unfold fCall at H
  try dsimp only at H
  have H' := fr_B H; clear H; obtain ⟨h1, H⟩ := H'
  have H' := fr_B H; clear H; obtain ⟨h2, H⟩ := H'
  have H' := fr_B H; clear H; obtain ⟨h3, H⟩ := H'
  obtain ⟨L1, e1, e2⟩ := fAr_ok as 0
  rw [e2] at H
  have H' := fr_O H; clear H; obtain ⟨⟨o, t1, dk, dw⟩, hcall, H⟩ := H'
  try dsimp only at H
  rw [fN_eq, fN_eq] at H
  try dsimp only at H
  obtain ⟨C1, hc1, hf1⟩ := hcal mj L1 t C _ hR hcall
  rw [e1] at hc1
  rw [fWt_ok] at h2 h3
  have hb : (Nat.blt (ep_dep (tb_P Y) mj) (ep_dep (tb_P Y) m) && (Nat.ble (ea_wt (T.map fv)) 8 && Nat.ble (ea_wt (as.map fv)) (ep_nls (tb_P Y) mj))) = true := by
    rw [show Nat.blt (ep_dep (tb_P Y) mj) (ep_dep (tb_P Y) m) = true from h1, h2, show Nat.ble (ea_wt (as.map fv)) (ep_nls (tb_P Y) mj) = true from h3]; rfl
  cases o with
  | inl v =>
    have hc1 : cal mj 0 (ea_ar 0 (as.map fv)) [] C 0 0 = some (.inl (v.map fv), C1, dk, dw) := hc1
    have hq' : ea_1 (tb_P Y) cal m pc (L.map fl) (S.map fv) C k w = some (.inl (pc + 3, L.map fl, (v.map fv).toList ++ T.map fv, C1, k + dk, w + dw)) := by
      rw [hq]
      unfold ea_q
      rw [hcl]
      dsimp only
      rw [hb]
      simp only [cond_true]
      rw [hc1]
      dsimp only
      rw [ea_fn_eq, ea_fn_eq, ea_fn_eq]
    rw [hnx] at H
    cases v with
    | none => exact .inl ⟨pc + 3, L, T, t1, C1, k + dk, w + dw, hq', hf1, H⟩
    | some v => exact .inl ⟨pc + 3, L, v :: T, t1, C1, k + dk, w + dw, hq', hf1, H⟩
  | inr ce =>
    have hc1 : cal mj 0 (ea_ar 0 (as.map fv)) [] C 0 0 = some (.inr ce, C1, dk, dw) := hc1
    have H' := fr_B H; clear H; obtain ⟨hbt, H⟩ := H'
    subst hbt
    cases hh : fp_hd m ce pc with
    | none =>
      rw [hh] at H
      have hh' : ea_hd (ep_sub (tb_P Y)) ce pc (ep_hdl (tb_P Y) m) = none := hh
      replace H : some ((.inr ce : Option FV ⊕ Nat), t1, k + dk, w + dw) = some r := H
      cases H
      refine .inr ⟨C1, ?_, hf1, .inr ⟨ce, rfl⟩⟩
      rw [hq]
      unfold ea_q
      rw [hcl]
      dsimp only
      rw [hb]
      simp only [cond_true]
      rw [hc1]
      dsimp only
      try simp only [cond_true]
      rw [ea_fn_eq, ea_fn_eq, hh']
      rfl
    | some hp =>
      rw [hh] at H
      have hh' : ea_hd (ep_sub (tb_P Y)) ce pc (ep_hdl (tb_P Y) m) = some hp := hh
      refine .inl ⟨hp, L, [.inr (.inr (.inr (.inr (.inr false))))], t1, C1, k + dk, w + dw, ?_, hf1, H⟩
      rw [hq]
      unfold ea_q
      rw [hcl]
      dsimp only
      rw [hb]
      simp only [cond_true]
      rw [hc1]
      dsimp only
      try simp only [cond_true]
      rw [ea_fn_eq, ea_fn_eq, hh']
      rfl
theorem ea1_iv {j : Instr} (hc : tb_cd m pc = some (j, nx, tg)) {L : List (Nat × AV)} {S : List AV} {z : Option (AF ⊕ AR)} (e1 : ea_p j pc (ep_nls (tb_P Y) m) L S = none) (e2 : ea_h (ep_ini (tb_P Y) m) (ep_pl (tb_P Y) m) (ep_fty (tb_P Y)) (ep_scr (tb_P Y) m) j pc S C = none) (e3 : ea_rt (ep_rtp (tb_P Y) m) j S = none)
    (hz : ea_tl (tb_P Y) cal m pc L S C k w j = z) : ea_1 (tb_P Y) cal m pc L S C k w = z := by
  unfold ea_1
  rw [ep_cod_of hc]
  dsimp only
  rw [ea_lenb hc]
  simp only [cond_true]
  rw [e1]
  dsimp only
  rw [e2]
  dsimp only
  rw [e3]
  dsimp only
  exact hz
theorem ea_rt_no {q : Nat} {S : List AV} {j : Instr} (h1 : j ≠ .ireturn) (h2 : j ≠ .lreturn) (h3 : j ≠ .return_) : ea_rt q j S = none := by
  unfold ea_rt
  split
  · exact absurd rfl h1
  · exact absurd rfl h2
  · exact absurd rfl h3
  · rfl
theorem ea_mm_no {q : Nat} {u : Nat × Nat} {S : List AV} (h1 : q ≠ 16) (h2 : q ≠ 17) : ea_mm (some (q, u)) S = none := by
  unfold ea_mm
  split
  · rename_i h; cases h; exact absurd rfl h1
  · rename_i h; cases h; exact absurd rfl h2
  · rfl
theorem fo_mm_ok {x : Nat} (hc : tb_cd m pc = some (.invokestatic x, nx, tg)) (hR : ft t C) (H : fo_mm x m pc nx tg L S (t, k, w) ih cl = some r) : fgo Y cal ih m pc L S C k w r := by
  unfold fo_mm at H
  have H' := fr_O H; clear H; obtain ⟨T, hT, H⟩ := H'
  have H' := fr_B H; clear H; obtain ⟨h1, H⟩ := H'
  have H' := fr_B H; clear H; obtain ⟨h2, H⟩ := H'
  obtain ⟨T', h3, h4⟩ := fSb_ok T
  subst h3
  rw [h4, nx1 hc (n := 2) rfl] at H
  refine .inl ⟨pc + 3, L, T', t, C, k, w, ?_, hR, H⟩
  refine ea1_iv hc rfl rfl (ea_rt_no (by intro h; cases h) (by intro h; cases h) (by intro h; cases h)) ?_
  have hT' : ea_mm (ep_pl (tb_P Y) m x) (S.map fv) = some (List.map fv T') := hT
  unfold ea_tl
  try dsimp only
  rw [hT']
  dsimp only
  rw [h1, show Nat.ble 1 (ep_dep (tb_P Y) m) = true from h2]
  simp only [Bool.and_self, cond_true]
  rw [ea_fn_eq, ea_fS_eq]
theorem fo_cy_ok {x u v : Nat} (hc : tb_cd m pc = some (.invokestatic x, nx, tg)) (hp : fp_pl m x = some (9, u, v)) (hR : ft t C) (H : fo_cy m pc nx tg L S (t, k, w) ih cl = some r) : fgo Y cal ih m pc L S C k w r := by
  unfold fo_cy at H
  have H' := fr_P H; clear H; obtain ⟨q, T, _, rfl, H⟩ := H'
  have H' := fr_I0 H; clear H; obtain ⟨vn, rfl, H⟩ := H'
  have H' := fr_P H; clear H; obtain ⟨q, T, _, rfl, H⟩ := H'
  have H' := fr_I0 H; clear H; obtain ⟨dp, rfl, H⟩ := H'
  have H' := fr_P H; clear H; obtain ⟨q, T, _, rfl, H⟩ := H'
  have H' := fr_Rf H; clear H; obtain ⟨b, rfl, H⟩ := H'
  have H' := fr_P H; clear H; obtain ⟨q, T, _, rfl, H⟩ := H'
  have H' := fr_I0 H; clear H; obtain ⟨sp, rfl, H⟩ := H'
  have H' := fr_P H; clear H; obtain ⟨q, T, _, rfl, H⟩ := H'
  have H' := fr_Rf H; clear H; obtain ⟨a, rfl, H⟩ := H'
  try dsimp only at H
  have H' := fr_arr' H (fun _ => rfl); clear H; obtain ⟨ty, n0, d, us, hA, H⟩ := H'
  try dsimp only at H
  have H' := fr_arr' H (fun _ => rfl); clear H; obtain ⟨ty1, n1, d1, us1, hB, H⟩ := H'
  try dsimp only at H
  have H' := fr_B H; clear H; obtain ⟨b1, H⟩ := H'
  have H' := fr_B H; clear H; obtain ⟨b2, H⟩ := H'
  have H' := fr_B H; clear H; obtain ⟨b3, H⟩ := H'
  have H' := fr_B H; clear H; obtain ⟨b4, H⟩ := H'
  have H' := fr_B H; clear H; obtain ⟨b5, H⟩ := H'
  have H' := fr_B H; clear H; obtain ⟨b6, H⟩ := H'
  have H' := fr_B H; clear H; obtain ⟨b7, H⟩ := H'
  have H' := fr_B H; clear H; obtain ⟨b8, H⟩ := H'
  have H' := fr_B H; clear H; obtain ⟨b9, H⟩ := H'
  obtain rfl : ty = ty1 := Nat.eq_of_beq_eq_true b1
  obtain rfl : n0 = n1 := Nat.eq_of_beq_eq_true b3
  obtain rfl : vn = n0 := Nat.eq_of_beq_eq_true b5
  obtain rfl : sp = 0 := Nat.eq_of_beq_eq_true b6
  obtain rfl : dp = 0 := Nat.eq_of_beq_eq_true b7
  have b2 : ty ≤ 1 := Nat.le_of_ble_eq_true b2
  have b4 : vn ≤ 2147483647 := Nat.le_of_ble_eq_true b4
  rw [fWt_ok] at b8
  have b8 : ea_wt (T.map fv) ≤ 8 := Nat.le_of_ble_eq_true b8
  obtain ⟨dA, uA, hA', hal⟩ := ft_arr hR hA
  obtain ⟨dB, uB, hB', -⟩ := ft_arr hR hB
  obtain ⟨t', e3, e4⟩ := ft_set (c := .inl (ty, vn, d, us)) (c' := .inl (ty, vn, dA, uA)) hR hB ⟨dA, uA, rfl, hal, ft_arrI hR hA⟩
  rw [e3, nx1 hc (n := 2) rfl] at H
  refine .inl ⟨pc + 3, L, T, t', _, k, w, ?_, e4, H⟩
  refine ea1_iv hc rfl rfl (ea_rt_no (by intro h; cases h) (by intro h; cases h) (by intro h; cases h)) ?_
  have hp' : ep_pl (tb_P Y) m x = some (9, u, v) := hp
  have hcy : ea_cy (List.map fv (.inl vn :: .inl 0 :: .inr (.inl b) :: .inl 0 :: .inr (.inl a) :: T)) C = some (T.map fv, C.set b (.inl (ty, vn, dA, uA))) := by
    show (match ea_nt C a, ea_nt C b with
      | some (.inl (t, n0, d, us)), some (.inl (t1, n1, _, _)) => if t = t1 ∧ t < 2 ∧ n0 = n1 ∧ n0 < 2147483648 ∧ ea_n vn = Int32.ofNat n0 ∧ ea_n 0 = 0 ∧ ea_n 0 = 0 ∧ ea_wt (T.map fv) ≤ 8 then some (T.map fv, C.set b (.inl (t, n0, d, us))) else none
      | _, _ => none) = _
    rw [hA', hB']
    dsimp only
    rw [if_pos ⟨rfl, by omega, rfl, by omega, rfl, rfl, rfl, b8⟩]
  unfold ea_tl
  try dsimp only
  rw [hp', ea_mm_no (by decide) (by decide), hcy]
  show (bif Nat.ble 1 (ep_dep (tb_P Y) m) then ea_fn (pc + 3) fun pc => ea_fL (C.set b (.inl (ty, vn, dA, uA))) fun C => (some (Sum.inl (pc, L.map fl, T.map fv, C, k, w)) : Option (AF ⊕ AR)) else none) = _
  rw [show Nat.ble 1 (ep_dep (tb_P Y) m) = true from b9]
  simp only [cond_true]
  rw [ea_fn_eq, ea_fL_eq]
theorem fo_ivs_ok {x : Nat} (hc : tb_cd m pc = some (.invokestatic x, nx, tg)) (hcal : fcl cl cal) (hR : ft t C) (H : fo_ivs x m pc nx tg L S (t, k, w) ih cl = some r) : fgo Y cal ih m pc L S C k w r := by
  unfold fo_ivs at H
  have H' := fr_O H; clear H; obtain ⟨⟨kd, mj, c⟩, hp, H⟩ := H'
  try dsimp only at H
  have hp' : ep_pl (tb_P Y) m x = some (kd, mj, c) := hp
  have hq : ∀ kd, ep_pl (tb_P Y) m x = some (kd, mj, c) → kd ≠ 9 → kd ≠ 16 → kd ≠ 17 → ea_1 (tb_P Y) cal m pc (L.map fl) (S.map fv) C k w = ea_q (tb_P Y) cal m pc (L.map fl) (S.map fv) C k w (.invokestatic x) (some (kd, mj, c)) := by
    intro kd hp' h9 h16 h17
    refine ea1_iv hc rfl rfl (ea_rt_no (by intro h; cases h) (by intro h; cases h) (by intro h; cases h)) ?_
    unfold ea_tl
    try dsimp only
    have : ea_is9 (some (kd, mj, c)) = false := by
      unfold ea_is9
      split
      · rename_i h; cases h; exact absurd rfl h9
      · rfl
    rw [hp', ea_mm_no h16 h17, this]
    rfl
  have H' := fr_B2 H; clear H; rcases H' with ⟨hb, H⟩ | ⟨hb, H⟩
  · obtain rfl : kd = 1 := Nat.eq_of_beq_eq_true hb
    obtain ⟨hl, H⟩ := fTk_ok _ _ _ _ H
    refine fCall_ok (nx1 hc (n := 2) rfl) (hq 1 hp' (by decide) (by decide) (by decide)) ?_ hcal hR H
    show (bif Nat.ble c (S.map fv).length then some (mj, ((S.map fv).take c).reverse, (S.map fv).drop c, true) else none) = _
    rw [List.length_map, Nat.ble_eq_true_of_le hl, List.append_nil, List.map_reverse, List.map_take, List.map_drop]
    rfl
  · have H' := fr_B2 H; clear H; rcases H' with ⟨hb, H⟩ | ⟨hb, H⟩
    · obtain rfl : kd = 13 := Nat.eq_of_beq_eq_true hb
      obtain ⟨hl, H⟩ := fTk_ok _ _ _ _ H
      refine fCall_ok (nx1 hc (n := 2) rfl) (hq 13 hp' (by decide) (by decide) (by decide)) ?_ hcal hR H
      show (bif Nat.ble c (S.map fv).length then some (mj, ((S.map fv).take c).reverse, (S.map fv).drop c, false) else none) = _
      rw [List.length_map, Nat.ble_eq_true_of_le hl, List.append_nil, List.map_reverse, List.map_take, List.map_drop]
      rfl
    · have H' := fr_B2 H; clear H; rcases H' with ⟨hb, H⟩ | ⟨hb, H⟩
      · obtain rfl : kd = 9 := Nat.eq_of_beq_eq_true hb
        exact fo_cy_ok hc hp hR H
      · exact fo_mm_ok hc hR H
theorem fo_ivp_ok {x : Nat} (hc : tb_cd m pc = some (.invokespecial x, nx, tg)) (hcal : fcl cl cal) (hR : ft t C) (H : fo_ivp x m pc nx tg L S (t, k, w) ih cl = some r) : fgo Y cal ih m pc L S C k w r := by
  unfold fo_ivp at H
  have H' := fr_O H; clear H; obtain ⟨⟨kd, mj, c⟩, hp, H⟩ := H'
  try dsimp only at H
  have hp' : ep_pl (tb_P Y) m x = some (kd, mj, c) := hp
  have hq : ∀ kd, ep_pl (tb_P Y) m x = some (kd, mj, c) → kd ≠ 4 → ea_1 (tb_P Y) cal m pc (L.map fl) (S.map fv) C k w = ea_q (tb_P Y) cal m pc (L.map fl) (S.map fv) C k w (.invokespecial x) (some (kd, mj, c)) := by
    intro kd hp' h9
    refine ea1_iv hc rfl rfl (ea_rt_no (by intro h; cases h) (by intro h; cases h) (by intro h; cases h)) ?_
    unfold ea_tl
    try dsimp only
    have : ea_oi (some (kd, mj, c)) (S.map fv) = none := by
      unfold ea_oi
      split
      · rename_i h _; cases h; exact absurd rfl h9
      · rfl
    rw [hp', this]
  have H' := fr_B2 H; clear H; rcases H' with ⟨hb, H⟩ | ⟨hb, H⟩
  · obtain rfl : kd = 4 := Nat.eq_of_beq_eq_true hb
    have H' := fr_P H; clear H; obtain ⟨q, T, _, rfl, H⟩ := H'
    have H' := fr_Rf H; clear H; obtain ⟨a, rfl, H⟩ := H'
    have H' := fr_B H; clear H; obtain ⟨b1, H⟩ := H'
    have H' := fr_B H; clear H; obtain ⟨b2, H⟩ := H'
    rw [nx1 hc (n := 2) rfl] at H
    refine .inl ⟨pc + 3, L, T, t, C, k, w, ?_, hR, H⟩
    refine ea1_iv hc rfl rfl (ea_rt_no (by intro h; cases h) (by intro h; cases h) (by intro h; cases h)) ?_
    unfold ea_tl
    try dsimp only
    rw [hp']
    show (bif Nat.ble (ea_wt (T.map fv)) 8 && Nat.ble 1 (ep_dep (tb_P Y) m) then ea_fn (pc + 3) fun pc => (some (Sum.inl (pc, L.map fl, T.map fv, C, k, w)) : Option (AF ⊕ AR)) else none) = _
    rw [fWt_ok] at b1
    rw [b1, show Nat.ble 1 (ep_dep (tb_P Y) m) = true from b2]
    simp only [Bool.and_self, cond_true]
    rw [ea_fn_eq]
  · have sp : ∀ kd, ep_pl (tb_P Y) m x = some (kd, mj, c) → kd = 3 ∨ kd = 15 → fTk (fun as T => @List.rec FV (fun _ => Option FR) none (fun q T _ => @Sum.rec Nat (Nat ⊕ AV) (fun _ => Option FR) (fun _ => none) (fun u => @Sum.rec Nat AV (fun _ => Option FR) (fun _ => fCall false mj (q :: as) T m pc nx tg L S (t, k, w) ih cl) (fun _ => none) u) q) T) c S [] = some r → fgo Y cal ih m pc L S C k w r := by
      intro kd hp' hk H
      obtain ⟨hl, H⟩ := fTk_ok _ _ _ _ H
      have H' := fr_P H; clear H; obtain ⟨q, T, _, hd, H⟩ := H'
      have H' := fr_Rf H; clear H; obtain ⟨a, rfl, H⟩ := H'
      refine fCall_ok (nx1 hc (n := 2) rfl) (hq kd hp' (by omega)) ?_ hcal hR H
      have hd' : (S.map fv).drop c = .inr (.inl (some a)) :: T.map fv := by
        rw [← List.map_drop, hd]; rfl
      rcases hk with rfl | rfl
      · show (match (S.map fv).drop c with
          | .inr (.inl (some a)) :: T => (some (mj, .inr (.inl (some a)) :: ((S.map fv).take c).reverse, T, false) : Option (Nat × List AV × List AV × Bool))
          | _ => none) = _
        rw [hd', List.append_nil, ← List.map_take, ← List.map_reverse]
        rfl
      · show (match (S.map fv).drop c with
          | .inr (.inl (some a)) :: T => (some (mj, .inr (.inl (some a)) :: ((S.map fv).take c).reverse, T, false) : Option (Nat × List AV × List AV × Bool))
          | _ => none) = _
        rw [hd', List.append_nil, ← List.map_take, ← List.map_reverse]
        rfl
    have H' := fr_B2 H; clear H; rcases H' with ⟨hb, H⟩ | ⟨hb, H⟩
    · exact sp kd hp' (.inl (Nat.eq_of_beq_eq_true hb)) H
    · have H' := fr_B H; clear H; obtain ⟨hb, H⟩ := H'
      exact sp kd hp' (.inr (Nat.eq_of_beq_eq_true hb)) H
theorem fo_ivv_ok {x : Nat} (hc : tb_cd m pc = some (.invokevirtual x, nx, tg)) (hcal : fcl cl cal) (hR : ft t C) (H : fo_ivv x m pc nx tg L S (t, k, w) ih cl = some r) : fgo Y cal ih m pc L S C k w r := by
  unfold fo_ivv at H
  have H' := fr_O H; clear H; obtain ⟨⟨kd, mj, c⟩, hp, H⟩ := H'
  try dsimp only at H
  have hp' : ep_pl (tb_P Y) m x = some (kd, mj, c) := hp
  have hq : ea_1 (tb_P Y) cal m pc (L.map fl) (S.map fv) C k w = ea_q (tb_P Y) cal m pc (L.map fl) (S.map fv) C k w (.invokevirtual x) (some (kd, mj, c)) := by
    refine ea1_iv hc rfl rfl (ea_rt_no (by intro h; cases h) (by intro h; cases h) (by intro h; cases h)) ?_
    unfold ea_tl
    try dsimp only
    rw [hp']
  have H' := fr_B H; clear H; obtain ⟨hb, H⟩ := H'
  obtain rfl : kd = 2 := Nat.eq_of_beq_eq_true hb
  obtain ⟨hl, H⟩ := fTk_ok _ _ _ _ H
  have H' := fr_P H; clear H; obtain ⟨q, T, _, hd, H⟩ := H'
  have H' := fr_Rf H; clear H; obtain ⟨a, rfl, H⟩ := H'
  try dsimp only at H
  have H' := fr_obj' H (fun _ => rfl); clear H; obtain ⟨cj, vs, hC, H⟩ := H'
  try dsimp only at H
  have H' := fr_B H; clear H; obtain ⟨ho, H⟩ := H'
  refine fCall_ok (nx1 hc (n := 2) rfl) hq ?_ hcal hR H
  have hd' : (S.map fv).drop c = .inr (.inl (some a)) :: T.map fv := by
    rw [← List.map_drop, hd]; rfl
  show (match (S.map fv).drop c with
    | .inr (.inl (some a)) :: T => match ea_nt C a with
      | some (.inr o) => bif Nat.beq o.1 (ep_own (tb_P Y) mj) then (some (mj, .inr (.inl (some a)) :: ((S.map fv).take c).reverse, T, true) : Option (Nat × List AV × List AV × Bool)) else none
      | _ => none
    | _ => none) = _
  rw [hd']
  dsimp only
  rw [ft_obj hR hC]
  dsimp only
  rw [show Nat.beq cj (ep_own (tb_P Y) mj) = true from ho, List.append_nil, ← List.map_take, ← List.map_reverse]
  rfl
theorem fo_new_ok {x : Nat} (hc : tb_cd m pc = some (.new x, nx, tg)) (hR : ft t C) (H : fo_new x m pc nx tg L S (t, k, w) ih cl = some r) : fgo Y cal ih m pc L S C k w r := by
  unfold fo_new at H
  have H' := fr_B H; clear H; obtain ⟨hb, H⟩ := H'
  have H' := fr_O H; clear H; obtain ⟨ce, htw, H⟩ := H'
  try dsimp only at H
  cases H
  have htw' : ea_tw (tb_P Y) m pc = some ce := htw
  rw [fWt_ok] at hb
  refine .inr ⟨C, ?_, hR, .inr ⟨ce, rfl⟩⟩
  refine ea1_iv hc rfl ?_ (ea_rt_no (by intro h; cases h) (by intro h; cases h) (by intro h; cases h)) ?_
  · have hcod : ep_cod (tb_P Y) m pc = some (.new x, nx - pc) := ep_cod_of hc
    have key : ∃ u, ep_pl (tb_P Y) m x = some (11, u) := by
      unfold ea_tw at htw'
      split at htw'
      · unfold ea_t2 at htw'
        rw [hcod] at htw'
        split at htw'
        · rename_i h0 _ _ _
          have h0 := (Prod.mk.inj (Option.some.inj h0)).1
          cases h0
          split at htw'
          · rename_i q1 _ _
            exact ⟨_, q1⟩
          · cases htw'
        · cases htw'
      · unfold ea_t2 at htw'
        rw [hcod] at htw'
        split at htw'
        · rename_i h0 _ _ _
          have h0 := (Prod.mk.inj (Option.some.inj h0)).1
          cases h0
          split at htw'
          · rename_i q1 _ _
            exact ⟨_, q1⟩
          · cases htw'
        · cases htw'
      · cases htw'
    obtain ⟨⟨u1, u2⟩, hu⟩ := key
    unfold ea_h
    dsimp only
    rw [hu]
    rfl
  · unfold ea_tl
    try dsimp only
    rw [hb, htw']
    rfl
end FCA
