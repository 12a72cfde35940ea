/-! THE START, and what a run of the law is -/
def x0_f (f : FT) (v : AV) : Bool := match f, v with
  | .inl q, .inl (.inl x) => decide (q.1 ≤ x.toInt) && decide (x.toInt ≤ q.2)
  | .inr k, .inr (.inl (some j)) => Nat.beq k j
  | _, _ => false
theorem x0_f_ok {f : FT} {v : AV} (h : x0_f f v = true) : ft_g f v := by
  unfold x0_f at h
  split at h
  · simp only [Bool.and_eq_true, decide_eq_true_eq] at h
    exact ⟨_, rfl, h.1, h.2⟩
  · rw [← Nat.eq_of_beq_eq_true h]
    rfl
  · cases h
def x0_l (fs : List FT) (vs : List AV) : Bool := match fs, vs with
  | [], [] => true
  | f :: fs, v :: vs => x0_f f v && x0_l fs vs
  | _, _ => false
theorem x0_l_ok : ∀ {fs : List FT} {vs : List AV}, x0_l fs vs = true → vs.length = fs.length ∧ ∀ k f, ea_nt fs k = some f → ∃ v, ea_nt vs k = some v ∧ ft_g f v
  | [], [], _ => ⟨rfl, fun k f h => by cases k <;> cases h⟩
  | f :: fs, v :: vs, h => by
    unfold x0_l at h
    simp only [Bool.and_eq_true] at h
    obtain ⟨h1, h2⟩ := x0_l_ok h.2
    refine ⟨by rw [List.length_cons, List.length_cons, h1], fun k g hg => ?_⟩
    cases k with
    | zero => cases hg; exact ⟨v, rfl, x0_f_ok h.1⟩
    | succ k => exact h2 k g hg
  | [], _ :: _, h => by cases h
  | _ :: _, [], h => by cases h
def x0_v (v : AV) : Bool := match v with
  | .inr (.inr (.inl (some _))) => true
  | _ => false
theorem x0_v_ok {v : AV} (h : x0_v v = true) : ∃ y : Int64, v = .inr (.inr (.inl (some y))) := by
  unfold x0_v at h
  split at h
  · exact ⟨_, rfl⟩
  · cases h
def x0_e (kd p : Nat) (fs : List FT) (v : AV) (j : Nat) : Bool := bif Nat.beq kd 1 then x0_v v else match ea_nt fs (j % p) with
  | some f => x0_f f v
  | none => false
theorem x0_e_ok {kd p : Nat} {fs : List FT} {v : AV} {j : Nat} (h : x0_e kd p fs v j = true) : el_g kd p fs j v := by
  unfold x0_e at h
  cases hk : Nat.beq kd 1 with
  | true =>
    rw [hk] at h
    rw [Nat.eq_of_beq_eq_true hk]
    exact x0_v_ok h
  | false =>
    rw [hk] at h
    simp only [cond_false] at h
    have hne : kd ≠ 1 := fun e => by rw [e] at hk; cases hk
    split at h
    · rename_i f hf
      exact el_put hne ⟨f, hf, x0_f_ok h⟩
    · cases h
def x0_a (n kd p : Nat) (fs : List FT) (d : AV) (us : List (Nat × AV)) : Bool := match n with
  | 0 => true
  | n + 1 => x0_e kd p fs (ea_al d us n) n && x0_a n kd p fs d us
theorem x0_a_ok {kd p : Nat} {fs : List FT} {d : AV} {us : List (Nat × AV)} : ∀ {n : Nat}, x0_a n kd p fs d us = true → ∀ j, j < n → el_g kd p fs j (ea_al d us j)
  | 0, _, j, hj => absurd hj (Nat.not_lt_zero j)
  | n + 1, h, j, hj => by
    unfold x0_a at h
    simp only [Bool.and_eq_true] at h
    by_cases e : j = n
    · subst e
      exact x0_e_ok h.1
    · exact x0_a_ok h.2 j (by omega)
def x0_c (G : Nat → Option CT) (C : List AC) (a : Nat) : Bool := match G a, ea_nt C a with
  | some (.inl q), some (.inr o) => Nat.beq q.1 o.1 && x0_l q.2 o.2
  | some (.inr q), some (.inl o) => Nat.beq q.1 o.1 && (Nat.beq q.2.1 o.2.1 && x0_a q.2.1 q.1 q.2.2.1 q.2.2.2 o.2.2.1 o.2.2.2)
  | none, _ => true
  | _, _ => false
theorem x0_ok {G : Nat → Option CT} {C : List AC} (h : ∀ a, x0_c G C a = true) : xI G C := by
  refine ⟨fun a ci fs hG => ?_, fun a kd n p fs hG => ?_, fun q hq => nomatch hq⟩
  · have h1 := h a
    unfold x0_c at h1
    rw [hG] at h1
    cases hC : ea_nt C a with
    | none => rw [hC] at h1; cases h1
    | some c =>
      rw [hC] at h1
      match c, h1 with
      | .inr (cj, vs), h1 =>
        have h2 : (Nat.beq ci cj && x0_l fs vs) = true := h1
        simp only [Bool.and_eq_true] at h2
        obtain ⟨e1, e2⟩ := x0_l_ok h2.2
        rw [Nat.eq_of_beq_eq_true h2.1]
        exact ⟨vs, rfl, e1, fun k f hf => e2 k f hf⟩
  · have h1 := h a
    unfold x0_c at h1
    rw [hG] at h1
    cases hC : ea_nt C a with
    | none => rw [hC] at h1; cases h1
    | some c =>
      rw [hC] at h1
      match c, h1 with
      | .inl (kd', n', d, us), h1 =>
        have h2 : (Nat.beq kd kd' && (Nat.beq n n' && x0_a n kd p fs d us)) = true := h1
        simp only [Bool.and_eq_true] at h2
        obtain ⟨e1, e2, e3⟩ := h2
        rw [← Nat.eq_of_beq_eq_true e1, ← Nat.eq_of_beq_eq_true e2]
        exact ⟨d, us, rfl, fun j hj => Or.inl (x0_a_ok e3 j hj)⟩
set_option maxRecDepth 100000 in
theorem tb_I0 : (List.range 216).all (x0_c tb_G tb_C) = true := by decide +kernel
theorem tb_I : xI tb_G tb_C := x0_ok (fun a => by
  by_cases ha : a < 216
  · exact List.all_eq_true.mp tb_I0 a (List.mem_range.mpr ha)
  · have h1 : Nat.blt a 216 = false := by
      cases hb : Nat.blt a 216 with
      | false => rfl
      | true => have := blt_lt hb; omega
    have h2 : tb_G a = none := by
      unfold tb_G
      rw [h1]
      rfl
    unfold x0_c
    rw [h2])
set_option maxRecDepth 100000 in
theorem tb_v0 : (rf_v tb_C 191 0 = 0 ∧ rf_v tb_C 192 0 = 0 ∧ rf_v tb_C 193 0 = 0 ∧ rf_v tb_C 194 0 = 0) ∧ (rf_v tb_C 190 15 = -1 ∧ rf_v tb_C 190 16 = -1 ∧ rf_v tb_C 1 1 = 0 ∧ rf_v tb_C 0 14 = 0 ∧ rf_v tb_C 190 18 = 0 ∧ rf_v tb_C 190 11 = 0) := by decide +kernel
set_option maxRecDepth 100000 in
theorem tb_v1 : ∀ t, t < 10 → rf_v tb_C 195 (388 * t + 0) = 0 := by decide +kernel
theorem row_0 {f : Nat → Int} (h : f 0 = 0) : rf_row f := fun c _ hc => by rw [h] at hc; omega
theorem tb_S0 : lt_S 0 0 0 0 tb_C := by
  obtain ⟨⟨a1, a2, a3, a4⟩, b1, b2, b3, b4, b5, b6⟩ := tb_v0
  refine ⟨tb_I, ⟨row_0 a1, row_0 a2, row_0 a3, row_0 a4, fun t ht => row_0 (tb_v1 t ht)⟩, ⟨Or.inl b2, fun k _ hk => by rw [b1] at hk; omega⟩, b3, b4, b5, b6⟩
/-! both sides agree at the start -/
set_option maxRecDepth 100000 in
theorem s0_a : (mI tb_C 1 1 = 0 ∧ mI tb_C 190 18 = 0 ∧ mI tb_C 0 15 = mI tb_C 190 23 ∧ mI tb_C 8 1 = 0) ∧ (mI tb_C 190 15 = -1 ∧ mI tb_C 8 0 = 0 ∧ mI tb_C 0 14 = mI tb_C 190 11 ∧ mI tb_C 190 11 = 0) := by decide +kernel
set_option maxRecDepth 100000 in
theorem s0_b : (mI tb_C 18 0 = mI tb_C 191 0 ∧ mI tb_C 18 15 = mI tb_C 191 1 ∧ mI tb_C 18 13 = mI tb_C 191 2 ∧ mI tb_C 18 16 = mI tb_C 191 3 ∧ mI tb_C 18 17 = mI tb_C 191 4 ∧ mI tb_C 18 18 = mI tb_C 191 5 ∧ mI tb_C 18 11 = mI tb_C 191 7 ∧ mI tb_C 18 12 = mI tb_C 191 8 ∧ mI tb_C 18 14 = mI tb_C 191 9) ∧ (∀ d, d < 8 → mI tb_C 27 d = mI tb_C 191 (10 + d)) := by decide +kernel
set_option maxRecDepth 100000 in
theorem s0_c : (mI tb_C 191 0 = 0 ∧ mI tb_C 191 6 = 0 ∧ mI tb_C 18 1 = 0 ∧ mI tb_C 28 1 = 0) ∧ ((0 ≤ (mI tb_C 28 2).toInt ∧ (mI tb_C 28 2).toInt < 60) ∧ 0 ≤ (mI tb_C 191 8).toInt ∧ mI tb_C 191 2 = 0 ∧ mI tb_C 191 1 = 0) := by decide +kernel
set_option maxRecDepth 100000 in
theorem s0_d : (mI tb_C 44 2 = 0 ∧ 0 ≤ (mI tb_C 44 1).toInt ∧ (mI tb_C 44 1).toInt < 10) ∧ mI tb_C 190 12 = 0 := by decide +kernel
theorem CP_0s : CP 0 (mI tb_C, mJ tb_C) := by
  obtain ⟨⟨a1, a2, a3, a4⟩, a5, a6, a7, a8⟩ := s0_a
  obtain ⟨b1, b2⟩ := s0_b
  obtain ⟨⟨c1, c2, c3, c4⟩, c5, c6, c7, c8⟩ := s0_c
  obtain ⟨⟨d1, d2, d3⟩, d4⟩ := s0_d
  have z0 : (0 : Int32).toInt = 0 := rfl
  have hn : nC (mI tb_C 191) = 0 := by
    unfold nC
    rw [c1]
    rfl
  refine ⟨⟨0, by omega, a1, a2, fun j hj => by omega⟩, a3, ⟨(0, fun _ => 0, fun _ => 0, fun _ _ _ _ _ => false), ⟨a4, by show 0 ≤ 12; omega, fun j hj => absurd hj (by show ¬ j < 0; omega), fun k hk => absurd hk (by show ¬ k < 0; omega)⟩, ⟨by show 0 ≤ 12; omega, fun k hk => absurd hk (by show ¬ k < 0; omega)⟩, Or.inl ⟨a5, a6, rfl⟩, a7, Or.inl a8⟩, ⟨⟨b1, b2, ?_, fun c hc => ?_, ?_⟩, ⟨?_, ?_, ?_, fun c hc => ?_⟩, ?_, ?_, ?_⟩, 0, fun _ => (fun _ => 0, fun _ => 0), ?_, ?_, fun i hi => by omega⟩
  · show mI tb_C 18 1 = bs (alv (mI tb_C 191)) (nC (mI tb_C 191))
    rw [hn, c3]
    rfl
  · rw [show nC (mI tb_C 191) = 0 from hn] at hc
    omega
  · refine ⟨?_, c5, fun k q hk hl _ => ?_⟩
    · show mI tb_C 28 1 = mI tb_C 191 6
      rw [c4, c2]
    · rw [show (mI tb_C, mJ tb_C).1 191 6 = 0 from c2, z0] at hl
      omega
  · show 0 ≤ (mI tb_C 191 0).toInt ∧ (mI tb_C 191 0).toInt ≤ 10
    rw [c1, z0]
    omega
  · show 0 ≤ (mI tb_C 191 6).toInt ∧ (mI tb_C 191 6).toInt ≤ 60
    rw [c2, z0]
    omega
  · exact c6
  · rw [show nC (mI tb_C 191) = 0 from hn] at hc
    omega
  · show 0 ≤ (mI tb_C 191 2).toInt
    rw [c7, z0]
    omega
  · show (mI tb_C 191 2).toInt ≤ 0
    rw [c7, z0]
    omega
  · show (mI tb_C 191 1).toInt ≤ 12
    rw [c8, z0]
    omega
  · exact ⟨by omega, d1, ⟨d2, d3⟩, fun i hi => by omega⟩
  · exact ⟨by omega, d4, fun i hi => by omega⟩
theorem LM_0 : LM 0 tb_C := ⟨(mI tb_C, mJ tb_C), mm_of tb_I, CP_0s⟩
/-- the law from its loop's head on -/
theorem lw_all {X : List AI} (hX : lw_X X) : okb (tb_P (some X)) 512 0 23 tb_L [] tb_C lw_K := by
  have hx := hX.1
  exact lp_loop hX 512 0 (ea_n 0) tb_L tb_C 0 (by omega) (by decide) (by omega) ⟨rfl, rfl, rfl, rfl, rfl⟩ ⟨0, 0, tb_S0⟩ LM_0 (by omega) (by omega)
section BR
variable {P : EP}
theorem q_val {cal : Nat → Nat → List (Nat × AV) → List AV → List AC → Nat → Nat → Option AR} {m pc : Nat} {L : List (Nat × AV)} {S : List AV} {C : List AC} {k w : Nat} {i : Instr} {r : Option (Nat × Nat × Nat)} {v : Option AV} {C' : List AC} {k' w' : Nat} (h : ea_q P cal m pc L S C k w i r = some (.inr (.inl v, C', k', w'))) : False := by
  unfold ea_q at h
  split at h
  · rename_i mj as T b hc
    cases hb : (Nat.blt (ep_dep P mj) (ep_dep P m) && (Nat.ble (ea_wt T) 8 && Nat.ble (ea_wt as) (ep_nls P mj))) with
    | false => rw [hb] at h; cases h
    | true =>
      rw [hb] at h
      simp only [cond_true] at h
      split at h
      · rw [ea_fn_eq, ea_fn_eq, ea_fn_eq] at h
        cases h
      · cases b with
        | false => cases h
        | true =>
          simp only [cond_true] at h
          rw [ea_fn_eq, ea_fn_eq] at h
          split at h
          · cases h
          · cases h
      · cases h
  · cases h
/-- a value is given at a return alone -/
theorem e1_val {cal : Nat → Nat → List (Nat × AV) → List AV → List AC → Nat → Nat → Option AR} {m pc : Nat} {L : List (Nat × AV)} {S : List AV} {C : List AC} {k w : Nat} {v : Option AV} {C' : List AC} {k' w' : Nat} (h : ea_1 P cal m pc L S C k w = some (.inr (.inl v, C', k', w'))) : ∃ i len, ep_cod P m pc = some (i, len) ∧ (Nat.beq (ea_len i) 0 || Nat.beq (ea_len i) len) = true ∧ ea_rt (ep_rtp P m) i S = some v ∧ k' = k ∧ w' = w := by
  unfold ea_1 at h
  cases hc : ep_cod P m pc with
  | none => rw [hc] at h; cases h
  | some q =>
    obtain ⟨i, len⟩ := q
    rw [hc] at h
    dsimp only at h
    cases hb : (Nat.beq (ea_len i) 0 || Nat.beq (ea_len i) len) with
    | false => rw [hb] at h; cases h
    | true =>
      rw [hb] at h
      simp only [cond_true] at h
      cases hp : ea_p i pc (ep_nls P m) L S with
      | some f => rw [hp] at h; dsimp only at h; rw [ea_fn_eq, ea_fL_eq, ea_fS_eq] at h; cases h
      | none =>
        rw [hp] at h
        dsimp only at h
        cases hh : ea_h (ep_ini P m) (ep_pl P m) (ep_fty P) (ep_scr P m) i pc S C with
        | some f =>
          rw [hh] at h
          obtain ⟨a, b, c, d, e⟩ := f
          dsimp only at h
          rw [ea_fn_eq, ea_fS_eq, ea_fn_eq, ea_fn_eq] at h
          cases c with
          | none => cases h
          | some c1 => dsimp only at h; rw [ea_fL_eq] at h; cases h
        | none =>
          rw [hh] at h
          dsimp only at h
          cases hr : ea_rt (ep_rtp P m) i S with
          | some f => rw [hr] at h; cases h; exact ⟨i, len, rfl, hb, hr, rfl, rfl⟩
          | none =>
            rw [hr] at h
            dsimp only at h
            exfalso
            cases i with
            | invokespecial x =>
              dsimp only at h
              cases ho : ea_oi (ep_pl P m x) S with
              | some T =>
                rw [ho] at h
                dsimp only at h
                cases hb2 : (Nat.ble (ea_wt T) 8 && Nat.ble 1 (ep_dep P m)) with
                | false => rw [hb2] at h; cases h
                | true => rw [hb2] at h; simp only [cond_true] at h; rw [ea_fn_eq] at h; cases h
              | none => rw [ho] at h; exact q_val h
            | invokestatic x =>
              dsimp only at h
              cases ho : ea_mm (ep_pl P m x) S with
              | some T =>
                rw [ho] at h
                dsimp only at h
                cases hb2 : (Nat.ble (ea_wt T) 80 && Nat.ble 1 (ep_dep P m)) with
                | false => rw [hb2] at h; cases h
                | true => rw [hb2] at h; simp only [cond_true] at h; rw [ea_fn_eq, ea_fS_eq] at h; cases h
              | none =>
                rw [ho] at h
                dsimp only at h
                cases h9 : ea_is9 (ep_pl P m x) with
                | true =>
                  rw [h9] at h
                  simp only [cond_true] at h
                  cases hy : ea_cy S C with
                  | none => rw [hy] at h; cases h
                  | some q =>
                    obtain ⟨T, C2⟩ := q
                    rw [hy] at h
                    dsimp only at h
                    cases hb2 : Nat.ble 1 (ep_dep P m) with
                    | false => rw [hb2] at h; cases h
                    | true => rw [hb2] at h; simp only [cond_true] at h; rw [ea_fn_eq, ea_fL_eq] at h; cases h
                | false => rw [h9] at h; exact q_val h
            | invokevirtual x => exact q_val h
            | new x =>
              dsimp only at h
              cases hb2 : Nat.ble (ea_wt S) 100 with
              | false => rw [hb2] at h; cases h
              | true =>
                rw [hb2] at h
                simp only [cond_true] at h
                split at h
                · cases h
                · cases h
            | _ => cases h
/-- a run of the law that gives 1 is a walk of its body -/
theorem ev_of {K V M : Nat} (hr3 : ep_rtp P 0 = 3) : ∀ (n : Nat), n ≤ M → ∀ (pc : Nat) (L : List (Nat × AV)) (S : List AV) (C : List AC) (k w : Nat) (C' : List AC) (k1 w1 : Nat), ea_x P n 0 pc L S C k w = some (.inl (some (.inl (.inl 1))), C', k1, w1) → k1 ≤ K → w1 ≤ V → ea_v P (ea_x P M) K V n pc L S C k w = true := by
  intro n
  induction n with
  | zero => intro _ pc L S C k w C' k1 w1 h; cases h
  | succ n IH =>
    intro hn pc L S C k w C' k1 w1 hx hk hw
    have h : ea_b P (ea_x P n) 0 pc L S C k w = some (.inl (some (.inl (.inl 1))), C', k1, w1) := hx
    unfold ea_b at h
    show (bif ea_ir (ep_cod P 0 pc) then ea_e1 K V S k w else match ea_1 P (ea_x P M) 0 pc L S C k w with
      | some (.inl (pc, L, S, C, k, w)) => ea_v P (ea_x P M) K V n pc L S C k w
      | some (.inr _) => false
      | none => match ea_br (ep_cod P 0 pc) pc S with
        | some (t, T) => ea_v P (ea_x P M) K V n t L T C k w && ea_v P (ea_x P M) K V n (pc + 3) L T C k w
        | none => false) = true
    cases h1 : ea_1 P (ea_x P n) 0 pc L S C k w with
    | none => rw [h1] at h; cases h
    | some y =>
      rw [h1] at h
      match y, h, h1 with
      | .inr r, h, h1 =>
        cases h
        obtain ⟨i, len, e1, e2, e3, e4, e5⟩ := e1_val h1
        rw [hr3] at e3
        unfold ea_rt at e3
        split at e3
        · rename_i a h1x
          have hl : len = 1 := by
            have h2 : (Nat.beq 1 0 || Nat.beq 1 len) = true := e2
            exact (Nat.eq_of_beq_eq_true (by simpa using h2)).symm
          have ha : a = .inl (.inl 1) := by
            cases hf : ea_fit 2 a with
            | false => rw [hf] at e3; cases e3
            | true =>
              rw [hf] at e3
              simp only [cond_true, Option.some.injEq] at e3
              exact e3
          subst ha
          rw [e1, hl]
          show ea_e1 K V [.inl (.inl 1)] k w = true
          unfold ea_e1
          rw [← e4, ← e5]
          simp only [Bool.and_eq_true]
          exact ⟨by decide, Nat.ble_eq_true_of_le hk, Nat.ble_eq_true_of_le hw⟩
        · cases e3
        · cases e3
        · cases e3
      | .inl (pc', L', S', C2, k2, w2), h, h1 =>
        have hir : ea_ir (ep_cod P 0 pc) = false := by
          cases hi : ea_ir (ep_cod P 0 pc) with
          | false => rfl
          | true =>
            exfalso
            unfold ea_1 at h1
            rw [ea_ir_ok hi] at h1
            dsimp only at h1
            rw [show (Nat.beq (ea_len .ireturn) 0 || Nat.beq (ea_len .ireturn) 1) = true from rfl] at h1
            simp only [cond_true] at h1
            rw [show ea_p .ireturn pc (ep_nls P 0) L S = none from rfl, show ea_h (ep_ini P 0) (ep_pl P 0) (ep_fty P) (ep_scr P 0) .ireturn pc S C = none from rfl] at h1
            dsimp only at h1
            split at h1
            · cases h1
            · cases h1
        rw [hir]
        simp only [cond_false]
        rw [ok_1_mono (fun _ _ _ _ _ _ _ _ hr => ok_x_mono (show n ≤ M by omega) hr) h1]
        exact IH (by omega) _ _ _ _ _ _ _ _ _ h hk hw
end BR
/-- the law's walk, from its loop's head on -/
theorem lw_walk0 {X : List AI} (hX : lw_X X) : ∃ n M, ea_v (tb_P (some X)) (ea_x (tb_P (some X)) M) 601024 7293034 n 23 tb_L [] tb_C 216 22951 = true := by
  obtain ⟨n, d, o, C', hd, h1, h2⟩ := lw_all hX
  have ho : o = .inl (some (.inl (.inl 1))) := h2
  subst ho
  exact ⟨n, n, ev_of rfl n (Nat.le_refl n) _ _ _ _ _ _ _ _ _ (h1 216 22951) (by omega) (by omega)⟩
