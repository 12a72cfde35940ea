/-! RUNS OF THE LIST MACHINE AS SUCH: what is shown of them is shown of the machine (ea_main) -/
theorem ok_q_mono {P : EP} {cal cal' : Nat → Nat → List (Nat × AV) → List AV → List AC → Nat → Nat → Option AR} (hm : ∀ m pc L S C k w r, cal m pc L S C k w = some r → cal' m pc L S C k w = some r) {m pc : Nat} {L : List (Nat × AV)} {S : List AV} {C : List AC} {k w : Nat} {i : Instr} {r : Option (Nat × Nat × Nat)} {x : AF ⊕ AR} (h : ea_q P cal m pc L S C k w i r = some x) : ea_q P cal' m pc L S C k w i r = some x := by
  unfold ea_q at h ⊢
  cases hc : ea_cl (ep_own P) i r S C with
  | none => rw [hc] at h; cases h
  | some q =>
    obtain ⟨mj, as, T, b⟩ := q
    rw [hc] at h
    dsimp only at h ⊢
    cases hb : (Nat.blt (ep_dep P mj) (ep_dep P m) && (Nat.ble (ea_wt T) 8 && Nat.ble (ea_wt as) (ep_nls P mj))) with
    | false => rw [hb] at h; cases h
    | true =>
      rw [hb] at h
      simp only [cond_true] at h ⊢
      cases hr : cal mj 0 (ea_ar 0 as) [] C 0 0 with
      | none => rw [hr] at h; cases h
      | some r1 =>
        rw [hr] at h
        rw [hm _ _ _ _ _ _ _ _ hr]
        exact h
theorem ok_1_mono {P : EP} {cal cal' : Nat → Nat → List (Nat × AV) → List AV → List AC → Nat → Nat → Option AR} (hm : ∀ m pc L S C k w r, cal m pc L S C k w = some r → cal' m pc L S C k w = some r) {m pc : Nat} {L : List (Nat × AV)} {S : List AV} {C : List AC} {k w : Nat} {x : AF ⊕ AR} (h : ea_1 P cal m pc L S C k w = some x) : ea_1 P cal' m pc L S C k w = some x := by
  unfold ea_1 at h ⊢
  cases hc : ep_cod P m pc with
  | none => rw [hc] at h; cases h
  | some q =>
    obtain ⟨i, len⟩ := q
    rw [hc] at h
    dsimp only at h ⊢
    cases hb : (Nat.beq (ea_len i) 0 || Nat.beq (ea_len i) len) with
    | false => rw [hb] at h; cases h
    | true =>
      rw [hb] at h
      simp only [cond_true] at h ⊢
      cases hp : ea_p i pc (ep_nls P m) L S with
      | some f => rw [hp] at h; exact h
      | none =>
        rw [hp] at h
        dsimp only at h ⊢
        cases hh : ea_h (ep_ini P m) (ep_pl P m) (ep_fty P) (ep_scr P m) i pc S C with
        | some f => rw [hh] at h; exact h
        | none =>
          rw [hh] at h
          dsimp only at h ⊢
          cases hr : ea_rt (ep_rtp P m) i S with
          | some f => rw [hr] at h; exact h
          | none =>
            rw [hr] at h
            dsimp only at h ⊢
            cases i with
            | invokespecial x =>
              dsimp only at h ⊢
              cases ho : ea_oi (ep_pl P m x) S with
              | some T => rw [ho] at h; exact h
              | none => rw [ho] at h; exact ok_q_mono hm h
            | invokestatic x =>
              dsimp only at h ⊢
              cases ho : ea_mm (ep_pl P m x) S with
              | some T => rw [ho] at h; exact h
              | none =>
                rw [ho] at h
                dsimp only at h ⊢
                cases h9 : ea_is9 (ep_pl P m x) with
                | true => rw [h9] at h; exact h
                | false => rw [h9] at h; exact ok_q_mono hm h
            | invokevirtual x => exact ok_q_mono hm h
            | _ => exact h
theorem ok_x_succ {P : EP} : ∀ (n : Nat) (m pc : Nat) (L : List (Nat × AV)) (S : List AV) (C : List AC) (k w : Nat) (r : AR), ea_x P n m pc L S C k w = some r → ea_x P (n + 1) m pc L S C k w = some r := by
  intro n
  induction n with
  | zero => intro m pc L S C k w r h; cases h
  | succ n IH =>
    intro m pc L S C k w r hx
    have h : ea_b P (ea_x P n) m pc L S C k w = some r := hx
    show ea_b P (ea_x P (n + 1)) m pc L S C k w = some r
    unfold ea_b at h ⊢
    cases h1 : ea_1 P (ea_x P n) m pc L S C k w with
    | none => rw [h1] at h; cases h
    | some y =>
      rw [h1] at h
      rw [ok_1_mono IH h1]
      match y, h with
      | .inl (pc', L', S', C', k', w'), h => exact IH _ _ _ _ _ _ _ _ h
      | .inr r', h => exact h
theorem ok_x_mono {P : EP} {n n' : Nat} (hn : n ≤ n') {m pc : Nat} {L : List (Nat × AV)} {S : List AV} {C : List AC} {k w : Nat} {r : AR} (h : ea_x P n m pc L S C k w = some r) : ea_x P n' m pc L S C k w = some r := by
  obtain ⟨d, rfl⟩ := Nat.exists_eq_add_of_le hn
  clear hn
  induction d with
  | zero => exact h
  | succ d ih => exact ok_x_succ _ _ _ _ _ _ _ _ _ ih
/-- what an end costs: an exception is a cell of six slots -/
def ok_k (o : Option AV ⊕ Nat) : Nat := match o with
  | .inl _ => 0
  | .inr _ => 1
def ok_w (o : Option AV ⊕ Nat) : Nat := match o with
  | .inl _ => 0
  | .inr _ => 6
/-- the run from here ends, and so that K holds -/
def ok_ (P : EP) (m pc : Nat) (L : List (Nat × AV)) (S : List AV) (C : List AC) (K : Option AV ⊕ Nat → List AC → Prop) : Prop := ∃ (n : Nat) (o : Option AV ⊕ Nat) (C' : List AC), (∀ k w, ea_x P n m pc L S C k w = some (o, C', k + ok_k o, w + ok_w o)) ∧ K o C'
theorem ok_post {P : EP} {m pc : Nat} {L : List (Nat × AV)} {S : List AV} {C : List AC} {K K' : Option AV ⊕ Nat → List AC → Prop} (h : ok_ P m pc L S C K) (hK : ∀ o C', K o C' → K' o C') : ok_ P m pc L S C K' := by
  obtain ⟨n, o, C', h1, h2⟩ := h
  exact ⟨n, o, C', h1, hK _ _ h2⟩
/-- an instruction that goes on -/
theorem ok_step {P : EP} {m pc : Nat} {L : List (Nat × AV)} {S : List AV} {C : List AC} {K : Option AV ⊕ Nat → List AC → Prop} {pc' : Nat} {L' : List (Nat × AV)} {S' : List AV} {C' : List AC} (n0 : Nat) (h1 : ∀ k w, ea_1 P (ea_x P n0) m pc L S C k w = some (.inl (pc', L', S', C', k, w))) (h : ok_ P m pc' L' S' C' K) : ok_ P m pc L S C K := by
  obtain ⟨n, o, C2, h2, h3⟩ := h
  refine ⟨max n0 n + 1, o, C2, fun k w => ?_, h3⟩
  show ea_b P (ea_x P (max n0 n)) m pc L S C k w = _
  unfold ea_b
  rw [ok_1_mono (fun _ _ _ _ _ _ _ _ hr => ok_x_mono (Nat.le_max_left n0 n) hr) (h1 k w)]
  exact ok_x_mono (Nat.le_max_right n0 n) (h2 k w)
/-- an instruction that ends it -/
theorem ok_end {P : EP} {m pc : Nat} {L : List (Nat × AV)} {S : List AV} {C : List AC} {K : Option AV ⊕ Nat → List AC → Prop} {o : Option AV ⊕ Nat} {C' : List AC} (n0 : Nat) (h1 : ∀ k w, ea_1 P (ea_x P n0) m pc L S C k w = some (.inr (o, C', k + ok_k o, w + ok_w o))) (h : K o C') : ok_ P m pc L S C K := by
  refine ⟨n0 + 1, o, C', fun k w => ?_, h⟩
  show ea_b P (ea_x P n0) m pc L S C k w = _
  unfold ea_b
  rw [h1 k w]
/-- plain instructions -/
theorem ok_p {P : EP} {m pc : Nat} {i : Instr} {len : Nat} {L : List (Nat × AV)} {S : List AV} {C : List AC} {K : Option AV ⊕ Nat → List AC → Prop} {pc' : Nat} {L' : List (Nat × AV)} {S' : List AV} (hc : ep_cod P m pc = some (i, len)) (hl : (Nat.beq (ea_len i) 0 || Nat.beq (ea_len i) len) = true) (hp : ea_p i pc (ep_nls P m) L S = some (pc', L', S')) (h : ok_ P m pc' L' S' C K) : ok_ P m pc L S C K := by
  refine ok_step 0 (fun k w => ?_) h
  unfold ea_1
  rw [hc]
  dsimp only
  rw [hl]
  simp only [cond_true]
  rw [hp]
  dsimp only
  rw [ea_fn_eq, ea_fL_eq, ea_fS_eq]
/-- instructions on cells -/
theorem ok_h {P : EP} {m pc : Nat} {i : Instr} {len : Nat} {L : List (Nat × AV)} {S : List AV} {C : List AC} {K : Option AV ⊕ Nat → List AC → Prop} {pc' : Nat} {S' : List AV} {C' : Option (List AC)} (hc : ep_cod P m pc = some (i, len)) (hl : (Nat.beq (ea_len i) 0 || Nat.beq (ea_len i) len) = true) (hp : ea_p i pc (ep_nls P m) L S = none) (hh : ea_h (ep_ini P m) (ep_pl P m) (ep_fty P) (ep_scr P m) i pc S C = some (pc', S', C', 0, 0)) (h : ok_ P m pc' L S' (C'.getD C) K) : ok_ P m pc L S C K := by
  refine ok_step 0 (fun k w => ?_) h
  unfold ea_1
  rw [hc]
  dsimp only
  rw [hl]
  simp only [cond_true]
  rw [hp]
  dsimp only
  rw [hh]
  dsimp only
  rw [ea_fn_eq, ea_fS_eq, ea_fn_eq, ea_fn_eq]
  cases C' with
  | none => rfl
  | some C1 => dsimp only; rw [ea_fL_eq]; rfl
/-- the end of a method -/
theorem ok_r {P : EP} {m pc : Nat} {i : Instr} {len : Nat} {L : List (Nat × AV)} {S : List AV} {C : List AC} {K : Option AV ⊕ Nat → List AC → Prop} {v : Option AV} (hc : ep_cod P m pc = some (i, len)) (hl : (Nat.beq (ea_len i) 0 || Nat.beq (ea_len i) len) = true) (hp : ea_p i pc (ep_nls P m) L S = none) (hh : ea_h (ep_ini P m) (ep_pl P m) (ep_fty P) (ep_scr P m) i pc S C = none) (hr : ea_rt (ep_rtp P m) i S = some v) (h : K (.inl v) C) : ok_ P m pc L S C K := by
  refine ok_end (o := .inl v) (C' := C) 0 (fun k w => ?_) h
  unfold ea_1
  rw [hc]
  dsimp only
  rw [hl]
  simp only [cond_true]
  rw [hp]
  dsimp only
  rw [hh]
  dsimp only
  rw [hr]
  rfl
/-- which call an instruction is, no copy, no Math -/
def ok_iv (P : EP) (m : Nat) (i : Instr) (S : List AV) : Option (Option (Nat × Nat × Nat)) := match i with
  | .invokespecial x => match ea_oi (ep_pl P m x) S with
    | some _ => none
    | none => some (ep_pl P m x)
  | .invokestatic x => match ea_mm (ep_pl P m x) S with
    | some _ => none
    | none => bif ea_is9 (ep_pl P m x) then none else some (ep_pl P m x)
  | .invokevirtual x => some (ep_pl P m x)
  | _ => none
/-- a call: what it comes back with, the run goes on so -/
def ok_back (P : EP) (m pc : Nat) (L : List (Nat × AV)) (T : List AV) (b : Bool) (K : Option AV ⊕ Nat → List AC → Prop) : Option AV ⊕ Nat → List AC → Prop := fun o C' => match o with
  | .inl v => ok_ P m (pc + 3) L (v.toList ++ T) C' K
  | .inr ce => b = true ∧ ea_hd (ep_sub P) ce pc (ep_hdl P m) = none ∧ K (.inr ce) C'
theorem ok_call {P : EP} {m pc : Nat} {i : Instr} {L : List (Nat × AV)} {S : List AV} {C : List AC} {K : Option AV ⊕ Nat → List AC → Prop} {r : Option (Nat × Nat × Nat)} {mj : Nat} {as T : List AV} {b : Bool} (hc : ep_cod P m pc = some (i, 3)) (hi : ok_iv P m i S = some r) (hq : ea_cl (ep_own P) i r S C = some (mj, as, T, b)) (hd : (Nat.blt (ep_dep P mj) (ep_dep P m) && (Nat.ble (ea_wt T) 8 && Nat.ble (ea_wt as) (ep_nls P mj))) = true)
    (h : ok_ P mj 0 (ea_ar 0 as) [] C (ok_back P m pc L T b K)) : ok_ P m pc L S C K := by
  obtain ⟨n, o, C', h1, h2⟩ := h
  have key : ∀ k w, ea_1 P (ea_x P n) m pc L S C k w = ea_q P (ea_x P n) m pc L S C k w i r := by
    intro k w
    unfold ea_1
    rw [hc]
    unfold ok_iv at hi
    split at hi
    · split at hi
      · cases hi
      · rename_i ho
        cases hi
        show (match ea_oi _ S with | some T => _ | none => _) = _
        rw [ho]
    · split at hi
      · cases hi
      · rename_i ho
        cases h9 : ea_is9 (ep_pl P m _) with
        | true => rw [h9] at hi; cases hi
        | false =>
          rw [h9] at hi
          cases hi
          show (match ea_mm _ S with | some T => _ | none => _) = _
          rw [ho]
          dsimp only
          rw [h9]
          rfl
    · cases hi
      rfl
    · cases hi
  have q1 : ∀ k w, ea_q P (ea_x P n) m pc L S C k w i r = match o with
      | .inl v => some (.inl (pc + 3, L, v.toList ++ T, C', k, w))
      | .inr ce => bif b then match ea_hd (ep_sub P) ce pc (ep_hdl P m) with
          | some h => some (.inl (h, L, [.inr (.inr (.inr (.inl false)))], C', k + 1, w + 6))
          | none => some (.inr (.inr ce, C', k + 1, w + 6))
        else none := by
    intro k w
    unfold ea_q
    rw [hq]
    dsimp only
    rw [hd]
    simp only [cond_true]
    rw [h1 0 0]
    cases o with
    | inl v => dsimp only; rw [ea_fn_eq, ea_fn_eq, ea_fn_eq]; rfl
    | inr ce =>
      dsimp only
      cases b with
      | false => rfl
      | true =>
        simp only [cond_true]
        rw [ea_fn_eq, ea_fn_eq]
        rfl
  cases o with
  | inl v => exact ok_step n (fun k w => by rw [key, q1]) h2
  | inr ce =>
    obtain ⟨hb, hh, hK⟩ := h2
    refine ok_end (o := .inr ce) (C' := C') n (fun k w => ?_) hK
    rw [key, q1]
    dsimp only
    rw [hb]
    simp only [cond_true]
    rw [hh]
    rfl
