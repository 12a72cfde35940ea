/-! PARTIAL RUNS: whatever a run ends with, K holds of it. That it ends without a throw of the machine's own is known by the contracts, so nothing is asked here: what a step wants is given. -/
def pa (P : EP) (N m pc : Nat) (L : List (Nat × AV)) (S : List AV) (C : List AC) (K : Option AV ⊕ Nat → List AC → Prop) : Prop := ∀ n, n ≤ N → ∀ k w o C' k1 w1, ea_x P n m pc L S C k w = some (o, C', k1, w1) → K o C'
def pb (P : EP) (N m pc : Nat) (L : List (Nat × AV)) (S : List AV) (C : List AC) (K : Option AV ⊕ Nat → List AC → Prop) : Prop := ∀ n, n ≤ N → ∀ k w o C' k1 w1, ea_b P (ea_x P n) m pc L S C k w = some (o, C', k1, w1) → K o C'
section PA
variable {P : EP} {N m pc : Nat} {L : List (Nat × AV)} {S : List AV} {C : List AC} {K : Option AV ⊕ Nat → List AC → Prop}
theorem pa_zero : pa P 0 m pc L S C K := by
  intro n hn k w o C' k1 w1 h
  obtain rfl := Nat.le_zero.mp hn
  cases h
theorem pa_succ (h : pb P N m pc L S C K) : pa P (N + 1) m pc L S C K := by
  intro n hn k w o C' k1 w1 hx
  cases n with
  | zero => cases hx
  | succ n => exact h n (Nat.le_of_succ_le_succ hn) k w o C' k1 w1 hx
theorem pa_le {N' : Nat} (h : pa P N m pc L S C K) (hN : N' ≤ N) : pa P N' m pc L S C K := fun n hn => h n (Nat.le_trans hn hN)
theorem pa_b (h : pb P N m pc L S C K) : pa P N m pc L S C K := pa_le (pa_succ h) (Nat.le_succ N)
theorem pa_post {K' : Option AV ⊕ Nat → List AC → Prop} (h : pa P N m pc L S C K) (hK : ∀ o C', K o C' → K' o C') : pa P N m pc L S C K' := fun n hn k w o C' k1 w1 hx => hK _ _ (h n hn k w o C' k1 w1 hx)
/-- a run that ends, and what is known of all its ends -/
theorem ok_pa {K' : Option AV ⊕ Nat → List AC → Prop} (h : ok_ P m pc L S C K) (h' : ∀ N, pa P N m pc L S C K') : ok_ P m pc L S C (fun o C' => K o C' ∧ K' o C') := by
  obtain ⟨n, o, C', h1, h2⟩ := h
  exact ⟨n, o, C', h1, h2, h' n n (Nat.le_refl n) 0 0 _ _ _ _ (h1 0 0)⟩
/-- and the other way: what is known of a run that ends, where it is deterministic -/
theorem pa_ok (h : ok_ P m pc L S C K) : pa P N m pc L S C K := by
  obtain ⟨n, o, C', h1, h2⟩ := h
  intro n' hn k w o' C2 k1 w1 hx
  have a := ok_x_mono (Nat.le_max_left n n') (h1 k w)
  have b := ok_x_mono (Nat.le_max_right n n') hx
  rw [a] at b
  cases b
  exact h2
theorem pb_step (h : ∀ n, n ≤ N → ∀ k w x, ea_1 P (ea_x P n) m pc L S C k w = some x → match x with
    | .inl (pc', L', S', C', _, _) => pa P N m pc' L' S' C' K
    | .inr (o, C', _, _) => K o C') : pb P N m pc L S C K := by
  intro n hn k w o C' k1 w1 hx
  unfold ea_b at hx
  cases e : ea_1 P (ea_x P n) m pc L S C k w with
  | none => rw [e] at hx; cases hx
  | some x =>
    have h1 := h n hn k w x e
    rw [e] at hx
    match x, h1, hx with
    | .inl (pc', L', S', C2, k', w'), h1, hx => exact h1 n hn _ _ _ _ _ _ hx
    | .inr (o', C2, k', w'), h1, hx => cases hx; exact h1
/-- plain instructions -/
theorem pb_p {i : Instr} {len : Nat} {pc' : Nat} {L' : List (Nat × AV)} {S' : List AV} (hc : ep_cod P m pc = some (i, len)) (hl : (Nat.beq (ea_len i) 0 || Nat.beq (ea_len i) len) = true) (hp : ea_p i pc (ep_nls P m) L S = some (pc', L', S')) (h : pa P N m pc' L' S' C K) : pb P N m pc L S C K := by
  refine pb_step (fun n hn k w x hx => ?_)
  unfold ea_1 at hx
  rw [hc] at hx
  dsimp only at hx
  rw [hl] at hx
  simp only [cond_true] at hx
  rw [hp] at hx
  dsimp only at hx
  rw [ea_fn_eq, ea_fL_eq, ea_fS_eq] at hx
  cases hx
  exact h
theorem pa_p {i : Instr} {len : Nat} {pc' : Nat} {L' : List (Nat × AV)} {S' : List AV} (hc : ep_cod P m pc = some (i, len)) (hl : (Nat.beq (ea_len i) 0 || Nat.beq (ea_len i) len) = true) (hp : ea_p i pc (ep_nls P m) L S = some (pc', L', S')) (h : pa P N m pc' L' S' C K) : pa P N m pc L S C K := pa_b (pb_p hc hl hp h)
/-- instructions on cells, no call: what they come to, if they come to something -/
def pa_nc (i : Instr) : Bool := match i with
  | .invokespecial _ => false
  | .invokestatic _ => false
  | .invokevirtual _ => false
  | .new _ => false
  | _ => true
theorem pb_h {i : Instr} {len : Nat} (hc : ep_cod P m pc = some (i, len)) (hl : (Nat.beq (ea_len i) 0 || Nat.beq (ea_len i) len) = true) (hp : ea_p i pc (ep_nls P m) L S = none) (hr : ea_rt (ep_rtp P m) i S = none) (hi : pa_nc i = true) (h : ∀ pc' S' C' dk dw, ea_h (ep_ini P m) (ep_pl P m) (ep_fty P) (ep_scr P m) i pc S C = some (pc', S', C', dk, dw) → pa P N m pc' L S' (C'.getD C) K) : pb P N m pc L S C K := by
  refine pb_step (fun n hn k w x hx => ?_)
  unfold ea_1 at hx
  rw [hc] at hx
  dsimp only at hx
  rw [hl] at hx
  simp only [cond_true] at hx
  rw [hp] at hx
  dsimp only at hx
  cases hh : ea_h (ep_ini P m) (ep_pl P m) (ep_fty P) (ep_scr P m) i pc S C with
  | some q =>
    obtain ⟨pc', S', C', dk, dw⟩ := q
    have h1 := h _ _ _ _ _ hh
    rw [hh] at hx
    dsimp only at hx
    rw [ea_fn_eq, ea_fS_eq, ea_fn_eq, ea_fn_eq] at hx
    cases C' with
    | none => cases hx; exact h1
    | some C1 =>
      dsimp only at hx
      rw [ea_fL_eq] at hx
      cases hx
      exact h1
  | none =>
    rw [hh] at hx
    dsimp only at hx
    rw [hr] at hx
    dsimp only at hx
    cases i with
    | invokespecial y => exact Bool.noConfusion (show false = true from hi)
    | invokestatic y => exact Bool.noConfusion (show false = true from hi)
    | invokevirtual y => exact Bool.noConfusion (show false = true from hi)
    | new y => exact Bool.noConfusion (show false = true from hi)
    | _ => cases hx
theorem pa_h {i : Instr} {len : Nat} (hc : ep_cod P m pc = some (i, len)) (hl : (Nat.beq (ea_len i) 0 || Nat.beq (ea_len i) len) = true) (hp : ea_p i pc (ep_nls P m) L S = none) (hr : ea_rt (ep_rtp P m) i S = none) (hi : pa_nc i = true) (h : ∀ pc' S' C' dk dw, ea_h (ep_ini P m) (ep_pl P m) (ep_fty P) (ep_scr P m) i pc S C = some (pc', S', C', dk, dw) → pa P N m pc' L S' (C'.getD C) K) : pa P N m pc L S C K := pa_b (pb_h hc hl hp hr hi h)
/-- the end of a method -/
theorem pa_r {i : Instr} {len : Nat} {v : Option AV} (hc : ep_cod P m pc = some (i, len)) (hl : (Nat.beq (ea_len i) 0 || Nat.beq (ea_len i) len) = true) (hp : ea_p i pc (ep_nls P m) L S = none) (hh : ea_h (ep_ini P m) (ep_pl P m) (ep_fty P) (ep_scr P m) i pc S C = none) (hr : ea_rt (ep_rtp P m) i S = some v) (h : K (.inl v) C) : pa P N m pc L S C K := by
  refine pa_b (pb_step (fun n hn k w x hx => ?_))
  unfold ea_1 at hx
  rw [hc] at hx
  dsimp only at hx
  rw [hl] at hx
  simp only [cond_true] at hx
  rw [hp] at hx
  dsimp only at hx
  rw [hh] at hx
  dsimp only at hx
  rw [hr] at hx
  cases hx
  exact h
/-- a test of two ints -/
theorem pa_ic {c : Jvm.ClassFile.Cond} {off : Int} {t : Nat} {x y : Int32} (hc : ep_cod P m pc = some (.if_icmp c off, 3)) (ht : ea_to pc off = some t) (h1 : ea_ck c x y = true → pa P N m t L S C K) (h2 : ea_ck c x y = false → pa P N m (pc + 3) L S C K) : pa P N m pc L (.inl (.inl y) :: .inl (.inl x) :: S) C K := by
  cases hb : ea_ck c x y with
  | true => exact pa_p (pc' := t) (L' := L) (S' := S) hc rfl (by simp only [ea_p, ea_if, hb, ht, cond_true, cond_false]) (h1 hb)
  | false => exact pa_p (pc' := pc + 3) (L' := L) (S' := S) hc rfl (by simp only [ea_p, ea_if, hb, ht, cond_true, cond_false]) (h2 hb)
theorem pa_if {c : Jvm.ClassFile.Cond} {off : Int} {t : Nat} {x : Int32} (hc : ep_cod P m pc = some (.ifCond c off, 3)) (ht : ea_to pc off = some t) (h1 : ea_ck c x 0 = true → pa P N m t L S C K) (h2 : ea_ck c x 0 = false → pa P N m (pc + 3) L S C K) : pa P N m pc L (.inl (.inl x) :: S) C K := by
  cases hb : ea_ck c x 0 with
  | true => exact pa_p (pc' := t) (L' := L) (S' := S) hc rfl (by simp only [ea_p, ea_if, hb, ht, cond_true, cond_false]) (h1 hb)
  | false => exact pa_p (pc' := pc + 3) (L' := L) (S' := S) hc rfl (by simp only [ea_p, ea_if, hb, ht, cond_true, cond_false]) (h2 hb)
/-- a call -/
theorem pa_q {i : Instr} {r : Option (Nat × Nat × Nat)} {mj : Nat} {as T : List AV} {b : Bool} (hc : ep_cod P m pc = some (i, 3)) (hi : ok_iv P m i S = some r) (hq : ea_cl (ep_own P) i r S C = some (mj, as, T, b)) {K1 : Option AV ⊕ Nat → List AC → Prop} (h : pa P N mj 0 (ea_ar 0 as) [] C K1) (hk : ∀ v C', K1 (.inl v) C' → pa P N m (pc + 3) L (v.toList ++ T) C' K) (hx : ∀ ce C', K1 (.inr ce) C' → match ea_hd (ep_sub P) ce pc (ep_hdl P m) with
    | some h => pa P N m h L [.inr (.inr (.inr (.inl false)))] C' K
    | none => K (.inr ce) C') : pa P N m pc L S C K := by
  refine pa_b (pb_step (fun n hn k w x e1 => ?_))
  have key : ea_1 P (ea_x P n) m pc L S C k w = ea_q P (ea_x P n) m pc L S C k w i r := by
    unfold ea_1
    rw [hc]
    unfold ok_iv at hi
    split at hi
    · split at hi
      · cases hi
      · rename_i ho
        cases hi
        show (match ea_oi _ S with | some T => _ | none => _) = _
        rw [ho]
    · split at hi
      · cases hi
      · rename_i ho
        cases h9 : ea_is9 (ep_pl P m _) with
        | true => rw [h9] at hi; cases hi
        | false =>
          rw [h9] at hi
          cases hi
          show (match ea_mm _ S with | some T => _ | none => _) = _
          rw [ho]
          dsimp only
          rw [h9]
          rfl
    · cases hi
      rfl
    · cases hi
  rw [key] at e1
  unfold ea_q at e1
  rw [hq] at e1
  dsimp only at e1
  cases hd : (Nat.blt (ep_dep P mj) (ep_dep P m) && (Nat.ble (ea_wt T) 8 && Nat.ble (ea_wt as) (ep_nls P mj))) with
  | false => rw [hd] at e1; cases e1
  | true =>
    rw [hd] at e1
    simp only [cond_true] at e1
    cases e3 : ea_x P n mj 0 (ea_ar 0 as) [] C 0 0 with
    | none => rw [e3] at e1; cases e1
    | some q =>
      obtain ⟨o, C', dk, dw⟩ := q
      have h1 := h n hn _ _ _ _ _ _ e3
      rw [e3] at e1
      cases o with
      | inl v =>
        dsimp only at e1
        rw [ea_fn_eq, ea_fn_eq, ea_fn_eq] at e1
        cases e1
        exact hk v C' h1
      | inr ce =>
        dsimp only at e1
        cases b with
        | false => cases e1
        | true =>
          simp only [cond_true] at e1
          rw [ea_fn_eq, ea_fn_eq] at e1
          have h2 := hx ce C' h1
          cases e4 : ea_hd (ep_sub P) ce pc (ep_hdl P m) with
          | none => rw [e4] at e1 h2; cases e1; exact h2
          | some hd => rw [e4] at e1 h2; cases e1; exact h2
/-- an end of a method, if it is one -/
theorem pa_rt {i : Instr} {len : Nat} (hc : ep_cod P m pc = some (i, len)) (hl : (Nat.beq (ea_len i) 0 || Nat.beq (ea_len i) len) = true) (hp : ea_p i pc (ep_nls P m) L S = none) (hh : ea_h (ep_ini P m) (ep_pl P m) (ep_fty P) (ep_scr P m) i pc S C = none) (hi : pa_nc i = true) (h : ∀ v, ea_rt (ep_rtp P m) i S = some v → K (.inl v) C) : pa P N m pc L S C K := by
  refine pa_b (pb_step (fun n hn k w x hx => ?_))
  unfold ea_1 at hx
  rw [hc] at hx
  dsimp only at hx
  rw [hl] at hx
  simp only [cond_true] at hx
  rw [hp] at hx
  dsimp only at hx
  rw [hh] at hx
  dsimp only at hx
  cases hr : ea_rt (ep_rtp P m) i S with
  | some v =>
    have h1 := h v hr
    rw [hr] at hx
    cases hx
    exact h1
  | none =>
    rw [hr] at hx
    dsimp only at hx
    cases i with
    | invokespecial y => exact Bool.noConfusion (show false = true from hi)
    | invokestatic y => exact Bool.noConfusion (show false = true from hi)
    | invokevirtual y => exact Bool.noConfusion (show false = true from hi)
    | new y => exact Bool.noConfusion (show false = true from hi)
    | _ => cases hx
/-- Math.max, Math.min -/
theorem pa_mm {x : Nat} {T : List AV} (hc : ep_cod P m pc = some (.invokestatic x, 3)) (hm : ea_mm (ep_pl P m x) S = some T) (h : pa P N m (pc + 3) L T C K) : pa P N m pc L S C K := by
  refine pa_b (pb_step (fun n hn k w y hx => ?_))
  unfold ea_1 at hx
  rw [hc] at hx
  dsimp only at hx
  rw [show (Nat.beq (ea_len (.invokestatic x)) 0 || Nat.beq (ea_len (.invokestatic x)) 3) = true from rfl] at hx
  simp only [cond_true] at hx
  have hp : ea_p (.invokestatic x) pc (ep_nls P m) L S = none := rfl
  have hh : ea_h (ep_ini P m) (ep_pl P m) (ep_fty P) (ep_scr P m) (.invokestatic x) pc S C = none := rfl
  have hr : ea_rt (ep_rtp P m) (.invokestatic x) S = none := rfl
  rw [hp] at hx
  dsimp only at hx
  rw [hh] at hx
  dsimp only at hx
  rw [hr] at hx
  dsimp only at hx
  rw [hm] at hx
  dsimp only at hx
  cases hb : (Nat.ble (ea_wt T) 80 && Nat.ble 1 (ep_dep P m)) with
  | false => rw [hb] at hx; cases hx
  | true =>
    rw [hb] at hx
    simp only [cond_true] at hx
    rw [ea_fn_eq, ea_fS_eq] at hx
    cases hx
    exact h
/-- System.arraycopy -/
theorem pa_cy {x : Nat} (hc : ep_cod P m pc = some (.invokestatic x, 3)) (h9 : ea_is9 (ep_pl P m x) = true) (h : ∀ T C', ea_cy S C = some (T, C') → pa P N m (pc + 3) L T C' K) : pa P N m pc L S C K := by
  refine pa_b (pb_step (fun n hn k w y hx => ?_))
  unfold ea_1 at hx
  rw [hc] at hx
  dsimp only at hx
  rw [show (Nat.beq (ea_len (.invokestatic x)) 0 || Nat.beq (ea_len (.invokestatic x)) 3) = true from rfl] at hx
  simp only [cond_true] at hx
  have hp : ea_p (.invokestatic x) pc (ep_nls P m) L S = none := rfl
  have hh : ea_h (ep_ini P m) (ep_pl P m) (ep_fty P) (ep_scr P m) (.invokestatic x) pc S C = none := rfl
  have hr : ea_rt (ep_rtp P m) (.invokestatic x) S = none := rfl
  rw [hp] at hx
  dsimp only at hx
  rw [hh] at hx
  dsimp only at hx
  rw [hr] at hx
  dsimp only at hx
  have hm : ea_mm (ep_pl P m x) S = none := by
    obtain ⟨u, hu⟩ := ea_is9_ok h9
    rw [hu]
    rfl
  rw [hm] at hx
  dsimp only at hx
  rw [h9] at hx
  simp only [cond_true] at hx
  cases hy : ea_cy S C with
  | none => rw [hy] at hx; cases hx
  | some q =>
    obtain ⟨T, C'⟩ := q
    have h1 := h T C' hy
    rw [hy] at hx
    dsimp only at hx
    cases hb : Nat.ble 1 (ep_dep P m) with
    | false => rw [hb] at hx; cases hx
    | true =>
      rw [hb] at hx
      simp only [cond_true] at hx
      rw [ea_fn_eq, ea_fL_eq] at hx
      cases hx
      exact h1
/-- a call that leads nowhere -/
theorem pa_no {x : Nat} (hc : ep_cod P m pc = some (.invokestatic x, 3)) (hp : ep_pl P m x = none) : pa P N m pc L S C K := by
  refine pa_b (pb_step (fun n hn k w y hx => ?_))
  unfold ea_1 at hx
  rw [hc] at hx
  dsimp only at hx
  rw [show (Nat.beq (ea_len (.invokestatic x)) 0 || Nat.beq (ea_len (.invokestatic x)) 3) = true from rfl] at hx
  simp only [cond_true] at hx
  rw [show ea_p (.invokestatic x) pc (ep_nls P m) L S = none from rfl] at hx
  dsimp only at hx
  rw [show ea_h (ep_ini P m) (ep_pl P m) (ep_fty P) (ep_scr P m) (.invokestatic x) pc S C = none from rfl] at hx
  dsimp only at hx
  rw [show ea_rt (ep_rtp P m) (.invokestatic x) S = none from rfl] at hx
  dsimp only at hx
  rw [hp] at hx
  unfold ea_q at hx
  exact nomatch hx
/-- a throw -/
theorem pa_tw {x ce : Nat} (hc : ep_cod P m pc = some (.new x, 3)) (ht : ea_tw P m pc = some ce) (hh : ea_h (ep_ini P m) (ep_pl P m) (ep_fty P) (ep_scr P m) (.new x) pc S C = none) (h : K (.inr ce) C) : pa P N m pc L S C K := by
  refine pa_b (pb_step (fun n hn k w y hx => ?_))
  unfold ea_1 at hx
  rw [hc] at hx
  dsimp only at hx
  rw [show (Nat.beq (ea_len (.new x)) 0 || Nat.beq (ea_len (.new x)) 3) = true from rfl] at hx
  simp only [cond_true] at hx
  have hp : ea_p (.new x) pc (ep_nls P m) L S = none := rfl
  have hr : ea_rt (ep_rtp P m) (.new x) S = none := rfl
  rw [hp] at hx
  dsimp only at hx
  rw [hh] at hx
  dsimp only at hx
  rw [hr] at hx
  dsimp only at hx
  rw [ht] at hx
  cases hw : Nat.ble (ea_wt S) 100 with
  | false => rw [hw] at hx; cases hx
  | true => rw [hw] at hx; cases hx; exact h
end PA
