/-! RUNS WITH CAUGHT EXCEPTIONS: each costs a cell of six slots; at most so many -/
def okb (P : EP) (N m pc : Nat) (L : List (Nat × AV)) (S : List AV) (C : List AC) (K : Option AV ⊕ Nat → List AC → Prop) : Prop := ∃ (n d : Nat) (o : Option AV ⊕ Nat) (C' : List AC), d ≤ N ∧ (∀ k w, ea_x P n m pc L S C k w = some (o, C', k + d, w + 6 * d)) ∧ K o C'
section OKB
variable {P : EP} {N m pc : Nat} {L : List (Nat × AV)} {S : List AV} {C : List AC} {K : Option AV ⊕ Nat → List AC → Prop}
theorem okb_post {K' : Option AV ⊕ Nat → List AC → Prop} (h : okb P N m pc L S C K) (hK : ∀ o C', K o C' → K' o C') : okb P N m pc L S C K' := by
  obtain ⟨n, d, o, C', h0, h1, h2⟩ := h
  exact ⟨n, d, o, C', h0, h1, hK _ _ h2⟩
theorem okb_more {N' : Nat} (hN : N ≤ N') (h : okb P N m pc L S C K) : okb P N' m pc L S C K := by
  obtain ⟨n, d, o, C', h0, h1, h2⟩ := h
  exact ⟨n, d, o, C', Nat.le_trans h0 hN, h1, h2⟩
/-- a run without caught ones; one that ends with an exception has made it -/
theorem okb_of (h : ok_ P m pc L S C K) : okb P 1 m pc L S C K := by
  obtain ⟨n, o, C', h1, h2⟩ := h
  refine ⟨n, ok_k o, o, C', ?_, fun k w => ?_, h2⟩
  · cases o with
    | inl v => exact Nat.zero_le 1
    | inr c => exact Nat.le_refl 1
  · rw [h1 k w]
    cases o <;> rfl
theorem okb_r0 {v : Option AV} (h : ok_ P m pc L S C (fun o C' => o = .inl v ∧ K o C')) : okb P 0 m pc L S C K := by
  obtain ⟨n, o, C', h1, h2, h3⟩ := h
  subst h2
  exact ⟨n, 0, .inl v, C', Nat.le_refl _, h1, h3⟩
theorem okb_step {pc' : Nat} {L' : List (Nat × AV)} {S' : List AV} {C' : List AC} (n0 : Nat) (h1 : ∀ k w, ea_1 P (ea_x P n0) m pc L S C k w = some (.inl (pc', L', S', C', k, w))) (h : okb P N m pc' L' S' C' K) : okb P N m pc L S C K := by
  obtain ⟨n, d, o, C2, hd, h2, h3⟩ := h
  refine ⟨max n0 n + 1, d, o, C2, hd, fun k w => ?_, h3⟩
  show ea_b P (ea_x P (max n0 n)) m pc L S C k w = _
  unfold ea_b
  rw [ok_1_mono (fun _ _ _ _ _ _ _ _ hr => ok_x_mono (Nat.le_max_left n0 n) hr) (h1 k w)]
  exact ok_x_mono (Nat.le_max_right n0 n) (h2 k w)
theorem okb_p {i : Instr} {len : Nat} {pc' : Nat} {L' : List (Nat × AV)} {S' : List AV} (hc : ep_cod P m pc = some (i, len)) (hl : (Nat.beq (ea_len i) 0 || Nat.beq (ea_len i) len) = true) (hp : ea_p i pc (ep_nls P m) L S = some (pc', L', S')) (h : okb P N m pc' L' S' C K) : okb P N m pc L S C K := by
  refine okb_step 0 (fun k w => ?_) h
  unfold ea_1
  rw [hc]
  dsimp only
  rw [hl]
  simp only [cond_true]
  rw [hp]
  dsimp only
  rw [ea_fn_eq, ea_fL_eq, ea_fS_eq]
theorem okb_h {i : Instr} {len : Nat} {pc' : Nat} {S' : List AV} {C' : Option (List AC)} (hc : ep_cod P m pc = some (i, len)) (hl : (Nat.beq (ea_len i) 0 || Nat.beq (ea_len i) len) = true) (hp : ea_p i pc (ep_nls P m) L S = none) (hh : ea_h (ep_ini P m) (ep_pl P m) (ep_fty P) (ep_scr P m) i pc S C = some (pc', S', C', 0, 0)) (h : okb P N m pc' L S' (C'.getD C) K) : okb P N m pc L S C K := by
  refine okb_step 0 (fun k w => ?_) h
  unfold ea_1
  rw [hc]
  dsimp only
  rw [hl]
  simp only [cond_true]
  rw [hp]
  dsimp only
  rw [hh]
  dsimp only
  rw [ea_fn_eq, ea_fS_eq, ea_fn_eq, ea_fn_eq]
  cases C' with
  | none => rfl
  | some C1 => dsimp only; rw [ea_fL_eq]; rfl
/-- behind a call: a value, an exception that is caught, one that is not -/
def okb_back (P : EP) (N m pc : Nat) (L : List (Nat × AV)) (T : List AV) (b : Bool) (K : Option AV ⊕ Nat → List AC → Prop) : Option AV ⊕ Nat → List AC → Prop := fun o C' => match o with
  | .inl v => okb P N m (pc + 3) L (v.toList ++ T) C' K
  | .inr ce => b = true ∧ ∃ h, ea_hd (ep_sub P) ce pc (ep_hdl P m) = some h ∧ okb P N m h L [.inr (.inr (.inr (.inl false)))] C' K
theorem okb_call {N' : Nat} {i : Instr} {r : Option (Nat × Nat × Nat)} {mj : Nat} {as T : List AV} {b : Bool} (hc : ep_cod P m pc = some (i, 3)) (hi : ok_iv P m i S = some r) (hq : ea_cl (ep_own P) i r S C = some (mj, as, T, b)) (hd : (Nat.blt (ep_dep P mj) (ep_dep P m) && (Nat.ble (ea_wt T) 8 && Nat.ble (ea_wt as) (ep_nls P mj))) = true)
    (h : okb P N' mj 0 (ea_ar 0 as) [] C (okb_back P N m pc L T b K)) : okb P (N' + N) m pc L S C K := by
  obtain ⟨n, d, o, C', hdn, h1, h2⟩ := h
  have key : ∀ k w, ea_1 P (ea_x P n) m pc L S C k w = ea_q P (ea_x P n) m pc L S C k w i r := by
    intro k w
    unfold ea_1
    rw [hc]
    unfold ok_iv at hi
    split at hi
    · split at hi
      · cases hi
      · rename_i ho
        cases hi
        show (match ea_oi _ S with | some T => _ | none => _) = _
        rw [ho]
    · split at hi
      · cases hi
      · rename_i ho
        cases h9 : ea_is9 (ep_pl P m _) with
        | true => rw [h9] at hi; cases hi
        | false =>
          rw [h9] at hi
          cases hi
          show (match ea_mm _ S with | some T => _ | none => _) = _
          rw [ho]
          dsimp only
          rw [h9]
          rfl
    · cases hi
      rfl
    · cases hi
  have fin : ∀ (pc' : Nat) (L' : List (Nat × AV)) (S' : List AV), (∀ k w, ea_q P (ea_x P n) m pc L S C k w i r = some (.inl (pc', L', S', C', k + d, w + 6 * d))) → okb P N m pc' L' S' C' K → okb P (N' + N) m pc L S C K := by
    intro pc' L' S' hq' hk
    obtain ⟨n2, d2, o2, C2, e0, e1, e2⟩ := hk
    refine ⟨max n n2 + 1, d + d2, o2, C2, by omega, fun k w => ?_, e2⟩
    show ea_b P (ea_x P (max n n2)) m pc L S C k w = _
    unfold ea_b
    rw [ok_1_mono (fun _ _ _ _ _ _ _ _ hr => ok_x_mono (Nat.le_max_left n n2) hr) ((key k w).trans (hq' k w))]
    dsimp only
    rw [ok_x_mono (Nat.le_max_right n n2) (e1 (k + d) (w + 6 * d))]
    congr 4
    · omega
    · omega
  cases o with
  | inl v =>
    refine fin (pc + 3) L (v.toList ++ T) (fun k w => ?_) h2
    unfold ea_q
    rw [hq]
    dsimp only
    rw [hd]
    simp only [cond_true]
    rw [h1 0 0]
    dsimp only
    rw [ea_fn_eq, ea_fn_eq, ea_fn_eq]
    simp only [Nat.zero_add]
  | inr ce =>
    obtain ⟨hb, hh, hh1, hh2⟩ := h2
    refine fin hh L _ (fun k w => ?_) hh2
    unfold ea_q
    rw [hq]
    dsimp only
    rw [hd]
    simp only [cond_true]
    rw [h1 0 0]
    dsimp only
    rw [hb]
    simp only [cond_true]
    rw [ea_fn_eq, ea_fn_eq]
    simp only [Nat.zero_add]
    rw [hh1]
theorem okb_cv {N' : Nat} {x mj n a ci : Nat} {vs : List AV} {as T : List AV} (hc : ep_cod P m pc = some (.invokevirtual x, 3)) (hp : ep_pl P m x = some (2, mj, n)) (hC : ea_nt C a = some (.inr (ci, vs))) (ho : ep_own P mj = ci) (hn : as.length = n) (hd : (Nat.blt (ep_dep P mj) (ep_dep P m) && (Nat.ble (ea_wt T) 8 && Nat.ble (ea_wt (.inr (.inl (some a)) :: as)) (ep_nls P mj))) = true) (h : okb P N' mj 0 (ea_ar 0 (.inr (.inl (some a)) :: as)) [] C (okb_back P N m pc L T true K)) : okb P (N' + N) m pc L (as.reverse ++ .inr (.inl (some a)) :: T) C K := by
  refine okb_call (r := some (2, mj, n)) (mj := mj) (as := .inr (.inl (some a)) :: as) (T := T) (b := true) hc (by simp only [ok_iv, hp]) ?_ hd h
  have h1 : (as.reverse ++ (.inr (.inl (some a)) : AV) :: T).drop n = .inr (.inl (some a)) :: T := by rw [List.drop_append_of_le_length (by rw [List.length_reverse, hn]; exact Nat.le_refl _), ← hn, ← List.length_reverse, List.drop_length]; rfl
  have h2 : (as.reverse ++ (.inr (.inl (some a)) : AV) :: T).take n = as.reverse := by rw [List.take_append_of_le_length (by rw [List.length_reverse, hn]; exact Nat.le_refl _), ← hn, ← List.length_reverse, List.take_length]
  simp only [ea_cl, h1, h2, hC, ho, Nat.beq_refl, cond_true, List.reverse_reverse]
theorem okb_cs {N' : Nat} {x mj n : Nat} {as T : List AV} (hc : ep_cod P m pc = some (.invokestatic x, 3)) (hp : ep_pl P m x = some (1, mj, n)) (hn : as.length = n) (hd : (Nat.blt (ep_dep P mj) (ep_dep P m) && (Nat.ble (ea_wt T) 8 && Nat.ble (ea_wt as) (ep_nls P mj))) = true) (h : okb P N' mj 0 (ea_ar 0 as) [] C (okb_back P N m pc L T true K)) : okb P (N' + N) m pc L (as.reverse ++ T) C K := by
  refine okb_call (r := some (1, mj, n)) (mj := mj) (as := as) (T := T) (b := true) hc (by simp only [ok_iv, hp, ea_mm, ea_is9, cond_false]) ?_ hd h
  have h1 : (as.reverse ++ T).drop n = T := by rw [List.drop_append_of_le_length (by rw [List.length_reverse, hn]; exact Nat.le_refl _), ← hn, ← List.length_reverse, List.drop_length]; rfl
  have h2 : (as.reverse ++ T).take n = as.reverse := by rw [List.take_append_of_le_length (by rw [List.length_reverse, hn]; exact Nat.le_refl _), ← hn, ← List.length_reverse, List.take_length]
  have h3 : Nat.ble n (as.reverse ++ T).length = true := Nat.ble_eq_true_of_le (by rw [List.length_append, List.length_reverse, hn]; omega)
  simp only [ea_cl, h1, h2, h3, cond_true, List.reverse_reverse]
theorem okb_an {k : Fin 4} {v : AV} (hc : ep_cod P m pc = some (.aload_n k, 1)) (hl : ea_lk L k = some v) (hr : ea_isr v = true) (h : okb P N m (pc + 1) L (v :: S) C K) : okb P N m pc L S C K :=
  okb_p hc rfl (show (match ea_lk L k with
    | some a => if ea_isr a = true then some (pc + 1, L, a :: S) else none
    | none => none) = some (pc + 1, L, v :: S) by rw [hl]; dsimp only; rw [if_pos hr]) h
theorem okb_il {k : Nat} {x : AI} (hc : ep_cod P m pc = some (.iload k, 2)) (hl : ea_lk L k = some (.inl x)) (h : okb P N m (pc + 2) L (.inl x :: S) C K) : okb P N m pc L S C K :=
  okb_p hc rfl (show (match ea_lk L k with
    | some (.inl a) => some (pc + 2, L, .inl a :: S)
    | _ => none) = some (pc + 2, L, .inl x :: S) by rw [hl]) h
theorem okb_ii {k : Nat} {n : Int} {x : Int32} (hc : ep_cod P m pc = some (.iinc k n, 3)) (hk : k < ep_nls P m) (hl : ea_lk L k = some (.inl (.inl x))) (h : okb P N m (pc + 3) (ea_s1 L k (.inl (.inl (x + Int32.ofInt n)))) S C K) : okb P N m pc L S C K :=
  okb_p hc rfl (show (match ea_lk L k with
    | some (.inl a) => if k < ep_nls P m then some (pc + 3, ea_s1 L k (.inl (iv_2 (fun x y => x + y) iv_addg a (.inl (Int32.ofInt n)))), S) else none
    | _ => none) = some (pc + 3, ea_s1 L k (.inl (.inl (x + Int32.ofInt n))), S) by rw [hl]; dsimp only; rw [if_pos hk]; rfl) h
theorem okb_ic {c : Jvm.ClassFile.Cond} {off : Int} {t : Nat} {x y : Int32} (b : Bool) (hc : ep_cod P m pc = some (.if_icmp c off, 3)) (ht : ea_to pc off = some t) (hb : ea_ck c x y = b) (h : okb P N m (bif b then t else pc + 3) L S C K) : okb P N m pc L (.inl (.inl y) :: .inl (.inl x) :: S) C K := by
  refine okb_p (pc' := bif b then t else pc + 3) (L' := L) (S' := S) hc rfl ?_ h
  simp only [ea_p, ea_if, hb, ht]
  cases b <;> rfl
theorem okb_if {c : Jvm.ClassFile.Cond} {off : Int} {t : Nat} {x : Int32} (b : Bool) (hc : ep_cod P m pc = some (.ifCond c off, 3)) (ht : ea_to pc off = some t) (hb : ea_ck c x 0 = b) (h : okb P N m (bif b then t else pc + 3) L S C K) : okb P N m pc L (.inl (.inl x) :: S) C K := by
  refine okb_p (pc' := bif b then t else pc + 3) (L' := L) (S' := S) hc rfl ?_ h
  simp only [ea_p, ea_if, hb, ht]
  cases b <;> rfl
/-- an int of the script -/
theorem okb_sl {X : List AI} {x y : Int32} {j : Nat} (hc : ep_cod P m pc = some (.iaload, 1)) (hX : ep_scr P m = some X) (hi : ea_ix (.inl x) X.length = some j) (hy : ea_nt X j = some (.inl y)) (h : okb P N m (pc + 1) L (.inl (.inl y) :: S) C K) : okb P N m pc L (.inl (.inl x) :: .inr (.inr (.inr (.inl true))) :: S) C K :=
  okb_h (C' := none) hc rfl rfl (by simp only [ea_h, hX, hi, hy]) h
/-- how long it is -/
theorem okb_sn {X : List AI} (hc : ep_cod P m pc = some (.arraylength, 1)) (hX : ep_scr P m = some X) (h : okb P N m (pc + 1) L (.inl (.inl (Int32.ofNat X.length)) :: S) C K) : okb P N m pc L (.inr (.inr (.inr (.inl true))) :: S) C K :=
  okb_h (C' := none) hc rfl rfl (by simp only [ea_h, hX]) h
/-- a store into a row of longs -/
theorem okb_ls {a n j : Nat} {d : AV} {us : List (Nat × AV)} {x : Int32} {y : Option Int64} (hc : ep_cod P m pc = some (.lastore, 1)) (hC : ea_nt C a = some (.inl (1, n, d, us))) (hi : ea_ix (.inl x) n = some j) (h : okb P N m (pc + 1) L S (C.set a (.inl (1, n, d, (j, .inr (.inr (.inl y))) :: us))) K) : okb P N m pc L (.inr (.inr (.inl y)) :: .inl (.inl x) :: .inr (.inl (some a)) :: S) C K :=
  okb_h (C' := some _) hc rfl rfl (by simp only [ea_h, hC, hi]) h
end OKB
section OKT
variable {P : EP} {m pc : Nat} {L : List (Nat × AV)} {S : List AV} {C : List AC} {K : Option AV ⊕ Nat → List AC → Prop}
/-- a call by a contract of the class, where no handler stands -/
theorem ok_cn {G : Nat → Option CT} {c : CN} (hcn : cn_ok P G c) {x n a ci : Nat} {vs : List AV} {as T : List AV} (hc : ep_cod P m pc = some (.invokevirtual x, 3)) (hp : ep_pl P m x = some (2, c.1, n)) (hC : ea_nt C a = some (.inr (ci, vs))) (ho : ep_own P c.1 = ci) (hn : as.length = n) (hd : (Nat.blt (ep_dep P c.1) (ep_dep P m) && (Nat.ble (ea_wt T) 8 && Nat.ble (ea_wt (.inr (.inl (some a)) :: as)) (ep_nls P c.1))) = true) (hv : ea_rl at_g c.2.1 (.inr (.inl (some a)) :: as)) (hI : xI G C) (hF : c.2.2.2.2.2 = []) (h : ∀ v C', xI G C' → (∀ b, xm c.2.2.1 b = false → ea_nt C' b = ea_nt C b) → rt_g c.2.2.2.1 v → ok_ P m (pc + 3) L (v.toList ++ T) C' K) (hx : ∀ ce C', ce ∈ c.2.2.2.2.1 → xI G C' → (∀ b, xm c.2.2.1 b = false → ea_nt C' b = ea_nt C b) → ea_hd (ep_sub P) ce pc (ep_hdl P m) = none ∧ K (.inr ce) C') : ok_ P m pc L (as.reverse ++ .inr (.inl (some a)) :: T) C K := by
  refine ok_cv hc hp hC ho hn hd (ok_post (hcn _ C hv hI (by rw [hF]; exact fun q hq => nomatch hq)) (fun o C' hq => ?_))
  obtain ⟨o1, o2, o3⟩ := hq
  cases o with
  | inl v => exact h v C' o1 o2 o3
  | inr ce => exact ⟨rfl, hx ce C' o3 o1 o2⟩
end OKT
