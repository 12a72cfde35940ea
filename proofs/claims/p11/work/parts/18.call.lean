/-! THE ABSTRACT MACHINE AND THE MACHINE: contracts -/
theorem ea_ext_t {a b c : va_W} (h1 : ea_ext a b) (h2 : ea_ext b c) : ea_ext a c := fun k q h => h2 k q (h1 k q h)
theorem ea_ext_p {ws ws' : va_W} (h : ea_ext ws ws') (sb : SB) : (sb, ws.map Prod.fst).1 = (sb, ws'.map Prod.fst).1 ∧ ∀ k q : Nat, (sb, ws.map Prod.fst).2[k]? = some q → (sb, ws'.map Prod.fst).2[k]? = some q := ⟨rfl, h⟩
def ea_rv (ad : SB × List Nat) (o : Option AV) (v : Option Value) : Prop := match o with
  | none => v = none
  | some a => ∃ x, v = some x ∧ ea_gv ad a x
/-- a world in a state -/
def ea_S (N : EN) (D : va_G) (A : Nat → Prop) (sb : SB) (C : List AC) (ws : va_W) (U : State) : Prop := va_P D (en_cl N) ws U.heap ∧ va_D A ws ∧ ea_H (en_cl N) U sb C ws
def ea_Pc (N : EN) (P : EP) (D : va_G) (A : Nat → Prop) (sb : SB) (C : List AC) (ws : va_W) (vs : List Value) : Array Value → State → Prop := fun a U => a = vs.toArray ∧ ea_S N D A sb C ws U ∧ ea_G N P D A sb U U.heap
def ea_Qc (N : EN) (D : va_G) (A : Nat → Prop) (sb : SB) (ws : va_W) (o : Option AV ⊕ Nat) (C : List AC) : Array Value → State → Outcome → State → Prop := fun _ st oc t => match o with
  | .inl ov => ∃ ws' v, oc = .returned v ∧ ea_ext ws ws' ∧ ea_rv (sb, ws'.map Prod.fst) ov v ∧ ea_S N D A sb C ws' t ∧ va_F A st t
  | .inr _ => False
def ea_XC (N : EN) (D : va_G) (A : Nat → Prop) (sb : SB) (ws : va_W) (o : Option AV ⊕ Nat) (C : List AC) : String → State → State → Prop := fun E st t => match o with
  | .inl _ => False
  | .inr ce => ∃ ws', E = en_x N ce ∧ ea_ext ws ws' ∧ ea_S N D A sb C ws' t ∧ va_F A st t
theorem ea_blind {N : EN} {P : EP} {D : va_G} {A : Nat → Prop} {sb : SB} {C : List AC} {ws : va_W} {vs : List Value} (hpr : ea_pr P N) : FrameBlind (ea_Pc N P D A sb C ws vs) := by
  intro a U g mk h
  obtain ⟨h1, ⟨hP, hD, hH⟩, hG⟩ := h
  have hW : U.WarmedH (U.calling g mk a).vm := State.WarmedH.refl U
  exact ⟨h1, ⟨hP, hD, ea_H_moved hW.alike hH⟩, ea_G_step (U := U.calling g mk a) (H1 := U.heap) hpr hW (Nat.le_refl _) (fun _ _ _ => rfl) hG⟩
/-- what holds in the body of a method -/
def ea_cx (P : EP) (N : EN) (D : va_G) (A : Nat → Prop) (sb : SB) (mi : Nat) (p : Program) (l : Launch) (s : State) (m : MethodId) (args : Array Value) (meth : Method) (c : Code) : Prop :=
  p.tables.exec = Jvm.exec ∧ c.code = en_b N mi ∧ (∀ w ∈ en_T N, w.before args s = true) ∧ s.vm.findClass (en_y N mi).cls = some m.cls ∧ (ep_ini P mi = true → meth.name = "<init>") ∧ meth.locks = false ∧ meth.sig.returnType = en_r N mi ∧ c.maxLocals = ep_nls P mi ∧
  c.exceptionTable.toList = tableOf (ea_hs P mi) ∧ ea_G N P D A sb s s.heap ∧ l.stackTraces = false ∧ ∀ X, ep_scr P mi = some X → ¬ A sb.1 ∧ sb.1 < s.heap.size ∧ ∃ xs : Nat → Int32, va_X sb.1 X.length xs s s.heap ∧ ∀ j v, X[j]? = some v → ea_gi v (xs j)
theorem ea_wt_ok {ad : SB × List Nat} : ∀ {S : List AV} {st : List Value}, ea_rl (ea_gv ad) S st → (st.map fun v => v.category).sum = ea_wt S
  | [], [], _ => rfl
  | a :: S, v :: st, h => by
    rw [List.map_cons, List.sum_cons, ea_wt_ok h.2, ea_gv_cat h.1]
    rfl
  | [], _ :: _, h => h.elim
  | _ :: _, [], h => h.elim
theorem ea_sl_ok {ad : SB × List Nat} : ∀ {S : List AV} {st : List Value}, ea_rl (ea_gv ad) S st → (lg_sl st).length = ea_wt S
  | [], [], _ => rfl
  | a :: S, v :: st, h => by
    have hc := ea_gv_cat h.1
    have ih : (List.flatMap (fun v : Value => if v.category = 2 then [Slot.val v, .second] else [Slot.val v]) st).length = ea_wt S := ea_sl_ok h.2
    show (List.flatMap (fun v : Value => if v.category = 2 then [Slot.val v, .second] else [Slot.val v]) (v :: st)).length = ea_cat a + ea_wt S
    rw [List.flatMap_cons, List.length_append, ih, hc]
    rcases lv_cat v with h1 | h1 <;> rw [hc] at h1 <;> simp [h1]
  | [], _ :: _, h => h.elim
  | _ :: _, [], h => h.elim
theorem ea_ar_ok {ad : SB × List Nat} : ∀ {as : List AV} {vs : List Value} (i : Nat), ea_rl (ea_gv ad) as vs → ea_rl (ea_lr ad) (ea_ar i as) (lv_args i vs)
  | [], [], _, _ => trivial
  | a :: as, v :: vs, i, h => by
    refine ⟨⟨rfl, h.1⟩, ?_⟩
    rw [ea_gv_cat h.1]
    exact ea_ar_ok _ h.2
  | [], _ :: _, _, h => h.elim
  | _ :: _, [], _, h => h.elim
section EAC
variable {p : Program} {l : Launch} {e : Env} {R : Room} {s : State} {m : MethodId} {args : Array Value} {below : List Frame} {meth : Method} {c : Code} {H : Heap} {locs : List Loc} {k w : Nat} {Q : State → Prop}
variable {pc : Nat} {ls : Array Slot} {st rest : List Value} {P : EP} {N : EN} {D : va_G} {A : Nat → Prop} {sb : SB} {ws : va_W} {C : List AC}
/-- behind a call -/
theorem ea_after {mc ms : Nat} {o : Option AV ⊕ Nat} {a : Array Value} (hr : vx_Run p l e R s m args below meth c H locs k w mc ms (F0 m pc ls st) rest (ea_Qc N D A sb ws o C a) (ea_XC N D A sb ws o C) A) (hS : va_S A s.heap H locs)
    (kr : ∀ ov, o = .inl ov → ∀ (ws' : va_W) (v : Option Value) (H1 : Heap) (locs1 : List Loc), ea_W D (en_cl N) A s sb C ws' H1 locs1 → ea_ext ws ws' → ea_rv (sb, ws'.map Prod.fst) ov v → W p l e R s m args below meth c H1 locs1 (k + mc) (w + ms) Q (F0 m (pc + 3) ls (v.toList ++ rest)))
    (kx : ∀ ce, o = .inr ce → ∀ (ws' : va_W) (q : Addr) (cell : Cell) (H1 : Heap) (locs1 : List Loc), ea_W D (en_cl N) A s sb C ws' H1 locs1 → ea_ext ws ws' → H1[q]? = some cell → cell.vm = .none → s.vm.findClass (en_x N ce) = some cell.cls → vx_W p l e R s m args below meth c H1 locs1 (k + mc) (w + ms) Q (F0 m pc ls rest) q) :
    W p l e R s m args below meth c H locs k w Q (F0 m pc ls st) := by
  intro T hT X
  rcases hr T hT X with ⟨v, st₀, t, T', L, h0, X', hL, e1, e2, hq, st2⟩ | ⟨q, st₀, t, T', L, E, ce, h0, X', hL, e1, e2, hq, hce, hcv, hcl, st2⟩
  · cases o with
    | inr _ => exact hq.elim
    | inl ov =>
      obtain ⟨ws', v', hv, hext, hrv, ⟨hP, hD, hH⟩, hF⟩ := hq
      cases hv
      obtain ⟨k1, k2, k3⟩ := vx_keep h0 e1 hS (fun _ _ h => h) (fun _ h => h) hL hF
      have hal : t.vm.Alike s.vm := by rw [← e2]; exact X'.warmed.alike.symm
      obtain ⟨t2, a1, b1⟩ := kr ov rfl ws' v T'.heap (locs ++ L) ⟨by rw [e1]; exact hP, hD, k3, ea_H_moved hal hH⟩ hext hrv T' rfl X'
      exact ⟨t2, st2 t2 a1, b1⟩
  · cases o with
    | inl _ => exact hq.elim
    | inr x =>
      obtain ⟨ws', rfl, hext, ⟨hP, hD, hH⟩, hF⟩ := hq
      obtain ⟨k1, k2, k3⟩ := vx_keep h0 e1 hS (fun _ _ h => h) (fun _ h => h) hL hF
      have hal : t.vm.Alike s.vm := by rw [← e2]; exact X'.warmed.alike.symm
      obtain ⟨t2, a1, b1⟩ := kx x rfl ws' q ce T'.heap (locs ++ L) ⟨by rw [e1]; exact hP, hD, k3, ea_H_moved hal hH⟩ hext (by rw [e1]; exact hce) hcv hcl T' rfl X'
      exact ⟨t2, st2.trans a1, b1⟩
/-- the end of a method -/
theorem ea_rt_ok {mi : Nat} {i : Instr} {len : Nat} {S : List AV} {v : Option AV} {ws0 : va_W} (hcx : ea_cx P N D A sb mi p l s m args meth c) (hrk : ea_rk (ep_rtp P mi) (en_r N mi)) (hdg : decode (en_b N mi) pc = .ok (i, len)) (hlen : ea_len i = 0 ∨ ea_len i = len) (hp : ea_rt (ep_rtp P mi) i S = some v)
    (hW : ea_W D (en_cl N) A s sb C ws H locs) (hext : ea_ext ws0 ws) (hs : ea_rl (ea_gv (sb, ws.map Prod.fst)) S st) :
    W p l e R s m args below meth c H locs k w (vx_MQ below (ea_Qc N D A sb ws0 (.inl v) C) (ea_XC N D A sb ws0 (.inl v) C) args s k w A) (F0 m pc ls st) := by
  obtain ⟨hexec, hb, hts, hown, hini, hlocks, hret, hml, hex, hG, hst, hX⟩ := hcx
  obtain ⟨hP, hD, hS, hH⟩ := hW
  have hq : ∀ (x : Option Value), ea_rv (sb, ws.map Prod.fst) v x → ∀ t : State, t.heap = H → s.WarmedH t.vm → ea_Qc N D A sb ws0 (.inl v) C args s (.returned x) t := fun x hx t ht hWt =>
    ⟨ws, x, rfl, hext, hx, ⟨by rw [ht]; exact hP, hD, ea_H_moved hWt.alike hH⟩, hS.F ht⟩
  unfold ea_rt at hp
  split at hp
  · rename_i a
    obtain rfl : 1 = len := by simpa [ea_len] using hlen
    obtain ⟨x, _, rfl, hv, hs1⟩ := ea_pop hs
    obtain rfl := ea_rl_nil hs1
    split at hp
    · rename_i hr
      cases hf : ea_fit 0 a with
      | false => rw [hf] at hp; cases hp
      | true =>
        rw [hf] at hp
        cases hp
        rw [hr] at hrk
        obtain ⟨y, rfl, hy⟩ : ∃ y : Int32, x = .int y ∧ True := by
          unfold ea_fit at hf
          split at hf <;> first | cases hf | skip
          all_goals first | (obtain ⟨y, rfl, -⟩ := hv; exact ⟨y, rfl, trivial⟩) | contradiction
        exact vx_ret (W.iret hexec hb (hret.trans hrk) (hq _ ⟨_, rfl, hv⟩) hS.2.2 hdg hlocks)
    · rename_i hr
      cases hf : ea_fit 2 a with
      | false => rw [hf] at hp; cases hp
      | true =>
        rw [hf] at hp
        cases hp
        rw [hr] at hrk
        obtain ⟨hn, -⟩ := ea_fit_ok hf hv (show ea_tg 2 .boolean from rfl)
        obtain ⟨y, rfl, hy⟩ : ∃ y : Int32, x = .int y ∧ True := by
          unfold ea_fit at hf
          split at hf <;> first | cases hf | skip
          all_goals first | (obtain ⟨y, rfl, -⟩ := hv; exact ⟨y, rfl, trivial⟩) | contradiction
        exact vx_ret (W.zret hexec hb (hret.trans hrk) hn (hq _ ⟨_, rfl, hv⟩) hS.2.2 hdg hlocks)
    · rename_i hr
      split at hp
      · rename_i y
        split at hp
        · rename_i hy
          cases hp
          rw [hr] at hrk
          obtain ⟨z, rfl, hz⟩ := hv
          obtain rfl : z = y := hz
          exact vx_ret (W.zret hexec hb (hret.trans hrk) (by show Value.int _ = _; rw [hy]) (hq _ ⟨_, rfl, ⟨_, rfl, rfl⟩⟩) hS.2.2 hdg hlocks)
        · cases hp
      · cases hp
    · rename_i hr
      split at hp
      · rename_i y
        split at hp
        · rename_i hy
          cases hp
          rw [hr] at hrk
          obtain ⟨z, rfl, hz⟩ := hv
          obtain rfl : z = y := hz
          exact vx_ret (W.zret hexec hb (hret.trans hrk) (by show Value.int _ = _; rw [hy]) (hq _ ⟨_, rfl, ⟨_, rfl, rfl⟩⟩) hS.2.2 hdg hlocks)
        · cases hp
      · cases hp
    · cases hp
  · rename_i a
    obtain rfl : 1 = len := by simpa [ea_len] using hlen
    obtain ⟨x, _, rfl, hv, hs1⟩ := ea_pop hs
    obtain rfl := ea_rl_nil hs1
    split at hp
    · rename_i hr
      cases hf : ea_fit 1 a with
      | false => rw [hf] at hp; cases hp
      | true =>
        rw [hf] at hp
        cases hp
        rw [hr] at hrk
        obtain ⟨y, rfl, hy⟩ : ∃ y : Int64, x = .long y ∧ True := by
          unfold ea_fit at hf
          split at hf <;> first | cases hf | skip
          all_goals first | (obtain ⟨y, rfl, -⟩ := ea_gl hv; exact ⟨y, rfl, trivial⟩) | contradiction
        exact vx_ret (W.lret hexec hb (hret.trans hrk) (hq _ ⟨_, rfl, hv⟩) hS.2.2 hdg hlocks)
    · cases hp
  · obtain rfl : 1 = len := by simpa [ea_len] using hlen
    obtain rfl := ea_rl_nil hs
    split at hp
    · rename_i hr
      cases hp
      rw [hr] at hrk
      exact vx_ret (W.vret hexec hb (hret.trans hrk) (hq _ rfl) hS.2.2 hdg hlocks)
    · cases hp
  · cases hp
end EAC
