/-! THE LAW: a walk of its own method, where a branch on what is not known goes both ways -/
def ea_ir (q : Option (Instr × Nat)) : Bool := match q with
  | some (.ireturn, 1) => true
  | _ => false
theorem ea_ir_ok {q : Option (Instr × Nat)} (h : ea_ir q = true) : q = some (.ireturn, 1) := by
  unfold ea_ir at h
  split at h
  · rfl
  · cases h
/-- the law's end: 1 on the stack, within the room -/
def ea_e1 (K V : Nat) (S : List AV) (k w : Nat) : Bool := match S with
  | [.inl (.inl x)] => Nat.beq x.toUInt32.toNat 1 && (Nat.ble k K && Nat.ble w V)
  | _ => false
/-- a branch on what is not known -/
def ea_br (q : Option (Instr × Nat)) (pc : Nat) (S : List AV) : Option (Nat × List AV) := match q, S with
  | some (.ifCond _ off, 3), .inl _ :: T => match ea_to pc off with
    | some t => some (t, T)
    | none => none
  | _, _ => none
def ea_v (P : EP) (cal : Nat → Nat → List (Nat × AV) → List AV → List AC → Nat → Nat → Option AR) (K V : Nat) (n : Nat) : Nat → List (Nat × AV) → List AV → List AC → Nat → Nat → Bool := Nat.rec (fun _ _ _ _ _ _ => false) (fun _ ih pc L S C k w =>
  bif ea_ir (ep_cod P 0 pc) then ea_e1 K V S k w else match ea_1 P cal 0 pc L S C k w with
  | some (.inl (pc, L, S, C, k, w)) => ih pc L S C k w
  | some (.inr _) => false
  | none => match ea_br (ep_cod P 0 pc) pc S with
    | some (t, T) => ih t L T C k w && ih (pc + 3) L T C k w
    | none => false) n
/-- the script cut at hints, where the walk asks it -/
def ea_bx (f : List AI → Bool) (hs : List (Nat × Int)) (X : List AI) : Bool := match hs with
  | [] => f X
  | q :: t => bif f X then true else match ea_nt X q.1 with
    | some i => bif decide (ea_lo i < q.2) && decide (q.2 ≤ ea_hi i) then ea_bx f t (X.set q.1 (ea_mk (ea_lo i) (q.2 - 1))) && ea_bx f t (X.set q.1 (ea_mk q.2 (ea_hi i))) else ea_bx f t X
    | none => false
theorem ea_br_ok {q : Option (Instr × Nat)} {pc : Nat} {S : List AV} {t : Nat} {T : List AV} (h : ea_br q pc S = some (t, T)) : ∃ c off a, q = some (.ifCond c off, 3) ∧ S = .inl a :: T ∧ ea_to pc off = some t := by
  unfold ea_br at h
  split at h
  · split at h
    · rename_i ht
      cases h
      exact ⟨_, _, _, rfl, rfl, ht⟩
    · cases h
  · cases h
def ea_Z (K V : Nat) (below : List Frame) (s : State) : State → Prop := fun t => ∃ o, t.status = .running ∧ Ended t below o ∧ o = .returned (some (.int 1)) ∧ Framed s o t [] K V
theorem ea_ret1 {p : Program} {l : Launch} {e : Env} {R : Room} {s : State} {m : MethodId} {args : Array Value} {below : List Frame} {meth : Method} {c : Code} {cc : ByteArray} {K V : Nat} (hx : p.tables.exec = Jvm.exec) (hb : c.code = cc) (hr : meth.sig.returnType = some .boolean) (hlocks : meth.locks = false) {pc : Nat} {H : Heap} {ls : Array Slot} (hdg : decode cc pc = .ok (.ireturn, 1)) : W p l e R s m args below meth c H [] K V (ea_Z K V below s) (F0 m pc ls [.int 1]) := by
  intro T hT X
  obtain ⟨fs, hret, hrun, hended, hW, hframe⟩ := X.leave (v := some (.int 1)) (hlocks := hlocks) (fun h => by rw [hr] at h; cases h)
  have hmeth' : T.vm.method? m = some meth := X.method'
  refine ⟨T.setFrames fs, ?_, .returned (some (.int 1)), hrun, hended, rfl, ⟨_, rfl⟩, hW, hframe⟩
  jvm_step X.here [X.here.top, hx, hb, hdg, hmeth', hr, narrow_b1]
  (try refine ⟨rfl, ?_⟩); (try refine ⟨rfl, ?_⟩)
  first | (intro acts; rw [hret _ acts rfl rfl rfl]) | rw [hret _ _ rfl rfl rfl]
  exact Steps.refl _
theorem ea_v_ok {P : EP} {N : EN} {D : va_G} {A : Nat → Prop} {sb : SB} {l : Launch} (hpr : ea_pr P N) (hst : l.stackTraces = false) (h0 : 0 < en_k N) (hr0 : en_r N 0 = some .boolean) {cal : Nat → Nat → List (Nat × AV) → List AV → List AC → Nat → Nat → Option AR}
    (hcal : ∀ (mi pc : Nat) (L : List (Nat × AV)) (S : List AV) (C : List AC) (k w : Nat) (o : Option AV ⊕ Nat) (C' : List AC) (k1 w1 : Nat), mi < en_k N → cal mi pc L S C k w = some (o, C', k1, w1) → ea_good P N D A sb l mi pc L S C k w o C' k1 w1) {K V : Nat} (n : Nat) : ∀ (pc : Nat) (L : List (Nat × AV)) (S : List AV) (C : List AC) (k w : Nat), ea_v P cal K V n pc L S C k w = true →
    k ≤ K ∧ w ≤ V ∧ ∀ (p : Program) (e : Env) (s : State) (m : MethodId) (args : Array Value) (below : List Frame) (meth : Method) (c : Code) (H : Heap) (locs : List Loc) (ls : Array Slot) (st : List Value) (ws : va_W), (∀ q, A q → s.heap.size ≤ q) →
      ea_cx P N D A sb 0 p l s m args meth c → ea_W D (en_cl N) A s sb C ws H locs → ea_L (sb, ws.map Prod.fst) (ep_nls P 0) L ls → ea_rl (ea_gv (sb, ws.map Prod.fst)) S st →
      W p l e (ea_rm P 0 K V) s m args below meth c H locs k w (ea_Z K V below s) (F0 m pc ls st) := by
  induction n with
  | zero => intro pc L S C k w h; cases h
  | succ n IH =>
    intro pc L S C k w hx
    have h : (bif ea_ir (ep_cod P 0 pc) then ea_e1 K V S k w else match ea_1 P cal 0 pc L S C k w with
      | some (.inl (pc, L, S, C, k, w)) => ea_v P cal K V n pc L S C k w
      | some (.inr _) => false
      | none => match ea_br (ep_cod P 0 pc) pc S with
        | some (t, T) => ea_v P cal K V n t L T C k w && ea_v P cal K V n (pc + 3) L T C k w
        | none => false) = true := hx
    clear hx
    have hdec := (hpr.1 0 h0).2.2.2.1
    cases hi : ea_ir (ep_cod P 0 pc) with
    | true =>
      rw [hi] at h
      have hd := hdec _ _ (ea_ir_ok hi)
      simp only [cond_true] at h
      unfold ea_e1 at h
      split at h
      · rename_i x
        simp only [Bool.and_eq_true] at h
        obtain ⟨g1, g2, g3⟩ := h
        have hk := Nat.le_of_ble_eq_true g2
        have hw := Nat.le_of_ble_eq_true g3
        have hx1 : x = 1 := by
          have e1 : x.toUInt32.toNat = 1 := Nat.eq_of_beq_eq_true g1
          have e2 : x.toUInt32 = 1 := UInt32.toNat_inj.mp (by rw [e1]; rfl)
          rw [← Int32.toInt32_toUInt32 x, e2]; rfl
        refine ⟨hk, hw, fun p e s m args below meth c H locs ls st ws hA hcx hW hl hs => ?_⟩
        obtain ⟨_, _, rfl, ⟨y, rfl, hy⟩, hs1⟩ := ea_pop hs
        obtain rfl := ea_rl_nil hs1
        obtain rfl : y = x := hy
        subst hx1
        refine va_forget (fun q hq => hA _ (hW.2.2.1.2.2 q hq)) (W.widen hk hw ?_)
        exact ea_ret1 hcx.1 hcx.2.1 (hcx.2.2.2.2.2.2.1.trans hr0) hcx.2.2.2.2.2.1 hd
      · cases h
    | false =>
      rw [hi] at h
      simp only [cond_false] at h
      split at h
      · rename_i pc' L' S' C2 k' w' h1
        obtain ⟨j1, j2, j3⟩ : ea_goes P N D A sb l 0 pc L S C k w (pc', L', S', C2, k', w') := ea_1_ok hpr hst hcal h0 h1
        obtain ⟨i1, i2, i3⟩ := IH _ _ _ _ _ _ h
        dsimp only at j1 j2 j3
        refine ⟨Nat.le_trans j1 i1, Nat.le_trans j2 i2, fun p e s m args below meth c H locs ls st ws hA hcx hW hl hs => ?_⟩
        exact j3 K V p e s m args below meth c H locs ls st ws _ i1 i2 hcx hW hl hs (fun H' locs' ls' st' ws' hext' hW' hl' hs' => i3 p e s m args below meth c H' locs' ls' st' ws' hA hcx hW' hl' hs')
      · cases h
      · split at h
        · rename_i t T hbr
          simp only [Bool.and_eq_true] at h
          obtain ⟨cnd, off, a, hc, rfl, ht⟩ := ea_br_ok hbr
          have hd := hdec _ _ hc
          obtain ⟨i1, i2, i3⟩ := IH _ _ _ _ _ _ h.1
          obtain ⟨_, _, j3⟩ := IH _ _ _ _ _ _ h.2
          refine ⟨i1, i2, fun p e s m args below meth c H locs ls st ws hA hcx hW hl hs => ?_⟩
          obtain ⟨_, _, rfl, ⟨y, rfl, hy⟩, hs1⟩ := ea_pop hs
          have r1 := i3 p e s m args below meth c H locs ls _ ws hA hcx hW hl hs1
          have r2 := j3 p e s m args below meth c H locs ls _ ws hA hcx hW hl hs1
          cases cnd with
          | eq => exact lv_if_eq hcx.1 hcx.2.1 hd (ea_to_ok ht) (fun _ => r1) (fun _ => r2)
          | ne => exact lv_if_ne hcx.1 hcx.2.1 hd (ea_to_ok ht) (fun _ => r1) (fun _ => r2)
          | lt => exact lv_if_lt hcx.1 hcx.2.1 hd (ea_to_ok ht) (fun _ => r1) (fun _ => r2)
          | ge => exact lv_if_ge hcx.1 hcx.2.1 hd (ea_to_ok ht) (fun _ => r1) (fun _ => r2)
          | gt => exact lv_if_gt hcx.1 hcx.2.1 hd (ea_to_ok ht) (fun _ => r1) (fun _ => r2)
          | le => exact lv_if_le hcx.1 hcx.2.1 hd (ea_to_ok ht) (fun _ => r1) (fun _ => r2)
        · cases h
/-- more room -/
theorem ea_wider {p : Program} {l : Launch} {e : Env} {R R' : Room} {s : State} {m : MethodId} {args : Array Value} {below : List Frame} {meth : Method} {c : Code} {H : Heap} {locs : List Loc} {k w : Nat} {Q : State → Prop} {g : JFrame} (hR : R.frames ≤ R'.frames ∧ R.cells ≤ R'.cells ∧ R.slots ≤ R'.slots ∧ R.locals ≤ R'.locals) (kk : W p l e R s m args below meth c H locs k w Q g) : W p l e R' s m args below meth c H locs k w Q g := by
  intro T hT X
  have hr : s.hasRoom e.platform R = true := by
    have h := X.room
    simp only [State.hasRoom, Bool.and_eq_true, decide_eq_true_eq] at h ⊢
    obtain ⟨⟨⟨⟨h1, h2⟩, h3⟩, h4⟩, h5⟩ := h
    refine ⟨⟨⟨⟨by omega, ?_⟩, by omega⟩, by omega⟩, h5⟩
    omega
  exact kk T hT ⟨X.admits, X.cas, X.clock, X.frames, hr, X.hears, X.method, X.code, X.here, X.tail, X.warmed, X.limits, X.bytes, X.same⟩
/-- cuts of the script: one of them holds -/
theorem ea_bx_ok (f : List AI → Bool) (xs : Nat → Int32) : ∀ (hs : List (Nat × Int)) (X : List AI), (∀ j v, X[j]? = some v → ea_gi v (xs j)) → ea_bx f hs X = true → ∃ X', f X' = true ∧ X'.length = X.length ∧ ∀ j v, X'[j]? = some v → ea_gi v (xs j)
  | [], X, hX, h => ⟨X, h, rfl, hX⟩
  | q :: t, X, hX, h => by
    unfold ea_bx at h
    cases hf : f X with
    | true => exact ⟨X, hf, rfl, hX⟩
    | false =>
      rw [hf] at h
      simp only [cond_false] at h
      split at h
      · rename_i i hi
        rw [ea_nt_eq] at hi
        have hxi := hX _ _ hi
        have hb := ea_bd hxi
        cases hc : (decide (ea_lo i < q.2) && decide (q.2 ≤ ea_hi i)) with
        | true =>
          rw [hc] at h
          simp only [cond_true, Bool.and_eq_true] at h
          have key : ∀ u : AI, ea_gi u (xs q.1) → ∀ j v, (X.set q.1 u)[j]? = some v → ea_gi v (xs j) := by
            intro u hu j v hv
            rw [List.getElem?_set] at hv
            split at hv
            · rename_i e
              subst e
              split at hv
              · cases hv; exact hu
              · cases hv
            · exact hX j v hv
          by_cases hlt : (xs q.1).toInt < q.2
          · obtain ⟨X', g1, g2, g3⟩ := ea_bx_ok f xs t _ (key _ (ea_mk_ok hb.1 (by omega))) h.1
            exact ⟨X', g1, by rw [g2, List.length_set], g3⟩
          · obtain ⟨X', g1, g2, g3⟩ := ea_bx_ok f xs t _ (key _ (ea_mk_ok (by omega) hb.2)) h.2
            exact ⟨X', g1, by rw [g2, List.length_set], g3⟩
        | false =>
          rw [hc] at h
          simp only [cond_false] at h
          exact ea_bx_ok f xs t X hX h
      · cases h
