/-! THE ABSTRACT MACHINE AND THE MACHINE: what it runs, the machine runs -/
def ea_rm (P : EP) (m k w : Nat) : Room := { frames := ep_dep P m, cells := k, slots := w, locals := 100 * ep_dep P m }
def ea_good (P : EP) (N : EN) (D : va_G) (A : Nat → Prop) (sb : SB) (l : Launch) (mi pc : Nat) (L : List (Nat × AV)) (S : List AV) (C : List AC) (k w : Nat) (o : Option AV ⊕ Nat) (C' : List AC) (k1 w1 : Nat) : Prop :=
  k ≤ k1 ∧ w ≤ w1 ∧ ∀ (p : Program) (e : Env) (s : State) (m : MethodId) (args : Array Value) (below : List Frame) (meth : Method) (c : Code) (H : Heap) (locs : List Loc) (ls : Array Slot) (st : List Value) (ws ws0 : va_W),
    ea_cx P N D A sb mi p l s m args meth c → ea_W D (en_cl N) A s sb C ws H locs → ea_ext ws0 ws → ea_L (sb, ws.map Prod.fst) (ep_nls P mi) L ls → ea_rl (ea_gv (sb, ws.map Prod.fst)) S st →
    W p l e (ea_rm P mi k1 w1) s m args below meth c H locs k w (vx_MQ below (ea_Qc N D A sb ws0 o C') (ea_XC N D A sb ws0 o C') args s k1 w1 A) (F0 m pc ls st)
section EAM
variable {P : EP} {N : EN} {D : va_G} {A : Nat → Prop} {sb : SB} {l : Launch}
theorem ea_met (hpr : ea_pr P N) (hst : l.stackTraces = false) {mj : Nat} (h0 : 0 < mj) (hk : mj < en_k N) {as : List AV} {C C1 : List AC} {o : Option AV ⊕ Nat} {dk dw : Nat} (hg : ea_good P N D A sb l mj 0 (ea_ar 0 as) [] C 0 0 o C1 dk dw) (hwt : ea_wt as ≤ ep_nls P mj) {ws : va_W} {vs : List Value} (hvs : ea_rl (ea_gv (sb, ws.map Prod.fst)) as vs) :
    vx_Met l (en_y N mj) (ea_hw P N mj :: en_T N) (ea_rm P mj dk dw) (ea_Pc N P D A sb C ws vs) (ea_Qc N D A sb ws o C1) (ea_XC N D A sb ws o C1) dk dw A := by
  obtain ⟨hy, hyh, hwd, hdec, hini, hrk, hinit, hhc, hpool, hnl⟩ := hpr.1 mj hk
  have body : ∀ p e s m args below meth c s₁, BodyLoose p l (en_y N mj) (headSpec (ea_hw P N mj :: en_T N) (ea_rm P mj dk dw)) (en_b N mj) (ep_nls P mj) (en_r N mj) e s m args below meth c s₁ → c.maxLocals = ep_nls P mj → c.exceptionTable.toList = tableOf (ea_hs P mj) → ea_Pc N P D A sb C ws vs args s →
      W p l e (headSpec (ea_hw P N mj :: en_T N) (ea_rm P mj dk dw)).room s m args below meth c s.heap [] 0 0 (vx_MQ below (ea_Qc N D A sb ws o C1) (ea_XC N D A sb ws o C1) args s dk dw A) (entryFrame m args (ep_nls P mj)) := by
    intro p e s m args below meth c s₁ B hml ht hv
    obtain ⟨rfl, ⟨hP, hD, hH⟩, hG⟩ := hv
    have hts := atoms_spec (ws := ea_hw P N mj :: en_T N) B.pre
    have hl := lv_entry vs (n := ep_nls P mj) (by rw [ea_sl_ok hvs]; exact hwt)
    rw [lg_entry_eq]
    exact hg.2.2 p e s m _ below meth c s.heap [] _ [] ws ws ⟨B.exec, B.bytes, fun w hw => hts w (List.mem_cons_of_mem _ hw), findClass_of_methodNamed B.named, fun hi => (name_of_methodNamed B.named B.method).1.trans (hini hi), B.notSynchronized, B.returns, hml, ht, hG, hst, fun X hX => by rw [hpr.2.2.2.2.2.2.2.2 mj h0] at hX; cases hX⟩
      ⟨hP, hD, va_S.rf, hH⟩ (ea_ext_r ws) ⟨_, ea_ar_ok 0 hvs, hl⟩ trivial
  cases hh : ep_hdl P mj with
  | nil =>
    refine vx_ofW (cc := en_b N mj) (maxL := ep_nls P mj) (ret := en_r N mj) (ws' := en_T N) hy (by simp only [ea_hw, hh]) ?_
    intro p e s m args below meth c s₁ B hml ht hv
    refine body p e s m args below meth c s₁ B hml ?_ hv
    have : ea_hs P mj = [] := by unfold ea_hs; rw [hh]; rfl
    rw [this]
    exact List.eq_nil_iff_forall_not_mem.mpr (fun x hx => ht x hx)
  | cons q t =>
    have hwe : ea_hw P N mj = .codeWith (en_y N mj) (en_b N mj) (ep_nls P mj) (en_r N mj) (ea_hs P mj) := by simp only [ea_hw, hh]
    refine vx_ofWH (cc := en_b N mj) (maxL := ep_nls P mj) (ret := en_r N mj) (hh := ea_hs P mj) (ws' := en_T N) hy (by rw [hwe]) ?_
    intro p e s m args below meth c s₁ B hml hv
    refine body p e s m args below meth c s₁ B hml ?_ hv
    have hts := atoms_spec (ws := ea_hw P N mj :: en_T N) B.pre
    exact vx_table (x := en_y N mj) B (by have := hts _ List.mem_cons_self; rw [hwe] at this; exact this)
/-- a contract that never throws -/
theorem ea_ret {y : MethodName} {ws : List Jvm.Cond} {rm : Room} {Pc : Array Value → State → Prop} {Qc : Array Value → State → Outcome → State → Prop} {XC : String → State → State → Prop} {mc ms : Nat} {free : Addr → Prop} (hX : ∀ E a b, ¬ XC E a b) (h : vx_Met l y ws rm Pc Qc XC mc ms free) : Met l y ws rm Pc Qc mc ms free := by
  intro p e ha hc hk s m args below hf happ hP hK
  obtain ⟨n, o, h1, h2, h3, h4⟩ := h p e ha hc hk s m args below hf happ hP hK
  refine ⟨n, o, h1, h2, h3, ?_⟩
  rcases h4 with h4 | ⟨q, -, E, ce, L, hx, -⟩
  · exact h4
  · exact absurd hx (hX _ _ _)
theorem ea_runX {p : Program} {e : Env} {R : Room} {s : State} {m : MethodId} {args : Array Value} {below : List Frame} {meth : Method} {c : Code} {H : Heap} {locs : List Loc} {cells slots mc ms : Nat} {g : JFrame} {rest : List Value} {Qa : State → Outcome → State → Prop} {XC : String → State → State → Prop} {free : Addr → Prop}
    (h : va_Run p l e R s m args below meth c H locs cells slots mc ms g rest Qa free) : vx_Run p l e R s m args below meth c H locs cells slots mc ms g rest Qa XC free := fun T hT X => Or.inl (h T hT X)
variable {p : Program} {e : Env} {s : State} {m : MethodId} {args : Array Value} {below : List Frame} {meth : Method} {c : Code} {H : Heap} {locs : List Loc} {k w : Nat}
variable {pc : Nat} {ls : Array Slot} {st : List Value} {ws : va_W} {C : List AC}
/-- a callee's start, at the call -/
theorem ea_pre (hpr : ea_pr P N) {mi : Nat} (hcx : ea_cx P N D A sb mi p l s m args meth c) (hW : ea_W D (en_cl N) A s sb C ws H locs) (vs : List Value) : ∀ U : State, U.heap = H → s.WarmedH U.vm → ea_Pc N P D A sb C ws vs vs.toArray U := by
  intro U hU hWU
  obtain ⟨hP, hD, hS, hH⟩ := hW
  obtain ⟨-, -, -, -, -, -, -, -, -, hG, -⟩ := hcx
  exact ⟨rfl, ⟨by rw [hU]; exact hP, hD, ea_H_moved hWU.alike hH⟩, ea_G_step hpr hWU (by rw [hU]; exact hS.1) (fun q h1 h2 => by rw [hU]; exact hS.2.1 q h1 h2) hG⟩
theorem ea_words (hpr : ea_pr P N) {mj : Nat} (hk : mj < en_k N) (hts : ∀ w ∈ en_T N, w.before args s = true) : ∀ w ∈ ea_hw P N mj :: en_T N, ∀ (a' : Array Value) (U : State), s.WarmedH U.vm → w.before a' U = true := by
  intro w hw a' U hWU
  have hm : w ∈ en_T N := by
    rcases List.mem_cons.mp hw with rfl | h
    · exact (hpr.1 mj hk).2.2.1
    · exact h
  exact word_at hWU (good_of_word (hpr.2.2.1 w hm)) (hts w hm)
theorem ea_parm {y : MethodName} {n : Nat} (h : ea_pn y n) : ∀ sig, parseMethodDescriptor y.desc = some sig → n = sig.parameters.length := by
  intro sig hs
  unfold ea_pn at h
  rw [hs] at h
  exact (Option.some.inj h).symm
theorem ea_room {mi mj k1 w1 dk dw : Nat} (hpr : ea_pr P N) (hk : mj < en_k N) (hd : ep_dep P mj < ep_dep P mi) : (ea_rm P mj dk dw).frames + 1 ≤ (ea_rm P mi k1 w1).frames ∧ 8 + (ep_nls P mj + 11) + (ea_rm P mj dk dw).locals ≤ (ea_rm P mi k1 w1).locals := by
  have hn : ep_nls P mj ≤ 80 := (hpr.1 mj hk).2.2.2.2.2.2.2.2.2
  refine ⟨hd, ?_⟩
  show 8 + (ep_nls P mj + 11) + 100 * ep_dep P mj ≤ 100 * ep_dep P mi
  omega
theorem ea_split {S : List AV} {st : List Value} (hs : ea_rl (ea_gv (sb, ws.map Prod.fst)) S st) (n : Nat) (hn : n ≤ S.length) : st = (st.take n).reverse.reverse ++ st.drop n ∧ (st.take n).reverse.length = n ∧ ea_rl (ea_gv (sb, ws.map Prod.fst)) (S.take n).reverse (st.take n).reverse ∧ ea_rl (ea_gv (sb, ws.map Prod.fst)) (S.drop n) (st.drop n) := by
  have hl := ea_rl_len hs
  obtain ⟨h1, h2⟩ := ea_rl_take n hs
  refine ⟨by rw [List.reverse_reverse, List.take_append_drop], ?_, ea_rl_rev h1, h2⟩
  rw [List.length_reverse, List.length_take]
  omega
set_option maxHeartbeats 4000000 in
/-- a call comes back, or throws -/
theorem ea_run (hpr : ea_pr P N) {mi mj x k1 w1 dk dw : Nat} (hmi : mi < en_k N) {i : Instr} {S as T : List AV} {o : Option AV ⊕ Nat} {C1 : List AC} (hcx : ea_cx P N D A sb mi p l s m args meth c) (hW : ea_W D (en_cl N) A s sb C ws H locs) {L : List (Nat × AV)} (hl : ea_L (sb, ws.map Prod.fst) (ep_nls P mi) L ls) (hs : ea_rl (ea_gv (sb, ws.map Prod.fst)) S st)
    (hi : i = .invokestatic x ∨ i = .invokespecial x ∨ i = .invokevirtual x) (hdg : decode (en_b N mi) pc = .ok (i, 3)) {b : Bool} (hc : ea_cl (ep_own P) i (ep_pl P mi x) S C = some (mj, as, T, b)) (hob : b = false → ∃ ov, o = .inl ov) (hd : ep_dep P mj < ep_dep P mi) (hw8 : ea_wt T ≤ 8) (hwa : ea_wt as ≤ ep_nls P mj) (hkk : k + dk ≤ k1 ∧ w + dw ≤ w1)
    (hg : 0 < mj → mj < en_k N → ea_good P N D A sb l mj 0 (ea_ar 0 as) [] C 0 0 o C1 dk dw) :
    ∃ (rest : List Value) (a : Array Value), ea_rl (ea_gv (sb, ws.map Prod.fst)) T rest ∧ vx_Run p l e (ea_rm P mi k1 w1) s m args below meth c H locs k w dk dw (F0 m pc ls st) rest (ea_Qc N D A sb ws o C1 a) (ea_XC N D A sb ws o C1) A := by
  obtain ⟨hexec, hb, hts, hown, hini, hlocks, hret, hml, hex, hG, hst, hX⟩ := id hcx
  have hpool := (hpr.1 mi hmi).2.2.2.2.2.2.2.2.1
  have hsz : (F0 m pc ls st).locals.size = ep_nls P mi := by obtain ⟨vl, -, h⟩ := hl; exact h.1
  have fix : CallFix p m c (en_b N mi) (ep_nls P mi) s args (en_T N) (en_y N mi).cls := ⟨hexec, hb, hml, hown, hts⟩
  unfold ea_cl at hc
  split at hc
  · -- a static method
    rename_i z mj' n hr
    obtain rfl : z = x := by rcases hi with h | h | h <;> cases h; rfl
    cases hbl : Nat.ble n S.length with
    | false => rw [hbl] at hc; cases hc
    | true =>
      rw [hbl] at hc
      cases hc
      obtain ⟨h0, hk, hlink, hstat, hpn⟩ := hpool _ _ hr
      obtain ⟨hy, hyh, hwd, hdec, hini', hrk, hinit, hhc, -, hnl⟩ := hpr.1 mj hk
      obtain ⟨e1, e2, e3, e4⟩ := ea_split hs n (Nat.le_of_ble_eq_true hbl)
      have hM := ea_met hpr hst h0 hk (hg h0 hk) hwa e3
      refine ⟨st.drop n, (st.take n).reverse.toArray, e4, ?_⟩
      have hw' := Nat.le_trans (Nat.le_of_eq (ea_wt_ok e4)) hw8
      cases hh : ep_hdl P mj with
      | nil =>
        have hwe : ea_hw P N mj = .code (en_y N mj) (en_b N mj) (ep_nls P mj) (en_r N mj) := by simp only [ea_hw, hh]
        exact vx_runS (As := (st.take n).reverse) fix hM ⟨⟨rfl, rfl, (ea_room hpr hk hd).1, (ea_room hpr hk hd).2, ea_words hpr hk hts, by rw [hwe]; exact List.mem_cons_self, by rw [← hwe]; exact hts _ hwd, hts _ hinit, hyh, ea_parm hpn, hts _ hlink⟩, hts _ hstat⟩
          ⟨ea_blind hpr, ea_pre hpr hcx hW _⟩ rfl e2 hsz e1 (lv_room hw') hdg hkk
      | cons q t =>
        have hwe : ea_hw P N mj = .codeWith (en_y N mj) (en_b N mj) (ep_nls P mj) (en_r N mj) (ea_hs P mj) := by simp only [ea_hw, hh]
        exact vx_runSX (As := (st.take n).reverse) fix hM ⟨⟨rfl, rfl, (ea_room hpr hk hd).1, (ea_room hpr hk hd).2, ea_words hpr hk hts, by rw [hwe]; exact List.mem_cons_self⟩, by rw [← hwe]; exact hts _ hwd, hts _ hinit, hyh, ea_parm hpn, hts _ hlink, hts _ hstat⟩
          ⟨ea_blind hpr, ea_pre hpr hcx hW _⟩ rfl e2 hsz e1 (lv_room hw') hdg hkk
  · -- a static method of a nest mate
    rename_i z mj' n hr
    obtain rfl : z = x := by rcases hi with h | h | h <;> cases h; rfl
    cases hbl : Nat.ble n S.length with
    | false => rw [hbl] at hc; cases hc
    | true =>
      rw [hbl] at hc
      cases hc
      obtain ⟨ov, rfl⟩ := hob rfl
      obtain ⟨h0, hk, hh, ⟨host, hnest⟩, hstat, hpn⟩ := hpool _ _ hr
      obtain ⟨hy, hyh, hwd, hdec, hini', hrk, hinit, hhc, -, hnl⟩ := hpr.1 mj hk
      obtain ⟨e1, e2, e3, e4⟩ := ea_split hs n (Nat.le_of_ble_eq_true hbl)
      have hM := ea_ret (fun _ _ _ h => h) (ea_met hpr hst h0 hk (hg h0 hk) hwa e3)
      refine ⟨st.drop n, (st.take n).reverse.toArray, e4, ?_⟩
      have hw' := Nat.le_trans (Nat.le_of_eq (ea_wt_ok e4)) hw8
      have hwe : ea_hw P N mj = .code (en_y N mj) (en_b N mj) (ep_nls P mj) (en_r N mj) := by simp only [ea_hw, hh]
      exact ea_runX (va_runSN (As := (st.take n).reverse) (host := host) fix hM ⟨⟨⟨rfl, rfl, (ea_room hpr hk hd).1, (ea_room hpr hk hd).2, ea_words hpr hk hts, by rw [hwe]; exact List.mem_cons_self⟩, by rw [← hwe]; exact hts _ hwd, hts _ hinit, hyh, ea_parm hpn, va_Nw.use rfl (hG.2.1 _ hnest)⟩, hts _ hstat, trivial⟩
        ⟨ea_blind hpr, ea_pre hpr hcx hW _⟩ rfl e2 hsz e1 (lv_room hw') hdg hkk)
  · -- a constructor
    rename_i z mj' n hr
    obtain rfl : z = x := by rcases hi with h | h | h <;> cases h; rfl
    split at hc
    · rename_i aa T' hdr
      cases hc
      obtain ⟨ov, rfl⟩ := hob rfl
      obtain ⟨h0, hk, hh, hlink, hinst, hnm, hrn, hpn⟩ := hpool _ _ hr
      obtain ⟨hy, hyh, hwd, hdec, hini', hrk, hinit, hhc, -, hnl⟩ := hpr.1 mj hk
      have hle : n ≤ S.length := by
        have := congrArg List.length hdr
        rw [List.length_drop, List.length_cons] at this
        omega
      obtain ⟨e1, e2, e3, e4⟩ := ea_split hs n hle
      rw [hdr] at e4
      obtain ⟨_, rest, hst4, ⟨bb, rfl, hbb⟩, e5⟩ := ea_pop e4
      rw [hst4] at e1
      have hM := ea_ret (fun _ _ _ h => h) (ea_met (vs := .ref bb :: (st.take n).reverse) hpr hst h0 hk (hg h0 hk) hwa ⟨⟨bb, rfl, hbb⟩, e3⟩)
      refine ⟨rest, (Value.ref bb :: (st.take n).reverse).toArray, e5, ?_⟩
      have hw' := Nat.le_trans (Nat.le_of_eq (ea_wt_ok e5)) hw8
      have hwe : ea_hw P N mj = .code (en_y N mj) (en_b N mj) (ep_nls P mj) none := by simp only [ea_hw, hh, hrn]
      exact ea_runX (va_runI (As := (st.take n).reverse) (b := bb) fix hM ⟨⟨rfl, rfl, (ea_room hpr hk hd).1, (ea_room hpr hk hd).2, ea_words hpr hk hts, by rw [hwe]; exact List.mem_cons_self, by rw [← hwe]; exact hts _ hwd, hts _ hinit, hyh, ea_parm hpn, hts _ hlink⟩, hnm, hts _ hinst⟩ ⟨ea_blind hpr, ea_pre hpr hcx hW _⟩ rfl e2 hsz e1 (lv_room hw') hdg hkk)
    · cases hc
  · -- a constructor of a nest mate
    rename_i z mj' n hr
    obtain rfl : z = x := by rcases hi with h | h | h <;> cases h; rfl
    split at hc
    · rename_i aa T' hdr
      cases hc
      obtain ⟨ov, rfl⟩ := hob rfl
      obtain ⟨h0, hk, hh, ⟨host, hnest⟩, hinst, hnm, hrn, hpn⟩ := hpool _ _ hr
      obtain ⟨hy, hyh, hwd, hdec, hini', hrk, hinit, hhc, -, hnl⟩ := hpr.1 mj hk
      have hle : n ≤ S.length := by
        have := congrArg List.length hdr
        rw [List.length_drop, List.length_cons] at this
        omega
      obtain ⟨e1, e2, e3, e4⟩ := ea_split hs n hle
      rw [hdr] at e4
      obtain ⟨_, rest, hst4, ⟨bb, rfl, hbb⟩, e5⟩ := ea_pop e4
      rw [hst4] at e1
      have hM := ea_ret (fun _ _ _ h => h) (ea_met (vs := .ref bb :: (st.take n).reverse) hpr hst h0 hk (hg h0 hk) hwa ⟨⟨bb, rfl, hbb⟩, e3⟩)
      refine ⟨rest, (Value.ref bb :: (st.take n).reverse).toArray, e5, ?_⟩
      have hw' := Nat.le_trans (Nat.le_of_eq (ea_wt_ok e5)) hw8
      have hwe : ea_hw P N mj = .code (en_y N mj) (en_b N mj) (ep_nls P mj) none := by simp only [ea_hw, hh, hrn]
      exact ea_runX (va_runIN (As := (st.take n).reverse) (b := bb) (host := host) fix hM ⟨⟨⟨rfl, rfl, (ea_room hpr hk hd).1, (ea_room hpr hk hd).2, ea_words hpr hk hts, by rw [hwe]; exact List.mem_cons_self⟩, by rw [← hwe]; exact hts _ hwd, hts _ hinit, hyh, ea_parm hpn, va_Nw.use rfl (hG.2.1 _ hnest)⟩, hnm, hts _ hinst⟩ ⟨ea_blind hpr, ea_pre hpr hcx hW _⟩ rfl e2 hsz e1 (lv_room hw') hdg hkk)
    · cases hc
  · -- a method of an object
    rename_i z mj' n hr
    obtain rfl : z = x := by rcases hi with h | h | h <;> cases h; rfl
    split at hc
    · rename_i aa T' hdr
      split at hc
      · rename_i o1 ho1
        cases hbq : Nat.beq o1.1 (ep_own P mj') with
        | false => rw [hbq] at hc; cases hc
        | true =>
          rw [hbq] at hc
          cases hc
          obtain ⟨h0, hk, hh, hlink, hinst, hsel, ⟨q, hq1, hq2⟩, hpn⟩ := hpool _ _ hr
          obtain ⟨hy, hyh, hwd, hdec, hini', hrk, hinit, hhc, -, hnl⟩ := hpr.1 mj hk
          have hle : n ≤ S.length := by
            have := congrArg List.length hdr
            rw [List.length_drop, List.length_cons] at this
            omega
          obtain ⟨e1, e2, e3, e4⟩ := ea_split hs n hle
          rw [hdr] at e4
          obtain ⟨_, rest, hst4, ⟨bb, rfl, hbb⟩, e5⟩ := ea_pop e4
          rw [hst4] at e1
          have hM := ea_met (vs := .ref bb :: (st.take n).reverse) hpr hst h0 hk (hg h0 hk) hwa ⟨⟨bb, rfl, hbb⟩, e3⟩
          refine ⟨rest, (Value.ref bb :: (st.take n).reverse).toArray, e5, ?_⟩
          have hw' := Nat.le_trans (Nat.le_of_eq (ea_wt_ok e5)) hw8
          have hwe : ea_hw P N mj = .code (en_y N mj) (en_b N mj) (ep_nls P mj) (en_r N mj) := by simp only [ea_hw, hh]
          have hrecv : ∃ cellB : Cell, H[bb]? = some cellB ∧ cellB.vm.isStatics = false ∧ s.vm.findClass (en_y N mj).cls = some cellB.cls := by
            obtain ⟨hP, hD, hS, hH⟩ := hW
            obtain ⟨a1, E, g1, g2, g3⟩ := ea_H_get hH ho1
            obtain rfl : bb = a1 := Option.some.inj (hbb.symm.trans g3)
            match E, g1, g2 with
            | .inr (ci', vs'), g1, ⟨e9, _⟩ =>
              obtain rfl : ci' = ep_own P mj := e9.symm.trans (Nat.eq_of_beq_eq_true hbq)
              rw [← hq2]
              exact va_recv hG.1 hP hq1 g1
          exact vx_runV (As := (st.take n).reverse) (b := bb) (C := (en_y N mj).cls) fix hM ⟨⟨rfl, rfl, (ea_room hpr hk hd).1, (ea_room hpr hk hd).2, ea_words hpr hk hts, by rw [hwe]; exact List.mem_cons_self, by rw [← hwe]; exact hts _ hwd, hts _ hinit, hyh, ea_parm hpn, hts _ hlink⟩, hts _ hinst, hts _ hsel⟩
            ⟨ea_blind hpr, hrecv, ea_pre hpr hcx hW _⟩ rfl e2 hsz e1 (lv_room hw') hdg hkk
      · cases hc
    · cases hc
  · -- a method of a String
    rename_i z mj' n hr
    obtain rfl : z = x := by rcases hi with h | h | h <;> cases h; rfl
    split at hc
    · rename_i q9 T' hdr
      cases hbq : Nat.beq ((q9 + 1) % 2) 0 with
      | false => rw [hbq] at hc; cases hc
      | true =>
        rw [hbq] at hc
        cases hc
        obtain ⟨h0, hk, hh, hlink, hinst, hsel, hq2, hpn⟩ := hpool _ _ hr
        obtain ⟨hy, hyh, hwd, hdec, hini', hrk, hinit, hhc, -, hnl⟩ := hpr.1 mj hk
        have hle : n ≤ S.length := by
          have := congrArg List.length hdr
          rw [List.length_drop, List.length_cons] at this
          omega
        obtain ⟨e1, e2, e3, e4⟩ := ea_split hs n hle
        rw [hdr] at e4
        obtain ⟨v4, rest, hst4, hv4, e5⟩ := ea_pop e4
        obtain ⟨rfl, hq9⟩ : v4 = .ref (sx_ad sb (q9 + 1)) ∧ (q9 + 1) / 2 ∈ sb.2.2.2.1 := hv4
        rw [hst4] at e1
        have hM := ea_met (vs := .ref (sx_ad sb (q9 + 1)) :: (st.take n).reverse) hpr hst h0 hk (hg h0 hk) hwa ⟨⟨rfl, hq9⟩, e3⟩
        refine ⟨rest, (Value.ref (sx_ad sb (q9 + 1)) :: (st.take n).reverse).toArray, e5, ?_⟩
        have hw' := Nat.le_trans (Nat.le_of_eq (ea_wt_ok e5)) hw8
        have hwe : ea_hw P N mj = .code (en_y N mj) (en_b N mj) (ep_nls P mj) (en_r N mj) := by simp only [ea_hw, hh]
        have hrecv : ∃ cellB : Cell, H[sx_ad sb (q9 + 1)]? = some cellB ∧ cellB.vm.isStatics = false ∧ s.vm.findClass (en_y N mj).cls = some cellB.cls := by
          rw [(sx_even (sb := sb) hbq).1, hq2]
          obtain ⟨cell, c1, c2, c3, -⟩ := ((hG.2.2.2.2.2.2.2.2.1).2 _ hq9).1.kept hW.2.2.1.2.1
          exact ⟨cell, c1, c2, c3⟩
        exact vx_runV (As := (st.take n).reverse) (b := sx_ad sb (q9 + 1)) (C := (en_y N mj).cls) fix hM ⟨⟨rfl, rfl, (ea_room hpr hk hd).1, (ea_room hpr hk hd).2, ea_words hpr hk hts, by rw [hwe]; exact List.mem_cons_self, by rw [← hwe]; exact hts _ hwd, hts _ hinit, hyh, ea_parm hpn, hts _ hlink⟩, hts _ hinst, hts _ hsel⟩
          ⟨ea_blind hpr, hrecv, ea_pre hpr hcx hW _⟩ rfl e2 hsz e1 (lv_room hw') hdg hkk
    · cases hc
  · cases hc
end EAM
