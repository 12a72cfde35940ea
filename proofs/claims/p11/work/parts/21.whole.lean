/-! THE ABSTRACT MACHINE AND THE MACHINE: whatever it runs to its end, the machine runs so -/
/-- one instruction goes on: the machine does so -/
def ea_goes (P : EP) (N : EN) (D : va_G) (A : Nat → Prop) (sb : SB) (l : Launch) (mi pc : Nat) (L : List (Nat × AV)) (S : List AV) (C : List AC) (k w : Nat) (f : AF) : Prop :=
  k ≤ f.2.2.2.2.1 ∧ w ≤ f.2.2.2.2.2 ∧ ∀ (k1 w1 : Nat) (p : Program) (e : Env) (s : State) (m : MethodId) (args : Array Value) (below : List Frame) (meth : Method) (c : Code) (H : Heap) (locs : List Loc) (ls : Array Slot) (st : List Value) (ws : va_W) (Q : State → Prop), f.2.2.2.2.1 ≤ k1 → f.2.2.2.2.2 ≤ w1 →
    ea_cx P N D A sb mi p l s m args meth c → ea_W D (en_cl N) A s sb C ws H locs → ea_L (sb, ws.map Prod.fst) (ep_nls P mi) L ls → ea_rl (ea_gv (sb, ws.map Prod.fst)) S st →
    (∀ (H' : Heap) (locs' : List Loc) (ls' : Array Slot) (st' : List Value) (ws' : va_W), ea_ext ws ws' → ea_W D (en_cl N) A s sb f.2.2.2.1 ws' H' locs' → ea_L (sb, ws'.map Prod.fst) (ep_nls P mi) f.2.1 ls' → ea_rl (ea_gv (sb, ws'.map Prod.fst)) f.2.2.1 st' → W p l e (ea_rm P mi k1 w1) s m args below meth c H' locs' f.2.2.2.2.1 f.2.2.2.2.2 Q (F0 m f.1 ls' st')) →
    W p l e (ea_rm P mi k1 w1) s m args below meth c H locs k w Q (F0 m pc ls st)
def ea_one (P : EP) (N : EN) (D : va_G) (A : Nat → Prop) (sb : SB) (l : Launch) (mi pc : Nat) (L : List (Nat × AV)) (S : List AV) (C : List AC) (k w : Nat) (x : AF ⊕ AR) : Prop := match x with
  | .inl f => ea_goes P N D A sb l mi pc L S C k w f
  | .inr r => ea_good P N D A sb l mi pc L S C k w r.1 r.2.1 r.2.2.1 r.2.2.2
section EAW
variable {P : EP} {N : EN} {D : va_G} {A : Nat → Prop} {sb : SB} {l : Launch}
theorem ea_good_call (hpr : ea_pr P N) (hst : l.stackTraces = false) {ih : Nat → Nat → List (Nat × AV) → List AV → List AC → Nat → Nat → Option AR}
    (IH : ∀ (mi pc : Nat) (L : List (Nat × AV)) (S : List AV) (C : List AC) (k w : Nat) (o : Option AV ⊕ Nat) (C' : List AC) (k1 w1 : Nat), mi < en_k N → ih mi pc L S C k w = some (o, C', k1, w1) → ea_good P N D A sb l mi pc L S C k w o C' k1 w1)
    {mi pc x k w : Nat} (hmi : mi < en_k N) {i : Instr} (hi : i = .invokestatic x ∨ i = .invokespecial x ∨ i = .invokevirtual x) (hdg : decode (en_b N mi) pc = .ok (i, 3)) {L : List (Nat × AV)} {S : List AV} {C : List AC} {z : AF ⊕ AR}
    (h : ea_q P ih mi pc L S C k w i (ep_pl P mi x) = some z) : ea_one P N D A sb l mi pc L S C k w z := by
  unfold ea_q at h
  split at h
  · rename_i mj as T b hc
    cases hb : (Nat.blt (ep_dep P mj) (ep_dep P mi) && (Nat.ble (ea_wt T) 8 && Nat.ble (ea_wt as) (ep_nls P mj))) with
    | false => rw [hb] at h; cases h
    | true =>
      rw [hb] at h
      simp only [cond_true] at h
      simp only [Bool.and_eq_true] at hb
      obtain ⟨hd0, hw8, hwa⟩ := hb
      have hd : ep_dep P mj < ep_dep P mi := Nat.le_of_ble_eq_true hd0
      have hw8 := Nat.le_of_ble_eq_true hw8
      have hwa := Nat.le_of_ble_eq_true hwa
      split at h
      · -- it comes back
        rename_i v C1 dk dw hcal
        rw [ea_fn_eq, ea_fn_eq, ea_fn_eq] at h
        cases h
        refine ⟨Nat.le_add_right _ _, Nat.le_add_right _ _, fun k1 w1 p e s m args below meth c H locs ls st ws Q hk1 hw1 hcx hW hl hs kk => ?_⟩
        obtain ⟨rest, a, hrest, hrun⟩ := ea_run (e := e) (below := below) (k := k) (w := w) (k1 := k1) (w1 := w1) hpr hmi hcx hW hl hs hi hdg hc (fun _ => ⟨v, rfl⟩) hd hw8 hwa ⟨hk1, hw1⟩ (fun h0 hk => IH _ _ _ _ _ _ _ _ _ _ _ hk hcal)
        refine ea_after hrun hW.2.2.1 (fun ov ho ws' v' H1 locs1 hW1 hext1 hrv => ?_) (fun ce ho => by cases ho)
        cases ho
        refine kk H1 locs1 ls _ ws' hext1 hW1 (ea_L_mono (ea_ext_p hext1 sb) hl) ?_
        have hrest' := ea_rl_mono (fun _ _ h => ea_gv_mono (ea_ext_p hext1 sb) h) hrest
        cases v with
        | none =>
          obtain rfl : v' = none := hrv
          exact hrest'
        | some a =>
          obtain ⟨x, rfl, hx⟩ := hrv
          exact ⟨hx, hrest'⟩
      · -- it throws
        rename_i ce C1 dk dw hcal
        cases b with
        | false => cases h
        | true =>
          simp only [cond_true] at h
          rw [ea_fn_eq, ea_fn_eq] at h
          obtain ⟨hy, hyh, hwd, hdec, hini', hrk, hinit, hhc, hpool, hnl⟩ := hpr.1 mi hmi
          split at h
          · -- caught here
            rename_i hpc hhd
            cases h
            refine ⟨Nat.le_add_right _ _, Nat.le_add_right _ _, fun k1 w1 p e s m args below meth c H locs ls st ws Q hk1 hw1 hcx hW hl hs kk => ?_⟩
            obtain ⟨rest, a, hrest, hrun⟩ := ea_run (e := e) (below := below) (k := k) (w := w) (k1 := k1) (w1 := w1) hpr hmi hcx hW hl hs hi hdg hc (fun q => by cases q) hd hw8 hwa ⟨hk1, hw1⟩ (fun h0 hk => IH _ _ _ _ _ _ _ _ _ _ _ hk hcal)
            refine ea_after hrun hW.2.2.1 (fun ov ho => by cases ho) (fun ce' ho ws' q cell H1 locs1 hW1 hext1 hq hv hcl => ?_)
            cases ho
            obtain ⟨hexec, hb, hts, hown, hini, hlocks, hret, hml, hex, hG, hst', hX⟩ := id hcx
            obtain ⟨pre, r, suf, e1, e2, e3, e4, e5, e6⟩ := ea_hd_some hhd
            have hr : r ∈ ep_hdl P mi := by rw [e1]; simp
            refine ec_catch (own := (en_y N mi).cls) (name := en_x N r.2.2.2.1) hown (tableOf (pre.map (fun q => (q.1, q.2.1, q.2.2.1, q.2.2.2.2)))) ⟨r.1, r.2.1, r.2.2.1, r.2.2.2.2⟩ (tableOf (suf.map (fun q => (q.1, q.2.1, q.2.2.1, q.2.2.2.2)))) ?_ ?_ ?_ (hhc r hr).1 (hts _ (hhc r hr).2) (va_Nw.use rfl (hG.2.1 _ (hpr.2.2.2.2.2.2.2.1 _ _ e5))) hq hv hcl ?_
            · rw [hex]
              unfold ea_hs
              rw [e1]
              simp [tableOf]
            · intro z hz
              simp only [tableOf, List.map_map, List.mem_map, Function.comp] at hz
              obtain ⟨y, hy1, rfl⟩ := hz
              by_cases hcov : y.1 ≤ pc ∧ pc < y.2.1
              · have hno : ep_sub P ce y.2.2.2.1 = false := by
                  cases hsb : ep_sub P ce y.2.2.2.1 with
                  | false => rfl
                  | true => exact absurd ⟨hcov.1, hcov.2, hsb⟩ (e2 y hy1)
                have hy2 : y ∈ ep_hdl P mi := by rw [e1]; exact List.mem_append_left _ hy1
                exact Or.inr ⟨(hhc y hy2).1, en_x N y.2.2.2.1, hts _ (hhc y hy2).2, hG.2.2.2.2.1 _ _ hno⟩
              · refine Or.inl ?_
                simp only [covers, Bool.and_eq_false_iff, decide_eq_false_iff_not]
                by_cases h1 : y.1 ≤ pc
                · exact Or.inr (fun h2 => hcov ⟨h1, h2⟩)
                · exact Or.inl h1
            · simp [covers, e3, e4]
            · dsimp only
              rw [e6]
              exact kk H1 locs1 ls _ ws' hext1 hW1 (ea_L_mono (ea_ext_p hext1 sb) hl) ⟨⟨q, rfl⟩, trivial⟩
          · -- not caught here
            rename_i hhd
            cases h
            refine ⟨Nat.le_add_right _ _, Nat.le_add_right _ _, fun p e s m args below meth c H locs ls st ws ws0 hcx hW hext hl hs => ?_⟩
            obtain ⟨rest, a, hrest, hrun⟩ := ea_run (e := e) (below := below) (k := k) (w := w) (k1 := k + dk) (w1 := w + dw) hpr hmi hcx hW hl hs hi hdg hc (fun q => by cases q) hd hw8 hwa ⟨by omega, by omega⟩ (fun h0 hk => IH _ _ _ _ _ _ _ _ _ _ _ hk hcal)
            refine ea_after hrun hW.2.2.1 (fun ov ho => by cases ho) (fun ce' ho ws' q cell H1 locs1 hW1 hext1 hq hv hcl => ?_)
            cases ho
            obtain ⟨hexec, hb, hts, hown, hini, hlocks, hret, hml, hex, hG, hst', hX⟩ := id hcx
            obtain ⟨hP1, hD1, hS1, hH1⟩ := hW1
            refine ec_out (own := (en_y N mi).cls) hown hlocks ?_ hq hv hcl (fun t ht hal => ⟨ws', rfl, ea_ext_t hext hext1, ⟨by rw [ht]; exact hP1, hD1, ea_H_moved hal hH1⟩, hS1.F ht⟩) hS1.2.2 (Nat.le_refl _) (Nat.le_refl _)
            intro z hz
            rw [hex] at hz
            simp only [ea_hs, tableOf, List.map_map, List.mem_map, Function.comp] at hz
            obtain ⟨y, hy1, rfl⟩ := hz
            by_cases hcov : y.1 ≤ pc ∧ pc < y.2.1
            · have hno : ep_sub P ce y.2.2.2.1 = false := by
                cases hsb : ep_sub P ce y.2.2.2.1 with
                | false => rfl
                | true => exact absurd ⟨hcov.1, hcov.2, hsb⟩ (ea_hd_none hhd y hy1)
              exact Or.inr ⟨(hhc y hy1).1, en_x N y.2.2.2.1, hts _ (hhc y hy1).2, hG.2.2.2.2.1 _ _ hno⟩
            · refine Or.inl ?_
              simp only [covers, Bool.and_eq_false_iff, decide_eq_false_iff_not]
              by_cases h1 : y.1 ≤ pc
              · exact Or.inr (fun h2 => hcov ⟨h1, h2⟩)
              · exact Or.inl h1
      · cases h
  · cases h
set_option maxHeartbeats 4000000 in
theorem ea_1_ok (hpr : ea_pr P N) (hst : l.stackTraces = false) {ih : Nat → Nat → List (Nat × AV) → List AV → List AC → Nat → Nat → Option AR}
    (IH : ∀ (mi pc : Nat) (L : List (Nat × AV)) (S : List AV) (C : List AC) (k w : Nat) (o : Option AV ⊕ Nat) (C' : List AC) (k1 w1 : Nat), mi < en_k N → ih mi pc L S C k w = some (o, C', k1, w1) → ea_good P N D A sb l mi pc L S C k w o C' k1 w1)
    {mi pc : Nat} {L : List (Nat × AV)} {S : List AV} {C : List AC} {k w : Nat} {z : AF ⊕ AR} (hmi : mi < en_k N) (h : ea_1 P ih mi pc L S C k w = some z) : ea_one P N D A sb l mi pc L S C k w z := by
  obtain ⟨hy, hyh, hwd, hdec, hini', hrk, hinit, hhc, hpool, hnl⟩ := hpr.1 mi hmi
  unfold ea_1 at h
  split at h
  · cases h
  · rename_i i len hcod
    have hdg := hdec _ _ hcod
    cases hle : (Nat.beq (ea_len i) 0 || Nat.beq (ea_len i) len) with
    | false => rw [hle] at h; cases h
    | true =>
      rw [hle] at h
      simp only [cond_true] at h
      have hlen : ea_len i = 0 ∨ ea_len i = len := by
        rcases Bool.or_eq_true _ _ ▸ hle with q | q
        · exact Or.inl (Nat.eq_of_beq_eq_true q)
        · exact Or.inr (Nat.eq_of_beq_eq_true q)
      split at h
      · -- no cell is touched
        rename_i pc' L' S' hp
        rw [ea_fn_eq, ea_fL_eq, ea_fS_eq] at h
        cases h
        refine ⟨Nat.le_refl _, Nat.le_refl _, fun k1 w1 p e s m args below meth c H locs ls st ws Q hk1 hw1 hcx hW hl hs kk => ?_⟩
        exact ea_p_ok hcx.1 hcx.2.1 hdg hlen hp hl hs (fun ls' st' hl' hs' => kk H locs ls' st' ws (ea_ext_r ws) hW hl' hs')
      · split at h
        · -- cells
          rename_i pc' S' C1 dk dw hp
          rw [ea_fn_eq, ea_fS_eq, ea_fn_eq, ea_fn_eq] at h
          obtain rfl : Sum.inl (pc', L, S', C1.getD C, k + dk, w + dw) = z := by
            cases C1 with
            | none => exact Option.some.inj h
            | some C1 => dsimp only at h; rw [ea_fL_eq] at h; exact Option.some.inj h
          refine ⟨Nat.le_add_right _ _, Nat.le_add_right _ _, fun k1 w1 p e s m args below meth c H locs ls st ws Q hk1 hw1 hcx hW hl hs kk => ?_⟩
          obtain ⟨hexec, hb, hts, hown, hini, hlocks, hret, hml, hex, hG, hst', hX⟩ := id hcx
          exact ea_h_ok hexec hb hts hown hini hG.1 hG.2.2.2.2.2.2.2.1 hpr.2.1 (fun x r hr => ea_po_of hG (hpool x r hr)) hpr.2.2.2.2.2.2.1 hX (fun x r hr => ea_pz_of hG (hpool x r hr)) hG.2.2.2.2.2.2.2.2.1 hdg hlen hp hW hl hs hk1 hw1 (fun st' ws' H' locs' hext' hW' hl' hs' => kk H' locs' ls st' ws' hext' hW' hl' hs')
        · split at h
          · -- the end
            rename_i v hv
            cases h
            exact ⟨Nat.le_refl _, Nat.le_refl _, fun p e s m args below meth c H locs ls st ws ws0 hcx hW hext hl hs => ea_rt_ok hcx hrk hdg hlen hv hW hext hs⟩
          · cases i with
            | invokespecial x =>
              dsimp only at h
              obtain rfl : 3 = len := by simpa [ea_len] using hlen
              split at h
              · rename_i T hoi
                obtain ⟨u, a, hpe, rfl⟩ := ea_oi_ok hoi
                cases hbb : (Nat.ble (ea_wt T) 8 && Nat.ble 1 (ep_dep P mi)) with
                | false => rw [hbb] at h; cases h
                | true =>
                  rw [hbb] at h
                  simp only [cond_true] at h
                  simp only [Bool.and_eq_true] at hbb
                  rw [ea_fn_eq] at h
                  cases h
                  refine ⟨Nat.le_refl _, Nat.le_refl _, fun k1 w1 p e s m args below meth c H locs ls st ws Q hk1 hw1 hcx hW hl hs kk => ?_⟩
                  obtain ⟨hexec, hb, hts, hown, hini, hlocks, hret, hml, hex, hG, hst', hX⟩ := id hcx
                  obtain ⟨q1, q2, q3⟩ := hpool _ _ hpe
                  obtain ⟨_, _, rfl, ⟨aa, rfl, haa⟩, hs1⟩ := ea_pop hs
                  have hsz : ls.size = ep_nls P mi := by obtain ⟨vl, -, h⟩ := hl; exact h.1
                  have hd1 : 1 ≤ ep_dep P mi := Nat.le_of_ble_eq_true hbb.2
                  refine W.objInit hexec hb hown (hts _ q1) (hts _ q2) (hts _ q3) rfl (hsz.trans hml.symm) rfl hdg hd1 ?_ (kk H locs ls _ ws (ea_ext_r ws) hW hl hs1)
                  show 2 * 0 + _ + 12 ≤ 100 * ep_dep P mi
                  rw [ea_wt_ok hs1]
                  have := Nat.le_of_ble_eq_true hbb.1
                  omega
              · exact ea_good_call hpr hst IH hmi (Or.inr (Or.inl rfl)) hdg h
            | invokestatic x =>
              dsimp only at h
              obtain rfl : 3 = len := by simpa [ea_len] using hlen
              split at h
              · rename_i T hmm
                cases hbb : (Nat.ble (ea_wt T) 80 && Nat.ble 1 (ep_dep P mi)) with
                | false => rw [hbb] at h; cases h
                | true =>
                  rw [hbb] at h
                  simp only [cond_true] at h
                  rw [ea_fn_eq, ea_fS_eq] at h
                  cases h
                  simp only [Bool.and_eq_true] at hbb
                  refine ⟨Nat.le_refl _, Nat.le_refl _, fun k1 w1 p e s m args below meth c H locs ls st ws Q hk1 hw1 hcx hW hl hs kk => ?_⟩
                  exact ea_mm_ok hpr hmi hcx hl hs hdg hmm (Nat.le_of_ble_eq_true hbb.2) (Nat.le_of_ble_eq_true hbb.1) hk1 hw1 (fun st' hs' => kk H locs ls st' ws (ea_ext_r ws) hW hl hs')
              · cases h9 : ea_is9 (ep_pl P mi x) with
                | true =>
                  obtain ⟨u, hpe⟩ := ea_is9_ok h9
                  rw [h9] at h
                  simp only [cond_true] at h
                  split at h
                  · rename_i T C1 hcy
                    cases hbb : Nat.ble 1 (ep_dep P mi) with
                    | false => rw [hbb] at h; cases h
                    | true =>
                      rw [hbb] at h
                      simp only [cond_true] at h
                      rw [ea_fn_eq, ea_fL_eq] at h
                      cases h
                      refine ⟨Nat.le_refl _, Nat.le_refl _, fun k1 w1 p e s m args below meth c H locs ls st ws Q hk1 hw1 hcx hW hl hs kk => ?_⟩
                      exact ea_cy_ok hpr hmi hcx hW hl hs hpe hdg hcy (Nat.le_of_ble_eq_true hbb) (fun st' ws' H' locs' hW' hext' hl' hs' => kk H' locs' ls st' ws' hext' hW' hl' hs')
                  · cases h
                | false =>
                  rw [h9] at h
                  simp only [cond_false] at h
                  exact ea_good_call hpr hst IH hmi (Or.inl rfl) hdg h
            | invokevirtual x =>
              dsimp only at h
              obtain rfl : 3 = len := by simpa [ea_len] using hlen
              exact ea_good_call hpr hst IH hmi (Or.inr (Or.inr rfl)) hdg h
            | new x =>
              dsimp only at h
              cases hbb : Nat.ble (ea_wt S) 100 with
              | false => rw [hbb] at h; cases h
              | true =>
                rw [hbb] at h
                simp only [cond_true] at h
                split at h
                · rename_i ce htw
                  cases h
                  exact ⟨Nat.le_add_right _ _, Nat.le_add_right _ _, fun p e s m args below meth c H locs ls st ws ws0 hcx hW hext hl hs => ea_tw_ok hpr hmi hcx hW hext hl hs (Nat.le_of_ble_eq_true hbb) htw⟩
                · cases h
            | _ => cases h
theorem ea_main (hpr : ea_pr P N) (hst : l.stackTraces = false) (n : Nat) : ∀ (mi pc : Nat) (L : List (Nat × AV)) (S : List AV) (C : List AC) (k w : Nat) (o : Option AV ⊕ Nat) (C' : List AC) (k1 w1 : Nat), mi < en_k N → ea_x P n mi pc L S C k w = some (o, C', k1, w1) → ea_good P N D A sb l mi pc L S C k w o C' k1 w1 := by
  induction n with
  | zero => intro mi pc L S C k w o C' k1 w1 _ h; cases h
  | succ n IH =>
    intro mi pc L S C k w o C' k1 w1 hmi hx
    have h : ea_b P (ea_x P n) mi pc L S C k w = some (o, C', k1, w1) := hx
    clear hx
    unfold ea_b at h
    split at h
    · rename_i pc' L' S' C2 k' w' h1
      obtain ⟨j1, j2, j3⟩ : ea_goes P N D A sb l mi pc L S C k w (pc', L', S', C2, k', w') := ea_1_ok hpr hst IH hmi h1
      obtain ⟨i1, i2, i3⟩ := IH _ _ _ _ _ _ _ _ _ _ _ hmi h
      dsimp only at j1 j2 j3
      refine ⟨Nat.le_trans j1 i1, Nat.le_trans j2 i2, fun p e s m args below meth c H locs ls st ws ws0 hcx hW hext hl hs => ?_⟩
      exact j3 k1 w1 p e s m args below meth c H locs ls st ws _ i1 i2 hcx hW hl hs (fun H' locs' ls' st' ws' hext' hW' hl' hs' => i3 p e s m args below meth c H' locs' ls' st' ws' ws0 hcx hW' (ea_ext_t hext hext') hl' hs')
    · rename_i r h1
      cases h
      exact ea_1_ok hpr hst IH hmi h1
    · cases h
/-- up to a place -/
theorem ea_upto (hpr : ea_pr P N) (hst : l.stackTraces = false) {cc mi stop : Nat} (hmi : mi < en_k N) (n : Nat) : ∀ (pc : Nat) (L : List (Nat × AV)) (S : List AV) (C : List AC) (k w : Nat) (f : AF), ea_y P cc mi stop n pc L S C k w = some f → f.1 = stop ∧ ea_goes P N D A sb l mi pc L S C k w f := by
  induction n with
  | zero => intro pc L S C k w f h; cases h
  | succ n IH =>
    intro pc L S C k w f hx
    have h : (bif Nat.beq pc stop then some (pc, L, S, C, k, w) else match ea_1 P (ea_x P cc) mi pc L S C k w with
      | some (.inl (pc, L, S, C, k, w)) => ea_y P cc mi stop n pc L S C k w
      | _ => none) = some f := hx
    clear hx
    cases hb : Nat.beq pc stop with
    | true =>
      rw [hb] at h
      cases h
      exact ⟨Nat.eq_of_beq_eq_true hb, Nat.le_refl _, Nat.le_refl _, fun k1 w1 p e s m args below meth c H locs ls st ws Q _ _ hcx hW hl hs kk => kk H locs ls st ws (ea_ext_r ws) hW hl hs⟩
    | false =>
      rw [hb] at h
      simp only [cond_false] at h
      split at h
      · rename_i pc' L' S' C2 k' w' h1
        obtain ⟨j1, j2, j3⟩ : ea_goes P N D A sb l mi pc L S C k w (pc', L', S', C2, k', w') := ea_1_ok hpr hst (ea_main hpr hst cc) hmi h1
        obtain ⟨i0, i1, i2, i3⟩ := IH _ _ _ _ _ _ _ h
        dsimp only at j1 j2 j3
        refine ⟨i0, Nat.le_trans j1 i1, Nat.le_trans j2 i2, fun k1 w1 p e s m args below meth c H locs ls st ws Q hk1 hw1 hcx hW hl hs kk => ?_⟩
        exact j3 k1 w1 p e s m args below meth c H locs ls st ws _ (Nat.le_trans i1 hk1) (Nat.le_trans i2 hw1) hcx hW hl hs (fun H' locs' ls' st' ws' hext' hW' hl' hs' => i3 k1 w1 p e s m args below meth c H' locs' ls' st' ws' Q hk1 hw1 hcx hW' hl' hs' (fun H2 locs2 ls2 st2 ws2 hext2 hW2 hl2 hs2 => kk H2 locs2 ls2 st2 ws2 (ea_ext_t hext' hext2) hW2 hl2 hs2))
      · cases h
end EAW
