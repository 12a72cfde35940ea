/-! THE ABSTRACT MACHINE AND THE MACHINE: copies, throws, and the whole -/
section EAS
variable {P : EP} {N : EN} {D : va_G} {A : Nat → Prop} {sb : SB} {l : Launch} {p : Program} {e : Env} {s : State} {m : MethodId} {args : Array Value} {below : List Frame} {meth : Method} {c : Code} {H : Heap} {locs : List Loc} {k w : Nat}
variable {pc : Nat} {ls : Array Slot} {st : List Value} {ws : va_W} {C : List AC}
theorem ea_K2 {cl : List vw_C} (hK : va_K D cl [] s) {t : Nat} {cA cB : ClassId} (h : ea_AT cl s t cA) (h' : ea_AT cl s t cB) : va_K D cl [(cA, ea_ty cl t), (cB, ea_ty cl t)] s := ⟨hK.1, fun k q hq => by
  have hz : k < 2 := (List.getElem?_eq_some_iff.mp hq).1
  rcases (show k = 0 ∨ k = 1 by omega) with rfl | rfl
  · cases hq; exact h
  · cases hq; exact h'⟩
set_option maxHeartbeats 4000000 in
theorem ea_cy_ok (hpr : ea_pr P N) {mi x k1 w1 : Nat} (hmi : mi < en_k N) {u : Nat × Nat} {S T : List AV} {C' : List AC} {Q : State → Prop} (hcx : ea_cx P N D A sb mi p l s m args meth c) (hW : ea_W D (en_cl N) A s sb C ws H locs) {L : List (Nat × AV)} (hl : ea_L (sb, ws.map Prod.fst) (ep_nls P mi) L ls) (hs : ea_rl (ea_gv (sb, ws.map Prod.fst)) S st)
    (hpe : ep_pl P mi x = some (9, u)) (hdg : decode (en_b N mi) pc = .ok (.invokestatic x, 3)) (hp : ea_cy S C = some (T, C')) (hd : 1 ≤ ep_dep P mi)
    (kk : ∀ (st' : List Value) (ws' : va_W) (H' : Heap) (locs' : List Loc), ea_W D (en_cl N) A s sb C' ws' H' locs' → ea_ext ws ws' → ea_L (sb, ws'.map Prod.fst) (ep_nls P mi) L ls → ea_rl (ea_gv (sb, ws'.map Prod.fst)) T st' → W p l e (ea_rm P mi k1 w1) s m args below meth c H' locs' k w Q (F0 m (pc + 3) ls st')) :
    W p l e (ea_rm P mi k1 w1) s m args below meth c H locs k w Q (F0 m pc ls st) := by
  obtain ⟨hexec, hb, hts, hown, hini, hlocks, hret, hml, hex, hG, hst, hX⟩ := id hcx
  obtain ⟨hlink, hnat, hstat, hsys⟩ := (hpr.1 mi hmi).2.2.2.2.2.2.2.2.1 _ _ hpe
  obtain ⟨hP, hD, hS, hH⟩ := hW
  have hsz : ls.size = ep_nls P mi := by obtain ⟨vl, -, h⟩ := hl; exact h.1
  have hnw : nativeFrameWords "java/lang/System" "arraycopy" 5 + 11 ≤ 90 := by decide
  have hro : ∀ z : Nat, z ≤ 8 → z + (nativeFrameWords "java/lang/System" "arraycopy" 5 + 11) ≤ 100 * ep_dep P mi := fun z hz => by omega
  unfold ea_cy at hp
  split at hp
  · rename_i n dp b sp a T0
    split at hp
    · rename_i t n0 d us t1 n1 d1 us1 ho hob
      split at hp
      · rename_i hc
        obtain ⟨rfl, ht2, rfl, hn31, rfl, rfl, rfl, hw8⟩ := hc
        cases hp
        obtain ⟨_, _, rfl, ⟨x1, rfl, h1⟩, hs1⟩ := ea_pop hs
        obtain ⟨_, _, rfl, ⟨x2, rfl, h2⟩, hs2⟩ := ea_pop hs1
        obtain ⟨_, _, rfl, ⟨bb, rfl, hbb⟩, hs3⟩ := ea_pop hs2
        obtain ⟨_, _, rfl, ⟨x4, rfl, h4⟩, hs4⟩ := ea_pop hs3
        obtain ⟨_, _, rfl, ⟨aa, rfl, haa⟩, hs5⟩ := ea_pop hs4
        obtain rfl : x1 = Int32.ofNat n0 := h1
        obtain rfl : x2 = 0 := h2
        obtain rfl : x4 = 0 := h4
        obtain ⟨a1, E, g1, g2, g3⟩ := ea_H_get hH ho
        obtain rfl : aa = a1 := Option.some.inj (haa.symm.trans g3)
        obtain ⟨b1, F, f1, f2, f3⟩ := ea_H_get hH hob
        obtain rfl : bb = b1 := Option.some.inj (hbb.symm.trans f3)
        have hcl : (Int32.ofNat n0).toNatClampNeg = n0 := nI_clamp hn31
        have hnn : ¬ Int32.ofNat n0 < 0 := nI_pos hn31
        have hwt := hro _ (Nat.le_trans (Nat.le_of_eq (ea_wt_ok hs5)) hw8)
        match E, g1, g2, F, f1, f2 with
        | .inl (cA, na, fa), g1, ⟨ea, hata, hka, hca⟩, .inl (cB, nb, fb), f1, ⟨eb, hatb, hkb, hcb⟩ =>
          dsimp only at ea eb hka hkb hca hcb hata hatb
          subst ea
          subst eb
          rcases (show t = 0 ∨ t = 1 by omega) with rfl | rfl
          · obtain ⟨f, rfl⟩ := hka
            obtain ⟨g, rfl⟩ := hkb
            refine va_copyi (ty := .int) hexec hb (hml.trans hsz.symm) hown (hts _ hlink) (hts _ hnat) (hts _ hstat) (hts _ hsys) (ea_K2 hG.1 hata hatb) hP hD hS a b 0 1 g1 f1 rfl rfl rfl (by decide) (by decide) hnn (by rw [hcl, sb_cl0, Nat.zero_add]; exact Nat.le_refl _) (by rw [hcl, sb_cl0, Nat.zero_add]; exact Nat.le_refl _) (fun _ _ => rfl) hd hwt hdg (fun H1 locs1 p1 d1 s1 => ?_)
            refine kk _ _ H1 locs1 ⟨p1, d1, s1, ea_H_set hH f1 ⟨rfl, hatb, ⟨_, rfl⟩, fun j hj => ?_⟩⟩ (fun k q h => by rw [ea_map_set f1]; exact h) (by rw [ea_map_set f1]; exact hl) (by rw [ea_map_set f1]; exact hs5)
            dsimp only
            have := hca j hj
            simp only [ea_cv] at this ⊢
            rw [hcl, sb_cl0, sb_cpy0 hj]
            exact this
          · obtain ⟨f, rfl⟩ := hka
            obtain ⟨g, rfl⟩ := hkb
            refine va_copyl (ty := .long) hexec hb (hml.trans hsz.symm) hown (hts _ hlink) (hts _ hnat) (hts _ hstat) (hts _ hsys) (ea_K2 hG.1 hata hatb) hP hD hS a b 0 1 g1 f1 rfl rfl rfl (by decide) (by decide) hnn (by rw [hcl, sb_cl0, Nat.zero_add]; exact Nat.le_refl _) (by rw [hcl, sb_cl0, Nat.zero_add]; exact Nat.le_refl _) (fun _ _ => rfl) hd hwt hdg (fun H1 locs1 p1 d1 s1 => ?_)
            refine kk _ _ H1 locs1 ⟨p1, d1, s1, ea_H_set hH f1 ⟨rfl, hatb, ⟨_, rfl⟩, fun j hj => ?_⟩⟩ (fun k q h => by rw [ea_map_set f1]; exact h) (by rw [ea_map_set f1]; exact hl) (by rw [ea_map_set f1]; exact hs5)
            dsimp only
            have := hca j hj
            simp only [ea_cv] at this ⊢
            rw [hcl, sb_cl0, pk_cpy_in (Nat.zero_le _) (by rw [Nat.zero_add]; exact hj), Nat.sub_zero, Nat.zero_add]
            exact this
      · cases hp
    · cases hp
  · cases hp
theorem ea_mx_ok {S T : List AV} (h : ea_mx S = some T) : ∃ a b T', S = .inl b :: .inl a :: T' ∧ T = .inl (ea_i2 (fun x y => if x < y then y else x) a b) :: T' := by
  unfold ea_mx at h
  split at h
  · cases h; exact ⟨_, _, _, rfl, rfl⟩
  · cases h
theorem ea_mn_ok {S T : List AV} (h : ea_mn S = some T) : ∃ a b T', S = .inl b :: .inl a :: T' ∧ T = .inl (ea_i2 (fun x y => if y < x then y else x) a b) :: T' := by
  unfold ea_mn at h
  split at h
  · cases h; exact ⟨_, _, _, rfl, rfl⟩
  · cases h
theorem ea_mm_ok (hpr : ea_pr P N) {mi x k1 w1 : Nat} (hmi : mi < en_k N) {S T : List AV} {Q : State → Prop} (hcx : ea_cx P N D A sb mi p l s m args meth c) {L : List (Nat × AV)} (hl : ea_L (sb, ws.map Prod.fst) (ep_nls P mi) L ls) (hs : ea_rl (ea_gv (sb, ws.map Prod.fst)) S st)
    (hdg : decode (en_b N mi) pc = .ok (.invokestatic x, 3)) (hp : ea_mm (ep_pl P mi x) S = some T) (hd : 1 ≤ ep_dep P mi) (hw8 : ea_wt T ≤ 80) (hk : k ≤ k1) (hw : w ≤ w1)
    (kk : ∀ st' : List Value, ea_rl (ea_gv (sb, ws.map Prod.fst)) T st' → W p l e (ea_rm P mi k1 w1) s m args below meth c H locs k w Q (F0 m (pc + 3) ls st')) :
    W p l e (ea_rm P mi k1 w1) s m args below meth c H locs k w Q (F0 m pc ls st) := by
  obtain ⟨hexec, hb, hts, hown, hini, hlocks, hret, hml, hex, hG, hst, hX⟩ := id hcx
  have hsz : ls.size = ep_nls P mi := by obtain ⟨vl, -, h⟩ := hl; exact h.1
  have hpool := (hpr.1 mi hmi).2.2.2.2.2.2.2.2.1
  unfold ea_mm at hp
  split at hp
  · rename_i u hpe
    obtain ⟨w1', w2', w3', w4'⟩ := hpool _ _ hpe
    obtain ⟨a, b, T', rfl, rfl⟩ := ea_mx_ok hp
    obtain ⟨_, _, rfl, ⟨y, rfl, hy⟩, hs1⟩ := ea_pop hs
    obtain ⟨_, _, rfl, ⟨x1, rfl, hx1⟩, hs2⟩ := ea_pop hs1
    have hwt : ea_wt T' ≤ 79 := by
      have h9 : 1 + ea_wt T' ≤ 80 := hw8
      omega
    refine va_mmax hexec hb (hml.trans hsz.symm) hown (hts _ w1') (hts _ w2') (hts _ w3') (hts _ w4') hd ?_ hk hw hdg (kk _ ⟨⟨_, rfl, ea_i2_ok (fun x y => if x < y then y else x) hx1 hy⟩, hs2⟩)
    show _ ≤ 100 * ep_dep P mi
    rw [ea_wt_ok hs2]
    omega
  · rename_i u hpe
    obtain ⟨w1', w2', w3', w4'⟩ := hpool _ _ hpe
    obtain ⟨a, b, T', rfl, rfl⟩ := ea_mn_ok hp
    obtain ⟨_, _, rfl, ⟨y, rfl, hy⟩, hs1⟩ := ea_pop hs
    obtain ⟨_, _, rfl, ⟨x1, rfl, hx1⟩, hs2⟩ := ea_pop hs1
    have hwt : ea_wt T' ≤ 79 := by
      have h9 : 1 + ea_wt T' ≤ 80 := hw8
      omega
    refine va_mmin hexec hb (hml.trans hsz.symm) hown (hts _ w1') (hts _ w2') (hts _ w3') (hts _ w4') hd ?_ hk hw hdg (kk _ ⟨⟨_, rfl, ea_i2_ok (fun x y => if y < x then y else x) hx1 hy⟩, hs2⟩)
    show _ ≤ 100 * ep_dep P mi
    rw [ea_wt_ok hs2]
    omega
  · cases hp
theorem ea_t2_ok (hpr : ea_pr P N) {mi ce y a b : Nat} (hmi : mi < en_k N) (hcx : ea_cx P N D A sb mi p l s m args meth c) (hp : ea_t2 P mi pc y a b = some ce) :
    ∃ x z tx sa ix rx, ec_rx ix rx ∧ decode (en_b N mi) pc = .ok (.new x, 3) ∧ decode (en_b N mi) (pc + 3) = .ok (.dup, 1) ∧ decode (en_b N mi) (pc + a) = .ok (.invokespecial z, 3) ∧ decode (en_b N mi) (pc + b) = .ok (.athrow, 1) ∧ 9 ≤ ep_dep P mi ∧ (∀ q, ∀ x ∈ c.exceptionTable.toList, covers x q = false) ∧
      (Jvm.Cond.classLink (en_y N mi).cls x (en_x N ce)).before args s = true ∧ (Jvm.Cond.initialized (en_x N ce)).before args s = true ∧ vk_R (en_y N mi).cls y tx sa s ∧ Bundle.fit (en_x N ce) = true ∧ (∀ w ∈ ec_at (en_y N mi).cls z (en_x N ce) ix rx (en_up N), w.before args s = true) ∧
      ∀ w ∈ Jvm.Cond.classLink (en_y N mi).cls x (en_x N ce) :: Jvm.Cond.initialized (en_x N ce) :: ec_at (en_y N mi).cls z (en_x N ce) ix rx (en_up N), vx_ot w = true := by
  obtain ⟨hexec, hb, hts, hown, hini, hlocks, hret, hml, hex, hG, hst, hX⟩ := id hcx
  obtain ⟨hy, hyh, hwd, hdec, hini', hrk, hinit, hhc, hpool, hnl⟩ := hpr.1 mi hmi
  unfold ea_t2 at hp
  split at hp
  · rename_i x z h0 h3 h6 h9
    split at hp
    · rename_i ce1 u0 u1 u2 ce2 u3 q1 q2 q3
      cases hbq : (Nat.beq ce1 ce2 && Nat.ble 9 (ep_dep P mi)) with
      | false => rw [hbq] at hp; cases hp
      | true =>
        rw [hbq] at hp
        simp only [cond_true] at hp
        simp only [Bool.and_eq_true] at hbq
        obtain rfl : ce1 = ce2 := Nat.eq_of_beq_eq_true hbq.1
        have hd9 : 9 ≤ ep_dep P mi := Nat.le_of_ble_eq_true hbq.2
        split at hp
        · rename_i hnil
          cases hp
          obtain ⟨hcl, hci, go1, go2⟩ := hpool _ _ q1
          obtain ⟨tx, htx⟩ := hpool _ _ q2
          obtain ⟨hfit, ix, rx, hr, hat⟩ := hpool _ _ q3
          obtain ⟨sa, hsa⟩ := hG.2.2.1 _ htx
          have hempty : ∀ q, ∀ x ∈ c.exceptionTable.toList, covers x q = false := by
            rw [hex]
            unfold ea_hs
            rw [hnil]
            intro q x hx
            cases hx
          refine ⟨x, z, tx, sa, ix, rx, hr, hdec _ _ h0, hdec _ _ h3, hdec _ _ h6, hdec _ _ h9, hd9, hempty, hts _ hcl, hts _ hci, hsa, hfit, fun w hw => ?_, fun w hw => ?_⟩
          · rcases (hat w hw).1 with h | h
            · exact hts _ h
            · rcases hpr.2.2.2.1 w h with ⟨a, b, rfl⟩ | ⟨a, i, x, hh, rfl⟩ | ⟨x, rfl⟩
              · exact va_Nw.use rfl (hG.2.1 _ h)
              · exact va_Nw.use rfl (hG.2.1 _ h)
              · exact va_Nw.use rfl (hG.2.1 _ h)
          · rcases List.mem_cons.mp hw with rfl | hw
            · exact go1
            · rcases List.mem_cons.mp hw with rfl | hw
              · exact go2
              · exact (hat w hw).2
        · cases hp
    · cases hp
  · cases hp
theorem ea_tw_ok (hpr : ea_pr P N) {mi ce : Nat} (hmi : mi < en_k N) {S : List AV} {ws0 : va_W} (hcx : ea_cx P N D A sb mi p l s m args meth c) (hW : ea_W D (en_cl N) A s sb C ws H locs) (hext : ea_ext ws0 ws) {L : List (Nat × AV)} (hl : ea_L (sb, ws.map Prod.fst) (ep_nls P mi) L ls) (hs : ea_rl (ea_gv (sb, ws.map Prod.fst)) S st)
    (hwt : ea_wt S ≤ 100) (hp : ea_tw P mi pc = some ce) :
    W p l e (ea_rm P mi (k + 1) (w + 6)) s m args below meth c H locs k w (vx_MQ below (ea_Qc N D A sb ws0 (.inr ce) C) (ea_XC N D A sb ws0 (.inr ce) C) args s (k + 1) (w + 6) A) (F0 m pc ls st) := by
  obtain ⟨hexec, hb, hts, hown, hini, hlocks, hret, hml, hex, hG, hst, hX⟩ := id hcx
  obtain ⟨hy, hyh, hwd, hdec, hini', hrk, hinit, hhc, hpool, hnl⟩ := hpr.1 mi hmi
  obtain ⟨hP, hD, hS, hH⟩ := hW
  have hsz : ls.size = ep_nls P mi := by obtain ⟨vl, -, h⟩ := hl; exact h.1
  have hup := hpr.2.2.2.2.2.1
  have hxx : ∀ t : State, s.vm.Alike t.vm → H.size ≤ t.heap.size → (∀ q : Nat, q < H.size → t.heap[q]? = H[q]?) → ea_XC N D A sb ws0 (.inr ce) C (en_x N ce) s t := fun t hal hz hk => by
    refine ⟨ws, rfl, hext, ⟨hP.kept (fun k x hx => hk x.1 (hP k x hx).lt), hD, ea_H_moved hal hH⟩, Nat.le_trans hS.1 hz, fun q h1 h2 => ?_⟩
    rw [hk q (Nat.lt_of_lt_of_le h1 hS.1)]
    exact hS.2.1 q h1 h2
  unfold ea_tw at hp
  split at hp
  · rename_i y h4
    obtain ⟨x, z, tx, sa, ix, rx, hr, d0, d3, d6, d9, hd9, hempty, hcl, hci, hsa, hfit, hat, hgo⟩ := ea_t2_ok hpr hmi hcx hp
    refine ec_throwS (own := (en_y N mi).cls) (cls := en_x N ce) (names := en_up N) (A := A) (sa := sa) hexec hb hst hr hown hfit hpr.2.2.2.2.1 hcl hci hsa hat hgo hG.2.2.2.2.2.1 hG.2.2.2.2.2.2.1 hS (hsz.trans hml.symm) d0 d3 (hdec _ _ h4) d6 d9 (hempty _) ?_ ?_ (Nat.le_refl _) (Nat.le_refl _) hlocks hxx hS.2.2 (Nat.le_refl _) (Nat.le_refl _)
    · show (en_up N).length + 3 < ep_dep P mi
      omega
    · show _ ≤ 100 * ep_dep P mi
      rw [ea_wt_ok hs]
      omega
  · rename_i y h4
    obtain ⟨x, z, tx, sa, ix, rx, hr, d0, d3, d6, d9, hd9, hempty, hcl, hci, hsa, hfit, hat, hgo⟩ := ea_t2_ok hpr hmi hcx hp
    refine ec_throwSW (own := (en_y N mi).cls) (cls := en_x N ce) (names := en_up N) (A := A) (sa := sa) hexec hb hst hr hown hfit hpr.2.2.2.2.1 hcl hci hsa hat hgo hG.2.2.2.2.2.1 hG.2.2.2.2.2.2.1 hS (hsz.trans hml.symm) d0 d3 (hdec _ _ h4) d6 d9 (hempty _) ?_ ?_ (Nat.le_refl _) (Nat.le_refl _) hlocks hxx hS.2.2 (Nat.le_refl _) (Nat.le_refl _)
    · show (en_up N).length + 3 < ep_dep P mi
      omega
    · show _ ≤ 100 * ep_dep P mi
      rw [ea_wt_ok hs]
      omega
  · cases hp
end EAS
