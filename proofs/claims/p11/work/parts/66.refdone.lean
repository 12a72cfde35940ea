/-! CONTRACTS BY HAND: code, whole; all contracts of the reference -/
def cb_M : List (Nat × Nat) := [(190, 191), (201, 203), (205, 207), (1001, 1008)]
theorem J_of {u : Nat} {C : List AC} (h : rf_cls C 201 202) : pv (rf_G u) C 1001 0 1 := by
  show rf_G u 1001 C = 1
  exact rf_b_1 h
section CODE
variable (X : Option (List AI)) (u : Nat) {C : List AC} {zW : Int}
set_option maxRecDepth 20000 in
set_option maxHeartbeats 4000000 in
theorem code_end (hpW : pv (rf_G u) C 999 0 zW) (q1 : 1 ≤ zW) (q2 : zW ≤ 1) {zJ z22 : Int} {C' : List AC} (I' : xI tb_G C') (F' : fr_c (rf_G 0) cb_M C C') (hJ : rf_cls C' 201 202) (hT : rf_v C' 190 18 = 0) (v : Int32) : cx_post (rf_G u) tb_G trk_104 [zW, zJ, z22] C (.inl (some (.inl (.inl v)))) C' := by
  have F : fr_c (rf_G u) trk_104.1.2.2.1 C C' := fr_u (u := 0) (by decide) F'
  have pW : pv (rf_G u) C' 999 0 zW := by
    show rf_G u 999 C' = zW
    rw [F.2 999 (by decide) (by decide)]
    exact hpW
  have e : cx_po trk_104 (some (.inl (.inl v))) = trk_104.2.2.2.2 := by
    show (if v.toInt < trk_104.2.2.1 then trk_104.2.2.2.1 else trk_104.2.2.2.2) = _
    split <;> rfl
  refine ⟨_, rfl, I', F, ⟨v, rfl, Int32.le_toInt v, Int.le_of_lt_add_one (Int32.toInt_lt v)⟩, ?_⟩
  rw [e]
  exact ⟨⟨[zW, 1, 0], ⟨⟨pW, q1, q2⟩, ⟨J_of hJ, by decide, by decide⟩, ⟨hT, by decide, by decide⟩, trivial⟩⟩, fun q hq => nomatch hq⟩
end CODE
theorem cp_fr {C C' : List AC} {a b k : Nat} (h : cp_I C a b k C') {M : List (Nat × Nat)} (hb : xm M b = true) (hg : ∀ q ∈ tr_gs, xm [(b, b + 1)] q.2.1 = true → xm M q.1 = true) : fr_c (rf_G 0) M C C' := by
  refine ⟨fun x hx => h.2.1 x ?_, fun g hk hm => rf_gs 0 g C C' (fun x i hq => cv_eq (h.2.1 x ?_) i)⟩
  · rintro rfl
    rw [hb] at hx
    cases hx
  · obtain ⟨q, q1, q2, q3, -⟩ := hq
    rintro rfl
    have := hg q q1 (by rw [q3]; simp [xm, Nat.ble_eq, Nat.blt])
    rw [q2, hm] at this
    cases this
theorem cp_same {C C' : List AC} {a b k : Nat} (h : cp_I C a b k C') {x : Nat} (hx : x ≠ b) (j : Nat) : rf_v C' x j = rf_v C x j := rf_v_eq (cv_eq (h.2.1 x hx) j)
set_option maxRecDepth 20000 in
set_option maxHeartbeats 8000000 in
theorem tr_h104 (X : Option (List AI)) (u : Nat) (IH : ∀ q, q < 104 → ∀ u, cx_ok (tb_P X) tb_G (rf_G u) (tr_at q)) : cx_ok (tb_P X) tb_G (rf_G u) trk_104 := by
  intro vs C EV hvs hI hpre hrel
  obtain ⟨v0, t0, rfl, h0, hvs1⟩ := ea_rl_cons hvs
  obtain rfl := ea_rl_nil hvs1
  obtain rfl : v0 = .inr (.inl (some 190)) := h0
  obtain ⟨zW, E1, rfl, ⟨pW, q1, q2⟩, hp2⟩ := ea_rl_cons hpre
  obtain ⟨zJ, E2, rfl, ⟨pJ, q3, q4⟩, hp3⟩ := ea_rl_cons hp2
  obtain ⟨zD, E3, rfl, -, hp4⟩ := ea_rl_cons hp3
  obtain rfl := ea_rl_nil hp4
  dsimp only at q1 q2 q3 q4
  have hJ := jj_of pJ q3 q4
  have fin := fun (C' : List AC) (I' : xI tb_G C') (F' : fr_c (rf_G 0) cb_M C C') (hJ : rf_cls C' 201 202) (hT : rf_v C' 190 18 = 0) (v : Int32) => code_end u pW q1 q2 (zJ := zJ) (z22 := zD) I' F' hJ hT v
  have z0 : (Int32.ofInt 0).toInt = ((0 : Nat) : Int) := by decide
  refine ok_p rfl rfl rfl ?_
  refine ok_p rfl rfl rfl ?_
  refine cp_a X hI (fun x1 Ca hca => ?_) 48 0 (Int32.ofInt 0) C rfl z0 ⟨hI, fun _ _ => rfl, fun j hj => absurd hj (Nat.not_lt_zero j)⟩
  have FA : fr_c (rf_G 0) cb_M C Ca := cp_fr hca (by decide) (by decide)
  refine ok_p rfl rfl rfl ?_
  refine ok_p rfl rfl rfl ?_
  refine cp_b X hca.1 (fun x2 Cb hcb => ?_) 800 0 (Int32.ofInt 0) Ca rfl z0 ⟨hca.1, fun _ _ => rfl, fun j hj => absurd hj (Nat.not_lt_zero j)⟩
  have FB : fr_c (rf_G 0) cb_M C Cb := fr_c_same FA (cp_fr hcb (by decide) (by decide))
  have HB : rf_cls Cb 205 206 := rf_cls_to (C := C) (fun j hj => by rw [hcb.2.2 j hj, cp_same hca (by decide)]) (fun j hj => by rw [cp_same hcb (by decide), hca.2.2 j hj]) (by rw [cp_same hcb (by decide), cp_same hca (by decide)]) (by rw [cp_same hcb (by decide), cp_same hca (by decide)]) hJ
  obtain ⟨ms, m1, m2, m3⟩ := hI_f hcb.1 (show tb_G 190 = some (.inl (12, _)) from rfl)
  -- behind the reading
  have restore : ∀ (C' : List AC) (nv : Int32), xI tb_G C' → fr_c (rf_G 0) cb_M C C' → rf_cls C' 205 206 → rf_v C' 190 18 = 0 → ok_ (tb_P X) 243 124 [(1, .inl (.inl nv)), (0, .inr (.inl (some 190)))] [] C' (cx_post (rf_G u) tb_G trk_104 [zW, zJ, zD] C) := by
    intro C' nv I' F' H' T'
    refine ok_p rfl rfl rfl ?_
    refine ok_p rfl rfl rfl ?_
    refine cp_c X (nv := nv) I' (fun x3 Cc hcc => ?_) 48 0 (Int32.ofInt 0) C' rfl z0 ⟨I', fun _ _ => rfl, fun j hj => absurd hj (Nat.not_lt_zero j)⟩
    have FC : fr_c (rf_G 0) cb_M C Cc := fr_c_same F' (cp_fr hcc (by decide) (by decide))
    refine ok_p rfl rfl rfl ?_
    refine ok_p rfl rfl rfl ?_
    refine cp_d X (nv := nv) hcc.1 (fun x4 Cd hcd => ?_) 800 0 (Int32.ofInt 0) Cc rfl z0 ⟨hcc.1, fun _ _ => rfl, fun j hj => absurd hj (Nat.not_lt_zero j)⟩
    have FD : fr_c (rf_G 0) cb_M C Cd := fr_c_same FC (cp_fr hcd (by decide) (by decide))
    refine ok_p rfl rfl rfl ?_
    refine ok_r rfl rfl rfl rfl rfl (fin Cd hcd.1 FD ?_ ?_ _)
    · exact rf_cls_to (C := C') (fun j hj => by rw [hcd.2.2 j hj, cp_same hcc (by decide)]) (fun j hj => by rw [cp_same hcd (by decide), hcc.2.2 j hj]) (by rw [cp_same hcd (by decide), cp_same hcc (by decide)]) (by rw [cp_same hcd (by decide), cp_same hcc (by decide)]) H'
    · rw [cp_same hcd (by decide), cp_same hcc (by decide)]
      exact T'
  have f23 : ∀ (C' : List AC) (w : Int32), xI tb_G C' → fr_c (rf_G 0) cb_M C C' → ∀ s, ea_nt C' 190 = some (.inr (12, s)) → xI tb_G (C'.set 190 (.inr (12, s.set 23 (.inl (.inl w))))) ∧ fr_c (rf_G 0) cb_M C (C'.set 190 (.inr (12, s.set 23 (.inl (.inl w))))) := fun C' w I' F' s hs =>
    ⟨xI_sf I' (show tb_G 190 = some (.inl (12, _)) from rfl) hs (k := 23) (v := .inl (.inl w)) rfl ⟨_, rfl, Int32.le_toInt w, Int.le_of_lt_add_one (Int32.toInt_lt w)⟩, fr_c_same F' (fr_f 0 hs (by decide) (by decide))⟩
  refine ok_p rfl rfl rfl ?_
  refine ok_p rfl rfl rfl ?_
  refine ok_cv (mj := 242) (as := [.inl (.inl (Int32.ofInt 1))]) (T := []) rfl rfl m1 rfl rfl rfl ?_
  have had : ∀ (C1 C2 : List AC), fr_c (rf_G 0) [(190, 191), (1005, 1008)] Cb C1 → rf_v C1 190 18 = 0 → fr_c (rf_G 0) cd_M C1 C2 → fr_c (rf_G 0) cb_M C C2 ∧ rf_cls C2 205 206 ∧ rf_v C2 190 18 = 0 := by
    intro C1 C2 F1 T1 F2
    refine ⟨fr_c_tr (fr_c_tr FB (M' := [(190, 191), (1005, 1008)]) (by decide) F1) (M' := cd_M) (by decide) F2, ?_, ?_⟩
    · refine rf_b_of (p := rf_cls C2 205 206) ?_
      have e1 : rf_G 0 1002 C2 = rf_b (rf_cls C2 205 206) := rfl
      have e2 : rf_G 0 1002 Cb = rf_b (rf_cls Cb 205 206) := rfl
      rw [← e1, F2.2 1002 (by decide) (by decide), F1.2 1002 (by decide) (by decide), e2]
      exact rf_b_1 HB
    · have e1 : rf_G 0 1007 C2 = rf_v C2 190 18 := rfl
      have e2 : rf_G 0 1007 C1 = rf_v C1 190 18 := rfl
      rw [← e1, F2.2 1007 (by decide) (by decide), e2]
      exact T1
  refine ra_run X IH hcb.1 (fun C1 C2 F1 T1 I2 F2 => ?_) (fun C1 C2 v n F1 T1 hn hv S2 => ?_)
  · -- wrong
    obtain ⟨FF, HH, TT⟩ := had C1 C2 F1 T1 F2
    show ok_ (tb_P X) 243 63 _ [.inl (.inl (Int32.ofInt (-1)))] C2 _
    obtain ⟨s2, n1, n2, n3⟩ := hI_f I2 (show tb_G 190 = some (.inl (12, _)) from rfl)
    have hlen : s2.length = 38 := n2
    obtain ⟨_, w21, bg, rfl, -, -⟩ := n3 21 (.inl (0, 400)) rfl
    refine ok_p rfl rfl rfl ?_
    refine ok_p rfl rfl rfl ?_
    refine ok_p rfl rfl rfl ?_
    refine ok_p rfl rfl rfl ?_
    refine ok_p rfl rfl rfl ?_
    refine ok_gf rfl rfl n1 w21 ?_
    refine ok_p rfl rfl rfl ?_
    refine ok_pf (v := .inl (.inl bg)) rfl rfl n1 rfl (by rw [hlen]; rfl) ?_
    obtain ⟨I3, F3⟩ := f23 C2 bg I2 FF s2 n1
    have H3 : rf_cls (C2.set 190 (.inr (12, s2.set 23 (.inl (.inl bg))))) 205 206 := rf_cls_to (C := C2) (fun j _ => rf_v_eq (cv_eq (nt_set_ne (by decide)) j)) (fun j _ => rf_v_eq (cv_eq (nt_set_ne (by decide)) j)) (rf_fs n1 (by decide)) (rf_fs n1 (by decide)) HH
    have T3 : rf_v (C2.set 190 (.inr (12, s2.set 23 (.inl (.inl bg))))) 190 18 = 0 := by rw [rf_fs n1 (by decide)]; exact TT
    have N3 := nt_set_self (c := Sum.inr (12, s2.set 23 (.inl (.inl bg)))) n1
    revert I3 F3 H3 T3 N3
    generalize C2.set 190 (.inr (12, s2.set 23 (.inl (.inl bg)))) = C3
    intro I3 F3 H3 T3 N3
    refine ok_p rfl rfl rfl ?_
    refine ok_p rfl rfl rfl ?_
    refine ok_p rfl rfl rfl ?_
    refine ok_p rfl rfl rfl ?_
    refine ok_p rfl rfl rfl ?_
    refine ok_p rfl rfl rfl ?_
    refine ok_cv (mj := 186) (as := [.inl (.inl (Int32.ofInt 1)), .inl (.inl (Int32.ofInt 1))]) (T := []) rfl rfl N3 rfl rfl rfl ?_
    refine ti_run X I3 (Or.inr rfl) (fun C4 I4 F4 V4 => ?_)
    show ok_ (tb_P X) 243 94 _ [.inl (.inl (Int32.ofInt 1))] C4 _
    refine ok_p rfl rfl rfl ?_
    exact restore C4 _ I4 (fr_c_same F3 (fr_c_tr (fr_c_rf _ cb_M C3) (M' := [(190, 191)]) (by decide) F4)) (rf_cls_to (C := C3) (fun j _ => rf_v_eq (cv_eq (F4.1 206 rfl) j)) (fun j _ => rf_v_eq (cv_eq (F4.1 205 rfl) j)) (V4 15 (by decide)) (V4 16 (by decide)) H3) (by rw [V4 18 (by decide)]; exact T3)
  · -- right
    obtain ⟨FF, HH, TT⟩ := had C1 C2 F1 T1 S2.2.1
    show ok_ (tb_P X) 243 63 _ [.inl (.inl v)] C2 _
    obtain ⟨s2, n1, n2, n3⟩ := hI_f S2.1 (show tb_G 190 = some (.inl (12, _)) from rfl)
    have hlen : s2.length = 38 := n2
    have hge : ea_ck .ge v 0 = true := by
      show decide ((0 : Int32) ≤ v) = true
      rw [decide_eq_true_eq, Int32.le_iff_toInt_le, show (0 : Int32).toInt = 0 by decide]
      omega
    refine ok_p rfl rfl rfl ?_
    refine ok_p rfl rfl rfl ?_
    refine ok_p rfl rfl rfl ?_
    refine ok_if true rfl rfl hge ?_
    refine ok_p rfl rfl rfl ?_
    refine ok_pf (v := .inl (.inl (Int32.ofInt (Int.negSucc 0)))) rfl rfl n1 rfl (by rw [hlen]; rfl) ?_
    obtain ⟨I3, F3⟩ := f23 C2 (Int32.ofInt (Int.negSucc 0)) S2.1 FF s2 n1
    have H3 : rf_cls (C2.set 190 (.inr (12, s2.set 23 (.inl (.inl (Int32.ofInt (Int.negSucc 0))))))) 205 206 := rf_cls_to (C := C2) (fun j _ => rf_v_eq (cv_eq (nt_set_ne (by decide)) j)) (fun j _ => rf_v_eq (cv_eq (nt_set_ne (by decide)) j)) (rf_fs n1 (by decide)) (rf_fs n1 (by decide)) HH
    have T3 : rf_v (C2.set 190 (.inr (12, s2.set 23 (.inl (.inl (Int32.ofInt (Int.negSucc 0))))))) 190 18 = 0 := by rw [rf_fs n1 (by decide)]; exact TT
    have J3 : cd_I (C2.set 190 (.inr (12, s2.set 23 (.inl (.inl (Int32.ofInt (Int.negSucc 0))))))) n := cd_I_keep (fun j _ => rf_v_eq (cv_eq (nt_set_ne (by decide)) j)) (fun j _ => rf_v_eq (cv_eq (nt_set_ne (by decide)) j)) (rf_fs n1 (by decide)) S2.2.2
    have N3 := nt_set_self (c := Sum.inr (12, s2.set 23 (.inl (.inl (Int32.ofInt (Int.negSucc 0)))))) n1
    revert I3 F3 H3 T3 J3 N3
    generalize C2.set 190 (.inr (12, s2.set 23 (.inl (.inl (Int32.ofInt (Int.negSucc 0)))))) = C3
    intro I3 F3 H3 T3 J3 N3
    refine ok_p rfl rfl rfl ?_
    refine ok_p rfl rfl rfl ?_
    refine ok_if true rfl rfl hge ?_
    refine ok_p rfl rfl rfl ?_
    refine ok_p rfl rfl rfl ?_
    refine ok_cv (mj := 186) (as := [.inl (.inl (Int32.ofInt 0)), .inl (.inl (Int32.ofInt 1))]) (T := []) rfl rfl N3 rfl rfl rfl ?_
    refine ti_run X I3 (Or.inl rfl) (fun C4 I4 F4 V4 => ?_)
    show ok_ (tb_P X) 243 94 _ [.inl (.inl (Int32.ofInt 0))] C4 _
    have F4' : fr_c (rf_G 0) cb_M C C4 := fr_c_same F3 (fr_c_tr (fr_c_rf _ cb_M C3) (M' := [(190, 191)]) (by decide) F4)
    have H4 : rf_cls C4 205 206 := rf_cls_to (C := C3) (fun j _ => rf_v_eq (cv_eq (F4.1 206 rfl) j)) (fun j _ => rf_v_eq (cv_eq (F4.1 205 rfl) j)) (V4 15 (by decide)) (V4 16 (by decide)) H3
    have T4 : rf_v C4 190 18 = 0 := by rw [V4 18 (by decide)]; exact T3
    have J4 : cd_I C4 n := cd_I_keep (fun j _ => rf_v_eq (cv_eq (F4.1 201 rfl) j)) (fun j _ => rf_v_eq (cv_eq (F4.1 202 rfl) j)) (V4 25 (by decide)) J3
    clear F4 V4 N3 H3 T3 J3 F3
    obtain ⟨s4, k1, k2, k3⟩ := hI_f I4 (show tb_G 190 = some (.inl (12, _)) from rfl)
    have hlen4 : s4.length = 38 := k2
    obtain ⟨_, w15, cc, rfl, cc1, cc2⟩ := k3 15 (.inl (-1, 12)) rfl
    obtain ⟨w12', w12, -⟩ := k3 12 (.inl (0, 10)) rfl
    dsimp only at cc1 cc2
    have second : ∀ y : Int32, (y = Int32.ofInt 0 ∨ y = Int32.ofInt 1) → (y = Int32.ofInt 0 → cc.toInt < 0) → ok_ (tb_P X) 243 117 [(1, .inl (.inl v)), (0, .inr (.inl (some 190)))] [.inl (.inl y), .inr (.inl (some 190))] C4 (cx_post (rf_G u) tb_G trk_104 [zW, zJ, zD] C) := by
      intro y hy hyc
      refine ok_p rfl rfl rfl ?_
      refine ok_cv (mj := 186) (as := [.inl (.inl y), .inl (.inl (Int32.ofInt 2))]) (T := []) rfl rfl k1 rfl rfl rfl ?_
      refine ti_run X I4 hy (fun C5 I5 F5 V5 => ?_)
      show ok_ (tb_P X) 243 121 _ [.inl (.inl y)] C5 _
      have F5' : fr_c (rf_G 0) cb_M C C5 := fr_c_same F4' (fr_c_tr (fr_c_rf _ cb_M C4) (M' := [(190, 191)]) (by decide) F5)
      rcases hy with rfl | rfl
      · have hcc := hyc rfl
        obtain ⟨s5, e1, e2, e3⟩ := hI_f I5 (show tb_G 190 = some (.inl (12, _)) from rfl)
        have hlen5 : s5.length = 38 := e2
        obtain ⟨_, w15', -⟩ := e3 15 (.inl (-1, 12)) rfl
        obtain ⟨_, w12', -⟩ := e3 12 (.inl (0, 10)) rfl
        refine ok_p rfl rfl rfl ?_
        refine ok_p rfl rfl rfl ?_
        refine ok_p rfl rfl rfl ?_
        refine ok_pf (v := .inl (.inl v)) rfl rfl e1 rfl (by rw [hlen5]; rfl) ?_
        have I6 := xI_sf I5 (show tb_G 190 = some (.inl (12, _)) from rfl) e1 (k := 15) (v := .inl (.inl v)) rfl ⟨_, rfl, by show (-1 : Int) ≤ v.toInt; omega, by show v.toInt ≤ (12 : Int); omega⟩
        have F6 : fr_c (rf_G 0) cb_M C (C5.set 190 (.inr (12, s5.set 15 (.inl (.inl v))))) := fr_c_same F5' (fr_f 0 e1 (by decide) (by decide))
        have J6 : rf_cls (C5.set 190 (.inr (12, s5.set 15 (.inl (.inl v))))) 201 202 := by
          have h16 : rf_v (C5.set 190 (.inr (12, s5.set 15 (.inl (.inl v))))) 190 16 = -1 := by
            rw [rf_fs e1 (by decide), V5 16 (by decide)]
            rcases H4.1 with h | h
            · exact h
            · rw [h, rf_f k1 w15]
              omega
          have h15 : rf_v (C5.set 190 (.inr (12, s5.set 15 (.inl (.inl v))))) 190 15 = v.toInt := rf_f (nt_set_self e1) (nt_set_self w15')
          refine ⟨Or.inl h16, fun k hk hl => ?_⟩
          rw [h15] at hl
          obtain ⟨i, m, g1, g2, g3, g4⟩ := J4 k (by omega)
          obtain ⟨ga1, ga2, d, ga3⟩ := ga_some g4
          have hr : (rf_v C4 190 25).toNat - i = m + ((rf_v C4 190 25).toNat - i - m) := by omega
          rw [hr] at ga3
          obtain ⟨d', hd'⟩ := rf_d_pre m _ _ _ _ ga3
          refine (rf_cl_eq (cl := rf_v C4 201) (f := rf_v C4 202) (fun j _ => ?_) (fun j _ => ?_) hk).mp ⟨i, m, d', g1, g2, by omega, hd'⟩
          · rw [rf_v_eq (C := C5) (cv_eq (nt_set_ne (by decide)) j), rf_v_eq (cv_eq (F5.1 202 rfl) j)]
          · rw [rf_v_eq (C := C5) (cv_eq (nt_set_ne (by decide)) j), rf_v_eq (cv_eq (F5.1 201 rfl) j)]
        have T6 : rf_v (C5.set 190 (.inr (12, s5.set 15 (.inl (.inl v))))) 190 18 = 0 := by rw [rf_fs e1 (by decide), V5 18 (by decide)]; exact T4
        have N6 := nt_set_self (c := Sum.inr (12, s5.set 15 (.inl (.inl v)))) e1
        have L6 : (s5.set 15 (Sum.inl (Sum.inl v))).length = 38 := by rw [nt_len_set]; exact hlen5
        revert I6 F6 J6 T6 N6 L6
        generalize C5.set 190 (.inr (12, s5.set 15 (.inl (.inl v)))) = C6
        generalize s5.set 15 (Sum.inl (Sum.inl v)) = s6
        intro I6 F6 J6 T6 N6 L6
        refine ok_p rfl rfl rfl ?_
        refine ok_p rfl rfl rfl ?_
        refine ok_pf (v := .inl (.inl (Int32.ofInt 0))) rfl rfl N6 rfl (by rw [L6]; rfl) ?_
        have I7 := xI_sf I6 (show tb_G 190 = some (.inl (12, _)) from rfl) N6 (k := 12) (v := .inl (.inl (Int32.ofInt 0))) rfl ⟨_, rfl, by decide, by decide⟩
        refine ok_p rfl rfl rfl ?_
        refine ok_r rfl rfl rfl rfl rfl (fin _ I7 (fr_c_same F6 (fr_f 0 N6 (by decide) (by decide))) ?_ (by rw [rf_fs N6 (by decide)]; exact T6) _)
        exact rf_cls_to (C := C6) (fun j _ => rf_v_eq (cv_eq (nt_set_ne (by decide)) j)) (fun j _ => rf_v_eq (cv_eq (nt_set_ne (by decide)) j)) (rf_fs N6 (by decide)) (rf_fs N6 (by decide)) J6
      · refine ok_p rfl rfl rfl ?_
        exact restore C5 _ I5 F5' (rf_cls_to (C := C4) (fun j _ => rf_v_eq (cv_eq (F5.1 206 rfl) j)) (fun j _ => rf_v_eq (cv_eq (F5.1 205 rfl) j)) (V5 15 (by decide)) (V5 16 (by decide)) H4) (by rw [V5 18 (by decide)]; exact T4)
    refine ok_p rfl rfl rfl ?_
    refine ok_p rfl rfl rfl ?_
    refine ok_p rfl rfl rfl ?_
    refine ok_gf rfl rfl k1 w15 ?_
    cases hcg : ea_ck .ge cc 0 with
    | true =>
      refine ok_if true rfl rfl hcg ?_
      refine ok_p rfl rfl rfl ?_
      refine ok_p rfl rfl rfl ?_
      exact second _ (Or.inr rfl) (fun h => absurd h (by decide))
    | false =>
      have hcl : ¬ (0 : Int32) ≤ cc := of_decide_eq_false hcg
      rw [Int32.le_iff_toInt_le, show (0 : Int32).toInt = 0 by decide] at hcl
      refine ok_if false rfl rfl hcg ?_
      refine ok_p rfl rfl rfl ?_
      refine ok_cv (mj := 198) (as := []) (T := [.inr (.inl (some 190))]) rfl rfl k1 rfl rfl rfl ?_
      refine cits_run X I4 (fun N n1 n2 n3 => ?_)
      show ok_ (tb_P X) 243 109 _ [.inl (.inl N), .inr (.inl (some 190))] C4 _
      cases hN : ea_ck .le N 0 with
      | true =>
        refine ok_if true rfl rfl hN ?_
        refine ok_p rfl rfl rfl ?_
        exact second _ (Or.inl rfl) (fun _ => by omega)
      | false =>
        refine ok_if false rfl rfl hN ?_
        refine ok_p rfl rfl rfl ?_
        refine ok_p rfl rfl rfl ?_
        exact second _ (Or.inr rfl) (fun h => absurd h (by decide))
