/-! CONTRACTS BY HAND: what was watched is laid, codes -/
section LAY
variable (X : Option (List AI)) (u : Nat)
theorem wa_of {u : Nat} {C : List AC} {z : Int} (h : pv (rf_G u) C 1006 0 z) (h1 : 1 ≤ z) (h2 : z ≤ 1) : rf_wa C := rf_b_of (p := rf_wa C) (by
  have h3 : rf_G u 1006 C = z := h
  have h4 : rf_G u 1006 C = rf_b (rf_wa C) := rfl
  omega)
theorem wa_st {u : Nat} {C C' : List AC} (h : rf_G u 1006 C' = rf_G u 1006 C) (hW : rf_wa C) : rf_wa C' := rf_b_of (p := rf_wa C') (by
  have h1 : rf_G u 1006 C' = rf_b (rf_wa C') := rfl
  have h2 : rf_G u 1006 C = rf_b (rf_wa C) := rfl
  have h3 := rf_b_1 hW
  omega)
theorem fr_209 (u : Nat) {C : List AC} {d : AV} {us : List (Nat × AV)} (hC : ea_nt C 209 = some (.inl (0, 400, d, us))) {j : Nat} {v : AV} : fr_c (rf_G u) [(207, 208), (209, 210)] C (C.set 209 (.inl (0, 400, d, (j, v) :: us))) := by
  refine ⟨fun b hb => ?_, fun k hk hm => rf_gs u k C _ (fun a i hq => ?_)⟩
  · have : (209 : Nat) ≠ b := by
      rintro rfl
      exact absurd hb (by decide)
    rw [nt_set_ne this]
  · obtain ⟨q, q1, q2, q3, q4, q5⟩ := hq
    refine cv_eq (nt_set_ne ?_) i
    rintro rfl
    exact absurd q3 ((show ∀ q ∈ tr_gs, q.2.1 ≠ 209 by decide) q q1)
set_option maxRecDepth 20000 in
set_option maxHeartbeats 2000000 in
theorem lay_loop (IH : ∀ q, q < 134 → ∀ u, cx_ok (tb_P X) tb_G (rf_G u) (tr_at q)) {C0 : List AC} {zW zJ : Int} (q1 : 1 ≤ zW) (q2 : zW ≤ 1) (q3 : 1 ≤ zJ) (q4 : zJ ≤ 1) {e : Int32} (e2 : e.toInt ≤ 400) {K : Option AV ⊕ Nat → List AC → Prop} (hK : ∀ C, xI tb_G C → fr_c (rf_G u) [(207, 208), (209, 210)] C0 C → K (.inl none) C) : ∀ (r j : Nat) (k : Int32) (C : List AC), r + j = 134 → k.toInt = ((3 * j : Nat) : Int) → xI tb_G C → fr_c (rf_G u) [(207, 208), (209, 210)] C0 C → fd_g C 190 20 e → pv (rf_G u) C 999 0 zW → pv (rf_G u) C 1001 0 zJ → rf_wa C → ok_ (tb_P X) 276 2 [(1, .inl (.inl k)), (0, .inr (.inl (some 190)))] [] C K := by
  intro r
  induction r with
  | zero =>
    intro j k C hr hk hI hF he pW pJ hwa
    obtain ⟨ms, m1, m2, m3⟩ := hI_f hI (show tb_G 190 = some (.inl (12, _)) from rfl)
    obtain ⟨ci, vs', f1, r20⟩ := he
    rw [m1] at f1
    cases f1
    refine ok_p rfl rfl rfl ?_
    refine ok_p rfl rfl rfl ?_
    refine ok_gf rfl rfl m1 r20 ?_
    have hq : ea_ck .ge k e = true := by
      show decide (e ≤ k) = true
      rw [decide_eq_true_eq, Int32.le_iff_toInt_le]
      omega
    refine ok_ic true rfl rfl hq ?_
    exact ok_r rfl rfl rfl rfl rfl (hK C hI hF)
  | succ r IHr =>
    intro j k C hr hk hI hF he pW pJ hwa
    obtain ⟨ms, m1, m2, m3⟩ := hI_f hI (show tb_G 190 = some (.inl (12, _)) from rfl)
    obtain ⟨ci, vs', f1, r20⟩ := he
    have hev := rf_f f1 r20
    rw [m1] at f1
    cases f1
    obtain ⟨_, r17, rfl⟩ := m3 17 (.inr 203) rfl
    obtain ⟨_, r32, rfl⟩ := m3 32 (.inr 209) rfl
    obtain ⟨d, us, a1, a2⟩ := hI_a hI (show tb_G 203 = some (.inr (2, 400, 1, [.inl (-128, 127)])) from rfl)
    have k1 : (k + Int32.ofInt 1).toInt = ((3 * j + 1 : Nat) : Int) := by
      rw [i32_add (by rw [i_1]; omega) (by rw [i_1]; omega), i_1]
      omega
    have k3 : (k + Int32.ofInt 3).toInt = ((3 * (j + 1) : Nat) : Int) := by
      rw [i32_add (by rw [i_3]; omega) (by rw [i_3]; omega), i_3]
      omega
    refine ok_p rfl rfl rfl ?_
    refine ok_p rfl rfl rfl ?_
    refine ok_gf rfl rfl m1 r20 ?_
    cases hq : ea_ck .ge k e with
    | true =>
      refine ok_ic true rfl rfl hq ?_
      exact ok_r rfl rfl rfl rfl rfl (hK C hI hF)
    | false =>
      have hle : ¬ e ≤ k := of_decide_eq_false hq
      rw [Int32.le_iff_toInt_le] at hle
      refine ok_ic false rfl rfl hq ?_
      have hwt := hwa.2.2 j (by omega) (by rw [hev]; omega)
      have h3 := hwa.1
      rw [hev] at h3
      have byte : ∀ j : Nat, j < 400 → ∃ w : Int32, ea_al d us j = .inl (.inl w) ∧ rf_v C 203 j = w.toInt := fun j hj => by
        obtain ⟨f, f1, f2⟩ := el_get (by decide) (a2 j hj)
        rw [Nat.mod_one] at f1
        cases (show some (Sum.inl (-128, 127)) = some f from f1)
        obtain ⟨w, f2, -, -⟩ := f2
        exact ⟨w, f2, rf_el a1 hj f2⟩
      obtain ⟨w0, w01, w02⟩ := byte (3 * j) (by omega)
      obtain ⟨w1, w11, w12⟩ := byte (3 * j + 1) (by omega)
      rw [w02, w12] at hwt
      refine ok_p rfl rfl rfl ?_
      refine ok_gf rfl rfl m1 r32 ?_
      refine ok_p rfl rfl rfl ?_
      refine ok_p rfl rfl rfl ?_
      refine ok_p rfl rfl rfl ?_
      refine ok_cx (c := trk_133) (show cx_ok (tb_P X) tb_G (rf_G u) trk_133 from IH 133 (by decide) u) (as := []) (T := [.inr (.inl (some 190)), .inl (.inl k), .inr (.inl (some 209))]) (EV := [zW, zJ]) rfl rfl m1 rfl rfl rfl ⟨rfl, trivial⟩ hI ⟨⟨pW, q1, q2⟩, ⟨pJ, q3, q4⟩, trivial⟩ (fun q hq => nomatch hq) (fun w C2 I2 F2 rv P2 => ?_)
      obtain rfl := nt_ext (fun b => F2.1 b rfl)
      obtain ⟨y, rfl, z1, z2⟩ := rv
      show ok_ (tb_P X) 276 20 _ [.inl (.inl y), .inr (.inl (some 190)), .inl (.inl k), .inr (.inl (some 209))] C2 K
      refine ok_p rfl rfl rfl ?_
      refine ok_gf rfl rfl m1 r17 ?_
      refine ok_p rfl rfl rfl ?_
      refine ok_p rfl rfl rfl ?_
      refine ok_p rfl rfl rfl ?_
      refine ok_bl rfl a1 (ix_of k1 (by omega)) w11 ?_
      refine ok_p rfl rfl rfl ?_
      refine ok_gf rfl rfl m1 r17 ?_
      refine ok_p rfl rfl rfl ?_
      refine ok_bl rfl a1 (ix_of hk (by omega)) w01 ?_
      refine ok_cx (c := fn_c) (fn_ok X u (fun q hq u => IH q (Nat.lt_trans hq (by decide)) u)) (as := [.inl (.inl y), .inl (.inl w1), .inl (.inl w0)]) (T := [.inl (.inl k), .inr (.inl (some 209))]) (EV := [zW, zJ]) rfl rfl m1 rfl rfl rfl ⟨rfl, ⟨_, rfl, Int32.le_toInt y, Int.le_of_lt_add_one (Int32.toInt_lt y)⟩, ⟨_, rfl, hwt.2.1, hwt.2.2⟩, ⟨_, rfl, hwt.1.1, hwt.1.2⟩, trivial⟩ I2 ⟨⟨pW, q1, q2⟩, ⟨pJ, q3, q4⟩, trivial⟩ (fun q hq => nomatch hq) (fun w C3 I3 F3 rv P3 => ?_)
      obtain ⟨x, rfl, -, -⟩ := rv
      show ok_ (tb_P X) 276 37 _ [.inl (.inl x), .inl (.inl k), .inr (.inl (some 209))] C3 K
      obtain ⟨dv, uv, b1, b2⟩ := hI_a I3 (show tb_G 209 = some (.inr (0, 400, 1, [.inl ((-2147483648), 2147483647)])) from rfl)
      have n1 : ea_nt C3 190 = some (.inr (12, ms)) := by rw [F3.1 190 rfl]; exact m1
      refine ok_as rfl b1 (ix_of hk (by omega)) ?_
      have I4 := xI_sa I3 (show tb_G 209 = some (.inr (0, 400, 1, [.inl ((-2147483648), 2147483647)])) from rfl) b1 (j := 3 * j) (v := .inl (.inl x)) (el_put (by decide) ⟨.inl ((-2147483648), 2147483647), by rw [Nat.mod_one]; rfl, x, rfl, Int32.le_toInt x, Int.le_of_lt_add_one (Int32.toInt_lt x)⟩)
      have F4 := fr_209 u b1 (j := 3 * j) (v := .inl (.inl x))
      have N4 : ea_nt (C3.set 209 (.inl (0, 400, dv, (3 * j, .inl (.inl x)) :: uv))) 190 = some (.inr (12, ms)) := by rw [nt_set_ne (by decide)]; exact n1
      revert I4 F4 N4
      generalize C3.set 209 (.inl (0, 400, dv, (3 * j, .inl (.inl x)) :: uv)) = C4
      intro I4 F4 N4
      have F34 : fr_c (rf_G u) [(207, 208), (209, 210)] C2 C4 := fr_c_same (fr_c_tr (fr_c_rf _ _ C2) (M' := [(207, 208)]) (by decide) F3) F4
      refine ok_p rfl rfl rfl ?_
      refine ok_p rfl rfl rfl ?_
      refine IHr (j + 1) (k + Int32.ofInt 3) C4 (by omega) k3 I4 (fr_c_same hF F34) ⟨_, _, N4, r20⟩ ?_ ?_ (wa_st (u := u) (F34.2 1006 (by decide) (by decide)) hwa)
      · show rf_G u 999 C4 = zW
        rw [F34.2 999 (by decide) (by decide)]
        exact pW
      · show rf_G u 1001 C4 = zJ
        rw [F34.2 1001 (by decide) (by decide)]
        exact pJ
end LAY
set_option maxRecDepth 20000 in
theorem tr_h134 (X : Option (List AI)) (u : Nat) (IH : ∀ q, q < 134 → ∀ u, cx_ok (tb_P X) tb_G (rf_G u) (tr_at q)) : cx_ok (tb_P X) tb_G (rf_G u) trk_134 := by
  intro vs C EV hvs hI hpre hrel
  obtain ⟨v0, t0, rfl, h0, hvs1⟩ := ea_rl_cons hvs
  obtain rfl := ea_rl_nil hvs1
  obtain rfl : v0 = .inr (.inl (some 190)) := h0
  obtain ⟨zW, E1, rfl, ⟨pW, q1, q2⟩, hp2⟩ := ea_rl_cons hpre
  obtain ⟨zJ, E2, rfl, ⟨pJ, q3, q4⟩, hp3⟩ := ea_rl_cons hp2
  obtain ⟨zA, E3, rfl, ⟨pA, q5, q6⟩, hp4⟩ := ea_rl_cons hp3
  obtain rfl := ea_rl_nil hp4
  dsimp only at q1 q2 q3 q4 q5 q6
  have hwa := wa_of pA q5 q6
  obtain ⟨ms, m1, m2, m3⟩ := hI_f hI (show tb_G 190 = some (.inl (12, _)) from rfl)
  obtain ⟨_, r20, e, rfl, e1, e2⟩ := m3 20 (.inl (0, 400)) rfl
  refine ok_p rfl rfl rfl ?_
  refine ok_p rfl rfl rfl ?_
  exact lay_loop X u IH q1 q2 q3 q4 e2 (fun C' I' F' => ⟨none, rfl, I', F', rfl, po_n rfl rfl⟩) 134 0 (Int32.ofInt 0) C rfl (by decide) hI (fr_c_rf _ _ C) ⟨_, _, m1, r20⟩ pW pJ hwa
section ICO
variable (X : Option (List AI)) (u : Nat) {C : List AC} {K : Option AV ⊕ Nat → List AC → Prop}
set_option maxRecDepth 20000 in
set_option maxHeartbeats 2000000 in
theorem ico_loop (hI : xI tb_G C) (hwa : rf_wa C) {s : Int32} (hK : ∀ v : Int32, (v = Int32.ofInt 0 ∨ v = Int32.ofInt 1) → K (.inl (some (.inl (.inl v)))) C) : ∀ (r j : Nat) (k v : Int32), r + j = 134 → k.toInt = ((3 * j : Nat) : Int) → (v = Int32.ofInt 0 ∨ v = Int32.ofInt 1) → ok_ (tb_P X) 277 19 [(3, .inl (.inl k)), (2, .inl (.inl v)), (0, .inr (.inl (some 190))), (1, .inl (.inl s))] [] C K := by
  obtain ⟨ms, m1, m2, m3⟩ := hI_f hI (show tb_G 190 = some (.inl (12, _)) from rfl)
  obtain ⟨_, r20, e, rfl, e1, e2⟩ := m3 20 (.inl (0, 400)) rfl
  dsimp only at e1 e2
  obtain ⟨_, r17, rfl⟩ := m3 17 (.inr 203) rfl
  obtain ⟨_, r32, rfl⟩ := m3 32 (.inr 209) rfl
  obtain ⟨d, us, a1, a2⟩ := hI_a hI (show tb_G 203 = some (.inr (2, 400, 1, [.inl (-128, 127)])) from rfl)
  obtain ⟨dv, uv, b1, b2⟩ := hI_a hI (show tb_G 209 = some (.inr (0, 400, 1, [.inl ((-2147483648), 2147483647)])) from rfl)
  have hev := rf_f m1 r20
  have h3 := hwa.1
  rw [hev] at h3
  intro r
  induction r with
  | zero =>
    intro j k v hr hk hv
    refine ok_p rfl rfl rfl ?_
    refine ok_p rfl rfl rfl ?_
    refine ok_gf rfl rfl m1 r20 ?_
    have hq : ea_ck .ge k e = true := by
      show decide (e ≤ k) = true
      rw [decide_eq_true_eq, Int32.le_iff_toInt_le]
      omega
    refine ok_ic true rfl rfl hq ?_
    rcases hv with rfl | rfl
    · refine ok_p rfl rfl rfl ?_
      exact ok_r rfl rfl rfl rfl rfl (hK _ (Or.inl rfl))
    · refine ok_p rfl rfl rfl ?_
      exact ok_r rfl rfl rfl rfl rfl (hK _ (Or.inr rfl))
  | succ r IHr =>
    intro j k v hr hk hv
    have k2 : (k + Int32.ofInt 2).toInt = ((3 * j + 2 : Nat) : Int) := by
      rw [i32_add (by rw [i_2]; omega) (by rw [i_2]; omega), i_2]
      omega
    have k3 : (k + Int32.ofInt 3).toInt = ((3 * (j + 1) : Nat) : Int) := by
      rw [i32_add (by rw [i_3]; omega) (by rw [i_3]; omega), i_3]
      omega
    refine ok_p rfl rfl rfl ?_
    refine ok_p rfl rfl rfl ?_
    refine ok_gf rfl rfl m1 r20 ?_
    cases hq : ea_ck .ge k e with
    | true =>
      refine ok_ic true rfl rfl hq ?_
      rcases hv with rfl | rfl
      · refine ok_p rfl rfl rfl ?_
        exact ok_r rfl rfl rfl rfl rfl (hK _ (Or.inl rfl))
      · refine ok_p rfl rfl rfl ?_
        exact ok_r rfl rfl rfl rfl rfl (hK _ (Or.inr rfl))
    | false =>
      have hle : ¬ e ≤ k := of_decide_eq_false hq
      rw [Int32.le_iff_toInt_le] at hle
      refine ok_ic false rfl rfl hq ?_
      rcases hv with rfl | rfl
      · refine ok_p rfl rfl rfl ?_
        refine ok_p rfl rfl rfl ?_
        refine ok_p rfl rfl rfl ?_
        exact ok_r rfl rfl rfl rfl rfl (hK _ (Or.inl rfl))
      have back : ∀ v : Int32, (v = Int32.ofInt 0 ∨ v = Int32.ofInt 1) → ok_ (tb_P X) 277 72 [(3, .inl (.inl k)), (2, .inl (.inl (Int32.ofInt 1))), (0, .inr (.inl (some 190))), (1, .inl (.inl s))] [.inl (.inl v)] C K := by
        intro v hv
        refine ok_p rfl rfl rfl ?_
        refine ok_p rfl rfl rfl ?_
        refine ok_p rfl rfl rfl ?_
        exact IHr (j + 1) (k + Int32.ofInt 3) v (by omega) k3 hv
      obtain ⟨f, f1, f2⟩ := el_get (by decide) (a2 (3 * j + 2) (by omega))
      rw [Nat.mod_one] at f1
      cases (show some (Sum.inl (-128, 127)) = some f from f1)
      obtain ⟨w, w1, -, -⟩ := f2
      obtain ⟨f, g1, g2⟩ := el_get (by decide) (b2 (3 * j) (by omega))
      rw [Nat.mod_one] at g1
      cases (show some (.inl ((-2147483648), 2147483647)) = some f from g1)
      obtain ⟨x, x1, -, -⟩ := g2
      have right : ∀ y : Int32, (y = Int32.ofInt 0 ∨ y = Int32.ofInt 1) → ok_ (tb_P X) 277 47 [(3, .inl (.inl k)), (2, .inl (.inl (Int32.ofInt 1))), (0, .inr (.inl (some 190))), (1, .inl (.inl s))] [.inl (.inl y)] C K := by
        intro y hy
        refine ok_p rfl rfl rfl ?_
        refine ok_gf rfl rfl m1 r17 ?_
        refine ok_p rfl rfl rfl ?_
        refine ok_p rfl rfl rfl ?_
        refine ok_p rfl rfl rfl ?_
        refine ok_bl rfl a1 (ix_of k2 (by omega)) w1 ?_
        refine ok_p rfl rfl rfl ?_
        cases hn : ea_ck .ne w (Int32.ofInt 1) with
        | true =>
          refine ok_ic true rfl rfl hn ?_
          refine ok_p rfl rfl rfl ?_
          rcases hy with rfl | rfl
          · refine ok_p rfl rfl rfl ?_
            refine ok_p rfl rfl rfl ?_
            refine ok_p rfl rfl rfl ?_
            exact back _ (Or.inr rfl)
          · refine ok_p rfl rfl rfl ?_
            refine ok_p rfl rfl rfl ?_
            exact back _ (Or.inl rfl)
        | false =>
          refine ok_ic false rfl rfl hn ?_
          refine ok_p rfl rfl rfl ?_
          refine ok_p rfl rfl rfl ?_
          rcases hy with rfl | rfl
          · refine ok_p rfl rfl rfl ?_
            refine ok_p rfl rfl rfl ?_
            exact back _ (Or.inl rfl)
          · refine ok_p rfl rfl rfl ?_
            refine ok_p rfl rfl rfl ?_
            refine ok_p rfl rfl rfl ?_
            exact back _ (Or.inr rfl)
      refine ok_p rfl rfl rfl ?_
      refine ok_p rfl rfl rfl ?_
      refine ok_p rfl rfl rfl ?_
      refine ok_gf rfl rfl m1 r32 ?_
      refine ok_p rfl rfl rfl ?_
      refine ok_al rfl b1 (ix_of hk (by omega)) x1 ?_
      refine ok_p rfl rfl rfl ?_
      refine ok_p rfl rfl rfl ?_
      cases hn : ea_ck .eq (x &&& s) 0 with
      | true =>
        refine ok_if true rfl rfl hn ?_
        refine ok_p rfl rfl rfl ?_
        exact right _ (Or.inl rfl)
      | false =>
        refine ok_if false rfl rfl hn ?_
        refine ok_p rfl rfl rfl ?_
        refine ok_p rfl rfl rfl ?_
        exact right _ (Or.inr rfl)
end ICO
set_option maxRecDepth 20000 in
set_option maxHeartbeats 1000000 in
theorem tr_h135 (X : Option (List AI)) (u : Nat) (IH : ∀ q, q < 135 → ∀ u, cx_ok (tb_P X) tb_G (rf_G u) (tr_at q)) : cx_ok (tb_P X) tb_G (rf_G u) trk_135 := by
  intro vs C EV hvs hI hpre hrel
  obtain ⟨v0, t0, rfl, h0, hvs1⟩ := ea_rl_cons hvs
  obtain ⟨v1, t1, rfl, ⟨s, rfl, s1, s2⟩, hvs2⟩ := ea_rl_cons hvs1
  obtain rfl := ea_rl_nil hvs2
  obtain rfl : v0 = .inr (.inl (some 190)) := h0
  obtain ⟨zW, E1, rfl, ⟨pW, q1, q2⟩, hp2⟩ := ea_rl_cons hpre
  obtain ⟨zJ, E2, rfl, ⟨pJ, q3, q4⟩, hp3⟩ := ea_rl_cons hp2
  obtain ⟨zA, E3, rfl, ⟨pA, q5, q6⟩, hp4⟩ := ea_rl_cons hp3
  obtain rfl := ea_rl_nil hp4
  dsimp only at q1 q2 q3 q4 q5 q6
  have hwa := wa_of pA q5 q6
  obtain ⟨ms, m1, m2, m3⟩ := hI_f hI (show tb_G 190 = some (.inl (12, _)) from rfl)
  have fin : ∀ v : Int32, (v = Int32.ofInt 0 ∨ v = Int32.ofInt 1) → cx_post (rf_G u) tb_G trk_135 [zW, zJ, zA] C (.inl (some (.inl (.inl v)))) C := by
    intro v hv
    rcases hv with rfl | rfl
    · exact ⟨_, rfl, hI, fr_c_rf _ _ C, ⟨_, rfl, by decide, by decide⟩, po_n rfl rfl⟩
    · exact ⟨_, rfl, hI, fr_c_rf _ _ C, ⟨_, rfl, by decide, by decide⟩, po_n rfl rfl⟩
  refine ok_p rfl rfl rfl ?_
  refine ok_p rfl rfl rfl ?_
  refine ok_cx (c := trk_133) (show cx_ok (tb_P X) tb_G (rf_G u) trk_133 from IH 133 (by decide) u) (as := []) (T := [.inl (.inl s)]) (EV := [zW, zJ]) rfl rfl m1 rfl rfl rfl ⟨rfl, trivial⟩ hI ⟨⟨pW, q1, q2⟩, ⟨pJ, q3, q4⟩, trivial⟩ (fun q hq => nomatch hq) (fun w C2 I2 F2 rv P2 => ?_)
  obtain rfl := nt_ext (fun b => F2.1 b rfl)
  obtain ⟨y, rfl, z1, z2⟩ := rv
  show ok_ (tb_P X) 277 5 _ [.inl (.inl y), .inl (.inl s)] C2 _
  refine ok_p rfl rfl rfl ?_
  refine ok_p rfl rfl rfl ?_
  refine ok_p rfl rfl rfl ?_
  cases hn : ea_ck .ne (s &&& (y ^^^ Int32.ofInt (-1))) 0 with
  | true =>
    refine ok_if true rfl rfl hn ?_
    refine ok_p rfl rfl rfl ?_
    refine ok_p rfl rfl rfl ?_
    refine ok_p rfl rfl rfl ?_
    refine ok_p rfl rfl rfl ?_
    exact ico_loop X I2 hwa fin 134 0 (Int32.ofInt 0) (Int32.ofInt 0) rfl (by decide) (Or.inl rfl)
  | false =>
    refine ok_if false rfl rfl hn ?_
    refine ok_p rfl rfl rfl ?_
    refine ok_p rfl rfl rfl ?_
    refine ok_p rfl rfl rfl ?_
    refine ok_p rfl rfl rfl ?_
    refine ok_p rfl rfl rfl ?_
    exact ico_loop X I2 hwa fin 134 0 (Int32.ofInt 0) (Int32.ofInt 1) rfl (by decide) (Or.inr rfl)
