/-! CONTRACTS BY HAND: a matter that is told -/
theorem cx_en_scr (X : Option (List AI)) {G : Nat → Option CT} {gs : GS} {cts : Nat → List CX} {mac : Nat → Nat → Option (CX × Nat)} {hd : Nat → Option HX} {c : CX} (n : Nat) : cx_en (tb_P X) G gs cts mac hd c n = cx_en (tb_P none) G gs cts mac hd c n := by
  unfold cx_en
  simp only [xw2_scr X]
def mt_P : List PB := [(190, 19, 0, 400), (190, 21, 0, 400), (190, 25, 0, 400), (190, 22, 0, 6)]
def mt_R : List RL := [(.inr (.inl 0), .inr (.inr (190, 19)), 0), (.inr (.inr (190, 25)), .inr (.inl 1), 0), (.inr (.inl 1), .inr (.inr (190, 25)), 0), (.inr (.inr (190, 22)), .inr (.inl 2), 0), (.inr (.inl 2), .inr (.inr (190, 22)), 0), (.inr (.inr (190, 21)), .inr (.inr (190, 19)), 0)]
def mt_h4 : HX := ([(0, .inr (.inl 190))], mt_P, mt_R, 401, [(1, some (.inr (.inr (190, 19))))])
def mt_h28 : HX := ([(0, .inr (.inl 190))], mt_P, mt_R, 0, [(1, none)])
def mt_hs : List (Nat × HX) := [(4, mt_h4), (28, mt_h28)]
set_option maxRecDepth 100000 in
theorem mt_ck : (cx_en (tb_P none) tb_G tr_gs (tr_ct 69) (fun _ _ => none) (hx_k mt_hs) trk_69 400 && hx_ck (tb_P none) tb_G tr_gs (tr_ct 69) (fun _ _ => none) (hx_k mt_hs) trk_69 400 4 mt_h4) = true := by decide +kernel
theorem tr_hct {X : Option (List AI)} {u r : Nat} (IH : ∀ q, q < r → ∀ u, cx_ok (tb_P X) tb_G (rf_G u) (tr_at q)) : ∀ mj c', c' ∈ tr_ct r mj → c'.1.1 = mj ∧ cx_ok (tb_P X) tb_G (rf_G u) c' := fun mj c' hc' => by
  obtain ⟨q, h1, h2, rfl⟩ := tr_f_mem (show c' ∈ tr_f r (tr_K mj) from hc')
  exact ⟨(tr_Kk h1).1, IH q h2 u⟩
theorem i32_48 : ((Int8.ofInt 48).toInt32).toInt = 48 := by decide
theorem i32_8 : ((Int8.ofInt 8).toInt32).toInt = 8 := by decide
set_option maxRecDepth 20000 in
set_option maxHeartbeats 1000000 in
theorem mt_hand (X : Option (List AI)) (u : Nat) : hh_ok (tb_P X) tb_G (rf_G u) (hx_k mt_hs) trk_69 28 mt_h28 := by
  intro C0 EV cl C z hE hg hm hz hfr _
  obtain ⟨hI, hloc, ⟨NV, hNV⟩, hrl⟩ := hg
  obtain ⟨l0, hl0, rfl⟩ := hloc _ List.mem_cons_self
  have hNV' := hNV
  obtain ⟨zP, E1, rfl, ⟨pP, p1, p2⟩, hp1⟩ := ea_rl_cons hNV'
  obtain ⟨zB, E2, rfl, ⟨pB, b1, b2⟩, hp2⟩ := ea_rl_cons hp1
  dsimp only at p1 p2 b1 b2
  obtain ⟨ms, m1, m2, m3⟩ := hI_f hI (show tb_G 190 = some (.inl (12, _)) from rfl)
  obtain ⟨_, r17, rfl⟩ := m3 17 (.inr 203) rfl
  obtain ⟨d, us, a1, a2⟩ := hI_a hI (show tb_G 203 = some (.inr (2, 400, _, _)) from rfl)
  obtain ⟨p, ⟨ci, vs', f1, r19⟩, rfl⟩ := fd_of_pv (a := 190) (by decide) m1 pP
  rw [m1] at f1
  cases f1
  obtain ⟨b, ⟨ci, vs', f1, r21⟩, rfl⟩ := fd_of_pv (a := 190) (by decide) m1 pB
  rw [m1] at f1
  cases f1
  have e69 : ∀ y : Int32, cx_po trk_69 (some (.inl (.inl y))) = trk_69.2.2.2.2 := fun y => by
    show (if _ then _ else _) = _
    split <;> rfl
  have hend : ∀ y : Int32, -1584 ≤ y.toInt → y.toInt ≤ 63 → cx_post (rf_G u) tb_G trk_69 EV C0 (.inl (some (.inl (.inl y)))) C := fun y y1 y2 => by
    refine ⟨_, rfl, hI, hfr, ⟨y, rfl, y1, y2⟩, ?_⟩
    rw [e69]
    exact ⟨⟨_, hNV⟩, rl_cl hrl (fun q hq => by
      rcases List.mem_cons.mp hq with rfl | hq
      · exact .head _
      rcases List.mem_cons.mp hq with rfl | hq
      · exact .tail _ (.head _)
      rcases List.mem_cons.mp hq with rfl | hq
      · exact .tail _ (.tail _ (.head _))
      rcases List.mem_cons.mp hq with rfl | hq
      · exact .tail _ (.tail _ (.tail _ (.head _)))
      rcases List.mem_cons.mp hq with rfl | hq
      · exact .tail _ (.tail _ (.tail _ (.tail _ (.head _))))
      · exact nomatch hq) rfl⟩
  have byte : ∀ {x : Int32} {j : Nat}, x.toInt = (j : Int) → j < 400 → ∃ w : Int32, ea_al d us j = .inl (.inl w) ∧ -128 ≤ w.toInt ∧ w.toInt ≤ 127 := fun {x j} _ hj => by
    obtain ⟨f, f1, f2⟩ := el_get (by decide) (a2 j hj)
    rw [Nat.mod_one] at f1
    cases (show some (Sum.inl (-128, 127)) = some f from f1)
    exact f2
  have hs : (p - b).toInt = p.toInt - b.toInt := i32_sub (by omega) (by omega)
  refine ok_an rfl hl0 rfl ?_
  refine ok_gf rfl rfl m1 r19 ?_
  refine ok_an rfl hl0 rfl ?_
  refine ok_gf rfl rfl m1 r21 ?_
  refine ok_p rfl rfl rfl ?_
  refine ok_p rfl rfl rfl ?_
  cases hq : ea_ck .eq (p - b) (Int32.ofInt 2) with
  | false =>
    refine ok_ic false rfl rfl hq ?_
    refine ok_p rfl rfl rfl ?_
    exact ok_r rfl rfl rfl rfl rfl (hend _ (by decide) (by decide))
  | true =>
    have h2 : (p - b).toInt = 2 := by
      have h1 : decide (p - b = Int32.ofInt 2) = true := hq
      rw [decide_eq_true_eq] at h1
      rw [h1]
      decide
    refine ok_ic true rfl rfl hq ?_
    have ixb : b.toInt = ((b.toInt.toNat : Nat) : Int) := by omega
    obtain ⟨w, w1, w2, w3⟩ := byte ixb (by omega)
    have ixc : (b + Int32.ofInt 1).toInt = ((b.toInt.toNat + 1 : Nat) : Int) := by
      rw [i32_add (by rw [show (Int32.ofInt 1).toInt = 1 by decide]; omega) (by rw [show (Int32.ofInt 1).toInt = 1 by decide]; omega), show (Int32.ofInt 1).toInt = 1 by decide]
      omega
    obtain ⟨y, y1, y2, y3⟩ := byte ixc (by omega)
    have s1 : (w - (Int8.ofInt 48).toInt32).toInt = w.toInt - 48 := by rw [i32_sub (by rw [i32_48]; omega) (by rw [i32_48]; omega), i32_48]
    have s2 : (y - (Int8.ofInt 48).toInt32).toInt = y.toInt - 48 := by rw [i32_sub (by rw [i32_48]; omega) (by rw [i32_48]; omega), i32_48]
    have l0 := lk_s1_n1 (a := .inl (.inl (w - (Int8.ofInt 48).toInt32))) hl0 rfl (show 0 ≠ 1 by decide)
    have l1 := lk_s1 cl 1 (.inl (.inl (w - (Int8.ofInt 48).toInt32)))
    refine ok_an rfl hl0 rfl ?_
    refine ok_gf rfl rfl m1 r17 ?_
    refine ok_an rfl hl0 rfl ?_
    refine ok_gf rfl rfl m1 r21 ?_
    refine ok_bl rfl a1 (ix_of ixb (by omega)) w1 ?_
    refine ok_p rfl rfl rfl ?_
    refine ok_p rfl rfl rfl ?_
    refine ok_p rfl rfl rfl ?_
    refine ok_an rfl l0 rfl ?_
    refine ok_gf rfl rfl m1 r17 ?_
    refine ok_an rfl l0 rfl ?_
    refine ok_gf rfl rfl m1 r21 ?_
    refine ok_p rfl rfl rfl ?_
    refine ok_p rfl rfl rfl ?_
    refine ok_bl rfl a1 (ix_of ixc (by omega)) y1 ?_
    refine ok_p rfl rfl rfl ?_
    refine ok_p rfl rfl rfl ?_
    refine ok_p rfl rfl rfl ?_
    have k1 := lk_s1_n1 (a := .inl (.inl (y - (Int8.ofInt 48).toInt32))) l1 rfl (show 1 ≠ 2 by decide)
    have k2 := lk_s1 (ea_s1 cl 1 (.inl (.inl (w - (Int8.ofInt 48).toInt32)))) 2 (.inl (.inl (y - (Int8.ofInt 48).toInt32)))
    refine ok_in rfl k1 ?_
    refine ok_p rfl rfl rfl ?_
    cases hd : ea_ck .ge (w - (Int8.ofInt 48).toInt32) (Int8.ofInt 8).toInt32 with
    | true =>
      refine ok_ic true rfl rfl hd ?_
      refine ok_p rfl rfl rfl ?_
      exact ok_r rfl rfl rfl rfl rfl (hend _ (by decide) (by decide))
    | false =>
      refine ok_ic false rfl rfl hd ?_
      have d1 : ¬ (Int8.ofInt 8).toInt32 ≤ (w - (Int8.ofInt 48).toInt32) := of_decide_eq_false hd
      rw [Int32.le_iff_toInt_le, s1, i32_8] at d1
      refine ok_in rfl k2 ?_
      refine ok_p rfl rfl rfl ?_
      cases he : ea_ck .ge (y - (Int8.ofInt 48).toInt32) (Int8.ofInt 8).toInt32 with
      | true =>
        refine ok_ic true rfl rfl he ?_
        refine ok_p rfl rfl rfl ?_
        exact ok_r rfl rfl rfl rfl rfl (hend _ (by decide) (by decide))
      | false =>
        refine ok_ic false rfl rfl he ?_
        have d2 : ¬ (Int8.ofInt 8).toInt32 ≤ (y - (Int8.ofInt 48).toInt32) := of_decide_eq_false he
        rw [Int32.le_iff_toInt_le, s2, i32_8] at d2
        refine ok_p rfl rfl rfl ?_
        refine ok_in rfl k1 ?_
        refine ok_p rfl rfl rfl ?_
        refine ok_in rfl k2 ?_
        refine ok_p rfl rfl rfl ?_
        refine ok_p rfl rfl rfl ?_
        have t1 : ((Int8.ofInt 8).toInt32 * (w - (Int8.ofInt 48).toInt32)).toInt = 8 * (w.toInt - 48) := by
          rw [i32_mul (by rw [i32_8, s1]; omega) (by rw [i32_8, s1]; omega), i32_8, s1]
        have t2 : ((Int8.ofInt 8).toInt32 * (w - (Int8.ofInt 48).toInt32) + (y - (Int8.ofInt 48).toInt32)).toInt = 8 * (w.toInt - 48) + (y.toInt - 48) := by
          rw [i32_add (by rw [t1, s2]; omega) (by rw [t1, s2]; omega), t1, s2]
        exact ok_r rfl rfl rfl rfl rfl (hend ((Int8.ofInt 8).toInt32 * (w - (Int8.ofInt 48).toInt32) + (y - (Int8.ofInt 48).toInt32)) (by rw [t2]; omega) (by rw [t2]; omega))
theorem tr_h69 (X : Option (List AI)) (u : Nat) (IH : ∀ q, q < 69 → ∀ u, cx_ok (tb_P X) tb_G (rf_G u) (tr_at q)) : cx_ok (tb_P X) tb_G (rf_G u) trk_69 := by
  have h := mt_ck
  simp only [Bool.and_eq_true] at h
  refine cx_by_h tr_G9 (rf_gs u) (tr_hct IH) no_m (hd := hx_k mt_hs) 400 (fun pc a ha => ?_) (by rw [cx_en_scr X]; exact h.1)
  have hmem := hx_k_mem ha
  rcases List.mem_cons.mp hmem with e | hmem
  · cases e
    left
    rw [hx_ck_scr X]
    exact h.2
  · rcases List.mem_cons.mp hmem with e | hmem
    · cases e
      exact Or.inr (mt_hand X u)
    · exact nomatch hmem
