/-! CONTRACTS BY HAND: the code is read, and kept or brought back -/
theorem ok_ln {P : EP} {m pc : Nat} {L : List (Nat × AV)} {S : List AV} {C : List AC} {K : Option AV ⊕ Nat → List AC → Prop} {a kd n : Nat} {d : AV} {us : List (Nat × AV)} (hc : ep_cod P m pc = some (.arraylength, 1)) (hC : ea_nt C a = some (.inl (kd, n, d, us))) (h : ok_ P m (pc + 1) L (.inl (.inl (Int32.ofNat n)) :: S) C K) : ok_ P m pc L (.inr (.inl (some a)) :: S) C K :=
  ok_h (C' := none) hc rfl rfl (by simp only [ea_h, hC]) h
/-- k elements are copied, from one row to another -/
def cp_I (C : List AC) (a b k : Nat) (C' : List AC) : Prop := xI tb_G C' ∧ (∀ x, x ≠ b → ea_nt C' x = ea_nt C x) ∧ ∀ j, j < k → rf_v C' b j = rf_v C a j
section CPS
variable (X : Option (List AI)) {C : List AC} {K : Option AV ⊕ Nat → List AC → Prop}
set_option maxRecDepth 20000 in
set_option maxHeartbeats 1000000 in
theorem cp_a (hI : xI tb_G C) (hK : ∀ (x : Int32) (C' : List AC), cp_I C 201 205 48 C' → ok_ (tb_P X) 243 29 [(1, .inl (.inl x)), (0, .inr (.inl (some 190)))] [] C' K) : ∀ (m k : Nat) (x : Int32) (C' : List AC), m + k = 48 → x.toInt = (k : Int) → cp_I C 201 205 k C' → ok_ (tb_P X) 243 2 [(1, .inl (.inl x)), (0, .inr (.inl (some 190)))] [] C' K := by
  obtain ⟨ms, m1, m2, m3⟩ := hI_f hI (show tb_G 190 = some (.inl (12, _)) from rfl)
  obtain ⟨_, rl, rfl⟩ := m3 26 (.inr 205) rfl
  obtain ⟨_, rs, rfl⟩ := m3 13 (.inr 201) rfl
  intro m
  induction m with
  | zero =>
    intro k x C' hm hx hinv
    obtain ⟨I', F', -⟩ := id hinv
    have M1 : ea_nt C' 190 = some (.inr (12, ms)) := by rw [F' 190 (by decide)]; exact m1
    obtain ⟨dl, ul, l1, -⟩ := hI_a I' (show tb_G 205 = some (.inr (0, 48, 1, [.inl ((-2147483648), 2147483647)])) from rfl)
    refine ok_p rfl rfl rfl ?_
    refine ok_p rfl rfl rfl ?_
    refine ok_gf rfl rfl M1 rl ?_
    refine ok_ln rfl l1 ?_
    refine ok_ic true rfl rfl ?_ ?_
    · show decide (Int32.ofNat 48 ≤ x) = true
      rw [decide_eq_true_eq, Int32.le_iff_toInt_le, hx, show (Int32.ofNat 48).toInt = 48 by decide]
      omega
    · obtain rfl : k = 48 := by omega
      exact hK x C' hinv
  | succ m IH =>
    intro k x C' hm hx hinv
    obtain ⟨I', F', V'⟩ := id hinv
    have M1 : ea_nt C' 190 = some (.inr (12, ms)) := by rw [F' 190 (by decide)]; exact m1
    obtain ⟨da, ua, a1, a2⟩ := hI_a I' (show tb_G 201 = some (.inr (0, 48, 1, [.inl ((-2147483648), 2147483647)])) from rfl)
    obtain ⟨db, ub, b1, b2⟩ := hI_a I' (show tb_G 205 = some (.inr (0, 48, 1, [.inl ((-2147483648), 2147483647)])) from rfl)
    obtain ⟨y, y1, y2⟩ := any_el I' (a := 201) rfl a1 (show k < 48 by omega)
    have ix3 : (x + Int32.ofInt 1).toInt = ((k + 1 : Nat) : Int) := by
      rw [i32_add (by rw [i_1]; omega) (by rw [i_1]; omega), i_1]
      omega
    refine ok_p rfl rfl rfl ?_
    refine ok_p rfl rfl rfl ?_
    refine ok_gf rfl rfl M1 rl ?_
    refine ok_ln rfl b1 ?_
    refine ok_ic false rfl rfl ?_ ?_
    · show decide (Int32.ofNat 48 ≤ x) = false
      rw [decide_eq_false_iff_not, Int32.le_iff_toInt_le, hx, show (Int32.ofNat 48).toInt = 48 by decide]
      omega
    refine ok_p rfl rfl rfl ?_
    refine ok_gf rfl rfl M1 rl ?_
    refine ok_p rfl rfl rfl ?_
    refine ok_p rfl rfl rfl ?_
    refine ok_gf rfl rfl M1 rs ?_
    refine ok_p rfl rfl rfl ?_
    refine ok_al rfl a1 (ix_of hx (by omega)) y1 ?_
    refine ok_as rfl b1 (ix_of hx (by omega)) ?_
    refine ok_p rfl rfl rfl ?_
    refine ok_p rfl rfl rfl ?_
    refine IH (k + 1) (x + Int32.ofInt 1) _ (by omega) ix3 ⟨?_, fun z hz => ?_, fun j hj => ?_⟩
    · exact xI_sa I' (show tb_G 205 = some (.inr (0, 48, 1, [.inl ((-2147483648), 2147483647)])) from rfl) b1 (el_put (by decide) ⟨.inl ((-2147483648), 2147483647), by rw [Nat.mod_one]; rfl, y, rfl, Int32.le_toInt y, Int.le_of_lt_add_one (Int32.toInt_lt y)⟩)
    · rw [nt_set_ne (fun h => hz h.symm)]
      exact F' z hz
    · have e : rf_v C 201 j = rf_v C' 201 j := (rf_v_eq (cv_eq (F' 201 (by decide)) j)).symm
      by_cases hjk : j = k
      · subst hjk
        rw [rf_v_self b1 (by omega), e, y2]
      · rw [rf_v_set b1 (fun hc => hjk hc.2)]
        exact V' j (by omega)

set_option maxRecDepth 20000 in
set_option maxHeartbeats 1000000 in
theorem cp_b (hI : xI tb_G C) (hK : ∀ (x : Int32) (C' : List AC), cp_I C 202 206 800 C' → ok_ (tb_P X) 243 58 [(1, .inl (.inl x)), (0, .inr (.inl (some 190)))] [] C' K) : ∀ (m k : Nat) (x : Int32) (C' : List AC), m + k = 800 → x.toInt = (k : Int) → cp_I C 202 206 k C' → ok_ (tb_P X) 243 31 [(1, .inl (.inl x)), (0, .inr (.inl (some 190)))] [] C' K := by
  obtain ⟨ms, m1, m2, m3⟩ := hI_f hI (show tb_G 190 = some (.inl (12, _)) from rfl)
  obtain ⟨_, rl, rfl⟩ := m3 27 (.inr 206) rfl
  obtain ⟨_, rs, rfl⟩ := m3 14 (.inr 202) rfl
  intro m
  induction m with
  | zero =>
    intro k x C' hm hx hinv
    obtain ⟨I', F', -⟩ := id hinv
    have M1 : ea_nt C' 190 = some (.inr (12, ms)) := by rw [F' 190 (by decide)]; exact m1
    obtain ⟨dl, ul, l1, -⟩ := hI_a I' (show tb_G 206 = some (.inr (0, 800, 1, [.inl ((-2147483648), 2147483647)])) from rfl)
    refine ok_p rfl rfl rfl ?_
    refine ok_p rfl rfl rfl ?_
    refine ok_gf rfl rfl M1 rl ?_
    refine ok_ln rfl l1 ?_
    refine ok_ic true rfl rfl ?_ ?_
    · show decide (Int32.ofNat 800 ≤ x) = true
      rw [decide_eq_true_eq, Int32.le_iff_toInt_le, hx, show (Int32.ofNat 800).toInt = 800 by decide]
      omega
    · obtain rfl : k = 800 := by omega
      exact hK x C' hinv
  | succ m IH =>
    intro k x C' hm hx hinv
    obtain ⟨I', F', V'⟩ := id hinv
    have M1 : ea_nt C' 190 = some (.inr (12, ms)) := by rw [F' 190 (by decide)]; exact m1
    obtain ⟨da, ua, a1, a2⟩ := hI_a I' (show tb_G 202 = some (.inr (0, 800, 1, [.inl ((-2147483648), 2147483647)])) from rfl)
    obtain ⟨db, ub, b1, b2⟩ := hI_a I' (show tb_G 206 = some (.inr (0, 800, 1, [.inl ((-2147483648), 2147483647)])) from rfl)
    obtain ⟨y, y1, y2⟩ := any_el I' (a := 202) rfl a1 (show k < 800 by omega)
    have ix3 : (x + Int32.ofInt 1).toInt = ((k + 1 : Nat) : Int) := by
      rw [i32_add (by rw [i_1]; omega) (by rw [i_1]; omega), i_1]
      omega
    refine ok_p rfl rfl rfl ?_
    refine ok_p rfl rfl rfl ?_
    refine ok_gf rfl rfl M1 rl ?_
    refine ok_ln rfl b1 ?_
    refine ok_ic false rfl rfl ?_ ?_
    · show decide (Int32.ofNat 800 ≤ x) = false
      rw [decide_eq_false_iff_not, Int32.le_iff_toInt_le, hx, show (Int32.ofNat 800).toInt = 800 by decide]
      omega
    refine ok_p rfl rfl rfl ?_
    refine ok_gf rfl rfl M1 rl ?_
    refine ok_p rfl rfl rfl ?_
    refine ok_p rfl rfl rfl ?_
    refine ok_gf rfl rfl M1 rs ?_
    refine ok_p rfl rfl rfl ?_
    refine ok_al rfl a1 (ix_of hx (by omega)) y1 ?_
    refine ok_as rfl b1 (ix_of hx (by omega)) ?_
    refine ok_p rfl rfl rfl ?_
    refine ok_p rfl rfl rfl ?_
    refine IH (k + 1) (x + Int32.ofInt 1) _ (by omega) ix3 ⟨?_, fun z hz => ?_, fun j hj => ?_⟩
    · exact xI_sa I' (show tb_G 206 = some (.inr (0, 800, 1, [.inl ((-2147483648), 2147483647)])) from rfl) b1 (el_put (by decide) ⟨.inl ((-2147483648), 2147483647), by rw [Nat.mod_one]; rfl, y, rfl, Int32.le_toInt y, Int.le_of_lt_add_one (Int32.toInt_lt y)⟩)
    · rw [nt_set_ne (fun h => hz h.symm)]
      exact F' z hz
    · have e : rf_v C 202 j = rf_v C' 202 j := (rf_v_eq (cv_eq (F' 202 (by decide)) j)).symm
      by_cases hjk : j = k
      · subst hjk
        rw [rf_v_self b1 (by omega), e, y2]
      · rw [rf_v_set b1 (fun hc => hjk hc.2)]
        exact V' j (by omega)

set_option maxRecDepth 20000 in
set_option maxHeartbeats 1000000 in
theorem cp_c (hI : xI tb_G C) {nv : Int32} (hK : ∀ (x : Int32) (C' : List AC), cp_I C 205 201 48 C' → ok_ (tb_P X) 243 153 [(2, .inl (.inl x)), (1, .inl (.inl nv)), (0, .inr (.inl (some 190)))] [] C' K) : ∀ (m k : Nat) (x : Int32) (C' : List AC), m + k = 48 → x.toInt = (k : Int) → cp_I C 205 201 k C' → ok_ (tb_P X) 243 126 [(2, .inl (.inl x)), (1, .inl (.inl nv)), (0, .inr (.inl (some 190)))] [] C' K := by
  obtain ⟨ms, m1, m2, m3⟩ := hI_f hI (show tb_G 190 = some (.inl (12, _)) from rfl)
  obtain ⟨_, rl, rfl⟩ := m3 26 (.inr 205) rfl
  obtain ⟨_, rd, rfl⟩ := m3 13 (.inr 201) rfl
  intro m
  induction m with
  | zero =>
    intro k x C' hm hx hinv
    obtain ⟨I', F', -⟩ := id hinv
    have M1 : ea_nt C' 190 = some (.inr (12, ms)) := by rw [F' 190 (by decide)]; exact m1
    obtain ⟨dl, ul, l1, -⟩ := hI_a I' (show tb_G 205 = some (.inr (0, 48, 1, [.inl ((-2147483648), 2147483647)])) from rfl)
    refine ok_p rfl rfl rfl ?_
    refine ok_p rfl rfl rfl ?_
    refine ok_gf rfl rfl M1 rl ?_
    refine ok_ln rfl l1 ?_
    refine ok_ic true rfl rfl ?_ ?_
    · show decide (Int32.ofNat 48 ≤ x) = true
      rw [decide_eq_true_eq, Int32.le_iff_toInt_le, hx, show (Int32.ofNat 48).toInt = 48 by decide]
      omega
    · obtain rfl : k = 48 := by omega
      exact hK x C' hinv
  | succ m IH =>
    intro k x C' hm hx hinv
    obtain ⟨I', F', V'⟩ := id hinv
    have M1 : ea_nt C' 190 = some (.inr (12, ms)) := by rw [F' 190 (by decide)]; exact m1
    obtain ⟨da, ua, a1, a2⟩ := hI_a I' (show tb_G 205 = some (.inr (0, 48, 1, [.inl ((-2147483648), 2147483647)])) from rfl)
    obtain ⟨db, ub, b1, b2⟩ := hI_a I' (show tb_G 201 = some (.inr (0, 48, 1, [.inl ((-2147483648), 2147483647)])) from rfl)
    obtain ⟨y, y1, y2⟩ := any_el I' (a := 205) rfl a1 (show k < 48 by omega)
    have ix3 : (x + Int32.ofInt 1).toInt = ((k + 1 : Nat) : Int) := by
      rw [i32_add (by rw [i_1]; omega) (by rw [i_1]; omega), i_1]
      omega
    refine ok_p rfl rfl rfl ?_
    refine ok_p rfl rfl rfl ?_
    refine ok_gf rfl rfl M1 rl ?_
    refine ok_ln rfl a1 ?_
    refine ok_ic false rfl rfl ?_ ?_
    · show decide (Int32.ofNat 48 ≤ x) = false
      rw [decide_eq_false_iff_not, Int32.le_iff_toInt_le, hx, show (Int32.ofNat 48).toInt = 48 by decide]
      omega
    refine ok_p rfl rfl rfl ?_
    refine ok_gf rfl rfl M1 rd ?_
    refine ok_p rfl rfl rfl ?_
    refine ok_p rfl rfl rfl ?_
    refine ok_gf rfl rfl M1 rl ?_
    refine ok_p rfl rfl rfl ?_
    refine ok_al rfl a1 (ix_of hx (by omega)) y1 ?_
    refine ok_as rfl b1 (ix_of hx (by omega)) ?_
    refine ok_p rfl rfl rfl ?_
    refine ok_p rfl rfl rfl ?_
    refine IH (k + 1) (x + Int32.ofInt 1) _ (by omega) ix3 ⟨?_, fun z hz => ?_, fun j hj => ?_⟩
    · exact xI_sa I' (show tb_G 201 = some (.inr (0, 48, 1, [.inl ((-2147483648), 2147483647)])) from rfl) b1 (el_put (by decide) ⟨.inl ((-2147483648), 2147483647), by rw [Nat.mod_one]; rfl, y, rfl, Int32.le_toInt y, Int.le_of_lt_add_one (Int32.toInt_lt y)⟩)
    · rw [nt_set_ne (fun h => hz h.symm)]
      exact F' z hz
    · have e : rf_v C 205 j = rf_v C' 205 j := (rf_v_eq (cv_eq (F' 205 (by decide)) j)).symm
      by_cases hjk : j = k
      · subst hjk
        rw [rf_v_self b1 (by omega), e, y2]
      · rw [rf_v_set b1 (fun hc => hjk hc.2)]
        exact V' j (by omega)

set_option maxRecDepth 20000 in
set_option maxHeartbeats 1000000 in
theorem cp_d (hI : xI tb_G C) {nv : Int32} (hK : ∀ (x : Int32) (C' : List AC), cp_I C 206 202 800 C' → ok_ (tb_P X) 243 182 [(2, .inl (.inl x)), (1, .inl (.inl nv)), (0, .inr (.inl (some 190)))] [] C' K) : ∀ (m k : Nat) (x : Int32) (C' : List AC), m + k = 800 → x.toInt = (k : Int) → cp_I C 206 202 k C' → ok_ (tb_P X) 243 155 [(2, .inl (.inl x)), (1, .inl (.inl nv)), (0, .inr (.inl (some 190)))] [] C' K := by
  obtain ⟨ms, m1, m2, m3⟩ := hI_f hI (show tb_G 190 = some (.inl (12, _)) from rfl)
  obtain ⟨_, rl, rfl⟩ := m3 27 (.inr 206) rfl
  obtain ⟨_, rd, rfl⟩ := m3 14 (.inr 202) rfl
  intro m
  induction m with
  | zero =>
    intro k x C' hm hx hinv
    obtain ⟨I', F', -⟩ := id hinv
    have M1 : ea_nt C' 190 = some (.inr (12, ms)) := by rw [F' 190 (by decide)]; exact m1
    obtain ⟨dl, ul, l1, -⟩ := hI_a I' (show tb_G 206 = some (.inr (0, 800, 1, [.inl ((-2147483648), 2147483647)])) from rfl)
    refine ok_p rfl rfl rfl ?_
    refine ok_p rfl rfl rfl ?_
    refine ok_gf rfl rfl M1 rl ?_
    refine ok_ln rfl l1 ?_
    refine ok_ic true rfl rfl ?_ ?_
    · show decide (Int32.ofNat 800 ≤ x) = true
      rw [decide_eq_true_eq, Int32.le_iff_toInt_le, hx, show (Int32.ofNat 800).toInt = 800 by decide]
      omega
    · obtain rfl : k = 800 := by omega
      exact hK x C' hinv
  | succ m IH =>
    intro k x C' hm hx hinv
    obtain ⟨I', F', V'⟩ := id hinv
    have M1 : ea_nt C' 190 = some (.inr (12, ms)) := by rw [F' 190 (by decide)]; exact m1
    obtain ⟨da, ua, a1, a2⟩ := hI_a I' (show tb_G 206 = some (.inr (0, 800, 1, [.inl ((-2147483648), 2147483647)])) from rfl)
    obtain ⟨db, ub, b1, b2⟩ := hI_a I' (show tb_G 202 = some (.inr (0, 800, 1, [.inl ((-2147483648), 2147483647)])) from rfl)
    obtain ⟨y, y1, y2⟩ := any_el I' (a := 206) rfl a1 (show k < 800 by omega)
    have ix3 : (x + Int32.ofInt 1).toInt = ((k + 1 : Nat) : Int) := by
      rw [i32_add (by rw [i_1]; omega) (by rw [i_1]; omega), i_1]
      omega
    refine ok_p rfl rfl rfl ?_
    refine ok_p rfl rfl rfl ?_
    refine ok_gf rfl rfl M1 rl ?_
    refine ok_ln rfl a1 ?_
    refine ok_ic false rfl rfl ?_ ?_
    · show decide (Int32.ofNat 800 ≤ x) = false
      rw [decide_eq_false_iff_not, Int32.le_iff_toInt_le, hx, show (Int32.ofNat 800).toInt = 800 by decide]
      omega
    refine ok_p rfl rfl rfl ?_
    refine ok_gf rfl rfl M1 rd ?_
    refine ok_p rfl rfl rfl ?_
    refine ok_p rfl rfl rfl ?_
    refine ok_gf rfl rfl M1 rl ?_
    refine ok_p rfl rfl rfl ?_
    refine ok_al rfl a1 (ix_of hx (by omega)) y1 ?_
    refine ok_as rfl b1 (ix_of hx (by omega)) ?_
    refine ok_p rfl rfl rfl ?_
    refine ok_p rfl rfl rfl ?_
    refine IH (k + 1) (x + Int32.ofInt 1) _ (by omega) ix3 ⟨?_, fun z hz => ?_, fun j hj => ?_⟩
    · exact xI_sa I' (show tb_G 202 = some (.inr (0, 800, 1, [.inl ((-2147483648), 2147483647)])) from rfl) b1 (el_put (by decide) ⟨.inl ((-2147483648), 2147483647), by rw [Nat.mod_one]; rfl, y, rfl, Int32.le_toInt y, Int.le_of_lt_add_one (Int32.toInt_lt y)⟩)
    · rw [nt_set_ne (fun h => hz h.symm)]
      exact F' z hz
    · have e : rf_v C 206 j = rf_v C' 206 j := (rf_v_eq (cv_eq (F' 206 (by decide)) j)).symm
      by_cases hjk : j = k
      · subst hjk
        rw [rf_v_self b1 (by omega), e, y2]
      · rw [rf_v_set b1 (fun hc => hjk hc.2)]
        exact V' j (by omega)

end CPS
theorem rf_cls_to {C C' : List AC} {a b a' b' : Nat} (h : ∀ j, j < 800 → rf_v C' b' j = rf_v C b j) (hc : ∀ j, j < 48 → rf_v C' a' j = rf_v C a j) (h1 : rf_v C' 190 15 = rf_v C 190 15) (h2 : rf_v C' 190 16 = rf_v C 190 16) (w : rf_cls C a b) : rf_cls C' a' b' := by
  obtain ⟨w1, w2⟩ := w
  unfold rf_cls
  rw [h1, h2]
  exact ⟨w1, fun k hk hl => (rf_cl_eq h hc hk).mpr (w2 k hk hl)⟩
def is_c : CX := ((213, [.inr (.inl 190), .inl (59, 59), .inl (59, 59)], [], (1, 0, 1), [], [(190, 19, 0, 400)]), [], 1, ([], []), ([(190, 19, 0, 399)], []))
set_option maxRecDepth 100000 in
theorem is_ck : cx_ck (tb_P none) tb_G tr_gs (fun _ => []) (fun _ _ => none) [] is_c 400 = true := by decide +kernel
theorem is_ok (X : Option (List AI)) (u : Nat) : cx_ok (tb_P X) tb_G (rf_G u) is_c := cx_ck_ok tr_G9 (rf_gs u) no_c no_m (hds := []) (n := 400) (by rw [cx_scr X]; exact is_ck)
section RA
variable (X : Option (List AI)) {C1 : List AC} {K : Option AV ⊕ Nat → List AC → Prop}
set_option maxRecDepth 20000 in
set_option maxHeartbeats 4000000 in
theorem ral_step (IH : ∀ q, q < 104 → ∀ u, cx_ok (tb_P X) tb_G (rf_G u) (tr_at q)) {C : List AC} {n : Nat} {nv : Int32} (hn : n ≤ 12) (hnv : nv.toInt = (n : Int)) (hS : cd_S C1 C n) (hb : rf_v C 190 25 ≤ rf_v C 190 19) (h0 : ∀ C', xI tb_G C' → fr_c (rf_G 0) cd_M C1 C' → K (.inl (some (.inl (.inl (Int32.ofInt (-1)))))) C') (h1 : ∀ C' (v : Int32) (n' : Nat), n' ≤ 12 → v.toInt = (n' : Int) → cd_S C1 C' n' → K (.inl (some (.inl (.inl v)))) C') (next : ∀ C' (v : Int32), n ≤ 11 → v.toInt = ((n + 1 : Nat) : Int) → cd_S C1 C' (n + 1) → rf_v C' 190 25 ≤ rf_v C' 190 19 → ok_ (tb_P X) 242 28 [(2, .inl (.inl v)), (0, .inr (.inl (some 190))), (1, .inl (.inl (Int32.ofInt 1)))] [] C' K) : ok_ (tb_P X) 242 28 [(2, .inl (.inl nv)), (0, .inr (.inl (some 190))), (1, .inl (.inl (Int32.ofInt 1)))] [] C K := by
  obtain ⟨ms, m1, m2, m3⟩ := hI_f hS.1 (show tb_G 190 = some (.inl (12, _)) from rfl)
  obtain ⟨_, r19, p, rfl, p1, p2⟩ := m3 19 (.inl (0, 400)) rfl
  obtain ⟨_, r25, s, rfl, s1, s2⟩ := m3 25 (.inl (0, 400)) rfl
  obtain ⟨_, r22, dp, rfl, d1, d2⟩ := m3 22 (.inl (0, 6)) rfl
  rw [rf_f m1 r25, rf_f m1 r19] at hb
  refine ok_p rfl rfl rfl ?_
  refine ok_p rfl rfl rfl ?_
  refine ok_p rfl rfl rfl ?_
  refine ok_cv (mj := 241) (as := [.inl (.inl (Int32.ofInt 1)), .inl (.inl nv)]) (T := []) rfl rfl m1 rfl rfl rfl ?_
  refine ok_p rfl rfl rfl ?_
  refine ok_cx (c := trk_36) (show cx_ok (tb_P X) tb_G (rf_G 0) trk_36 from IH 36 (by decide) 0) (as := []) (T := []) (EV := [p.toInt, s.toInt, dp.toInt]) rfl rfl m1 rfl rfl rfl ⟨rfl, trivial⟩ hS.1 ⟨⟨pv_f (a := 190) (by decide) m1 r19, p1, p2⟩, ⟨pv_f (a := 190) (by decide) m1 r25, s1, s2⟩, ⟨pv_f (a := 190) (by decide) m1 r22, d1, d2⟩, trivial⟩ (fun q hq => nomatch hq) (fun w C2 I2 F2 rv P2 => ?_)
  obtain rfl : w = none := rv
  have O2 := lf_out (a := 0) P2 (.head _) (.tail _ (.head _)) (.tail _ (.tail _ (.head _))) (.tail _ (.tail _ (.tail _ (.head _)))) (.tail _ (.tail _ (.tail _ (.tail _ (.head _)))))
  have B2 : p.toInt ≤ rf_v C2 190 21 := by
    obtain ⟨z1, z2, w1, w2, w3⟩ := P2.2 _ (.tail _ (.tail _ (.tail _ (.tail _ (.tail _ (.tail _ (.head _)))))))
    have e1 : some p.toInt = some z1 := w1
    cases e1
    have e2 := rf_v_pv (a := 190) (by decide) (show pv (rf_G 0) C2 190 21 z2 from w2)
    dsimp only at w3
    omega
  have S2 := cd_lf hS I2 F2 (by rw [O2.2.1, rf_f m1 r25])
  show ok_ (tb_P X) 241 4 _ [] C2 _
  obtain ⟨ms2, n1, -, n3⟩ := hI_f I2 (show tb_G 190 = some (.inl (12, _)) from rfl)
  refine ok_p rfl rfl rfl ?_
  refine ok_p rfl rfl rfl ?_
  refine ok_p rfl rfl rfl ?_
  refine ok_p rfl rfl rfl ?_
  refine ok_cv (mj := 230) (as := [.inl (.inl nv)]) (T := []) rfl rfl n1 rfl rfl rfl ?_
  refine rc_run X IH hn hnv S2 (by omega) (fun C3 I3 F3 => ?_) (fun C3 hn11 S3 L3 => ?_)
  · show ok_ (tb_P X) 241 13 _ [.inl (.inl (Int32.ofInt 0))] C3 _
    refine ok_p rfl rfl rfl ?_
    refine ok_r rfl rfl rfl rfl rfl ?_
    show ok_ (tb_P X) 242 34 _ [.inl (.inl (Int32.ofInt 0))] C3 _
    refine ok_p rfl rfl rfl ?_
    refine ok_p rfl rfl rfl ?_
    exact ok_r rfl rfl rfl rfl rfl (h0 C3 I3 F3)
  · show ok_ (tb_P X) 241 13 _ [.inl (.inl (Int32.ofInt 1))] C3 _
    refine ok_p rfl rfl rfl ?_
    refine ok_r rfl rfl rfl rfl rfl ?_
    show ok_ (tb_P X) 242 34 _ [.inl (.inl (Int32.ofInt 1))] C3 _
    refine ok_p rfl rfl rfl ?_
    refine ok_p rfl rfl rfl ?_
    obtain ⟨ms3, k1, -, k3⟩ := hI_f S3.1 (show tb_G 190 = some (.inl (12, _)) from rfl)
    obtain ⟨_, q19, pp, rfl, pp1, pp2⟩ := k3 19 (.inl (0, 400)) rfl
    obtain ⟨_, q25, ss, rfl, ss1, ss2⟩ := k3 25 (.inl (0, 400)) rfl
    obtain ⟨_, q22, dd, rfl, dd1, dd2⟩ := k3 22 (.inl (0, 6)) rfl
    rw [rf_f k1 q25, rf_f k1 q19] at L3
    refine ok_cx (c := trk_35) (show cx_ok (tb_P X) tb_G (rf_G 0) trk_35 from IH 35 (by decide) 0) (as := []) (T := []) (EV := [pp.toInt, ss.toInt, dd.toInt]) rfl rfl k1 rfl rfl rfl ⟨rfl, trivial⟩ S3.1 ⟨⟨pv_f (a := 190) (by decide) k1 q19, pp1, pp2⟩, ⟨pv_f (a := 190) (by decide) k1 q25, ss1, ss2⟩, ⟨pv_f (a := 190) (by decide) k1 q22, dd1, dd2⟩, trivial⟩ (fun q hq => nomatch hq) (fun w C4 I4 F4 rv P4 => ?_)
    obtain rfl : w = none := rv
    have O4 := lf_out (a := 0) P4 (.head _) (.tail _ (.head _)) (.tail _ (.tail _ (.head _))) (.tail _ (.tail _ (.tail _ (.head _)))) (.tail _ (.tail _ (.tail _ (.tail _ (.head _)))))
    have S4 := cd_lf S3 I4 F4 (by rw [O4.2.1, rf_f k1 q25])
    show ok_ (tb_P X) 242 43 _ [] C4 _
    obtain ⟨ms4, e1, e2, e3⟩ := hI_f I4 (show tb_G 190 = some (.inl (12, _)) from rfl)
    have hlen : ms4.length = 38 := e2
    obtain ⟨_, t19, pq, rfl, pq1, pq2⟩ := e3 19 (.inl (0, 400)) rfl
    obtain ⟨_, t20, en, rfl, -, -⟩ := e3 20 (.inl (0, 400)) rfl
    obtain ⟨_, t25, sq, rfl, -, -⟩ := e3 25 (.inl (0, 400)) rfl
    rw [rf_f e1 t19, rf_f e1 t25] at O4
    have ni : (nv + Int32.ofInt 1).toInt = ((n + 1 : Nat) : Int) := by
      rw [i32_add (by rw [i_1]; omega) (by rw [i_1]; omega), i_1]
      omega
    refine ok_p rfl rfl rfl ?_
    refine ok_gf rfl rfl e1 t19 ?_
    refine ok_p rfl rfl rfl ?_
    refine ok_gf rfl rfl e1 t20 ?_
    cases hq : ea_ck .ne pq en with
    | false =>
      refine ok_ic false rfl rfl hq ?_
      refine ok_p rfl rfl rfl ?_
      refine ok_p rfl rfl rfl ?_
      refine ok_p rfl rfl rfl ?_
      exact ok_r rfl rfl rfl rfl rfl (h1 C4 _ (n + 1) (by omega) ni S4)
    | true =>
      refine ok_ic true rfl rfl hq ?_
      refine ok_p rfl rfl rfl ?_
      refine ok_p rfl rfl rfl ?_
      refine ok_p rfl rfl rfl ?_
      refine ok_cx (c := is_c) (is_ok X 0) (as := [.inl (.inl (Int8.ofInt 59).toInt32), .inl (.inl (Int8.ofInt 59).toInt32)]) (T := []) (EV := [pq.toInt]) rfl rfl e1 rfl rfl rfl ⟨rfl, ⟨_, rfl, by decide, by decide⟩, ⟨_, rfl, by decide, by decide⟩, trivial⟩ I4 ⟨⟨pv_f (a := 190) (by decide) e1 t19, pq1, pq2⟩, trivial⟩ (fun q hq => nomatch hq) (fun w C5 I5 F5 rv P5 => ?_)
      obtain rfl := nt_ext (fun b => F5.1 b rfl)
      obtain ⟨y, rfl, y1, y2⟩ := rv
      show ok_ (tb_P X) 242 66 _ [.inl (.inl y)] C5 _
      rcases yes_no y1 y2 with rfl | rfl
      · refine ok_p rfl rfl rfl ?_
        refine ok_p rfl rfl rfl ?_
        exact ok_r rfl rfl rfl rfl rfl (h0 C5 I5 S4.2.1)
      · have e : cx_po is_c (some (.inl (.inl (Int32.ofInt 1)))) = is_c.2.2.2.2 := rfl
        rw [e] at P5
        obtain ⟨⟨NV, hNV⟩, -⟩ := P5
        obtain ⟨zp, N1, rfl, ⟨zP, -, zp2⟩, -⟩ := ea_rl_cons hNV
        have zP' := rf_v_pv (a := 190) (by decide) zP
        rw [rf_f e1 t19] at zP'
        dsimp only at zp2
        have pi1 : (pq + Int32.ofInt 1).toInt = pq.toInt + 1 := by rw [i32_add (by rw [i_1]; omega) (by rw [i_1]; omega), i_1]
        refine ok_p rfl rfl rfl ?_
        refine ok_p rfl rfl rfl ?_
        refine ok_p rfl rfl rfl ?_
        refine ok_gf rfl rfl e1 t19 ?_
        refine ok_p rfl rfl rfl ?_
        refine ok_p rfl rfl rfl ?_
        refine ok_pf (v := .inl (.inl (pq + Int32.ofInt 1))) rfl rfl e1 rfl (by rw [hlen]; rfl) ?_
        have I6 := xI_sf I5 (show tb_G 190 = some (.inl (12, _)) from rfl) e1 (k := 19) (v := .inl (.inl (pq + Int32.ofInt 1))) rfl ⟨_, rfl, by show (0 : Int) ≤ Int32.toInt _; rw [pi1]; omega, by show Int32.toInt _ ≤ (400 : Int); rw [pi1]; omega⟩
        have F6 : fr_c (rf_G 0) [(190, 191), (1005, 1006)] C5 (C5.set 190 (.inr (12, ms4.set 19 (.inl (.inl (pq + Int32.ofInt 1)))))) := fr_f 0 e1 (by decide) (by decide)
        have S6 := cd_lf S4 I6 F6 (rf_fs e1 (by decide))
        have L6 : rf_v (C5.set 190 (.inr (12, ms4.set 19 (.inl (.inl (pq + Int32.ofInt 1)))))) 190 25 ≤ rf_v (C5.set 190 (.inr (12, ms4.set 19 (.inl (.inl (pq + Int32.ofInt 1)))))) 190 19 := by
          rw [rf_fs e1 (by decide), rf_f e1 t25, rf_f (nt_set_self e1) (nt_set_self t19), pi1]
          omega
        revert S6 L6
        generalize C5.set 190 (.inr (12, ms4.set 19 (.inl (.inl (pq + Int32.ofInt 1))))) = C6
        intro S6 L6
        refine ok_p rfl rfl rfl ?_
        refine ok_p rfl rfl rfl ?_
        exact next C6 _ hn11 ni S6 L6
theorem ral_loop (IH : ∀ q, q < 104 → ∀ u, cx_ok (tb_P X) tb_G (rf_G u) (tr_at q)) (h0 : ∀ C', xI tb_G C' → fr_c (rf_G 0) cd_M C1 C' → K (.inl (some (.inl (.inl (Int32.ofInt (-1)))))) C') (h1 : ∀ C' (v : Int32) (n' : Nat), n' ≤ 12 → v.toInt = (n' : Int) → cd_S C1 C' n' → K (.inl (some (.inl (.inl v)))) C') : ∀ (r n : Nat) (nv : Int32) (C : List AC), r + n = 12 → nv.toInt = (n : Int) → cd_S C1 C n → rf_v C 190 25 ≤ rf_v C 190 19 → ok_ (tb_P X) 242 28 [(2, .inl (.inl nv)), (0, .inr (.inl (some 190))), (1, .inl (.inl (Int32.ofInt 1)))] [] C K := by
  intro r
  induction r with
  | zero => exact fun n nv C hr hnv hS hb => ral_step X IH (by omega) hnv hS hb h0 h1 (fun C' v hn => by omega)
  | succ r IHr => exact fun n nv C hr hnv hS hb => ral_step X IH (by omega) hnv hS hb h0 h1 (fun C' v hn hv hS' hb' => IHr (n + 1) v C' (by omega) hv hS' hb')
set_option maxRecDepth 20000 in
set_option maxHeartbeats 4000000 in
/-- the code is read -/
theorem ra_run (IH : ∀ q, q < 104 → ∀ u, cx_ok (tb_P X) tb_G (rf_G u) (tr_at q)) {C : List AC} (hI : xI tb_G C) (h0 : ∀ C1 C', fr_c (rf_G 0) [(190, 191), (1005, 1008)] C C1 → rf_v C1 190 18 = 0 → xI tb_G C' → fr_c (rf_G 0) cd_M C1 C' → K (.inl (some (.inl (.inl (Int32.ofInt (-1)))))) C') (h1 : ∀ C1 C' (v : Int32) (n' : Nat), fr_c (rf_G 0) [(190, 191), (1005, 1008)] C C1 → rf_v C1 190 18 = 0 → n' ≤ 12 → v.toInt = (n' : Int) → cd_S C1 C' n' → K (.inl (some (.inl (.inl v)))) C') : ok_ (tb_P X) 242 0 (ea_ar 0 [.inr (.inl (some 190)), .inl (.inl (Int32.ofInt 1))]) [] C K := by
  obtain ⟨ms, m1, m2, m3⟩ := hI_f hI (show tb_G 190 = some (.inl (12, _)) from rfl)
  obtain ⟨_, r22, dp, rfl, d1, d2⟩ := m3 22 (.inl (0, 6)) rfl
  refine ok_p rfl rfl rfl ?_
  refine ok_cx (c := trk_71) (show cx_ok (tb_P X) tb_G (rf_G 0) trk_71 from IH 71 (by decide) 0) (as := []) (T := []) (EV := [dp.toInt]) rfl rfl m1 rfl rfl rfl ⟨rfl, trivial⟩ hI ⟨⟨pv_f (a := 190) (by decide) m1 r22, d1, d2⟩, trivial⟩ (fun q hq => nomatch hq) (fun w C1 I1 F1 rv P1 => ?_)
  obtain rfl : w = none := rv
  obtain ⟨⟨NV, hNV⟩, -⟩ := P1
  obtain ⟨zT, N1, rfl, ⟨pT, t1, t2⟩, hn1⟩ := ea_rl_cons hNV
  obtain ⟨zP, N2, rfl, ⟨pP, t3, t4⟩, -⟩ := ea_rl_cons hn1
  dsimp only at t1 t2 t3 t4
  have hT : rf_v C1 190 18 = 0 := by
    have : rf_v C1 190 18 = zT := pT
    omega
  have hP := rf_v_pv (a := 190) (by decide) pP
  show ok_ (tb_P X) 242 4 _ [] C1 _
  obtain ⟨s1, n1, n2, n3⟩ := hI_f I1 (show tb_G 190 = some (.inl (12, _)) from rfl)
  have hlen : s1.length = 38 := n2
  obtain ⟨_, q25, so, rfl, -, -⟩ := n3 25 (.inl (0, 400)) rfl
  obtain ⟨_, q19, po, rfl, -, -⟩ := n3 19 (.inl (0, 400)) rfl
  rw [rf_f n1 q19] at hP
  refine ok_p rfl rfl rfl ?_
  refine ok_p rfl rfl rfl ?_
  refine ok_pf (v := .inl (.inl (Int32.ofInt 0))) rfl rfl n1 rfl (by rw [hlen]; rfl) ?_
  have I2 := xI_sf I1 (show tb_G 190 = some (.inl (12, _)) from rfl) n1 (k := 25) (v := .inl (.inl (Int32.ofInt 0))) rfl ⟨_, rfl, by decide, by decide⟩
  have F2 : fr_c (rf_G 0) cd_M C1 (C1.set 190 (.inr (12, s1.set 25 (.inl (.inl (Int32.ofInt 0)))))) := fr_f 0 n1 (by decide) (by decide)
  have N2 := nt_set_self (c := Sum.inr (12, s1.set 25 (.inl (.inl (Int32.ofInt 0))))) n1
  have u25 : ea_nt (s1.set 25 (Sum.inl (Sum.inl (Int32.ofInt 0)))) 25 = some (.inl (.inl (Int32.ofInt 0))) := nt_set_self q25
  have u19 : ea_nt (s1.set 25 (Sum.inl (Sum.inl (Int32.ofInt 0)))) 19 = some (.inl (.inl po)) := by rw [nt_set_ne (by decide)]; exact q19
  revert I2 F2 N2 u25 u19
  generalize C1.set 190 (.inr (12, s1.set 25 (.inl (.inl (Int32.ofInt 0))))) = C2
  generalize s1.set 25 (Sum.inl (Sum.inl (Int32.ofInt 0))) = s2
  intro I2 F2 N2 u25 u19
  obtain ⟨s2', n2', -, k3⟩ := hI_f I2 (show tb_G 190 = some (.inl (12, _)) from rfl)
  rw [N2] at n2'
  cases n2'
  obtain ⟨_, u22, dq, rfl, dq1, dq2⟩ := k3 22 (.inl (0, 6)) rfl
  have S2 : cd_S C1 C2 0 := ⟨I2, F2, fun k hk => absurd hk (Nat.not_lt_zero k)⟩
  refine ok_p rfl rfl rfl ?_
  refine ok_cx (c := trk_35) (show cx_ok (tb_P X) tb_G (rf_G 0) trk_35 from IH 35 (by decide) 0) (as := []) (T := []) (EV := [po.toInt, (Int32.ofInt 0).toInt, dq.toInt]) rfl rfl N2 rfl rfl rfl ⟨rfl, trivial⟩ I2 ⟨⟨pv_f (a := 190) (by decide) N2 u19, by show (0 : Int) ≤ po.toInt; omega, by show po.toInt ≤ (400 : Int); omega⟩, ⟨pv_f (a := 190) (by decide) N2 u25, by decide, by decide⟩, ⟨pv_f (a := 190) (by decide) N2 u22, dq1, dq2⟩, trivial⟩ (fun q hq => nomatch hq) (fun w C3 I3 F3 rv P3 => ?_)
  obtain rfl : w = none := rv
  have O3 := lf_out (a := 0) P3 (.head _) (.tail _ (.head _)) (.tail _ (.tail _ (.head _))) (.tail _ (.tail _ (.tail _ (.head _)))) (.tail _ (.tail _ (.tail _ (.tail _ (.head _)))))
  have S3 := cd_lf S2 I3 F3 (by rw [O3.2.1, rf_f N2 u25])
  show ok_ (tb_P X) 242 13 _ [] C3 _
  obtain ⟨s3, e1, -, e3⟩ := hI_f I3 (show tb_G 190 = some (.inl (12, _)) from rfl)
  obtain ⟨_, w19, pq, rfl, -, -⟩ := e3 19 (.inl (0, 400)) rfl
  obtain ⟨_, w20, en, rfl, -, -⟩ := e3 20 (.inl (0, 400)) rfl
  refine ok_p rfl rfl rfl ?_
  refine ok_gf rfl rfl e1 w19 ?_
  refine ok_p rfl rfl rfl ?_
  refine ok_gf rfl rfl e1 w20 ?_
  cases hq : ea_ck .ne pq en with
  | false =>
    refine ok_ic false rfl rfl hq ?_
    refine ok_p rfl rfl rfl ?_
    exact ok_r rfl rfl rfl rfl rfl (h1 C1 C3 _ 0 F1 hT (by decide) (by decide) S3)
  | true =>
    refine ok_ic true rfl rfl hq ?_
    refine ok_p rfl rfl rfl ?_
    refine ok_p rfl rfl rfl ?_
    exact ral_loop X IH (fun C' I' F' => h0 C1 C' F1 hT I' F') (fun C' v n' a b c => h1 C1 C' v n' F1 hT a b c) 12 0 (Int32.ofInt 0) C3 rfl (by decide) S3 (by rw [O3.2.1, i_0]; have := O3.1; omega)
theorem ti_run {C : List AC} (hI : xI tb_G C) {y c : Int32} (hy : y = Int32.ofInt 0 ∨ y = Int32.ofInt 1) (h : ∀ C', xI tb_G C' → fr_c (rf_G 0) [(190, 191)] C C' → (∀ k, k ≠ 0 → rf_v C' 190 k = rf_v C 190 k) → K (.inl (some (.inl (.inl y)))) C') : ok_ (tb_P X) 186 0 (ea_ar 0 [.inr (.inl (some 190)), .inl (.inl y), .inl (.inl c)]) [] C K := by
  obtain ⟨ms, m1, m2, m3⟩ := hI_f hI (show tb_G 190 = some (.inl (12, _)) from rfl)
  have hlen : ms.length = 38 := m2
  rcases hy with rfl | rfl
  · refine ok_p rfl rfl rfl ?_
    refine ok_p rfl rfl rfl ?_
    refine ok_p rfl rfl rfl ?_
    exact ok_r rfl rfl rfl rfl rfl (h C hI (fr_c_rf _ _ C) (fun _ _ => rfl))
  · refine ok_p rfl rfl rfl ?_
    refine ok_p rfl rfl rfl ?_
    refine ok_p rfl rfl rfl ?_
    refine ok_p rfl rfl rfl ?_
    refine ok_pf (v := .inl (.inl c)) rfl rfl m1 rfl (by rw [hlen]; rfl) ?_
    have I2 := xI_sf hI (show tb_G 190 = some (.inl (12, _)) from rfl) m1 (k := 0) (v := .inl (.inl c)) rfl ⟨_, rfl, Int32.le_toInt c, Int.le_of_lt_add_one (Int32.toInt_lt c)⟩
    refine ok_p rfl rfl rfl ?_
    exact ok_r rfl rfl rfl rfl rfl (h _ I2 (fr_f 0 m1 (by decide) (by decide)) (fun k hk => rf_fs m1 (fun h => hk h.symm)))
end RA
