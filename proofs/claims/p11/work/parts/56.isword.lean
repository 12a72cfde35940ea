/-! CONTRACTS BY HAND: words -/
theorem nt_ext {α : Type} {C C' : List α} (h : ∀ b, ea_nt C' b = ea_nt C b) : C' = C := List.ext_getElem? (fun i => by rw [← ea_nt_eq, ← ea_nt_eq]; exact h i)
theorem i32_sub {x y : Int32} (h1 : -2147483648 ≤ x.toInt - y.toInt) (h2 : x.toInt - y.toInt ≤ 2147483647) : (x - y).toInt = x.toInt - y.toInt := by
  rw [Int32.toInt_sub, Int.bmod_eq_of_le (by omega) (by omega)]
section OKS2
variable {P : EP} {m pc : Nat} {L : List (Nat × AV)} {S : List AV} {C : List AC} {K : Option AV ⊕ Nat → List AC → Prop}
theorem ok_if {c : Jvm.ClassFile.Cond} {off : Int} {t : Nat} {x : Int32} (b : Bool) (hc : ep_cod P m pc = some (.ifCond c off, 3)) (ht : ea_to pc off = some t) (hb : ea_ck c x 0 = b) (h : ok_ P m (bif b then t else pc + 3) L S C K) : ok_ P m pc L (.inl (.inl x) :: S) C K := by
  refine ok_p (pc' := bif b then t else pc + 3) (L' := L) (S' := S) hc rfl ?_ h
  simp only [ea_p, ea_if, hb, ht]
  cases b <;> rfl
theorem ok_bl {a n j : Nat} {d : AV} {us : List (Nat × AV)} {x y : Int32} (hc : ep_cod P m pc = some (.baload, 1)) (hC : ea_nt C a = some (.inl (2, n, d, us))) (hi : ea_ix (.inl x) n = some j) (hv : ea_al d us j = .inl (.inl y)) (h : ok_ P m (pc + 1) L (.inl (.inl y) :: S) C K) : ok_ P m pc L (.inl (.inl x) :: .inr (.inl (some a)) :: S) C K :=
  ok_h (C' := none) hc rfl rfl (by simp only [ea_h, hC, hi, hv]) h
/-- a method of an object -/
theorem ok_cv {x mj n a ci : Nat} {vs : List AV} {as T : List AV} (hc : ep_cod P m pc = some (.invokevirtual x, 3)) (hp : ep_pl P m x = some (2, mj, n)) (hC : ea_nt C a = some (.inr (ci, vs))) (ho : ep_own P mj = ci) (hn : as.length = n) (hd : (Nat.blt (ep_dep P mj) (ep_dep P m) && (Nat.ble (ea_wt T) 8 && Nat.ble (ea_wt (.inr (.inl (some a)) :: as)) (ep_nls P mj))) = true) (h : ok_ P mj 0 (ea_ar 0 (.inr (.inl (some a)) :: as)) [] C (ok_back P m pc L T true K)) : ok_ P m pc L (as.reverse ++ .inr (.inl (some a)) :: T) C K := by
  refine ok_call (r := some (2, mj, n)) (mj := mj) (as := .inr (.inl (some a)) :: as) (T := T) (b := true) hc (by simp only [ok_iv, hp]) ?_ hd h
  have h1 : (as.reverse ++ (.inr (.inl (some a)) : AV) :: T).drop n = .inr (.inl (some a)) :: T := by rw [List.drop_append_of_le_length (by rw [List.length_reverse, hn]; exact Nat.le_refl _), ← hn, ← List.length_reverse, List.drop_length]; rfl
  have h2 : (as.reverse ++ (.inr (.inl (some a)) : AV) :: T).take n = as.reverse := by rw [List.take_append_of_le_length (by rw [List.length_reverse, hn]; exact Nat.le_refl _), ← hn, ← List.length_reverse, List.take_length]
  simp only [ea_cl, h1, h2, hC, ho, Nat.beq_refl, cond_true, List.reverse_reverse]
end OKS2
def iw_l (t n : Nat) : CX := ((319, [.inr (.inr t)], [], (1, (n : Int), (n : Int)), [], []), [], 0, ([], []), ([], []))
def iw_c (t n : Nat) : CX := ((320, [.inr (.inr t), .inl (0, (n : Int) - 1)], [], (1, 0, 65535), [], []), [], 0, ([], []), ([], []))
theorem no_c {P : EP} {G : Nat → Option CT} {GF : GH} : ∀ (mj : Nat) (c' : CX), c' ∈ (fun _ : Nat => ([] : List CX)) mj → c'.1.1 = mj ∧ cx_ok P G GF c' := fun mj c' h => nomatch (show c' ∈ ([] : List CX) from h)
theorem no_m {P : EP} {G : Nat → Option CT} {GF : GH} : ∀ (m pc : Nat) (mc : CX × Nat), (fun _ _ : Nat => (none : Option (CX × Nat))) m pc = some mc → mc_ok P G GF m pc mc.1 mc.2 := fun m pc mc h => nomatch (show (none : Option (CX × Nat)) = some mc from h)
def iw_ts : List (Nat × Nat) := [(11744409, 2), (12138387, 2), (2989669287, 3), (2989961361, 3), (3082042249, 3), (3124213517, 3), (3165696519, 3), (784791024683, 4), (784791157285, 4), (786829588905, 4), (795385967387, 4), (797567332893, 4), (196476243687429, 5), (198125670153123, 5), (201467113190795, 5), (203627540166423, 5), (204215892260255, 5), (204756940403471, 5), (52280337941016725, 6), (13200821491936309665, 7)]
set_option maxRecDepth 100000 in
theorem iw_ck : iw_ts.all (fun q => cx_ck (tb_P none) tb_G tr_gs (fun _ => []) (fun _ _ => none) [] (iw_l q.1 q.2) 200 && cx_ck (tb_P none) tb_G tr_gs (fun _ => []) (fun _ _ => none) [] (iw_c q.1 q.2) 200) = true := by decide +kernel
theorem iw_ok (X : Option (List AI)) (u : Nat) {t n : Nat} (h : (t, n) ∈ iw_ts) : cx_ok (tb_P X) tb_G (rf_G u) (iw_l t n) ∧ cx_ok (tb_P X) tb_G (rf_G u) (iw_c t n) := by
  have h1 := List.all_eq_true.mp iw_ck _ h
  simp only [Bool.and_eq_true] at h1
  exact ⟨cx_ck_ok tr_G9 (rf_gs u) no_c no_m (hds := []) (n := 200) (by rw [cx_scr X]; exact h1.1), cx_ck_ok tr_G9 (rf_gs u) no_c no_m (hds := []) (n := 200) (by rw [cx_scr X]; exact h1.2)⟩
theorem iw_e (q : Nat) (he : (q + 1) % 2 = 0) {own : Nat → Nat} {x mj n : Nat} {as T : List AV} {C : List AC} (hn : as.length = n) : ea_cl own (.invokevirtual x) (some (26, mj, n)) (as.reverse ++ .inr (.inr (.inr (.inr (q + 1)))) :: T) C = some (mj, .inr (.inr (.inr (.inr (q + 1)))) :: as, T, true) := by
  have h1 : (as.reverse ++ (.inr (.inr (.inr (.inr (q + 1)))) : AV) :: T).drop n = .inr (.inr (.inr (.inr (q + 1)))) :: T := by rw [List.drop_append_of_le_length (by rw [List.length_reverse, hn]; exact Nat.le_refl _), ← hn, ← List.length_reverse, List.drop_length]; rfl
  have h2 : (as.reverse ++ (.inr (.inr (.inr (.inr (q + 1)))) : AV) :: T).take n = as.reverse := by rw [List.take_append_of_le_length (by rw [List.length_reverse, hn]; exact Nat.le_refl _), ← hn, ← List.length_reverse, List.take_length]
  simp only [ea_cl, h1, h2, he, Nat.beq_refl, cond_true, List.reverse_reverse]
section IW
variable (X : Option (List AI)) (u : Nat) {q n : Nat} {C : List AC} {p b : Int32} {K : Option AV ⊕ Nat → List AC → Prop}
/-- a String's length -/
theorem iw_len (he : (q + 1) % 2 = 0) (hl : cx_ok (tb_P X) tb_G (rf_G u) (iw_l (q + 4) n)) (hI : xI tb_G C) {pc : Nat} {L : List (Nat × AV)} {T : List AV} (hc : ep_cod (tb_P X) 216 pc = some (.invokevirtual 157, 3)) (hd : Nat.ble (ea_wt T) 8 = true) (h : ∀ y : Int32, y.toInt = n → ok_ (tb_P X) 216 (pc + 3) L (.inl (.inl y) :: T) C K) : ok_ (tb_P X) 216 pc L (.inr (.inr (.inr (.inr (q + 1)))) :: T) C K := by
  refine ok_call (r := some (26, 319, 0)) (mj := 319) (as := [.inr (.inr (.inr (.inr (q + 1))))]) (T := T) (b := true) hc rfl (iw_e q he (as := []) rfl) (by rw [hd]; rfl) ?_
  refine ok_post (hl [.inr (.inr (.inr (.inr (q + 1))))] C [] ⟨rfl, trivial⟩ hI trivial (fun _ hq => nomatch hq)) (fun o C' ho => ?_)
  obtain ⟨v, rfl, -, o2, ⟨y, rfl, y1, y2⟩, -⟩ := ho
  obtain rfl := nt_ext (fun b => o2.1 b rfl)
  dsimp only [iw_l] at y1 y2
  exact h y (by omega)
/-- a String's sign -/
theorem iw_chr (he : (q + 1) % 2 = 0) (hl : cx_ok (tb_P X) tb_G (rf_G u) (iw_c (q + 4) n)) (hI : xI tb_G C) {pc : Nat} {L : List (Nat × AV)} {T : List AV} {k : Int32} (k1 : 0 ≤ k.toInt) (k2 : k.toInt < n) (hc : ep_cod (tb_P X) 216 pc = some (.invokevirtual 162, 3)) (hd : Nat.ble (ea_wt T) 8 = true) (h : ∀ y : Int32, ok_ (tb_P X) 216 (pc + 3) L (.inl (.inl y) :: T) C K) : ok_ (tb_P X) 216 pc L (.inl (.inl k) :: .inr (.inr (.inr (.inr (q + 1)))) :: T) C K := by
  refine ok_call (r := some (26, 320, 1)) (mj := 320) (as := [.inr (.inr (.inr (.inr (q + 1)))), .inl (.inl k)]) (T := T) (b := true) hc rfl (iw_e q he (as := [.inl (.inl k)]) rfl) (by rw [hd]; rfl) ?_
  refine ok_post (hl [.inr (.inr (.inr (.inr (q + 1)))), .inl (.inl k)] C [] ⟨rfl, ⟨k, rfl, k1, by show k.toInt ≤ (n : Int) - 1; omega⟩, trivial⟩ hI trivial (fun _ hq => nomatch hq)) (fun o C' ho => ?_)
  obtain ⟨v, rfl, -, o2, ⟨y, rfl, -, -⟩, -⟩ := ho
  obtain rfl := nt_ext (fun b => o2.1 b rfl)
  exact h y
set_option maxRecDepth 20000 in
theorem iw_loop (he : (q + 1) % 2 = 0) (hn : n ≤ 100) (hl : cx_ok (tb_P X) tb_G (rf_G u) (iw_l (q + 4) n)) (hch : cx_ok (tb_P X) tb_G (rf_G u) (iw_c (q + 4) n)) (hI : xI tb_G C) (hb : fd_g C 190 21 b) (p2 : p.toInt ≤ 400) (b1 : 0 ≤ b.toInt) (hK : ∀ v : Int32, v = Int32.ofInt 0 ∨ v = Int32.ofInt 1 → (v = Int32.ofInt 1 → p.toInt - b.toInt = n) → K (.inl (some (.inl (.inl v)))) C) : ∀ (r k : Nat) (x v : Int32), r + k = n → x.toInt = (k : Int) → (v = Int32.ofInt 0 ∨ v = Int32.ofInt 1) → (v = Int32.ofInt 1 → p.toInt - b.toInt = n) → ok_ (tb_P X) 216 24 [(3, .inl (.inl x)), (2, .inl (.inl v)), (0, .inr (.inl (some 190))), (1, .inr (.inr (.inr (.inr (q + 1)))))] [] C K := by
  obtain ⟨ms, m1, m2, m3⟩ := hI_f hI (show tb_G 190 = some (.inl (12, _)) from rfl)
  obtain ⟨_, r17, rfl⟩ := m3 17 (.inr 203) rfl
  obtain ⟨d, us, a1, a2⟩ := hI_a hI (show tb_G 203 = some (.inr (2, 400, _, _)) from rfl)
  obtain ⟨ci, vs', f1, r21⟩ := hb
  rw [m1] at f1
  cases f1
  intro r
  induction r with
  | zero =>
    intro k x v hk hx hv hpb
    refine ok_p rfl rfl rfl ?_
    rcases hv with rfl | rfl
    · refine ok_p rfl rfl rfl ?_
      refine ok_p rfl rfl rfl ?_
      exact ok_r rfl rfl rfl rfl rfl (hK _ (Or.inl rfl) hpb)
    · refine ok_p rfl rfl rfl ?_
      refine ok_p rfl rfl rfl ?_
      refine ok_p rfl rfl rfl ?_
      refine iw_len X u he hl hI rfl rfl (fun y hy => ?_)
      refine ok_ic true rfl rfl ?_ ?_
      · show decide (y ≤ x) = true
        rw [decide_eq_true_eq, Int32.le_iff_toInt_le]
        omega
      · refine ok_p rfl rfl rfl ?_
        exact ok_r rfl rfl rfl rfl rfl (hK _ (Or.inr rfl) hpb)
  | succ r IH =>
    intro k x v hk hx hv hpb
    refine ok_p rfl rfl rfl ?_
    rcases hv with rfl | rfl
    · refine ok_p rfl rfl rfl ?_
      refine ok_p rfl rfl rfl ?_
      exact ok_r rfl rfl rfl rfl rfl (hK _ (Or.inl rfl) hpb)
    · have hpb1 := hpb rfl
      refine ok_p rfl rfl rfl ?_
      refine ok_p rfl rfl rfl ?_
      refine ok_p rfl rfl rfl ?_
      refine iw_len X u he hl hI rfl rfl (fun y hy => ?_)
      refine ok_ic false rfl rfl ?_ ?_
      · show decide (y ≤ x) = false
        rw [decide_eq_false_iff_not, Int32.le_iff_toInt_le]
        omega
      refine ok_p rfl rfl rfl ?_
      refine ok_gf rfl rfl m1 r17 ?_
      refine ok_p rfl rfl rfl ?_
      refine ok_gf rfl rfl m1 r21 ?_
      refine ok_p rfl rfl rfl ?_
      refine ok_p rfl rfl rfl ?_
      have hix : (b + x).toInt = ((b.toInt.toNat + k : Nat) : Int) := by
        rw [i32_add (by omega) (by omega)]
        omega
      obtain ⟨f, f1, f2⟩ := el_get (by decide) (a2 (b.toInt.toNat + k) (by omega))
      rw [Nat.mod_one] at f1
      cases (show some (Sum.inl (-128, 127)) = some f from f1)
      obtain ⟨w, w1, -, -⟩ := f2
      refine ok_bl rfl a1 (ix_of hix (by omega)) w1 ?_
      refine ok_p rfl rfl rfl ?_
      refine ok_p rfl rfl rfl ?_
      refine iw_chr X u he hch hI (by omega) (by omega) rfl rfl (fun y2 => ?_)
      have ix3 : (x + Int32.ofInt 1).toInt = ((k + 1 : Nat) : Int) := by
        rw [i32_add (by rw [show (Int32.ofInt 1).toInt = 1 by decide]; omega) (by rw [show (Int32.ofInt 1).toInt = 1 by decide]; omega), show (Int32.ofInt 1).toInt = 1 by decide]
        omega
      cases hb : ea_ck .ne w y2 with
      | true =>
        refine ok_ic true rfl rfl hb ?_
        refine ok_p rfl rfl rfl ?_
        refine ok_p rfl rfl rfl ?_
        refine ok_p rfl rfl rfl ?_
        refine ok_p rfl rfl rfl ?_
        exact IH (k + 1) (x + Int32.ofInt 1) (Int32.ofInt 0) (by omega) ix3 (Or.inl rfl) (fun h => absurd h (by decide))
      | false =>
        refine ok_ic false rfl rfl hb ?_
        refine ok_p rfl rfl rfl ?_
        refine ok_p rfl rfl rfl ?_
        refine ok_p rfl rfl rfl ?_
        refine ok_p rfl rfl rfl ?_
        refine ok_p rfl rfl rfl ?_
        exact IH (k + 1) (x + Int32.ofInt 1) (Int32.ofInt 1) (by omega) ix3 (Or.inr rfl) (fun _ => hpb1)
set_option maxRecDepth 20000 in
theorem iw_run (he : (q + 1) % 2 = 0) (hn : n ≤ 100) (hl : cx_ok (tb_P X) tb_G (rf_G u) (iw_l (q + 4) n)) (hch : cx_ok (tb_P X) tb_G (rf_G u) (iw_c (q + 4) n)) (hI : xI tb_G C) (hp : fd_g C 190 19 p) (hb : fd_g C 190 21 b) (p1 : 0 ≤ p.toInt) (p2 : p.toInt ≤ 400) (b1 : 0 ≤ b.toInt) (b2 : b.toInt ≤ 400) (hK : ∀ v : Int32, v = Int32.ofInt 0 ∨ v = Int32.ofInt 1 → (v = Int32.ofInt 1 → p.toInt - b.toInt = n) → K (.inl (some (.inl (.inl v)))) C) : ok_ (tb_P X) 216 0 (ea_ar 0 [.inr (.inl (some 190)), .inr (.inr (.inr (.inr (q + 1))))]) [] C K := by
  have hb' := hb
  obtain ⟨ms, m1, m2, m3⟩ := hI_f hI (show tb_G 190 = some (.inl (12, _)) from rfl)
  obtain ⟨ci, vs', f1, r21⟩ := hb
  rw [m1] at f1
  cases f1
  obtain ⟨ci, vs', f1, r19⟩ := hp
  rw [m1] at f1
  cases f1
  refine ok_p rfl rfl rfl ?_
  refine ok_gf rfl rfl m1 r19 ?_
  refine ok_p rfl rfl rfl ?_
  refine ok_gf rfl rfl m1 r21 ?_
  refine ok_p rfl rfl rfl ?_
  refine ok_p rfl rfl rfl ?_
  refine iw_len X u he hl hI rfl rfl (fun y hy => ?_)
  have hs : (p - b).toInt = p.toInt - b.toInt := i32_sub (by omega) (by omega)
  cases hb : ea_ck .ne (p - b) y with
  | true =>
    refine ok_ic true rfl rfl hb ?_
    refine ok_p rfl rfl rfl ?_
    refine ok_p rfl rfl rfl ?_
    refine ok_p rfl rfl rfl ?_
    refine ok_p rfl rfl rfl ?_
    exact iw_loop X u he hn hl hch hI hb' p2 b1 hK n 0 (Int32.ofInt 0) (Int32.ofInt 0) rfl (by decide) (Or.inl rfl) (fun h => absurd h (by decide))
  | false =>
    refine ok_ic false rfl rfl hb ?_
    refine ok_p rfl rfl rfl ?_
    refine ok_p rfl rfl rfl ?_
    refine ok_p rfl rfl rfl ?_
    refine ok_p rfl rfl rfl ?_
    refine ok_p rfl rfl rfl ?_
    have e : p - b = y := by
      have h1 : (!decide (p - b = y)) = false := hb
      rw [Bool.not_eq_false', decide_eq_true_eq] at h1
      exact h1
    exact iw_loop X u he hn hl hch hI hb' p2 b1 hK n 0 (Int32.ofInt 0) (Int32.ofInt 1) rfl (by decide) (Or.inr rfl) (fun _ => by rw [← hs, e, hy])
end IW
theorem fd_of_pv {GF : GH} {C : List AC} {a k ci : Nat} {vs : List AV} {z : Int} (ha : ¬ 999 ≤ a) (hC : ea_nt C a = some (.inr (ci, vs))) (h : pv GF C a k z) : ∃ x : Int32, fd_g C a k x ∧ x.toInt = z := by
  unfold pv at h
  rw [if_neg ha] at h
  obtain ⟨x, h1, h2⟩ := h
  unfold cv at h1
  rw [hC] at h1
  exact ⟨x, ⟨ci, vs, hC, h1⟩, h2⟩
theorem iw_tr (X : Option (List AI)) (u : Nat) {q n : Nat} (he : (q + 1) % 2 = 0) (hn : n ≤ 100) (hm : (q + 4, n) ∈ iw_ts) : cx_ok (tb_P X) tb_G (rf_G u) ((216, [.inr (.inl 190), .inr (.inr (q + 4))], [], (1, 0, 1), [], [(190, 19, 0, 400), (190, 21, 0, 400)]), [], 1, ([], []), ([], [(.inr (.inl 1), .inr (.inl 0), -(n : Int))])) := by
  intro vs C EV hvs hI hpre hrel
  obtain ⟨v0, t0, rfl, h0, hvs1⟩ := ea_rl_cons hvs
  obtain ⟨v1, t1, rfl, h1, hvs2⟩ := ea_rl_cons hvs1
  obtain rfl := ea_rl_nil hvs2
  obtain rfl : v0 = .inr (.inl (some 190)) := h0
  obtain rfl : v1 = .inr (.inr (.inr (.inr (q + 1)))) := h1
  obtain ⟨zP, E1, rfl, ⟨pP, p1, p2⟩, hp2⟩ := ea_rl_cons hpre
  obtain ⟨zB, E2, rfl, ⟨pB, b1, b2⟩, hp3⟩ := ea_rl_cons hp2
  obtain rfl := ea_rl_nil hp3
  dsimp only at p1 p2 b1 b2
  obtain ⟨ms, m1, m2, m3⟩ := hI_f hI (show tb_G 190 = some (.inl (12, _)) from rfl)
  obtain ⟨p, fp, rfl⟩ := fd_of_pv (a := 190) (by decide) m1 pP
  obtain ⟨b, fb, rfl⟩ := fd_of_pv (a := 190) (by decide) m1 pB
  obtain ⟨hl, hch⟩ := iw_ok X u hm
  refine iw_run X u he hn hl hch hI fp fb p1 p2 b1 b2 (fun v hv hpb => ?_)
  refine ⟨_, rfl, hI, fr_c_rf _ _ C, ⟨v, rfl, ?_, ?_⟩, ?_⟩
  · show (0 : Int) ≤ v.toInt
    rcases hv with rfl | rfl <;> decide
  · show v.toInt ≤ (1 : Int)
    rcases hv with rfl | rfl <;> decide
  · rcases hv with rfl | rfl
    · exact ⟨⟨[], trivial⟩, fun q hq => nomatch hq⟩
    · refine ⟨⟨[], trivial⟩, fun q hq => ?_⟩
      rcases List.mem_cons.mp hq with rfl | hq
      · exact ⟨b.toInt, p.toInt, rfl, rfl, by have := hpb rfl; dsimp only; omega⟩
      · exact nomatch hq
theorem tr_h11 (X : Option (List AI)) (u : Nat) : cx_ok (tb_P X) tb_G (rf_G u) trk_11 := iw_tr X u (q := 11744405) (n := 2) (by decide) (by decide) (by decide)
theorem tr_h12 (X : Option (List AI)) (u : Nat) : cx_ok (tb_P X) tb_G (rf_G u) trk_12 := iw_tr X u (q := 12138383) (n := 2) (by decide) (by decide) (by decide)
theorem tr_h13 (X : Option (List AI)) (u : Nat) : cx_ok (tb_P X) tb_G (rf_G u) trk_13 := iw_tr X u (q := 2989669283) (n := 3) (by decide) (by decide) (by decide)
theorem tr_h14 (X : Option (List AI)) (u : Nat) : cx_ok (tb_P X) tb_G (rf_G u) trk_14 := iw_tr X u (q := 2989961357) (n := 3) (by decide) (by decide) (by decide)
theorem tr_h15 (X : Option (List AI)) (u : Nat) : cx_ok (tb_P X) tb_G (rf_G u) trk_15 := iw_tr X u (q := 3082042245) (n := 3) (by decide) (by decide) (by decide)
theorem tr_h16 (X : Option (List AI)) (u : Nat) : cx_ok (tb_P X) tb_G (rf_G u) trk_16 := iw_tr X u (q := 3124213513) (n := 3) (by decide) (by decide) (by decide)
theorem tr_h17 (X : Option (List AI)) (u : Nat) : cx_ok (tb_P X) tb_G (rf_G u) trk_17 := iw_tr X u (q := 3165696515) (n := 3) (by decide) (by decide) (by decide)
theorem tr_h18 (X : Option (List AI)) (u : Nat) : cx_ok (tb_P X) tb_G (rf_G u) trk_18 := iw_tr X u (q := 784791024679) (n := 4) (by decide) (by decide) (by decide)
theorem tr_h19 (X : Option (List AI)) (u : Nat) : cx_ok (tb_P X) tb_G (rf_G u) trk_19 := iw_tr X u (q := 784791157281) (n := 4) (by decide) (by decide) (by decide)
theorem tr_h20 (X : Option (List AI)) (u : Nat) : cx_ok (tb_P X) tb_G (rf_G u) trk_20 := iw_tr X u (q := 786829588901) (n := 4) (by decide) (by decide) (by decide)
theorem tr_h21 (X : Option (List AI)) (u : Nat) : cx_ok (tb_P X) tb_G (rf_G u) trk_21 := iw_tr X u (q := 795385967383) (n := 4) (by decide) (by decide) (by decide)
theorem tr_h22 (X : Option (List AI)) (u : Nat) : cx_ok (tb_P X) tb_G (rf_G u) trk_22 := iw_tr X u (q := 797567332889) (n := 4) (by decide) (by decide) (by decide)
theorem tr_h23 (X : Option (List AI)) (u : Nat) : cx_ok (tb_P X) tb_G (rf_G u) trk_23 := iw_tr X u (q := 196476243687425) (n := 5) (by decide) (by decide) (by decide)
theorem tr_h24 (X : Option (List AI)) (u : Nat) : cx_ok (tb_P X) tb_G (rf_G u) trk_24 := iw_tr X u (q := 198125670153119) (n := 5) (by decide) (by decide) (by decide)
theorem tr_h25 (X : Option (List AI)) (u : Nat) : cx_ok (tb_P X) tb_G (rf_G u) trk_25 := iw_tr X u (q := 201467113190791) (n := 5) (by decide) (by decide) (by decide)
theorem tr_h26 (X : Option (List AI)) (u : Nat) : cx_ok (tb_P X) tb_G (rf_G u) trk_26 := iw_tr X u (q := 203627540166419) (n := 5) (by decide) (by decide) (by decide)
theorem tr_h27 (X : Option (List AI)) (u : Nat) : cx_ok (tb_P X) tb_G (rf_G u) trk_27 := iw_tr X u (q := 204215892260251) (n := 5) (by decide) (by decide) (by decide)
theorem tr_h28 (X : Option (List AI)) (u : Nat) : cx_ok (tb_P X) tb_G (rf_G u) trk_28 := iw_tr X u (q := 204756940403467) (n := 5) (by decide) (by decide) (by decide)
theorem tr_h29 (X : Option (List AI)) (u : Nat) : cx_ok (tb_P X) tb_G (rf_G u) trk_29 := iw_tr X u (q := 52280337941016721) (n := 6) (by decide) (by decide) (by decide)
theorem tr_h30 (X : Option (List AI)) (u : Nat) : cx_ok (tb_P X) tb_G (rf_G u) trk_30 := iw_tr X u (q := 13200821491936309661) (n := 7) (by decide) (by decide) (by decide)
