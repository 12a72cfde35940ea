/-! THE LAW: what holds between its calls -/
/-- class and reference, with what the tapes hold and whether images were kept -/
def lt_S (sz im T H : Int) (C : List AC) : Prop := xI tb_G C ∧ rf_W C ∧ rf_cls C 201 202 ∧ rf_v C 1 1 = sz ∧ rf_v C 0 14 = im ∧ rf_v C 190 18 = T ∧ rf_v C 190 11 = H
theorem rf_J_of {C C' : List AC} (h : rf_G 0 1001 C' = rf_G 0 1001 C) (hJ : rf_cls C 201 202) : rf_cls C' 201 202 := rf_b_of (p := rf_cls C' 201 202) (by
  have h1 : rf_G 0 1001 C' = rf_b (rf_cls C' 201 202) := rfl
  have h2 : rf_G 0 1001 C = rf_b (rf_cls C 201 202) := rfl
  have h3 := rf_b_1 hJ
  omega)
theorem lt_cm {a b T H sz im : Int} {C C' : List AC} (h : lt_S a b T H C) (hc : cm_P sz im C C') : lt_S sz im T H C' := by
  have F : fr_c (rf_G 0) [(0, 190)] C C' := fr_cells 0 (fun x hx => hc.2.1 x (by
    apply Classical.byContradiction
    intro hn
    have : xm [(0, 190)] x = true := by
      unfold xm
      have h1 : Nat.ble 0 x = true := Nat.ble_eq_true_of_le (Nat.zero_le x)
      have h2 : Nat.blt x 190 = true := Nat.ble_eq_true_of_le (by omega)
      simp [h1, h2]
    rw [this] at hx
    cases hx)) (by decide)
  exact ⟨hc.1, rf_W_of (F.2 999 (by decide) (by decide)) h.2.1, rf_J_of (F.2 1001 (by decide) (by decide)) h.2.2.1, hc.2.2.1, hc.2.2.2, by rw [rf_v_eq (cv_eq (hc.2.1 190 (by decide)) 18)]; exact h.2.2.2.2.2.1, by rw [rf_v_eq (cv_eq (hc.2.1 190 (by decide)) 11)]; exact h.2.2.2.2.2.2⟩
/-- the law's own row is written -/
theorem lt_out {sz im T H : Int} {C : List AC} (h : lt_S sz im T H C) {d : AV} {us : List (Nat × AV)} (hC : ea_nt C 215 = some (.inl (1, 1, d, us))) (y : Int64) : lt_S sz im T H (C.set 215 (.inl (1, 1, d, (0, .inr (.inr (.inl (some y)))) :: us))) := by
  have F : fr_c (rf_G 0) [(215, 216)] C (C.set 215 (.inl (1, 1, d, (0, .inr (.inr (.inl (some y)))) :: us))) := fr_cells 0 (fun x hx => nt_set_ne (by rintro rfl; exact absurd hx (by decide))) (by decide)
  have hv : ∀ {b k : Nat}, b ≠ 215 → rf_v (C.set 215 (.inl (1, 1, d, (0, .inr (.inr (.inl (some y)))) :: us))) b k = rf_v C b k := fun {b k} hb => rf_v_eq (cv_eq (nt_set_ne (fun h => hb h.symm)) k)
  exact ⟨xI_sa h.1 (show tb_G 215 = some (.inr (1, 1, 1, [])) from rfl) hC ⟨y, rfl⟩, rf_W_of (F.2 999 (by decide) (by decide)) h.2.1, rf_J_of (F.2 1001 (by decide) (by decide)) h.2.2.1, by rw [hv (by decide)]; exact h.2.2.2.1, by rw [hv (by decide)]; exact h.2.2.2.2.1, by rw [hv (by decide)]; exact h.2.2.2.2.2.1, by rw [hv (by decide)]; exact h.2.2.2.2.2.2⟩
theorem lt_215 {sz im T H : Int} {C : List AC} (h : lt_S sz im T H C) : ∃ d us, ea_nt C 215 = some (.inl (1, 1, d, us)) := by
  obtain ⟨d, us, h1, -⟩ := hI_a h.1 (show tb_G 215 = some (.inr (1, 1, 1, [])) from rfl)
  exact ⟨d, us, h1⟩
def wr_K (sz im T H : Int) (o : Option AV ⊕ Nat) (C' : List AC) : Prop := (∃ y : Int32, o = .inl (some (.inl (.inl y)))) ∧ lt_S sz im T H C'
section WRP
variable {P : EP} {N m pc : Nat} {L : List (Nat × AV)} {S : List AV} {C : List AC} {K : Option AV ⊕ Nat → List AC → Prop}
theorem okb_rv (h : ok_ P m pc L S C (fun o C' => (∃ v, o = .inl v) ∧ K o C')) : okb P 0 m pc L S C K := by
  obtain ⟨n, o, C', h1, ⟨v, h2⟩, h3⟩ := h
  subst h2
  exact ⟨n, 0, .inl v, C', Nat.le_refl _, h1, h3⟩
theorem okb_cv0 {x mj n a ci : Nat} {vs : List AV} {as T : List AV} (hc : ep_cod P m pc = some (.invokevirtual x, 3)) (hp : ep_pl P m x = some (2, mj, n)) (hC : ea_nt C a = some (.inr (ci, vs))) (ho : ep_own P mj = ci) (hn : as.length = n) (hd : (Nat.blt (ep_dep P mj) (ep_dep P m) && (Nat.ble (ea_wt T) 8 && Nat.ble (ea_wt (.inr (.inl (some a)) :: as)) (ep_nls P mj))) = true) {K1 : Option AV ⊕ Nat → List AC → Prop} (h : ok_ P mj 0 (ea_ar 0 (.inr (.inl (some a)) :: as)) [] C K1) (hk : ∀ o C', K1 o C' → ∃ v, o = .inl v ∧ okb P N m (pc + 3) L (v.toList ++ T) C' K) : okb P N m pc L (as.reverse ++ .inr (.inl (some a)) :: T) C K := by
  have h0 : okb P 0 mj 0 (ea_ar 0 (.inr (.inl (some a)) :: as)) [] C (okb_back P N m pc L T true K) := okb_rv (ok_post h (fun o C' hq => by
    obtain ⟨v, rfl, hv⟩ := hk o C' hq
    exact ⟨⟨v, rfl⟩, hv⟩))
  have := okb_cv (N := N) hc hp hC ho hn hd h0
  rw [Nat.zero_add] at this
  exact this
end WRP
theorem lk_s2_n {L : List (Nat × AV)} {i j : Nat} {a v : AV} (h : ea_lk L j = some v) (h1 : j ≠ i) (h2 : j ≠ i + 1) (h3 : j + 1 ≠ i) : ea_lk (ea_s2 L i a) j = some v := by
  unfold ea_s2
  show (bif Nat.beq i j then some a else ea_lk (L.filter _) j) = some v
  have hb : Nat.beq i j = false := by
    cases hb : Nat.beq i j with
    | false => rfl
    | true => exact absurd (Nat.eq_of_beq_eq_true hb).symm h1
  rw [hb]
  refine lk_filt h (fun q _ hq => ?_)
  rw [hq]
  simp [h1, h2, h3]
def lw_L (cl : List (Nat × AV)) (i : Int32) : Prop := ea_lk cl 0 = some (.inr (.inr (.inr (.inl true)))) ∧ ea_lk cl 1 = some (.inr (.inl (some 0))) ∧ ea_lk cl 2 = some (.inr (.inl (some 190))) ∧ ea_lk cl 3 = some (.inr (.inl (some 215))) ∧ ea_lk cl 4 = some (.inl (.inl i))
theorem lw_L_s {cl : List (Nat × AV)} {i : Int32} (h : lw_L cl i) {j : Nat} (hj : 5 ≤ j) (a : AV) : lw_L (ea_s1 cl j a) i :=
  ⟨lk_s1_n1 h.1 rfl (by omega), lk_s1_n1 h.2.1 rfl (by omega), lk_s1_n1 h.2.2.1 rfl (by omega), lk_s1_n1 h.2.2.2.1 rfl (by omega), lk_s1_n1 h.2.2.2.2 rfl (by omega)⟩
theorem lw_L_l {cl : List (Nat × AV)} {i : Int32} (h : lw_L cl i) {j : Nat} (hj : 6 ≤ j) (a : AV) : lw_L (ea_s2 cl j a) i :=
  ⟨lk_s2_n h.1 (by omega) (by omega) (by omega), lk_s2_n h.2.1 (by omega) (by omega) (by omega), lk_s2_n h.2.2.1 (by omega) (by omega) (by omega), lk_s2_n h.2.2.2.1 (by omega) (by omega) (by omega), lk_s2_n h.2.2.2.2 (by omega) (by omega) (by omega)⟩
section LWL
variable {X : List AI} {N : Nat} {pc : Nat} {cl : List (Nat × AV)} {S : List AV} {C : List AC} {K : Option AV ⊕ Nat → List AC → Prop} {i : Int32}
/-- the script is ints -/
def lw_X (X : List AI) : Prop := X.length ≤ 3072 ∧ ∀ j, j < X.length → ∃ y : Int32, ea_nt X j = some (.inl y)
/-- an int of the call -/
theorem lw_ld (hX : lw_X X) (hl : lw_L cl i) {iN k : Nat} (hi : i.toInt = (iN : Int)) {kz : Int} (hk : (Int32.ofInt kz).toInt = (k : Int)) (hlt : iN + k < X.length) (c0 : ep_cod (tb_P (some X)) 0 pc = some (.aload_n 0, 1)) (c1 : ep_cod (tb_P (some X)) 0 (pc + 1) = some (.iload 4, 2)) (c2 : ep_cod (tb_P (some X)) 0 (pc + 1 + 2) = some (.iconst kz, 1)) (c3 : ep_cod (tb_P (some X)) 0 (pc + 1 + 2 + 1) = some (.iadd, 1)) (c4 : ep_cod (tb_P (some X)) 0 (pc + 1 + 2 + 1 + 1) = some (.iaload, 1)) (h : ∀ y : Int32, ea_nt X (iN + k) = some (.inl y) → okb (tb_P (some X)) N 0 (pc + 6) cl (.inl (.inl y) :: S) C K) : okb (tb_P (some X)) N 0 pc cl S C K := by
  obtain ⟨y, hy⟩ := hX.2 (iN + k) hlt
  have hx := hX.1
  have ix : (i + Int32.ofInt kz).toInt = ((iN + k : Nat) : Int) := by
    rw [i32_add (by omega) (by omega)]
    omega
  refine okb_an c0 hl.1 rfl ?_
  refine okb_il c1 hl.2.2.2.2 ?_
  refine okb_p c2 rfl rfl ?_
  refine okb_p c3 rfl rfl ?_
  exact okb_sl (X := X) c4 rfl (ix_of ix hlt) hy (h y hy)
/-- not 0 -/
theorem lw_bo {y : Int32} (c0 : ep_cod (tb_P (some X)) 0 pc = some (.ifCond .eq 7, 3)) (t0 : ea_to pc 7 = some (pc + 7)) (c1 : ep_cod (tb_P (some X)) 0 (pc + 3) = some (.iconst 1, 1)) (c2 : ep_cod (tb_P (some X)) 0 (pc + 3 + 1) = some (.goto 4, 3)) (t2 : ea_to (pc + 3 + 1) 4 = some (pc + 8)) (c3 : ep_cod (tb_P (some X)) 0 (pc + 7) = some (.iconst 0, 1)) (h : ∀ b : Int32, (b = Int32.ofInt 0 ∨ b = Int32.ofInt 1) → okb (tb_P (some X)) N 0 (pc + 8) cl (.inl (.inl b) :: S) C K) : okb (tb_P (some X)) N 0 pc cl (.inl (.inl y) :: S) C K := by
  cases hq : ea_ck .eq y 0 with
  | true =>
    refine okb_if true c0 t0 hq ?_
    exact okb_p c3 rfl rfl (h _ (Or.inl rfl))
  | false =>
    refine okb_if false c0 t0 hq ?_
    refine okb_p c1 rfl rfl ?_
    refine okb_p (pc' := pc + 8) c2 rfl ?_ (h _ (Or.inr rfl))
    show (match ea_to (pc + 3 + 1) 4 with
      | some t => some (t, cl, _)
      | none => none) = _
    rw [t2]
end LWL
theorem at_any (x : Int32) : at_g (.inl ((-2147483648), 2147483647)) (.inl (.inl x)) := ⟨x, rfl, Int32.le_toInt x, Int.le_of_lt_add_one (Int32.toInt_lt x)⟩
theorem at_bo {b : Int32} (h : b = Int32.ofInt 0 ∨ b = Int32.ofInt 1) : at_g (.inl (0, 1)) (.inl (.inl b)) := by
  rcases h with rfl | rfl
  · exact ⟨_, rfl, by decide, by decide⟩
  · exact ⟨_, rfl, by decide, by decide⟩
section RM
variable (X : Option (List AI)) {sz im T H : Int} {C : List AC}
theorem xm_lo {b k : Nat} (hb : b < k) : ∀ {M : List (Nat × Nat)}, M.all (fun q => Nat.ble k q.1) = true → xm M b = false
  | [], _ => rfl
  | q :: t, h => by
    simp only [List.all_cons, Bool.and_eq_true] at h
    have h1 := Nat.le_of_ble_eq_true h.1
    unfold xm
    rw [xm_lo hb h.2, Bool.or_false]
    have : Nat.ble q.1 b = false := by
      cases hb2 : Nat.ble q.1 b with
      | false => rfl
      | true => have := Nat.le_of_ble_eq_true hb2; omega
    rw [this, Bool.false_and]
/-- what a contract of the reference leaves -/
theorem rm_of {GF : GH} {po : PO} {v : Option AV} {EV : List Int} {C' : List AC} {t : List PB} (h : po_g GF po v EV C') (hp : po.1 = (999, 0, 1, 1) :: (1001, 0, 1, 1) :: t) : pv GF C' 999 0 1 ∧ pv GF C' 1001 0 1 ∧ ∃ NV, pb_g GF C' t NV := by
  obtain ⟨⟨NV, hNV⟩, -⟩ := h
  rw [hp] at hNV
  obtain ⟨z0, N1, rfl, ⟨p0, a1, a2⟩, hn1⟩ := ea_rl_cons hNV
  obtain ⟨z1, N2, rfl, ⟨p1, b1, b2⟩, hn2⟩ := ea_rl_cons hn1
  dsimp only at a1 a2 b1 b2
  obtain rfl : z0 = 1 := by omega
  obtain rfl : z1 = 1 := by omega
  exact ⟨p0, p1, N2, hn2⟩
theorem cx_po2 (c : CX) (v : Option AV) : cx_po c v = c.2.2.2.1 ∨ cx_po c v = c.2.2.2.2 := by
  unfold cx_po
  split
  · split
    · exact Or.inl rfl
    · exact Or.inr rfl
  · exact Or.inr rfl
/-- a call of the reference -/
theorem rm_call {c : CX} (hc : cx_ok (tb_P X) tb_G (rf_G 0) c) (hS : lt_S sz im T H C) {vs : List AV} (hv : ea_rl at_g c.1.2.1 vs) {pre : List PB} {EV : List Int} (hpre : c.1.2.2.2.2.2 = (999, 0, 1, 1) :: (1001, 0, 1, 1) :: pre) (hE : pb_g (rf_G 0) C pre EV) (hr : c.2.1 = []) {t : List PB} (hp0 : c.2.2.2.1.1 = (999, 0, 1, 1) :: (1001, 0, 1, 1) :: t) (hp1 : c.2.2.2.2.1 = (999, 0, 1, 1) :: (1001, 0, 1, 1) :: t) (hM : c.1.2.2.1.all (fun q => Nat.ble 190 q.1) = true) : ok_ (tb_P X) c.1.1 0 (ea_ar 0 vs) [] C (fun o C' => ∃ v, o = .inl v ∧ rt_g c.1.2.2.2.1 v ∧ xI tb_G C' ∧ rf_W C' ∧ rf_cls C' 201 202 ∧ rf_v C' 1 1 = sz ∧ rf_v C' 0 14 = im ∧ (xm c.1.2.2.1 1007 = false → rf_v C' 190 18 = T) ∧ (xm c.1.2.2.1 1008 = false → rf_v C' 190 11 = H) ∧ ∃ NV, pb_g (rf_G 0) C' t NV) := by
  have e1 : pv (rf_G 0) C 999 0 1 := rf_b_1 hS.2.1
  have e2 : pv (rf_G 0) C 1001 0 1 := rf_b_1 hS.2.2.1
  refine ok_post (hc vs C (1 :: 1 :: EV) hv hS.1 (by rw [hpre]; exact ⟨⟨e1, by decide, by decide⟩, ⟨e2, by decide, by decide⟩, hE⟩) (by rw [hr]; exact fun q hq => nomatch hq)) (fun o C' hq => ?_)
  obtain ⟨v, rfl, I', F', rv, P'⟩ := hq
  have hP : pv (rf_G 0) C' 999 0 1 ∧ pv (rf_G 0) C' 1001 0 1 ∧ ∃ NV, pb_g (rf_G 0) C' t NV := by
    rcases cx_po2 c v with e | e
    · exact rm_of P' (by rw [e, hp0])
    · exact rm_of P' (by rw [e, hp1])
  refine ⟨v, rfl, rv, I', rf_G_W hP.1 (by decide) (by decide), jj_of hP.2.1 (by decide) (by decide), ?_, ?_, fun h7 => ?_, fun h8 => ?_, hP.2.2⟩
  · rw [rf_v_eq (cv_eq (F'.1 1 (xm_lo (by decide) hM)) 1)]; exact hS.2.2.2.1
  · rw [rf_v_eq (cv_eq (F'.1 0 (xm_lo (by decide) hM)) 14)]; exact hS.2.2.2.2.1
  · have e1 : rf_G 0 1007 C' = rf_v C' 190 18 := rfl
    have e2 : rf_G 0 1007 C = rf_v C 190 18 := rfl
    rw [← e1, F'.2 1007 (by decide) h7, e2]
    exact hS.2.2.2.2.2.1
  · have e1 : rf_G 0 1008 C' = rf_v C' 190 11 := rfl
    have e2 : rf_G 0 1008 C = rf_v C 190 11 := rfl
    rw [← e1, F'.2 1008 (by decide) h8, e2]
    exact hS.2.2.2.2.2.2
def rm_K (kd : Nat) (sz im T H : Int) (o : Option AV ⊕ Nat) (C' : List AC) : Prop := en_P kd [] o ∧ lt_S sz im T H C'
theorem en_rt {t : Nat × Int × Int} {v : Option AV} (h : rt_g t v) : en_P t.1 [] (.inl v) := by
  obtain ⟨k, lo, hi⟩ := t
  match k, h with
  | 0, h => exact h
  | 1, ⟨x, e, _⟩ => exact ⟨x, e⟩
  | _ + 2, ⟨y, e⟩ => exact ⟨y, e⟩
/-- tape and image alone -/
theorem rm_norm {c : CX} (hc : cx_ok (tb_P X) tb_G (rf_G 0) c) (hS : lt_S sz im T H C) {vs : List AV} (hv : ea_rl at_g c.1.2.1 vs) (hpre : c.1.2.2.2.2.2 = [(999, 0, 1, 1), (1001, 0, 1, 1)]) (hr : c.2.1 = []) (hp0 : c.2.2.2.1.1 = [(999, 0, 1, 1), (1001, 0, 1, 1)]) (hp1 : c.2.2.2.2.1 = [(999, 0, 1, 1), (1001, 0, 1, 1)]) (hM : c.1.2.2.1.all (fun q => Nat.ble 190 q.1) = true) (h7 : xm c.1.2.2.1 1007 = false) (h8 : xm c.1.2.2.1 1008 = false) : ok_ (tb_P X) c.1.1 0 (ea_ar 0 vs) [] C (rm_K c.1.2.2.2.1.1 sz im T H) := by
  refine ok_post (rm_call X hc hS hv (EV := []) hpre trivial hr hp0 hp1 hM) (fun o C' hq => ?_)
  obtain ⟨v, rfl, rv, a, b, c', d, e, f, g, -⟩ := hq
  exact ⟨en_rt rv, a, b, c', d, e, f h7, g h8⟩
/-- the tape is used up -/
theorem rm_use {c : CX} (hc : cx_ok (tb_P X) tb_G (rf_G 0) c) (hS : lt_S sz im T H C) {vs : List AV} (hv : ea_rl at_g c.1.2.1 vs) {pre : List PB} {EV : List Int} (hpre : c.1.2.2.2.2.2 = (999, 0, 1, 1) :: (1001, 0, 1, 1) :: pre) (hE : pb_g (rf_G 0) C pre EV) (hr : c.2.1 = []) (hp0 : c.2.2.2.1.1 = [(999, 0, 1, 1), (1001, 0, 1, 1), (1007, 0, 0, 0)]) (hp1 : c.2.2.2.2.1 = [(999, 0, 1, 1), (1001, 0, 1, 1), (1007, 0, 0, 0)]) (hM : c.1.2.2.1.all (fun q => Nat.ble 190 q.1) = true) (h8 : xm c.1.2.2.1 1008 = false) : ok_ (tb_P X) c.1.1 0 (ea_ar 0 vs) [] C (rm_K c.1.2.2.2.1.1 sz im 0 H) := by
  refine ok_post (rm_call X hc hS hv hpre hE hr hp0 hp1 hM) (fun o C' hq => ?_)
  obtain ⟨v, rfl, rv, a, b, c', d, e, -, g, NV, hNV⟩ := hq
  obtain ⟨z, N1, rfl, ⟨pz, z1, z2⟩, -⟩ := ea_rl_cons hNV
  have ez : rf_v C' 190 18 = z := pz
  dsimp only at z1 z2
  exact ⟨en_rt rv, a, b, c', d, e, by omega, g h8⟩
theorem lt_22 (hS : lt_S sz im T H C) : ∃ z, pb_g (rf_G 0) C [(190, 22, 0, 6)] [z] := by
  obtain ⟨ms, m1, m2, m3⟩ := hI_f hS.1 (show tb_G 190 = some (.inl (12, _)) from rfl)
  obtain ⟨_, r22, dd, rfl, d1, d2⟩ := m3 22 (.inl (0, 6)) rfl
  exact ⟨dd.toInt, ⟨pv_f (a := 190) (by decide) m1 r22, d1, d2⟩, trivial⟩
theorem lt_18 (hS : lt_S sz im T H C) : 0 ≤ T ∧ T ≤ 400 ∧ pb_g (rf_G 0) C [(190, 18, 0, 400)] [T] := by
  obtain ⟨ms, m1, m2, m3⟩ := hI_f hS.1 (show tb_G 190 = some (.inl (12, _)) from rfl)
  obtain ⟨_, r18, dd, rfl, d1, d2⟩ := m3 18 (.inl (0, 400)) rfl
  have h := rf_f m1 r18
  rw [hS.2.2.2.2.2.1] at h
  subst h
  exact ⟨d1, d2, ⟨pv_f (a := 190) (by decide) m1 r18, d1, d2⟩, trivial⟩
/-- feed -/
theorem rm_feed {a b c d e : Int32} (hS : lt_S sz im T H C) : ok_ (tb_P X) 211 0 (ea_ar 0 [.inr (.inl (some 190)), .inl (.inl a), .inl (.inl b), .inl (.inl c), .inl (.inl d), .inl (.inl e)]) [] C (fun o C' => ∃ y : Int32, o = .inl (some (.inl (.inl y))) ∧ ((T ≤ 380 ∧ y.toInt = T + 20 ∧ lt_S sz im (T + 20) H C') ∨ (381 ≤ T ∧ y.toInt = -1 ∧ lt_S sz im T H C'))) := by
  obtain ⟨T1, T2, pT⟩ := lt_18 hS
  have e1 : pv (rf_G 0) C 999 0 1 := rf_b_1 hS.2.1
  have e2 : pv (rf_G 0) C 1001 0 1 := rf_b_1 hS.2.2.1
  refine ok_post ((show cx_ok (tb_P X) tb_G (rf_G 0) trk_59 from tr_yes X 59 (by decide) 0) _ C [1, 1, T] ⟨rfl, at_any a, at_any b, at_any c, at_any d, at_any e, trivial⟩ hS.1 ⟨⟨e1, by decide, by decide⟩, ⟨e2, by decide, by decide⟩, pT⟩ (fun q hq => nomatch hq)) (fun o C' hq => ?_)
  obtain ⟨v, rfl, I', F', ⟨y, rfl, y1, y2⟩, P'⟩ := hq
  have hsz : rf_v C' 1 1 = sz := by rw [rf_v_eq (cv_eq (F'.1 1 rfl) 1)]; exact hS.2.2.2.1
  have him : rf_v C' 0 14 = im := by rw [rf_v_eq (cv_eq (F'.1 0 rfl) 14)]; exact hS.2.2.2.2.1
  have hH : rf_v C' 190 11 = H := by
    have e1 : rf_G 0 1008 C' = rf_v C' 190 11 := rfl
    have e2 : rf_G 0 1008 C = rf_v C 190 11 := rfl
    rw [← e1, F'.2 1008 (by decide) rfl, e2]
    exact hS.2.2.2.2.2.2
  have y3 : -1 ≤ y.toInt := y1
  refine ⟨y, rfl, ?_⟩
  by_cases hy : y.toInt < 0
  · have e : cx_po trk_59 (some (.inl (.inl y))) = trk_59.2.2.2.1 := if_pos hy
    rw [e] at P'
    have hP := rm_of (t := [(190, 18, 381, 400)]) P' rfl
    obtain ⟨⟨NV, hNV⟩, hR⟩ := P'
    obtain ⟨_, N1, rfl, -, hn1⟩ := ea_rl_cons hNV
    obtain ⟨_, N2, rfl, -, hn2⟩ := ea_rl_cons hn1
    obtain ⟨zs, N3, rfl, ⟨zS, zs1, zs2⟩, -⟩ := ea_rl_cons hn2
    have w1 := rl_z hR (.head _) (z1 := zs) (z2 := T) zS rfl
    have w2 := rl_z hR (.tail _ (.head _)) (z1 := T) (z2 := zs) rfl zS
    have ez : rf_v C' 190 18 = zs := rf_v_pv (a := 190) (by decide) zS
    dsimp only at zs1
    exact Or.inr ⟨by omega, by omega, I', rf_G_W hP.1 (by decide) (by decide), jj_of hP.2.1 (by decide) (by decide), hsz, him, by omega, hH⟩
  · have e : cx_po trk_59 (some (.inl (.inl y))) = trk_59.2.2.2.2 := if_neg hy
    rw [e] at P'
    have hP := rm_of (t := [(190, 18, 20, 400)]) P' rfl
    obtain ⟨⟨NV, hNV⟩, hR⟩ := P'
    obtain ⟨_, N1, rfl, -, hn1⟩ := ea_rl_cons hNV
    obtain ⟨_, N2, rfl, -, hn2⟩ := ea_rl_cons hn1
    obtain ⟨zs, N3, rfl, ⟨zS, zs1, zs2⟩, -⟩ := ea_rl_cons hn2
    have w1 := rl_z hR (.head _) (z1 := zs) (z2 := T) zS rfl
    have w2 := rl_z hR (.tail _ (.head _)) (z1 := T) (z2 := zs) rfl zS
    have w3 := rl_z hR (.tail _ (.tail _ (.head _))) (z1 := y.toInt) (z2 := T) ⟨y, rfl, rfl⟩ rfl
    have w4 := rl_z hR (.tail _ (.tail _ (.tail _ (.head _)))) (z1 := T) (z2 := y.toInt) rfl ⟨y, rfl, rfl⟩
    have ez : rf_v C' 190 18 = zs := rf_v_pv (a := 190) (by decide) zS
    dsimp only at zs2
    exact Or.inl ⟨by omega, by omega, I', rf_G_W hP.1 (by decide) (by decide), jj_of hP.2.1 (by decide) (by decide), hsz, him, by omega, hH⟩
/-- one field of the reference is written, not one that the ghosts look at -/
theorem lt_f {k : Nat} {s : List AV} {v : AV} (hS : lt_S sz im T H C) (hs : ea_nt C 190 = some (.inr (12, s))) (hI : xI tb_G (C.set 190 (.inr (12, s.set k v)))) (hg : gs_all tr_gs [(190, 191), (1004, 1009)] (190, (k : Int), (k : Int), 1, 0) = true) : xI tb_G (C.set 190 (.inr (12, s.set k v))) ∧ rf_W (C.set 190 (.inr (12, s.set k v))) ∧ rf_cls (C.set 190 (.inr (12, s.set k v))) 201 202 ∧ rf_v (C.set 190 (.inr (12, s.set k v))) 1 1 = sz ∧ rf_v (C.set 190 (.inr (12, s.set k v))) 0 14 = im := by
  have F : fr_c (rf_G 0) [(190, 191), (1004, 1009)] C (C.set 190 (.inr (12, s.set k v))) := fr_f 0 hs (by decide) hg
  exact ⟨hI, rf_W_of (F.2 999 (by decide) (by decide)) hS.2.1, rf_J_of (F.2 1001 (by decide) (by decide)) hS.2.2.1, by rw [rf_v_eq (cv_eq (F.1 1 rfl) 1)]; exact hS.2.2.2.1, by rw [rf_v_eq (cv_eq (F.1 0 rfl) 14)]; exact hS.2.2.2.2.1⟩
/-- end -/
theorem rm_end {n : Int32} (hS : lt_S sz im T H C) : ok_ (tb_P X) 212 0 (ea_ar 0 [.inr (.inl (some 190)), .inl (.inl n)]) [] C (fun o C' => ∃ y : Int32, o = .inl (some (.inl (.inl y))) ∧ ((0 ≤ n.toInt ∧ n.toInt ≤ T ∧ y = Int32.ofInt 1 ∧ lt_S sz im n.toInt H C') ∨ (¬ (0 ≤ n.toInt ∧ n.toInt ≤ T) ∧ y = Int32.ofInt 0 ∧ lt_S sz im T H C'))) := by
  obtain ⟨ms, m1, m2, m3⟩ := hI_f hS.1 (show tb_G 190 = some (.inl (12, _)) from rfl)
  have hlen : ms.length = 38 := m2
  refine ok_p rfl rfl rfl ?_
  refine ok_p rfl rfl rfl ?_
  refine ok_pf (v := .inl (.inl (Int32.ofInt 0))) rfl rfl m1 rfl (by rw [hlen]; rfl) ?_
  have S1 : lt_S sz im T H (C.set 190 (.inr (12, ms.set 0 (.inl (.inl (Int32.ofInt 0)))))) := by
    obtain ⟨a, b, c, d, e⟩ := lt_f hS m1 (k := 0) (v := .inl (.inl (Int32.ofInt 0))) (xI_sf hS.1 (show tb_G 190 = some (.inl (12, _)) from rfl) m1 (f := .inl (-2147483648, 2147483647)) rfl ⟨_, rfl, by decide, by decide⟩) (by decide)
    exact ⟨a, b, c, d, e, by rw [rf_fs m1 (by decide)]; exact hS.2.2.2.2.2.1, by rw [rf_fs m1 (by decide)]; exact hS.2.2.2.2.2.2⟩
  revert S1
  generalize C.set 190 (.inr (12, ms.set 0 (.inl (.inl (Int32.ofInt 0))))) = C1
  intro S1
  obtain ⟨s1, n1, n2, n3⟩ := hI_f S1.1 (show tb_G 190 = some (.inl (12, _)) from rfl)
  have hlen1 : s1.length = 38 := n2
  obtain ⟨_, r18, tp, rfl, t1, t2⟩ := n3 18 (.inl (0, 400)) rfl
  have hT : tp.toInt = T := by rw [← S1.2.2.2.2.2.1]; exact (rf_f n1 r18).symm
  dsimp only at t1 t2
  have no : ¬ (0 ≤ n.toInt ∧ n.toInt ≤ T) → ok_ (tb_P X) 212 17 [(0, .inr (.inl (some 190))), (1, .inl (.inl n))] [] C1 (fun o C' => ∃ y : Int32, o = .inl (some (.inl (.inl y))) ∧ ((0 ≤ n.toInt ∧ n.toInt ≤ T ∧ y = Int32.ofInt 1 ∧ lt_S sz im n.toInt H C') ∨ (¬ (0 ≤ n.toInt ∧ n.toInt ≤ T) ∧ y = Int32.ofInt 0 ∧ lt_S sz im T H C'))) := fun hn => by
    refine ok_p rfl rfl rfl ?_
    exact ok_r rfl rfl rfl rfl rfl ⟨_, rfl, Or.inr ⟨hn, rfl, S1⟩⟩
  refine ok_p rfl rfl rfl ?_
  cases hq : ea_ck .lt n 0 with
  | true =>
    have e1 : n < 0 := of_decide_eq_true hq
    rw [Int32.lt_iff_toInt_lt, show (0 : Int32).toInt = 0 by decide] at e1
    refine ok_if true rfl rfl hq ?_
    exact no (by omega)
  | false =>
    have e1 : ¬ n < 0 := of_decide_eq_false hq
    rw [Int32.lt_iff_toInt_lt, show (0 : Int32).toInt = 0 by decide] at e1
    refine ok_if false rfl rfl hq ?_
    refine ok_p rfl rfl rfl ?_
    refine ok_p rfl rfl rfl ?_
    refine ok_gf rfl rfl n1 r18 ?_
    cases hr : ea_ck .le n tp with
    | false =>
      have e2 : ¬ n ≤ tp := of_decide_eq_false hr
      rw [Int32.le_iff_toInt_le] at e2
      refine ok_ic false rfl rfl hr ?_
      exact no (by omega)
    | true =>
      have e2 : n ≤ tp := of_decide_eq_true hr
      rw [Int32.le_iff_toInt_le] at e2
      refine ok_ic true rfl rfl hr ?_
      refine ok_p rfl rfl rfl ?_
      refine ok_p rfl rfl rfl ?_
      refine ok_pf (v := .inl (.inl n)) rfl rfl n1 rfl (by rw [hlen1]; rfl) ?_
      refine ok_p rfl rfl rfl ?_
      refine ok_r rfl rfl rfl rfl rfl ⟨_, rfl, Or.inl ⟨by omega, by omega, rfl, ?_⟩⟩
      obtain ⟨a, b, c, d, e⟩ := lt_f S1 n1 (k := 18) (v := .inl (.inl n)) (xI_sf S1.1 (show tb_G 190 = some (.inl (12, _)) from rfl) n1 (f := .inl (0, 400)) rfl ⟨_, rfl, by show (0 : Int) ≤ n.toInt; omega, by show n.toInt ≤ (400 : Int); omega⟩) (by decide)
      exact ⟨a, b, c, d, e, rf_f (nt_set_self n1) (nt_set_self r18), by rw [rf_fs n1 (by decide)]; exact S1.2.2.2.2.2.2⟩
/-- image -/
theorem rm_image (hS : lt_S sz im T H C) : ok_ (tb_P X) 193 0 (ea_ar 0 [.inr (.inl (some 190))]) [] C (fun o C' => o = .inl none ∧ lt_S sz im T 1 C') := by
  have e1 : pv (rf_G 0) C 999 0 1 := rf_b_1 hS.2.1
  have e2 : pv (rf_G 0) C 1001 0 1 := rf_b_1 hS.2.2.1
  obtain ⟨ms, m1, m2, m3⟩ := hI_f hS.1 (show tb_G 190 = some (.inl (12, _)) from rfl)
  have hlen : ms.length = 38 := m2
  refine ok_p rfl rfl rfl ?_
  refine ok_p rfl rfl rfl ?_
  refine ok_pf (v := .inl (.inl (Int32.ofInt 0))) rfl rfl m1 rfl (by rw [hlen]; rfl) ?_
  have S1 : lt_S sz im T H (C.set 190 (.inr (12, ms.set 0 (.inl (.inl (Int32.ofInt 0)))))) := by
    obtain ⟨a, b, c, d, e⟩ := lt_f hS m1 (k := 0) (v := .inl (.inl (Int32.ofInt 0))) (xI_sf hS.1 (show tb_G 190 = some (.inl (12, _)) from rfl) m1 (f := .inl (-2147483648, 2147483647)) rfl ⟨_, rfl, by decide, by decide⟩) (by decide)
    exact ⟨a, b, c, d, e, by rw [rf_fs m1 (by decide)]; exact hS.2.2.2.2.2.1, by rw [rf_fs m1 (by decide)]; exact hS.2.2.2.2.2.2⟩
  revert S1
  generalize C.set 190 (.inr (12, ms.set 0 (.inl (.inl (Int32.ofInt 0))))) = C1
  intro S1
  obtain ⟨s1, n1, n2, n3⟩ := hI_f S1.1 (show tb_G 190 = some (.inl (12, _)) from rfl)
  obtain ⟨_, r1, rfl⟩ := n3 1 (.inr 191) rfl
  obtain ⟨_, r2, rfl⟩ := n3 2 (.inr 192) rfl
  obtain ⟨_, r6, rfl⟩ := n3 6 (.inr 196) rfl
  obtain ⟨_, r7, rfl⟩ := n3 7 (.inr 197) rfl
  have z0 : at_g (.inl (0, 0)) (.inl (.inl (Int32.ofInt 0))) := ⟨_, rfl, by decide, by decide⟩
  refine ok_p rfl rfl rfl ?_
  refine ok_gf rfl rfl n1 r1 ?_
  refine ok_p rfl rfl rfl ?_
  refine ok_p rfl rfl rfl ?_
  refine ok_gf rfl rfl n1 r2 ?_
  refine ok_p rfl rfl rfl ?_
  refine ok_cxs (c := trk_5) (show cx_ok (tb_P X) tb_G (rf_G 0) trk_5 from tr_yes X 5 (by decide) 0) (as := [.inr (.inl (some 191)), .inl (.inl (Int32.ofInt 0)), .inr (.inl (some 192)), .inl (.inl (Int32.ofInt 0))]) (T := []) (EV := [1, 1]) rfl rfl rfl rfl ⟨rfl, z0, rfl, z0, trivial⟩ S1.1 ⟨⟨rf_b_1 S1.2.1, by decide, by decide⟩, ⟨rf_b_1 S1.2.2.1, by decide, by decide⟩, trivial⟩ (fun q hq => nomatch hq) (fun w C2 I2 F2 rv P2 => ?_)
  obtain rfl : w = none := rv
  have W2 := rm_of (t := []) P2 rfl
  have N2 : ea_nt C2 190 = some (.inr (12, s1)) := by rw [F2.1 190 rfl]; exact n1
  show ok_ (tb_P X) 193 18 _ [] C2 _
  refine ok_p rfl rfl rfl ?_
  refine ok_gf rfl rfl N2 r6 ?_
  refine ok_p rfl rfl rfl ?_
  refine ok_p rfl rfl rfl ?_
  refine ok_gf rfl rfl N2 r7 ?_
  refine ok_p rfl rfl rfl ?_
  refine ok_cxs (c := trk_47) (show cx_ok (tb_P X) tb_G (rf_G 0) trk_47 from tr_yes X 47 (by decide) 0) (as := [.inr (.inl (some 196)), .inl (.inl (Int32.ofInt 0)), .inr (.inl (some 197)), .inl (.inl (Int32.ofInt 0))]) (T := []) (EV := [1, 1]) rfl rfl rfl rfl ⟨rfl, z0, rfl, z0, trivial⟩ I2 ⟨⟨W2.1, by decide, by decide⟩, ⟨W2.2.1, by decide, by decide⟩, trivial⟩ (fun q hq => nomatch hq) (fun w C3 I3 F3 rv P3 => ?_)
  obtain rfl : w = none := rv
  have W3 := rm_of (t := []) P3 rfl
  show ok_ (tb_P X) 193 31 _ [] C3 _
  refine tr_m0 X 0 [(0, .inr (.inl (some 190)))] [] C3 [1, 1] _ (fun q hq => ?_) I3 ⟨⟨W3.1, by decide, by decide⟩, ⟨W3.2.1, by decide, by decide⟩, trivial⟩ (fun q hq => nomatch hq) (fun C4 I4 F4 P4 => ?_)
  · rcases List.mem_cons.mp hq with rfl | hq
    · exact ⟨_, rfl, rfl⟩
    · exact nomatch hq
  have W4 := rm_of (t := []) P4 rfl
  obtain ⟨s4, k1, k2, k3⟩ := hI_f I4 (show tb_G 190 = some (.inl (12, _)) from rfl)
  have hlen4 : s4.length = 38 := k2
  obtain ⟨_, k11, hh, rfl, -, -⟩ := k3 11 (.inl (0, 1)) rfl
  have S4 : lt_S sz im T (rf_v C4 190 11) C4 := by
    refine ⟨I4, rf_G_W W4.1 (by decide) (by decide), jj_of W4.2.1 (by decide) (by decide), ?_, ?_, ?_, rfl⟩
    · rw [rf_v_eq (cv_eq (F4.1 1 rfl) 1), rf_v_eq (cv_eq (F3.1 1 rfl) 1), rf_v_eq (cv_eq (F2.1 1 rfl) 1)]; exact S1.2.2.2.1
    · rw [rf_v_eq (cv_eq (F4.1 0 rfl) 14), rf_v_eq (cv_eq (F3.1 0 rfl) 14), rf_v_eq (cv_eq (F2.1 0 rfl) 14)]; exact S1.2.2.2.2.1
    · have a1 : rf_G 0 1007 C4 = rf_v C4 190 18 := rfl
      have a2 : rf_G 0 1007 C1 = rf_v C1 190 18 := rfl
      rw [← a1, F4.2 1007 (by decide) rfl, F3.2 1007 (by decide) rfl, F2.2 1007 (by decide) rfl, a2]
      exact S1.2.2.2.2.2.1
  refine ok_p rfl rfl rfl ?_
  refine ok_p rfl rfl rfl ?_
  refine ok_pf (v := .inl (.inl (Int32.ofInt 1))) rfl rfl k1 rfl (by rw [hlen4]; rfl) ?_
  refine ok_r rfl rfl rfl rfl rfl ⟨rfl, ?_⟩
  obtain ⟨a, b, c, d, e⟩ := lt_f S4 k1 (k := 11) (v := .inl (.inl (Int32.ofInt 1))) (xI_sf I4 (show tb_G 190 = some (.inl (12, _)) from rfl) k1 (f := .inl (0, 1)) rfl ⟨_, rfl, by decide, by decide⟩) (by decide)
  exact ⟨a, b, c, d, e, by rw [rf_fs k1 (by decide)]; exact S4.2.2.2.2.2.1, rf_f (nt_set_self k1) (nt_set_self k11)⟩
end RM
