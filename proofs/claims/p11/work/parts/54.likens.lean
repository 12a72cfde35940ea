/-! CONTRACTS BY HAND: rows copied -/
theorem ok_ic {P : EP} {m pc : Nat} {L : List (Nat × AV)} {S : List AV} {C : List AC} {K : Option AV ⊕ Nat → List AC → Prop} {c : Jvm.ClassFile.Cond} {off : Int} {t : Nat} {x y : Int32} (b : Bool) (hc : ep_cod P m pc = some (.if_icmp c off, 3)) (ht : ea_to pc off = some t) (hb : ea_ck c x y = b) (h : ok_ P m (bif b then t else pc + 3) L S C K) : ok_ P m pc L (.inl (.inl y) :: .inl (.inl x) :: S) C K := by
  refine ok_p (pc' := bif b then t else pc + 3) (L' := L) (S' := S) hc rfl ?_ h
  simp only [ea_p, ea_if, hb, ht]
  cases b <;> rfl
theorem row_int : tg_row.all (fun f => match f with
  | .inl _ => true
  | .inr _ => false) = true := by decide +kernel
theorem row_y {j : Nat} {v : AV} (h : el_g 0 388 tg_row j v) : ∃ y : Int32, v = .inl (.inl y) := by
  obtain ⟨f, f1, f2⟩ := el_get (by decide) h
  match f, f1, f2 with
  | .inl q, _, ⟨y, y1, _⟩ => exact ⟨y, y1⟩
  | .inr k, f1, _ =>
    have := List.all_eq_true.mp row_int _ (nt_mem f1)
    cases this
section LK
variable (X : Option (List AI)) {C : List AC} {a b na nb av bv : Nat} {da db : AV} {usa usb : List (Nat × AV)} {al be : Int32} {K : Option AV ⊕ Nat → List AC → Prop}
/-- k elements are copied -/
def lk_I (C : List AC) (b nb av bv : Nat) (da db : AV) (usa usb : List (Nat × AV)) (k : Nat) (C' : List AC) : Prop := xI tb_G C' ∧ (∀ x, x ≠ b → ea_nt C' x = ea_nt C x) ∧ ∃ us', ea_nt C' b = some (.inl (0, nb, db, us')) ∧ ∀ j, j < nb → ea_al db us' j = if bv ≤ j ∧ j < bv + k then ea_al da usa (av + (j - bv)) else ea_al db usb j
set_option maxRecDepth 20000 in
theorem lk_loop (hI : xI tb_G C) (ha : ea_nt C a = some (.inl (0, na, da, usa))) (hGa : tb_G a = some (.inr (0, na, 388, tg_row))) (hb : ea_nt C b = some (.inl (0, nb, db, usb))) (hGb : tb_G b = some (.inr (0, nb, 388, tg_row))) (hal : al.toInt = (av : Int)) (hbe : be.toInt = (bv : Int)) (la : av + 388 ≤ na) (lb : bv + 388 ≤ nb) (ma : av % 388 = 0) (mb : bv % 388 = 0) (na' : na ≤ 4000) (nb' : nb ≤ 4000) (hdis : a ≠ b ∨ av + 388 ≤ bv ∨ bv + 388 ≤ av)
    (hK : ∀ C', lk_I C b nb av bv da db usa usb 388 C' → K (.inl none) C') : ∀ (m k : Nat) (x : Int32) (C' : List AC), m + k = 388 → x.toInt = (k : Int) → lk_I C b nb av bv da db usa usb k C' → ok_ (tb_P X) 191 3 [(4, .inl (.inl x)), (0, .inr (.inl (some a))), (1, .inl (.inl al)), (2, .inr (.inl (some b))), (3, .inl (.inl be))] [] C' K := by
  intro m
  induction m with
  | zero =>
    intro k x C' hm hx hinv
    refine ok_p rfl rfl rfl ?_
    refine ok_p rfl rfl rfl ?_
    refine ok_ic true rfl rfl ?_ ?_
    · show decide ((Int16.ofInt 388).toInt32 ≤ x) = true
      rw [decide_eq_true_eq, Int32.le_iff_toInt_le, hx, show ((Int16.ofInt 388).toInt32).toInt = 388 by decide]
      omega
    · refine ok_r rfl rfl rfl rfl rfl ?_
      obtain rfl : k = 388 := by omega
      exact hK C' hinv
  | succ m IH =>
    intro k x C' hm hx hinv
    obtain ⟨I', F', us', u1, u2⟩ := hinv
    obtain ⟨da', usa', a1, a2⟩ := hI_a I' hGa
    obtain ⟨d0, us0, c1, c2⟩ := hI_a hI hGa
    rw [ha] at c1
    cases c1
    have hval : ea_al da' usa' (av + k) = ea_al da usa (av + k) := by
      by_cases hab : a = b
      · subst hab
        rw [u1] at a1
        cases a1
        rw [hb] at ha
        cases ha
        rw [u2 (av + k) (by omega), if_neg (by omega)]
      · rw [F' a hab, ha] at a1
        cases a1
        rfl
    obtain ⟨y, hy⟩ := row_y (c2 (av + k) (by omega))
    have hy' : ea_al da' usa' (av + k) = .inl (.inl y) := hval.trans hy
    have ix1 : (be + x).toInt = ((bv + k : Nat) : Int) := by
      rw [i32_add (by omega) (by omega)]
      omega
    have ix2 : (al + x).toInt = ((av + k : Nat) : Int) := by
      rw [i32_add (by omega) (by omega)]
      omega
    have ix3 : (x + Int32.ofInt 1).toInt = ((k + 1 : Nat) : Int) := by
      rw [i32_add (by rw [show (Int32.ofInt 1).toInt = 1 by decide]; omega) (by rw [show (Int32.ofInt 1).toInt = 1 by decide]; omega), show (Int32.ofInt 1).toInt = 1 by decide]
      omega
    refine ok_p rfl rfl rfl ?_
    refine ok_p rfl rfl rfl ?_
    refine ok_ic false rfl rfl ?_ ?_
    · show decide ((Int16.ofInt 388).toInt32 ≤ x) = false
      rw [decide_eq_false_iff_not, Int32.le_iff_toInt_le, hx, show ((Int16.ofInt 388).toInt32).toInt = 388 by decide]
      omega
    refine ok_p rfl rfl rfl ?_
    refine ok_p rfl rfl rfl ?_
    refine ok_p rfl rfl rfl ?_
    refine ok_p rfl rfl rfl ?_
    refine ok_p rfl rfl rfl ?_
    refine ok_p rfl rfl rfl ?_
    refine ok_p rfl rfl rfl ?_
    refine ok_p rfl rfl rfl ?_
    refine ok_al rfl a1 (ix_of ix2 (by omega)) hy' ?_
    refine ok_as rfl u1 (ix_of ix1 (by omega)) ?_
    refine ok_p rfl rfl rfl ?_
    refine ok_p rfl rfl rfl ?_
    refine IH (k + 1) (x + Int32.ofInt 1) _ (by omega) ix3 ⟨?_, fun z hz => ?_, _, nt_set_self u1, fun j hj => ?_⟩
    · refine xI_sa I' hGb u1 ?_
      have h1 := c2 (av + k) (by omega)
      rw [hy] at h1
      obtain ⟨f, f1, f2⟩ := el_get (by decide) h1
      refine el_put (by decide) ⟨f, ?_, f2⟩
      rw [show (bv + k) % 388 = (av + k) % 388 by omega]
      exact f1
    · rw [nt_set_ne (fun h => hz h.symm)]
      exact F' z hz
    · rw [ea_al_at]
      by_cases hjk : j = bv + k
      · rw [if_pos hjk, if_pos (by omega), show av + (j - bv) = av + k by omega, hy]
      · rw [if_neg hjk, u2 j hj]
        by_cases hin : bv ≤ j ∧ j < bv + k
        · rw [if_pos hin, if_pos (by omega)]
        · rw [if_neg hin, if_neg (by omega)]
set_option maxRecDepth 20000 in
/-- likens, as it runs -/
theorem lk_run (hI : xI tb_G C) (ha : ea_nt C a = some (.inl (0, na, da, usa))) (hGa : tb_G a = some (.inr (0, na, 388, tg_row))) (hb : ea_nt C b = some (.inl (0, nb, db, usb))) (hGb : tb_G b = some (.inr (0, nb, 388, tg_row))) (hal : al.toInt = (av : Int)) (hbe : be.toInt = (bv : Int)) (la : av + 388 ≤ na) (lb : bv + 388 ≤ nb) (ma : av % 388 = 0) (mb : bv % 388 = 0) (na' : na ≤ 4000) (nb' : nb ≤ 4000) (hdis : a ≠ b ∨ av + 388 ≤ bv ∨ bv + 388 ≤ av)
    (hK : ∀ C', lk_I C b nb av bv da db usa usb 388 C' → K (.inl none) C') : ok_ (tb_P X) 191 0 (ea_ar 0 [.inr (.inl (some a)), .inl (.inl al), .inr (.inl (some b)), .inl (.inl be)]) [] C K := by
  refine ok_p rfl rfl rfl ?_
  refine ok_p rfl rfl rfl ?_
  refine lk_loop X hI ha hGa hb hGb hal hbe la lb ma mb na' nb' hdis hK 388 0 (Int32.ofInt (Int.ofNat 0)) C rfl (by decide) ⟨hI, fun _ _ => rfl, usb, hb, fun j hj => ?_⟩
  rw [if_neg (by omega)]
end LK
