/-! CALLS, ENDS, SHAPES for the printed walks -/
def tyA (lo hi : Int) (n : Nat) : CT := .inr (0, n, 1, [.inl (lo, hi)])
def wkind (a : Nat) : List FT := let i : FT := .inl ((-2147483648), 2147483647)
  [.inl (0, 10), i, .inr (a + 1), .inr (a + 2), .inr (a + 3), .inr (a + 4), .inr (a + 5), .inr (a + 6), .inr (a + 7), .inr (a + 8), .inr (a + 9), i, i, i, i, i, i, i, i, .inr (a + 10)]
def kkind (a : Nat) : List FT := let i : FT := .inl ((-2147483648), 2147483647)
  [.inl (0, 1), .inl (0, 12), i, .inr (a + 1), .inr (a + 2), .inr (a + 3), .inl (0, 200), .inr (a + 4), .inl (0, 665)]
def isG (b : Nat) : Prop := tb_G b = some (.inl (3, [.inr (b + 1), .inl (0, 60), .inl (0, 59)])) ∧ tb_G (b + 1) = some (.inr (0, 240, 1, [.inl ((-2147483648), 2147483647)]))
def isW (a : Nat) : Prop := tb_G a = some (.inl (10, wkind a)) ∧ tb_G (a + 1) = some (.inr (0, 10, 1, [.inl ((-2147483648), 2147483647)])) ∧ tb_G (a + 2) = some (.inr (0, 10, 1, [.inl ((-2147483648), 2147483647)])) ∧ tb_G (a + 3) = some (.inr (0, 10, 1, [.inl ((-2147483648), 2147483647)])) ∧ tb_G (a + 4) = some (.inr (0, 10, 1, [.inl ((-2147483648), 2147483647)])) ∧ tb_G (a + 5) = some (.inr (0, 60, 1, [.inl (0, 63)])) ∧ tb_G (a + 6) = some (.inr (0, 10, 1, [.inl (0, 6)])) ∧ tb_G (a + 7) = some (.inr (0, 10, 1, [.inl (0, 6)])) ∧ tb_G (a + 8) = some (.inr (1, 10, 1, [])) ∧ tb_G (a + 9) = some (.inr (0, 8, 1, [.inl ((-2147483648), 2147483647)])) ∧ isG (a + 10)
def isK (a : Nat) : Prop := tb_G a = some (.inl (1, kkind a)) ∧ tb_G (a + 1) = some (.inr (0, 12, 1, [.inl ((-2147483648), 2147483647)])) ∧ tb_G (a + 2) = some (.inr (0, 12, 1, [.inl (0, 200)])) ∧ tb_G (a + 3) = some (.inr (0, 200, 1, [.inl ((-4), 660)])) ∧ tb_G (a + 4) = some (.inr (0, 665, 1, [.inl ((-2147483648), 2147483647)]))
theorem isG_28 : isG 28 := ⟨rfl, rfl⟩
theorem isG_40 : isG 40 := ⟨rfl, rfl⟩
theorem isW_18 : isW 18 := ⟨rfl, rfl, rfl, rfl, rfl, rfl, rfl, rfl, rfl, rfl, rfl, rfl⟩
theorem isW_30 : isW 30 := ⟨rfl, rfl, rfl, rfl, rfl, rfl, rfl, rfl, rfl, rfl, rfl, rfl⟩
theorem isW_178 : isW 178 := ⟨rfl, rfl, rfl, rfl, rfl, rfl, rfl, rfl, rfl, rfl, rfl, rfl⟩
theorem isW_m' : ∀ j : Nat, j < 10 → isW (46 + 12 * j)
  | 0, _ => ⟨rfl, rfl, rfl, rfl, rfl, rfl, rfl, rfl, rfl, rfl, rfl, rfl⟩
  | 1, _ => ⟨rfl, rfl, rfl, rfl, rfl, rfl, rfl, rfl, rfl, rfl, rfl, rfl⟩
  | 2, _ => ⟨rfl, rfl, rfl, rfl, rfl, rfl, rfl, rfl, rfl, rfl, rfl, rfl⟩
  | 3, _ => ⟨rfl, rfl, rfl, rfl, rfl, rfl, rfl, rfl, rfl, rfl, rfl, rfl⟩
  | 4, _ => ⟨rfl, rfl, rfl, rfl, rfl, rfl, rfl, rfl, rfl, rfl, rfl, rfl⟩
  | 5, _ => ⟨rfl, rfl, rfl, rfl, rfl, rfl, rfl, rfl, rfl, rfl, rfl, rfl⟩
  | 6, _ => ⟨rfl, rfl, rfl, rfl, rfl, rfl, rfl, rfl, rfl, rfl, rfl, rfl⟩
  | 7, _ => ⟨rfl, rfl, rfl, rfl, rfl, rfl, rfl, rfl, rfl, rfl, rfl, rfl⟩
  | 8, _ => ⟨rfl, rfl, rfl, rfl, rfl, rfl, rfl, rfl, rfl, rfl, rfl, rfl⟩
  | 9, _ => ⟨rfl, rfl, rfl, rfl, rfl, rfl, rfl, rfl, rfl, rfl, rfl, rfl⟩
  | _ + 10, h => absurd h (by omega)
theorem isW_m {j : Nat} (h : j < 10) : isW (46 + 12 * j) := isW_m' j h
theorem isK_8 : isK 8 := ⟨rfl, rfl, rfl, rfl, rfl⟩
theorem isK_13 : isK 13 := ⟨rfl, rfl, rfl, rfl, rfl⟩
theorem isK_173 : isK 173 := ⟨rfl, rfl, rfl, rfl, rfl⟩
def al_i (f : FT) : Bool := match f with
  | .inl _ => true
  | .inr _ => false
theorem row_a : (List.range 388).all (fun j => match ea_nt tg_row j with
    | some f => al_i f
    | none => false) = true := by decide +kernel
theorem row_p (j : Nat) : ∃ q, ea_nt tg_row (j % 388) = some (.inl q) := by
  have h := List.all_eq_true.mp row_a (j % 388) (List.mem_range.mpr (Nat.mod_lt _ (by decide)))
  cases hf : ea_nt tg_row (j % 388) with
  | none => rw [hf] at h; cases h
  | some f =>
    rw [hf] at h
    match f, h with
    | .inl q, _ => exact ⟨q, rfl⟩
def fpm (l : List (Nat × Nat × Option Nat)) (b j : Nat) : Bool := l.any (fun q => Nat.ble q.1 b && Nat.ble b q.2.1 && (match q.2.2 with
  | none => true
  | some f => Nat.beq f j))
/-- memories that differ in these places alone -/
def Eqo (l : List (Nat × Nat × Option Nat)) (M M' : MM) : Prop := ∀ b j, fpm l b j = false → M'.1 b j = M.1 b j ∧ M'.2 b j = M.2 b j
def fps (l l2 : List (Nat × Nat × Option Nat)) : Prop := ∀ b j, fpm l b j = true → fpm l2 b j = true
theorem eqo_rf {l : List (Nat × Nat × Option Nat)} (M : MM) : Eqo l M M := fun _ _ _ => ⟨rfl, rfl⟩
theorem fpm_at {l : List (Nat × Nat × Option Nat)} {i : Nat} {q : Nat × Nat × Option Nat} (h : l[i]? = some q) {b j : Nat} (hq : fpm [q] b j = true) : fpm l b j = true := by
  unfold fpm at hq ⊢
  rw [List.any_eq_true]
  refine ⟨q, List.mem_of_getElem? h, ?_⟩
  rw [List.any_cons, List.any_nil, Bool.or_false] at hq
  exact hq
theorem fpm_1 {a k : Nat} {o : Option Nat} (ho : o = none ∨ o = some k) : fpm [(a, a, o)] a k = true := by
  unfold fpm
  rw [List.any_cons, List.any_nil, Bool.or_false]
  rcases ho with rfl | rfl
  · simp
  · simp
theorem eqo_wi {l : List (Nat × Nat × Option Nat)} {M M1 : MM} {a k i : Nat} {o : Option Nat} {x : Int32} (h : Eqo l M M1) (hi : l[i]? = some (a, a, o)) (ho : o = none ∨ o = some k) : Eqo l M (wi M1 a k x) := fun b j hb => by
  have hn : ¬ (b = a ∧ j = k) := by
    rintro ⟨rfl, rfl⟩
    rw [fpm_at hi (fpm_1 ho)] at hb
    cases hb
  refine ⟨?_, (h b j hb).2⟩
  rw [← (h b j hb).1]
  exact up_n hn
theorem eqo_wj {l : List (Nat × Nat × Option Nat)} {M M1 : MM} {a k i : Nat} {o : Option Nat} {x : Int64} (h : Eqo l M M1) (hi : l[i]? = some (a, a, o)) (ho : o = none ∨ o = some k) : Eqo l M (wj M1 a k x) := fun b j hb => by
  have hn : ¬ (b = a ∧ j = k) := by
    rintro ⟨rfl, rfl⟩
    rw [fpm_at hi (fpm_1 ho)] at hb
    cases hb
  refine ⟨(h b j hb).1, ?_⟩
  rw [← (h b j hb).2]
  exact up_n hn
theorem eqo_cp {l : List (Nat × Nat × Option Nat)} {M M1 : MM} {t a c i : Nat} (h : Eqo l M M1) (hi : l[i]? = some (c, c, none)) (_ : (none : Option Nat) = none ∨ (none : Option Nat) = some 0) : Eqo l M (cpM M1 t a c) := fun b j hb => by
  have hn : ¬ b = c := by
    rintro rfl
    rw [fpm_at hi (fpm_1 (k := j) (Or.inl rfl))] at hb
    cases hb
  match t with
  | 0 => exact ⟨by rw [← (h b j hb).1]; exact if_neg hn, (h b j hb).2⟩
  | _ + 1 => exact ⟨(h b j hb).1, by rw [← (h b j hb).2]; exact if_neg hn⟩
theorem eqo_tr {l l1 : List (Nat × Nat × Option Nat)} {M M1 M2 : MM} (h : Eqo l M M1) (hs : fps l1 l) (h1 : Eqo l1 M1 M2) : Eqo l M M2 := fun b j hb => by
  have hb1 : fpm l1 b j = false := by
    cases e : fpm l1 b j with
    | false => rfl
    | true => rw [hs b j e] at hb; cases hb
  exact ⟨(h1 b j hb1).1.trans (h b j hb).1, (h1 b j hb1).2.trans (h b j hb).2⟩
theorem fps_nil {l : List (Nat × Nat × Option Nat)} : fps [] l := fun b j h => by cases h
theorem fpm_c {q : Nat × Nat × Option Nat} {t : List (Nat × Nat × Option Nat)} {b j : Nat} (h : fpm (q :: t) b j = true) : fpm [q] b j = true ∨ fpm t b j = true := by
  unfold fpm at h ⊢
  rw [List.any_cons, Bool.or_eq_true] at h
  rcases h with h | h
  · exact Or.inl (by rw [List.any_cons, List.any_nil, Bool.or_false]; exact h)
  · exact Or.inr h
theorem fps_cons {l t : List (Nat × Nat × Option Nat)} {q : Nat × Nat × Option Nat} {i : Nat} (h : l[i]? = some q) (ht : fps t l) : fps (q :: t) l := fun b j hb => by
  rcases fpm_c hb with h1 | h1
  · exact fpm_at h h1
  · exact ht b j h1
theorem fps_any {l t : List (Nat × Nat × Option Nat)} {lo hi : Nat} {f : Option Nat} {i : Nat} (h : l[i]? = some (lo, hi, none)) (ht : fps t l) : fps ((lo, hi, f) :: t) l := fun b j hb => by
  rcases fpm_c hb with h1 | h1
  · refine fpm_at h ?_
    unfold fpm at h1 ⊢
    simp only [List.any_cons, List.any_nil, Bool.or_false, Bool.and_eq_true] at h1 ⊢
    exact ⟨h1.1, trivial⟩
  · exact ht b j h1
theorem fps_rg {l t : List (Nat × Nat × Option Nat)} {lo hi lo2 hi2 : Nat} {f : Option Nat} {i : Nat} (h : l[i]? = some (lo2, hi2, none)) (h1 : lo2 ≤ lo) (h2 : hi ≤ hi2) (ht : fps t l) : fps ((lo, hi, f) :: t) l := fun b j hb => by
  rcases fpm_c hb with h3 | h3
  · refine fpm_at h ?_
    unfold fpm at h3 ⊢
    simp only [List.any_cons, List.any_nil, Bool.or_false, Bool.and_eq_true, Nat.ble_eq] at h3 ⊢
    exact ⟨⟨by omega, by omega⟩, trivial⟩
  · exact ht b j h3
theorem sw_e {x k : Int32} {z : Int} (h : x.toInt = z) (hk : k.toInt = z) : x = k := Int32.toInt_inj.mp (h.trans hk.symm)
theorem sw_n {x k : Int32} {z : Int} (h : x.toInt = z) (hk : ¬ k.toInt = z) : ¬ x = k := fun e => hk (e ▸ h)
theorem sw_o {x k : Int32} {lo hi : Int} (h : x.toInt < lo ∨ hi < x.toInt) (hk : ¬ (k.toInt < lo ∨ hi < k.toInt)) : ¬ x = k := fun e => hk (e ▸ h)
section PADN
variable {P : EP} {N m pc : Nat} {L : List (Nat × AV)} {S : List AV} {C : List AC} {K : Option AV ⊕ Nat → List AC → Prop}
theorem pa_dn {i : Instr} {r : Option (Nat × Nat × Nat)} {mj : Nat} {as T : List AV} {b : Bool} (hc : ep_cod P m pc = some (i, 3)) (hi : ok_iv P m i S = some r) (hq : ea_cl (ep_own P) i r S C = some (mj, as, T, b)) (hd : Nat.blt (ep_dep P mj) (ep_dep P m) = false) : pa P N m pc L S C K := by
  refine pa_b (pb_step (fun n hn k w x e1 => ?_))
  have key : ea_1 P (ea_x P n) m pc L S C k w = ea_q P (ea_x P n) m pc L S C k w i r := by
    unfold ea_1
    rw [hc]
    unfold ok_iv at hi
    split at hi
    · split at hi
      · cases hi
      · rename_i ho
        cases hi
        show (match ea_oi _ S with | some T => _ | none => _) = _
        rw [ho]
    · split at hi
      · cases hi
      · rename_i ho
        cases h9 : ea_is9 (ep_pl P m _) with
        | true => rw [h9] at hi; cases hi
        | false =>
          rw [h9] at hi
          cases hi
          show (match ea_mm _ S with | some T => _ | none => _) = _
          rw [ho]
          dsimp only
          rw [h9]
          rfl
    · cases hi
      rfl
    · cases hi
  rw [key] at e1
  unfold ea_q at e1
  rw [hq] at e1
  dsimp only at e1
  rw [hd, Bool.false_and] at e1
  cases e1
end PADN
section PMC
variable {X : Option (List AI)} {N m pc : Nat} {F : List (Nat × AV)} {S : List AV} {M : MM} {Q : RT}
theorem pM_rVi {x y : Int32} (hc : ep_cod (tb_P X) m pc = some (.ireturn, 1)) (e : y = x) : pM X N m pc F [.inl (.inl x)] M (Vi y M) := by
  subst e
  exact pM_ri hc ⟨rfl, rfl⟩
theorem pM_rVl {x y : Int64} (hc : ep_cod (tb_P X) m pc = some (.lreturn, 1)) (e : y = x) : pM X N m pc F [.inr (.inr (.inl (some x)))] M (Vl y M) := by
  subst e
  exact pM_rl hc ⟨rfl, rfl⟩
section CALLS
variable {i : Instr} {r : Option (Nat × Nat × Nat)} {mj : Nat} {as T : List AV} {b : Bool}
theorem pM_qVi {x : Int32} (hc : ep_cod (tb_P X) m pc = some (i, 3)) (hi : ok_iv (tb_P X) m i S = some r) (hq : ∀ C, mm tb_G M.1 M.2 C → ea_cl (ep_own (tb_P X)) i r S C = some (mj, as, T, b)) (hh : ep_hdl (tb_P X) m = []) (h : pM X N mj 0 (ea_ar 0 as) [] M (Vi x M)) (hk : pM X N m (pc + 3) F (.inl (.inl x) :: T) M Q) : pM X N m pc F S M Q :=
  pM_q hc hi hq hh h (fun v M' hv => by
    obtain ⟨e, rfl⟩ := hv
    cases e
    exact hk) (fun ce M' hv => nomatch hv.1)
theorem pM_qVl {x : Int64} (hc : ep_cod (tb_P X) m pc = some (i, 3)) (hi : ok_iv (tb_P X) m i S = some r) (hq : ∀ C, mm tb_G M.1 M.2 C → ea_cl (ep_own (tb_P X)) i r S C = some (mj, as, T, b)) (hh : ep_hdl (tb_P X) m = []) (h : pM X N mj 0 (ea_ar 0 as) [] M (Vl x M)) (hk : pM X N m (pc + 3) F (.inr (.inr (.inl (some x))) :: T) M Q) : pM X N m pc F S M Q :=
  pM_q hc hi hq hh h (fun v M' hv => by
    obtain ⟨e, rfl⟩ := hv
    cases e
    exact hk) (fun ce M' hv => nomatch hv.1)
theorem pM_qPi {Q1 : Int32 → Prop} (hc : ep_cod (tb_P X) m pc = some (i, 3)) (hi : ok_iv (tb_P X) m i S = some r) (hq : ∀ C, mm tb_G M.1 M.2 C → ea_cl (ep_own (tb_P X)) i r S C = some (mj, as, T, b)) (hh : ep_hdl (tb_P X) m = []) (h : pM X N mj 0 (ea_ar 0 as) [] M (Pi Q1 M)) (hk : ∀ x, Q1 x → pM X N m (pc + 3) F (.inl (.inl x) :: T) M Q) : pM X N m pc F S M Q :=
  pM_q hc hi hq hh h (fun v M' hv => by
    obtain ⟨x, e, rfl, h1⟩ := hv
    cases e
    exact hk x h1) (fun ce M' hv => by
    obtain ⟨x, e, -⟩ := hv
    cases e)
theorem pM_qPl {Q1 : Int64 → Prop} (hc : ep_cod (tb_P X) m pc = some (i, 3)) (hi : ok_iv (tb_P X) m i S = some r) (hq : ∀ C, mm tb_G M.1 M.2 C → ea_cl (ep_own (tb_P X)) i r S C = some (mj, as, T, b)) (hh : ep_hdl (tb_P X) m = []) (h : pM X N mj 0 (ea_ar 0 as) [] M (Pl Q1 M)) (hk : ∀ x, Q1 x → pM X N m (pc + 3) F (.inr (.inr (.inl (some x))) :: T) M Q) : pM X N m pc F S M Q :=
  pM_q hc hi hq hh h (fun v M' hv => by
    obtain ⟨x, e, rfl, h1⟩ := hv
    cases e
    exact hk x h1) (fun ce M' hv => by
    obtain ⟨x, e, -⟩ := hv
    cases e)
theorem pM_qRi {Q1 : Int32 → MM → Prop} (hc : ep_cod (tb_P X) m pc = some (i, 3)) (hi : ok_iv (tb_P X) m i S = some r) (hq : ∀ C, mm tb_G M.1 M.2 C → ea_cl (ep_own (tb_P X)) i r S C = some (mj, as, T, b)) (hh : ep_hdl (tb_P X) m = []) (h : pM X N mj 0 (ea_ar 0 as) [] M (Ri Q1)) (hk : ∀ x M', Q1 x M' → pM X N m (pc + 3) F (.inl (.inl x) :: T) M' Q) : pM X N m pc F S M Q :=
  pM_q hc hi hq hh h (fun v M' hv => by
    obtain ⟨x, e, h1⟩ := hv
    cases e
    exact hk x M' h1) (fun ce M' hv => by
    obtain ⟨x, e, -⟩ := hv
    cases e)
theorem pM_qRl {Q1 : Int64 → MM → Prop} (hc : ep_cod (tb_P X) m pc = some (i, 3)) (hi : ok_iv (tb_P X) m i S = some r) (hq : ∀ C, mm tb_G M.1 M.2 C → ea_cl (ep_own (tb_P X)) i r S C = some (mj, as, T, b)) (hh : ep_hdl (tb_P X) m = []) (h : pM X N mj 0 (ea_ar 0 as) [] M (Rl Q1)) (hk : ∀ x M', Q1 x M' → pM X N m (pc + 3) F (.inr (.inr (.inl (some x))) :: T) M' Q) : pM X N m pc F S M Q :=
  pM_q hc hi hq hh h (fun v M' hv => by
    obtain ⟨x, e, h1⟩ := hv
    cases e
    exact hk x M' h1) (fun ce M' hv => by
    obtain ⟨x, e, -⟩ := hv
    cases e)
theorem pM_qRu {Q1 : MM → Prop} (hc : ep_cod (tb_P X) m pc = some (i, 3)) (hi : ok_iv (tb_P X) m i S = some r) (hq : ∀ C, mm tb_G M.1 M.2 C → ea_cl (ep_own (tb_P X)) i r S C = some (mj, as, T, b)) (hh : ep_hdl (tb_P X) m = []) (h : pM X N mj 0 (ea_ar 0 as) [] M (Ru Q1)) (hk : ∀ M', Q1 M' → pM X N m (pc + 3) F T M' Q) : pM X N m pc F S M Q :=
  pM_q hc hi hq hh h (fun v M' hv => by
    obtain ⟨e, h1⟩ := hv
    cases e
    exact hk M' h1) (fun ce M' hv => nomatch hv.1)
theorem pM_qPue {Q1 : Prop} {E1 : Nat → Prop} (hc : ep_cod (tb_P X) m pc = some (i, 3)) (hi : ok_iv (tb_P X) m i S = some r) (hq : ∀ C, mm tb_G M.1 M.2 C → ea_cl (ep_own (tb_P X)) i r S C = some (mj, as, T, b)) (hh : ep_hdl (tb_P X) m = []) (h : pM X N mj 0 (ea_ar 0 as) [] M (Pe (Pu Q1 M) E1 M)) (hk : Q1 → pM X N m (pc + 3) F T M Q) (hx : ∀ ce, E1 ce → Q (.inr ce) M) : pM X N m pc F S M Q :=
  pM_q hc hi hq hh h (fun v M' hv => by
    rcases hv with ⟨e, rfl, h1⟩ | ⟨ce, e, -⟩
    · cases e
      exact hk h1
    · cases e) (fun ce M' hv => by
    rcases hv with ⟨e, -⟩ | ⟨ce', e, rfl, h1⟩
    · cases e
    · cases e
      exact hx ce h1)
/-- a call that goes no deeper: never made -/
theorem pM_dn (hc : ep_cod (tb_P X) m pc = some (i, 3)) (hi : ok_iv (tb_P X) m i S = some r) (hq : ∀ C, mm tb_G M.1 M.2 C → ea_cl (ep_own (tb_P X)) i r S C = some (mj, as, T, b)) (hd : Nat.blt (ep_dep (tb_P X) mj) (ep_dep (tb_P X) m) = false) : pM X N m pc F S M Q := fun C hC L hL => pa_dn hc hi (hq C hC) hd
end CALLS
/-- an element of the ring of worlds -/
theorem pM_aa {x : Int32} (hc : ep_cod (tb_P X) m pc = some (.aaload, 1)) (h : ni x < 10 → pM X N m (pc + 1) F (.inr (.inl (some (46 + 12 * ni x))) :: S) M Q) : pM X N m pc F (.inl (.inl x) :: .inr (.inl (some 45)) :: S) M Q := fun C hC L hL => by
  obtain ⟨d, us, v1, v2⟩ := hC.2 45 13 10 10 _ rfl
  refine pa_h hc rfl rfl rfl rfl (fun pc' S' C' dk dw e => ?_)
  simp only [ea_h, v1] at e
  cases hi : ea_ix (.inl x) 10 with
  | none => rw [hi] at e; cases e
  | some j =>
    obtain ⟨j1, j2⟩ := ix_get hi
    have hv : ea_al d us j = .inr (.inl (some (46 + 12 * j))) := by
      rw [v2 j j2]
      match j, j2 with
      | 0, _ => rfl
      | 1, _ => rfl
      | 2, _ => rfl
      | 3, _ => rfl
      | 4, _ => rfl
      | 5, _ => rfl
      | 6, _ => rfl
      | 7, _ => rfl
      | 8, _ => rfl
      | 9, _ => rfl
      | _ + 10, h => exact absurd h (by omega)
    rw [hi] at e
    simp only [hv] at e
    cases e
    rw [ni_j j1] at h
    exact h j2 C hC L hL
/-! Strings -/
section STR
variable {q : Nat}
theorem pM_gs {x u v : Nat} {z : Int32} (hc : ep_cod (tb_P X) m pc = some (.getstatic x, 3)) (hp : ep_pl (tb_P X) m x = some (25, u, v)) (hz : (1 : Int32) = z) (h : pM X N m (pc + 3) F (.inl (.inl z) :: S) M Q) : pM X N m pc F S M Q := fun C hC L hL => by
  refine pa_h hc rfl rfl rfl rfl (fun pc' S' C' dk dw e => ?_)
  simp only [ea_h, hp] at e
  cases e
  subst hz
  exact h C hC L hL
theorem pM_gf {x u v : Nat} (hc : ep_cod (tb_P X) m pc = some (.getstatic x, 3)) (hp : ep_pl (tb_P X) m x = some (27, u, v)) (h : pM X N m (pc + 3) F (.inr (.inr (.inr (.inr 0))) :: S) M Q) : pM X N m pc F S M Q := fun C hC L hL => by
  refine pa_h hc rfl rfl rfl rfl (fun pc' S' C' dk dw e => ?_)
  simp only [ea_h, hp] at e
  cases e
  exact h C hC L hL
theorem pM_g0 {x u : Nat} (he : (q + 1) % 2 = 0) (hc : ep_cod (tb_P X) m pc = some (.getfield x, 3)) (hp : ep_pl (tb_P X) m x = some (24, 0, u)) (h : pM X N m (pc + 3) F (.inr (.inr (.inr (.inr (q + 2)))) :: S) M Q) : pM X N m pc F (.inr (.inr (.inr (.inr (q + 1)))) :: S) M Q := fun C hC L hL => by
  refine pa_h hc rfl rfl rfl rfl (fun pc' S' C' dk dw e => ?_)
  simp only [ea_h, hp, ea_rd, sx_f, he, Nat.beq_refl, cond_true] at e
  cases e
  exact h C hC L hL
theorem pM_g1 {x u k : Nat} (he : (q + 1) % 2 = 0) (hc : ep_cod (tb_P X) m pc = some (.getfield x, 3)) (hp : ep_pl (tb_P X) m x = some (24, k + 1, u)) (h : pM X N m (pc + 3) F (.inl (.inl 0) :: S) M Q) : pM X N m pc F (.inr (.inr (.inr (.inr (q + 1)))) :: S) M Q := fun C hC L hL => by
  refine pa_h hc rfl rfl rfl rfl (fun pc' S' C' dk dw e => ?_)
  simp only [ea_h, hp, ea_rd, sx_f, he, Nat.beq_refl, cond_true] at e
  cases e
  exact h C hC L hL
theorem sx_h {q : Nat} (he : (q + 1) % 2 = 0) : (q + 2) / 128 = (q + 1) / 128 := by omega
theorem pM_bn (he : (q + 1) % 2 = 0) (hc : ep_cod (tb_P X) m pc = some (.arraylength, 1)) (h : pM X N m (pc + 1) F (.inl (.inl (Int32.ofNat (sx_len ((q + 1) / 128)))) :: S) M Q) : pM X N m pc F (.inr (.inr (.inr (.inr (q + 2)))) :: S) M Q := fun C hC L hL => by
  refine pa_h hc rfl rfl rfl rfl (fun pc' S' C' dk dw e => ?_)
  have h1 : Nat.beq ((q + 2) % 2) 1 = true := by
    rw [show (q + 2) % 2 = 1 by omega]
    rfl
  have e' : (bif Nat.beq ((q + 2) % 2) 1 then some (pc + 1, (Sum.inl (Sum.inl (Int32.ofNat (sx_len ((q + 2) / 128)))) : AV) :: S, (none : Option (List AC)), 0, 0) else none) = some (pc', S', C', dk, dw) := e
  rw [h1, sx_h he] at e'
  cases e'
  exact h C hC L hL
theorem pM_bb (he : (q + 1) % 2 = 0) {x : Int32} (hc : ep_cod (tb_P X) m pc = some (.baload, 1)) (h : pM X N m (pc + 1) F (.inl (.inl (Int32.ofNat (sx_ch ((q + 1) / 128) (ni x)))) :: S) M Q) : pM X N m pc F (.inl (.inl x) :: .inr (.inr (.inr (.inr (q + 2)))) :: S) M Q := fun C hC L hL => by
  refine pa_h hc rfl rfl rfl rfl (fun pc' S' C' dk dw e => ?_)
  have h1 : Nat.beq ((q + 2) % 2) 1 = true := by
    rw [show (q + 2) % 2 = 1 by omega]
    rfl
  have e' : (bif Nat.beq ((q + 2) % 2) 1 then (match ea_ix (.inl x) (sx_len ((q + 2) / 128)) with
      | some j => some (pc + 1, (Sum.inl (Sum.inl (Int32.ofNat (sx_ch ((q + 2) / 128) j))) : AV) :: S, (none : Option (List AC)), 0, 0)
      | none => none) else none) = some (pc', S', C', dk, dw) := e
  rw [h1, sx_h he] at e'
  cases hi : ea_ix (.inl x) (sx_len ((q + 1) / 128)) with
  | none => rw [hi] at e'; cases e'
  | some j =>
    rw [hi] at e'
    cases e'
    rw [ni_j (ix_get hi).1] at h
    exact h C hC L hL
theorem cl_s {own : Nat → Nat} {x mj n : Nat} {S as T : List AV} {C : List AC} (he : (q + 1) % 2 = 0) (hd : S.drop n = .inr (.inr (.inr (.inr (q + 1)))) :: T) (ha : (S.take n).reverse = as) : ea_cl own (.invokevirtual x) (some (26, mj, n)) S C = some (mj, .inr (.inr (.inr (.inr (q + 1)))) :: as, T, true) := by
  simp only [ea_cl, hd, he, Nat.beq_refl, cond_true, ha]
theorem q_coder (he : (q + 1) % 2 = 0) : pM X N 321 0 (ea_ar 0 [.inr (.inr (.inr (.inr (q + 1))))]) [] M (Vi 0 M) := by
  refine pM_gs rfl rfl rfl ?_
  refine pM_zeq rfl rfl (fun h => absurd h (by decide)) (fun _ => ?_)
  refine pM_aln rfl rfl rfl ?_
  refine pM_g1 he rfl rfl ?_
  refine pM_go rfl rfl ?_
  exact pM_rVi rfl rfl
theorem q_isL (he : (q + 1) % 2 = 0) : pM X N 322 0 (ea_ar 0 [.inr (.inr (.inr (.inr (q + 1))))]) [] M (Vi 1 M) := by
  refine pM_gs rfl rfl rfl ?_
  refine pM_zeq rfl rfl (fun h => absurd h (by decide)) (fun _ => ?_)
  refine pM_aln rfl rfl rfl ?_
  refine pM_g1 he rfl rfl ?_
  refine pM_zne rfl rfl (fun h => absurd rfl h) (fun _ => ?_)
  refine pM_ic rfl (z := 1) (by decide) ?_
  refine pM_go rfl rfl ?_
  exact pM_rVi rfl rfl
theorem sr_0 (x : Int32) : sr x 0 = x := by
  unfold sr
  rw [← Int32.toBitVec_inj]
  simp
theorem q_slen (he : (q + 1) % 2 = 0) : pM X N 319 0 (ea_ar 0 [.inr (.inr (.inr (.inr (q + 1))))]) [] M (Vi (Int32.ofNat (sx_len ((q + 1) / 128))) M) := by
  refine pM_aln rfl rfl rfl ?_
  refine pM_g0 he rfl rfl ?_
  refine pM_bn he rfl ?_
  refine pM_aln rfl rfl rfl ?_
  refine pM_qVi (as := [.inr (.inr (.inr (.inr (q + 1))))]) (T := [.inl (.inl (Int32.ofNat (sx_len ((q + 1) / 128))))]) rfl rfl (fun _ _ => cl_s he rfl rfl) rfl (q_coder he) ?_
  refine pM_shr rfl ?_
  exact pM_rVi rfl (sr_0 _).symm
/-- an index that is in bounds, or nothing -/
theorem q_pre {x y : Int32} : pM X N 325 0 (ea_ar 0 [.inl (.inl x), .inl (.inl y), .inr (.inr (.inr (.inr 0)))]) [] M (Vi x M) := by
  refine pM_w (F2 := [(0, .inl (.inl x)), (1, .inl (.inl y)), (2, .inr (.inr (.inr (.inr 0))))]) (fun L hL => lo_cons (lo_lk hL rfl) (lo_cons (lo_lk hL rfl) (lo_cons (lo_lk hL rfl) lo_nil))) ?_
  refine pM_iln rfl rfl ?_
  have bad : pM X N 325 9 [(0, .inl (.inl x)), (1, .inl (.inl y)), (2, .inr (.inr (.inr (.inr 0))))] [] M (Vi x M) := fun C hC L hL => by
    refine pa_h (i := .aload_n 2) rfl rfl ?_ rfl rfl (fun _ _ _ _ _ e => nomatch e)
    show (match ea_lk L 2 with
      | some a => if ea_isr a = true then some (9 + 1, L, a :: []) else none
      | none => none) = none
    rw [lo_lk hL (show ea_lk [(0, .inl (.inl x)), (1, .inl (.inl y)), (2, .inr (.inr (.inr (.inr 0))))] 2 = some (.inr (.inr (.inr (.inr 0)))) from rfl)]
    rfl
  refine pM_zlt rfl rfl (fun _ => bad) (fun _ => ?_)
  refine pM_iln rfl rfl ?_
  refine pM_iln rfl rfl ?_
  refine pM_clt rfl rfl (fun _ => ?_) (fun _ => bad)
  refine pM_iln rfl rfl ?_
  exact pM_rVi rfl rfl
theorem q_cix {x y : Int32} : pM X N 323 0 (ea_ar 0 [.inl (.inl x), .inl (.inl y)]) [] M (Ru (fun M' => M' = M)) := by
  refine pM_iln rfl rfl ?_
  refine pM_iln rfl rfl ?_
  refine pM_gf rfl rfl ?_
  refine pM_qVi (as := [.inl (.inl x), .inl (.inl y), .inr (.inr (.inr (.inr 0)))]) (T := []) rfl rfl (fun _ _ => rfl) rfl q_pre ?_
  refine pM_p (pc' := 9) (S' := []) rfl rfl (fun _ => rfl) ?_
  exact pM_ru rfl ⟨rfl, rfl⟩
theorem q_lch (he : (q + 1) % 2 = 0) {x : Int32} : pM X N 324 0 (ea_ar 0 [.inr (.inr (.inr (.inr (q + 2)))), .inl (.inl x)]) [] M (Vi (sc (q + 1) x) M) := by
  refine pM_iln rfl rfl ?_
  refine pM_aln rfl rfl rfl ?_
  refine pM_bn he rfl ?_
  refine pM_qRu (as := [.inl (.inl x), .inl (.inl (Int32.ofNat (sx_len ((q + 1) / 128))))]) (T := []) rfl rfl (fun _ _ => rfl) rfl q_cix (fun M' hM => ?_)
  subst hM
  refine pM_aln rfl rfl rfl ?_
  refine pM_iln rfl rfl ?_
  refine pM_bb he rfl ?_
  refine pM_si rfl (z := 255) (by decide) ?_
  refine pM_and rfl ?_
  refine pM_p (pc' := 14) (S' := [.inl (.inl (sc (q + 1) x))]) rfl rfl (fun _ => rfl) ?_
  exact pM_rVi rfl rfl
theorem q_sch (he : (q + 1) % 2 = 0) {x : Int32} : pM X N 320 0 (ea_ar 0 [.inr (.inr (.inr (.inr (q + 1)))), .inl (.inl x)]) [] M (Vi (sc (q + 1) x) M) := by
  refine pM_aln rfl rfl rfl ?_
  refine pM_qVi (as := [.inr (.inr (.inr (.inr (q + 1))))]) (T := []) rfl rfl (fun _ _ => cl_s he rfl rfl) rfl (q_isL he) ?_
  refine pM_zeq rfl rfl (fun h => absurd h (by decide)) (fun _ => ?_)
  refine pM_aln rfl rfl rfl ?_
  refine pM_g0 he rfl rfl ?_
  refine pM_iln rfl rfl ?_
  refine pM_qVi (as := [.inr (.inr (.inr (.inr (q + 2)))), .inl (.inl x)]) (T := []) rfl rfl (fun _ _ => rfl) rfl (q_lch he) ?_
  exact pM_rVi rfl rfl
/-- a String's length, its signs -/
theorem pM_sl {x u : Nat} {T : List AV} (hc : ep_cod (tb_P X) m pc = some (.invokevirtual x, 3)) (hp : ep_pl (tb_P X) m x = some (26, 319, u)) (he : (q + 1) % 2 = 0) (hu : u = 0) (hh : ep_hdl (tb_P X) m = []) (h : pM X N m (pc + 3) F (.inl (.inl (Int32.ofNat (sx_len ((q + 1) / 128)))) :: T) M Q) : pM X N m pc F (.inr (.inr (.inr (.inr (q + 1)))) :: T) M Q := by
  subst hu
  exact pM_qVi (as := [.inr (.inr (.inr (.inr (q + 1))))]) (T := T) (r := some (26, 319, 0)) hc (by simp only [ok_iv, hp]) (fun _ _ => cl_s he rfl rfl) hh (q_slen he) h
theorem pM_sc {x u : Nat} {y : Int32} {T : List AV} (hc : ep_cod (tb_P X) m pc = some (.invokevirtual x, 3)) (hp : ep_pl (tb_P X) m x = some (26, 320, u)) (he : (q + 1) % 2 = 0) (hu : u = 1) (hh : ep_hdl (tb_P X) m = []) (h : pM X N m (pc + 3) F (.inl (.inl (sc (q + 1) y)) :: T) M Q) : pM X N m pc F (.inl (.inl y) :: .inr (.inr (.inr (.inr (q + 1)))) :: T) M Q := by
  subst hu
  exact pM_qVi (as := [.inr (.inr (.inr (.inr (q + 1)))), .inl (.inl y)]) (T := T) (r := some (26, 320, 1)) hc (by simp only [ok_iv, hp]) (fun _ _ => cl_s he rfl rfl) hh (q_sch he) h
end STR
end PMC
