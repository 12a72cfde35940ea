/-! THE LAW, both sides coupled: what holds between its calls -/
def LM (B : Int) (C : List AC) : Prop := ∃ M : MM, mm tb_G M.1 M.2 C ∧ CP B M
theorem CP_le {B B' : Int} {M : MM} (h : CP B M) (hB : B ≤ B') : CP B' M := by
  obtain ⟨q1, q2, ⟨L, l1, l2, l3, l4⟩, ⟨w1, w2⟩, m, hh, m1, m2, m3⟩ := h
  exact ⟨q1, q2, ⟨L, l1, l2, l3, IMG_le l4 hB⟩, ⟨w1, GW_le w2 hB⟩, m, hh, m1, m2, fun i hi => GW_le (m3 i hi) hB⟩
/-- a call of the class has ended -/
def JO (SY : Option AV → MM → Prop) (SE : Nat → MM → Prop) (o : Option AV ⊕ Nat) (M1 : MM) : Prop := (∃ v, o = .inl v ∧ SY v M1) ∨ ∃ ce, o = .inr ce ∧ SE ce M1
def JE (SY : Option AV → MM → Prop) (SE : Nat → MM → Prop) (o : Option AV ⊕ Nat) (C' : List AC) : Prop := ∃ M1 : MM, mm tb_G M1.1 M1.2 C' ∧ JO SY SE o M1
section JS
variable {X : Option (List AI)} {N m : Nat} {as : List AV} {M : MM} {C : List AC} {SY : Option AV → MM → Prop} {SE : Nat → MM → Prop}
theorem je {Q : RT} (h : pM X N m 0 (ea_ar 0 as) [] M Q) (hm : mm tb_G M.1 M.2 C) (hQ : ∀ o M', Q o M' → JO SY SE o M') : pa (tb_P X) N m 0 (ea_ar 0 as) [] C (JE SY SE) := pa_post (h C hm _ (lo_ar as 0)) (fun o C' ⟨M', h1, h2⟩ => ⟨M', h1, hQ o M' h2⟩)
theorem jx_re {Q : Int32 → MM → Prop} {E : Nat → MM → Prop} (h1 : ∀ y M', Q y M' → SY (some (.inl (.inl y))) M') (h2 : ∀ ce M', E ce M' → SE ce M') : ∀ o M', Re (Ri Q) E o M' → JO SY SE o M' := by
  rintro o M' (⟨y, rfl, h⟩ | ⟨ce, rfl, h⟩)
  · exact Or.inl ⟨_, rfl, h1 y M' h⟩
  · exact Or.inr ⟨ce, rfl, h2 ce M' h⟩
theorem jx_le {Q : Int64 → MM → Prop} {E : Nat → MM → Prop} (h1 : ∀ y M', Q y M' → SY (some (.inr (.inr (.inl (some y))))) M') (h2 : ∀ ce M', E ce M' → SE ce M') : ∀ o M', Re (Rl Q) E o M' → JO SY SE o M' := by
  rintro o M' (⟨y, rfl, h⟩ | ⟨ce, rfl, h⟩)
  · exact Or.inl ⟨_, rfl, h1 y M' h⟩
  · exact Or.inr ⟨ce, rfl, h2 ce M' h⟩
theorem jx_r {Q : Int32 → MM → Prop} (h1 : ∀ y M', Q y M' → SY (some (.inl (.inl y))) M') : ∀ o M', Ri Q o M' → JO SY SE o M' := by
  rintro o M' ⟨y, rfl, h⟩
  exact Or.inl ⟨_, rfl, h1 y M' h⟩
theorem jx_l {Q : Int64 → MM → Prop} (h1 : ∀ y M', Q y M' → SY (some (.inr (.inr (.inl (some y))))) M') : ∀ o M', Rl Q o M' → JO SY SE o M' := by
  rintro o M' ⟨y, rfl, h⟩
  exact Or.inl ⟨_, rfl, h1 y M' h⟩
theorem jx_u {Q : MM → Prop} (h1 : ∀ M', Q M' → SY none M') : ∀ o M', Ru Q o M' → JO SY SE o M' := by
  rintro o M' ⟨rfl, h⟩
  exact Or.inl ⟨_, rfl, h1 M' h⟩
theorem jx_v {x : Int32} {M0 : MM} (h1 : SY (some (.inl (.inl x))) M0) : ∀ o M', Vi x M0 o M' → JO SY SE o M' := by
  rintro o M' ⟨rfl, rfl⟩
  exact Or.inl ⟨_, rfl, h1⟩
theorem jx_pe {Q : Int32 → Prop} {E : Nat → Prop} {M0 : MM} (h1 : ∀ y, Q y → SY (some (.inl (.inl y))) M0) (h2 : ∀ ce, E ce → SE ce M0) : ∀ o M', Pe (Pi Q M0) E M0 o M' → JO SY SE o M' := by
  rintro o M' (⟨y, rfl, rfl, h⟩ | ⟨ce, rfl, rfl, h⟩)
  · exact Or.inl ⟨_, rfl, h1 y h⟩
  · exact Or.inr ⟨ce, rfl, h2 ce h⟩
theorem jx_ple {Q : Int64 → Prop} {E : Nat → Prop} {M0 : MM} (h1 : ∀ y, Q y → SY (some (.inr (.inr (.inl (some y))))) M0) (h2 : ∀ ce, E ce → SE ce M0) : ∀ o M', Pe (Pl Q M0) E M0 o M' → JO SY SE o M' := by
  rintro o M' (⟨y, rfl, rfl, h⟩ | ⟨ce, rfl, rfl, h⟩)
  · exact Or.inl ⟨_, rfl, h1 y h⟩
  · exact Or.inr ⟨ce, rfl, h2 ce h⟩
theorem jx_p {Q : Int32 → Prop} {M0 : MM} (h1 : ∀ y, Q y → SY (some (.inl (.inl y))) M0) : ∀ o M', Pi Q M0 o M' → JO SY SE o M' := by
  rintro o M' ⟨y, rfl, rfl, h⟩
  exact Or.inl ⟨_, rfl, h1 y h⟩
theorem jx_pl {Q : Int64 → Prop} {M0 : MM} (h1 : ∀ y, Q y → SY (some (.inr (.inr (.inl (some y))))) M0) : ∀ o M', Pl Q M0 o M' → JO SY SE o M' := by
  rintro o M' ⟨y, rfl, rfl, h⟩
  exact Or.inl ⟨_, rfl, h1 y h⟩
end JS
/-- where nothing of the answer is known -/
def SW (B : Int) (_ : Option AV) (M1 : MM) : Prop := CP B M1
def SX (B : Int) (_ : Nat) (M1 : MM) : Prop := CP B M1
/-- what a wrapper writes aside -/
def lgv (v : Option AV) : Option Int64 := match v with
  | some (.inl (.inl y)) => some y.toInt64
  | some (.inr (.inr (.inl (some y)))) => some y
  | _ => none
def wz_Z (cs : List (Nat × Int32)) (SY : Option AV → MM → Prop) (SE : Nat → MM → Prop) (k : Int32) (C' : List AC) : Prop := (k = Int32.ofInt 0 ∧ ∃ v y M1, lgv v = some y ∧ SY v M1 ∧ mm tb_G (wj M1 215 0 y).1 (wj M1 215 0 y).2 C') ∨ ∃ ce M1, (ce, k) ∈ cs ∧ SE ce M1 ∧ mm tb_G M1.1 M1.2 C'
def wz_K (cs : List (Nat × Int32)) (sz im T H : Int) (SY : Option AV → MM → Prop) (SE : Nat → MM → Prop) (o : Option AV ⊕ Nat) (C' : List AC) : Prop := lt_S sz im T H C' ∧ ∃ k : Int32, o = .inl (some (.inl (.inl k))) ∧ wz_Z cs SY SE k C'
theorem wz_w {cs : List (Nat × Int32)} {B : Int} {k : Int32} {C' : List AC} (h : wz_Z cs (SW B) (SX B) k C') : ∃ Mx : MM, mm tb_G Mx.1 Mx.2 C' ∧ CP B Mx := by
  rcases h with ⟨-, v, y, M1, -, h1, h2⟩ | ⟨ce, M1, -, h1, h2⟩
  · exact ⟨_, h2, CP_eq h1 eqo_z rfl⟩
  · exact ⟨_, h2, h1⟩
theorem mm_z {M : MM} {C : List AC} (hM : mm tb_G M.1 M.2 C) {d : AV} {us : List (Nat × AV)} (hC : ea_nt C 215 = some (.inl (1, 1, d, us))) (y : Int64) : mm tb_G (wj M 215 0 y).1 (wj M 215 0 y).2 (C.set 215 (.inl (1, 1, d, (0, .inr (.inr (.inl (some y)))) :: us))) := mm_ls hM (show tb_G 215 = some (.inr (1, 1, 1, [])) from rfl) hC y
/-- not 0, told exactly -/
theorem lw_bq {X : List AI} {N pc : Nat} {cl : List (Nat × AV)} {S : List AV} {C : List AC} {K : Option AV ⊕ Nat → List AC → Prop} {y : Int32} (c0 : ep_cod (tb_P (some X)) 0 pc = some (.ifCond .eq 7, 3)) (t0 : ea_to pc 7 = some (pc + 7)) (c1 : ep_cod (tb_P (some X)) 0 (pc + 3) = some (.iconst 1, 1)) (c2 : ep_cod (tb_P (some X)) 0 (pc + 3 + 1) = some (.goto 4, 3)) (t2 : ea_to (pc + 3 + 1) 4 = some (pc + 8)) (c3 : ep_cod (tb_P (some X)) 0 (pc + 7) = some (.iconst 0, 1)) (h : ∀ b : Int32, b = (if y = 0 then Int32.ofInt 0 else Int32.ofInt 1) → okb (tb_P (some X)) N 0 (pc + 8) cl (.inl (.inl b) :: S) C K) : okb (tb_P (some X)) N 0 pc cl (.inl (.inl y) :: S) C K := by
  by_cases hq : y = 0
  · refine okb_if true c0 t0 (show decide (y = 0) = true from decide_eq_true hq) ?_
    exact okb_p c3 rfl rfl (h _ (if_pos hq).symm)
  · refine okb_if false c0 t0 (show decide (y = 0) = false from decide_eq_false hq) ?_
    refine okb_p c1 rfl rfl ?_
    refine okb_p (pc' := pc + 8) c2 rfl ?_ (h _ (if_neg hq).symm)
    show (match ea_to (pc + 3 + 1) 4 with
      | some t => some (t, cl, _)
      | none => none) = _
    rw [t2]
theorem bq_o {b y : Int32} (h : b = (if y = 0 then Int32.ofInt 0 else Int32.ofInt 1)) : b = Int32.ofInt 0 ∨ b = Int32.ofInt 1 := by
  by_cases c : y = 0
  · rw [if_pos c] at h; exact Or.inl h
  · rw [if_neg c] at h; exact Or.inr h
/-- an element of the law's own row -/
theorem okb_la {P : EP} {N m pc a n j : Nat} {L : List (Nat × AV)} {S : List AV} {C : List AC} {K : Option AV ⊕ Nat → List AC → Prop} {d : AV} {us : List (Nat × AV)} {x : Int32} {y : Int64} (hc : ep_cod P m pc = some (.laload, 1)) (hC : ea_nt C a = some (.inl (1, n, d, us))) (hi : ea_ix (.inl x) n = some j) (hv : ea_al d us j = .inr (.inr (.inl (some y)))) (h : okb P N m (pc + 1) L (.inr (.inr (.inl (some y))) :: S) C K) : okb P N m pc L (.inl (.inl x) :: .inr (.inl (some a)) :: S) C K :=
  okb_h (C' := none) hc rfl rfl (by simp only [ea_h, hC, hi, hv]) h
theorem row_215 {M : MM} {C : List AC} (hM : mm tb_G M.1 M.2 C) : ∃ d us, ea_nt C 215 = some (.inl (1, 1, d, us)) ∧ ea_al d us 0 = .inr (.inr (.inl (some (M.2 215 0)))) := by
  obtain ⟨d, us, h1, h2⟩ := hM.2 215 1 1 1 [] rfl
  exact ⟨d, us, h1, h2 0 (by omega)⟩
theorem fld_190 {M : MM} {C : List AC} (hM : mm tb_G M.1 M.2 C) : ∃ vs, ea_nt C 190 = some (.inr (12, vs)) ∧ ea_nt vs 0 = some (.inl (.inl (M.1 190 0))) := by
  obtain ⟨vs, h1, -, h3⟩ := hM.1 190 12 _ rfl
  exact ⟨vs, h1, h3 0 _ rfl⟩
theorem lg_same (x : Int64) : lg_cmp x x = 0 := by
  unfold lg_cmp
  have h : ¬ x < x := by
    rw [Int64.lt_iff_toInt_lt]
    omega
  simp [h]
/-- the fault -/
theorem a_fault {B : Int} {M : MM} (h : CP B M) : ∀ N', W_m_fault N' M (fun b M2 => CP B M2 ∧ M2.1 190 0 = 0 ∧ V_E_fault M = b) := fun N' => by
  unfold W_m_fault V_E_fault
  refine ⟨CP_0 h 0, wi_1e, ?_⟩
  rw [wi_1n (by omega)]
  exact h.2.1
theorem LM_le {B B' : Int} {C : List AC} (h : LM B C) (hB : B ≤ B') : LM B' C := by
  obtain ⟨M, h1, h2⟩ := h
  exact ⟨M, h1, CP_le h2 hB⟩
