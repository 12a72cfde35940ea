/-! A CLAUSE, A CODE: what they mean; the reference's reading of a clause -/
abbrev CLS : Type := Int32 × Int32 × BF
def pDeed (K V : Nat → Int32) (F : Nat) (dem : Int32) (i : Nat) : Option CLS × Nat := if K i = 20 then (if 7 < V i then (none, i) else if K (i + 1) = 2 then (match pCond K V F 6 (i + 2) with
      | (none, j) => (none, j)
      | (some c, j) => (some (dem, V i, c), j)) else (some (dem, V i, fun _ _ _ _ => true), i + 1)) else (none, i)
def pClause (K V : Nat → Int32) (F i : Nat) : Option CLS × Nat := if K i = 1 then pDeed K V F 1 (i + 1) else if K i = 0 then pDeed K V F 0 (i + 1) else (none, i)
def zL : LWT := (0, fun _ => 0, fun _ => 0, fun _ _ _ _ _ => false)
def lput (L : LWT) (q : CLS) : LWT := (L.1 + 1, up1 L.2.1 L.1 q.1, up1 L.2.2.1 L.1 q.2.1, fun k => if k = L.1 then q.2.2 else L.2.2.2 k)
def pLaw (K V : Nat → Int32) (F : Nat) : Nat → LWT → Nat → Option LWT × Nat
  | 0, _, i => (none, i)
  | m + 1, L, i => match pClause K V F i with
    | (none, j) => (none, j)
    | (some q, j) => if K j = 21 then (some (lput L q), j) else if K j = 59 then pLaw K V F m (lput L q) (j + 1) else (none, j)
def pCode (K V : Nat → Int32) (F : Nat) : Option LWT × Nat := if K 0 = 21 then (some zL, 0) else pLaw K V F 12 zL 0
def deedW (p1 x : Int32) (N : Nat) (M : MM) (Q : Int32 → MM → Prop) : Prop :=
  W_m_number 0 7 N (wi M 201 (ni (4 * p1)) x) (fun r9 M10 =>
                ((((wi M10 201 (ni ((4 * p1) + 1)) r9).1 201 (ni ((4 * p1) + 1))) < 0 →
                  Q 0 (wi M10 201 (ni ((4 * p1) + 1)) r9)) ∧
                 (¬ ((wi M10 201 (ni ((4 * p1) + 1)) r9).1 201 (ni ((4 * p1) + 1))) < 0 →
                  W_m_passes 11744405 N (wi (wi (wi M10 201 (ni ((4 * p1) + 1)) r9) 201 (ni ((4 * p1) + 2)) ((wi M10 201 (ni ((4 * p1) + 1)) r9).1 190 25)) 190 22 0) (fun r12 M13 =>
                    ((r12 = 0 →
                      Q 1 (wi M13 201 (ni ((4 * p1) + 3)) (M13.1 190 25))) ∧
                     (¬ r12 = 0 →
                      W_m_readCond  N M13 (fun r15 M16 =>
                        ((r15 = 0 →
                          Q 0 M16) ∧
                         (¬ r15 = 0 →
                          Q 1 (wi M16 201 (ni ((4 * p1) + 3)) (M16.1 190 25)))))))))))
/-- clause k, told by the steps from σ to σ' -/
def RCL (M M' : MM) (k σ σ' : Nat) (q : CLS) : Prop := M'.1 190 25 = i32 σ' ∧ (∀ x, x < 2 * σ → M'.1 202 x = M.1 202 x) ∧ (∀ x, x < 4 * k → M'.1 201 x = M.1 201 x) ∧ M'.1 201 (4 * k) = q.1 ∧ M'.1 201 (4 * k + 1) = q.2.1 ∧ M'.1 201 (4 * k + 2) = i32 σ ∧ M'.1 201 (4 * k + 3) = i32 σ' ∧ ∀ pl wh kn dy val, rfin (rrun (M'.1 202) pl wh kn dy σ (σ' - σ) (0, val)) = q.2.2 pl wh kn dy
def RCR (f : BY) (n t : Nat) (b e : Nat → Nat) (M : MM) (k σ i : Nat) (res : Option CLS × Nat) (r : Int32) (M' : MM) : Prop := (r = 1 ∧ ∃ q j p' g' σ', res = (some q, j) ∧ j ≤ t ∧ i < j ∧ TXr M' f n p' g' ∧ PT e b j p' ∧ σ' + i ≤ σ + j ∧ σ ≤ σ' ∧ RCL M M' k σ σ' q) ∨ (r = 0 ∧ ∃ j, res = (none, j) ∧ j ≤ t ∧ M'.1 190 21 = i32 (b j))
section RCS
variable {f : BY} {n t : Nat} {K V : Nat → Int32} {b e : Nat → Nat}
theorem t_wd {s k i e' : Nat} (hs : stL s = dwL k) (hk : k < 20) (hT : TKS f n t K V b e) (hi : i ≤ t) (he : ENd (LT f n) n (b i) e') : (wdL f (b i) e' = stL s) ↔ K i = i32 k := by
  rw [hs]
  by_cases hl : LT f n (b i)
  · obtain ⟨w1, r, w2, w3⟩ := tk_word hT hi hl
    obtain rfl := ENd_u he w1
    have hr : r < 23 := by rcases w2 with ⟨c, -⟩ | ⟨c, -⟩ <;> omega
    rw [wnm_k w2 hk, w3]
    exact (i32_ij (by omega) (by omega)).symm
  · have hd : ENd (LT f n) n (b i) (b i) := ⟨Nat.le_refl _, (hT.2.2.2 i hi).2.1, fun j j1 j2 => by omega, hl⟩
    obtain rfl := ENd_u he hd
    have hK := tk_now hT hi hl
    constructor
    · intro x
      have := (wd_iff.mp x).1
      have := wln_p k hk
      omega
    · intro x
      rw [x, i32_i (by omega)] at hK
      omega
theorem t_we {i k e' : Nat} (hk : k < 20) (hT : TKS f n t K V b e) (hi : i ≤ t) (he : ENd (LT f n) n (b i) e') (h : K i = i32 k) : e' = e i := by
  have hl : LT f n (b i) := by
    rcases Classical.em (LT f n (b i)) with c | c
    · exact c
    · have := tk_now hT hi c
      rw [h, i32_i (by omega)] at this
      omega
  exact ENd_u he (tk_word hT hi hl).1
theorem r_deed {N k σ i p g : Nat} {x : Int32} {F : Nat} {M : MM} {Q : Int32 → MM → Prop} (hF : 400 < F) (hk : k < 12) (h : TXr M f n p g) (hb : BOK f n) (hn : n ≤ 400) (hT : TKS f n t K V b e) (hi : i ≤ t) (hp : PT e b i p) (hs : M.1 190 25 = i32 σ) (hσ : σ ≤ i) (hQ : ∀ r M', RCR f n t b e M k σ i (pDeed K V F x i) r M' → Q r M') : deedW (i32 k) x N M Q := by
  have ht := hT.1
  have q0 : ni (4 * i32 k) = 4 * k := by
    rw [show (4 : Int32) * i32 k = i32 (4 * k) from i32_m 4 k, ni_i (by omega)]
  have q1 : ni (4 * i32 k + 1) = 4 * k + 1 := by
    rw [show (4 : Int32) * i32 k = i32 (4 * k) from i32_m 4 k, i32_s, ni_i (by omega)]
  have q2 : ni (4 * i32 k + 2) = 4 * k + 2 := by
    rw [show (4 : Int32) * i32 k = i32 (4 * k) from i32_m 4 k, show i32 (4 * k) + 2 = i32 (4 * k + 2) from i32_a (4 * k) 2, ni_i (by omega)]
  have q3 : ni (4 * i32 k + 3) = 4 * k + 3 := by
    rw [show (4 : Int32) * i32 k = i32 (4 * k) from i32_m 4 k, show i32 (4 * k) + 3 = i32 (4 * k + 3) from i32_a (4 * k) 3, ni_i (by omega)]
  unfold deedW
  rw [q0, q1, q2, q3]
  have h1 : TXr (wi M 201 (4 * k) x) f n p g := TXr_e h eqo_a rfl
  unfold pDeed at hQ
  refine t_number (by decide) h1 hb hn hT hi hp ⟨fun hk20 => ?_, fun hk20 => ?_⟩
  · rw [if_pos hk20] at hQ
    obtain ⟨m, m1, m2⟩ := tk_V hT hi hk20
    have hneg : ¬ V i < 0 := by
      rw [m2, lt_lit, i32_i (by omega)]
      show ¬ (m : Int) < 0
      omega
    rw [if_neg hneg]
    by_cases c : 7 < V i
    · rw [if_pos c] at hQ ⊢
      rw [wi_1e]
      exact ⟨fun _ => hQ 0 _ (Or.inr ⟨rfl, i, rfl, hi, rfl⟩), fun y => absurd (by decide) y⟩
    · rw [if_neg c] at hQ ⊢
      rw [wi_1e]
      refine ⟨fun y => absurd y hneg, fun _ => ?_⟩
      have hlt := tk_lt hT hi (by rw [hk20]; decide)
      have s25 : ∀ M' : MM, (wi (atP (wi M 201 (4 * k) x) (e i) (b i)) 201 (4 * k + 1) (V i)).1 190 25 = i32 σ := fun _ => hs
      rw [s25 M]
      generalize hMa : wi (wi (wi (atP (wi M 201 (4 * k) x) (e i) (b i)) 201 (4 * k + 1) (V i)) 201 (4 * k + 2) (i32 σ)) 190 22 0 = Ma
      have ta : TXr Ma f n (e i) (b i) := hMa ▸ TXr_22 (TXr_e (atP_T h1) (eqo_app eqo_a eqo_a) rfl)
      have sa : Ma.1 190 25 = i32 σ := by rw [← hMa]; exact hs
      have a22 : Ma.1 190 22 = 0 := by rw [← hMa]; exact wi_1e
      have a202 : Ma.1 202 = M.1 202 := by rw [← hMa]; rfl
      have a201 : ∀ y, y < 4 * k → Ma.1 201 y = M.1 201 y := fun y hy => by
        rw [← hMa, wi_1n (by omega), wi_1n (by omega), wi_1n (by omega)]
        show (wi M 201 (4 * k) x).1 201 y = _
        rw [wi_1n (by omega)]
      have b0 : Ma.1 201 (4 * k) = x := by
        rw [← hMa, wi_1n (by omega), wi_1n (by omega), wi_1n (by omega)]
        show (wi M 201 (4 * k) x).1 201 (4 * k) = _
        exact wi_1e
      have b1 : Ma.1 201 (4 * k + 1) = V i := by
        rw [← hMa, wi_1n (by omega), wi_1n (by omega), wi_1e]
      have b2 : Ma.1 201 (4 * k + 2) = i32 σ := by
        rw [← hMa, wi_1n (by omega), wi_1e]
      refine t_passes st_if (by omega) ta hb hn hT (by omega) (PT_s hT hlt) ⟨fun hif => ?_, fun hif => ?_⟩
      · rw [if_pos (show K (i + 1) = 2 from hif)] at hQ
        refine ⟨fun y => absurd y (by decide), fun _ => ?_⟩
        have hlt2 := tk_lt hT (by omega) (show ¬ K (i + 1) = 21 by rw [hif]; decide)
        refine and_m_readCond (Q1 := fun r M' => (r = 1 ∧ ∃ c j p' g' σ', pCond K V F 6 (i + 2) = (some c, j) ∧ j ≤ t ∧ i + 2 < j ∧ TXr M' f n p' g' ∧ PT e b j p' ∧ M'.1 190 25 = i32 σ' ∧ σ' + (i + 2) ≤ σ + j ∧ σ ≤ σ' ∧ BMg (M'.1 202) σ σ' c ∧ (∀ x, x < 2 * σ → M'.1 202 x = M.1 202 x)) ∨ (r = 0 ∧ ∃ j, pCond K V F 6 (i + 2) = (none, j) ∧ j ≤ t ∧ M'.1 190 21 = i32 (b j))) (Q2 := fun _ M' => Eqo fp_m_readCond (atP Ma (e (i + 1)) (b (i + 1))) M') (fun r M' h1 h2 => ?_) ?_ (an_m_readCond (fun r M' h => h))
        · have f201 : M'.1 201 = Ma.1 201 := eqb h2 (lo := 201) (hi := 201) rfl (Nat.le_refl _) (Nat.le_refl _)
          rcases h1 with ⟨rfl, c, j, p', g', σ', j1, j2, j3, j4, j5, j6, j7, j8, j9, j10⟩ | ⟨rfl, j, j1, j2, j3⟩
          · refine ⟨fun y => absurd y (by decide), fun _ => hQ 1 _ (Or.inl ⟨rfl, _, j, p', g', σ', by rw [j1], j2, by omega, TXr_e j4 eqo_a rfl, j5, by omega, j8, ?_⟩)⟩
            refine ⟨j6, fun y hy => j10 y hy, fun y hy => ?_, ?_, ?_, ?_, ?_, fun pl wh kn dy val => ?_⟩
            · rw [wi_1n (by omega), f201]; exact a201 y hy
            · rw [wi_1n (by omega), f201]; exact b0
            · rw [wi_1n (by omega), f201]; exact b1
            · rw [wi_1n (by omega), f201]; exact b2
            · rw [wi_1e, j6]
            · obtain ⟨v, v1, v2, v3⟩ := j9 pl wh kn dy val 0 (by omega)
              show rfin (rrun (M'.1 202) pl wh kn dy σ (σ' - σ) (i32 0, val)) = c pl wh kn dy
              rw [v1]
              unfold rfin
              dsimp only
              have hv : v 0 = b32 (c pl wh kn dy) := v2
              show (decide (i32 (0 + 1) = 0) || decide (v 0 = 1)) = c pl wh kn dy
              rw [hv, show decide (i32 (0 + 1) = 0) = false from by decide, Bool.false_or]
              cases c pl wh kn dy <;> decide
          · exact ⟨fun _ => hQ 0 _ (Or.inr ⟨rfl, j, by rw [j1], j2, j3⟩), fun y => absurd rfl y⟩
        · refine (r_lv6 hb hn hT hF).2 N _ (e (i + 1)) (b (i + 1)) (i + 2) σ _ (atP_T ta) (PT_s hT hlt2) (by omega) sa (by omega) a22 ⟨fun c j hj hjt hij M' p' g' σ' t1 k1 c1 d1 d2 m1 f1 y1 => Or.inl ⟨rfl, c, j, p', g', σ', hj, hjt, hij, t1, k1, c1, d1, d2, m1, fun y hy => (f1 y hy).trans (congrFun a202 y)⟩, fun j hj hjt M' x1 => Or.inr ⟨rfl, j, hj, hjt, x1⟩⟩
      · rw [if_neg (show ¬ K (i + 1) = 2 from hif)] at hQ
        refine ⟨fun _ => ?_, fun y => absurd rfl y⟩
        refine hQ 1 _ (Or.inl ⟨rfl, _, i + 1, _, _, σ, rfl, by omega, by omega, TXr_e (atP_T (p' := b (i + 1)) (g' := b (i + 1)) ta) eqo_a rfl, PT_b hT (by omega), by omega, by omega, ?_⟩)
        refine ⟨sa, fun y hy => congrFun a202 y, fun y hy => ?_, ?_, ?_, ?_, ?_, fun pl wh kn dy val => ?_⟩
        · rw [wi_1n (by omega)]; exact a201 y hy
        · rw [wi_1n (by omega)]; exact b0
        · rw [wi_1n (by omega)]; exact b1
        · rw [wi_1n (by omega)]; exact b2
        · rw [wi_1e]; exact sa
        · rw [Nat.sub_self]
          rfl
  · rw [if_neg hk20] at hQ
    rw [wi_1e]
    exact ⟨fun _ => hQ 0 _ (Or.inr ⟨rfl, i, rfl, hi, rfl⟩), fun y => absurd (by decide) y⟩
theorem RCR_up {M M' : MM} {k σ i : Nat} {res : Option CLS × Nat} {r : Int32} {M0 : MM} (h : RCR f n t b e M k σ (i + 1) res r M') (e1 : ∀ x, x < 2 * σ → M.1 202 x = M0.1 202 x) (e2 : ∀ x, x < 4 * k → M.1 201 x = M0.1 201 x) : RCR f n t b e M0 k σ i res r M' := by
  rcases h with ⟨rfl, q, j, p', g', σ', h1, h2, h3, h4, h5, h6, h7, c1, c2, c3, c4⟩ | h
  · exact Or.inl ⟨rfl, q, j, p', g', σ', h1, h2, by omega, h4, h5, by omega, h7, c1, fun x hx => (c2 x hx).trans (e1 x hx), fun x hx => (c3 x hx).trans (e2 x hx), c4⟩
  · exact Or.inr h
theorem r_line {N k σ i p g : Nat} {F : Nat} {M : MM} {Q : Int32 → MM → Prop} (hF : 400 < F) (hk : k ≤ 12) (h : TXr M f n p g) (hb : BOK f n) (hn : n ≤ 400) (hT : TKS f n t K V b e) (hi : i ≤ t) (hp : PT e b i p) (hs : M.1 190 25 = i32 σ) (hσ : σ ≤ i) (hQ : ∀ r M', RCR f n t b e M k σ i (if k = 12 then (none, i) else pClause K V F i) r M' → Eqo ([(190, 190, some 19), (190, 190, some 21)] ++ fp_m_readClause) M M' → Q r M') : W_m_readLine 1 (i32 k) N M Q := by
  unfold W_m_readLine
  refine r_letters h hb hn (tk_pn hT hi hp) (fun q e' hq he => ?_)
  obtain rfl := NB_u hq (tk_nb hT hi hp)
  refine ⟨fun x => absurd x (by decide), fun _ => ?_⟩
  have eA : Eqo [(190, 190, some 19), (190, 190, some 21)] M (atP M e' (b i)) := fun c j hc => by
    refine ⟨?_, rfl⟩
    show (if c = 190 ∧ j = 19 then i32 e' else if c = 190 ∧ j = 21 then i32 (b i) else M.1 c j) = M.1 c j
    by_cases x1 : c = 190 ∧ j = 19
    · obtain ⟨rfl, rfl⟩ := x1
      exact absurd hc (by decide)
    · rw [if_neg x1]
      by_cases x2 : c = 190 ∧ j = 21
      · obtain ⟨rfl, rfl⟩ := x2
        exact absurd hc (by decide)
      · rw [if_neg x2]
  refine and_m_readClause (Q1 := fun r M' => RCR f n t b e M k σ i (if k = 12 then (none, i) else pClause K V F i) r M') (Q2 := fun _ M' => Eqo fp_m_readClause (atP M e' (b i)) M') (fun r M' h1 h2 => ?_) ?_ (an_m_readClause (fun r M' h => h))
  · exact hQ r M' h1 (eqo_app eA h2)
  unfold W_m_readClause
  refine ⟨fun x => ?_, fun x => ?_⟩
  · have hk' : k = 12 := (i32_ij (b := 12) (by omega) (by omega)).mp x
    rw [if_pos hk']
    exact Or.inr ⟨rfl, i, rfl, hi, rfl⟩
  · have hk' : ¬ k = 12 := fun y => x (by rw [y]; rfl)
    rw [if_neg hk']
    have tA : TXr (atP M e' (b i)) f n e' (b i) := atP_T h
    have dd : ∀ {x0 : Int32} {r2 : Nat}, r2 < 20 → K i = i32 r2 → pClause K V F i = pDeed K V F x0 (i + 1) → deedW (i32 k) x0 N (atP M e' (b i)) (fun r M' => RCR f n t b e M k σ i (pClause K V F i) r M') := fun {x0 r2} hr2 hK hp2 => by
      obtain rfl := t_we hr2 hT hi he hK
      have hlt := tk_lt hT hi (by rw [hK]; exact fun y => by have := (i32_ij (b := 21) (by omega) (by omega)).mp y; omega)
      rw [hp2]
      exact r_deed hF (by omega) tA hb hn hT (by omega) (PT_s hT hlt) hs (by omega) (fun r M' hr => RCR_up hr (fun _ _ => rfl) (fun _ _ => rfl))
    refine r_isWord tA hb hn he st_always.2 ?_
    rw [show decide (wdL f (b i) e' = stL 52280337941016721) = decide (K i = 1) from decide_eq_decide.mpr (t_wd (k := 1) st_always.1 (by decide) hT hi he)]
    refine ⟨fun r2 => ?_, fun r2 => ?_⟩
    · rw [b32_eq0, decide_eq_false_iff_not] at r2
      refine r_isWord tA hb hn he st_never.2 ?_
      rw [show decide (wdL f (b i) e' = stL 203627540166419) = decide (K i = 0) from decide_eq_decide.mpr (t_wd (k := 0) st_never.1 (by decide) hT hi he)]
      refine ⟨fun r5 => ?_, fun r5 => ?_⟩
      · rw [b32_eq0, decide_eq_false_iff_not] at r5
        refine Or.inr ⟨rfl, i, ?_, hi, rfl⟩
        unfold pClause
        rw [if_neg r2, if_neg r5]
      · rw [b32_ne0, decide_eq_true_eq] at r5
        refine ⟨fun _ => ?_, fun y => absurd (by rw [decide_eq_false r2]; rfl) y⟩
        refine dd (r2 := 0) (by omega) r5 ?_
        unfold pClause
        rw [if_neg r2, if_pos r5]
    · rw [b32_ne0, decide_eq_true_eq] at r2
      refine ⟨fun y => ?_, fun _ => ?_⟩
      · rw [decide_eq_true r2] at y
        exact absurd y (by decide)
      · refine dd (r2 := 1) (by omega) r2 ?_
        unfold pClause
        rw [if_pos r2]
end RCS
