/-! THE REFERENCE'S READING OF A CODE -/
theorem pDeed_d {K V : Nat → Int32} {F i j : Nat} {x : Int32} {q : CLS} (h : pDeed K V F x i = (some q, j)) : q.1 = x := by
  unfold pDeed at h
  have nn : ∀ {j' : Nat}, ((none : Option CLS), j') = (some q, j) → q.1 = x := fun h => by
    have : (none : Option CLS) = some q := congrArg Prod.fst h
    cases this
  have ss : ∀ {c : BF} {j' : Nat}, ((some (x, V i, c) : Option CLS), j') = (some q, j) → q.1 = x := fun {c j'} h => by
    have : (some (x, V i, c) : Option CLS) = some q := congrArg Prod.fst h
    injection this with this
    rw [← this]
  by_cases c1 : K i = 20
  · rw [if_pos c1] at h
    by_cases c2 : 7 < V i
    · rw [if_pos c2] at h
      exact nn h
    · rw [if_neg c2] at h
      by_cases c3 : K (i + 1) = 2
      · rw [if_pos c3] at h
        cases hc : pCond K V F 6 (i + 2) with
        | mk o j' =>
          rw [hc] at h
          cases o with
          | none => exact nn h
          | some c => exact ss h
      · rw [if_neg c3] at h
        exact ss h
  · rw [if_neg c1] at h
    exact nn h
theorem pClause_d {K V : Nat → Int32} {F i j : Nat} {q : CLS} (h : pClause K V F i = (some q, j)) : q.1 = 1 ∨ q.1 = 0 := by
  unfold pClause at h
  by_cases c1 : K i = 1
  · rw [if_pos c1] at h
    exact Or.inl (pDeed_d h)
  · rw [if_neg c1] at h
    by_cases c2 : K i = 0
    · rw [if_pos c2] at h
      exact Or.inr (pDeed_d h)
    · rw [if_neg c2] at h
      have : (none : Option CLS) = some q := congrArg Prod.fst h
      cases this
/-- the clauses that stand, told by steps below σ -/
def RLw (M : MM) (L : LWT) (σ : Nat) : Prop := L.1 ≤ 12 ∧ ∀ k, k < L.1 → (if M.1 201 (4 * k) = 1 then (1 : Int32) else 0) = L.2.1 k ∧ M.1 201 (4 * k + 1) = L.2.2.1 k ∧ ∃ s s', M.1 201 (4 * k + 2) = i32 s ∧ M.1 201 (4 * k + 3) = i32 s' ∧ s ≤ s' ∧ s' ≤ σ ∧ ∀ pl wh kn dy val, rfin (rrun (M.1 202) pl wh kn dy s (s' - s) (0, val)) = L.2.2.2 k pl wh kn dy
theorem RLw_R {M : MM} {L : LWT} {σ : Nat} (h : RLw M L σ) (hσ : σ ≤ 400) : LawR M L := by
  refine ⟨h.1, fun k hk => ?_⟩
  obtain ⟨h1, h2, s, s', h3, h4, h5, h6, h7⟩ := h.2 k hk
  refine ⟨h1, h2, ?_, ?_, fun pl wh kn dy val _ => ?_⟩
  · rw [h3, i32_i (by omega)]
    omega
  · rw [h4, ni_i (by omega)]
    omega
  · unfold rT
    rw [h3, h4, ni_i (by omega), ni_i (by omega)]
    exact h7 pl wh kn dy val
theorem RLw_put {M M' : MM} {L : LWT} {σ σ' : Nat} {q : CLS} (h : RLw M L σ) (h12 : L.1 < 12) (hq : q.1 = 1 ∨ q.1 = 0) (hl : σ ≤ σ') (hc : RCL M M' L.1 σ σ' q) : RLw M' (lput L q) σ' := by
  obtain ⟨c1, c2, c3, c4, c5, c6, c7, c8⟩ := hc
  refine ⟨by show L.1 + 1 ≤ 12; omega, fun k hk => ?_⟩
  replace hk : k < L.1 + 1 := hk
  show _ = up1 L.2.1 L.1 q.1 k ∧ _ = up1 L.2.2.1 L.1 q.2.1 k ∧ ∃ s s', _ ∧ _ ∧ _ ∧ _ ∧ ∀ pl wh kn dy val, _ = (if k = L.1 then q.2.2 else L.2.2.2 k) pl wh kn dy
  by_cases e : k = L.1
  · subst e
    rw [up1_e, up1_e, if_pos rfl]
    refine ⟨?_, c5, σ, σ', c6, c7, hl, Nat.le_refl _, c8⟩
    rw [c4]
    rcases hq with h | h <;> rw [h] <;> decide
  · obtain ⟨h1, h2, s, s', h3, h4, h5, h6, h7⟩ := h.2 k (by omega)
    rw [up1_n e, up1_n e, if_neg e, c3 _ (by omega), c3 _ (by omega), c3 _ (by omega), c3 _ (by omega)]
    exact ⟨h1, h2, s, s', h3, h4, h5, by omega, fun pl wh kn dy val => by rw [rrun_cg _ _ _ (fun j hj => c2 j (by omega))]; exact h7 pl wh kn dy val⟩
theorem i32_ex (x : Int32) : ∃ g, x = i32 g := ⟨x.toBitVec.toNat, by
  apply Int32.toBitVec_inj.mp
  show x.toBitVec = BitVec.ofNat 32 x.toBitVec.toNat
  simp⟩
section RCO
variable {f : BY} {n t : Nat} {K V : Nat → Int32} {b e : Nat → Nat}
theorem tkn_21 {j : Nat} (hT : TKS f n t K V b e) (hj : j ≤ t) : b j = n ↔ K j = 21 := by
  constructor
  · intro h
    rcases Nat.lt_or_ge j t with c | c
    · have := hT.2.2.1 j c
      omega
    · obtain rfl : j = t := by omega
      exact tk_end hT
  · intro h
    rcases Nat.lt_or_ge j t with c | c
    · have hbn := hT.2.2.1 j c
      rcases (hT.2.2.2 j hj).1 with ⟨h1, -, ⟨r, hr, hk⟩, -⟩ | ⟨h1, -, hk, -⟩ | ⟨h1, h2, h3, h4, h5, hk, -⟩ | ⟨h1, -, hk, -⟩
      · rw [hk] at h
        have hr' : r < 23 := by rcases hr with ⟨c, -⟩ | ⟨c, -⟩ <;> omega
        have := (i32_ij (b := 21) (by omega) (by omega)).mp h
        rcases hr with ⟨c, -⟩ | ⟨c, -⟩ <;> omega
      · rw [hk] at h
        exact absurd h (by decide)
      · rw [hk, mx_22] at h
        by_cases c2 : (f (b j)).toInt < 22
        · rw [if_pos c2] at h
          exact absurd h (by decide)
        · rw [if_neg c2] at h
          rw [h] at c2
          exact absurd (by decide) c2
      · exact h1
    · obtain rfl : j = t := by omega
      exact hT.2.1
theorem tkn_59 {j : Nat} (hT : TKS f n t K V b e) (hj : j ≤ t) : ((b j < n ∧ 59 ≤ (f (b j)).toInt ∧ (f (b j)).toInt ≤ 59) ↔ K j = 59) ∧ (K j = 59 → e j = b j + 1) := by
  rcases (hT.2.2.2 j hj).1 with ⟨h1, -, ⟨r, hr, hk⟩, -⟩ | ⟨h1, -, hk, -⟩ | ⟨h1, h2, h3, h4, h5, hk, -⟩ | ⟨h1, -, hk, -⟩
  · have hr' : r < 23 := by rcases hr with ⟨c, -⟩ | ⟨c, -⟩ <;> omega
    have hne : ¬ K j = 59 := fun h => by
      rw [hk] at h
      have := (i32_ij (b := 59) (by omega) (by omega)).mp h
      omega
    exact ⟨⟨fun x => by have := h1.2; omega, fun x => absurd x hne⟩, fun x => absurd x hne⟩
  · have hne : ¬ K j = 59 := fun h => by
      rw [hk] at h
      exact absurd h (by decide)
    exact ⟨⟨fun x => by have := h1.2; omega, fun x => absurd x hne⟩, fun x => absurd x hne⟩
  · refine ⟨?_, fun _ => h5⟩
    rw [hk, mx_22]
    by_cases c2 : (f (b j)).toInt < 22
    · rw [if_pos c2]
      exact ⟨fun x => by omega, fun x => absurd x (by decide)⟩
    · rw [if_neg c2]
      constructor
      · intro x
        exact Int32.toInt_inj.mp (show (f (b j)).toInt = (59 : Int32).toInt by rw [show (59 : Int32).toInt = 59 from rfl]; omega)
      · intro x
        rw [x]
        exact ⟨h1, by decide⟩
  · have hne : ¬ K j = 59 := fun h => by
      rw [hk] at h
      exact absurd h (by decide)
    exact ⟨⟨fun x => by omega, fun x => absurd x hne⟩, fun x => absurd x hne⟩
abbrev fq2 : List (Nat × Nat × Option Nat) := [(190, 190, some 19), (190, 190, some 21), (201, 201, none), (190, 190, some 25), (190, 190, some 22), (202, 202, none)]
def RAR (f : BY) (n t : Nat) (b : Nat → Nat) (res : Option LWT × Nat) (r : Int32) (M' : MM) : Prop := (∃ L j, res = (some L, j) ∧ r = i32 L.1 ∧ LawR M' L) ∨ (∃ j, res = (none, j) ∧ j ≤ t ∧ r = -1 ∧ M'.1 190 21 = i32 (b j))
theorem atP_q {M : MM} {p' g' : Nat} : Eqo fq2 M (atP M p' g') := fun c j hc => by
  refine ⟨?_, rfl⟩
  show (if c = 190 ∧ j = 19 then i32 p' else if c = 190 ∧ j = 21 then i32 g' else M.1 c j) = M.1 c j
  by_cases x1 : c = 190 ∧ j = 19
  · obtain ⟨rfl, rfl⟩ := x1
    exact absurd hc (by decide)
  · rw [if_neg x1]
    by_cases x2 : c = 190 ∧ j = 21
    · obtain ⟨rfl, rfl⟩ := x2
      exact absurd hc (by decide)
    · rw [if_neg x2]
theorem eqo_cl {M M' : MM} (h : Eqo ([(190, 190, some 19), (190, 190, some 21)] ++ fp_m_readClause) M M') : Eqo fq2 M M' := eqo_tr (eqo_rf _) (fps_cons (i := 0) rfl (fps_cons (i := 1) rfl (fps_cons (i := 2) rfl (fps_cons (i := 1) rfl (fps_cons (i := 0) rfl (fps_cons (i := 4) rfl (fps_cons (i := 5) rfl (fps_cons (i := 3) rfl fps_nil)))))))) h
theorem LawR_atP {M : MM} {L : LWT} {p' g' : Nat} (h : LawR M L) : LawR (atP M p' g') L := h
theorem RLw_atP {M : MM} {L : LWT} {σ p' g' : Nat} (h : RLw M L σ) : RLw (atP M p' g') L σ := h
theorem r_all1 {N F : Nat} {M : MM} {Q : Int32 → MM → Prop} (hF : 400 < F) (h18 : M.1 190 18 = i32 n) (h203 : ∀ j, j < n → M.1 203 j = (f j).toInt8.toInt32) (hb : BOK f n) (hn : n ≤ 400) (hT : TKS f n t K V b e) (hQ : ∀ r M', RAR f n t b (pCode K V F) r M' → Eqo ([(190, 190, some 0), (190, 190, some 20), (190, 190, some 18), (190, 190, some 19), (190, 190, some 25)] ++ fq2) M M' → M'.1 190 18 = 0 → M'.1 190 0 = 0 → Q r M') : W_m_readAll 1 N M Q := by
  have ht := hT.1
  unfold W_m_readAll W_m_uses
  dsimp only
  have e1 : Eqo [(190, 190, some 0), (190, 190, some 20), (190, 190, some 18), (190, 190, some 19), (190, 190, some 25)] M (wi (wi (wi (wi (wi M 190 0 0) 190 20 ((wi M 190 0 0).1 190 18)) 190 18 0) 190 19 0) 190 25 0) := eqo_wi (i := 4) (eqo_wi (i := 3) (eqo_wi (i := 2) (eqo_wi (i := 1) (eqo_wi (i := 0) (eqo_rf _) rfl (Or.inr rfl)) rfl (Or.inr rfl)) rfl (Or.inr rfl)) rfl (Or.inr rfl)) rfl (Or.inr rfl)
  have z1 : (wi (wi (wi (wi (wi M 190 0 0) 190 20 ((wi M 190 0 0).1 190 18)) 190 18 0) 190 19 0) 190 25 0).1 190 18 = 0 := by simp (disch := omega) only [wi_1n, wi_1e]
  have z0 : (wi (wi (wi (wi (wi M 190 0 0) 190 20 ((wi M 190 0 0).1 190 18)) 190 18 0) 190 19 0) 190 25 0).1 190 0 = 0 := by simp (disch := omega) only [wi_1n, wi_1e]
  have z25 : (wi (wi (wi (wi (wi M 190 0 0) 190 20 ((wi M 190 0 0).1 190 18)) 190 18 0) 190 19 0) 190 25 0).1 190 25 = i32 0 := wi_1e
  generalize hM1 : wi (wi (wi (wi (wi M 190 0 0) 190 20 ((wi M 190 0 0).1 190 18)) 190 18 0) 190 19 0) 190 25 0 = M1 at *
  have s20 : M1.1 190 20 = i32 n := by
    rw [← hM1]
    simp (disch := omega) only [wi_1n, wi_1e]
    exact h18
  have s19 : M1.1 190 19 = i32 0 := by
    rw [← hM1]
    simp (disch := omega) only [wi_1n, wi_1e]
    rfl
  have s203 : ∀ j, j < n → M1.1 203 j = (f j).toInt8.toInt32 := fun j hj => by
    rw [← hM1]
    simp (disch := omega) only [wi_1n]
    exact h203 j hj
  have hh : ∀ r M', RAR f n t b (pCode K V F) r M' → Eqo fq2 M1 M' → Q r M' := fun r M' h1 h2 => hQ r M' h1 (eqo_app e1 h2) (by rw [eq1 h2 (b := 190) (k := 18) rfl]; exact z1) (by rw [eq1 h2 (b := 190) (k := 0) rfl]; exact z0)
  obtain ⟨g1, hg1⟩ := i32_ex (M1.1 190 21)
  have tx : TXr M1 f n 0 g1 := ⟨s20, s19, hg1, s203⟩
  have p0 : PT e b 0 0 := PT_0.mpr (Nat.zero_le _)
  refine r_blanks tx hb hn (by omega) (fun q hq => ?_)
  obtain rfl := NB_u hq (tk_nb hT (by omega) p0)
  rw [show (atP M1 (b 0) (b 0)).1 190 19 = i32 (b 0) from rfl, show (atP M1 (b 0) (b 0)).1 190 20 = i32 n from s20]
  have hb0 := (hT.2.2.2 0 (by omega)).2.1
  refine ⟨fun h0 => ?_, fun h0 => ?_⟩
  · have hk := (tkn_21 hT (by omega)).mp ((i32_ij (by omega) (by omega)).mp h0)
    refine hh 0 _ (Or.inl ⟨zL, 0, ?_, rfl, ⟨by show 0 ≤ 12; omega, fun k hk => absurd hk (by show ¬ k < 0; omega)⟩⟩) atP_q
    unfold pCode
    rw [if_pos hk]
  · have hk : ¬ K 0 = 21 := fun x => h0 (by rw [(tkn_21 hT (by omega)).mpr x])
    have hpc : pCode K V F = pLaw K V F 12 zL 0 := by
      unfold pCode
      rw [if_neg hk]
    rw [hpc] at hh
    refine I_m_readAll_28 1 Q (fun v M' => ∃ m L σ i p g, L.1 + m = 12 ∧ v = i32 L.1 ∧ i ≤ t ∧ TXr M' f n p g ∧ PT e b i p ∧ σ ≤ i ∧ M'.1 190 25 = i32 σ ∧ RLw M' L σ ∧ pLaw K V F 12 zL 0 = pLaw K V F m L i ∧ Eqo fq2 M1 M') (fun N ih v M' hih hv => ?_) N _ _ ⟨12, zL, 0, 0, b 0, b 0, rfl, rfl, by omega, atP_T tx, PT_b hT (by omega), by omega, z25, ⟨by show 0 ≤ 12; omega, fun k hk => absurd hk (by show ¬ k < 0; omega)⟩, rfl, atP_q⟩
    obtain ⟨m, L, σ, i, p, g, k1, rfl, k2, k3, k4, k5, k6, k7, k8, k9⟩ := hv
    unfold B_m_readAll_28
    refine r_line hF (by omega) k3 hb hn hT k2 k4 k6 k5 (fun r M7 hr e7 => ?_)
    have e8 : Eqo fq2 M1 M7 := eqo_tr k9 (fun _ _ h => h) (eqo_cl e7)
    rcases hr with ⟨rfl, q, j, p', g', σ', j1, j2, j3, j4, j5, j6, j7, j8⟩ | ⟨rfl, j, j1, j2, j3⟩
    · refine ⟨fun x => absurd x (by decide), fun _ => ?_⟩
      have hne : ¬ L.1 = 12 := fun x => by
        rw [if_pos x] at j1
        have : (none : Option CLS) = some q := congrArg Prod.fst j1
        cases this
      rw [if_neg hne] at j1
      obtain ⟨m2, rfl⟩ : ∃ m2, m = m2 + 1 := ⟨m - 1, by omega⟩
      have k8' : pLaw K V F 12 zL 0 = (if K j = 21 then (some (lput L q), j) else if K j = 59 then pLaw K V F m2 (lput L q) (j + 1) else (none, j)) := by
        rw [k8]
        show (match pClause K V F i with | (none, j) => (none, j) | (some q, j) => _) = _
        rw [j1]
      have rl := RLw_put k7 (by omega) (pClause_d j1) j7 j8
      refine r_blanks j4 hb hn (tk_pn hT j2 j5) (fun q2 hq2 => ?_)
      obtain rfl := NB_u hq2 (tk_nb hT j2 j5)
      have hbj := (hT.2.2.2 j j2).2.1
      have e9 : Eqo fq2 M1 (atP M7 (b j) (b j)) := eqo_tr e8 (fun _ _ h => h) atP_q
      rw [show (atP M7 (b j) (b j)).1 190 19 = i32 (b j) from rfl, show (atP M7 (b j) (b j)).1 190 20 = i32 n from j4.1]
      refine ⟨fun hx => ?_, fun hx => ?_⟩
      · have hk := (tkn_21 hT j2).mp ((i32_ij (by omega) (by omega)).mp hx)
        rw [i32_s]
        exact hh _ _ (Or.inl ⟨lput L q, j, by rw [k8', if_pos hk], rfl, LawR_atP (RLw_R rl (by omega))⟩) e9
      · have hk : ¬ K j = 21 := fun x => hx (by rw [(tkn_21 hT j2).mpr x])
        rw [if_neg hk] at k8'
        obtain ⟨q1, q2⟩ := tkn_59 hT j2
        rw [v_at (atP_T j4) hb hn (by omega) (by decide) (by decide), show (59 : Int32).toInt = 59 from rfl]
        refine ⟨fun hy => ?_, fun hy => ?_⟩
        · rw [b32_eq0, decide_eq_false_iff_not, q1] at hy
          rw [if_neg hy] at k8'
          exact hh _ _ (Or.inr ⟨j, k8', j2, rfl, rfl⟩) e9
        · rw [b32_ne0, decide_eq_true_eq, q1] at hy
          rw [if_pos hy] at k8'
          have hlt := tk_lt hT j2 hk
          rw [i32_s, i32_s, atP_p, ← q2 hy]
          exact hih _ _ ⟨m2, lput L q, σ', j + 1, e j, b j, by show L.1 + 1 + m2 = 12; omega, rfl, by omega, atP_T j4, PT_s hT hlt, by omega, j8.1, RLw_atP rl, k8', eqo_tr e8 (fun _ _ h => h) atP_q⟩
    · refine ⟨fun _ => hh _ _ (Or.inr ⟨j, ?_, j2, rfl, j3⟩) e8, fun x => absurd rfl x⟩
      by_cases hne : L.1 = 12
      · obtain rfl : m = 0 := by omega
        rw [if_pos hne] at j1
        rw [k8]
        have : i = j := congrArg Prod.snd j1
        rw [← this]
        rfl
      · obtain ⟨m2, rfl⟩ : ∃ m2, m = m2 + 1 := ⟨m - 1, by omega⟩
        rw [if_neg hne] at j1
        rw [k8]
        show (match pClause K V F i with | (none, j) => (none, j) | (some q, j) => _) = _
        rw [j1]
end RCO
