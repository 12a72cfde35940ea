/-! ANSWERS: who should be told -/
def popS (f : Nat → Bool) : Nat → Nat
  | 0 => 0
  | n + 1 => popS f n + (f n).toNat
theorem popS_e {f g : Nat → Bool} : ∀ n, (∀ k, k < n → f k = g k) → popS f n = popS g n
  | 0, _ => rfl
  | n + 1, h => by
    unfold popS
    rw [popS_e n (fun k hk => h k (by omega)), h n (by omega)]
theorem popS_1 {f g : Nat → Bool} {j : Nat} (hj : f j = false) (hg : ∀ k, g k = (f k || decide (k = j))) : ∀ n, popS g n = popS f n + (decide (j < n)).toNat
  | 0 => by
    rw [decide_eq_false (show ¬ j < 0 by omega)]
    rfl
  | n + 1 => by
    unfold popS
    rw [popS_1 hj hg n, hg n]
    by_cases e : n = j
    · subst e
      rw [hj, decide_eq_false (show ¬ n < n by omega), decide_eq_true (show n < n + 1 by omega), decide_eq_true (rfl : n = n)]
      rfl
    · rw [decide_eq_false e, Bool.or_false, decide_eq_decide.mpr (show j < n ↔ j < n + 1 by omega)]
      omega
theorem bcn12f : ∀ (a b : Fin 64), bcn (i32 (64 * a + b)) = i32 (popS (fun k => Nat.testBit (64 * a + b) k) 12) := by decide +kernel
theorem bcn12 {a : Nat} (h : a < 4096) : bcn (i32 a) = i32 (popS (fun k => Nat.testBit a k) 12) := by
  have t := bcn12f ⟨a / 64, by omega⟩ ⟨a % 64, by omega⟩
  have e : 64 * (a / 64) + a % 64 = a := by omega
  dsimp only at t
  rw [e] at t
  exact t
theorem bcn_p {x : Int32} (hx : ∀ k, k < 32 → tb x k = true → k < 12) : bcn x = i32 (popS (tb x) 12) := by
  have e : x = bs (tb x) 12 := by
    apply tb_ext
    intro k hk
    rw [tb_bs _ _ (by omega) _ hk]
    by_cases h : k < 12
    · rw [decide_eq_true h, Bool.true_and]
    · rw [decide_eq_false h, Bool.false_and]
      cases hb : tb x k
      · rfl
      · exact absurd (hx k hk hb) h
  obtain ⟨a, ha, ea⟩ := bs_nat (P := tb x) 12 (by omega)
  have hxa : x = i32 a := e.trans ea
  have h := bcn12 (a := a) (by omega)
  have h' : bcn (i32 a) = i32 (popS (fun k => Nat.testBit a k) 12) := h
  rw [hxa, h', popS_e 12 (fun k hk => (tb_ix (X := a) (k := k) (by omega)).symm)]
/-- one clause more -/
theorem bcn_1 {x : Int32} {j : Nat} (hx : ∀ k, k < 32 → tb x k = true → k < 12) (hj : j < 12) (hb : tb x j = false) : bcn (x ||| sl 1 (i32 j)) = bcn x + 1 := by
  have e : ∀ k, k < 12 → tb (x ||| sl 1 (i32 j)) k = (tb x k || decide (k = j)) := fun k hk => by rw [tb_or, tb_sl (by omega) (by omega)]
  rw [bcn_p hx, bcn_p (x := x ||| sl 1 (i32 j)) (fun k hk hh => by
    rw [tb_or, tb_sl (by omega) hk, Bool.or_eq_true, decide_eq_true_eq] at hh
    rcases hh with hh | hh
    · exact hx k hk hh
    · omega), popS_e 12 e, popS_1 (f := tb x) (g := fun k => tb x k || decide (k = j)) hb (fun _ => rfl) 12, decide_eq_true hj, i32_s]
  rfl
section TLL
variable {B : Int} {M X : MM} {p q : Int32} {w : RW} {s : RS} {L : LWT} {N : Nat}
/-- told -/
def wkF (w : RW) (c k : Nat) : RW := up1 w (18 + 13 * c + 1) (cl w c 1 ||| sl 1 (i32 k))
theorem wk_cl {c k c' i : Nat} (hi : i < 13) : cl (wkF w c k) c' i = if c' = c ∧ i = 1 then cl w c 1 ||| sl 1 (i32 k) else cl w c' i := cl_up (by omega) hi
theorem wk_md {c k c' j : Nat} (hc : c' < 10) (hw : WFc w c') : md (wkF w c k) c' j = md w c' j := by
  obtain ⟨-, -, -, ⟨h1, h2⟩, -, -⟩ := hw
  have e : ∀ i, i < 13 → i ≠ 1 → cl (wkF w c k) c' i = cl w c' i := fun i hi h => by rw [wk_cl hi, if_neg (by omega)]
  unfold md
  rw [e 5 (by omega) (by omega), e 6 (by omega) (by omega)]
  have hm := Nat.mod_lt (ni (cl w c' 6) + j) (y := ni (cl w c' 5)) (by unfold ni; omega)
  have : ni (cl w c' 5) ≤ 6 := by unfold ni; omega
  exact e _ (by omega) (by omega)
theorem wk_al {c k c' : Nat} : alv (wkF w c k) c' = alv w c' := by
  unfold alv
  rw [wk_cl (by omega), if_neg (by omega)]
theorem wk_k {c k j : Nat} (hj : j < 18) : wkF w c k j = w j := up1_n (by omega)
theorem wk_nC {c k : Nat} : nC (wkF w c k) = nC w := by
  unfold nC
  rw [wk_k (by omega)]
theorem inF_t {k : Nat} (hk : k < 32) : ∀ n, tb (inF w n) k = true ↔ ∃ c, c < n ∧ alv w c = true ∧ tb (cl w c 1) k = true
  | 0 => by
    unfold inF
    rw [tb_0]
    exact ⟨(fun h => by cases h), fun ⟨c, h, _⟩ => absurd h (by omega)⟩
  | n + 1 => by
    rw [inF_s]
    by_cases e : alv w n = true
    · rw [if_pos e, tb_or, Bool.or_eq_true, inF_t hk n]
      constructor
      · rintro (⟨c, h1, h2⟩ | h)
        · exact ⟨c, by omega, h2⟩
        · exact ⟨n, by omega, e, h⟩
      · rintro ⟨c, h1, h2⟩
        by_cases e2 : c = n
        · subst e2; exact Or.inr h2.2
        · exact Or.inl ⟨c, by omega, h2⟩
    · rw [if_neg e, inF_t hk n]
      constructor
      · rintro ⟨c, h1, h2⟩
        exact ⟨c, by omega, h2⟩
      · rintro ⟨c, h1, h2⟩
        by_cases e2 : c = n
        · subst e2; exact absurd h2.1 e
        · exact ⟨c, by omega, h2⟩
/-- what is in force stays -/
theorem wk_inF {c k : Nat} (hk : k < 32) (hf : tb (inF w (nC w)) k = true) : inF (wkF w c k) (nC w) = inF w (nC w) := by
  apply tb_ext
  intro j hj
  rw [Bool.eq_iff_iff, inF_t hj, inF_t hj]
  constructor
  · rintro ⟨c', h1, h2, h3⟩
    rw [wk_al] at h2
    rw [wk_cl (by omega)] at h3
    by_cases e : c' = c ∧ 1 = 1
    · rw [if_pos e, tb_or, tb_sl hk hj, Bool.or_eq_true, decide_eq_true_eq] at h3
      rcases h3 with h3 | h3
      · exact ⟨c', h1, h2, by rw [e.1]; exact h3⟩
      · rw [h3]
        exact (inF_t hk (nC w)).mp hf
    · rw [if_neg e] at h3
      exact ⟨c', h1, h2, h3⟩
  · rintro ⟨c', h1, h2, h3⟩
    refine ⟨c', h1, by rw [wk_al]; exact h2, ?_⟩
    rw [wk_cl (by omega)]
    by_cases e : c' = c ∧ 1 = 1
    · rw [if_pos e, tb_or, ← e.1, h3]; rfl
    · rw [if_neg e]; exact h3
/-- the best pair so far, how much less -/
def tlK (L : LWT) (w : RW) (n c : Nat) (x : Int32 × Int32) : Nat → Int32 × Int32
  | 0 => x
  | k + 1 => if tb (cl w c 1) k = false ∧ tb (inF w (nC w)) k = true then (if (tlK L w n c x k).1 = -1 ∨ (tlK L w n c x k).2 < i32 (rskF L w c 0 n) - i32 (rskF L (wkF w c k) c 0 n) then (i32 (100 * c + k), i32 (rskF L w c 0 n) - i32 (rskF L (wkF w c k) c 0 n)) else tlK L w n c x k) else tlK L w n c x k
def tlC (L : LWT) (w : RW) (n : Nat) : Nat → Int32 × Int32
  | 0 => (-1, 0)
  | c + 1 => if alv w c = true then tlK L w n c (tlC L w n c) L.1 else tlC L w n c
def okb1 (x : Int32 × Int32) : Prop := x.1 = -1 ∨ ∃ m, m < 2000 ∧ x.1 = i32 m
theorem tlK_b {n c : Nat} {x : Int32 × Int32} (hc : c < 10) (hx : okb1 x) : ∀ k, k ≤ 12 → okb1 (tlK L w n c x k)
  | 0, _ => hx
  | k + 1, h => by
    have IH := tlK_b (n := n) hc hx k (by omega)
    unfold tlK
    split
    · split
      · exact Or.inr ⟨100 * c + k, by omega, rfl⟩
      · exact IH
    · exact IH
theorem tlC_b {n : Nat} (hL : L.1 ≤ 12) : ∀ c, c ≤ 10 → okb1 (tlC L w n c)
  | 0, _ => Or.inl rfl
  | c + 1, h => by
    have IH := tlC_b (n := n) hL c (by omega)
    unfold tlC
    split
    · exact tlK_b (by omega) IH L.1 hL
    · exact IH
end TLL
section TL2
variable {B : Int} {M X : MM} {p q : Int32} {w : RW} {s : RS} {L : LWT}
theorem popS_b {f : Nat → Bool} : ∀ n, popS f n ≤ n
  | 0 => Nat.le_refl _
  | n + 1 => by
    unfold popS
    have := popS_b (f := f) n
    cases f n
    · show popS f n + 0 ≤ _; omega
    · show popS f n + 1 ≤ _; omega
/-- what forbids, with so many clauses known -/
def fbk (L : LWT) (w : RW) (c : Nat) (kn : Int32) (k : Nat) : Int32 := bs (bear L 0 (md w c k) (i32 c) kn (w 2 + i32 k)) L.1
theorem c_for2 {c n N : Nat} {kn : Int32} {Q : MM → Prop} (hc : CW M 18 w s) (hw : WF w) (hL : LawC M 8 L) (hd : dOK w) (hcn : c < nC w) (hn : n ≤ 60) (hk : 0 ≤ kn.toInt ∧ kn.toInt ≤ 64) (hQ : ∀ M', (∀ k, k < n → M'.1 170 k = fbk L w c kn k) → Eqo [(170, 170, none)] M M' → Q M') : W_Outlook_foresee (i32 c) 0 kn (i32 n) N M Q := by
  have h10 := (nC_i hw).2.1
  unfold W_Outlook_foresee
  refine I_Outlook_foresee_3 (i32 c) 0 kn (i32 n) Q (fun v M' => ∃ k, k ≤ n ∧ v = i32 k ∧ (∀ j, j < k → M'.1 170 j = fbk L w c kn j) ∧ Eqo [(170, 170, none)] M M') (fun N ih v M' hih hv => ?_) N _ _ ⟨0, by omega, rfl, fun j hj => by omega, eqo_rf M⟩
  obtain ⟨k, hkn, rfl, h1, h2⟩ := hv
  unfold B_Outlook_foresee_3
  rw [i32_lt (by omega) (by omega)]
  refine ⟨fun hlt => ⟨fun _ => ?_, fun hb => absurd ((i32_lt (k := 60) (by omega) (by omega)).mpr (by omega)) hb⟩, fun hlt => ?_⟩
  · have hc' := CW_eq hc h2 rfl
    rw [show ((0 : Int32) + i32 k) = i32 k from Int32.zero_add _, c_ahead hc' hw hcn (by omega), hc'.1.2.2.1]
    have rg := rngD (k := k) (hw.2.2.2 c hcn) (show c < 10 by omega) (dy_k hd (show k ≤ 60 by omega)) (cl w c 1)
    refine sp_bearing (LawC_eq hL h2 rfl) (Or.inl rfl) ⟨rg.1, rg.2.1, hk, rg.2.2.2⟩ ?_
    rw [ni_i (by omega)]
    refine hih _ _ ⟨k + 1, by omega, i32_s k, fun j hj => ?_, eqo_wi (i := 0) h2 rfl (Or.inl rfl)⟩
    by_cases e : j = k
    · rw [e, wi_1e]; rfl
    · rw [wi_1n (by omega)]; exact h1 j (by omega)
  · obtain rfl : k = n := by omega
    exact hQ _ h1 h2
theorem fbk_w {c k j : Nat} {kn : Int32} (hc : c < 10) (hw : WFc w c) (hkn : bcn (cl w c 1 ||| sl 1 (i32 k)) = kn) : fbk L w c kn j = fbd L (wkF w c k) c (0 + j) j := by
  unfold fbk fbd
  rw [Nat.zero_add, wk_md hc hw, wk_cl (by omega), if_pos ⟨rfl, rfl⟩, hkn, wk_k (by omega)]
theorem c_tlOf {c n N : Nat} {x : Int32 × Int32} {Q : MM → Prop} (hc : CW M 18 w s) (hw : WF w) (hL : LawC M 8 L) (hd : dOK w) (hcn : c < nC w) (hn : n ≤ 60) (hK : ∀ k, k < 32 → tb (cl w c 1) k = true → k < 12) (h3 : M.1 169 3 = x.1) (h4 : M.1 169 4 = x.2) (hQ : ∀ M', CW M' 18 w s → LawC M' 8 L → M'.1 169 3 = (tlK L w n c x L.1).1 → M'.1 169 4 = (tlK L w n c x L.1).2 → Q M') : W_Outlook_findTellingOf (i32 c) (i32 n) (inF w (nC w)) N M Q := by
  have h10 := (nC_i hw).2.1
  have l12 := hL.2.1
  have kb : bcn (cl w c 1) = i32 (popS (tb (cl w c 1)) 12) := bcn_p hK
  have pb := popS_b (f := tb (cl w c 1)) 12
  unfold W_Outlook_findTellingOf
  refine c_rsk (l := 0) hc hw hL hd hcn hn (by omega) (fun M2 e2 => ?_)
  have hc2 := CW_eq hc e2 rfl
  have hL2 := LawC_eq hL e2 rfl
  rw [show V_World_knownBy 18 (i32 c) M2 = bcn (cl w c 1) from c_known hc2 hcn hw]
  refine c_for2 hc2 hw hL2 hd hcn hn (by rw [kb, i32_s, i32_i (by omega)]; omega) (fun M4 r4 e4 => ?_)
  have hc4 := CW_eq hc2 e4 rfl
  have hL4 := LawC_eq hL2 e4 rfl
  rw [ni_i (by omega), show M.1 19 c = cl w c 1 from (hc.2.2.2.1 c hcn).1]
  refine I_Outlook_findTellingOf_40 _ _ _ _ _ Q (fun v M' => ∃ k, k ≤ L.1 ∧ v = i32 k ∧ CW M' 18 w s ∧ LawC M' 8 L ∧ (∀ j, j < n → M'.1 170 j = fbk L w c (bcn (cl w c 1) + 1) j) ∧ M'.1 169 3 = (tlK L w n c x k).1 ∧ M'.1 169 4 = (tlK L w n c x k).2) (fun N ih v M' hih hv => ?_) N _ _ ⟨0, by omega, rfl, hc4, hL4, r4, by rw [eq1 e4 (b := 169) (k := 3) rfl, eq1 e2 (b := 169) (k := 3) rfl]; exact h3, by rw [eq1 e4 (b := 169) (k := 4) rfl, eq1 e2 (b := 169) (k := 4) rfl]; exact h4⟩
  obtain ⟨k, hk, rfl, hcw, hl, hr, g3, g4⟩ := hv
  unfold B_Outlook_findTellingOf_40
  rw [hl.1, i32_lt (by omega) (by omega)]
  refine ⟨fun hlt => ?_, fun hlt => ?_⟩
  · unfold V_E_bit
    rw [bt_1 (by omega), tb_and, tb_not (by omega), Bool.and_eq_true, Bool.not_eq_true']
    have same : ¬ (tb (cl w c 1) k = false ∧ tb (inF w (nC w)) k = true) → ih (i32 k + 1) M' := fun hn' => hih _ _ ⟨k + 1, by omega, i32_s k, hcw, hl, hr, by unfold tlK; rw [if_neg hn']; exact g3, by unfold tlK; rw [if_neg hn']; exact g4⟩
    refine ⟨fun hb => ?_, fun hb => same (fun h => hb ⟨h.2, h.1⟩)⟩
    have kn1 := bcn_1 (j := k) hK (by omega) hb.2
    have t := c_rdays (M := M') (w := wkF w c k) (L := L) (c := c) (l := 0) (n := n) (N := N) (Q := fun r7 => ((M'.1 169 3 = -1 → ih (i32 k + 1) (wi (wi M' 169 3 (100 * i32 c + i32 k)) 169 4 (i32 (rskF L w c 0 n) - r7))) ∧ (¬ M'.1 169 3 = -1 → ((M'.1 169 4 < i32 (rskF L w c 0 n) - r7 → ih (i32 k + 1) (wi (wi M' 169 3 (100 * i32 c + i32 k)) 169 4 (i32 (rskF L w c 0 n) - r7))) ∧ (¬ M'.1 169 4 < i32 (rskF L w c 0 n) - r7 → ih (i32 k + 1) M'))))) hn (fun j hj => by rw [hr j hj]; exact fbk_w (by omega) (hw.2.2.2 c hcn) kn1) ?_
    · rw [wk_nC, wk_inF (by omega) hb.1, wk_cl (by omega), if_pos ⟨rfl, rfl⟩] at t
      exact t
    · have e1 : (100 * i32 c + i32 k : Int32) = i32 (100 * c + k) := by rw [show (100 : Int32) * i32 c = i32 (100 * c) from i32_m 100 c, i32_a]
      rw [e1, g3, g4]
      have put : ((tlK L w n c x k).1 = -1 ∨ (tlK L w n c x k).2 < i32 (rskF L w c 0 n) - i32 (rskF L (wkF w c k) c 0 n)) → ih (i32 k + 1) (wi (wi M' 169 3 (i32 (100 * c + k))) 169 4 (i32 (rskF L w c 0 n) - i32 (rskF L (wkF w c k) c 0 n))) := fun hp => hih _ _ ⟨k + 1, by omega, i32_s k, CW_eq (CW_eq hcw (eqo_1 (a := 169) (k := 3)) rfl) (eqo_1 (a := 169) (k := 4)) rfl, LawC_eq (LawC_eq hl (eqo_1 (a := 169) (k := 3)) rfl) (eqo_1 (a := 169) (k := 4)) rfl, fun j hj => by rw [wi_1n (by omega), wi_1n (by omega)]; exact hr j hj, by unfold tlK; rw [if_pos ⟨hb.2, hb.1⟩, if_pos hp, wi_1n (by omega), wi_1e], by unfold tlK; rw [if_pos ⟨hb.2, hb.1⟩, if_pos hp, wi_1e]⟩
      refine ⟨fun a => put (Or.inl a), fun a => ⟨fun b => put (Or.inr b), fun b => ?_⟩⟩
      refine hih _ _ ⟨k + 1, by omega, i32_s k, hcw, hl, hr, ?_, ?_⟩
      · unfold tlK
        rw [if_pos ⟨hb.2, hb.1⟩, if_neg (fun h => h.elim a b)]
        exact g3
      · unfold tlK
        rw [if_pos ⟨hb.2, hb.1⟩, if_neg (fun h => h.elim a b)]
        exact g4
  · obtain rfl : k = L.1 := by omega
    exact hQ _ hcw hl g3 g4
theorem c_tel {n N : Nat} {Q : MM → Prop} (hc : CW M 18 w s) (hw : WF w) (hL : LawC M 8 L) (hd : dOK w) (hn : n ≤ 60) (hK : ∀ c, c < nC w → ∀ k, k < 32 → tb (cl w c 1) k = true → k < 12) (hQ : ∀ M', M'.1 169 3 = (tlC L w n (nC w)).1 → M'.1 169 4 = (tlC L w n (nC w)).2 → Q M') : W_Outlook_findTelling (i32 n) N M Q := by
  obtain ⟨e0, hn10, ei⟩ := nC_i hw
  unfold W_Outlook_findTelling
  have hc1 : CW (wi (wi M 169 3 (-1)) 169 4 0) 18 w s := CW_eq (CW_eq hc (eqo_1 (a := 169) (k := 3)) rfl) (eqo_1 (a := 169) (k := 4)) rfl
  have hL1 : LawC (wi (wi M 169 3 (-1)) 169 4 0) 8 L := LawC_eq (LawC_eq hL (eqo_1 (a := 169) (k := 3)) rfl) (eqo_1 (a := 169) (k := 4)) rfl
  refine c_force hc1 hw ?_
  refine I_Outlook_findTelling_20 _ _ Q (fun v M' => ∃ c, c ≤ nC w ∧ v = i32 c ∧ CW M' 18 w s ∧ LawC M' 8 L ∧ M'.1 169 3 = (tlC L w n c).1 ∧ M'.1 169 4 = (tlC L w n c).2) (fun N ih v M' hih hv => ?_) N _ _ ⟨0, by omega, rfl, hc1, hL1, by rw [wi_1n (by omega), wi_1e]; rfl, wi_1e⟩
  obtain ⟨c, hcn, rfl, hcw, hl, g3, g4⟩ := hv
  unfold B_Outlook_findTelling_20
  rw [hcw.1.1, ei, i32_lt (by omega) (by omega)]
  refine ⟨fun hlt => ?_, fun hlt => ?_⟩
  · rw [c_alive hcw hw hlt]
    refine ⟨fun a => hih _ _ ⟨c + 1, by omega, i32_s c, hcw, hl, ?_, ?_⟩, fun a => c_tlOf hcw hw hl hd hlt hn (hK c hlt) g3 g4 (fun M6 c6 l6 g5 g6 => hih _ _ ⟨c + 1, by omega, i32_s c, c6, l6, ?_, ?_⟩)⟩
    · unfold tlC
      rw [b32_eq0.mp a, if_neg (by decide)]
      exact g3
    · unfold tlC
      rw [b32_eq0.mp a, if_neg (by decide)]
      exact g4
    · unfold tlC
      rw [b32_ne0.mp a, if_pos rfl]
      exact g5
    · unfold tlC
      rw [b32_ne0.mp a, if_pos rfl]
      exact g6
  · obtain rfl : c = nC w := by omega
    exact hQ _ g3 g4
/-- the reference: SV, the row as it was -/
theorem r_tel {n N : Nat} {Q : Int32 → MM → Prop} (hx : X.1 191 = w) (hR : LawR X L) (hcl : V_m_clauses X = i32 L.1) (hw : WF w) (hd : dOK w) (hn : n ≤ 60) (hQ : ∀ X', Eqo [(191, 191, none), (207, 207, none)] X X' → (q = 0 → Q (tlC L w n (nC w)).1 X') ∧ (¬ q = 0 → Q (tlC L w n (nC w)).2 X')) : W_m_telling_33 (i32 n) q (inF w (nC w)) Q N (-1) 0 0 X := by
  obtain ⟨e0, hn10, ei⟩ := nC_i hw
  have l12 := hR.1
  refine I_m_telling_33 _ _ _ Q (fun v4 v5 v6 X' => ∃ c, c ≤ nC w ∧ v6 = i32 c ∧ v4 = (tlC L w n c).1 ∧ v5 = (tlC L w n c).2 ∧ Eqo [(191, 191, none), (207, 207, none)] X X' ∧ X'.1 191 = w) (fun N ih v4 v5 v6 X' hih hv => ?_) N _ _ _ _ ⟨0, by omega, rfl, rfl, rfl, eqo_rf X, hx⟩
  obtain ⟨c, hcn, rfl, rfl, rfl, he, hx'⟩ := hv
  unfold B_m_telling_33
  have ec : V_m_citizens X' = i32 (nC w) := by unfold V_m_citizens; rw [hx', n0, ei]
  rw [ec, i32_lt (by omega) (by omega)]
  refine ⟨fun hlt => ?_, fun hlt => ?_⟩
  · have lawX : ∀ Y : MM, Eqo [(191, 191, none), (207, 207, none)] X Y → LawR Y L ∧ V_m_clauses Y = i32 L.1 := fun Y hY => ⟨LawR_eq hR hY rfl, by
      unfold V_m_clauses at hcl ⊢
      rw [eq1 hY (b := 190) (k := 15) rfl]
      exact hcl⟩
    have svx : ∀ {Y Z : MM}, Eqo [(191, 191, none), (207, 207, none)] X Y → SV Y Z → Eqo [(191, 191, none), (207, 207, none)] X Z := fun a b => eqo_tr a (fps_cons (i := 1) rfl fps_nil) (SV_e b)
    have wix : ∀ {Y : MM} {k : Nat} {x : Int32}, Eqo [(191, 191, none), (207, 207, none)] X Y → Eqo [(191, 191, none), (207, 207, none)] X (wi Y 191 k x) := fun a => eqo_wi (i := 0) a rfl (Or.inl rfl)
    rw [show V_m_isAlive (i32 c) X' = b32 (alv w c) from (v_alive (by omega)).trans (by rw [hx']), show V_m_of (i32 c) 1 X' = cl w c 1 from of_row (i := 1) hx' (by omega) (by omega)]
    refine ⟨fun a => hih _ _ _ _ ⟨c + 1, by omega, i32_s c, ?_, ?_, he, hx'⟩, fun a => ?_⟩
    · rw [show tlC L w n (c + 1) = _ from if_neg (by rw [b32_eq0.mp a]; decide)]
    · rw [show tlC L w n (c + 1) = _ from if_neg (by rw [b32_eq0.mp a]; decide)]
    · refine r_rsk (l := 0) hx' (lawX X' he).1 (lawX X' he).2 hw hd hlt hn (by omega) (fun X9 hS9 => ?_)
      refine I_m_telling_76 _ _ _ _ _ _ _ Q (fun v4 v5 v9 Y => ∃ k, k ≤ L.1 ∧ v9 = i32 k ∧ v4 = (tlK L w n c (tlC L w n c) k).1 ∧ v5 = (tlK L w n c (tlC L w n c) k).2 ∧ Eqo [(191, 191, none), (207, 207, none)] X Y ∧ Y.1 191 = w) (fun N ih2 v4 v5 v9 Y hih2 hv2 => ?_) N _ _ _ _ ⟨0, by omega, rfl, rfl, rfl, svx he hS9, SV_x hS9 hx'⟩
      obtain ⟨k, hk, rfl, rfl, rfl, heY, hxY⟩ := hv2
      unfold B_m_telling_76
      rw [(lawX Y heY).2, i32_lt (by omega) (by omega)]
      refine ⟨fun hlt2 => ?_, fun hlt2 => ?_⟩
      · rw [v_has (by omega), v_has (by omega)]
        have same : ¬ (tb (cl w c 1) k = false ∧ tb (inF w (nC w)) k = true) → ih2 (tlK L w n c (tlC L w n c) k).1 (tlK L w n c (tlC L w n c) k).2 (i32 k + 1) Y := fun hn' => hih2 _ _ _ _ ⟨k + 1, by omega, i32_s k, by rw [show tlK L w n c (tlC L w n c) (k + 1) = _ from if_neg hn'], by rw [show tlK L w n c (tlC L w n c) (k + 1) = _ from if_neg hn'], heY, hxY⟩
        refine ⟨fun h1 => ⟨fun h2 => same (fun h => by rw [b32_eq0.mp h2] at h; exact absurd h.2 (by decide)), fun h2 => ?_⟩, fun h1 => same (fun h => by rw [b32_ne0.mp h1] at h; exact absurd h.1 (by decide))⟩
        have b1 := b32_eq0.mp h1
        have b2 := b32_ne0.mp h2
        unfold W_m_sets
        rw [show ni ((18 + (13 * i32 c)) + 1) = 18 + 13 * c + 1 from ofs (i := 1) (by omega) (by omega)]
        have hx14 : (wi Y 191 (18 + 13 * c + 1) (cl w c 1 ||| sl 1 (i32 k))).1 191 = wkF w c k := wi_row hxY
        have w14 : WF (wkF w c k) := WF_ct hw (Or.inl rfl)
        have d14 : dOK (wkF w c k) := by
          unfold dOK
          rw [wk_k (by omega)]
          exact hd
        have l14 := lawX _ (wix (k := 18 + 13 * c + 1) (x := cl w c 1 ||| sl 1 (i32 k)) heY)
        refine r_rsk (l := 0) hx14 l14.1 l14.2 w14 d14 (by rw [wk_nC]; exact hlt) hn (by omega) (fun X16 hS16 => ?_)
        have hx16 := SV_x hS16 hx14
        have hx18 : (wi X16 191 (18 + 13 * c + 1) (cl w c 1)).1 191 = w := by
          rw [wi_row hx16]
          funext j
          unfold wkF up1
          by_cases e : j = 18 + 13 * c + 1
          · rw [if_pos e, e]; rfl
          · rw [if_neg e, if_neg e]
        have he18 : Eqo [(191, 191, none), (207, 207, none)] X (wi X16 191 (18 + 13 * c + 1) (cl w c 1)) := wix (svx (wix heY) hS16)
        have e1 : (100 * i32 c + i32 k : Int32) = i32 (100 * c + k) := by rw [show (100 : Int32) * i32 c = i32 (100 * c) from i32_m 100 c, i32_a]
        rw [e1]
        have un : tlK L w n c (tlC L w n c) (k + 1) = if (tlK L w n c (tlC L w n c) k).1 = -1 ∨ (tlK L w n c (tlC L w n c) k).2 < i32 (rskF L w c 0 n) - i32 (rskF L (wkF w c k) c 0 n) then (i32 (100 * c + k), i32 (rskF L w c 0 n) - i32 (rskF L (wkF w c k) c 0 n)) else tlK L w n c (tlC L w n c) k := if_pos ⟨b1, b2⟩
        have ob := tlK_b (L := L) (w := w) (n := n) (c := c) (x := tlC L w n c) (by omega) (tlC_b l12 c (by omega)) k (by omega)
        have neg : (tlK L w n c (tlC L w n c) k).1 < 0 ↔ (tlK L w n c (tlC L w n c) k).1 = -1 := by
          rcases ob with ob | ⟨m, m1, m2⟩
          · rw [ob]
            exact ⟨fun _ => rfl, fun _ => by decide⟩
          · rw [m2]
            refine ⟨fun h => absurd h (by rw [lt_lit, i32_i (by omega), show (0 : Int32).toInt = 0 from rfl]; omega), fun h => absurd (congrArg Int32.toInt h) (by rw [i32_i (by omega), show (-1 : Int32).toInt = -1 from rfl]; omega)⟩
        rw [neg]
        have put : ((tlK L w n c (tlC L w n c) k).1 = -1 ∨ (tlK L w n c (tlC L w n c) k).2 < i32 (rskF L w c 0 n) - i32 (rskF L (wkF w c k) c 0 n)) → ih2 (i32 (100 * c + k)) (i32 (rskF L w c 0 n) - i32 (rskF L (wkF w c k) c 0 n)) (i32 k + 1) (wi X16 191 (18 + 13 * c + 1) (cl w c 1)) := fun hp => hih2 _ _ _ _ ⟨k + 1, by omega, i32_s k, by rw [un, if_pos hp], by rw [un, if_pos hp], he18, hx18⟩
        refine ⟨fun a => put (Or.inl a), fun a => ⟨fun b => put (Or.inr b), fun b => ?_⟩⟩
        exact hih2 _ _ _ _ ⟨k + 1, by omega, i32_s k, by rw [un, if_neg (fun h => h.elim a b)], by rw [un, if_neg (fun h => h.elim a b)], he18, hx18⟩
      · obtain rfl : k = L.1 := by omega
        refine hih _ _ _ _ ⟨c + 1, by omega, i32_s c, ?_, ?_, heY, hxY⟩
        · rw [show tlC L w n (c + 1) = _ from if_pos (b32_ne0.mp a)]
        · rw [show tlC L w n (c + 1) = _ from if_pos (b32_ne0.mp a)]
  · obtain rfl : c = nC w := by omega
    exact hQ _ he
theorem a_telling (h : CP B M) (hB : 0 ≤ B ∧ B ≤ 28000) (hk : ∀ L, LawR M L → LawC M 8 L → ∀ c, c < nC (M.1 191) → ∀ k, k < 32 → tb (cl (M.1 191) c 1) k = true → k < L.1) {N : Nat} : W_E_telling p q N M (fun y M1 => ∀ z N', W_m_telling p q N' (wj M1 215 0 z) (fun b M2 => CP B M2 ∧ M2.1 190 0 = 0 ∧ y = b)) (fun ce M1 => ∀ N', W_m_telling p q N' M1 (fun _ M2 => CP B M2 ∧ M2.1 190 0 = 1)) := by
  obtain ⟨L, hL, hR, hcl, hc, hg⟩ := CP_w h
  have hd := dok_g hg hB
  have l12 := hL.2.1
  by_cases hp : 1 ≤ p.toInt ∧ p.toInt ≤ 60
  · obtain ⟨n, hn, rfl⟩ := lit_r (q := p) (n := 61) (by omega)
    have e3 : ∀ Y : MM, V_m_noDays (i32 n) Y = 0 := fun Y => by rw [noD, decide_eq_true (show (1 : Int32).toInt ≤ (i32 n).toInt ∧ (i32 n).toInt ≤ (60 : Int32).toInt from hp)]; rfl
    refine and_E_telling (Q1 := fun y _ => y = if q = 0 then (tlC L (M.1 191) n (nC (M.1 191))).1 else (tlC L (M.1 191) n (nC (M.1 191))).2) (E1 := fun _ _ => False) (Q2 := fun _ M1 => Eqo fp_E_telling M M1) (E2 := fun _ _ => True) (fun y M1 hy h1 z N' => ?_) (fun ce M1 hf _ => hf.elim) ?_ (an_E_telling (fun _ _ e => e) (fun _ _ _ => trivial))
    · subst hy
      have e1 := eqo_app h1 (eqo_z (z := z))
      have hp' : CP B (wj M1 215 0 z) := CP_z (CP_eq h h1 rfl) z
      generalize wj M1 215 0 z = M1 at *
      have x191 : M1.1 191 = M.1 191 := eqb e1 (lo := 191) (hi := 191) rfl (Nat.le_refl _) (Nat.le_refl _)
      refine and_m_telling (Q1 := fun b M2 => M2.1 190 0 = 0 ∧ (if q = 0 then (tlC L (M.1 191) n (nC (M.1 191))).1 else (tlC L (M.1 191) n (nC (M.1 191))).2) = b) (fun b M2 q1 q2 => ⟨q2, q1⟩) ?_ (fm_telling hp')
      unfold W_m_telling W_m_throwsIf
      simp only [e3, e10, e10n, true_implies, false_implies, not_true_eq_false, not_false_eq_true, and_true, true_and, if_true]
      refine r_force (M := wi M1 190 0 0) (w := M.1 191) hg.1 x191 ?_
      have hR1 : LawR (wi M1 190 0 0) L := LawR_eq (LawR_eq hR e1 rfl) eqo_1 rfl
      have hn1 : V_m_clauses (wi M1 190 0 0) = i32 L.1 := by
        unfold V_m_clauses at hcl ⊢
        rw [wi_1n (by omega), eq1 e1 (b := 190) (k := 15) rfl]
        exact hcl
      refine r_tel (X := wi M1 190 0 0) (w := M.1 191) x191 hR1 hn1 hg.1 hd (by omega) (fun X' he => ?_)
      have z0 : X'.1 190 0 = 0 := by rw [eq1 he (b := 190) (k := 0) rfl]; exact wi_1e
      exact ⟨fun a => ⟨z0, if_pos a⟩, fun a => ⟨z0, if_neg a⟩⟩
    · unfold W_E_telling
      refine s_num (fun _ => ?_) (fun hb => absurd hp hb)
      refine c_tel hc hg.1 hL hd (by omega) (fun c hcn k hk32 hb => ?_) (fun M4 g3 g4 => ⟨fun a => ?_, fun a => ?_⟩)
      · have := hk L hR hL c hcn k hk32 hb
        omega
      · rw [g3, if_pos a]
      · rw [g4, if_neg a]
  · have e3 : ∀ Y : MM, V_m_noDays p Y = 1 := fun Y => by rw [noD, decide_eq_false (show ¬ ((1 : Int32).toInt ≤ p.toInt ∧ p.toInt ≤ (60 : Int32).toInt) from hp)]; rfl
    unfold W_E_telling
    refine s_num (fun hb => absurd hb hp) (fun _ N' => ?_)
    unfold W_m_telling W_m_throwsIf
    simp only [e3, e10, e10n, true_implies, false_implies, not_true_eq_false, not_false_eq_true, and_true, true_and, if_true]
    exact CP_t h 1 (fun e => e)
end TL2
