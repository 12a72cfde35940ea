/-! THE CLASS READS: where it stands, truths as bits, lengths -/
theorem tb_bx {X k : Nat} {c : Bool} (hk : k < 32) : tb (i32 (2 * X + c.toNat)) k = if k = 0 then c else X.testBit (k - 1) := by
  unfold tb
  show (BitVec.ofNat 32 (2 * X + c.toNat)).getLsbD k = _
  rw [BitVec.getLsbD_ofNat, decide_eq_true hk, Bool.true_and]
  cases k with
  | zero =>
    rw [Nat.testBit_zero, if_pos rfl]
    cases c
    · exact decide_eq_false (by show ¬ (2 * X + 0) % 2 = 1; omega)
    · exact decide_eq_true (by show (2 * X + 1) % 2 = 1; omega)
  | succ k =>
    rw [Nat.testBit_succ, if_neg (by omega), show (2 * X + c.toNat) / 2 = X by
      cases c
      · show (2 * X + 0) / 2 = X; omega
      · show (2 * X + 1) / 2 = X; omega]
    rfl
theorem tb_ix {X k : Nat} (hk : k < 32) : tb (i32 X) k = X.testBit k := by
  unfold tb
  show (BitVec.ofNat 32 X).getLsbD k = _
  rw [BitVec.getLsbD_ofNat, decide_eq_true hk, Bool.true_and]
theorem one_31 : ((1 &&& 31 : Int32).toBitVec.smod 32).toNat = 1 := by decide
theorem tb_sl1 {x : Int32} {k : Nat} (hk : k < 32) : tb (sl x 1) k = if k = 0 then false else tb x (k - 1) := by
  unfold tb sl
  rw [Int32.toBitVec_shiftLeft]
  simp only [BitVec.shiftLeft_eq']
  rw [one_31, BitVec.getLsbD_shiftLeft]
  by_cases h : k = 0
  · subst h; simp
  · have : ¬ k < 1 := by omega
    simp [h, hk, this]
theorem tb_srr {x : Int32} {k : Nat} (hk : k < 32) : tb (sr x 1) k = if k < 31 then tb x (k + 1) else tb x 31 := by
  unfold tb sr
  rw [Int32.toBitVec_shiftRight]
  simp only [BitVec.sshiftRight_eq', BitVec.getLsbD_sshiftRight]
  rw [one_31]
  by_cases h : k < 31
  · have h2 : 1 + k < 32 := by omega
    have h3 : ¬ 32 ≤ k := by omega
    have h4 : ¬ 31 ≤ k := by omega
    simp [h, h2, h3, h4, Nat.add_comm 1 k]
  · have h2 : ¬ 1 + k < 32 := by omega
    have h3 : ¬ 32 ≤ k := by omega
    simp [h, h2, h3, BitVec.msb_eq_getLsbD_last]
theorem tbt {X k : Nat} (h : X < 2 ^ k) {j : Nat} (hj : k ≤ j) : X.testBit j = false := Nat.testBit_lt_two_pow (Nat.lt_of_lt_of_le h (Nat.pow_le_pow_right (by omega) hj))
theorem tb_b32 {c : Bool} (k : Nat) : tb (b32 c) k = (decide (k = 0) && c) := by
  cases c
  · rw [b32_0, tb_0]; simp
  · rw [b32_1, tb_1]; simp
theorem t_push {X : Nat} {c : Bool} : sl (i32 X) 1 ||| b32 c = i32 (2 * X + c.toNat) := by
  apply tb_ext
  intro k hk
  rw [tb_or, tb_sl1 hk, tb_b32, tb_bx hk]
  by_cases h : k = 0
  · rw [if_pos h, if_pos h, decide_eq_true h]; simp
  · rw [if_neg h, if_neg h, decide_eq_false h, tb_ix (by omega)]; simp
theorem t_not {X : Nat} {c : Bool} : i32 (2 * X + c.toNat) ^^^ 1 = i32 (2 * X + (!c).toNat) := by
  apply tb_ext
  intro k hk
  rw [tb_bx hk]
  have : tb (i32 (2 * X + c.toNat) ^^^ 1) k = Bool.xor (tb (i32 (2 * X + c.toNat)) k) (tb 1 k) := by
    unfold tb
    rw [Int32.toBitVec_xor, BitVec.getLsbD_xor]
  rw [this, tb_bx hk, tb_1]
  by_cases h : k = 0
  · rw [if_pos h, if_pos h, decide_eq_true h]; cases c <;> rfl
  · rw [if_neg h, if_neg h, decide_eq_false h]; simp
theorem t_sr {X k : Nat} {c : Bool} (hX : X < 2 ^ 30) (hk : k < 32) : tb (sr (i32 (2 * X + c.toNat)) 1) k = X.testBit k := by
  rw [tb_srr hk]
  by_cases h : k < 31
  · rw [if_pos h, tb_bx (by omega), if_neg (by omega)]
    rfl
  · rw [if_neg h, tb_bx (by omega), if_neg (by omega), tbt hX (by omega), tbt hX (by omega)]
theorem tb_2 {k : Nat} (hk : k < 32) : tb (-2) k = decide (0 < k) := by
  have : ∀ k : Fin 32, tb (-2) k = decide (0 < (k : Nat)) := by decide
  exact this ⟨k, hk⟩
theorem t_and {X : Nat} {a c : Bool} (hX : X < 2 ^ 29) : sr (i32 (2 * (2 * X + a.toNat) + c.toNat)) 1 &&& ((i32 (2 * (2 * X + a.toNat) + c.toNat) &&& 1) ||| (-2)) = i32 (2 * X + (and a c).toNat) := by
  have h30 : 2 * X + a.toNat < 2 ^ 30 := by
    cases a
    · show 2 * X + 0 < 2 ^ 30; omega
    · show 2 * X + 1 < 2 ^ 30; omega
  apply tb_ext
  intro k hk
  rw [tb_and, t_sr h30 hk, tb_or, tb_and, tb_bx hk, tb_1, tb_2 hk, tb_bx hk]
  have e : (2 * X + a.toNat).testBit k = if k = 0 then a else X.testBit (k - 1) := by
    rw [← tb_ix hk, tb_bx hk]
  rw [e]
  by_cases h : k = 0
  · rw [if_pos h, if_pos h, if_pos h, decide_eq_true h, decide_eq_false (by omega)]
    cases a <;> cases c <;> rfl
  · rw [if_neg h, if_neg h, decide_eq_false h, decide_eq_true (by omega)]
    simp [h]
theorem t_or {X : Nat} {a c : Bool} (hX : X < 2 ^ 29) : sr (i32 (2 * (2 * X + a.toNat) + c.toNat)) 1 ||| (i32 (2 * (2 * X + a.toNat) + c.toNat) &&& 1) = i32 (2 * X + (or a c).toNat) := by
  have h30 : 2 * X + a.toNat < 2 ^ 30 := by
    cases a
    · show 2 * X + 0 < 2 ^ 30; omega
    · show 2 * X + 1 < 2 ^ 30; omega
  apply tb_ext
  intro k hk
  rw [tb_or, t_sr h30 hk, tb_and, tb_bx hk, tb_1, tb_bx hk]
  have e : (2 * X + a.toNat).testBit k = if k = 0 then a else X.testBit (k - 1) := by
    rw [← tb_ix hk, tb_bx hk]
  rw [e]
  by_cases h : k = 0
  · rw [if_pos h, if_pos h, if_pos h, decide_eq_true h]
    cases a <;> cases c <;> rfl
  · rw [if_neg h, if_neg h, decide_eq_false h]
    simp [h]
/-! where it stands -/
def TKc (M : MM) (t : Nat) (K V : Nat → Int32) (i : Nat) : Prop := M.1 3 5 = i32 i ∧ M.1 3 4 = i32 (t + 1) ∧ M.1 4 = K ∧ M.1 7 = V
def pe (e : Nat → Nat) (i : Nat) : Nat := if i = 0 then 0 else e (i - 1)
section CK
variable {f : BY} {n t i : Nat} {K V : Nat → Int32} {b e : Nat → Nat} {M : MM}
theorem pe_s : pe e (i + 1) = e i := if_neg (by omega)
theorem pe_b (hT : TKS f n t K V b e) (hi : i ≤ t) : pe e i ≤ b i := (hT.2.2.2 i hi).2.2.2.1
theorem pe_n (hT : TKS f n t K V b e) (hi : i ≤ t) : pe e i ≤ n := by
  have := pe_b hT hi
  have := (hT.2.2.2 i hi).2.1
  omega
theorem pe_1 (hT : TKS f n t K V b e) (hi : i < t) : pe e i + 1 ≤ pe e (i + 1) := by
  have h1 := pe_b hT (show i ≤ t by omega)
  have h2 := tkn_lt (hT.2.2.2 i (by omega)).1 (hT.2.2.1 i hi)
  rw [pe_s]
  omega
theorem pe_le (hT : TKS f n t K V b e) : ∀ (d : Nat), i + d ≤ t → pe e i + d ≤ pe e (i + d)
  | 0, _ => Nat.le_refl _
  | d + 1, h => by
    have := pe_le hT d (by omega)
    have := pe_1 hT (show i + d < t by omega)
    rw [show i + (d + 1) = i + d + 1 by omega]
    omega
theorem pe_w {k : Nat} (hk : k < 20) (hT : TKS f n t K V b e) (hi : i ≤ t) (h : K i = i32 k) : pe e i + wln k ≤ pe e (i + 1) := by
  have hl : LT f n (b i) := by
    rcases Classical.em (LT f n (b i)) with c | c
    · exact c
    · have := tk_now hT hi c
      rw [h, i32_i (by omega)] at this
      omega
  obtain ⟨w1, r, w2, w3⟩ := tk_word hT hi hl
  have hr : r < 23 := by rcases w2 with ⟨c, -⟩ | ⟨c, -⟩ <;> omega
  have : r = k := (i32_ij (by omega) (by omega)).mp (w3.symm.trans h)
  have hw := (wd_iff.mp ((wnm_k w2 hk).mpr this)).1
  have h1 := pe_b hT hi
  have h2 := w1.1
  rw [pe_s]
  omega
theorem kd (h : TKc M t K V i) (hi : i ≤ t) (ht : t ≤ 400) : V_Text_kind M = K i := by
  obtain ⟨h1, h2, h3, h4⟩ := h
  unfold V_Text_kind
  rw [h1, h2, if_pos ((i32_lt (by omega) (by omega)).mpr (by omega)), ni_i (by omega), h3]
theorem vl (h : TKc M t K V i) (hi : i ≤ t) (ht : t ≤ 400) : V_Text_value M = V i := by
  obtain ⟨h1, h2, h3, h4⟩ := h
  unfold V_Text_value
  rw [h1, h2, if_pos ((i32_lt (by omega) (by omega)).mpr (by omega)), ni_i (by omega), h4]
theorem TKc_e {l : List (Nat × Nat × Option Nat)} {M' : MM} (h : TKc M t K V i) (x : Eqo l M M') (hl : (fpf l 3 5 && (fpf l 3 4 && (fpo l 4 4 && fpo l 7 7))) = true) : TKc M' t K V i := by
  simp only [Bool.and_eq_true] at hl
  obtain ⟨h1, h2, h3, h4⟩ := h
  exact ⟨by rw [eq1 x hl.1]; exact h1, by rw [eq1 x hl.2.1]; exact h2, by rw [eqb x hl.2.2.1 (Nat.le_refl _) (Nat.le_refl _)]; exact h3, by rw [eqb x hl.2.2.2 (Nat.le_refl _) (Nat.le_refl _)]; exact h4⟩
theorem TKc_g (h : TKc M t K V i) : TKc (wi M 3 5 (M.1 3 5 + 1)) t K V (i + 1) := by
  obtain ⟨h1, h2, h3, h4⟩ := h
  exact ⟨by rw [wi_1e, h1, i32_s], h2, h3, h4⟩
end CK
/-! the truth of steps -/
theorem crun_app {sp tm : Nat → Int32} {pl wh kn dy : Int32} {m : Nat} : ∀ (k i : Nat) (T : Int32), crun sp tm pl wh kn dy i (k + m) T = crun sp tm pl wh kn dy (i + k) m (crun sp tm pl wh kn dy i k T)
  | 0, i, T => by rw [Nat.zero_add, Nat.add_zero]; rfl
  | k + 1, i, T => by
    rw [show k + 1 + m = (k + m) + 1 by omega]
    show crun sp tm pl wh kn dy (i + 1) (k + m) _ = crun sp tm pl wh kn dy (i + (k + 1)) m (crun sp tm pl wh kn dy (i + 1) k _)
    rw [crun_app k (i + 1), show i + 1 + k = i + (k + 1) by omega]
/-- the steps from s to s' turn X into Y -/
def CMt (A : Nat) (M : MM) (s s' u' : Nat) (Y : Int32 → Int32 → Int32 → Int32 → Nat → Nat) : Prop := ∀ sp tm : Nat → Int32, (∀ x, x < s' → sp x = M.1 16 x) → (∀ x, x < 5 * u' → tm x = M.1 17 x) → ∀ pl wh kn dy, rng pl wh kn dy → ∀ X, X < A → crun sp tm pl wh kn dy s (s' - s) (i32 X) = i32 (Y pl wh kn dy X)
def CMg (A : Nat) (M : MM) (s s' u' : Nat) (c : BF) : Prop := CMt A M s s' u' (fun pl wh kn dy X => 2 * X + (c pl wh kn dy).toNat)
theorem CMt_cg {A s s' u u' : Nat} {M M' : MM} {Y : Int32 → Int32 → Int32 → Int32 → Nat → Nat} (h : CMt A M s s' u Y) (hu : u ≤ u') (e1 : ∀ x, x < s' → M'.1 16 x = M.1 16 x) (e2 : ∀ x, x < 5 * u → M'.1 17 x = M.1 17 x) : CMt A M' s s' u' Y := fun sp tm h1 h2 => h sp tm (fun x hx => (h1 x hx).trans (e1 x hx)) (fun x hx => (h2 x (by omega)).trans (e2 x hx))
theorem CMt_le {A A' s s' u : Nat} {M : MM} {Y : Int32 → Int32 → Int32 → Int32 → Nat → Nat} (h : CMt A M s s' u Y) (hA : A' ≤ A) : CMt A' M s s' u Y := fun sp tm h1 h2 pl wh kn dy hr X hX => h sp tm h1 h2 pl wh kn dy hr X (by omega)
theorem CMt_0 {A s u : Nat} {M : MM} : CMt A M s s u (fun _ _ _ _ X => X) := fun sp tm h1 h2 pl wh kn dy hr X hX => by
  rw [Nat.sub_self]
  rfl
/-- one after the other -/
theorem CMt_tr {A A' s0 s1 s2 u1 u2 : Nat} {M : MM} {Y Z : Int32 → Int32 → Int32 → Int32 → Nat → Nat} (h1 : CMt A M s0 s1 u1 Y) (h2 : CMt A' M s1 s2 u2 Z) (l1 : s0 ≤ s1) (l2 : s1 ≤ s2) (hu : u1 ≤ u2) (hA : ∀ pl wh kn dy X, X < A → Y pl wh kn dy X < A') : CMt A M s0 s2 u2 (fun pl wh kn dy X => Z pl wh kn dy (Y pl wh kn dy X)) := fun sp tm a1 a2 pl wh kn dy hr X hX => by
  rw [show s2 - s0 = (s1 - s0) + (s2 - s1) by omega, crun_app, h1 sp tm (fun x hx => a1 x (by omega)) (fun x hx => a2 x (by omega)) pl wh kn dy hr X hX, show s0 + (s1 - s0) = s1 by omega]
  exact h2 sp tm a1 a2 pl wh kn dy hr _ (hA pl wh kn dy X hX)
/-- one step -/
theorem CMt_1 {A s u : Nat} {M : MM} {st : Int32} {Y : Int32 → Int32 → Int32 → Int32 → Nat → Nat} (h : M.1 16 s = st) (hc : ∀ tm : Nat → Int32, (∀ x, x < 5 * u → tm x = M.1 17 x) → ∀ pl wh kn dy, rng pl wh kn dy → ∀ X, X < A → cst tm pl wh kn dy st (i32 X) = i32 (Y pl wh kn dy X)) : CMt A M s (s + 1) u Y := fun sp tm a1 a2 pl wh kn dy hr X hX => by
  rw [show s + 1 - s = 1 by omega]
  show cst tm pl wh kn dy (sp s) (i32 X) = _
  rw [a1 s (by omega), h]
  exact hc tm a2 pl wh kn dy hr X hX
theorem cst_f {tm : Nat → Int32} {pl wh kn dy : Int32} {X : Nat} : cst tm pl wh kn dy (-1) (i32 X) = i32 (2 * X + (decide (rm dy 7 = 0)).toNat) := by
  unfold cst
  rw [if_pos rfl]
  exact t_push
theorem cst_n {tm : Nat → Int32} {pl wh kn dy : Int32} {X : Nat} {c : Bool} : cst tm pl wh kn dy (-2) (i32 (2 * X + c.toNat)) = i32 (2 * X + (!c).toNat) := by
  unfold cst
  rw [if_neg (by decide), if_pos rfl]
  exact t_not
theorem cst_a {tm : Nat → Int32} {pl wh kn dy : Int32} {X : Nat} {a c : Bool} (hX : X < 2 ^ 29) : cst tm pl wh kn dy (-3) (i32 (2 * (2 * X + a.toNat) + c.toNat)) = i32 (2 * X + (and a c).toNat) := by
  unfold cst
  rw [if_neg (by decide), if_neg (by decide), if_pos rfl]
  exact t_and hX
theorem cst_o {tm : Nat → Int32} {pl wh kn dy : Int32} {X : Nat} {a c : Bool} (hX : X < 2 ^ 29) : cst tm pl wh kn dy (-4) (i32 (2 * (2 * X + a.toNat) + c.toNat)) = i32 (2 * X + (or a c).toNat) := by
  unfold cst
  rw [if_neg (by decide), if_neg (by decide), if_neg (by decide), if_pos rfl]
  exact t_or hX
theorem cst_l {tm : Nat → Int32} {pl wh kn dy : Int32} {X u : Nat} (hu : u < 133) : cst tm pl wh kn dy (i32 (5 * u)) (i32 X) = i32 (2 * X + (decide (0 < lin tm pl wh kn dy (i32 (5 * u)))).toNat) := by
  have hne : ∀ x : Int32, x.toInt < 0 → ¬ i32 (5 * u) = x := fun x hx h => by
    rw [← h, i32_i (by omega)] at hx
    omega
  unfold cst
  rw [if_neg (hne _ (by decide)), if_neg (hne _ (by decide)), if_neg (hne _ (by decide)), if_neg (hne _ (by decide)), if_neg (by rw [lt_lit, i32_i (by omega)]; show ¬ ((5 * u : Nat) : Int) < 0; omega), if_neg (by rw [show i32 (5 * u) + 5 = i32 (5 * u + 5) from i32_a (5 * u) 5, show (665 : Int32) = i32 665 from rfl, i32_lt (by omega) (by omega)]; omega)]
  exact t_push
