/-! NEXT: sums over subsets; which deed to watch -/
def sbB (b t s : Nat) : Nat → Bool
  | 0 => true
  | j + 1 => sbB b t s j && (if j < b then (!t.testBit j || s.testBit j) else (t.testBit j == s.testBit j))
def mkV (F : Nat → Bool) (S b s : Nat) : Nat := cnF (fun t => F t && sbB b t s 12) S
def alN (F : Nat → Bool) (S : Nat) (g : Int32) : Nat := cnF (fun t => F t && decide (g &&& i32 t = 0)) S
def byN (F : Nat → Bool) (S : Nat) (g : Int32) : Nat := cnF (fun t => F t && !decide (g &&& i32 t = 0)) S
def grN (F : Nat → Bool) (S : Nat) (G : Nat → Int32) (m : Nat) : Nat := Nat.max (alN F S (G m)) (cnF F S - alN F S (G m))
def bsN (F : Nat → Bool) (S : Nat) (G : Nat → Int32) : Nat → Nat
  | 0 => 0
  | k + 1 => if grN F S G (k + 1) < grN F S G (bsN F S G k) then k + 1 else bsN F S G k
def nxA (F : Nat → Bool) (S : Nat) (G : Nat → Int32) : Int32 := if cnF F S < 2 then -1 else i32 (bsN F S G 63)
section NXP
variable {F : Nat → Bool} {S : Nat}
theorem cnF_c {H : Nat → Bool} : ∀ k, (∀ t, t < k → F t = H t) → cnF F k = cnF H k
  | 0, _ => rfl
  | k + 1, h => by
    unfold cnF
    rw [h k (by omega), cnF_c k (fun t ht => h t (by omega))]
theorem cnF_or {A H : Nat → Bool} : ∀ k, (∀ t, t < k → ¬ (A t = true ∧ H t = true)) → cnF (fun t => A t || H t) k = cnF A k + cnF H k
  | 0, _ => rfl
  | k + 1, h => by
    have ih := cnF_or (A := A) (H := H) k (fun t ht => h t (by omega))
    have hk := h k (by omega)
    show (if (A k || H k) = true then cnF (fun t => A t || H t) k + 1 else cnF (fun t => A t || H t) k) = (if A k = true then cnF A k + 1 else cnF A k) + (if H k = true then cnF H k + 1 else cnF H k)
    rw [ih]
    cases a : A k with
    | true =>
      cases b : H k with
      | true => exact absurd ⟨a, b⟩ hk
      | false => simp; omega
    | false =>
      cases b : H k with
      | true => simp; omega
      | false => simp
theorem cnF_0 : ∀ k, (∀ t, t < k → F t = false) → cnF F k = 0
  | 0, _ => rfl
  | k + 1, h => by
    unfold cnF
    rw [if_neg (by rw [h k (by omega)]; decide)]
    exact cnF_0 k (fun t ht => h t (by omega))
theorem cnF_1 {s : Nat} : ∀ k, s < k → cnF (fun t => F t && decide (t = s)) k = if F s = true then 1 else 0
  | 0, h => by omega
  | k + 1, h => by
    show (if (F k && decide (k = s)) = true then cnF (fun t => F t && decide (t = s)) k + 1 else cnF (fun t => F t && decide (t = s)) k) = _
    by_cases e : k = s
    · have z : cnF (fun t => F t && decide (t = s)) k = 0 := cnF_0 k (fun t ht => by rw [decide_eq_false (show ¬ t = s by omega), Bool.and_false])
      rw [z, decide_eq_true e, Bool.and_true, e]
    · rw [decide_eq_false e, Bool.and_false, if_neg (by decide)]
      exact cnF_1 k (by omega)
theorem al_by (g : Int32) : alN F S g + byN F S g = cnF F S := by
  unfold alN byN
  rw [← cnF_or]
  · refine cnF_c S (fun t _ => ?_)
    cases F t <;> cases decide (g &&& i32 t = 0) <;> rfl
  · rintro t - ⟨h1, h2⟩
    revert h1 h2
    cases F t <;> cases decide (g &&& i32 t = 0) <;> simp
theorem sbB_i {b t s : Nat} : ∀ n, sbB b t s n = true ↔ ∀ j, j < n → (if j < b then (t.testBit j = true → s.testBit j = true) else t.testBit j = s.testBit j)
  | 0 => ⟨fun _ j hj => by omega, fun _ => rfl⟩
  | n + 1 => by
    unfold sbB
    rw [Bool.and_eq_true, sbB_i n]
    have key : ((if n < b then (!t.testBit n || s.testBit n) else (t.testBit n == s.testBit n)) = true) ↔ (if n < b then (t.testBit n = true → s.testBit n = true) else t.testBit n = s.testBit n) := by
      by_cases h : n < b
      · rw [if_pos h, if_pos h]
        cases t.testBit n <;> cases s.testBit n <;> simp
      · rw [if_neg h, if_neg h]
        cases t.testBit n <;> cases s.testBit n <;> simp
    rw [key]
    refine ⟨fun ⟨h1, h2⟩ j hj => ?_, fun h => ⟨fun j hj => h j (by omega), h n (by omega)⟩⟩
    by_cases e : j = n
    · subst e; exact h2
    · exact h1 j (by omega)
theorem tb12 {x k : Nat} (h : x < 4096) (hk : ¬ k < 12) : x.testBit k = false := Nat.testBit_lt_two_pow (Nat.lt_of_lt_of_le h (Nat.pow_le_pow_right (n := 2) (i := 12) (by omega) (by omega)))
theorem sb_0 {t s : Nat} (ht : t < 4096) (hs : s < 4096) : sbB 0 t s 12 = decide (t = s) := by
  rw [Bool.eq_iff_iff, sbB_i, decide_eq_true_eq]
  constructor
  · intro h
    apply Nat.eq_of_testBit_eq
    intro j
    by_cases hj : j < 12
    · have := h j hj
      rw [if_neg (by omega)] at this
      exact this
    · rw [tb12 ht hj, tb12 hs hj]
  · rintro rfl j hj
    rw [if_neg (by omega)]
theorem mk_0 {s : Nat} (hS : S ≤ 4096) (hs : s < S) : mkV F S 0 s = if F s = true then 1 else 0 := by
  unfold mkV
  rw [← cnF_1 (F := F) S hs]
  exact cnF_c S (fun t ht => by rw [sb_0 (by omega) (by omega)])
theorem tb_x2 {s b j : Nat} : (s ^^^ 2 ^ b).testBit j = (s.testBit j != decide (b = j)) := by
  rw [Nat.testBit_xor, Nat.testBit_two_pow]
theorem mk_n {s b : Nat} (hb : b < 12) (h : s.testBit b = false) : mkV F S (b + 1) s = mkV F S b s := by
  unfold mkV
  refine cnF_c S (fun t _ => ?_)
  congr 1
  rw [Bool.eq_iff_iff, sbB_i, sbB_i]
  constructor
  · intro q j hj
    have := q j hj
    by_cases e : j = b
    · subst e
      rw [if_pos (by omega), h] at this
      rw [if_neg (by omega), h]
      cases c : t.testBit j with
      | false => rfl
      | true => exact (this c).symm
    · by_cases e2 : j < b
      · rw [if_pos e2]; rw [if_pos (by omega)] at this; exact this
      · rw [if_neg e2]; rw [if_neg (by omega)] at this; exact this
  · intro q j hj
    have := q j hj
    by_cases e : j = b
    · subst e
      rw [if_neg (by omega)] at this
      rw [if_pos (by omega), this]
      exact fun h => h
    · by_cases e2 : j < b
      · rw [if_pos e2] at this; rw [if_pos (by omega)]; exact this
      · rw [if_neg e2] at this; rw [if_neg (by omega)]; exact this
theorem mk_s {s b : Nat} (hb : b < 12) (h : s.testBit b = true) : mkV F S (b + 1) s = mkV F S b s + mkV F S b (s ^^^ 2 ^ b) := by
  unfold mkV
  rw [← cnF_or]
  · refine cnF_c S (fun t _ => ?_)
    rw [← Bool.and_or_distrib_left]
    congr 1
    rw [Bool.eq_iff_iff, Bool.or_eq_true, sbB_i, sbB_i, sbB_i]
    constructor
    · intro q
      cases c : t.testBit b with
      | true =>
        refine Or.inl (fun j hj => ?_)
        have := q j hj
        by_cases e : j = b
        · subst e
          rw [if_neg (by omega), c, h]
        · by_cases e2 : j < b
          · rw [if_pos e2]; rw [if_pos (by omega)] at this; exact this
          · rw [if_neg e2]; rw [if_neg (by omega)] at this; exact this
      | false =>
        refine Or.inr (fun j hj => ?_)
        have := q j hj
        rw [tb_x2]
        by_cases e : j = b
        · subst e
          rw [if_neg (by omega), c, h, decide_eq_true rfl]
          rfl
        · rw [decide_eq_false (show ¬ b = j by omega), Bool.bne_false]
          by_cases e2 : j < b
          · rw [if_pos e2]; rw [if_pos (by omega)] at this; exact this
          · rw [if_neg e2]; rw [if_neg (by omega)] at this; exact this
    · intro q j hj
      rcases q with q | q
      · have := q j hj
        by_cases e : j = b
        · subst e
          rw [if_pos (by omega), h]
          exact fun _ => rfl
        · by_cases e2 : j < b
          · rw [if_pos e2] at this; rw [if_pos (by omega)]; exact this
          · rw [if_neg e2] at this; rw [if_neg (by omega)]; exact this
      · have := q j hj
        rw [tb_x2] at this
        by_cases e : j = b
        · subst e
          rw [if_pos (by omega), h]
          exact fun _ => rfl
        · rw [decide_eq_false (show ¬ b = j by omega), Bool.bne_false] at this
          by_cases e2 : j < b
          · rw [if_pos e2] at this; rw [if_pos (by omega)]; exact this
          · rw [if_neg e2] at this; rw [if_neg (by omega)]; exact this
  · rintro t - ⟨h1, h2⟩
    rw [Bool.and_eq_true] at h1 h2
    have a1 := (sbB_i 12).mp h1.2 b hb
    have a2 := (sbB_i 12).mp h2.2 b hb
    rw [if_neg (by omega)] at a1 a2
    rw [tb_x2, h, decide_eq_true rfl] at a2
    rw [a1, h] at a2
    cases a2
theorem bit_z {k b : Nat} (hb : b < 32) : i32 k &&& i32 (2 ^ b) = 0 ↔ k.testBit b = false := by
  rw [tb_z]
  constructor
  · intro h
    have := h b hb
    rw [tb_and, tb_ix hb, tb_ix hb, Nat.testBit_two_pow, decide_eq_true rfl, Bool.and_true] at this
    exact this
  · intro h j hj
    rw [tb_and, tb_ix hj, tb_ix hj, Nat.testBit_two_pow]
    by_cases e : b = j
    · subst e; rw [h]; rfl
    · rw [decide_eq_false e, Bool.and_false]
theorem i32_xor {a b : Nat} : i32 a ^^^ i32 b = i32 (a ^^^ b) := by
  apply tb_ext
  intro k hk
  rw [tb_ix hk, Nat.testBit_xor, ← tb_ix hk, ← tb_ix hk]
  unfold tb
  rw [Int32.toBitVec_xor, BitVec.getLsbD_xor]
theorem xor_lt {k b : Nat} (h : k.testBit b = true) : k ^^^ 2 ^ b < k := by
  have e : (k ^^^ 2 ^ b) ||| 2 ^ b = k := by
    apply Nat.eq_of_testBit_eq
    intro j
    rw [Nat.testBit_or, tb_x2, Nat.testBit_two_pow]
    by_cases e : b = j
    · subst e
      rw [h, decide_eq_true rfl]
      rfl
    · rw [decide_eq_false e, Bool.bne_false, Bool.or_false]
  have h1 : k ^^^ 2 ^ b ≤ (k ^^^ 2 ^ b) ||| 2 ^ b := Nat.left_le_or
  rw [e] at h1
  have h2 : k ^^^ 2 ^ b ≠ k := fun h3 => by
    have := congrArg (fun x => x.testBit b) h3
    simp only [tb_x2, h, decide_eq_true] at this
    exact absurd this (by decide)
  omega
theorem sl_2 : ∀ b : Fin 12, sl (i32 (2 ^ (b : Nat))) 1 = i32 (2 ^ ((b : Nat) + 1)) := by decide
theorem mx_n {a b : Nat} (ha : a < 2147483648) (hb : b < 2147483648) : mx (i32 a) (i32 b) = i32 (Nat.max a b) := by
  unfold mx
  by_cases h : a < b
  · rw [if_pos ((i32_lt ha hb).mpr h), show Nat.max a b = b from Nat.max_eq_right (by omega)]
  · rw [if_neg (fun e => h ((i32_lt ha hb).mp e)), show Nat.max a b = a from Nat.max_eq_left (by omega)]
theorem mkV_le {b s : Nat} : mkV F S b s ≤ S := cnF_le S
/-- what is left when what forbids is taken away -/
theorem mk_al {g : Int32} {l q : Nat} (hl : l ≤ 12) (hq : ∀ j, j < 12 → q.testBit j = (decide (j < l) && !tb g j)) : mkV F (2 ^ l) l q = alN F (2 ^ l) g := by
  have hT : 2 ^ l ≤ 4096 := Nat.pow_le_pow_right (n := 2) (by omega) hl
  unfold mkV alN
  refine cnF_c _ (fun t ht => ?_)
  congr 1
  rw [Bool.eq_iff_iff, sbB_i, decide_eq_true_eq, tb_z]
  have hi : ∀ j, ¬ j < l → t.testBit j = false := fun j hj => Nat.testBit_lt_two_pow (Nat.lt_of_lt_of_le ht (Nat.pow_le_pow_right (by omega) (by omega)))
  constructor
  · intro h j hj
    rw [tb_and, tb_ix hj]
    by_cases e : j < l
    · have := h j (by omega)
      rw [if_pos e, hq j (by omega), decide_eq_true e, Bool.true_and] at this
      cases c : t.testBit j with
      | false => rw [Bool.and_false]
      | true =>
        have := this c
        rw [Bool.not_eq_true'] at this
        rw [this]
        rfl
    · rw [hi j e, Bool.and_false]
  · intro h j hj
    have a := h j (by omega)
    rw [tb_and, tb_ix (by omega)] at a
    rw [hq j hj]
    by_cases e : j < l
    · rw [if_pos e, decide_eq_true e, Bool.true_and]
      intro c
      rw [c, Bool.and_true] at a
      rw [a]
      rfl
    · rw [if_neg e, hi j e, decide_eq_false e]
      rfl
end NXP
section NXC
variable {M : MM} {L : LWT} {w : RW} {s : RS} {f : BY} {n N : Nat} {F : Nat → Bool}
def fMk : List (Nat × Nat × Option Nat) := [(168, 168, none)]
theorem c_sos {Q : MM → Prop} (hL : LawC M 8 L) (hm : ∀ t, t < 2 ^ L.1 → M.1 168 t = i32 (if F t = true then 1 else 0)) (hQ : ∀ M', Eqo fMk M M' → (∀ t, t < 2 ^ L.1 → M'.1 168 t = i32 (mkV F (2 ^ L.1) L.1 t)) → Q M') : W_Reading_sumOverSubsets N M Q := by
  have l12 := hL.2.1
  have hT : 2 ^ L.1 ≤ 4096 := Nat.pow_le_pow_right (n := 2) (by omega) l12
  unfold W_Reading_sumOverSubsets
  rw [show sl 1 (M.1 8 1) = i32 (2 ^ L.1) from by rw [hL.1]; exact sl_n ⟨L.1, by omega⟩]
  refine I_Reading_sumOverSubsets_12 _ Q (fun v X => ∃ b, b ≤ L.1 ∧ v = i32 (2 ^ b) ∧ Eqo fMk M X ∧ ∀ t, t < 2 ^ L.1 → X.1 168 t = i32 (mkV F (2 ^ L.1) b t)) (fun N ih v X hih hv => ?_) N _ _ ⟨0, Nat.zero_le _, rfl, eqo_rf _, fun t ht => by rw [hm t ht, mk_0 hT ht]⟩
  obtain ⟨b, hb, rfl, eE, hg⟩ := hv
  have hbT : 2 ^ b ≤ 2 ^ L.1 := Nat.pow_le_pow_right (by omega) hb
  unfold B_Reading_sumOverSubsets_12
  rw [i32_lt (j := 2 ^ b) (k := 2 ^ L.1) (by omega) (by omega)]
  refine ⟨fun hl => ?_, fun hl => ?_⟩
  · have hbL : b < L.1 := by
      by_cases e : b = L.1
      · rw [e] at hl; omega
      · omega
    refine I_Reading_sumOverSubsets_19 _ _ _ Q (fun v X => ∃ k, k ≤ 2 ^ L.1 ∧ v = i32 k ∧ Eqo fMk M X ∧ ∀ t, t < 2 ^ L.1 → X.1 168 t = i32 (mkV F (2 ^ L.1) (if t < k then b + 1 else b) t)) (fun N ih2 v X2 hih2 hv => ?_) N _ _ ⟨0, Nat.zero_le _, rfl, eE, fun t ht => by rw [if_neg (by omega)]; exact hg t ht⟩
    obtain ⟨k, hk, rfl, eE2, hg2⟩ := hv
    unfold B_Reading_sumOverSubsets_19
    rw [i32_lt (j := k) (k := 2 ^ L.1) (by omega) (by omega)]
    refine ⟨fun hkl => ⟨fun hz => ?_, fun hz => ?_⟩, fun hkl => ?_⟩
    · rw [bit_z (by omega)] at hz
      refine hih2 _ _ ⟨k + 1, by omega, i32_s k, eE2, fun t ht => ?_⟩
      rw [hg2 t ht]
      by_cases e : t = k
      · rw [e, if_neg (by omega), if_pos (by omega), mk_n (by omega) hz]
      · by_cases e2 : t < k
        · rw [if_pos e2, if_pos (by omega)]
        · rw [if_neg e2, if_neg (by omega)]
    · have hz' : k.testBit b = true := by
        cases c : k.testBit b with
        | true => rfl
        | false => exact absurd ((bit_z (by omega)).mpr c) hz
      have hx := xor_lt hz'
      refine hih2 _ _ ⟨k + 1, by omega, i32_s k, eqo_wi (i := 0) eE2 rfl (Or.inl rfl), fun t ht => ?_⟩
      rw [i32_xor, ni_i (j := k) (by omega), ni_i (j := k ^^^ 2 ^ b) (by omega)]
      by_cases e : t = k
      · subst e
        rw [wi_1e, hg2 t ht, hg2 _ (by omega), if_neg (by omega), if_pos hx, if_pos (by omega), i32_a, mk_s (by omega) hz', mk_n (s := t ^^^ 2 ^ b) (by omega) (by rw [tb_x2, hz', decide_eq_true rfl]; rfl)]
      · rw [wi_1n (by omega), hg2 t ht]
        by_cases e2 : t < k
        · rw [if_pos e2, if_pos (by omega)]
        · rw [if_neg e2, if_neg (by omega)]
    · obtain rfl : k = 2 ^ L.1 := by omega
      refine hih _ _ ⟨b + 1, by omega, sl_2 ⟨b, by omega⟩, eE2, fun t ht => ?_⟩
      rw [hg2 t ht, if_pos ht]
  · have : b = L.1 := by
      by_cases e : b = L.1
      · exact e
      · exact absurd (Nat.pow_lt_pow_right (a := 2) (by omega) (show b < L.1 by omega)) hl
    subst this
    exact hQ _ eE hg
theorem grN_le {S : Nat} {G : Nat → Int32} {m : Nat} : grN F S G m ≤ S := by
  have h1 : alN F S (G m) ≤ S := cnF_le S
  have h2 : cnF F S ≤ S := cnF_le S
  unfold grN
  exact Nat.max_le.mpr ⟨h1, by omega⟩
theorem bsN_le {S : Nat} {G : Nat → Int32} : ∀ k, bsN F S G k ≤ k
  | 0 => Nat.le_refl _
  | k + 1 => by
    have := bsN_le (S := S) (G := G) k
    unfold bsN
    by_cases e : grN F S G (k + 1) < grN F S G (bsN F S G k)
    · rw [if_pos e]; omega
    · rw [if_neg e]; omega
theorem c_bspl {c : Nat} {Q : Int32 → MM → Prop} (hc : CW M 18 w s) (hw : WF w) (hL : LawC M 8 L) (hd : dOK w) (hcn : c < nC w) (h6 : M.1 166 6 = i32 (cnF F (2 ^ L.1))) (hm : ∀ t, t < 2 ^ L.1 → M.1 168 t = i32 (if F t = true then 1 else 0)) (hQ : ∀ M', Eqo fMk M M' → Q (i32 (bsN F (2 ^ L.1) (fun m => fbm L w c (i32 m)) 63)) M') : W_Reading_bestSplit (i32 c) N M Q := by
  have l12 := hL.2.1
  have hT : 2 ^ L.1 ≤ 4096 := Nat.pow_le_pow_right (n := 2) (by omega) l12
  have hp : 0 < 2 ^ L.1 := Nat.pow_pos (by omega)
  obtain ⟨e0, hn10, ei⟩ := nC_i hw
  unfold W_Reading_bestSplit
  refine c_sos hL hm (fun M' eE hg => ?_)
  have hc' : CW M' 18 w s := CW_eq hc eE rfl
  have hL' : LawC M' 8 L := LawC_eq hL eE rfl
  have g6 : M'.1 166 6 = i32 (cnF F (2 ^ L.1)) := by rw [eq1 eE (b := 166) (k := 6) rfl]; exact h6
  rw [show sl 1 (M'.1 8 1) - 1 = i32 (2 ^ L.1 - 1) from by rw [hL'.1, show sl 1 (i32 L.1) = i32 (2 ^ L.1) from sl_n ⟨L.1, by omega⟩, i32_m1 hp]]
  generalize hGd : (fun m => fbm L w c (i32 m)) = G at hQ
  have hG : ∀ m, fbm L w c (i32 m) = G m := fun m => congrFun hGd m
  have cn := cnF_le (F := F) (2 ^ L.1)
  refine I_Reading_bestSplit_24 _ _ M' Q (fun v3 v4 v5 => ∃ k, k ≤ 64 ∧ v5 = i32 k ∧ (k = 0 → v3 = -1) ∧ (0 < k → v3 = i32 (bsN F (2 ^ L.1) G (k - 1)) ∧ v4 = i32 (grN F (2 ^ L.1) G (bsN F (2 ^ L.1) G (k - 1))))) (fun N ih v3 v4 v5 hih hv => ?_) N _ _ _ ⟨0, by omega, rfl, fun _ => rfl, fun h => by omega⟩
  obtain ⟨k, hk, rfl, h0, h1⟩ := hv
  unfold B_Reading_bestSplit_24
  refine ⟨fun hl => ?_, fun hl => ?_⟩
  · have hk64 : k < 64 := (i32_lt (k := 64) (by omega) (by omega)).mp hl
    rw [c_known hc' hcn hw, hc'.1.2.2.1]
    refine sp_bearing hL' (Or.inl rfl) (rngM (by omega) hk64 ⟨hd.1, by have := hd.2; omega⟩ (cl w c 1)) ?_
    obtain ⟨q, hq, eq⟩ := bs_nat (P := fun j => !tb (G k) j) L.1 (by omega)
    have tq : ∀ j, j < 12 → q.testBit j = (decide (j < L.1) && !tb (G k) j) := fun j hj => by
      rw [← tb_ix (X := q) (k := j) (by omega), ← eq, tb_bs _ _ (by omega) _ (by omega)]
    have ex : i32 (2 ^ L.1 - 1) &&& (bs (bear L 0 (i32 k) (i32 c) (V_Int_bitCount (cl w c 1) M') (w 2)) L.1 ^^^ (-1)) = i32 q := by
      rw [show bs (bear L 0 (i32 k) (i32 c) (V_Int_bitCount (cl w c 1) M') (w 2)) L.1 = G k from hG k, ← eq]
      apply tb_ext
      intro j hj
      rw [tb_and, tb_not hj, tb_ix hj, Nat.testBit_two_pow_sub_one, tb_bs _ _ (by omega) _ hj]
    rw [ex, ni_i (by omega), hg q hq, mk_al l12 tq, g6]
    have ha : alN F (2 ^ L.1) (G k) ≤ cnF F (2 ^ L.1) := by
      have := al_by (F := F) (S := 2 ^ L.1) (G k)
      omega
    rw [i32_df ha, mx_n (by omega) (by omega), show Nat.max (alN F (2 ^ L.1) (G k)) (cnF F (2 ^ L.1) - alN F (2 ^ L.1) (G k)) = grN F (2 ^ L.1) G k from rfl]
    by_cases hk0 : k = 0
    · subst hk0
      have := h0 rfl
      refine ⟨fun _ => hih _ _ _ ⟨1, by omega, i32_s 0, fun h => by omega, fun _ => ⟨rfl, rfl⟩⟩, fun h => absurd this h⟩
    · obtain ⟨rfl, rfl⟩ := h1 (by omega)
      have hle := bsN_le (F := F) (S := 2 ^ L.1) (G := G) (k - 1)
      have g1 := grN_le (F := F) (S := 2 ^ L.1) (G := G) (m := k)
      have g2 := grN_le (F := F) (S := 2 ^ L.1) (G := G) (m := bsN F (2 ^ L.1) G (k - 1))
      have es : bsN F (2 ^ L.1) G k = if grN F (2 ^ L.1) G k < grN F (2 ^ L.1) G (bsN F (2 ^ L.1) G (k - 1)) then k else bsN F (2 ^ L.1) G (k - 1) := by
        obtain ⟨k', rfl⟩ : ∃ k', k = k' + 1 := ⟨k - 1, by omega⟩
        rfl
      refine ⟨fun h => absurd h (i32_nm1 (by omega)), fun _ => ?_⟩
      rw [i32_lt (by omega) (by omega)]
      refine ⟨fun h => hih _ _ _ ⟨k + 1, by omega, i32_s k, fun h => by omega, fun _ => ?_⟩, fun h => hih _ _ _ ⟨k + 1, by omega, i32_s k, fun h => by omega, fun _ => ?_⟩⟩
      · rw [show k + 1 - 1 = k from rfl, es, if_pos h]
        exact ⟨rfl, rfl⟩
      · rw [show k + 1 - 1 = k from rfl, es, if_neg h]
        exact ⟨rfl, rfl⟩
  · have : ¬ k < 64 := fun e => hl ((i32_lt (j := k) (k := 64) (by omega) (by omega)).mpr e)
    obtain rfl : k = 64 := by omega
    rw [(h1 (by omega)).1]
    exact hQ _ eE
theorem z_mk {M' M'' : MM} (e : Eqo fRz M M') (e2 : Eqo fMk M' M'') : Eqo fRz M M'' := eqo_tr e (fps_cons (i := 3) rfl fps_nil) e2
theorem c_next {p : Int32} (h1 : M.1 1 1 = i32 n) (hn : n ≤ 400) (hf : M.1 2 = f) (hb : BOK f n) (hc : CW M 18 (M.1 191) (M.2 196)) (hw : WF (M.1 191)) (hL : LawC M 8 L) (hd : dOK (M.1 191)) : W_E_next p N M (fun y M1 => Eqo fRz M M1 ∧ tpB (M.1 191) f n = true ∧ ∃ c, p = i32 c ∧ c < nC (M.1 191) ∧ alv (M.1 191) c = true ∧ y = nxA (cdB L (M.1 191) f n) (2 ^ L.1) (fun m => fbm L (M.1 191) c (i32 m))) (fun ce M1 => Eqo fRz M M1 ∧ ((ce = 2 ∧ okc M p = false) ∨ (ce = 0 ∧ okc M p = true ∧ tpB (M.1 191) f n = false) ∨ (ce = 1 ∧ tpB (M.1 191) f n = true ∧ ∃ c, p = i32 c ∧ c < nC (M.1 191) ∧ alv (M.1 191) c = false))) := by
  have l12 := hL.2.1
  have hT : 2 ^ L.1 ≤ 4096 := Nat.pow_le_pow_right (n := 2) (by omega) l12
  unfold W_E_next
  have pre : ∀ M', Eqo fRw M M' → (wi M' 1 1 0).1 191 = M.1 191 ∧ (wi M' 1 1 0).2 196 = M.2 196 ∧ CW (wi M' 1 1 0) 18 (M.1 191) (M.2 196) := fun M' eE =>
    ⟨eqb (z_rw eE) (lo := 191) (hi := 191) rfl (Nat.le_refl _) (Nat.le_refl _), eqb2 (z_rw eE) (lo := 196) (hi := 196) rfl (Nat.le_refl _) (Nat.le_refl _), CW_eq hc (z_rw eE) rfl⟩
  refine c_rows h1 hn hf hb hc hw hL hd (fun e M' eE => ?_) (fun e M' eE hR => ?_)
  · obtain ⟨x1, x2, hc'⟩ := pre M' eE
    refine s_cit (M := wi M' 1 1 0) (by rw [x1, x2]; exact hc') (fun hp => ⟨fun _ => ⟨z_rw eE, Or.inr (Or.inl ⟨rfl, ?_, e⟩)⟩, fun h => absurd rfl h⟩) (fun hp => ⟨z_rw eE, Or.inl ⟨rfl, ?_⟩⟩)
    · unfold okc at hp ⊢
      rw [x1] at hp
      exact hp
    · unfold okc at hp ⊢
      rw [x1] at hp
      exact hp
  · obtain ⟨x1, x2, hc'⟩ := pre M' eE
    refine s_cit (M := wi M' 1 1 0) (by rw [x1, x2]; exact hc') (fun hp => ⟨fun h => absurd h (by decide), fun _ => ?_⟩) (fun hp => ⟨z_rw eE, Or.inl ⟨rfl, ?_⟩⟩)
    · obtain ⟨c, rfl, hcn, hc10⟩ := okc_c (M := wi M' 1 1 0) (by rw [x1]; exact hw) hp
      rw [x1] at hcn
      refine s_alive (M := wi M' 1 1 0) (by rw [x1, x2]; exact hc') (by rw [x1]; exact hw) (by rw [x1]; exact hcn) (fun ha => ?_) (fun ha => ⟨z_rw eE, Or.inr (Or.inr ⟨rfl, e, c, rfl, hcn, by rw [x1] at ha; exact ha⟩)⟩)
      rw [x1] at ha
      have hL2 : LawC (wi M' 1 1 0) 8 L := LawC_eq hL (z_rw eE) rfl
      refine c_codes hn hL2 (show RDt L (M.1 191) f (wi M' 1 1 0) (n / 3) from hR) (fun M'' e2 g6 g7 g8 gm => ?_)
      have ez := z_rc (z_rw eE) e2
      have cn := cnF_le (F := cdB L (M.1 191) f n) (2 ^ L.1)
      rw [g6]
      refine ⟨fun h => ⟨ez, e, c, rfl, hcn, ha, ?_⟩, fun h => ?_⟩
      · have : cnF (cdB L (M.1 191) f n) (2 ^ L.1) < 2 := (i32_lt (k := 2) (by omega) (by omega)).mp h
        unfold nxA
        rw [if_pos this]
      · have : ¬ cnF (cdB L (M.1 191) f n) (2 ^ L.1) < 2 := fun q => h ((i32_lt (k := 2) (by omega) (by omega)).mpr q)
        refine c_bspl (CW_eq hc ez rfl) hw (LawC_eq hL ez rfl) hd hcn g6 gm (fun M9 e9 => ⟨z_mk ez e9, e, c, rfl, hcn, ha, ?_⟩)
        unfold nxA
        rw [if_neg this]
    · unfold okc at hp ⊢
      rw [x1] at hp
      exact hp
end NXC
