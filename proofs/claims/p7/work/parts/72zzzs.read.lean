/-! READING: who was watched, the codes that it leaves -/
def bnf (f : BY) (j : Nat) : Nat := (f j).toInt.toNat
def rwB (w : RW) (f : BY) (j : Nat) : Bool := decide (bnf f j < nC w) && (alv w (bnf f j) && (decide (bnf f (j + 1) < 64) && decide (bnf f (j + 2) ≤ 1)))
def alR (w : RW) (f : BY) : Nat → Bool
  | 0 => true
  | k + 1 => alR w f k && rwB w f (3 * k)
def tpB (w : RW) (f : BY) (n : Nat) : Bool := decide (n % 3 = 0) && alR w f (n / 3)
def tkB (f : BY) (i : Nat) : Bool := decide (bnf f (3 * i + 2) = 1)
def fbR (L : LWT) (w : RW) (f : BY) (i : Nat) : Int32 := fbm L w (bnf f (3 * i)) (i32 (bnf f (3 * i + 1)))
def nvB (L : LWT) : Int32 := bs (fun k => decide (L.2.1 k = 0)) L.1
def cdR (L : LWT) (w : RW) (f : BY) (s : Int32) : Nat → Bool
  | 0 => true
  | i + 1 => cdR L w f s i && (decide (fbR L w f i &&& s = 0) != tkB f i)
def cdB (L : LWT) (w : RW) (f : BY) (n s : Nat) : Bool := decide (i32 s &&& (nvB L ^^^ (-1)) = 0) && cdR L w f (i32 s) (n / 3)
def baR (L : LWT) (w : RW) (f : BY) : Nat → Int32
  | 0 => 0
  | i + 1 => if tkB f i = true then baR L w f i else baR L w f i ||| fbR L w f i
def cnF (F : Nat → Bool) : Nat → Nat
  | 0 => 0
  | k + 1 => if F k = true then cnF F k + 1 else cnF F k
def anF (F : Nat → Bool) (x : Int32) : Nat → Int32
  | 0 => x
  | k + 1 => if F k = true then anF F x k &&& i32 k else anF F x k
def orF (F : Nat → Bool) : Nat → Int32
  | 0 => 0
  | k + 1 => if F k = true then orF F k ||| i32 k else orF F k
section RDP
variable {L : LWT} {w : RW} {f : BY} {n : Nat} {F : Nat → Bool}
theorem bnf_e (hb : BOK f n) {j : Nat} (hj : j < n) : f j = i32 (bnf f j) := i32_of (by have := (hb j hj).1; unfold bnf; omega)
theorem bnf_l (hb : BOK f n) {j : Nat} (hj : j < n) : bnf f j < 256 := by
  have := hb j hj
  unfold bnf
  omega
theorem sb_lo (hb : BOK f n) {j : Nat} (hj : j < n) (h : bnf f j < 128) : (f j).toInt8.toInt32 = i32 (bnf f j) := by
  have h1 := hb j hj
  refine i32_of ?_
  rw [sg_i h1]
  unfold bnf at h ⊢
  rw [if_pos (by omega)]
  omega
theorem sb_hi (hb : BOK f n) {j : Nat} (hj : j < n) (h : ¬ bnf f j < 128) : (f j).toInt8.toInt32.toInt < 0 := by
  have h1 := hb j hj
  rw [sg_i h1]
  unfold bnf at h
  rw [if_neg (by omega)]
  omega
theorem alR_i : ∀ k, alR w f k = true ↔ ∀ i, i < k → rwB w f (3 * i) = true
  | 0 => ⟨fun _ i hi => by omega, fun _ => rfl⟩
  | k + 1 => by
    unfold alR
    rw [Bool.and_eq_true, alR_i k]
    refine ⟨fun ⟨h1, h2⟩ i hi => ?_, fun h => ⟨fun i hi => h i (by omega), h k (by omega)⟩⟩
    by_cases e : i = k
    · rw [e]; exact h2
    · exact h1 i (by omega)
theorem rwB_i {j : Nat} : rwB w f j = true ↔ bnf f j < nC w ∧ alv w (bnf f j) = true ∧ bnf f (j + 1) < 64 ∧ bnf f (j + 2) ≤ 1 := by
  unfold rwB
  rw [Bool.and_eq_true, Bool.and_eq_true, Bool.and_eq_true, decide_eq_true_eq, decide_eq_true_eq, decide_eq_true_eq]
theorem rwB_n {j : Nat} (h : ¬ (bnf f j < nC w ∧ alv w (bnf f j) = true ∧ bnf f (j + 1) < 64 ∧ bnf f (j + 2) ≤ 1)) : rwB w f j = false := by
  cases e : rwB w f j with
  | false => rfl
  | true => exact absurd (rwB_i.mp e) h
theorem bne_i {x : Int32} {t : Bool} : ((decide (x = 0) != t) = true) ↔ (x = 0 ↔ t = false) := by
  by_cases h : x = 0
  · cases t <;> simp [h]
  · cases t <;> simp [h]
theorem cdR_i {s : Int32} : ∀ r, cdR L w f s r = true ↔ ∀ i, i < r → (fbR L w f i &&& s = 0 ↔ tkB f i = false)
  | 0 => ⟨fun _ i hi => by omega, fun _ => rfl⟩
  | k + 1 => by
    unfold cdR
    rw [Bool.and_eq_true, cdR_i k, bne_i]
    refine ⟨fun ⟨h1, h2⟩ i hi => ?_, fun h => ⟨fun i hi => h i (by omega), h k (by omega)⟩⟩
    by_cases e : i = k
    · rw [e]; exact h2
    · exact h1 i (by omega)
theorem tb_z {x : Int32} : x = 0 ↔ ∀ k, k < 32 → tb x k = false := by
  constructor
  · rintro rfl k _
    exact tb_0 k
  · intro h
    apply tb_ext
    intro k hk
    rw [h k hk, tb_0]
theorem ao_z {s a b : Int32} : s &&& (a ||| b) = 0 ↔ s &&& a = 0 ∧ b &&& s = 0 := by
  rw [tb_z, tb_z, tb_z]
  constructor
  · intro h
    refine ⟨fun k hk => ?_, fun k hk => ?_⟩
    · have := h k hk
      rw [tb_and, tb_or] at this
      rw [tb_and]
      cases e : tb s k <;> cases e2 : tb a k <;> simp_all
    · have := h k hk
      rw [tb_and, tb_or] at this
      rw [tb_and]
      cases e : tb s k <;> cases e2 : tb b k <;> simp_all
  · rintro ⟨h1, h2⟩ k hk
    have a1 := h1 k hk
    have a2 := h2 k hk
    rw [tb_and] at a1 a2
    rw [tb_and, tb_or]
    cases e : tb s k <;> simp_all
theorem cut_z {s a b : Int32} : s &&& ((a &&& (b ^^^ (-1))) ^^^ (-1)) = 0 ↔ s &&& (a ^^^ (-1)) = 0 ∧ s &&& b = 0 := by
  rw [tb_z, tb_z, tb_z]
  constructor
  · intro h
    refine ⟨fun k hk => ?_, fun k hk => ?_⟩
    · have := h k hk
      rw [tb_and, tb_not hk, tb_and, tb_not hk] at this
      rw [tb_and, tb_not hk]
      cases e : tb s k <;> cases e2 : tb a k <;> simp_all
    · have := h k hk
      rw [tb_and, tb_not hk, tb_and, tb_not hk] at this
      rw [tb_and]
      cases e : tb s k <;> cases e2 : tb b k <;> simp_all
  · rintro ⟨h1, h2⟩ k hk
    have a1 := h1 k hk
    have a2 := h2 k hk
    rw [tb_and, tb_not hk] at a1
    rw [tb_and] at a2
    rw [tb_and, tb_not hk, tb_and, tb_not hk]
    cases e : tb s k <;> simp_all
theorem baR_i {s : Int32} : ∀ r, s &&& baR L w f r = 0 ↔ ∀ i, i < r → tkB f i = false → fbR L w f i &&& s = 0
  | 0 => ⟨fun _ i hi => by omega, fun _ => by unfold baR; rw [tb_z]; intro k hk; rw [tb_and, tb_0, Bool.and_false]⟩
  | k + 1 => by
    unfold baR
    by_cases ht : tkB f k = true
    · rw [if_pos ht, baR_i k]
      refine ⟨fun h i hi h0 => ?_, fun h i hi => h i (by omega)⟩
      by_cases e : i = k
      · rw [e, ht] at h0; cases h0
      · exact h i (by omega) h0
    · rw [if_neg ht, ao_z, baR_i k]
      refine ⟨fun ⟨h1, h2⟩ i hi h0 => ?_, fun h => ⟨fun i hi => h i (by omega), h k (by omega) (Bool.eq_false_iff.mpr ht)⟩⟩
      by_cases e : i = k
      · rw [e]; exact h2
      · exact h1 i (by omega) h0
theorem fit_i {r : Nat} {s : Int32} : (s &&& ((nvB L &&& (baR L w f r ^^^ (-1))) ^^^ (-1)) = 0 ∧ ∀ i, i < r → tkB f i = true → ¬ fbR L w f i &&& s = 0) ↔ (s &&& (nvB L ^^^ (-1)) = 0 ∧ cdR L w f s r = true) := by
  rw [cut_z, baR_i, cdR_i]
  constructor
  · rintro ⟨⟨h1, h2⟩, h3⟩
    refine ⟨h1, fun i hi => ⟨fun e => ?_, h2 i hi⟩⟩
    cases ht : tkB f i with
    | false => rfl
    | true => exact absurd e (h3 i hi ht)
  · rintro ⟨h1, h2⟩
    refine ⟨⟨h1, fun i hi h0 => (h2 i hi).mpr h0⟩, fun i hi h0 e => ?_⟩
    have := (h2 i hi).mp e
    rw [h0] at this
    cases this
theorem cdB_i {s : Nat} : cdB L w f n s = true ↔ (i32 s &&& (nvB L ^^^ (-1)) = 0 ∧ cdR L w f (i32 s) (n / 3) = true) := by
  unfold cdB
  rw [Bool.and_eq_true, decide_eq_true_eq]
theorem fbm_nv {c : Nat} {m : Int32} (h12 : L.1 ≤ 12) : (fbm L w c m &&& nvB L) = fbm L w c m := by
  apply tb_ext
  intro k hk
  unfold fbm nvB
  rw [tb_and, tb_bs _ _ (by omega) _ hk, tb_bs _ _ (by omega) _ hk]
  unfold bear
  by_cases e : k < L.1
  · by_cases d : L.2.1 k = 0
    · simp [e, d]
    · simp [e, d]
  · simp [e]
theorem cnF_le : ∀ k, cnF F k ≤ k
  | 0 => Nat.le_refl _
  | k + 1 => by
    have := cnF_le k
    unfold cnF
    by_cases e : F k = true
    · rw [if_pos e]; omega
    · rw [if_neg e]; omega
theorem orF_0 : ∀ k, cnF F k = 0 → orF F k = 0
  | 0, _ => rfl
  | k + 1, h => by
    unfold cnF at h
    unfold orF
    by_cases e : F k = true
    · rw [if_pos e] at h; omega
    · rw [if_neg e] at h ⊢
      exact orF_0 k h
theorem anF_x {x : Int32} : ∀ k, anF F x k = (x &&& anF F (-1) k)
  | 0 => by
    show x = (x &&& (-1))
    apply tb_ext
    intro j hj
    rw [tb_and, show (-1 : Int32) = 0 ^^^ (-1) from by decide, tb_not hj, tb_0]
    simp
  | k + 1 => by
    unfold anF
    by_cases e : F k = true
    · rw [if_pos e, if_pos e, anF_x k]
      apply tb_ext
      intro j hj
      rw [tb_and, tb_and, tb_and, tb_and, Bool.and_assoc]
    · rw [if_neg e, if_neg e, anF_x k]
theorem anF_b {l : Nat} (hl : l ≤ 12) : ∀ k, k ≤ 2 ^ l → 0 < cnF F k → ∀ j, j < 32 → tb (anF F (-1) k) j = true → j < l
  | 0, _, h, _, _, _ => by unfold cnF at h; omega
  | k + 1, hk, h, j, hj, ht => by
    unfold anF at ht
    unfold cnF at h
    by_cases e : F k = true
    · rw [if_pos e, tb_and, Bool.and_eq_true, tb_ix hj] at ht
      by_cases hjl : j < l
      · exact hjl
      · rw [Nat.testBit_lt_two_pow (show k < 2 ^ j from Nat.lt_of_lt_of_le hk (Nat.pow_le_pow_right (by omega) (by omega)))] at ht
        cases ht.2
    · rw [if_neg e] at ht h
      exact anF_b hl k (by omega) h j hj ht
theorem anF_s {l : Nat} (hl : l ≤ 12) (h : 0 < cnF F (2 ^ l)) : anF F (i32 (2 ^ l) - 1) (2 ^ l) = anF F (-1) (2 ^ l) := by
  have hp : 0 < 2 ^ l := Nat.pow_pos (by omega)
  have hT : 2 ^ l ≤ 4096 := Nat.pow_le_pow_right (n := 2) (by omega) hl
  rw [anF_x (x := i32 (2 ^ l) - 1), i32_m1 hp]
  apply tb_ext
  intro j hj
  rw [tb_and, tb_ix hj, Nat.testBit_two_pow_sub_one]
  cases e : tb (anF F (-1) (2 ^ l)) j with
  | false => rw [Bool.and_false]
  | true => rw [decide_eq_true (anF_b hl _ (Nat.le_refl _) h j hj e), Bool.and_true]
/-- what READ answers -/
def rdA (F : Nat → Bool) (S : Nat) (p : Int32) : Int32 := if p = 0 then i32 (cnF F S) else if cnF F S = 0 then 0 else if p = 1 then anF F (-1) S else orF F S
end RDP
