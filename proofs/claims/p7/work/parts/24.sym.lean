section
/-! THE CHECKER, its values: an int is so many times a symbol and a number more; a cell; a long; the script; some reference. Symbols have values (RN: which, and how many symbols there are) -/
abbrev XI : Type := Int × Nat × Int
abbrev XV : Type := XI ⊕ (Nat ⊕ Nat)
abbrev RN : Type := (Nat → Int) × Nat
def xi_z (r : RN) (i : XI) : Int := i.1 * r.1 i.2.1 + i.2.2
def xi_g (r : RN) (i : XI) (x : Int32) : Prop := i.2.1 < r.2 ∧ x.toInt = xi_z r i
def xv_g (r : RN) (a : XV) (v : AV) : Prop := match a with
  | .inl i => ∃ x : Int32, v = .inl (.inl x) ∧ xi_g r i x
  | .inr (.inl k) => v = .inr (.inl (some k))
  | .inr (.inr 0) => ∃ y : Int64, v = .inr (.inr (.inl (some y)))
  | .inr (.inr 1) => v = .inr (.inr (.inr (.inl true)))
  | .inr (.inr 2) => v = .inr (.inr (.inr (.inl false)))
  | .inr (.inr (q + 3)) => v = .inr (.inr (.inr (.inr q)))
def rn_le (r r' : RN) : Prop := r.2 ≤ r'.2 ∧ ∀ i, i < r.2 → r'.1 i = r.1 i
theorem rn_le_rf (r : RN) : rn_le r r := ⟨Nat.le_refl _, fun _ _ => rfl⟩
theorem rn_le_tr {a b c : RN} (h1 : rn_le a b) (h2 : rn_le b c) : rn_le a c := ⟨Nat.le_trans h1.1 h2.1, fun i hi => (h2.2 i (Nat.lt_of_lt_of_le hi h1.1)).trans (h1.2 i hi)⟩
theorem xi_g_mono {r r' : RN} (h : rn_le r r') {i : XI} {x : Int32} (hx : xi_g r i x) : xi_g r' i x := by
  refine ⟨Nat.lt_of_lt_of_le hx.1 h.1, ?_⟩
  rw [hx.2, xi_z, xi_z, h.2 _ hx.1]
theorem xv_g_mono {r r' : RN} (h : rn_le r r') {a : XV} {v : AV} (hv : xv_g r a v) : xv_g r' a v := by
  match a, hv with
  | .inl i, ⟨x, e, hx⟩ => exact ⟨x, e, xi_g_mono h hx⟩
  | .inr (.inl k), e => exact e
  | .inr (.inr 0), e => exact e
  | .inr (.inr 1), e => exact e
  | .inr (.inr 2), e => exact e
  | .inr (.inr (_ + 3)), e => exact e
def xv_cat (a : XV) : Nat := match a with
  | .inr (.inr 0) => 2
  | _ => 1
theorem xv_g_cat {r : RN} {a : XV} {v : AV} (h : xv_g r a v) : ea_cat v = xv_cat a := by
  match a, h with
  | .inl i, ⟨x, e, hx⟩ => rw [e]; rfl
  | .inr (.inl k), e => rw [show v = _ from e]; rfl
  | .inr (.inr 0), ⟨y, e⟩ => rw [e]; rfl
  | .inr (.inr 1), e => rw [show v = _ from e]; rfl
  | .inr (.inr 2), e => rw [show v = _ from e]; rfl
  | .inr (.inr (_ + 3)), e => rw [show v = _ from e]; rfl
/-- what is known: how many symbols; bounds of symbols; differences of symbols; elements of arrays; fields -/
abbrev XE : Type := Nat × List (Nat × Int × Int) × List (Nat × Nat × Int) × List (Nat × XI × XI) × List (Nat × Nat × XI)
def xe_g (r : RN) (e : XE) : Prop := 0 < r.2 ∧ r.2 = e.1 ∧ (∀ q ∈ e.2.1, q.1 < r.2 ∧ q.2.1 ≤ r.1 q.1 ∧ r.1 q.1 ≤ q.2.2) ∧ (∀ q ∈ e.2.2.1, q.1 < r.2 ∧ q.2.1 < r.2 ∧ r.1 q.1 - r.1 q.2.1 ≤ q.2.2)
def xe_k (E : List (Nat × Int × Int)) (i : Nat) : Option (Int × Int) := match E with
  | [] => none
  | q :: t => bif Nat.beq q.1 i then some q.2 else xe_k t i
theorem xe_k_mem : ∀ {E : List (Nat × Int × Int)} {i : Nat} {q : Int × Int}, xe_k E i = some q → (i, q) ∈ E
  | [], i, q, h => by cases h
  | p :: t, i, q, h => by
    unfold xe_k at h
    cases hb : Nat.beq p.1 i with
    | true =>
      rw [hb] at h
      cases h
      have e : p.1 = i := Nat.eq_of_beq_eq_true hb
      subst e
      exact List.mem_cons_self
    | false =>
      rw [hb] at h
      exact List.mem_cons_of_mem _ (xe_k_mem h)
/-- bounds of an int -/
def xi_bo (E : List (Nat × Int × Int)) (i : XI) : Option (Int × Int) := if i.1 = 0 then some (i.2.2, i.2.2) else match xe_k E i.2.1 with
  | some q => if 0 ≤ i.1 then some (i.1 * q.1 + i.2.2, i.1 * q.2 + i.2.2) else some (i.1 * q.2 + i.2.2, i.1 * q.1 + i.2.2)
  | none => none
def xi_b (E : List (Nat × Int × Int)) (i : XI) : Int × Int := match xi_bo E i with
  | some q => q
  | none => (-2147483648, 2147483647)
theorem xi_bo_ok {r : RN} {e : XE} (he : xe_g r e) {i : XI} {q : Int × Int} (h : xi_bo e.2.1 i = some q) : q.1 ≤ xi_z r i ∧ xi_z r i ≤ q.2 := by
  unfold xi_bo at h
  split at h
  · rename_i h0
    cases h
    unfold xi_z
    rw [h0]
    constructor <;> simp
  · split at h
    · rename_i p hp
      obtain ⟨-, h1, h2⟩ := he.2.2.1 _ (xe_k_mem hp)
      dsimp only at h1 h2
      unfold xi_z
      split at h
      · rename_i hn
        cases h
        have a1 := Int.mul_le_mul_of_nonneg_left h1 hn
        have a2 := Int.mul_le_mul_of_nonneg_left h2 hn
        dsimp only
        omega
      · rename_i hn
        cases h
        have hn' : 0 ≤ -i.1 := by omega
        have a1 := Int.mul_le_mul_of_nonneg_left h1 hn'
        have a2 := Int.mul_le_mul_of_nonneg_left h2 hn'
        rw [Int.neg_mul, Int.neg_mul] at a1 a2
        dsimp only
        omega
    · cases h
theorem xi_b_ok {r : RN} {e : XE} (he : xe_g r e) {i : XI} {x : Int32} (hx : xi_g r i x) : (xi_b e.2.1 i).1 ≤ x.toInt ∧ x.toInt ≤ (xi_b e.2.1 i).2 := by
  unfold xi_b
  cases hb : xi_bo e.2.1 i with
  | none => exact ⟨Int32.le_toInt x, Int.le_of_lt_add_one (Int32.toInt_lt x)⟩
  | some q => rw [hx.2]; exact xi_bo_ok he hb
/-- what an operation gives: an int, and what is known then -/
def xo_ok (r : RN) (e : XE) (p : XI × XE) (x : Int32) : Prop := ∃ r', rn_le r r' ∧ xe_g r' p.2 ∧ xi_g r' p.1 x ∧ p.2.2.2.2 = e.2.2.2
theorem xo_const {r : RN} {e : XE} (he : xe_g r e) {z : Int} {x : Int32} (h : x.toInt = z) : xo_ok r e ((0, 0, z), e) x := ⟨r, rn_le_rf r, he, ⟨he.1, by rw [h]; simp [xi_z]⟩, rfl⟩
def xo_new (e : XE) (lo hi : Int) : XI × XE := if lo = hi then ((0, 0, lo), e) else ((1, e.1, 0), (e.1 + 1, (e.1, lo, hi) :: e.2.1, e.2.2))
def rn_put (r : RN) (z : Int) : RN := (fun i => if i = r.2 then z else r.1 i, r.2 + 1)
theorem rn_put_le (r : RN) (z : Int) : rn_le r (rn_put r z) := ⟨Nat.le_succ _, fun i hi => by
  show (if i = r.2 then z else r.1 i) = _
  rw [if_neg (by omega)]⟩
theorem rn_put_at (r : RN) (z : Int) : (rn_put r z).1 r.2 = z := if_pos rfl
theorem xe_g_put {r : RN} {e : XE} (he : xe_g r e) {lo hi z : Int} (h1 : lo ≤ z) (h2 : z ≤ hi) : xe_g (rn_put r z) (e.1 + 1, (e.1, lo, hi) :: e.2.1, e.2.2) := by
  obtain ⟨g1, g2, g3, g4⟩ := he
  have hp := rn_put_le r z
  refine ⟨Nat.succ_pos _, by rw [← g2]; rfl, fun q hq => ?_, fun q hq => ?_⟩
  · rcases List.mem_cons.mp hq with rfl | hq
    · rw [← g2]
      refine ⟨Nat.lt_succ_self _, ?_⟩
      dsimp only
      rw [rn_put_at]
      exact ⟨h1, h2⟩
    · obtain ⟨a, b, c⟩ := g3 q hq
      refine ⟨Nat.lt_of_lt_of_le a hp.1, ?_⟩
      rw [hp.2 _ a]
      exact ⟨b, c⟩
  · obtain ⟨a, b, c⟩ := g4 q hq
    refine ⟨Nat.lt_of_lt_of_le a hp.1, Nat.lt_of_lt_of_le b hp.1, ?_⟩
    rw [hp.2 _ a, hp.2 _ b]
    exact c
theorem xo_new_ok {r : RN} {e : XE} (he : xe_g r e) {lo hi : Int} {x : Int32} (h1 : lo ≤ x.toInt) (h2 : x.toInt ≤ hi) : xo_ok r e (xo_new e lo hi) x := by
  unfold xo_new
  split
  · exact xo_const he (by omega)
  · refine ⟨rn_put r x.toInt, rn_put_le _ _, xe_g_put he h1 h2, ⟨?_, ?_⟩, rfl⟩
    · rw [← he.2.1]; exact Nat.lt_succ_self _
    · show x.toInt = 1 * (rn_put r x.toInt).1 e.1 + 0
      rw [← he.2.1, rn_put_at]
      omega
/-- an int that may fit -/
def xo_fit (e : XE) (c : XI) (d : XI × XE) : XI × XE := match xi_bo e.2.1 c with
  | some b => if -2147483648 ≤ b.1 ∧ b.2 ≤ 2147483647 then (c, e) else d
  | none => d
theorem xo_fit_ok {r : RN} {e : XE} (he : xe_g r e) {c : XI} {d : XI × XE} {x : Int32} (hc : c.2.1 < r.2) (hx : x.toInt = (xi_z r c).bmod (2 ^ 32)) (hd : xo_ok r e d x) : xo_ok r e (xo_fit e c d) x := by
  unfold xo_fit
  split
  · rename_i b hb
    split
    · rename_i hf
      have h := xi_bo_ok he hb
      refine ⟨r, rn_le_rf r, he, ⟨hc, ?_⟩, rfl⟩
      rw [hx]
      exact iv_bm (by omega) (by omega)
    · exact hd
  · exact hd
def xo_ai (e : XE) (i : XI) : AI := ea_mk (xi_b e.2.1 i).1 (xi_b e.2.1 i).2
theorem xo_ai_ok {r : RN} {e : XE} (he : xe_g r e) {i : XI} {x : Int32} (hx : xi_g r i x) : ea_gi (xo_ai e i) x := ea_mk_ok (xi_b_ok he hx).1 (xi_b_ok he hx).2
def xo_of (e : XE) (a : AI) : XI × XE := match a with
  | .inl x => ((0, 0, x.toInt), e)
  | .inr q => xo_new e q.1 q.2
theorem xo_of_ok {r : RN} {e : XE} (he : xe_g r e) {a : AI} {x : Int32} (h : ea_gi a x) : xo_ok r e (xo_of e a) x := by
  match a, h with
  | .inl y, h => exact xo_const he (by rw [show x = y from h])
  | .inr q, h => exact xo_new_ok he h.1 h.2
def xo_2 (f : Int32 → Int32 → Int32) (g : AI → AI → AI) (e : XE) (i j : XI) : XI × XE := xo_of e (iv_2 f g (xo_ai e i) (xo_ai e j))
theorem xo_2_ok {f : Int32 → Int32 → Int32} {g : AI → AI → AI} (hg : ∀ i j x y, ea_gi i x → ea_gi j y → ea_gi (g i j) (f x y)) {r : RN} {e : XE} (he : xe_g r e) {i j : XI} {x y : Int32} (hx : xi_g r i x) (hy : xi_g r j y) : xo_ok r e (xo_2 f g e i j) (f x y) := xo_of_ok he (iv_2_ok hg (xo_ai_ok he hx) (xo_ai_ok he hy))
/-- sums -/
def xo_ca (i j : XI) : Option XI := if i.1 = 0 then some (j.1, j.2.1, j.2.2 + i.2.2) else if j.1 = 0 then some (i.1, i.2.1, i.2.2 + j.2.2) else if i.2.1 = j.2.1 then some (i.1 + j.1, i.2.1, i.2.2 + j.2.2) else none
theorem xo_ca_ok {r : RN} {i j c : XI} (h : xo_ca i j = some c) (hi : i.2.1 < r.2) (hj : j.2.1 < r.2) : c.2.1 < r.2 ∧ xi_z r c = xi_z r i + xi_z r j := by
  unfold xo_ca at h
  unfold xi_z
  split at h
  · rename_i h0
    cases h
    refine ⟨hj, ?_⟩
    rw [h0]
    dsimp only
    omega
  · split at h
    · rename_i h0
      cases h
      refine ⟨hi, ?_⟩
      rw [h0]
      dsimp only
      omega
    · split at h
      · rename_i hs
        cases h
        refine ⟨hi, ?_⟩
        dsimp only
        rw [Int.add_mul, ← hs]
        omega
      · cases h
def xo_add (e : XE) (i j : XI) : XI × XE := match xo_ca i j with
  | some c => xo_fit e c (xo_2 (fun x y => x + y) iv_addg e i j)
  | none => xo_2 (fun x y => x + y) iv_addg e i j
theorem xo_add_ok {r : RN} {e : XE} (he : xe_g r e) {i j : XI} {x y : Int32} (hx : xi_g r i x) (hy : xi_g r j y) : xo_ok r e (xo_add e i j) (x + y) := by
  have hd : xo_ok r e (xo_2 (fun x y => x + y) iv_addg e i j) (x + y) := xo_2_ok iv_addg_ok he hx hy
  unfold xo_add
  split
  · rename_i c hc
    obtain ⟨h1, h2⟩ := xo_ca_ok hc hx.1 hy.1
    refine xo_fit_ok he h1 ?_ hd
    rw [h2, ← hx.2, ← hy.2]
    exact Int32.toInt_add x y
  · exact hd
/-- differences -/
def xe_d (D : List (Nat × Nat × Int)) (a b : Nat) : Option Int := match D with
  | [] => none
  | q :: t => bif Nat.beq q.1 a && Nat.beq q.2.1 b then some q.2.2 else xe_d t a b
theorem xe_d_mem : ∀ {D : List (Nat × Nat × Int)} {a b : Nat} {k : Int}, xe_d D a b = some k → (a, b, k) ∈ D
  | [], a, b, k, h => by cases h
  | q :: t, a, b, k, h => by
    unfold xe_d at h
    cases hb : (Nat.beq q.1 a && Nat.beq q.2.1 b) with
    | true =>
      rw [hb] at h
      cases h
      simp only [Bool.and_eq_true] at hb
      have e1 : q.1 = a := Nat.eq_of_beq_eq_true hb.1
      have e2 : q.2.1 = b := Nat.eq_of_beq_eq_true hb.2
      subst e1
      subst e2
      exact List.mem_cons_self
    | false =>
      rw [hb] at h
      exact List.mem_cons_of_mem _ (xe_d_mem h)
/-- at most so much is i above j -/
def xi_du (e : XE) (i j : XI) : Int :=
  let u := (xi_b e.2.1 i).2 - (xi_b e.2.1 j).1
  if i.2.1 = j.2.1 then (match xi_bo e.2.1 (i.1 - j.1, i.2.1, i.2.2 - j.2.2) with
    | some b => b.2
    | none => u)
  else if i.1 = 1 ∧ j.1 = 1 then (match xe_d e.2.2.1 i.2.1 j.2.1 with
    | some k => min u (k + i.2.2 - j.2.2)
    | none => u) else u
theorem xi_du_ok {r : RN} {e : XE} (he : xe_g r e) {i j : XI} {x y : Int32} (hx : xi_g r i x) (hy : xi_g r j y) : x.toInt - y.toInt ≤ xi_du e i j := by
  have a := xi_b_ok he hx
  have b := xi_b_ok he hy
  unfold xi_du
  dsimp only
  split
  · rename_i hs
    split
    · rename_i q hq
      have h := (xi_bo_ok he hq).2
      have z : xi_z r (i.1 - j.1, i.2.1, i.2.2 - j.2.2) = xi_z r i - xi_z r j := by
        unfold xi_z
        dsimp only
        rw [Int.sub_mul, ← hs]
        omega
      rw [z, ← hx.2, ← hy.2] at h
      exact h
    · omega
  · split
    · rename_i h1
      have zx := hx.2
      have zy := hy.2
      unfold xi_z at zx zy
      rw [h1.1] at zx
      rw [h1.2] at zy
      split
      · rename_i k hk
        obtain ⟨-, -, hd⟩ := he.2.2.2 _ (xe_d_mem hk)
        dsimp only at hd
        omega
      · omega
    · omega
def xo_cs (i j : XI) : Option XI := if j.1 = 0 then some (i.1, i.2.1, i.2.2 - j.2.2) else if i.1 = 0 then some (-j.1, j.2.1, i.2.2 - j.2.2) else if i.2.1 = j.2.1 then some (i.1 - j.1, i.2.1, i.2.2 - j.2.2) else none
theorem xo_cs_ok {r : RN} {i j c : XI} (h : xo_cs i j = some c) (hi : i.2.1 < r.2) (hj : j.2.1 < r.2) : c.2.1 < r.2 ∧ xi_z r c = xi_z r i - xi_z r j := by
  unfold xo_cs at h
  unfold xi_z
  split at h
  · rename_i h0
    cases h
    refine ⟨hi, ?_⟩
    rw [h0]
    dsimp only
    omega
  · split at h
    · rename_i h0
      cases h
      refine ⟨hj, ?_⟩
      rw [h0]
      dsimp only
      rw [Int.neg_mul]
      omega
    · split at h
      · rename_i hs
        cases h
        refine ⟨hi, ?_⟩
        dsimp only
        rw [Int.sub_mul, ← hs]
        omega
      · cases h
def xo_sd (e : XE) (i j : XI) : XI × XE :=
  let hi := xi_du e i j
  let lo := - xi_du e j i
  if -2147483648 ≤ lo ∧ hi ≤ 2147483647 then xo_new e lo hi else xo_2 (fun x y => x - y) iv_subg e i j
def xo_sub (e : XE) (i j : XI) : XI × XE := match xo_cs i j with
  | some c => xo_fit e c (xo_2 (fun x y => x - y) iv_subg e i j)
  | none => xo_sd e i j
theorem xo_sub_ok {r : RN} {e : XE} (he : xe_g r e) {i j : XI} {x y : Int32} (hx : xi_g r i x) (hy : xi_g r j y) : xo_ok r e (xo_sub e i j) (x - y) := by
  have hd : xo_ok r e (xo_2 (fun x y => x - y) iv_subg e i j) (x - y) := xo_2_ok iv_subg_ok he hx hy
  unfold xo_sub
  split
  · rename_i c hc
    obtain ⟨h1, h2⟩ := xo_cs_ok hc hx.1 hy.1
    refine xo_fit_ok he h1 ?_ hd
    rw [h2, ← hx.2, ← hy.2]
    exact Int32.toInt_sub x y
  · unfold xo_sd
    dsimp only
    split
    · rename_i hf
      have a := xi_du_ok he hx hy
      have b := xi_du_ok he hy hx
      have hz : (x - y).toInt = x.toInt - y.toInt := by
        rw [Int32.toInt_sub]
        exact iv_bm (by omega) (by omega)
      exact xo_new_ok he (by omega) (by omega)
    · exact hd
/-- products -/
def xo_cm (i j : XI) : Option XI := if i.1 = 0 then some (i.2.2 * j.1, j.2.1, i.2.2 * j.2.2) else if j.1 = 0 then some (j.2.2 * i.1, i.2.1, j.2.2 * i.2.2) else none
theorem xo_cm_ok {r : RN} {i j c : XI} (h : xo_cm i j = some c) (hi : i.2.1 < r.2) (hj : j.2.1 < r.2) : c.2.1 < r.2 ∧ xi_z r c = xi_z r i * xi_z r j := by
  unfold xo_cm at h
  unfold xi_z
  split at h
  · rename_i h0
    cases h
    refine ⟨hj, ?_⟩
    rw [h0]
    dsimp only
    rw [Int.zero_mul, Int.zero_add, Int.mul_add, Int.mul_assoc]
  · split at h
    · rename_i h0
      cases h
      refine ⟨hi, ?_⟩
      rw [h0]
      dsimp only
      rw [Int.zero_mul, Int.zero_add, Int.mul_comm _ j.2.2, Int.mul_add, Int.mul_assoc]
    · cases h
def xo_mul (e : XE) (i j : XI) : XI × XE := match xo_cm i j with
  | some c => xo_fit e c (xo_2 (fun x y => x * y) iv_mulg e i j)
  | none => xo_2 (fun x y => x * y) iv_mulg e i j
theorem xo_mul_ok {r : RN} {e : XE} (he : xe_g r e) {i j : XI} {x y : Int32} (hx : xi_g r i x) (hy : xi_g r j y) : xo_ok r e (xo_mul e i j) (x * y) := by
  have hd : xo_ok r e (xo_2 (fun x y => x * y) iv_mulg e i j) (x * y) := xo_2_ok iv_mulg_ok he hx hy
  unfold xo_mul
  split
  · rename_i c hc
    obtain ⟨h1, h2⟩ := xo_cm_ok hc hx.1 hy.1
    refine xo_fit_ok he h1 ?_ hd
    rw [h2, ← hx.2, ← hy.2]
    exact Int32.toInt_mul x y
  · exact hd
def xo_neg (e : XE) (i : XI) : XI × XE := xo_fit e (-i.1, i.2.1, -i.2.2) (xo_new e (-2147483648) 2147483647)
theorem xo_any {r : RN} {e : XE} (he : xe_g r e) (x : Int32) : xo_ok r e (xo_new e (-2147483648) 2147483647) x := xo_new_ok he (Int32.le_toInt x) (Int.le_of_lt_add_one (Int32.toInt_lt x))
theorem xo_neg_ok {r : RN} {e : XE} (he : xe_g r e) {i : XI} {x : Int32} (hx : xi_g r i x) : xo_ok r e (xo_neg e i) (-x) := by
  refine xo_fit_ok he hx.1 ?_ (xo_any he _)
  have : xi_z r (-i.1, i.2.1, -i.2.2) = - xi_z r i := by
    unfold xi_z
    dsimp only
    rw [Int.neg_mul]
    omega
  rw [this, ← hx.2]
  exact Int32.toInt_neg x
/-- twice -/
theorem shl1 (x : Int32) : x <<< ((1 : Int32) &&& 31) = x * 2 := by
  apply Int32.toBitVec_inj.mp
  rw [Int32.toBitVec_shiftLeft, Int32.toBitVec_mul]
  rw [show ((1 : Int32) &&& 31).toBitVec.smod 32 = 1#32 from by decide]
  rw [BitVec.shiftLeft_eq', show (1#32).toNat = 1 from rfl, BitVec.shiftLeft_eq_mul_twoPow]
  rfl
def xo_shl (e : XE) (i j : XI) : XI × XE := if j.1 = 0 ∧ j.2.2 = 1 then xo_mul e i (0, 0, 2) else xo_2 (fun x y => x <<< (y &&& 31)) iv_shlg e i j
theorem xo_shl_ok {r : RN} {e : XE} (he : xe_g r e) {i j : XI} {x y : Int32} (hx : xi_g r i x) (hy : xi_g r j y) : xo_ok r e (xo_shl e i j) (x <<< (y &&& 31)) := by
  unfold xo_shl
  split
  · rename_i h
    have y1 : y = 1 := by
      apply Int32.toInt_inj.mp
      rw [hy.2, xi_z, h.1, h.2]
      show 0 * _ + 1 = (1 : Int)
      omega
    subst y1
    rw [shl1]
    refine xo_mul_ok he hx ⟨he.1, ?_⟩
    rw [xi_z]
    show (2 : Int32).toInt = 0 * _ + 2
    rw [Int.zero_mul]
    rfl
  · exact xo_2_ok iv_shlg_ok he hx hy
end
section
/-! THE CHECKER, what a branch tells -/
def xr_hi (e : XE) (i : XI) (h : Int) : XE := if i.1 = 1 then match xe_k e.2.1 i.2.1 with
  | some q => if h - i.2.2 < q.2 then (e.1, (i.2.1, q.1, h - i.2.2) :: e.2.1, e.2.2) else e
  | none => e
  else e
def xr_lo (e : XE) (i : XI) (l : Int) : XE := if i.1 = 1 then match xe_k e.2.1 i.2.1 with
  | some q => if q.1 < l - i.2.2 then (e.1, (i.2.1, l - i.2.2, q.2) :: e.2.1, e.2.2) else e
  | none => e
  else e
def xr_d (e : XE) (i j : XI) (k : Int) : XE := if i.1 = 1 ∧ j.1 = 1 ∧ i.2.1 ≠ j.2.1 then (e.1, e.2.1, (i.2.1, j.2.1, k + j.2.2 - i.2.2) :: e.2.2.1, e.2.2.2) else e
theorem xr_hi_ok {r : RN} {e : XE} (he : xe_g r e) {i : XI} {x : Int32} (hx : xi_g r i x) {h : Int} (hh : x.toInt ≤ h) : xe_g r (xr_hi e i h) ∧ (xr_hi e i h).2.2 = e.2.2 := by
  unfold xr_hi
  split
  · rename_i h1
    split
    · rename_i q hq
      split
      · obtain ⟨g1, g2, g3, g4⟩ := he
        refine ⟨⟨g1, g2, fun p hp => ?_, g4⟩, rfl⟩
        rcases List.mem_cons.mp hp with rfl | hp
        · obtain ⟨a, b, c⟩ := g3 _ (xe_k_mem hq)
          have z := hx.2
          unfold xi_z at z
          rw [h1] at z
          dsimp only at b ⊢
          exact ⟨a, b, by omega⟩
        · exact g3 p hp
      · exact ⟨he, rfl⟩
    · exact ⟨he, rfl⟩
  · exact ⟨he, rfl⟩
theorem xr_lo_ok {r : RN} {e : XE} (he : xe_g r e) {i : XI} {x : Int32} (hx : xi_g r i x) {l : Int} (hh : l ≤ x.toInt) : xe_g r (xr_lo e i l) ∧ (xr_lo e i l).2.2 = e.2.2 := by
  unfold xr_lo
  split
  · rename_i h1
    split
    · rename_i q hq
      split
      · obtain ⟨g1, g2, g3, g4⟩ := he
        refine ⟨⟨g1, g2, fun p hp => ?_, g4⟩, rfl⟩
        rcases List.mem_cons.mp hp with rfl | hp
        · obtain ⟨a, b, c⟩ := g3 _ (xe_k_mem hq)
          have z := hx.2
          unfold xi_z at z
          rw [h1] at z
          dsimp only at c ⊢
          exact ⟨a, by omega, c⟩
        · exact g3 p hp
      · exact ⟨he, rfl⟩
    · exact ⟨he, rfl⟩
  · exact ⟨he, rfl⟩
theorem xr_d_ok {r : RN} {e : XE} (he : xe_g r e) {i j : XI} {x y : Int32} (hx : xi_g r i x) (hy : xi_g r j y) {k : Int} (hh : x.toInt - y.toInt ≤ k) : xe_g r (xr_d e i j k) ∧ (xr_d e i j k).2.2.2 = e.2.2.2 := by
  unfold xr_d
  split
  · rename_i h1
    obtain ⟨g1, g2, g3, g4⟩ := he
    refine ⟨⟨g1, g2, g3, fun p hp => ?_⟩, rfl⟩
    rcases List.mem_cons.mp hp with rfl | hp
    · have zx := hx.2
      have zy := hy.2
      unfold xi_z at zx zy
      rw [h1.1] at zx
      rw [h1.2.1] at zy
      dsimp only
      exact ⟨hx.1, hy.1, by omega⟩
    · exact g4 p hp
  · exact ⟨he, rfl⟩
/-- i is above j by k at most; none: it cannot be -/
def xr_le (e : XE) (i j : XI) (k : Int) : Option XE := if k < - xi_du e j i then none else some (xr_d (xr_lo (xr_hi e i ((xi_b e.2.1 j).2 + k)) j ((xi_b e.2.1 i).1 - k)) i j k)
theorem xr_le_ok {r : RN} {e : XE} (he : xe_g r e) {i j : XI} {x y : Int32} (hx : xi_g r i x) (hy : xi_g r j y) {k : Int} (hh : x.toInt - y.toInt ≤ k) : ∃ e', xr_le e i j k = some e' ∧ xe_g r e' ∧ e'.2.2.2 = e.2.2.2 := by
  have d := xi_du_ok he hy hx
  have a := xi_b_ok he hx
  have b := xi_b_ok he hy
  unfold xr_le
  rw [if_neg (by omega)]
  have s1 := xr_hi_ok he hx (h := (xi_b e.2.1 j).2 + k) (by omega)
  have s2 := xr_lo_ok s1.1 hy (l := (xi_b e.2.1 i).1 - k) (by omega)
  have s3 := xr_d_ok s2.1 hx hy hh
  exact ⟨_, rfl, s3.1, by rw [s3.2, s2.2, s1.2]⟩
def xr_ne (e : XE) (i j : XI) : Option XE :=
  let bi := xi_b e.2.1 i
  let bj := xi_b e.2.1 j
  if bj.1 = bj.2 then (if bi.1 = bj.1 then xr_le e j i (-1) else if bi.2 = bj.1 then xr_le e i j (-1) else some e)
  else if bi.1 = bi.2 then (if bj.1 = bi.1 then xr_le e i j (-1) else if bj.2 = bi.1 then xr_le e j i (-1) else some e)
  else if xi_du e i j = 0 then xr_le e i j (-1) else if xi_du e j i = 0 then xr_le e j i (-1) else some e
theorem xr_ne_ok {r : RN} {e : XE} (he : xe_g r e) {i j : XI} {x y : Int32} (hx : xi_g r i x) (hy : xi_g r j y) (hh : x.toInt ≠ y.toInt) : ∃ e', xr_ne e i j = some e' ∧ xe_g r e' ∧ e'.2.2.2 = e.2.2.2 := by
  have a := xi_b_ok he hx
  have b := xi_b_ok he hy
  unfold xr_ne
  dsimp only
  split
  · split
    · exact xr_le_ok he hy hx (by omega)
    · split
      · exact xr_le_ok he hx hy (by omega)
      · exact ⟨e, rfl, he, rfl⟩
  · split
    · split
      · exact xr_le_ok he hx hy (by omega)
      · split
        · exact xr_le_ok he hy hx (by omega)
        · exact ⟨e, rfl, he, rfl⟩
    · split
      · rename_i hz
        have hd := xi_du_ok he hx hy
        exact xr_le_ok he hx hy (by omega)
      · split
        · rename_i hz
          have hd := xi_du_ok he hy hx
          exact xr_le_ok he hy hx (by omega)
        · exact ⟨e, rfl, he, rfl⟩
def xr_eq (e : XE) (i j : XI) : Option XE := match xr_le e i j 0 with
  | some e1 => xr_le e1 j i 0
  | none => none
theorem xr_eq_ok {r : RN} {e : XE} (he : xe_g r e) {i j : XI} {x y : Int32} (hx : xi_g r i x) (hy : xi_g r j y) (hh : x.toInt = y.toInt) : ∃ e', xr_eq e i j = some e' ∧ xe_g r e' ∧ e'.2.2.2 = e.2.2.2 := by
  obtain ⟨e1, h1, h2, h3⟩ := xr_le_ok he hx hy (k := 0) (by omega)
  obtain ⟨e2, h4, h5, h6⟩ := xr_le_ok h2 hy hx (k := 0) (by omega)
  refine ⟨e2, ?_, h5, h6.trans h3⟩
  unfold xr_eq
  rw [h1]
  exact h4
/-- what holds if the branch is taken -/
def xr_c (c : Jvm.ClassFile.Cond) (e : XE) (i j : XI) : Option XE := match c with
  | .eq => xr_eq e i j
  | .ne => xr_ne e i j
  | .lt => xr_le e i j (-1)
  | .ge => xr_le e j i 0
  | .gt => xr_le e j i (-1)
  | .le => xr_le e i j 0
def xr_not (c : Jvm.ClassFile.Cond) : Jvm.ClassFile.Cond := match c with
  | .eq => .ne
  | .ne => .eq
  | .lt => .ge
  | .ge => .lt
  | .gt => .le
  | .le => .gt
theorem xr_c_ok {r : RN} {e : XE} (he : xe_g r e) {c : Jvm.ClassFile.Cond} {i j : XI} {x y : Int32} (hx : xi_g r i x) (hy : xi_g r j y) (hh : ea_cp c x y) : ∃ e', xr_c c e i j = some e' ∧ xe_g r e' ∧ e'.2.2.2 = e.2.2.2 := by
  cases c with
  | eq => exact xr_eq_ok he hx hy (congrArg Int32.toInt hh)
  | ne => exact xr_ne_ok he hx hy (fun h => hh (Int32.toInt_inj.mp h))
  | lt => exact xr_le_ok he hx hy (by have := Int32.lt_iff_toInt_lt.mp hh; omega)
  | ge => exact xr_le_ok he hy hx (by have := Int32.le_iff_toInt_le.mp hh; omega)
  | gt => exact xr_le_ok he hy hx (by have := Int32.lt_iff_toInt_lt.mp hh; omega)
  | le => exact xr_le_ok he hx hy (by have := Int32.le_iff_toInt_le.mp hh; omega)
theorem xr_not_ok {c : Jvm.ClassFile.Cond} {x y : Int32} (h : ¬ ea_cp c x y) : ea_cp (xr_not c) x y := by
  have hle : ∀ u v : Int32, (v ≤ u ↔ ¬ u < v) := fun u v => by rw [Int32.le_iff_toInt_le, Int32.lt_iff_toInt_lt]; omega
  cases c with
  | eq => exact h
  | ne => exact Classical.not_not.mp h
  | lt => exact (hle _ _).mpr h
  | ge => exact Classical.not_not.mp (fun h' => h ((hle _ _).mpr h'))
  | gt => exact (hle _ _).mpr h
  | le => exact Classical.not_not.mp (fun h' => h ((hle _ _).mpr h'))
end
section
/-! THE CHECKER, instructions that touch no cell and do not branch -/
def xl_g (r : RN) (L : List (Nat × XV)) (cl : List (Nat × AV)) : Prop := ∀ q ∈ L, ∃ v, ea_lk cl q.1 = some v ∧ xv_g r q.2 v
def xs_g (r : RN) (S : List XV) (cs : List AV) : Prop := ea_rl (xv_g r) S cs
theorem xl_g_mono {r r' : RN} (h : rn_le r r') {L : List (Nat × XV)} {cl : List (Nat × AV)} (hl : xl_g r L cl) : xl_g r' L cl := fun q hq => by
  obtain ⟨v, h1, h2⟩ := hl q hq
  exact ⟨v, h1, xv_g_mono h h2⟩
theorem xs_g_mono {r r' : RN} (h : rn_le r r') {S : List XV} {cs : List AV} (hs : xs_g r S cs) : xs_g r' S cs := ea_rl_mono (fun _ _ q => xv_g_mono h q) hs
def xl_k (L : List (Nat × XV)) (i : Nat) : Option XV := match L with
  | [] => none
  | q :: t => bif Nat.beq q.1 i then some q.2 else xl_k t i
theorem xl_k_mem : ∀ {L : List (Nat × XV)} {i : Nat} {a : XV}, xl_k L i = some a → (i, a) ∈ L
  | [], i, a, h => by cases h
  | p :: t, i, a, h => by
    unfold xl_k at h
    cases hb : Nat.beq p.1 i with
    | true =>
      rw [hb] at h
      cases h
      have e : p.1 = i := Nat.eq_of_beq_eq_true hb
      subst e
      exact List.mem_cons_self
    | false => rw [hb] at h; exact List.mem_cons_of_mem _ (xl_k_mem h)
theorem xl_k_ok {r : RN} {L : List (Nat × XV)} {cl : List (Nat × AV)} (hl : xl_g r L cl) {i : Nat} {a : XV} (h : xl_k L i = some a) : ∃ v, ea_lk cl i = some v ∧ xv_g r a v := hl _ (xl_k_mem h)
theorem lk_cons (cl : List (Nat × AV)) (i : Nat) (v : AV) (k : Nat) : ea_lk ((i, v) :: cl) k = if i = k then some v else ea_lk cl k := by
  show (bif Nat.beq i k then some v else ea_lk cl k) = _
  by_cases h : i = k
  · rw [if_pos h, h, Nat.beq_refl]; rfl
  · rw [if_neg h]
    cases hb : Nat.beq i k with
    | false => rfl
    | true => exact absurd (Nat.eq_of_beq_eq_true hb) h
theorem lk_filter {f : Nat × AV → Bool} : ∀ {cl : List (Nat × AV)} {k : Nat} {v : AV}, ea_lk cl k = some v → f (k, v) = true → ea_lk (cl.filter f) k = some v
  | [], k, v, h, _ => by cases h
  | (i, u) :: t, k, v, h, hf => by
    rw [lk_cons] at h
    by_cases hik : i = k
    · rw [if_pos hik] at h
      cases h
      subst hik
      rw [List.filter_cons, hf]
      simp only [if_true]
      rw [lk_cons, if_pos rfl]
    · rw [if_neg hik] at h
      have ih := lk_filter h hf
      rw [List.filter_cons]
      split
      · rw [lk_cons, if_neg hik]; exact ih
      · exact ih
def xl_s1 (L : List (Nat × XV)) (i : Nat) (a : XV) : List (Nat × XV) := (i, a) :: L.filter (fun q => !(q.1 == i) && !(q.1 + 1 == i && xv_cat q.2 == 2))
def xl_s2 (L : List (Nat × XV)) (i : Nat) (a : XV) : List (Nat × XV) := (i, a) :: L.filter (fun q => !(q.1 == i) && (!(q.1 == i + 1) && !(q.1 + 1 == i && xv_cat q.2 == 2)))
theorem xl_s1_ok {r : RN} {L : List (Nat × XV)} {cl : List (Nat × AV)} (hl : xl_g r L cl) (i : Nat) {a : XV} {v : AV} (hv : xv_g r a v) : xl_g r (xl_s1 L i a) (ea_s1 cl i v) := by
  intro q hq
  unfold ea_s1
  rw [lk_cons]
  rcases List.mem_cons.mp hq with rfl | hq
  · exact ⟨v, if_pos rfl, hv⟩
  · rw [List.mem_filter] at hq
    obtain ⟨u, h1, h2⟩ := hl q hq.1
    have hc := hq.2
    rw [← xv_g_cat h2] at hc
    have hne : ¬ i = q.1 := by
      rintro rfl
      simp at hc
    exact ⟨u, by rw [if_neg hne]; exact lk_filter h1 hc, h2⟩
theorem xl_s2_ok {r : RN} {L : List (Nat × XV)} {cl : List (Nat × AV)} (hl : xl_g r L cl) (i : Nat) {a : XV} {v : AV} (hv : xv_g r a v) : xl_g r (xl_s2 L i a) (ea_s2 cl i v) := by
  intro q hq
  unfold ea_s2
  rw [lk_cons]
  rcases List.mem_cons.mp hq with rfl | hq
  · exact ⟨v, if_pos rfl, hv⟩
  · rw [List.mem_filter] at hq
    obtain ⟨u, h1, h2⟩ := hl q hq.1
    have hc := hq.2
    rw [← xv_g_cat h2] at hc
    have hne : ¬ i = q.1 := by
      rintro rfl
      simp at hc
    exact ⟨u, by rw [if_neg hne]; exact lk_filter h1 hc, h2⟩
def xv_isr (a : XV) : Bool := match a with
  | .inr (.inl _) => true
  | .inr (.inr 1) => true
  | .inr (.inr 2) => true
  | .inr (.inr (_ + 4)) => true
  | _ => false
theorem xv_isr_ok {r : RN} {a : XV} {v : AV} (h : xv_isr a = true) (hv : xv_g r a v) : ea_isr v = true := by
  match a, h, hv with
  | .inr (.inl k), _, e => rw [show v = _ from e]; rfl
  | .inr (.inr 1), _, e => rw [show v = _ from e]; rfl
  | .inr (.inr 2), _, e => rw [show v = _ from e]; rfl
  | .inr (.inr (_ + 4)), _, e => rw [show v = _ from e]; rfl
theorem xs_cons {r : RN} {a : XV} {v : AV} {S : List XV} {t : List AV} (h1 : xv_g r a v) (h2 : xs_g r S t) : xs_g r (a :: S) (v :: t) := ⟨h1, h2⟩
theorem xv_gi {r : RN} {i : XI} {x : Int32} (h : xi_g r i x) : xv_g r (.inl i) (.inl (.inl x)) := ⟨x, rfl, h⟩
theorem xv_gl (r : RN) (y : Int64) : xv_g r (.inr (.inr 0)) (.inr (.inr (.inl (some y)))) := ⟨y, rfl⟩
abbrev XF : Type := Nat × List (Nat × XV) × List XV × XE
def xp_r (r : RN) (e : XE) (i : Instr) (pc nL : Nat) (cl : List (Nat × AV)) (cs : List AV) (f : XF) : Prop := ∃ r' cl' cs', rn_le r r' ∧ xe_g r' f.2.2.2 ∧ xl_g r' f.2.1 cl' ∧ xs_g r' f.2.2.1 cs' ∧ f.2.2.2.2.2.2 = e.2.2.2 ∧ ea_p i pc nL cl cs = some (f.1, cl', cs')
theorem xp_same {r : RN} {e : XE} {i : Instr} {pc nL : Nat} {cl cl' : List (Nat × AV)} {cs cs' : List AV} {pc' : Nat} {L' : List (Nat × XV)} {S' : List XV} (he : xe_g r e) (hl : xl_g r L' cl') (hs : xs_g r S' cs') (hp : ea_p i pc nL cl cs = some (pc', cl', cs')) : xp_r r e i pc nL cl cs (pc', L', S', e) := ⟨r, cl', cs', rn_le_rf r, he, hl, hs, rfl, hp⟩
theorem xp_push {r : RN} {e : XE} {i : Instr} {pc nL : Nat} {cl : List (Nat × AV)} {cs cs0 : List AV} {pc' : Nat} {L : List (Nat × XV)} {S0 : List XV} {p : XI × XE} {x : Int32} (hl : xl_g r L cl) (hs : xs_g r S0 cs0) (ho : xo_ok r e p x) (hp : ea_p i pc nL cl cs = some (pc', cl, .inl (.inl x) :: cs0)) : xp_r r e i pc nL cl cs (pc', L, .inl p.1 :: S0, p.2) := by
  obtain ⟨r', h1, h2, h3, h4⟩ := ho
  exact ⟨r', cl, _, h1, h2, xl_g_mono h1 hl, xs_cons (xv_gi h3) (xs_g_mono h1 hs), h4, hp⟩
theorem xs_pop {r : RN} {a : XV} {S : List XV} {cs : List AV} (h : xs_g r (a :: S) cs) : ∃ v t, cs = v :: t ∧ xv_g r a v ∧ xs_g r S t := ea_rl_cons h
/-- two ints give one -/
def xs_i2 (op : XE → XI → XI → XI × XE) (pc : Nat) (L : List (Nat × XV)) (S : List XV) (e : XE) : Option XF := match S with
  | .inl b :: .inl a :: S => some (pc + 1, L, .inl (op e a b).1 :: S, (op e a b).2)
  | _ => none
theorem xs_i2_ok {r : RN} {e : XE} {i : Instr} {pc nL : Nat} {cl : List (Nat × AV)} {cs : List AV} {L : List (Nat × XV)} {S : List XV} {f : XF} {op : XE → XI → XI → XI × XE} {fn : Int32 → Int32 → Int32} (hl : xl_g r L cl) (hs : xs_g r S cs) (h : xs_i2 op pc L S e = some f)
    (hop : ∀ a b x y, xi_g r a x → xi_g r b y → xo_ok r e (op e a b) (fn x y)) (hp : ∀ x y t, ea_p i pc nL cl (.inl (.inl y) :: .inl (.inl x) :: t) = some (pc + 1, cl, .inl (.inl (fn x y)) :: t)) : xp_r r e i pc nL cl cs f := by
  unfold xs_i2 at h
  split at h
  · cases h
    obtain ⟨_, _, rfl, ⟨y, rfl, hy⟩, hs1⟩ := xs_pop hs
    obtain ⟨_, _, rfl, ⟨x, rfl, hx⟩, hs2⟩ := xs_pop hs1
    exact xp_push hl hs2 (hop _ _ _ _ hx hy) (hp _ _ _)
  · cases h
/-- two longs give one -/
def xs_l2 (pc : Nat) (L : List (Nat × XV)) (S : List XV) (e : XE) : Option XF := match S with
  | .inr (.inr 0) :: .inr (.inr 0) :: S => some (pc + 1, L, .inr (.inr 0) :: S, e)
  | _ => none
theorem xs_l2_ok {r : RN} {e : XE} {i : Instr} {pc nL : Nat} {cl : List (Nat × AV)} {cs : List AV} {L : List (Nat × XV)} {S : List XV} {f : XF} (fn : Int64 → Int64 → Int64) (he : xe_g r e) (hl : xl_g r L cl) (hs : xs_g r S cs) (h : xs_l2 pc L S e = some f)
    (hp : ∀ x y t, ea_p i pc nL cl (.inr (.inr (.inl (some y))) :: .inr (.inr (.inl (some x))) :: t) = some (pc + 1, cl, .inr (.inr (.inl (some (fn x y)))) :: t)) : xp_r r e i pc nL cl cs f := by
  unfold xs_l2 at h
  split at h
  · cases h
    obtain ⟨_, _, rfl, ⟨y, rfl⟩, hs1⟩ := xs_pop hs
    obtain ⟨_, _, rfl, ⟨x, rfl⟩, hs2⟩ := xs_pop hs1
    exact xp_same he hl (xs_cons (xv_gl r _) hs2) (hp _ _ _)
  · cases h
/-- a long moved by an int -/
def xs_ls (pc : Nat) (L : List (Nat × XV)) (S : List XV) (e : XE) : Option XF := match S with
  | .inl _ :: .inr (.inr 0) :: S => some (pc + 1, L, .inr (.inr 0) :: S, e)
  | _ => none
theorem xs_ls_ok {r : RN} {e : XE} {i : Instr} {pc nL : Nat} {cl : List (Nat × AV)} {cs : List AV} {L : List (Nat × XV)} {S : List XV} {f : XF} (fn : Int64 → Int32 → Int64) (he : xe_g r e) (hl : xl_g r L cl) (hs : xs_g r S cs) (h : xs_ls pc L S e = some f)
    (hp : ∀ x y t, ea_p i pc nL cl (.inl (.inl y) :: .inr (.inr (.inl (some x))) :: t) = some (pc + 1, cl, .inr (.inr (.inl (some (fn x y)))) :: t)) : xp_r r e i pc nL cl cs f := by
  unfold xs_ls at h
  split at h
  · cases h
    obtain ⟨_, _, rfl, ⟨y, rfl, hy⟩, hs1⟩ := xs_pop hs
    obtain ⟨_, _, rfl, ⟨x, rfl⟩, hs2⟩ := xs_pop hs1
    exact xp_same he hl (xs_cons (xv_gl r _) hs2) (hp _ _ _)
  · cases h
def xs_ld (n pc k : Nat) (L : List (Nat × XV)) (S : List XV) (e : XE) : Option XF := match xl_k L k with
  | some (.inl a) => some (pc + n, L, .inl a :: S, e)
  | _ => none
theorem xs_ld_ok {r : RN} {e : XE} {i : Instr} {pc nL n k : Nat} {cl : List (Nat × AV)} {cs : List AV} {L : List (Nat × XV)} {S : List XV} {f : XF} (he : xe_g r e) (hl : xl_g r L cl) (hs : xs_g r S cs) (h : xs_ld n pc k L S e = some f)
    (hp : ∀ x, ea_lk cl k = some (.inl (.inl x)) → ea_p i pc nL cl cs = some (pc + n, cl, .inl (.inl x) :: cs)) : xp_r r e i pc nL cl cs f := by
  unfold xs_ld at h
  split at h
  · rename_i a ha
    cases h
    obtain ⟨v, h1, x, rfl, h2⟩ := xl_k_ok hl ha
    exact xp_same he hl (xs_cons (xv_gi h2) hs) (hp x h1)
  · cases h
def xs_ldl (n pc k : Nat) (L : List (Nat × XV)) (S : List XV) (e : XE) : Option XF := match xl_k L k with
  | some (.inr (.inr 0)) => some (pc + n, L, .inr (.inr 0) :: S, e)
  | _ => none
theorem xs_ldl_ok {r : RN} {e : XE} {i : Instr} {pc nL n k : Nat} {cl : List (Nat × AV)} {cs : List AV} {L : List (Nat × XV)} {S : List XV} {f : XF} (he : xe_g r e) (hl : xl_g r L cl) (hs : xs_g r S cs) (h : xs_ldl n pc k L S e = some f)
    (hp : ∀ x, ea_lk cl k = some (.inr (.inr (.inl (some x)))) → ea_p i pc nL cl cs = some (pc + n, cl, .inr (.inr (.inl (some x))) :: cs)) : xp_r r e i pc nL cl cs f := by
  unfold xs_ldl at h
  split at h
  · rename_i ha
    cases h
    obtain ⟨v, h1, x, rfl⟩ := xl_k_ok hl ha
    exact xp_same he hl (xs_cons (xv_gl r x) hs) (hp x h1)
  · cases h
def xs_lda (n pc k : Nat) (L : List (Nat × XV)) (S : List XV) (e : XE) : Option XF := match xl_k L k with
  | some a => bif xv_isr a then some (pc + n, L, a :: S, e) else none
  | _ => none
theorem xs_lda_ok {r : RN} {e : XE} {i : Instr} {pc nL n k : Nat} {cl : List (Nat × AV)} {cs : List AV} {L : List (Nat × XV)} {S : List XV} {f : XF} (he : xe_g r e) (hl : xl_g r L cl) (hs : xs_g r S cs) (h : xs_lda n pc k L S e = some f)
    (hp : ∀ v, ea_lk cl k = some v → ea_isr v = true → ea_p i pc nL cl cs = some (pc + n, cl, v :: cs)) : xp_r r e i pc nL cl cs f := by
  unfold xs_lda at h
  split at h
  · rename_i a ha
    cases hb : xv_isr a with
    | false => rw [hb] at h; cases h
    | true =>
      rw [hb] at h
      cases h
      obtain ⟨v, h1, h2⟩ := xl_k_ok hl ha
      exact xp_same he hl (xs_cons h2 hs) (hp v h1 (xv_isr_ok hb h2))
  · cases h
def xs_st (n pc k nL : Nat) (L : List (Nat × XV)) (S : List XV) (e : XE) : Option XF := match S with
  | .inl a :: S => bif Nat.blt k nL then some (pc + n, xl_s1 L k (.inl a), S, e) else none
  | _ => none
theorem blt_lt {a b : Nat} (h : Nat.blt a b = true) : a < b := Nat.le_of_ble_eq_true h
theorem xs_st_ok {r : RN} {e : XE} {i : Instr} {pc nL n k : Nat} {cl : List (Nat × AV)} {cs : List AV} {L : List (Nat × XV)} {S : List XV} {f : XF} (he : xe_g r e) (hl : xl_g r L cl) (hs : xs_g r S cs) (h : xs_st n pc k nL L S e = some f)
    (hp : ∀ x t, k < nL → ea_p i pc nL cl (.inl (.inl x) :: t) = some (pc + n, ea_s1 cl k (.inl (.inl x)), t)) : xp_r r e i pc nL cl cs f := by
  unfold xs_st at h
  split at h
  · rename_i a S0
    cases hb : Nat.blt k nL with
    | false => rw [hb] at h; cases h
    | true =>
      rw [hb] at h
      cases h
      obtain ⟨_, _, rfl, ⟨x, rfl, hx⟩, hs1⟩ := xs_pop hs
      exact xp_same he (xl_s1_ok hl k (a := .inl a) ⟨x, rfl, hx⟩) hs1 (hp _ _ (blt_lt hb))
  · cases h
def xs_stl (n pc k nL : Nat) (L : List (Nat × XV)) (S : List XV) (e : XE) : Option XF := match S with
  | .inr (.inr 0) :: S => bif Nat.blt (k + 1) nL then some (pc + n, xl_s2 L k (.inr (.inr 0)), S, e) else none
  | _ => none
theorem xs_stl_ok {r : RN} {e : XE} {i : Instr} {pc nL n k : Nat} {cl : List (Nat × AV)} {cs : List AV} {L : List (Nat × XV)} {S : List XV} {f : XF} (he : xe_g r e) (hl : xl_g r L cl) (hs : xs_g r S cs) (h : xs_stl n pc k nL L S e = some f)
    (hp : ∀ x t, k + 1 < nL → ea_p i pc nL cl (.inr (.inr (.inl (some x))) :: t) = some (pc + n, ea_s2 cl k (.inr (.inr (.inl (some x)))), t)) : xp_r r e i pc nL cl cs f := by
  unfold xs_stl at h
  split at h
  · rename_i S0
    cases hb : Nat.blt (k + 1) nL with
    | false => rw [hb] at h; cases h
    | true =>
      rw [hb] at h
      cases h
      obtain ⟨_, _, rfl, ⟨x, rfl⟩, hs1⟩ := xs_pop hs
      exact xp_same he (xl_s2_ok hl k (a := .inr (.inr 0)) ⟨x, rfl⟩) hs1 (hp _ _ (blt_lt hb))
  · cases h
def xs_sta (n pc k nL : Nat) (L : List (Nat × XV)) (S : List XV) (e : XE) : Option XF := match S with
  | a :: S => bif xv_isr a && Nat.blt k nL then some (pc + n, xl_s1 L k a, S, e) else none
  | _ => none
theorem xs_sta_ok {r : RN} {e : XE} {i : Instr} {pc nL n k : Nat} {cl : List (Nat × AV)} {cs : List AV} {L : List (Nat × XV)} {S : List XV} {f : XF} (he : xe_g r e) (hl : xl_g r L cl) (hs : xs_g r S cs) (h : xs_sta n pc k nL L S e = some f)
    (hp : ∀ v t, ea_isr v = true → k < nL → ea_p i pc nL cl (v :: t) = some (pc + n, ea_s1 cl k v, t)) : xp_r r e i pc nL cl cs f := by
  unfold xs_sta at h
  split at h
  · rename_i a S0
    cases hb : (xv_isr a && Nat.blt k nL) with
    | false => rw [hb] at h; cases h
    | true =>
      rw [hb] at h
      cases h
      simp only [Bool.and_eq_true] at hb
      obtain ⟨v, _, rfl, hv, hs1⟩ := xs_pop hs
      exact xp_same he (xl_s1_ok hl k hv) hs1 (hp _ _ (xv_isr_ok hb.1 hv) (blt_lt hb.2))
  · cases h
end
section
/-! THE CHECKER, its plain instructions -/
def xs_any (f : Int32 → Int32 → Int32) (e : XE) (i j : XI) : XI × XE := xo_2 f (fun _ _ => ea_any) e i j
theorem xs_any_ok (f : Int32 → Int32 → Int32) {r : RN} {e : XE} (he : xe_g r e) {i j : XI} {x y : Int32} (hx : xi_g r i x) (hy : xi_g r j y) : xo_ok r e (xs_any f e i j) (f x y) := xo_2_ok (fun _ _ _ _ _ _ => ea_any_ok _) he hx hy
def xs_nz (e : XE) (S : List XV) : Bool := match S with
  | .inl b :: _ => iv_nz (xo_ai e b)
  | _ => false
theorem iv_nz_pt {i : AI} (h : iv_nz i = true) {x : Int32} (hx : ea_gi i x) : iv_nz (.inl x) = true := by
  have b := ea_bd hx
  unfold iv_nz at h ⊢
  simp only [Bool.or_eq_true, decide_eq_true_eq] at h ⊢
  show 1 ≤ x.toInt ∨ x.toInt ≤ -1
  omega
def xs_dv (op : XE → XI → XI → XI × XE) (pc : Nat) (L : List (Nat × XV)) (S : List XV) (e : XE) : Option XF := match S with
  | .inl b :: .inl a :: S => if iv_nz (xo_ai e b) = true then some (pc + 1, L, .inl (op e a b).1 :: S, (op e a b).2) else none
  | _ => none
theorem xs_dv_ok {r : RN} {e : XE} {i : Instr} {pc nL : Nat} {cl : List (Nat × AV)} {cs : List AV} {L : List (Nat × XV)} {S : List XV} {f : XF} {op : XE → XI → XI → XI × XE} {fn : Int32 → Int32 → Int32} (he : xe_g r e) (hl : xl_g r L cl) (hs : xs_g r S cs) (h : xs_dv op pc L S e = some f)
    (hop : ∀ a b x y, xi_g r a x → xi_g r b y → xo_ok r e (op e a b) (fn x y)) (hp : ∀ x y t, iv_nz (.inl y) = true → ea_p i pc nL cl (.inl (.inl y) :: .inl (.inl x) :: t) = some (pc + 1, cl, .inl (.inl (fn x y)) :: t)) : xp_r r e i pc nL cl cs f := by
  unfold xs_dv at h
  split at h
  · split at h
    · rename_i hz
      cases h
      obtain ⟨_, _, rfl, ⟨y, rfl, hy⟩, hs1⟩ := xs_pop hs
      obtain ⟨_, _, rfl, ⟨x, rfl, hx⟩, hs2⟩ := xs_pop hs1
      exact xp_push hl hs2 (hop _ _ _ _ hx hy) (hp _ _ _ (iv_nz_pt hz (xo_ai_ok he hy)))
    · cases h
  · cases h
def xs_ii (n : Nat) (pc k nL : Nat) (z : Int) (L : List (Nat × XV)) (S : List XV) (e : XE) : Option XF := match xl_k L k with
  | some (.inl a) => bif Nat.blt k nL then some (pc + n, xl_s1 L k (.inl (xo_add e a (0, 0, z)).1), S, (xo_add e a (0, 0, z)).2) else none
  | _ => none
def xs_p (i : Instr) (pc nL : Nat) (L : List (Nat × XV)) (S : List XV) (e : XE) : Option XF := match i with
  | .iconst n => some (pc + 1, L, .inl (0, 0, (Int32.ofInt n).toInt) :: S, e)
  | .bipush n => some (pc + 2, L, .inl (0, 0, (Int8.ofInt n).toInt32.toInt) :: S, e)
  | .sipush n => some (pc + 3, L, .inl (0, 0, (Int16.ofInt n).toInt32.toInt) :: S, e)
  | .lconst _ => some (pc + 1, L, .inr (.inr 0) :: S, e)
  | .iload_n k => xs_ld 1 pc k L S e
  | .iload k => xs_ld 2 pc k L S e
  | .lload_n k => xs_ldl 1 pc k L S e
  | .lload k => xs_ldl 2 pc k L S e
  | .aload_n k => xs_lda 1 pc k L S e
  | .aload k => xs_lda 2 pc k L S e
  | .istore_n k => xs_st 1 pc k nL L S e
  | .istore k => xs_st 2 pc k nL L S e
  | .lstore_n k => xs_stl 1 pc k nL L S e
  | .lstore k => xs_stl 2 pc k nL L S e
  | .astore_n k => xs_sta 1 pc k nL L S e
  | .astore k => xs_sta 2 pc k nL L S e
  | .iinc k n => xs_ii 3 pc k nL (Int32.ofInt n).toInt L S e
  | .iadd => xs_i2 xo_add pc L S e
  | .isub => xs_i2 xo_sub pc L S e
  | .imul => xs_i2 xo_mul pc L S e
  | .iand => xs_i2 (xo_2 (fun x y => x &&& y) iv_andg) pc L S e
  | .ior => xs_i2 (xo_2 (fun x y => x ||| y) iv_org) pc L S e
  | .ixor => xs_i2 (xo_2 (fun x y => x ^^^ y) iv_org) pc L S e
  | .ishl => xs_i2 xo_shl pc L S e
  | .ladd => xs_l2 pc L S e
  | .lsub => xs_l2 pc L S e
  | .l2i => match S with
    | .inr (.inr 0) :: S => some (pc + 1, L, .inl (xo_new e (-2147483648) 2147483647).1 :: S, (xo_new e (-2147483648) 2147483647).2)
    | _ => none
  | .ishr => xs_i2 (xs_any (fun x y => x >>> (y &&& 31))) pc L S e
  | .iushr => xs_i2 (xs_any (fun x y => (x.toUInt32 >>> (y.toUInt32 &&& Int32.toUInt32 31)).toInt32)) pc L S e
  | .idiv => xs_dv (xo_2 (fun x y => x / y) iv_divg) pc L S e
  | .irem => xs_dv (xo_2 (fun x y => x - x / y * y) iv_remg) pc L S e
  | .ineg => match S with
    | .inl a :: S => some (pc + 1, L, .inl (xo_neg e a).1 :: S, (xo_neg e a).2)
    | _ => none
  | .i2c => match S with
    | .inl a :: S => some (pc + 1, L, .inl (xo_of e (ch_1 (xo_ai e a))).1 :: S, (xo_of e (ch_1 (xo_ai e a))).2)
    | _ => none
  | .i2b => match S with
    | .inl a :: S => some (pc + 1, L, .inl (xo_of e (iv_by (xo_ai e a))).1 :: S, (xo_of e (iv_by (xo_ai e a))).2)
    | _ => none
  | .i2l => match S with
    | .inl _ :: S => some (pc + 1, L, .inr (.inr 0) :: S, e)
    | _ => none
  | .land => xs_l2 pc L S e
  | .lor => xs_l2 pc L S e
  | .lxor => xs_l2 pc L S e
  | .lshl => xs_ls pc L S e
  | .lshr => xs_ls pc L S e
  | .lushr => xs_ls pc L S e
  | .lcmp => match S with
    | .inr (.inr 0) :: .inr (.inr 0) :: S => some (pc + 1, L, .inl (xo_new e (-2147483648) 2147483647).1 :: S, (xo_new e (-2147483648) 2147483647).2)
    | _ => none
  | .dup => match S with
    | a :: S => if xv_cat a = 1 then some (pc + 1, L, a :: a :: S, e) else none
    | _ => none
  | .pop => match S with
    | a :: S => if xv_cat a = 1 then some (pc + 1, L, S, e) else none
    | _ => none
  | .pop2 => match S with
    | a :: S => if xv_cat a = 2 then some (pc + 1, L, S, e) else none
    | _ => none
  | .dup2 => match S with
    | a :: b :: S => if xv_cat a = 1 ∧ xv_cat b = 1 then some (pc + 1, L, a :: b :: a :: b :: S, e) else none
    | _ => none
  | .goto off => match ea_to pc off with
    | some t => some (t, L, S, e)
    | none => none
  | _ => none
set_option maxHeartbeats 4000000 in
theorem xs_p_ok {r : RN} {e : XE} {i : Instr} {pc nL : Nat} {cl : List (Nat × AV)} {cs : List AV} {L : List (Nat × XV)} {S : List XV} {f : XF} (he : xe_g r e) (hl : xl_g r L cl) (hs : xs_g r S cs) (h : xs_p i pc nL L S e = some f) : xp_r r e i pc nL cl cs f := by
  cases i with
  | iconst n => cases h; exact xp_push hl hs (xo_const he rfl) rfl
  | bipush n => cases h; exact xp_push hl hs (xo_const he rfl) rfl
  | sipush n => cases h; exact xp_push hl hs (xo_const he rfl) rfl
  | lconst n => cases h; exact xp_same he hl (xs_cons (xv_gl r _) hs) rfl
  | iload_n k => exact xs_ld_ok he hl hs h (fun x hx => by simp only [ea_p, hx])
  | iload k => exact xs_ld_ok he hl hs h (fun x hx => by simp only [ea_p, hx])
  | lload_n k => exact xs_ldl_ok he hl hs h (fun x hx => by simp only [ea_p, hx])
  | lload k => exact xs_ldl_ok he hl hs h (fun x hx => by simp only [ea_p, hx])
  | aload_n k => exact xs_lda_ok he hl hs h (fun x hx hi => by simp only [ea_p, hx]; rw [if_pos hi])
  | aload k => exact xs_lda_ok he hl hs h (fun x hx hi => by simp only [ea_p, hx]; rw [if_pos hi])
  | istore_n k => exact xs_st_ok he hl hs h (fun x t hk => by simp only [ea_p]; rw [if_pos hk])
  | istore k => exact xs_st_ok he hl hs h (fun x t hk => by simp only [ea_p]; rw [if_pos hk])
  | lstore_n k => exact xs_stl_ok he hl hs h (fun x t hk => by simp only [ea_p]; rw [if_pos hk])
  | lstore k => exact xs_stl_ok he hl hs h (fun x t hk => by simp only [ea_p]; rw [if_pos hk])
  | astore_n k => exact xs_sta_ok he hl hs h (fun v t hv hk => by simp only [ea_p]; rw [if_pos ⟨hv, hk⟩])
  | astore k => exact xs_sta_ok he hl hs h (fun v t hv hk => by simp only [ea_p]; rw [if_pos ⟨hv, hk⟩])
  | iinc k n =>
    unfold xs_p xs_ii at h
    dsimp only at h
    split at h
    · rename_i a ha
      cases hb : Nat.blt k nL with
      | false => rw [hb] at h; cases h
      | true =>
        rw [hb] at h
        cases h
        obtain ⟨v, h1, x, rfl, h2⟩ := xl_k_ok hl ha
        obtain ⟨r', g1, g2, g3, g4⟩ := xo_add_ok he h2 (j := (0, 0, (Int32.ofInt n).toInt)) (y := Int32.ofInt n) ⟨he.1, by simp [xi_z]⟩
        exact ⟨r', _, _, g1, g2, xl_s1_ok (xl_g_mono g1 hl) k (xv_gi g3), xs_g_mono g1 hs, g4, by simp only [ea_p, h1]; rw [if_pos (blt_lt hb)]; rfl⟩
    · cases h
  | iadd => exact xs_i2_ok hl hs h (fn := fun x y => x + y) (fun a b x y hx hy => xo_add_ok he hx hy) (fun x y t => rfl)
  | isub => exact xs_i2_ok hl hs h (fn := fun x y => x - y) (fun a b x y hx hy => xo_sub_ok he hx hy) (fun x y t => rfl)
  | imul => exact xs_i2_ok hl hs h (fn := fun x y => x * y) (fun a b x y hx hy => xo_mul_ok he hx hy) (fun x y t => rfl)
  | iand => exact xs_i2_ok hl hs h (fn := fun x y => x &&& y) (fun a b x y hx hy => xo_2_ok iv_andg_ok he hx hy) (fun x y t => rfl)
  | ior => exact xs_i2_ok hl hs h (fn := fun x y => x ||| y) (fun a b x y hx hy => xo_2_ok iv_org_ok he hx hy) (fun x y t => rfl)
  | ixor => exact xs_i2_ok hl hs h (fn := fun x y => x ^^^ y) (fun a b x y hx hy => xo_2_ok iv_xorg_ok he hx hy) (fun x y t => rfl)
  | ishl => exact xs_i2_ok hl hs h (fn := fun x y => x <<< (y &&& 31)) (fun a b x y hx hy => xo_shl_ok he hx hy) (fun x y t => rfl)
  | ladd => exact xs_l2_ok (fun x y => x + y) he hl hs h (fun x y t => rfl)
  | lsub => exact xs_l2_ok (fun x y => x - y) he hl hs h (fun x y t => rfl)
  | l2i =>
    unfold xs_p at h
    dsimp only at h
    split at h
    · cases h
      obtain ⟨_, _, rfl, ⟨x, rfl⟩, hs1⟩ := xs_pop hs
      exact xp_push hl hs1 (xo_any he x.toInt32) rfl
    · cases h
  | ishr => exact xs_i2_ok hl hs h (fn := fun x y => x >>> (y &&& 31)) (fun a b x y hx hy => xs_any_ok _ he hx hy) (fun x y t => rfl)
  | iushr => exact xs_i2_ok hl hs h (fn := fun x y => (x.toUInt32 >>> (y.toUInt32 &&& Int32.toUInt32 31)).toInt32) (fun a b x y hx hy => xs_any_ok _ he hx hy) (fun x y t => rfl)
  | idiv => exact xs_dv_ok he hl hs h (fn := fun x y => x / y) (fun a b x y hx hy => xo_2_ok iv_divg_ok he hx hy) (fun x y t hz => by simp only [ea_p]; rw [if_pos hz]; rfl)
  | irem => exact xs_dv_ok he hl hs h (fn := fun x y => x - x / y * y) (fun a b x y hx hy => xo_2_ok iv_remg_ok he hx hy) (fun x y t hz => by simp only [ea_p]; rw [if_pos hz]; rfl)
  | ineg =>
    unfold xs_p at h
    dsimp only at h
    split at h
    · cases h
      obtain ⟨_, _, rfl, ⟨x, rfl, hx⟩, hs1⟩ := xs_pop hs
      exact xp_push hl hs1 (xo_neg_ok he hx) rfl
    · cases h
  | i2c =>
    unfold xs_p at h
    dsimp only at h
    split at h
    · cases h
      obtain ⟨_, _, rfl, ⟨x, rfl, hx⟩, hs1⟩ := xs_pop hs
      exact xp_push hl hs1 (xo_of_ok he (ch_1_ok (xo_ai_ok he hx))) rfl
    · cases h
  | i2b =>
    unfold xs_p at h
    dsimp only at h
    split at h
    · cases h
      obtain ⟨_, _, rfl, ⟨x, rfl, hx⟩, hs1⟩ := xs_pop hs
      exact xp_push hl hs1 (xo_of_ok he (iv_by_ok (xo_ai_ok he hx))) rfl
    · cases h
  | i2l =>
    unfold xs_p at h
    dsimp only at h
    split at h
    · cases h
      obtain ⟨_, _, rfl, ⟨x, rfl, hx⟩, hs1⟩ := xs_pop hs
      exact xp_same he hl (xs_cons (xv_gl r _) hs1) rfl
    · cases h
  | land => exact xs_l2_ok (fun x y => x &&& y) he hl hs h (fun x y t => rfl)
  | lor => exact xs_l2_ok (fun x y => x ||| y) he hl hs h (fun x y t => rfl)
  | lxor => exact xs_l2_ok (fun x y => x ^^^ y) he hl hs h (fun x y t => rfl)
  | lshl => exact xs_ls_ok (fun x y => x <<< (y.toInt64 &&& 63)) he hl hs h (fun x y t => rfl)
  | lshr => exact xs_ls_ok (fun x y => x >>> (y.toInt64 &&& 63)) he hl hs h (fun x y t => rfl)
  | lushr => exact xs_ls_ok (fun x y => (x.toUInt64 >>> (y.toInt64.toUInt64 &&& Int64.toUInt64 63)).toInt64) he hl hs h (fun x y t => rfl)
  | lcmp =>
    unfold xs_p at h
    dsimp only at h
    split at h
    · cases h
      obtain ⟨_, _, rfl, ⟨y, rfl⟩, hs1⟩ := xs_pop hs
      obtain ⟨_, _, rfl, ⟨x, rfl⟩, hs2⟩ := xs_pop hs1
      exact xp_push hl hs2 (xo_any he (lg_cmp x y)) rfl
    · cases h
  | dup =>
    unfold xs_p at h
    dsimp only at h
    split at h
    · split at h
      · rename_i hc
        cases h
        obtain ⟨v, _, rfl, hv, hs1⟩ := xs_pop hs
        exact xp_same he hl (xs_cons hv hs) (by simp only [ea_p]; rw [if_pos ((xv_g_cat hv).trans hc)])
      · cases h
    · cases h
  | pop =>
    unfold xs_p at h
    dsimp only at h
    split at h
    · split at h
      · rename_i hc
        cases h
        obtain ⟨v, _, rfl, hv, hs1⟩ := xs_pop hs
        exact xp_same he hl hs1 (by simp only [ea_p]; rw [if_pos ((xv_g_cat hv).trans hc)])
      · cases h
    · cases h
  | pop2 =>
    unfold xs_p at h
    dsimp only at h
    split at h
    · split at h
      · rename_i hc
        cases h
        obtain ⟨v, _, rfl, hv, hs1⟩ := xs_pop hs
        exact xp_same he hl hs1 (by simp only [ea_p]; rw [if_pos ((xv_g_cat hv).trans hc)])
      · cases h
    · cases h
  | dup2 =>
    unfold xs_p at h
    dsimp only at h
    split at h
    · split at h
      · rename_i hc
        cases h
        obtain ⟨v, _, rfl, hv, hs1⟩ := xs_pop hs
        obtain ⟨u, _, rfl, hu, hs2⟩ := xs_pop hs1
        exact xp_same he hl (xs_cons hv (xs_cons hu hs)) (by simp only [ea_p]; rw [if_pos ⟨(xv_g_cat hv).trans hc.1, (xv_g_cat hu).trans hc.2⟩])
      · cases h
    · cases h
  | goto off =>
    unfold xs_p at h
    dsimp only at h
    split at h
    · rename_i t ht
      cases h
      exact xp_same he hl hs (by simp only [ea_p, ht])
    · cases h
  | _ => cases h
end
section
/-! THE CHECKER, its cells: what kind each is (an object: its class, of each field the bounds or the cell; an array: its kind, its length, of each element by its place modulo a period the bounds or the cell) -/
abbrev FT : Type := (Int × Int) ⊕ Nat
abbrev CT : Type := (Nat × List FT) ⊕ (Nat × Nat × Nat × List FT)
def ft_g (f : FT) (v : AV) : Prop := match f with
  | .inl q => ∃ x : Int32, v = .inl (.inl x) ∧ q.1 ≤ x.toInt ∧ x.toInt ≤ q.2
  | .inr k => v = .inr (.inl (some k))
def el_g (kd p : Nat) (fs : List FT) (j : Nat) (v : AV) : Prop := match kd with
  | 1 => ∃ y : Int64, v = .inr (.inr (.inl (some y)))
  | _ => ∃ f, ea_nt fs (j % p) = some f ∧ ft_g f v
def xo_k (O : List (Nat × Nat × XI)) (a k : Nat) : Option XI := match O with
  | [] => none
  | q :: t => bif Nat.beq q.1 a && Nat.beq q.2.1 k then some q.2.2 else xo_k t a k
def xh_f (r : RN) (x : Option XI) (f : FT) (v : AV) : Prop := match x with
  | some x => xv_g r (.inl x) v
  | none => ft_g f v
def xh_o (r : RN) (O : List (Nat × Nat × XI)) (a : Nat) (fs : List FT) (vs : List AV) : Prop := vs.length = fs.length ∧ ∀ k f, ea_nt fs k = some f → ∃ v, ea_nt vs k = some v ∧ xh_f r (xo_k O a k) f v
def xh_R (r : RN) (C : List AC) (q : Nat × XI × XI) : Prop := ∃ (kd n : Nat) (d : AV) (us : List (Nat × AV)) (j : Nat) (x : Int32), ea_nt C q.1 = some (.inl (kd, n, d, us)) ∧ q.2.1.2.1 < r.2 ∧ (j : Int) = xi_z r q.2.1 ∧ ea_al d us j = .inl (.inl x) ∧ xi_g r q.2.2 x
def xh_g (r : RN) (G : Nat → Option CT) (e : XE) (C : List AC) : Prop :=
  (∀ a ci fs, G a = some (.inl (ci, fs)) → ∃ vs, ea_nt C a = some (.inr (ci, vs)) ∧ xh_o r e.2.2.2.2 a fs vs) ∧
  (∀ a kd n p fs, G a = some (.inr (kd, n, p, fs)) → ∃ d us, ea_nt C a = some (.inl (kd, n, d, us)) ∧ ∀ j, j < n → el_g kd p fs j (ea_al d us j) ∨ ∃ q ∈ e.2.2.2.1, q.1 = a ∧ (j : Int) = xi_z r q.2.1) ∧
  ∀ q ∈ e.2.2.2.1, xh_R r C q
theorem xh_f_mono {r r' : RN} (h : rn_le r r') {x : Option XI} {f : FT} {v : AV} (hv : xh_f r x f v) : xh_f r' x f v := by
  cases x with
  | none => exact hv
  | some x => exact xv_g_mono h (a := .inl x) (v := v) hv
theorem xh_R_mono {r r' : RN} (h : rn_le r r') {C : List AC} {q : Nat × XI × XI} (hq : xh_R r C q) : xh_R r' C q := by
  obtain ⟨kd, n, d, us, j, x, h1, h2, h3, h4, h5⟩ := hq
  refine ⟨kd, n, d, us, j, x, h1, Nat.lt_of_lt_of_le h2 h.1, ?_, h4, xi_g_mono h h5⟩
  rw [h3, xi_z, xi_z, h.2 _ h2]
theorem xh_g_mono {r r' : RN} (h : rn_le r r') {G : Nat → Option CT} {e e' : XE} (he : e'.2.2.2 = e.2.2.2) {C : List AC} (hg : xh_g r G e C) : xh_g r' G e' C := by
  obtain ⟨h1, h2, h3⟩ := hg
  refine ⟨fun a ci fs hG => ?_, fun a kd n p fs hG => ?_, fun q hq => xh_R_mono h (h3 q (by rw [he] at hq; exact hq))⟩
  · obtain ⟨vs, g1, g2, g3⟩ := h1 a ci fs hG
    refine ⟨vs, g1, g2, fun k f hf => ?_⟩
    obtain ⟨v, j1, j2⟩ := g3 k f hf
    rw [he]
    exact ⟨v, j1, xh_f_mono h j2⟩
  · obtain ⟨d, us, g1, g2⟩ := h2 a kd n p fs hG
    refine ⟨d, us, g1, fun j hj => ?_⟩
    rcases g2 j hj with g | ⟨q, q1, q2, q3⟩
    · exact Or.inl g
    · obtain ⟨_, _, _, _, _, _, _, w, _⟩ := h3 q q1
      refine Or.inr ⟨q, by rw [he]; exact q1, q2, ?_⟩
      rw [q3, xi_z, xi_z, h.2 _ w]
theorem nt_set {α : Type} {l : List α} {a b : Nat} {c : α} : ea_nt (l.set a c) b = if a = b then (if a < l.length then some c else none) else ea_nt l b := by
  rw [ea_nt_eq, ea_nt_eq, List.getElem?_set]
theorem nt_lt {α : Type} {l : List α} {a : Nat} {c : α} (h : ea_nt l a = some c) : a < l.length := by
  rw [ea_nt_eq] at h
  exact (List.getElem?_eq_some_iff.mp h).1
theorem nt_set_self {α : Type} {l : List α} {a : Nat} {c d : α} (h : ea_nt l a = some d) : ea_nt (l.set a c) a = some c := by
  rw [nt_set, if_pos rfl, if_pos (nt_lt h)]
theorem nt_set_ne {α : Type} {l : List α} {a b : Nat} {c : α} (h : a ≠ b) : ea_nt (l.set a c) b = ea_nt l b := by
  rw [nt_set, if_neg h]
theorem xo_k_cons (O : List (Nat × Nat × XI)) (a k : Nat) (x : XI) (b j : Nat) : xo_k ((a, k, x) :: O) b j = if a = b ∧ k = j then some x else xo_k O b j := by
  show (bif Nat.beq a b && Nat.beq k j then some x else xo_k O b j) = _
  by_cases h : a = b ∧ k = j
  · rw [if_pos h, h.1, h.2, Nat.beq_refl, Nat.beq_refl]; rfl
  · rw [if_neg h]
    cases hb : (Nat.beq a b && Nat.beq k j) with
    | false => rfl
    | true =>
      simp only [Bool.and_eq_true] at hb
      exact absurd ⟨Nat.eq_of_beq_eq_true hb.1, Nat.eq_of_beq_eq_true hb.2⟩ h
/-- a field is known now -/
def xe_o (e : XE) (a k : Nat) (x : XI) : XE := (e.1, e.2.1, e.2.2.1, e.2.2.2.1, (a, k, x) :: e.2.2.2.2)
theorem xe_o_g {r : RN} {e : XE} (he : xe_g r e) (a k : Nat) (x : XI) : xe_g r (xe_o e a k x) := he
/-- what an instruction on cells does -/
def xh_r (r : RN) (M : Nat → Bool) (G : Nat → Option CT) (ini : Bool) (pl : Nat → Option (Nat × Nat × Nat)) (fty : Nat → Nat → Nat) (scr : Option (List AI)) (i : Instr) (pc : Nat) (cs : List AV) (C : List AC) (f : Nat × List XV × XE) : Prop := ∃ r' cs' C', rn_le r r' ∧ xe_g r' f.2.2 ∧ xs_g r' f.2.1 cs' ∧ xh_g r' G f.2.2 (C'.getD C) ∧ (∀ b, M b = false → ea_nt (C'.getD C) b = ea_nt C b) ∧ ea_h ini pl fty scr i pc cs C = some (f.1, cs', C', 0, 0)
section XH
variable {r : RN} {M : Nat → Bool} {G : Nat → Option CT} {ini : Bool} {pl : Nat → Option (Nat × Nat × Nat)} {fty : Nat → Nat → Nat} {scr : Option (List AI)} {pc : Nat} {cs : List AV} {C : List AC} {e : XE} {S : List XV}
/-- a field is read -/
def xs_gf (G : Nat → Option CT) (ci k pc : Nat) (S : List XV) (e : XE) : Option (Nat × List XV × XE) := match S with
  | .inr (.inl a) :: S => match G a with
    | some (.inl (ci', fs)) => bif Nat.beq ci' ci then match xo_k e.2.2.2.2 a k with
        | some x => bif Nat.blt k fs.length then some (pc + 3, .inl x :: S, e) else none
        | none => match ea_nt fs k with
          | some (.inr j) => some (pc + 3, .inr (.inl j) :: S, e)
          | some (.inl q) => some (pc + 3, .inl (xo_new e q.1 q.2).1 :: S, xe_o (xo_new e q.1 q.2).2 a k (xo_new e q.1 q.2).1)
          | none => none
      else none
    | _ => none
  | _ => none
theorem nt_some {α : Type} {l : List α} {k : Nat} (h : k < l.length) : ∃ a, ea_nt l k = some a := by
  rw [ea_nt_eq]
  exact ⟨_, List.getElem?_eq_some_iff.mpr ⟨h, rfl⟩⟩
theorem xs_gf_ok {x ci k : Nat} {f : Nat × List XV × XE} (he : xe_g r e) (hs : xs_g r S cs) (hh : xh_g r G e C) (hp : ea_rd (pl x) = some (ci, k)) (h : xs_gf G ci k pc S e = some f) : xh_r r M G ini pl fty scr (.getfield x) pc cs C f := by
  unfold xs_gf at h
  split at h
  · rename_i a S0
    split at h
    · rename_i ci' fs hG
      cases hb : Nat.beq ci' ci with
      | false => rw [hb] at h; cases h
      | true =>
        rw [hb] at h
        simp only [cond_true] at h
        obtain rfl : ci' = ci := Nat.eq_of_beq_eq_true hb
        obtain ⟨v0, cs0, rfl, hv0, hs0⟩ := xs_pop hs
        obtain rfl : v0 = .inr (.inl (some a)) := hv0
        obtain ⟨vs, g1, g2, g3⟩ := hh.1 a ci' fs hG
        have key : ∀ v, ea_nt vs k = some v → ea_h ini pl fty scr (.getfield x) pc (.inr (.inl (some a)) :: cs0) C = some (pc + 3, v :: cs0, none, 0, 0) := by
          intro v hv
          simp only [ea_h, hp, g1, hb, cond_true, hv]
        split at h
        · rename_i x0 hx0
          cases hlt : Nat.blt k fs.length with
          | false => rw [hlt] at h; cases h
          | true =>
            rw [hlt] at h
            cases h
            obtain ⟨f0, hf0⟩ := nt_some (blt_lt hlt)
            obtain ⟨v, j1, j2⟩ := g3 k f0 hf0
            rw [hx0] at j2
            exact ⟨r, _, none, rn_le_rf r, he, xs_cons j2 hs0, hh, fun _ _ => rfl, key v j1⟩
        · rename_i hx0
          split at h
          · rename_i j hj
            cases h
            obtain ⟨v, j1, j2⟩ := g3 k _ hj
            rw [hx0] at j2
            exact ⟨r, _, none, rn_le_rf r, he, xs_cons (a := .inr (.inl j)) j2 hs0, hh, fun _ _ => rfl, key v j1⟩
          · rename_i q hq
            cases h
            obtain ⟨v, j1, j2⟩ := g3 k _ hq
            rw [hx0] at j2
            obtain ⟨y, rfl, hy1, hy2⟩ := j2
            obtain ⟨r', k1, k2, k3, k4⟩ := xo_new_ok he hy1 hy2
            refine ⟨r', _, none, k1, xe_o_g k2 _ _ _, xs_cons (xv_gi k3) (xs_g_mono k1 hs0), ?_, fun _ _ => rfl, key _ j1⟩
            obtain ⟨m1, m2, m3⟩ := xh_g_mono k1 k4 hh
            refine ⟨fun b cj fs' hG' => ?_, m2, m3⟩
            obtain ⟨vs', n1, n2, n3⟩ := m1 b cj fs' hG'
            refine ⟨vs', n1, n2, fun k' f' hf' => ?_⟩
            obtain ⟨v', o1, o2⟩ := n3 k' f' hf'
            refine ⟨v', o1, ?_⟩
            show xh_f r' (xo_k ((a, k, _) :: (xo_new e q.1 q.2).2.2.2.2.2) b k') f' v'
            rw [xo_k_cons]
            split
            · rename_i hc
              obtain ⟨rfl, rfl⟩ := hc
              rw [g1] at n1
              cases n1
              rw [j1] at o1
              cases o1
              exact xv_gi k3
            · exact o2
          · cases h
    · cases h
  · cases h
/-- a field is written -/
def xs_pf (M : Nat → Bool) (G : Nat → Option CT) (fty : Nat → Nat → Nat) (ci k pc : Nat) (S : List XV) (e : XE) : Option (Nat × List XV × XE) := match S with
  | .inl v :: .inr (.inl a) :: S => match G a with
    | some (.inl (ci', fs)) => bif Nat.beq ci' ci && M a then match ea_nt fs k with
        | some (.inl _) => match fty ci k with
          | 0 => some (pc + 3, S, xe_o e a k v)
          | 2 => if 0 ≤ (xi_b e.2.1 v).1 ∧ (xi_b e.2.1 v).2 ≤ 1 then some (pc + 3, S, xe_o e a k v) else none
          | _ => none
        | _ => none
      else none
    | _ => none
  | _ => none
theorem xs_01 (he : xe_g r e) {v : XI} {x : Int32} (hx : xi_g r v x) (h : 0 ≤ (xi_b e.2.1 v).1 ∧ (xi_b e.2.1 v).2 ≤ 1) : ea_fit 2 (.inl (.inl x)) = true := by
  have b := xi_b_ok he hx
  show (decide (x = 0) || decide (x = 1)) = true
  simp only [Bool.or_eq_true, decide_eq_true_eq]
  have h0 : x.toInt = 0 ∨ x.toInt = 1 := by omega
  rcases h0 with h0 | h0
  · left; exact Int32.toInt_inj.mp h0
  · right; exact Int32.toInt_inj.mp h0
theorem nt_len_set {α : Type} (l : List α) (k : Nat) (v : α) : (l.set k v).length = l.length := List.length_set
theorem xs_pf_ok {x ci k : Nat} {f : Nat × List XV × XE} (he : xe_g r e) (hs : xs_g r S cs) (hh : xh_g r G e C) (hp : ea_wr ini (pl x) = some (ci, k)) (h : xs_pf M G fty ci k pc S e = some f) : xh_r r M G ini pl fty scr (.putfield x) pc cs C f := by
  unfold xs_pf at h
  split at h
  · rename_i v a S0
    split at h
    · rename_i ci' fs hG
      cases hb : (Nat.beq ci' ci && M a) with
      | false => rw [hb] at h; cases h
      | true =>
        rw [hb] at h
        simp only [cond_true] at h
        simp only [Bool.and_eq_true] at hb
        obtain ⟨hb, hM⟩ := hb
        obtain rfl : ci' = ci := Nat.eq_of_beq_eq_true hb
        obtain ⟨_, _, rfl, ⟨y, rfl, hy⟩, hs1⟩ := xs_pop hs
        obtain ⟨v0, cs0, rfl, hv0, hs0⟩ := xs_pop hs1
        obtain rfl : v0 = .inr (.inl (some a)) := hv0
        obtain ⟨vs, g1, g2, g3⟩ := hh.1 a ci' fs hG
        split at h
        · rename_i q hq
          have hlt : k < vs.length := by rw [g2]; exact nt_lt hq
          have fin : ea_fit (fty ci' k) (.inl (.inl y)) = true → f = (pc + 3, S0, xe_o e a k v) → xh_r r M G ini pl fty scr (.putfield x) pc (.inl (.inl y) :: .inr (.inl (some a)) :: cs0) C f := by
            rintro hfit rfl
            refine ⟨r, cs0, some (C.set a (.inr (ci', vs.set k (.inl (.inl y))))), rn_le_rf r, he, hs0, ⟨fun b cj fs' hG' => ?_, fun b kd n p fs' hG' => ?_, fun q hq => ?_⟩, fun b hb' => ?_, ?_⟩
            · show ∃ vs', ea_nt (C.set a _) b = _ ∧ _
              by_cases hab : a = b
              · subst hab
                rw [hG] at hG'
                cases hG'
                refine ⟨_, nt_set_self g1, by rw [nt_len_set]; exact g2, fun k' f' hf' => ?_⟩
                show ∃ v', _ ∧ xh_f r (xo_k ((a, k, v) :: e.2.2.2.2) a k') f' v'
                rw [xo_k_cons]
                by_cases hk : k = k'
                · subst hk
                  obtain ⟨w, hw⟩ := nt_some hlt
                  refine ⟨_, nt_set_self hw, ?_⟩
                  rw [if_pos ⟨rfl, rfl⟩]
                  exact xv_gi hy
                · obtain ⟨v', o1, o2⟩ := g3 k' f' hf'
                  refine ⟨v', by rw [nt_set_ne hk]; exact o1, ?_⟩
                  rw [if_neg (fun hc => hk hc.2)]
                  exact o2
              · obtain ⟨vs', n1, n2, n3⟩ := hh.1 b cj fs' hG'
                refine ⟨vs', by rw [nt_set_ne hab]; exact n1, n2, fun k' f' hf' => ?_⟩
                obtain ⟨v', o1, o2⟩ := n3 k' f' hf'
                refine ⟨v', o1, ?_⟩
                show xh_f r (xo_k ((a, k, v) :: e.2.2.2.2) b k') f' v'
                rw [xo_k_cons, if_neg (fun hc => hab hc.1)]
                exact o2
            · show ∃ d us, ea_nt (C.set a _) b = _ ∧ _
              obtain ⟨d, us, n1, n2⟩ := hh.2.1 b kd n p fs' hG'
              have hab : a ≠ b := by rintro rfl; rw [hG] at hG'; cases hG'
              exact ⟨d, us, by rw [nt_set_ne hab]; exact n1, n2⟩
            · obtain ⟨kd, n, d, us, j, x', n1, n2⟩ := hh.2.2 q hq
              have hab : a ≠ q.1 := by
                intro hab
                rw [← hab, g1] at n1
                cases n1
              exact ⟨kd, n, d, us, j, x', by show ea_nt (C.set a _) q.1 = _; rw [nt_set_ne hab]; exact n1, n2⟩
            · show ea_nt (C.set a _) b = _
              have hab : a ≠ b := by rintro rfl; rw [hM] at hb'; cases hb'
              rw [nt_set_ne hab]
            · have hbl : Nat.blt k vs.length = true := Nat.ble_eq_true_of_le hlt
              simp only [ea_h, hp, g1, hb, hfit, hbl, Bool.and_self, cond_true]
          split at h
          · rename_i ht
            exact fin (by rw [ht]; rfl) (Option.some.inj h).symm
          · rename_i ht
            split at h
            · rename_i h01
              exact fin (by rw [ht]; exact xs_01 he hy h01) (Option.some.inj h).symm
            · cases h
          · cases h
        · cases h
    · cases h
  · cases h
end XH
end
section
/-! THE CHECKER, arrays -/
/-- which of the elements' kinds an index may have -/
def xt_c (E : List (Nat × Int × Int)) (i : XI) (p : Nat) : Option (List Nat) := if p = 1 then some [0] else if i.1 = 0 then some [i.2.2.toNat % p] else match xe_k E i.2.1 with
  | some q => if q.2 - q.1 ≤ 16 then some ((List.range ((q.2 - q.1).toNat + 1)).map (fun t : Nat => (i.1 * (q.1 + (t : Int)) + i.2.2).toNat % p)) else none
  | none => none
theorem xt_c_ok {r : RN} {e : XE} (he : xe_g r e) {i : XI} {p : Nat} {ks : List Nat} (h : xt_c e.2.1 i p = some ks) {j : Nat} (hj : (j : Int) = xi_z r i) : j % p ∈ ks := by
  unfold xt_c at h
  split at h
  · rename_i h1
    cases h
    rw [h1, Nat.mod_one]
    exact List.mem_cons_self
  · split at h
    · rename_i h1
      cases h
      have : j = i.2.2.toNat := by
        unfold xi_z at hj
        rw [h1] at hj
        omega
      rw [this]
      exact List.mem_cons_self
    · split at h
      · rename_i q hq
        split at h
        · cases h
          obtain ⟨-, h1, h2⟩ := he.2.2.1 _ (xe_k_mem hq)
          dsimp only at h1 h2
          refine List.mem_map.mpr ⟨(r.1 i.2.1 - q.1).toNat, List.mem_range.mpr (by omega), ?_⟩
          have : q.1 + ((r.1 i.2.1 - q.1).toNat : Int) = r.1 i.2.1 := by omega
          rw [this]
          unfold xi_z at hj
          rw [← hj]
          rfl
        · cases h
      · cases h
def xt_m (fs : List FT) (ks : List Nat) : Option (List FT) := match ks with
  | [] => some []
  | k :: t => match ea_nt fs k, xt_m fs t with
    | some f, some l => some (f :: l)
    | _, _ => none
theorem xt_m_ok {fs : List FT} : ∀ {ks : List Nat} {l : List FT}, xt_m fs ks = some l → ∀ {k : Nat} {f : FT}, k ∈ ks → ea_nt fs k = some f → f ∈ l
  | [], l, h, k, f, hk, hf => nomatch hk
  | k0 :: t, l, h, k, f, hk, hf => by
    unfold xt_m at h
    split at h
    · rename_i f0 l0 h1 h2
      cases h
      rcases List.mem_cons.mp hk with rfl | hk
      · rw [h1] at hf
        cases hf
        exact List.mem_cons_self
      · exact List.mem_cons_of_mem _ (xt_m_ok h2 hk hf)
    · cases h
def xt_l (E : List (Nat × Int × Int)) (i : XI) (p : Nat) (fs : List FT) : Option (List FT) := match xt_c E i p with
  | some ks => xt_m fs ks
  | none => match xi_bo E i with
    | some q => if 0 ≤ q.1 ∧ q.2 < (p : Int) then some ((fs.drop q.1.toNat).take ((q.2 - q.1).toNat + 1)) else some fs
    | none => some fs
theorem nt_mem {α : Type} {l : List α} {k : Nat} {a : α} (h : ea_nt l k = some a) : a ∈ l := by
  rw [ea_nt_eq] at h
  exact List.mem_of_getElem? h
theorem xt_l_ok {r : RN} {e : XE} (he : xe_g r e) {i : XI} {p : Nat} {fs l : List FT} (h : xt_l e.2.1 i p fs = some l) {j : Nat} (hj : (j : Int) = xi_z r i) {f : FT} (hf : ea_nt fs (j % p) = some f) : f ∈ l := by
  unfold xt_l at h
  split at h
  · rename_i ks hk
    exact xt_m_ok h (xt_c_ok he hk hj) hf
  · split at h
    · rename_i q hq
      split at h
      · rename_i hb
        cases h
        have b := xi_bo_ok he hq
        have hm : j % p = j := Nat.mod_eq_of_lt (by omega)
        rw [hm, ea_nt_eq] at hf
        have hx : ((fs.drop q.1.toNat).take ((q.2 - q.1).toNat + 1))[j - q.1.toNat]? = some f := by
          rw [List.getElem?_take, if_pos (by omega), List.getElem?_drop, show q.1.toNat + (j - q.1.toNat) = j by omega]
          exact hf
        exact List.mem_of_getElem? hx
      · cases h
        exact nt_mem hf
    · cases h
      exact nt_mem hf
/-- bounds of all of them -/
def xt_j (l : List FT) : Option (Int × Int) := match l with
  | [] => none
  | .inr _ :: _ => none
  | .inl q :: t => match t with
    | [] => some q
    | _ :: _ => match xt_j t with
      | some p => some (min q.1 p.1, max q.2 p.2)
      | none => none
theorem xt_j_ok : ∀ {l : List FT} {q : Int × Int}, xt_j l = some q → ∀ {f : FT} {v : AV}, f ∈ l → ft_g f v → ∃ x : Int32, v = .inl (.inl x) ∧ q.1 ≤ x.toInt ∧ x.toInt ≤ q.2
  | [], q, h, f, v, hf, hv => nomatch hf
  | .inr k :: t, q, h, f, v, hf, hv => by cases h
  | .inl p :: [], q, h, f, v, hf, hv => by
    cases h
    rcases List.mem_cons.mp hf with rfl | hf
    · exact hv
    · nomatch hf
  | .inl p :: b :: t, q, h, f, v, hf, hv => by
    unfold xt_j at h
    dsimp only at h
    split at h
    · rename_i p' hp'
      cases h
      rcases List.mem_cons.mp hf with rfl | hf
      · obtain ⟨x, h1, h2, h3⟩ := hv
        dsimp only
        exact ⟨x, h1, by omega, by omega⟩
      · obtain ⟨x, h1, h2, h3⟩ := xt_j_ok hp' hf hv
        dsimp only
        exact ⟨x, h1, by omega, by omega⟩
    · cases h
/-- all of them take such ints -/
def xt_in (l : List FT) (lo hi : Int) : Bool := match l with
  | [] => true
  | .inr _ :: _ => false
  | .inl q :: t => decide (q.1 ≤ lo) && (decide (hi ≤ q.2) && xt_in t lo hi)
theorem xt_in_ok : ∀ {l : List FT} {lo hi : Int}, xt_in l lo hi = true → ∀ {f : FT} {x : Int32}, f ∈ l → lo ≤ x.toInt → x.toInt ≤ hi → ft_g f (.inl (.inl x))
  | [], lo, hi, h, f, x, hf, _, _ => nomatch hf
  | .inr k :: t, lo, hi, h, f, x, hf, _, _ => by cases h
  | .inl q :: t, lo, hi, h, f, x, hf, h1, h2 => by
    unfold xt_in at h
    simp only [Bool.and_eq_true, decide_eq_true_eq] at h
    rcases List.mem_cons.mp hf with rfl | hf
    · exact ⟨x, rfl, by omega, by omega⟩
    · exact xt_in_ok h.2.2 hf h1 h2
def xR_k (R : List (Nat × XI × XI)) (a : Nat) (i : XI) : Option XI := match R with
  | [] => none
  | q :: t => if q.1 = a ∧ q.2.1.2.1 = i.2.1 ∧ q.2.1.1 = i.1 ∧ q.2.1.2.2 = i.2.2 then some q.2.2 else xR_k t a i
theorem xR_k_mem : ∀ {R : List (Nat × XI × XI)} {a : Nat} {i x : XI}, xR_k R a i = some x → (a, i, x) ∈ R
  | [], a, i, x, h => by cases h
  | q :: t, a, i, x, h => by
    unfold xR_k at h
    split at h
    · rename_i hc
      cases h
      obtain ⟨h1, h2, h3, h4⟩ := hc
      have : q = (a, i, q.2.2) := by
        obtain ⟨qa, ⟨q1, q2, q3⟩, qx⟩ := q
        obtain ⟨i1, i2, i3⟩ := i
        dsimp only at h1 h2 h3 h4
        subst h1 h2 h3 h4
        rfl
      rw [this]
      exact List.mem_cons_self
    · exact List.mem_cons_of_mem _ (xR_k_mem h)
def xe_r (e : XE) (a : Nat) (i x : XI) : XE := (e.1, e.2.1, e.2.2.1, (a, i, x) :: e.2.2.2.1, e.2.2.2.2)
/-- what is known of the elements of an array is known no more -/
def xe_rf (e : XE) (a : Nat) : XE := (e.1, e.2.1, e.2.2.1, e.2.2.2.1.filter (fun q => !(Nat.beq q.1 a)), e.2.2.2.2)
theorem el_get {kd p : Nat} {fs : List FT} {j : Nat} {v : AV} (hk : kd ≠ 1) (h : el_g kd p fs j v) : ∃ f, ea_nt fs (j % p) = some f ∧ ft_g f v := by
  match kd, hk, h with
  | 0, _, h => exact h
  | 1, hk, _ => exact absurd rfl hk
  | _ + 2, _, h => exact h
theorem el_put {kd p : Nat} {fs : List FT} {j : Nat} {v : AV} (hk : kd ≠ 1) (h : ∃ f, ea_nt fs (j % p) = some f ∧ ft_g f v) : el_g kd p fs j v := by
  match kd, hk with
  | 0, _ => exact h
  | 1, hk => exact absurd rfl hk
  | _ + 2, _ => exact h
theorem ix_ok {x : Int32} {n : Nat} (h1 : 0 ≤ x.toInt) (h2 : x.toInt < n) : ea_ix (.inl x) n = some x.toNatClampNeg ∧ (x.toNatClampNeg : Int) = x.toInt ∧ x.toNatClampNeg < n := by
  have hc : (x.toNatClampNeg : Int) = x.toInt := by
    show ((x.toInt.toNat : Nat) : Int) = _
    omega
  refine ⟨?_, hc, by omega⟩
  show (if 0 ≤ x.toInt ∧ x.toInt < n then some x.toNatClampNeg else none) = _
  rw [if_pos ⟨h1, h2⟩]
/-- the index is within -/
def xs_ix (E : List (Nat × Int × Int)) (i : XI) (n : Nat) : Bool := decide (0 ≤ (xi_b E i).1) && decide ((xi_b E i).2 < (n : Int))
theorem xs_ix_ok {r : RN} {e : XE} (he : xe_g r e) {i : XI} {n : Nat} (h : xs_ix e.2.1 i n = true) {x : Int32} (hx : xi_g r i x) : ea_ix (.inl x) n = some x.toNatClampNeg ∧ (x.toNatClampNeg : Int) = xi_z r i ∧ x.toNatClampNeg < n := by
  have b := xi_b_ok he hx
  unfold xs_ix at h
  simp only [Bool.and_eq_true, decide_eq_true_eq] at h
  obtain ⟨h1, h2, h3⟩ := ix_ok (x := x) (n := n) (by omega) (by omega)
  exact ⟨h1, by rw [h2, hx.2], h3⟩
theorem xi_c {r : RN} {e : XE} (he : xe_g r e) (x : Int32) : xi_g r (0, 0, x.toInt) x := ⟨he.1, by rw [xi_z]; dsimp only; omega⟩
/-- no element of this array is known by itself -/
def xR_n (R : List (Nat × XI × XI)) (a : Nat) : Bool := match R with
  | [] => true
  | q :: t => !(Nat.beq q.1 a) && xR_n t a
theorem xR_n_ok {a : Nat} : ∀ {R : List (Nat × XI × XI)}, xR_n R a = true → ∀ q ∈ R, q.1 ≠ a
  | [], _, q, hq => nomatch hq
  | p :: t, h, q, hq => by
    unfold xR_n at h
    simp only [Bool.and_eq_true] at h
    rcases List.mem_cons.mp hq with rfl | hq
    · rintro rfl
      have := h.1
      rw [Nat.beq_refl] at this
      cases this
    · exact xR_n_ok h.2 q hq
def xR_1 (E : List (Nat × Int × Int)) (p : Nat) (fs : List FT) (q : Nat × XI × XI) : Bool := match xt_l E q.2.1 p fs with
  | some l => Nat.blt 0 p && (Nat.ble p fs.length && xt_in l (xi_b E q.2.2).1 (xi_b E q.2.2).2)
  | none => false
/-- the elements of this array that are known by themselves are of their kinds -/
def xR_c (E : List (Nat × Int × Int)) (R : List (Nat × XI × XI)) (a p : Nat) (fs : List FT) : Bool := match R with
  | [] => true
  | q :: t => (bif Nat.beq q.1 a then xR_1 E p fs q else true) && xR_c E t a p fs
theorem xR_c_mem {E : List (Nat × Int × Int)} {a p : Nat} {fs : List FT} : ∀ {R : List (Nat × XI × XI)}, xR_c E R a p fs = true → ∀ q ∈ R, q.1 = a → xR_1 E p fs q = true
  | [], _, q, hq, _ => nomatch hq
  | p0 :: t, h, q, hq, ha => by
    unfold xR_c at h
    simp only [Bool.and_eq_true] at h
    rcases List.mem_cons.mp hq with rfl | hq
    · have h1 := h.1
      rw [ha, Nat.beq_refl] at h1
      exact h1
    · exact xR_c_mem h.2 q hq ha
theorem xR_1_ok {r : RN} {e : XE} {C : List AC} (he : xe_g r e) {kd n p : Nat} {fs : List FT} {d : AV} {us : List (Nat × AV)} {q : Nat × XI × XI} (hk : kd ≠ 1) (hq : xh_R r C q) (hC : ea_nt C q.1 = some (.inl (kd, n, d, us))) {j : Nat} (hj : (j : Int) = xi_z r q.2.1) (h : xR_1 e.2.1 p fs q = true) : el_g kd p fs j (ea_al d us j) := by
  unfold xR_1 at h
  split at h
  · rename_i l hl
    simp only [Bool.and_eq_true] at h
    obtain ⟨h1, h2, h3⟩ := h
    obtain ⟨kd', n', d', us', j', x, g1, g2, g3, g4, g5⟩ := hq
    rw [hC] at g1
    cases g1
    have ej : j' = j := by omega
    subst ej
    have hp : j' % p < fs.length := Nat.lt_of_lt_of_le (Nat.mod_lt _ (blt_lt h1)) (Nat.le_of_ble_eq_true h2)
    obtain ⟨f0, hf0⟩ := nt_some hp
    have b := xi_b_ok he g5
    rw [g4]
    exact el_put hk ⟨f0, hf0, xt_in_ok h3 (xt_l_ok he hl hj hf0) b.1 b.2⟩
  · cases h
section XA
variable {r : RN} {M : Nat → Bool} {G : Nat → Option CT} {ini : Bool} {pl : Nat → Option (Nat × Nat × Nat)} {fty : Nat → Nat → Nat} {scr : Option (List AI)} {pc : Nat} {cs : List AV} {C : List AC} {e : XE} {S : List XV} {i : Instr}
def xs_al (kd : Nat) (G : Nat → Option CT) (pc : Nat) (S : List XV) (e : XE) : Option (Nat × List XV × XE) := match S with
  | .inl i :: .inr (.inl a) :: S => match G a with
    | some (.inr (kd', n, p, fs)) => bif Nat.beq kd' kd && xs_ix e.2.1 i n then match xR_k e.2.2.2.1 a i with
        | some x => some (pc + 1, .inl x :: S, e)
        | none => bif xR_c e.2.1 e.2.2.2.1 a p fs then match xt_l e.2.1 i p fs with
          | some l => match xt_j l with
            | some q => some (pc + 1, .inl (xo_new e q.1 q.2).1 :: S, bif xt_in l q.1 q.2 && Nat.blt e.2.2.2.1.length 10 then xe_r (xo_new e q.1 q.2).2 a i (xo_new e q.1 q.2).1 else (xo_new e q.1 q.2).2)
            | none => none
          | none => none
          else none
      else none
    | _ => none
  | _ => none
theorem xs_al_ok {kd : Nat} {f : Nat × List XV × XE} (hkd : kd ≠ 1) (he : xe_g r e) (hs : xs_g r S cs) (hh : xh_g r G e C) (h : xs_al kd G pc S e = some f)
    (hp : ∀ (x y : Int32) (a n : Nat) (d : AV) (us : List (Nat × AV)) (t : List AV), ea_nt C a = some (.inl (kd, n, d, us)) → ea_ix (.inl x) n = some x.toNatClampNeg → ea_al d us x.toNatClampNeg = .inl (.inl y) → ea_h ini pl fty scr i pc (.inl (.inl x) :: .inr (.inl (some a)) :: t) C = some (pc + 1, .inl (.inl y) :: t, none, 0, 0)) : xh_r r M G ini pl fty scr i pc cs C f := by
  unfold xs_al at h
  split at h
  · rename_i ii a S0
    split at h
    · rename_i kd' n p fs hG
      cases hb : (Nat.beq kd' kd && xs_ix e.2.1 ii n) with
      | false => rw [hb] at h; cases h
      | true =>
        rw [hb] at h
        simp only [cond_true] at h
        simp only [Bool.and_eq_true] at hb
        obtain ⟨hb, hix⟩ := hb
        obtain rfl : kd' = kd := Nat.eq_of_beq_eq_true hb
        obtain ⟨_, _, rfl, ⟨x, rfl, hx⟩, hs1⟩ := xs_pop hs
        obtain ⟨v0, cs0, rfl, hv0, hs0⟩ := xs_pop hs1
        obtain rfl : v0 = .inr (.inl (some a)) := hv0
        obtain ⟨d, us, g1, g2⟩ := hh.2.1 a kd' n p fs hG
        obtain ⟨i1, i2, i3⟩ := xs_ix_ok he hix hx
        split at h
        · rename_i x0 hx0
          cases h
          obtain ⟨kd2, n2, d2, us2, j, y, j1, j2, j3, j4, j5⟩ := hh.2.2 _ (xR_k_mem hx0)
          dsimp only at j1 j2 j3 j4 j5
          rw [g1] at j1
          cases j1
          have hj : j = x.toNatClampNeg := by omega
          subst hj
          exact ⟨r, _, none, rn_le_rf r, he, xs_cons (xv_gi j5) hs0, hh, fun _ _ => rfl, hp _ _ _ _ _ _ _ g1 i1 j4⟩
        · cases hrc : xR_c e.2.1 e.2.2.2.1 a p fs with
          | false => rw [hrc] at h; cases h
          | true =>
          rw [hrc] at h
          simp only [cond_true] at h
          split at h
          · rename_i l hl
            split at h
            · rename_i q hq
              cases h
              have gel : el_g kd' p fs x.toNatClampNeg (ea_al d us x.toNatClampNeg) := by
                rcases g2 _ i3 with g | ⟨q, q1, q2, q3⟩
                · exact g
                · exact xR_1_ok he hkd (hh.2.2 q q1) (by rw [q2]; exact g1) q3 (xR_c_mem hrc q q1 q2)
              obtain ⟨f0, f1, f2⟩ := el_get hkd gel
              obtain ⟨y, y1, y2, y3⟩ := xt_j_ok hq (xt_l_ok he hl i2 f1) f2
              obtain ⟨r', k1, k2, k3, k4⟩ := xo_new_ok he y2 y3
              cases hu : (xt_in l q.1 q.2 && Nat.blt e.2.2.2.1.length 10) with
              | false => exact ⟨r', _, none, k1, k2, xs_cons (xv_gi k3) (xs_g_mono k1 hs0), xh_g_mono k1 k4 hh, fun _ _ => rfl, hp _ _ _ _ _ _ _ g1 i1 y1⟩
              | true =>
              refine ⟨r', _, none, k1, k2, xs_cons (xv_gi k3) (xs_g_mono k1 hs0), ?_, fun _ _ => rfl, hp _ _ _ _ _ _ _ g1 i1 y1⟩
              obtain ⟨m1, m2, m3⟩ := xh_g_mono k1 k4 hh
              refine ⟨m1, fun b kd2 n2 p2 fs2 hG2 => ?_, fun z hz => ?_⟩
              · obtain ⟨d2, us2, w1, w2⟩ := m2 b kd2 n2 p2 fs2 hG2
                refine ⟨d2, us2, w1, fun j hj => ?_⟩
                rcases w2 j hj with w | ⟨q', q1, q2⟩
                · exact Or.inl w
                · exact Or.inr ⟨q', List.mem_cons_of_mem _ q1, q2⟩
              rcases List.mem_cons.mp hz with rfl | hz
              · refine ⟨kd', n, d, us, x.toNatClampNeg, y, g1, Nat.lt_of_lt_of_le hx.1 k1.1, ?_, y1, k3⟩
                rw [i2]
                show xi_z r ii = xi_z r' ii
                rw [xi_z, xi_z, k1.2 _ hx.1]
              · exact m3 z hz
            · cases h
          · cases h
    · cases h
  · cases h
/-- the cells behind a store into an array -/
theorem xh_seta (hh : xh_g r G e C) {a kd n p : Nat} {fs : List FT} {d : AV} {us us' : List (Nat × AV)} (hG : G a = some (.inr (kd, n, p, fs))) (hC : ea_nt C a = some (.inl (kd, n, d, us))) {e' : XE} (hel : ∀ j, j < n → el_g kd p fs j (ea_al d us' j) ∨ ∃ q ∈ e'.2.2.2.1, q.1 = a ∧ (j : Int) = xi_z r q.2.1) (hK : ∀ q ∈ e.2.2.2.1, q.1 ≠ a → q ∈ e'.2.2.2.1) (hO : e'.2.2.2.2 = e.2.2.2.2) (hR : ∀ q ∈ e'.2.2.2.1, (q ∈ e.2.2.2.1 ∧ q.1 ≠ a) ∨ xh_R r (C.set a (.inl (kd, n, d, us'))) q) : xh_g r G e' (C.set a (.inl (kd, n, d, us'))) := by
  refine ⟨fun b cj fs' hG' => ?_, fun b kd' n' p' fs' hG' => ?_, fun q hq => ?_⟩
  · obtain ⟨vs', n1, n2⟩ := hh.1 b cj fs' hG'
    have hab : a ≠ b := by rintro rfl; rw [hG] at hG'; cases hG'
    rw [hO]
    exact ⟨vs', by rw [nt_set_ne hab]; exact n1, n2⟩
  · by_cases hab : a = b
    · subst hab
      rw [hG] at hG'
      cases hG'
      exact ⟨d, us', nt_set_self hC, hel⟩
    · obtain ⟨d', us2, n1, n2⟩ := hh.2.1 b kd' n' p' fs' hG'
      refine ⟨d', us2, by rw [nt_set_ne hab]; exact n1, fun j hj => ?_⟩
      rcases n2 j hj with w | ⟨q, q1, q2, q3⟩
      · exact Or.inl w
      · exact Or.inr ⟨q, hK q q1 (by rw [q2]; exact fun h => hab h.symm), q2, q3⟩
  · rcases hR q hq with ⟨h1, h2⟩ | h1
    · obtain ⟨kd', n', d', us2, j, x, n1, n2⟩ := hh.2.2 q h1
      exact ⟨kd', n', d', us2, j, x, by rw [nt_set_ne (fun h => h2 h.symm)]; exact n1, n2⟩
    · exact h1
theorem xe_rf_mem {a : Nat} {q : Nat × XI × XI} (h : q ∈ (xe_rf e a).2.2.2.1) : q ∈ e.2.2.2.1 ∧ q.1 ≠ a := by
  have h' : q ∈ e.2.2.2.1.filter (fun q => !(Nat.beq q.1 a)) := h
  rw [List.mem_filter] at h'
  refine ⟨h'.1, ?_⟩
  rintro rfl
  have := h'.2
  rw [Nat.beq_refl] at this
  cases this
theorem xe_rf_in {a : Nat} {q : Nat × XI × XI} (h : q ∈ e.2.2.2.1) (hn : q.1 ≠ a) : q ∈ (xe_rf e a).2.2.2.1 := by
  show q ∈ e.2.2.2.1.filter (fun q => !(Nat.beq q.1 a))
  rw [List.mem_filter]
  refine ⟨h, ?_⟩
  cases hb : Nat.beq q.1 a with
  | false => rfl
  | true => exact absurd (Nat.eq_of_beq_eq_true hb) hn
/-- the same index -/
def xi_same (i j : XI) : Bool := Nat.beq i.2.1 j.2.1 && (decide (i.1 = j.1) && decide (i.2.2 = j.2.2))
theorem xi_same_ok {i j : XI} (h : xi_same i j = true) : i = j := by
  unfold xi_same at h
  simp only [Bool.and_eq_true, decide_eq_true_eq] at h
  obtain ⟨a1, a2, a3⟩ := i
  obtain ⟨b1, b2, b3⟩ := j
  obtain ⟨h1, h2, h3⟩ := h
  have h1' := Nat.eq_of_beq_eq_true h1
  dsimp only at h1' h2 h3
  subst h1' h2 h3
  rfl
/-- two indices that differ -/
def xi_dj (E : List (Nat × Int × Int)) (i j : XI) : Bool := match xi_bo E i, xi_bo E j with
  | some a, some b => decide (a.2 < b.1) || decide (b.2 < a.1)
  | _, _ => false
theorem xi_dj_ok (he : xe_g r e) {i j : XI} (h : xi_dj e.2.1 i j = true) : xi_z r i ≠ xi_z r j := by
  unfold xi_dj at h
  split at h
  · rename_i a b ha hb
    have h1 := xi_bo_ok he ha
    have h2 := xi_bo_ok he hb
    simp only [Bool.or_eq_true, decide_eq_true_eq] at h
    omega
  · cases h
/-- what is known of the elements that a store at i does not reach -/
def xe_rk (e : XE) (a : Nat) (i : XI) : XE := (e.1, e.2.1, e.2.2.1, e.2.2.2.1.filter (fun q => !(Nat.beq q.1 a) || xi_dj e.2.1 q.2.1 i), e.2.2.2.2)
theorem xe_rk_mem {a : Nat} {i : XI} {q : Nat × XI × XI} (h : q ∈ (xe_rk e a i).2.2.2.1) : q ∈ e.2.2.2.1 ∧ (q.1 ≠ a ∨ xi_dj e.2.1 q.2.1 i = true) := by
  have h' : q ∈ e.2.2.2.1.filter (fun q => !(Nat.beq q.1 a) || xi_dj e.2.1 q.2.1 i) := h
  rw [List.mem_filter] at h'
  refine ⟨h'.1, ?_⟩
  have h2 := h'.2
  simp only [Bool.or_eq_true] at h2
  rcases h2 with h2 | h2
  · left
    rintro rfl
    rw [Nat.beq_refl] at h2
    cases h2
  · exact Or.inr h2
theorem xe_rk_in {a : Nat} {i : XI} {q : Nat × XI × XI} (h : q ∈ e.2.2.2.1) (hn : q.1 ≠ a) : q ∈ (xe_rk e a i).2.2.2.1 := by
  show q ∈ e.2.2.2.1.filter (fun q => !(Nat.beq q.1 a) || xi_dj e.2.1 q.2.1 i)
  rw [List.mem_filter]
  refine ⟨h, ?_⟩
  cases hb : Nat.beq q.1 a with
  | false => rfl
  | true => exact absurd (Nat.eq_of_beq_eq_true hb) hn
/-- an int is stored -/
def xs_as (M : Nat → Bool) (G : Nat → Option CT) (pc : Nat) (S : List XV) (e : XE) : Option (Nat × List XV × XE) := match S with
  | .inl v :: .inl i :: .inr (.inl a) :: S => match G a with
    | some (.inr (0, n, p, fs)) => bif M a && (xs_ix e.2.1 i n && xR_c e.2.1 (e.2.2.2.1.filter (fun q => !xi_same q.2.1 i)) a p fs) then some (pc + 1, S, xe_r (xe_rk e a i) a i v) else none
    | _ => none
  | _ => none
theorem xs_as_ok {f : Nat × List XV × XE} (he : xe_g r e) (hs : xs_g r S cs) (hh : xh_g r G e C) (h : xs_as M G pc S e = some f) : xh_r r M G ini pl fty scr .iastore pc cs C f := by
  unfold xs_as at h
  split at h
  · rename_i v ii a S0
    split at h
    · rename_i n p fs hG
      cases hb : (M a && (xs_ix e.2.1 ii n && xR_c e.2.1 (e.2.2.2.1.filter (fun q => !xi_same q.2.1 ii)) a p fs)) with
      | false => rw [hb] at h; cases h
      | true =>
        rw [hb] at h
        cases h
        simp only [Bool.and_eq_true] at hb
        obtain ⟨hM, hix, hrc⟩ := hb
        obtain ⟨_, _, rfl, ⟨y, rfl, hy⟩, hs1⟩ := xs_pop hs
        obtain ⟨_, _, rfl, ⟨x, rfl, hx⟩, hs2⟩ := xs_pop hs1
        obtain ⟨v0, cs0, rfl, hv0, hs0⟩ := xs_pop hs2
        obtain rfl : v0 = .inr (.inl (some a)) := hv0
        obtain ⟨d, us, g1, g2⟩ := hh.2.1 a 0 n p fs hG
        obtain ⟨i1, i2, i3⟩ := xs_ix_ok he hix hx
        refine ⟨r, cs0, some (C.set a (.inl (0, n, d, (x.toNatClampNeg, .inl (.inl y)) :: us))), rn_le_rf r, he, hs0, ?_, fun b hb' => ?_, by simp only [ea_h, g1, i1]⟩
        · refine xh_seta hh hG g1 (fun j hj => ?_) (fun q q1 q2 => List.mem_cons_of_mem _ (xe_rk_in q1 q2)) rfl (fun q hq => ?_)
          · rw [ea_al_at]
            split
            · rename_i hjx
              subst hjx
              exact Or.inr ⟨_, List.mem_cons_self, rfl, i2⟩
            · rename_i hjx
              left
              rcases g2 j hj with w | ⟨q, q1, q2, q3⟩
              · exact w
              · have hns : xi_same q.2.1 ii = false := by
                  cases hsm : xi_same q.2.1 ii with
                  | false => rfl
                  | true =>
                    rw [xi_same_ok hsm] at q3
                    exact absurd (by omega) hjx
                have hm : q ∈ e.2.2.2.1.filter (fun q => !xi_same q.2.1 ii) := by
                  rw [List.mem_filter]
                  exact ⟨q1, by rw [hns]; rfl⟩
                exact xR_1_ok he (by decide) (hh.2.2 q q1) (by rw [q2]; exact g1) q3 (xR_c_mem hrc q hm q2)
          · rcases List.mem_cons.mp hq with rfl | hq
            · right
              refine ⟨0, n, d, _, x.toNatClampNeg, y, nt_set_self g1, hx.1, i2, ?_, hy⟩
              rw [ea_al_at, if_pos rfl]
            · obtain ⟨w1, w2⟩ := xe_rk_mem hq
              by_cases hqa : q.1 = a
              · right
                rcases w2 with w2 | w2
                · exact absurd hqa w2
                · obtain ⟨kd9, n9, d9, us9, j9, x9, z1, z2, z3, z4, z5⟩ := hh.2.2 q w1
                  rw [hqa, g1] at z1
                  cases z1
                  refine ⟨0, n, d, _, j9, x9, by rw [hqa]; exact nt_set_self g1, z2, z3, ?_, z5⟩
                  rw [ea_al_at, if_neg]
                  · exact z4
                  · intro hj9
                    exact xi_dj_ok he w2 (by rw [← z3, ← i2, hj9])
              · exact Or.inl ⟨w1, hqa⟩
        · show ea_nt (C.set a _) b = _
          have hab : a ≠ b := by rintro rfl; rw [hM] at hb'; cases hb'
          rw [nt_set_ne hab]
    · cases h
  · cases h
/-- a byte is stored -/
def xs_bs (M : Nat → Bool) (G : Nat → Option CT) (pc : Nat) (S : List XV) (e : XE) : Option (Nat × List XV × XE) := match S with
  | .inl _ :: .inl i :: .inr (.inl a) :: S => match G a with
    | some (.inr (2, n, p, fs)) => bif M a && xs_ix e.2.1 i n then bif xt_in fs (-128) 127 && (Nat.blt 0 p && (Nat.ble p fs.length && xR_c e.2.1 e.2.2.2.1 a p fs)) then some (pc + 1, S, xe_rf e a) else none
      else none
    | _ => none
  | _ => none
theorem xs_bs_ok {f : Nat × List XV × XE} (hny : ∀ x : Int32, -128 ≤ (vp_nar .byte x).toInt ∧ (vp_nar .byte x).toInt ≤ 127) (he : xe_g r e) (hs : xs_g r S cs) (hh : xh_g r G e C) (h : xs_bs M G pc S e = some f) : xh_r r M G ini pl fty scr .bastore pc cs C f := by
  unfold xs_bs at h
  split at h
  · rename_i v ii a S0
    split at h
    · rename_i n p fs hG
      cases hb : (M a && xs_ix e.2.1 ii n) with
      | false => rw [hb] at h; cases h
      | true =>
        rw [hb] at h
        simp only [cond_true] at h
        simp only [Bool.and_eq_true] at hb
        obtain ⟨hM, hix⟩ := hb
        cases hin' : (xt_in fs (-128) 127 && (Nat.blt 0 p && (Nat.ble p fs.length && xR_c e.2.1 e.2.2.2.1 a p fs))) with
        | false => rw [hin'] at h; cases h
        | true =>
          rw [hin'] at h
          cases h
          simp only [Bool.and_eq_true] at hin'
          obtain ⟨hin, hp0, hpl, hrc⟩ := hin'
          obtain ⟨_, _, rfl, ⟨y, rfl, hy⟩, hs1⟩ := xs_pop hs
          obtain ⟨_, _, rfl, ⟨x, rfl, hx⟩, hs2⟩ := xs_pop hs1
          obtain ⟨v0, cs0, rfl, hv0, hs0⟩ := xs_pop hs2
          obtain rfl : v0 = .inr (.inl (some a)) := hv0
          obtain ⟨d, us, g1, g2⟩ := hh.2.1 a 2 n p fs hG
          obtain ⟨i1, i2, i3⟩ := xs_ix_ok he hix hx
          refine ⟨r, cs0, some (C.set a (.inl (2, n, d, (x.toNatClampNeg, .inl (.inl (vp_nar .byte y))) :: us))), rn_le_rf r, he, hs0, ?_, fun b hb' => ?_, by simp only [ea_h, g1, i1, ea_i1]⟩
          · refine xh_seta hh hG g1 (fun j hj => Or.inl ?_) (fun q q1 q2 => xe_rf_in q1 q2) rfl (fun q hq => Or.inl (xe_rf_mem hq))
            rw [ea_al_at]
            split
            · rename_i hjx
              subst hjx
              obtain ⟨f0, f1⟩ := nt_some (l := fs) (k := x.toNatClampNeg % p) (Nat.lt_of_lt_of_le (Nat.mod_lt _ (blt_lt hp0)) (Nat.le_of_ble_eq_true hpl))
              exact el_put (by decide) ⟨f0, f1, xt_in_ok hin (nt_mem f1) (hny y).1 (hny y).2⟩
            · rcases g2 j hj with w | ⟨q, q1, q2, q3⟩
              · exact w
              · exact xR_1_ok he (by decide) (hh.2.2 q q1) (by rw [q2]; exact g1) q3 (xR_c_mem hrc q q1 q2)
          · show ea_nt (C.set a _) b = _
            have hab : a ≠ b := by rintro rfl; rw [hM] at hb'; cases hb'
            rw [nt_set_ne hab]
    · cases h
  · cases h
/-- longs -/
def xs_ll (G : Nat → Option CT) (pc : Nat) (S : List XV) (e : XE) : Option (Nat × List XV × XE) := match S with
  | .inl i :: .inr (.inl a) :: S => match G a with
    | some (.inr (1, n, _, _)) => bif xs_ix e.2.1 i n && xR_n e.2.2.2.1 a then some (pc + 1, .inr (.inr 0) :: S, e) else none
    | _ => none
  | _ => none
theorem xs_ll_ok {f : Nat × List XV × XE} (he : xe_g r e) (hs : xs_g r S cs) (hh : xh_g r G e C) (h : xs_ll G pc S e = some f) : xh_r r M G ini pl fty scr .laload pc cs C f := by
  unfold xs_ll at h
  split at h
  · rename_i ii a S0
    split at h
    · rename_i n p fs hG
      cases hix' : (xs_ix e.2.1 ii n && xR_n e.2.2.2.1 a) with
      | false => rw [hix'] at h; cases h
      | true =>
        rw [hix'] at h
        cases h
        simp only [Bool.and_eq_true] at hix'
        obtain ⟨hix, hrn⟩ := hix'
        obtain ⟨_, _, rfl, ⟨x, rfl, hx⟩, hs1⟩ := xs_pop hs
        obtain ⟨v0, cs0, rfl, hv0, hs0⟩ := xs_pop hs1
        obtain rfl : v0 = .inr (.inl (some a)) := hv0
        obtain ⟨d, us, g1, g2⟩ := hh.2.1 a 1 n p fs hG
        obtain ⟨i1, i2, i3⟩ := xs_ix_ok he hix hx
        obtain ⟨y, hy⟩ : ∃ y : Int64, ea_al d us x.toNatClampNeg = .inr (.inr (.inl (some y))) := (g2 _ i3).elim id (fun ⟨q, q1, q2, _⟩ => absurd q2 (xR_n_ok hrn q q1))
        exact ⟨r, _, none, rn_le_rf r, he, xs_cons (xv_gl r y) hs0, hh, fun _ _ => rfl, by simp only [ea_h, g1, i1, hy]⟩
    · cases h
  · cases h
def xs_lst (M : Nat → Bool) (G : Nat → Option CT) (pc : Nat) (S : List XV) (e : XE) : Option (Nat × List XV × XE) := match S with
  | .inr (.inr 0) :: .inl i :: .inr (.inl a) :: S => match G a with
    | some (.inr (1, n, _, _)) => bif M a && (xs_ix e.2.1 i n && xR_n e.2.2.2.1 a) then some (pc + 1, S, xe_rf e a) else none
    | _ => none
  | _ => none
theorem xs_lst_ok {f : Nat × List XV × XE} (he : xe_g r e) (hs : xs_g r S cs) (hh : xh_g r G e C) (h : xs_lst M G pc S e = some f) : xh_r r M G ini pl fty scr .lastore pc cs C f := by
  unfold xs_lst at h
  split at h
  · rename_i ii a S0
    split at h
    · rename_i n p fs hG
      cases hb : (M a && (xs_ix e.2.1 ii n && xR_n e.2.2.2.1 a)) with
      | false => rw [hb] at h; cases h
      | true =>
        rw [hb] at h
        cases h
        simp only [Bool.and_eq_true] at hb
        obtain ⟨hM, hix, hrn⟩ := hb
        obtain ⟨_, _, rfl, ⟨y, rfl⟩, hs1⟩ := xs_pop hs
        obtain ⟨_, _, rfl, ⟨x, rfl, hx⟩, hs2⟩ := xs_pop hs1
        obtain ⟨v0, cs0, rfl, hv0, hs0⟩ := xs_pop hs2
        obtain rfl : v0 = .inr (.inl (some a)) := hv0
        obtain ⟨d, us, g1, g2⟩ := hh.2.1 a 1 n p fs hG
        obtain ⟨i1, i2, i3⟩ := xs_ix_ok he hix hx
        refine ⟨r, cs0, some (C.set a (.inl (1, n, d, (x.toNatClampNeg, .inr (.inr (.inl (some y)))) :: us))), rn_le_rf r, he, hs0, ?_, fun b hb' => ?_, by simp only [ea_h, g1, i1]⟩
        · refine xh_seta hh hG g1 (fun j hj => Or.inl ?_) (fun q q1 q2 => xe_rf_in q1 q2) rfl (fun q hq => Or.inl (xe_rf_mem hq))
          rw [ea_al_at]
          split
          · exact ⟨y, rfl⟩
          · exact (g2 j hj).elim id (fun ⟨q, q1, q2, _⟩ => absurd q2 (xR_n_ok hrn q q1))
        · show ea_nt (C.set a _) b = _
          have hab : a ≠ b := by rintro rfl; rw [hM] at hb'; cases hb'
          rw [nt_set_ne hab]
    · cases h
  · cases h
/-- references: by a known index -/
def xs_aa (G : Nat → Option CT) (pc : Nat) (S : List XV) (e : XE) : Option (Nat × List XV × XE) := match S with
  | .inl i :: .inr (.inl a) :: S => match G a with
    | some (.inr (_ + 3, n, p, fs)) => if i.1 = 0 ∧ 0 ≤ i.2.2 ∧ i.2.2 < n ∧ xR_n e.2.2.2.1 a = true then match ea_nt fs (i.2.2.toNat % p) with
        | some (.inr k) => some (pc + 1, .inr (.inl k) :: S, e)
        | _ => none
      else none
    | _ => none
  | _ => none
theorem xs_aa_ok {f : Nat × List XV × XE} (he : xe_g r e) (hs : xs_g r S cs) (hh : xh_g r G e C) (h : xs_aa G pc S e = some f) : xh_r r M G ini pl fty scr .aaload pc cs C f := by
  unfold xs_aa at h
  split at h
  · rename_i ii a S0
    split at h
    · rename_i kd n p fs hG
      split at h
      · rename_i hc
        split at h
        · rename_i k hk
          cases h
          obtain ⟨_, _, rfl, ⟨x, rfl, hx⟩, hs1⟩ := xs_pop hs
          obtain ⟨v0, cs0, rfl, hv0, hs0⟩ := xs_pop hs1
          obtain rfl : v0 = .inr (.inl (some a)) := hv0
          obtain ⟨d, us, g1, g2⟩ := hh.2.1 a (kd + 3) n p fs hG
          have hz : x.toInt = ii.2.2 := by
            rw [hx.2, xi_z, hc.1]
            omega
          obtain ⟨i1, i2, i3⟩ := ix_ok (x := x) (n := n) (by omega) (by omega)
          obtain ⟨f0, f1, f2⟩ := el_get (by omega) ((g2 _ i3).elim id (fun ⟨q, q1, q2, _⟩ => absurd q2 (xR_n_ok hc.2.2.2 q q1)))
          have : x.toNatClampNeg = ii.2.2.toNat := by omega
          rw [← this, f1] at hk
          cases hk
          exact ⟨r, _, none, rn_le_rf r, he, xs_cons (a := .inr (.inl k)) rfl hs0, hh, fun _ _ => rfl, by simp only [ea_h, g1, i1, show ea_al d us x.toNatClampNeg = .inr (.inl (some k)) from f2]⟩
        · cases h
      · cases h
    · cases h
  · cases h
def xs_len (G : Nat → Option CT) (pc : Nat) (S : List XV) (e : XE) : Option (Nat × List XV × XE) := match S with
  | .inr (.inl a) :: S => match G a with
    | some (.inr (_, n, _, _)) => some (pc + 1, .inl (0, 0, (Int32.ofNat n).toInt) :: S, e)
    | _ => none
  | _ => none
theorem xs_len_ok {f : Nat × List XV × XE} (he : xe_g r e) (hs : xs_g r S cs) (hh : xh_g r G e C) (h : xs_len G pc S e = some f) : xh_r r M G ini pl fty scr .arraylength pc cs C f := by
  unfold xs_len at h
  split at h
  · rename_i a S0
    split at h
    · rename_i kd n p fs hG
      cases h
      obtain ⟨v0, cs0, rfl, hv0, hs0⟩ := xs_pop hs
      obtain rfl : v0 = .inr (.inl (some a)) := hv0
      obtain ⟨d, us, g1, g2⟩ := hh.2.1 a kd n p fs hG
      exact ⟨r, _, none, rn_le_rf r, he, xs_cons (xv_gi (xi_c he (Int32.ofNat n))) hs0, hh, fun _ _ => rfl, by simp only [ea_h, g1]⟩
    · cases h
  · cases h
end XA
end
