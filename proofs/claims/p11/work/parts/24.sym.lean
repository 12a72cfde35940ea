/-! THE CHECKER, its values: an int is so many times a symbol and a number more; a cell; a long; the script; some reference. Symbols have values (RN: which, and how many symbols there are) -/
abbrev XI : Type := Int × Nat × Int
abbrev XV : Type := XI ⊕ (Nat ⊕ Nat)
abbrev RN : Type := (Nat → Int) × Nat
def xi_z (r : RN) (i : XI) : Int := i.1 * r.1 i.2.1 + i.2.2
def xi_g (r : RN) (i : XI) (x : Int32) : Prop := i.2.1 < r.2 ∧ x.toInt = xi_z r i
def xv_g (r : RN) (a : XV) (v : AV) : Prop := match a with
  | .inl i => ∃ x : Int32, v = .inl (.inl x) ∧ xi_g r i x
  | .inr (.inl k) => v = .inr (.inl (some k))
  | .inr (.inr 0) => ∃ y : Int64, v = .inr (.inr (.inl (some y)))
  | .inr (.inr 1) => v = .inr (.inr (.inr (.inl true)))
  | .inr (.inr 2) => v = .inr (.inr (.inr (.inl false)))
  | .inr (.inr (q + 3)) => v = .inr (.inr (.inr (.inr q)))
def rn_le (r r' : RN) : Prop := r.2 ≤ r'.2 ∧ ∀ i, i < r.2 → r'.1 i = r.1 i
theorem rn_le_rf (r : RN) : rn_le r r := ⟨Nat.le_refl _, fun _ _ => rfl⟩
theorem rn_le_tr {a b c : RN} (h1 : rn_le a b) (h2 : rn_le b c) : rn_le a c := ⟨Nat.le_trans h1.1 h2.1, fun i hi => (h2.2 i (Nat.lt_of_lt_of_le hi h1.1)).trans (h1.2 i hi)⟩
theorem xi_g_mono {r r' : RN} (h : rn_le r r') {i : XI} {x : Int32} (hx : xi_g r i x) : xi_g r' i x := by
  refine ⟨Nat.lt_of_lt_of_le hx.1 h.1, ?_⟩
  rw [hx.2, xi_z, xi_z, h.2 _ hx.1]
theorem xv_g_mono {r r' : RN} (h : rn_le r r') {a : XV} {v : AV} (hv : xv_g r a v) : xv_g r' a v := by
  match a, hv with
  | .inl i, ⟨x, e, hx⟩ => exact ⟨x, e, xi_g_mono h hx⟩
  | .inr (.inl k), e => exact e
  | .inr (.inr 0), e => exact e
  | .inr (.inr 1), e => exact e
  | .inr (.inr 2), e => exact e
  | .inr (.inr (_ + 3)), e => exact e
def xv_cat (a : XV) : Nat := match a with
  | .inr (.inr 0) => 2
  | _ => 1
theorem xv_g_cat {r : RN} {a : XV} {v : AV} (h : xv_g r a v) : ea_cat v = xv_cat a := by
  match a, h with
  | .inl i, ⟨x, e, hx⟩ => rw [e]; rfl
  | .inr (.inl k), e => rw [show v = _ from e]; rfl
  | .inr (.inr 0), ⟨y, e⟩ => rw [e]; rfl
  | .inr (.inr 1), e => rw [show v = _ from e]; rfl
  | .inr (.inr 2), e => rw [show v = _ from e]; rfl
  | .inr (.inr (_ + 3)), e => rw [show v = _ from e]; rfl
/-- what is known: how many symbols; bounds of symbols; differences of symbols; elements of arrays; fields -/
abbrev XE : Type := Nat × List (Nat × Int × Int) × List (Nat × Nat × Int) × List (Nat × XI × XI) × List (Nat × Nat × XI)
def xe_g (r : RN) (e : XE) : Prop := 0 < r.2 ∧ r.2 = e.1 ∧ (∀ q ∈ e.2.1, q.1 < r.2 ∧ q.2.1 ≤ r.1 q.1 ∧ r.1 q.1 ≤ q.2.2) ∧ (∀ q ∈ e.2.2.1, q.1 < r.2 ∧ q.2.1 < r.2 ∧ r.1 q.1 - r.1 q.2.1 ≤ q.2.2)
def xe_k (E : List (Nat × Int × Int)) (i : Nat) : Option (Int × Int) := match E with
  | [] => none
  | q :: t => bif Nat.beq q.1 i then some q.2 else xe_k t i
theorem xe_k_mem : ∀ {E : List (Nat × Int × Int)} {i : Nat} {q : Int × Int}, xe_k E i = some q → (i, q) ∈ E
  | [], i, q, h => by cases h
  | p :: t, i, q, h => by
    unfold xe_k at h
    cases hb : Nat.beq p.1 i with
    | true =>
      rw [hb] at h
      cases h
      have e : p.1 = i := Nat.eq_of_beq_eq_true hb
      subst e
      exact List.mem_cons_self
    | false =>
      rw [hb] at h
      exact List.mem_cons_of_mem _ (xe_k_mem h)
/-- bounds of an int -/
def xi_bo (E : List (Nat × Int × Int)) (i : XI) : Option (Int × Int) := if i.1 = 0 then some (i.2.2, i.2.2) else match xe_k E i.2.1 with
  | some q => if 0 ≤ i.1 then some (i.1 * q.1 + i.2.2, i.1 * q.2 + i.2.2) else some (i.1 * q.2 + i.2.2, i.1 * q.1 + i.2.2)
  | none => none
def xi_b (E : List (Nat × Int × Int)) (i : XI) : Int × Int := match xi_bo E i with
  | some q => q
  | none => (-2147483648, 2147483647)
theorem xi_bo_ok {r : RN} {e : XE} (he : xe_g r e) {i : XI} {q : Int × Int} (h : xi_bo e.2.1 i = some q) : q.1 ≤ xi_z r i ∧ xi_z r i ≤ q.2 := by
  unfold xi_bo at h
  split at h
  · rename_i h0
    cases h
    unfold xi_z
    rw [h0]
    constructor <;> simp
  · split at h
    · rename_i p hp
      obtain ⟨-, h1, h2⟩ := he.2.2.1 _ (xe_k_mem hp)
      dsimp only at h1 h2
      unfold xi_z
      split at h
      · rename_i hn
        cases h
        have a1 := Int.mul_le_mul_of_nonneg_left h1 hn
        have a2 := Int.mul_le_mul_of_nonneg_left h2 hn
        dsimp only
        omega
      · rename_i hn
        cases h
        have hn' : 0 ≤ -i.1 := by omega
        have a1 := Int.mul_le_mul_of_nonneg_left h1 hn'
        have a2 := Int.mul_le_mul_of_nonneg_left h2 hn'
        rw [Int.neg_mul, Int.neg_mul] at a1 a2
        dsimp only
        omega
    · cases h
theorem xi_b_ok {r : RN} {e : XE} (he : xe_g r e) {i : XI} {x : Int32} (hx : xi_g r i x) : (xi_b e.2.1 i).1 ≤ x.toInt ∧ x.toInt ≤ (xi_b e.2.1 i).2 := by
  unfold xi_b
  cases hb : xi_bo e.2.1 i with
  | none => exact ⟨Int32.le_toInt x, Int.le_of_lt_add_one (Int32.toInt_lt x)⟩
  | some q => rw [hx.2]; exact xi_bo_ok he hb
/-- what an operation gives: an int, and what is known then -/
def xo_ok (r : RN) (e : XE) (p : XI × XE) (x : Int32) : Prop := ∃ r', rn_le r r' ∧ xe_g r' p.2 ∧ xi_g r' p.1 x ∧ p.2.2.2.2 = e.2.2.2
theorem xo_const {r : RN} {e : XE} (he : xe_g r e) {z : Int} {x : Int32} (h : x.toInt = z) : xo_ok r e ((0, 0, z), e) x := ⟨r, rn_le_rf r, he, ⟨he.1, by rw [h]; simp [xi_z]⟩, rfl⟩
def xo_new (e : XE) (lo hi : Int) : XI × XE := if lo = hi then ((0, 0, lo), e) else ((1, e.1, 0), (e.1 + 1, (e.1, lo, hi) :: e.2.1, e.2.2))
def rn_put (r : RN) (z : Int) : RN := (fun i => if i = r.2 then z else r.1 i, r.2 + 1)
theorem rn_put_le (r : RN) (z : Int) : rn_le r (rn_put r z) := ⟨Nat.le_succ _, fun i hi => by
  show (if i = r.2 then z else r.1 i) = _
  rw [if_neg (by omega)]⟩
theorem rn_put_at (r : RN) (z : Int) : (rn_put r z).1 r.2 = z := if_pos rfl
theorem xe_g_put {r : RN} {e : XE} (he : xe_g r e) {lo hi z : Int} (h1 : lo ≤ z) (h2 : z ≤ hi) : xe_g (rn_put r z) (e.1 + 1, (e.1, lo, hi) :: e.2.1, e.2.2) := by
  obtain ⟨g1, g2, g3, g4⟩ := he
  have hp := rn_put_le r z
  refine ⟨Nat.succ_pos _, by rw [← g2]; rfl, fun q hq => ?_, fun q hq => ?_⟩
  · rcases List.mem_cons.mp hq with rfl | hq
    · rw [← g2]
      refine ⟨Nat.lt_succ_self _, ?_⟩
      dsimp only
      rw [rn_put_at]
      exact ⟨h1, h2⟩
    · obtain ⟨a, b, c⟩ := g3 q hq
      refine ⟨Nat.lt_of_lt_of_le a hp.1, ?_⟩
      rw [hp.2 _ a]
      exact ⟨b, c⟩
  · obtain ⟨a, b, c⟩ := g4 q hq
    refine ⟨Nat.lt_of_lt_of_le a hp.1, Nat.lt_of_lt_of_le b hp.1, ?_⟩
    rw [hp.2 _ a, hp.2 _ b]
    exact c
theorem xo_new_ok {r : RN} {e : XE} (he : xe_g r e) {lo hi : Int} {x : Int32} (h1 : lo ≤ x.toInt) (h2 : x.toInt ≤ hi) : xo_ok r e (xo_new e lo hi) x := by
  unfold xo_new
  split
  · exact xo_const he (by omega)
  · refine ⟨rn_put r x.toInt, rn_put_le _ _, xe_g_put he h1 h2, ⟨?_, ?_⟩, rfl⟩
    · rw [← he.2.1]; exact Nat.lt_succ_self _
    · show x.toInt = 1 * (rn_put r x.toInt).1 e.1 + 0
      rw [← he.2.1, rn_put_at]
      omega
/-- an int that may fit -/
def xo_fit (e : XE) (c : XI) (d : XI × XE) : XI × XE := match xi_bo e.2.1 c with
  | some b => if -2147483648 ≤ b.1 ∧ b.2 ≤ 2147483647 then (c, e) else d
  | none => d
theorem xo_fit_ok {r : RN} {e : XE} (he : xe_g r e) {c : XI} {d : XI × XE} {x : Int32} (hc : c.2.1 < r.2) (hx : x.toInt = (xi_z r c).bmod (2 ^ 32)) (hd : xo_ok r e d x) : xo_ok r e (xo_fit e c d) x := by
  unfold xo_fit
  split
  · rename_i b hb
    split
    · rename_i hf
      have h := xi_bo_ok he hb
      refine ⟨r, rn_le_rf r, he, ⟨hc, ?_⟩, rfl⟩
      rw [hx]
      exact iv_bm (by omega) (by omega)
    · exact hd
  · exact hd
def xo_ai (e : XE) (i : XI) : AI := ea_mk (xi_b e.2.1 i).1 (xi_b e.2.1 i).2
theorem xo_ai_ok {r : RN} {e : XE} (he : xe_g r e) {i : XI} {x : Int32} (hx : xi_g r i x) : ea_gi (xo_ai e i) x := ea_mk_ok (xi_b_ok he hx).1 (xi_b_ok he hx).2
def xo_of (e : XE) (a : AI) : XI × XE := match a with
  | .inl x => ((0, 0, x.toInt), e)
  | .inr q => xo_new e q.1 q.2
theorem xo_of_ok {r : RN} {e : XE} (he : xe_g r e) {a : AI} {x : Int32} (h : ea_gi a x) : xo_ok r e (xo_of e a) x := by
  match a, h with
  | .inl y, h => exact xo_const he (by rw [show x = y from h])
  | .inr q, h => exact xo_new_ok he h.1 h.2
def xo_2 (f : Int32 → Int32 → Int32) (g : AI → AI → AI) (e : XE) (i j : XI) : XI × XE := xo_of e (iv_2 f g (xo_ai e i) (xo_ai e j))
theorem xo_2_ok {f : Int32 → Int32 → Int32} {g : AI → AI → AI} (hg : ∀ i j x y, ea_gi i x → ea_gi j y → ea_gi (g i j) (f x y)) {r : RN} {e : XE} (he : xe_g r e) {i j : XI} {x y : Int32} (hx : xi_g r i x) (hy : xi_g r j y) : xo_ok r e (xo_2 f g e i j) (f x y) := xo_of_ok he (iv_2_ok hg (xo_ai_ok he hx) (xo_ai_ok he hy))
/-- sums -/
def xo_ca (i j : XI) : Option XI := if i.1 = 0 then some (j.1, j.2.1, j.2.2 + i.2.2) else if j.1 = 0 then some (i.1, i.2.1, i.2.2 + j.2.2) else if i.2.1 = j.2.1 then some (i.1 + j.1, i.2.1, i.2.2 + j.2.2) else none
theorem xo_ca_ok {r : RN} {i j c : XI} (h : xo_ca i j = some c) (hi : i.2.1 < r.2) (hj : j.2.1 < r.2) : c.2.1 < r.2 ∧ xi_z r c = xi_z r i + xi_z r j := by
  unfold xo_ca at h
  unfold xi_z
  split at h
  · rename_i h0
    cases h
    refine ⟨hj, ?_⟩
    rw [h0]
    dsimp only
    omega
  · split at h
    · rename_i h0
      cases h
      refine ⟨hi, ?_⟩
      rw [h0]
      dsimp only
      omega
    · split at h
      · rename_i hs
        cases h
        refine ⟨hi, ?_⟩
        dsimp only
        rw [Int.add_mul, ← hs]
        omega
      · cases h
def xo_add (e : XE) (i j : XI) : XI × XE := match xo_ca i j with
  | some c => xo_fit e c (xo_2 (fun x y => x + y) iv_addg e i j)
  | none => xo_2 (fun x y => x + y) iv_addg e i j
theorem xo_add_ok {r : RN} {e : XE} (he : xe_g r e) {i j : XI} {x y : Int32} (hx : xi_g r i x) (hy : xi_g r j y) : xo_ok r e (xo_add e i j) (x + y) := by
  have hd : xo_ok r e (xo_2 (fun x y => x + y) iv_addg e i j) (x + y) := xo_2_ok iv_addg_ok he hx hy
  unfold xo_add
  split
  · rename_i c hc
    obtain ⟨h1, h2⟩ := xo_ca_ok hc hx.1 hy.1
    refine xo_fit_ok he h1 ?_ hd
    rw [h2, ← hx.2, ← hy.2]
    exact Int32.toInt_add x y
  · exact hd
/-- differences -/
def xe_d (D : List (Nat × Nat × Int)) (a b : Nat) : Option Int := match D with
  | [] => none
  | q :: t => bif Nat.beq q.1 a && Nat.beq q.2.1 b then some q.2.2 else xe_d t a b
theorem xe_d_mem : ∀ {D : List (Nat × Nat × Int)} {a b : Nat} {k : Int}, xe_d D a b = some k → (a, b, k) ∈ D
  | [], a, b, k, h => by cases h
  | q :: t, a, b, k, h => by
    unfold xe_d at h
    cases hb : (Nat.beq q.1 a && Nat.beq q.2.1 b) with
    | true =>
      rw [hb] at h
      cases h
      simp only [Bool.and_eq_true] at hb
      have e1 : q.1 = a := Nat.eq_of_beq_eq_true hb.1
      have e2 : q.2.1 = b := Nat.eq_of_beq_eq_true hb.2
      subst e1
      subst e2
      exact List.mem_cons_self
    | false =>
      rw [hb] at h
      exact List.mem_cons_of_mem _ (xe_d_mem h)
/-- at most so much is i above j -/
def xi_du (e : XE) (i j : XI) : Int :=
  let u := (xi_b e.2.1 i).2 - (xi_b e.2.1 j).1
  if i.2.1 = j.2.1 then (match xi_bo e.2.1 (i.1 - j.1, i.2.1, i.2.2 - j.2.2) with
    | some b => b.2
    | none => u)
  else if i.1 = 1 ∧ j.1 = 1 then (match xe_d e.2.2.1 i.2.1 j.2.1 with
    | some k => min u (k + i.2.2 - j.2.2)
    | none => u) else u
theorem xi_du_ok {r : RN} {e : XE} (he : xe_g r e) {i j : XI} {x y : Int32} (hx : xi_g r i x) (hy : xi_g r j y) : x.toInt - y.toInt ≤ xi_du e i j := by
  have a := xi_b_ok he hx
  have b := xi_b_ok he hy
  unfold xi_du
  dsimp only
  split
  · rename_i hs
    split
    · rename_i q hq
      have h := (xi_bo_ok he hq).2
      have z : xi_z r (i.1 - j.1, i.2.1, i.2.2 - j.2.2) = xi_z r i - xi_z r j := by
        unfold xi_z
        dsimp only
        rw [Int.sub_mul, ← hs]
        omega
      rw [z, ← hx.2, ← hy.2] at h
      exact h
    · omega
  · split
    · rename_i h1
      have zx := hx.2
      have zy := hy.2
      unfold xi_z at zx zy
      rw [h1.1] at zx
      rw [h1.2] at zy
      split
      · rename_i k hk
        obtain ⟨-, -, hd⟩ := he.2.2.2 _ (xe_d_mem hk)
        dsimp only at hd
        omega
      · omega
    · omega
def xo_cs (i j : XI) : Option XI := if j.1 = 0 then some (i.1, i.2.1, i.2.2 - j.2.2) else if i.1 = 0 then some (-j.1, j.2.1, i.2.2 - j.2.2) else if i.2.1 = j.2.1 then some (i.1 - j.1, i.2.1, i.2.2 - j.2.2) else none
theorem xo_cs_ok {r : RN} {i j c : XI} (h : xo_cs i j = some c) (hi : i.2.1 < r.2) (hj : j.2.1 < r.2) : c.2.1 < r.2 ∧ xi_z r c = xi_z r i - xi_z r j := by
  unfold xo_cs at h
  unfold xi_z
  split at h
  · rename_i h0
    cases h
    refine ⟨hi, ?_⟩
    rw [h0]
    dsimp only
    omega
  · split at h
    · rename_i h0
      cases h
      refine ⟨hj, ?_⟩
      rw [h0]
      dsimp only
      rw [Int.neg_mul]
      omega
    · split at h
      · rename_i hs
        cases h
        refine ⟨hi, ?_⟩
        dsimp only
        rw [Int.sub_mul, ← hs]
        omega
      · cases h
def xo_sd (e : XE) (i j : XI) : XI × XE :=
  let hi := xi_du e i j
  let lo := - xi_du e j i
  if -2147483648 ≤ lo ∧ hi ≤ 2147483647 then xo_new e lo hi else xo_2 (fun x y => x - y) iv_subg e i j
def xo_sub (e : XE) (i j : XI) : XI × XE := match xo_cs i j with
  | some c => xo_fit e c (xo_2 (fun x y => x - y) iv_subg e i j)
  | none => xo_sd e i j
theorem xo_sub_ok {r : RN} {e : XE} (he : xe_g r e) {i j : XI} {x y : Int32} (hx : xi_g r i x) (hy : xi_g r j y) : xo_ok r e (xo_sub e i j) (x - y) := by
  have hd : xo_ok r e (xo_2 (fun x y => x - y) iv_subg e i j) (x - y) := xo_2_ok iv_subg_ok he hx hy
  unfold xo_sub
  split
  · rename_i c hc
    obtain ⟨h1, h2⟩ := xo_cs_ok hc hx.1 hy.1
    refine xo_fit_ok he h1 ?_ hd
    rw [h2, ← hx.2, ← hy.2]
    exact Int32.toInt_sub x y
  · unfold xo_sd
    dsimp only
    split
    · rename_i hf
      have a := xi_du_ok he hx hy
      have b := xi_du_ok he hy hx
      have hz : (x - y).toInt = x.toInt - y.toInt := by
        rw [Int32.toInt_sub]
        exact iv_bm (by omega) (by omega)
      exact xo_new_ok he (by omega) (by omega)
    · exact hd
/-- products -/
def xo_cm (i j : XI) : Option XI := if i.1 = 0 then some (i.2.2 * j.1, j.2.1, i.2.2 * j.2.2) else if j.1 = 0 then some (j.2.2 * i.1, i.2.1, j.2.2 * i.2.2) else none
theorem xo_cm_ok {r : RN} {i j c : XI} (h : xo_cm i j = some c) (hi : i.2.1 < r.2) (hj : j.2.1 < r.2) : c.2.1 < r.2 ∧ xi_z r c = xi_z r i * xi_z r j := by
  unfold xo_cm at h
  unfold xi_z
  split at h
  · rename_i h0
    cases h
    refine ⟨hj, ?_⟩
    rw [h0]
    dsimp only
    rw [Int.zero_mul, Int.zero_add, Int.mul_add, Int.mul_assoc]
  · split at h
    · rename_i h0
      cases h
      refine ⟨hi, ?_⟩
      rw [h0]
      dsimp only
      rw [Int.zero_mul, Int.zero_add, Int.mul_comm _ j.2.2, Int.mul_add, Int.mul_assoc]
    · cases h
def xo_mul (e : XE) (i j : XI) : XI × XE := match xo_cm i j with
  | some c => xo_fit e c (xo_2 (fun x y => x * y) iv_mulg e i j)
  | none => xo_2 (fun x y => x * y) iv_mulg e i j
theorem xo_mul_ok {r : RN} {e : XE} (he : xe_g r e) {i j : XI} {x y : Int32} (hx : xi_g r i x) (hy : xi_g r j y) : xo_ok r e (xo_mul e i j) (x * y) := by
  have hd : xo_ok r e (xo_2 (fun x y => x * y) iv_mulg e i j) (x * y) := xo_2_ok iv_mulg_ok he hx hy
  unfold xo_mul
  split
  · rename_i c hc
    obtain ⟨h1, h2⟩ := xo_cm_ok hc hx.1 hy.1
    refine xo_fit_ok he h1 ?_ hd
    rw [h2, ← hx.2, ← hy.2]
    exact Int32.toInt_mul x y
  · exact hd
def xo_neg (e : XE) (i : XI) : XI × XE := xo_fit e (-i.1, i.2.1, -i.2.2) (xo_new e (-2147483648) 2147483647)
theorem xo_any {r : RN} {e : XE} (he : xe_g r e) (x : Int32) : xo_ok r e (xo_new e (-2147483648) 2147483647) x := xo_new_ok he (Int32.le_toInt x) (Int.le_of_lt_add_one (Int32.toInt_lt x))
theorem xo_neg_ok {r : RN} {e : XE} (he : xe_g r e) {i : XI} {x : Int32} (hx : xi_g r i x) : xo_ok r e (xo_neg e i) (-x) := by
  refine xo_fit_ok he hx.1 ?_ (xo_any he _)
  have : xi_z r (-i.1, i.2.1, -i.2.2) = - xi_z r i := by
    unfold xi_z
    dsimp only
    rw [Int.neg_mul]
    omega
  rw [this, ← hx.2]
  exact Int32.toInt_neg x
/-- twice -/
theorem shl1 (x : Int32) : x <<< ((1 : Int32) &&& 31) = x * 2 := by
  apply Int32.toBitVec_inj.mp
  rw [Int32.toBitVec_shiftLeft, Int32.toBitVec_mul]
  rw [show ((1 : Int32) &&& 31).toBitVec.smod 32 = 1#32 from by decide]
  rw [BitVec.shiftLeft_eq', show (1#32).toNat = 1 from rfl, BitVec.shiftLeft_eq_mul_twoPow]
  rfl
def xo_shl (e : XE) (i j : XI) : XI × XE := if j.1 = 0 ∧ j.2.2 = 1 then xo_mul e i (0, 0, 2) else xo_2 (fun x y => x <<< (y &&& 31)) iv_shlg e i j
theorem xo_shl_ok {r : RN} {e : XE} (he : xe_g r e) {i j : XI} {x y : Int32} (hx : xi_g r i x) (hy : xi_g r j y) : xo_ok r e (xo_shl e i j) (x <<< (y &&& 31)) := by
  unfold xo_shl
  split
  · rename_i h
    have y1 : y = 1 := by
      apply Int32.toInt_inj.mp
      rw [hy.2, xi_z, h.1, h.2]
      show 0 * _ + 1 = (1 : Int)
      omega
    subst y1
    rw [shl1]
    refine xo_mul_ok he hx ⟨he.1, ?_⟩
    rw [xi_z]
    show (2 : Int32).toInt = 0 * _ + 2
    rw [Int.zero_mul]
    rfl
  · exact xo_2_ok iv_shlg_ok he hx hy
