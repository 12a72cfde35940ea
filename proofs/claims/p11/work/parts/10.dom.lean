/-! THE ABSTRACT MACHINE, its values: an int that is known or lies between two bounds; a reference by its place in the list of cells, or null; a long that is known or not; the script, or a reference of which nothing is known. -/
abbrev AI : Type := Int32 ⊕ (Int × Int)
abbrev AV : Type := AI ⊕ (Option Nat ⊕ (Option Int64 ⊕ (Bool ⊕ Nat)))
/-- addresses of things that stay: the script's, the Strings', their bytes'; which Strings: 64 times the text (as digits to the base 256 behind a one) and the String's number. A value 2 z is the String z, 2 z + 1 its bytes; 0: what Preconditions' formatter is -/
abbrev SB : Type := Nat × (Nat → Nat) × (Nat → Nat) × List Nat × Value
def sx_ad (sb : SB) (q : Nat) : Nat := if q % 2 = 0 then sb.2.1 (q / 2 % 64) else sb.2.2.1 (q / 2 % 64)
/-- a cell: an array (kind, length, what stands where nothing was stored, what was stored, the latest first) or an object (its class's number, its fields) -/
abbrev AC : Type := (Nat × Nat × AV × List (Nat × AV)) ⊕ (Nat × List AV)
def ea_gi (i : AI) (x : Int32) : Prop := match i with
  | .inl y => x = y
  | .inr q => q.1 ≤ x.toInt ∧ x.toInt ≤ q.2
def ea_gv (ad : SB × List Nat) (a : AV) (v : Value) : Prop := match a with
  | .inl i => ∃ x : Int32, v = .int x ∧ ea_gi i x
  | .inr (.inl none) => v = .null
  | .inr (.inl (some k)) => ∃ q : Nat, v = .ref q ∧ ad.2[k]? = some q
  | .inr (.inr (.inl none)) => ∃ x : Int64, v = .long x
  | .inr (.inr (.inl (some y))) => v = .long y
  | .inr (.inr (.inr (.inl true))) => v = .ref ad.1.1
  | .inr (.inr (.inr (.inl false))) => ∃ q : Nat, v = .ref q
  | .inr (.inr (.inr (.inr 0))) => v = ad.1.2.2.2.2 ∧ v.category = 1
  | .inr (.inr (.inr (.inr (q + 1)))) => v = .ref (sx_ad ad.1 (q + 1)) ∧ (q + 1) / 2 ∈ ad.1.2.2.2.1
def ea_cat (a : AV) : Nat := match a with
  | .inr (.inr (.inl _)) => 2
  | _ => 1
theorem ea_gv_cat {ad : SB × List Nat} {a : AV} {v : Value} (h : ea_gv ad a v) : v.category = ea_cat a := by
  match a, h with
  | .inl i, ⟨x, e, _⟩ => rw [e]; rfl
  | .inr (.inl none), e => rw [show v = .null from e]; rfl
  | .inr (.inl (some k)), ⟨q, e, _⟩ => rw [e]; rfl
  | .inr (.inr (.inl none)), ⟨x, e⟩ => rw [e]; rfl
  | .inr (.inr (.inl (some y))), e => rw [show v = .long y from e]; rfl
  | .inr (.inr (.inr (.inl true))), e => rw [show v = .ref ad.1.1 from e]; rfl
  | .inr (.inr (.inr (.inl false))), ⟨q, e⟩ => rw [e]; rfl
  | .inr (.inr (.inr (.inr 0))), ⟨_, e⟩ => exact e
  | .inr (.inr (.inr (.inr (q + 1)))), ⟨e, _⟩ => rw [e]; rfl
theorem ea_gv_mono {ad ad' : SB × List Nat} (hp : ad.1 = ad'.1 ∧ ∀ k q : Nat, ad.2[k]? = some q → ad'.2[k]? = some q) {a : AV} {v : Value} (h : ea_gv ad a v) : ea_gv ad' a v := by
  match a, h with
  | .inl i, h => exact h
  | .inr (.inl none), h => exact h
  | .inr (.inl (some k)), ⟨q, e, hk⟩ => exact ⟨q, e, hp.2 k q hk⟩
  | .inr (.inr (.inl none)), h => exact h
  | .inr (.inr (.inl (some y))), h => exact h
  | .inr (.inr (.inr (.inl true))), h => exact (show v = .ref ad.1.1 from h).trans (by rw [hp.1])
  | .inr (.inr (.inr (.inl false))), h => exact h
  | .inr (.inr (.inr (.inr 0))), ⟨e, hq⟩ => exact ⟨by rw [e, hp.1], hq⟩
  | .inr (.inr (.inr (.inr (q + 1)))), ⟨e, hq⟩ => exact ⟨by rw [e, hp.1], by rw [← hp.1]; exact hq⟩
/-- a reference, not null -/
def ea_isr (a : AV) : Bool := match a with
  | .inr (.inl (some _)) => true
  | .inr (.inr (.inr (.inl _))) => true
  | .inr (.inr (.inr (.inr (_ + 1)))) => true
  | _ => false
theorem ea_isr_ok {ad : SB × List Nat} {a : AV} {v : Value} (h : ea_isr a = true) (hv : ea_gv ad a v) : ∃ x : Nat, v = .ref x := by
  match a, h, hv with
  | .inr (.inl (some k)), _, ⟨q, e, _⟩ => exact ⟨q, e⟩
  | .inr (.inr (.inr (.inl true))), _, e => exact ⟨ad.1.1, e⟩
  | .inr (.inr (.inr (.inl false))), _, e => exact e
  | .inr (.inr (.inr (.inr (q + 1)))), _, ⟨e, _⟩ => exact ⟨_, e⟩
/-- lists, place by place -/
def ea_rl {α β : Type} (R : α → β → Prop) : List α → List β → Prop
  | [], [] => True
  | a :: as, b :: bs => R a b ∧ ea_rl R as bs
  | _, _ => False
theorem ea_rl_nil {α β : Type} {R : α → β → Prop} {bs : List β} (h : ea_rl R [] bs) : bs = [] := by
  cases bs with
  | nil => rfl
  | cons b t => exact h.elim
theorem ea_rl_cons {α β : Type} {R : α → β → Prop} {a : α} {as : List α} {bs : List β} (h : ea_rl R (a :: as) bs) : ∃ b t, bs = b :: t ∧ R a b ∧ ea_rl R as t := by
  cases bs with
  | nil => exact h.elim
  | cons b t => exact ⟨b, t, rfl, h.1, h.2⟩
theorem ea_rl_len {α β : Type} {R : α → β → Prop} : ∀ {as : List α} {bs : List β}, ea_rl R as bs → as.length = bs.length
  | [], [], _ => rfl
  | a :: as, b :: bs, h => by rw [List.length_cons, List.length_cons, ea_rl_len h.2]
  | [], _ :: _, h => h.elim
  | _ :: _, [], h => h.elim
theorem ea_rl_get {α β : Type} {R : α → β → Prop} : ∀ {as : List α} {bs : List β}, ea_rl R as bs → ∀ {k : Nat} {a : α}, as[k]? = some a → ∃ b, bs[k]? = some b ∧ R a b
  | [], [], _, k, a, h => by simp at h
  | a :: as, b :: bs, h, 0, a', e => by simp at e; subst e; exact ⟨b, rfl, h.1⟩
  | a :: as, b :: bs, h, k + 1, a', e => by simp at e; obtain ⟨b', h1, h2⟩ := ea_rl_get h.2 e; exact ⟨b', by simpa using h1, h2⟩
  | [], _ :: _, h, _, _, _ => h.elim
  | _ :: _, [], h, _, _, _ => h.elim
theorem ea_rl_set {α β : Type} {R : α → β → Prop} : ∀ {as : List α} {bs : List β}, ea_rl R as bs → ∀ (k : Nat) {a : α} {b : β}, R a b → ea_rl R (as.set k a) (bs.set k b)
  | [], [], _, k, a, b, _ => by simp [ea_rl]
  | a :: as, b :: bs, h, 0, a', b', e => ⟨e, h.2⟩
  | a :: as, b :: bs, h, k + 1, a', b', e => ⟨h.1, ea_rl_set h.2 k e⟩
  | [], _ :: _, h, _, _, _, _ => h.elim
  | _ :: _, [], h, _, _, _, _ => h.elim
theorem ea_rl_app {α β : Type} {R : α → β → Prop} : ∀ {as : List α} {bs : List β}, ea_rl R as bs → ∀ {cs : List α} {ds : List β}, ea_rl R cs ds → ea_rl R (as ++ cs) (bs ++ ds)
  | [], [], _, _, _, h => h
  | a :: as, b :: bs, h, _, _, h2 => ⟨h.1, ea_rl_app h.2 h2⟩
  | [], _ :: _, h, _, _, _ => h.elim
  | _ :: _, [], h, _, _, _ => h.elim
theorem ea_rl_mono {α β : Type} {R R' : α → β → Prop} (hR : ∀ a b, R a b → R' a b) : ∀ {as : List α} {bs : List β}, ea_rl R as bs → ea_rl R' as bs
  | [], [], _ => trivial
  | a :: as, b :: bs, h => ⟨hR _ _ h.1, ea_rl_mono hR h.2⟩
  | [], _ :: _, h => h.elim
  | _ :: _, [], h => h.elim
theorem ea_rl_rev {α β : Type} {R : α → β → Prop} : ∀ {as : List α} {bs : List β}, ea_rl R as bs → ea_rl R as.reverse bs.reverse
  | [], [], _ => trivial
  | a :: as, b :: bs, h => by
    rw [List.reverse_cons, List.reverse_cons]
    exact ea_rl_app (ea_rl_rev h.2) ⟨h.1, trivial⟩
  | [], _ :: _, h => h.elim
  | _ :: _, [], h => h.elim
theorem ea_rl_take {α β : Type} {R : α → β → Prop} : ∀ (n : Nat) {as : List α} {bs : List β}, ea_rl R as bs → ea_rl R (as.take n) (bs.take n) ∧ ea_rl R (as.drop n) (bs.drop n)
  | 0, as, bs, h => by simpa [ea_rl] using h
  | n + 1, [], [], _ => by simp [ea_rl]
  | n + 1, a :: as, b :: bs, h => ⟨⟨h.1, (ea_rl_take n h.2).1⟩, (ea_rl_take n h.2).2⟩
  | _ + 1, [], _ :: _, h => h.elim
  | _ + 1, _ :: _, [], h => h.elim
/-- bounds of an int -/
def ea_lo (i : AI) : Int := match i with
  | .inl x => x.toInt
  | .inr q => q.1
def ea_hi (i : AI) : Int := match i with
  | .inl x => x.toInt
  | .inr q => q.2
theorem ea_bd {i : AI} {x : Int32} (h : ea_gi i x) : ea_lo i ≤ x.toInt ∧ x.toInt ≤ ea_hi i := by
  match i, h with
  | .inl y, h => rw [show x = y from h]; exact ⟨Int.le_refl _, Int.le_refl _⟩
  | .inr q, h => exact h
def ea_lt (i j : AI) : Option Bool := if ea_hi i < ea_lo j then some true else if ea_hi j ≤ ea_lo i then some false else none
def ea_eq (i j : AI) : Option Bool := if ea_hi i < ea_lo j then some false else if ea_hi j < ea_lo i then some false else if ea_lo i = ea_hi i ∧ ea_lo j = ea_hi j ∧ ea_lo i = ea_lo j then some true else none
theorem ea_lt_ok {i j : AI} {b : Bool} (h : ea_lt i j = some b) {x y : Int32} (hx : ea_gi i x) (hy : ea_gi j y) : x < y ↔ b = true := by
  have bx := ea_bd hx
  have bY := ea_bd hy
  rw [Int32.lt_iff_toInt_lt]
  unfold ea_lt at h
  split at h
  · cases h; simp; omega
  · split at h
    · cases h; simp; omega
    · cases h
theorem ea_eq_ok {i j : AI} {b : Bool} (h : ea_eq i j = some b) {x y : Int32} (hx : ea_gi i x) (hy : ea_gi j y) : x = y ↔ b = true := by
  have bx := ea_bd hx
  have bY := ea_bd hy
  rw [← Int32.toInt_inj]
  unfold ea_eq at h
  split at h
  · cases h; simp; omega
  · split at h
    · cases h; simp; omega
    · split at h
      · cases h; simp; omega
      · cases h
/-- what a branch asks of two ints -/
def ea_cp (c : Jvm.ClassFile.Cond) (x y : Int32) : Prop := match c with
  | .eq => x = y
  | .ne => ¬ x = y
  | .lt => x < y
  | .ge => y ≤ x
  | .gt => y < x
  | .le => x ≤ y
def ea_ck (c : Jvm.ClassFile.Cond) (x y : Int32) : Bool := match c with
  | .eq => decide (x = y)
  | .ne => !decide (x = y)
  | .lt => decide (x < y)
  | .ge => decide (y ≤ x)
  | .gt => decide (y < x)
  | .le => decide (x ≤ y)
def ea_ci (c : Jvm.ClassFile.Cond) (i j : AI) : Option Bool := match c with
  | .eq => ea_eq i j
  | .ne => (ea_eq i j).map (fun b => !b)
  | .lt => ea_lt i j
  | .ge => (ea_lt i j).map (fun b => !b)
  | .gt => ea_lt j i
  | .le => (ea_lt j i).map (fun b => !b)
def ea_if (c : Jvm.ClassFile.Cond) (i j : AI) : Option Bool := match i, j with
  | .inl x, .inl y => some (ea_ck c x y)
  | _, _ => ea_ci c i j
theorem ea_ck_ok (c : Jvm.ClassFile.Cond) (x y : Int32) : ea_cp c x y ↔ ea_ck c x y = true := by
  cases c <;> simp [ea_cp, ea_ck]
theorem ea_ci_ok {c : Jvm.ClassFile.Cond} {i j : AI} {b : Bool} (h : ea_ci c i j = some b) {x y : Int32} (hx : ea_gi i x) (hy : ea_gi j y) : ea_cp c x y ↔ b = true := by
  have hle : ∀ u v : Int32, (v ≤ u ↔ ¬ u < v) := fun u v => by rw [Int32.le_iff_toInt_le, Int32.lt_iff_toInt_lt]; omega
  cases c with
  | eq => exact ea_eq_ok h hx hy
  | lt => exact ea_lt_ok h hx hy
  | gt => exact ea_lt_ok h hy hx
  | ne =>
    simp only [ea_ci, Option.map_eq_some_iff] at h
    obtain ⟨b', h1, rfl⟩ := h
    rw [ea_cp, ea_eq_ok h1 hx hy]; cases b' <;> simp
  | ge =>
    simp only [ea_ci, Option.map_eq_some_iff] at h
    obtain ⟨b', h1, rfl⟩ := h
    rw [ea_cp, hle, ea_lt_ok h1 hx hy]; cases b' <;> simp
  | le =>
    simp only [ea_ci, Option.map_eq_some_iff] at h
    obtain ⟨b', h1, rfl⟩ := h
    rw [ea_cp, hle, ea_lt_ok h1 hy hx]; cases b' <;> simp
theorem ea_if_ok {c : Jvm.ClassFile.Cond} {i j : AI} {b : Bool} (h : ea_if c i j = some b) {x y : Int32} (hx : ea_gi i x) (hy : ea_gi j y) : ea_cp c x y ↔ b = true := by
  match i, j, h, hx, hy with
  | .inl u, .inl v, h, hx, hy =>
    rw [show x = u from hx, show y = v from hy]
    cases h
    exact ea_ck_ok c u v
  | .inl u, .inr v, h, hx, hy => exact ea_ci_ok h hx hy
  | .inr u, .inl v, h, hx, hy => exact ea_ci_ok h hx hy
  | .inr u, .inr v, h, hx, hy => exact ea_ci_ok h hx hy
/-- an operation on ints: known of known ones, else any int -/
def ea_any : AI := .inr (-2147483648, 2147483647)
theorem ea_any_ok (x : Int32) : ea_gi ea_any x := ⟨Int32.le_toInt x, Int.le_of_lt_add_one (Int32.toInt_lt x)⟩
def ea_i2 (f : Int32 → Int32 → Int32) (i j : AI) : AI := match i, j with
  | .inl x, .inl y => .inl (f x y)
  | _, _ => ea_any
theorem ea_i2_ok (f : Int32 → Int32 → Int32) {i j : AI} {x y : Int32} (hx : ea_gi i x) (hy : ea_gi j y) : ea_gi (ea_i2 f i j) (f x y) := by
  match i, j, hx, hy with
  | .inl u, .inl v, hx, hy => rw [show x = u from hx, show y = v from hy]; rfl
  | .inl u, .inr v, _, _ => exact ea_any_ok _
  | .inr u, .inl v, _, _ => exact ea_any_ok _
  | .inr u, .inr v, _, _ => exact ea_any_ok _
def ea_i1 (f : Int32 → Int32) (i : AI) : AI := match i with
  | .inl x => .inl (f x)
  | _ => ea_any
theorem ea_i1_ok (f : Int32 → Int32) {i : AI} {x : Int32} (hx : ea_gi i x) : ea_gi (ea_i1 f i) (f x) := by
  match i, hx with
  | .inl u, hx => rw [show x = u from hx]; rfl
  | .inr u, _ => exact ea_any_ok _
def ea_l2 (f : Int64 → Int64 → Int64) (i j : Option Int64) : Option Int64 := match i, j with
  | some x, some y => some (f x y)
  | _, _ => none
