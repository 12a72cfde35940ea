/-! THE ABSTRACT MACHINE, its cells -/
def ea_nt {α : Type} (l : List α) (n : Nat) : Option α := match l with
  | [] => none
  | a :: t => match n with
    | 0 => some a
    | k + 1 => ea_nt t k
theorem ea_nt_eq {α : Type} : ∀ (l : List α) (n : Nat), ea_nt l n = l[n]?
  | [], n => by simp [ea_nt]
  | a :: t, 0 => by simp [ea_nt]
  | a :: t, k + 1 => by simp [ea_nt, ea_nt_eq t k]
def ea_al (d : AV) (us : List (Nat × AV)) (j : Nat) : AV := match us with
  | [] => d
  | q :: t => bif Nat.beq q.1 j then q.2 else ea_al d t j
theorem ea_al_at (d : AV) (us : List (Nat × AV)) (k : Nat) (v : AV) (j : Nat) : ea_al d ((k, v) :: us) j = if j = k then v else ea_al d us j := by
  show (bif Nat.beq k j then v else ea_al d us j) = _
  by_cases h : j = k
  · subst h
    rw [if_pos rfl, Nat.beq_refl]
    rfl
  · rw [if_neg h]
    cases hb : Nat.beq k j with
    | true => exact absurd (Nat.eq_of_beq_eq_true hb).symm h
    | false => rfl
/-- an index within an array's length -/
def ea_ix (i : AI) (n : Nat) : Option Nat := match i with
  | .inl x => if 0 ≤ x.toInt ∧ x.toInt < n then some x.toNatClampNeg else none
  | .inr _ => none
theorem ea_ix_ok {i : AI} {n j : Nat} (h : ea_ix i n = some j) {x : Int32} (hx : ea_gi i x) : vp_in x n ∧ x.toNatClampNeg = j ∧ j < n := by
  match i, h, hx with
  | .inl y, h, hx =>
    obtain rfl : x = y := hx
    simp only [ea_ix] at h
    split at h
    · rename_i hin
      cases h
      have h1 := vp_in_iff.mpr hin
      exact ⟨h1, rfl, Nat.not_le.mp fun q => h1 (Or.inr q)⟩
    · cases h
/-- the type of an array's elements, by its kind -/
def ea_ty (cl : List vw_C) (t : Nat) : FieldType := match t with
  | 0 => .int
  | 1 => .long
  | 2 => .byte
  | n + 3 => .object (((cl[n]?).map (fun q => q.1)).getD "")
def ea_AT (cl : List vw_C) (U : State) (t : Nat) (cA : ClassId) : Prop := ArrOfT U cA (ea_ty cl t) ∧ va_RA U cA (ea_ty cl t)
def ea_cv (x : (Nat → Int32) ⊕ (Nat → Int64) ⊕ (Nat → UInt32) ⊕ (Nat → UInt64) ⊕ (Nat → Option Nat)) (j : Nat) : Value := match x with
  | .inl f => .int (f j)
  | .inr (.inl f) => .long (f j)
  | .inr (.inr (.inl f)) => .float (f j)
  | .inr (.inr (.inr (.inl f))) => .double (f j)
  | .inr (.inr (.inr (.inr f))) => va_rf (f j)
def ea_kd (t : Nat) (x : (Nat → Int32) ⊕ (Nat → Int64) ⊕ (Nat → UInt32) ⊕ (Nat → UInt64) ⊕ (Nat → Option Nat)) : Prop := match t with
  | 0 => ∃ f, x = .inl f
  | 1 => ∃ f, x = .inr (.inl f)
  | 2 => ∃ f, x = .inl f
  | _ + 3 => ∃ f, x = .inr (.inr (.inr (.inr f)))
/-- a cell and what it may be -/
def ea_gc (cl : List vw_C) (U : State) (ad : SB × List Nat) (c : AC) (E : va_E) : Prop := match c, E with
  | .inl q, .inl a => a.2.1 = q.2.1 ∧ ea_AT cl U q.1 a.1 ∧ ea_kd q.1 a.2.2 ∧ ∀ j, j < q.2.1 → ea_gv ad (ea_al q.2.2.1 q.2.2.2 j) (ea_cv a.2.2 j)
  | .inr o, .inr b => o.1 = b.1 ∧ ea_rl (ea_gv ad) o.2 b.2
  | _, _ => False
theorem ea_AT_moved {cl : List vw_C} {u U : State} (hvm : u.vm.Alike U.vm) {t : Nat} {cA : ClassId} (h : ea_AT cl u t cA) : ea_AT cl U t cA := ⟨arrOfT_moved hvm h.1, h.2.moved hvm⟩
theorem ea_gc_moved {cl : List vw_C} {u U : State} (hvm : u.vm.Alike U.vm) {ad : SB × List Nat} {c : AC} {E : va_E} (h : ea_gc cl u ad c E) : ea_gc cl U ad c E := by
  match c, E, h with
  | .inl q, .inl a, h => exact ⟨h.1, ea_AT_moved hvm h.2.1, h.2.2⟩
  | .inr o, .inr b, h => exact h
theorem ea_gc_mono {cl : List vw_C} {U : State} {ad ad' : SB × List Nat} (hp : ad.1 = ad'.1 ∧ ∀ k q : Nat, ad.2[k]? = some q → ad'.2[k]? = some q) {c : AC} {E : va_E} (h : ea_gc cl U ad c E) : ea_gc cl U ad' c E := by
  match c, E, h with
  | .inl q, .inl a, h => exact ⟨h.1, h.2.1, h.2.2.1, fun j hj => ea_gv_mono hp (h.2.2.2 j hj)⟩
  | .inr o, .inr b, h => exact ⟨h.1, ea_rl_mono (fun a b hab => ea_gv_mono hp hab) h.2⟩
/-- the heap: the cells of the abstract machine are those of the world, place by place -/
def ea_H (cl : List vw_C) (U : State) (sb : SB) (C : List AC) (ws : va_W) : Prop := ea_rl (fun c (q : Nat × va_E) => ea_gc cl U (sb, ws.map Prod.fst) c q.2) C ws
theorem ea_map_set {ws : va_W} {q0 a : Nat} {E E' : va_E} (h : ws[q0]? = some (a, E)) : (ws.set q0 (a, E')).map Prod.fst = ws.map Prod.fst := by
  apply List.ext_getElem?
  intro n
  rw [List.getElem?_map, List.getElem?_map, List.getElem?_set]
  by_cases hn : q0 = n
  · subst hn
    have hl : q0 < ws.length := (List.getElem?_eq_some_iff.mp h).1
    rw [if_pos rfl, if_pos hl, h]
    rfl
  · rw [if_neg hn]
theorem ea_H_moved {cl : List vw_C} {u U : State} (hvm : u.vm.Alike U.vm) {sb : SB} {C : List AC} {ws : va_W} (h : ea_H cl u sb C ws) : ea_H cl U sb C ws := ea_rl_mono (fun _ _ hq => ea_gc_moved hvm hq) h
theorem ea_H_get {cl : List vw_C} {U : State} {sb : SB} {C : List AC} {ws : va_W} (h : ea_H cl U sb C ws) {k : Nat} {c : AC} (hc : ea_nt C k = some c) : ∃ a E, ws[k]? = some (a, E) ∧ ea_gc cl U (sb, ws.map Prod.fst) c E ∧ (ws.map Prod.fst)[k]? = some a := by
  rw [ea_nt_eq] at hc
  obtain ⟨⟨a, E⟩, h1, h2⟩ := ea_rl_get h hc
  exact ⟨a, E, h1, h2, by rw [List.getElem?_map, h1]; rfl⟩
theorem ea_H_set {cl : List vw_C} {U : State} {sb : SB} {C : List AC} {ws : va_W} (h : ea_H cl U sb C ws) {k a : Nat} {E E' : va_E} (hk : ws[k]? = some (a, E)) {c : AC} (hc : ea_gc cl U (sb, ws.map Prod.fst) c E') : ea_H cl U sb (C.set k c) (ws.set k (a, E')) := by
  unfold ea_H
  rw [ea_map_set hk]
  exact ea_rl_set h k hc
theorem ea_map_push {ws : va_W} {x : Nat × va_E} {sb : SB} : (sb, ws.map Prod.fst).1 = (sb, (ws ++ [x]).map Prod.fst).1 ∧ ∀ k q : Nat, (sb, ws.map Prod.fst).2[k]? = some q → (sb, (ws ++ [x]).map Prod.fst).2[k]? = some q := by
  refine ⟨rfl, fun k q h => ?_⟩
  show ((ws ++ [x]).map Prod.fst)[k]? = some q
  have hl : k < (ws.map Prod.fst).length := (List.getElem?_eq_some_iff.mp h).1
  rw [List.map_append, List.getElem?_append_left hl]
  exact h
theorem ea_H_push {cl : List vw_C} {U : State} {sb : SB} {C : List AC} {ws : va_W} (h : ea_H cl U sb C ws) {a : Nat} {E : va_E} {c : AC} (hc : ea_gc cl U (sb, (ws ++ [(a, E)]).map Prod.fst) c E) : ea_H cl U sb (C ++ [c]) (ws ++ [(a, E)]) :=
  ea_rl_app (ea_rl_mono (fun _ _ hq => ea_gc_mono ea_map_push hq) h) ⟨hc, trivial⟩
theorem ea_at_push {ws : va_W} {C : List AC} {cl : List vw_C} {U : State} {sb : SB} {a : Nat} {E : va_E} (h : ea_H cl U sb C ws) : ((ws ++ [(a, E)]).map Prod.fst)[C.length]? = some a := by
  rw [ea_rl_len h, List.getElem?_map, List.getElem?_append_right (Nat.le_refl _), Nat.sub_self]
  rfl
