/-! THE MEMORY AS TWO FUNCTIONS: every int, every long of the fixed cells -/
def up {A : Type} (f : Nat → Nat → A) (a k : Nat) (x : A) : Nat → Nat → A := fun b j => if b = a ∧ j = k then x else f b j
theorem up_s {A : Type} {f : Nat → Nat → A} {a k : Nat} {x : A} : up f a k x a k = x := if_pos ⟨rfl, rfl⟩
theorem up_n {A : Type} {f : Nat → Nat → A} {a k : Nat} {x : A} {b j : Nat} (h : ¬ (b = a ∧ j = k)) : up f a k x b j = f b j := if_neg h
def mt (I : Nat → Nat → Int32) (a k : Nat) (f : FT) : AV := match f with
  | .inl _ => .inl (.inl (I a k))
  | .inr b => .inr (.inl (some b))
def me (I : Nat → Nat → Int32) (J : Nat → Nat → Int64) (a kd p : Nat) (fs : List FT) (j : Nat) : AV := match kd with
  | 1 => .inr (.inr (.inl (some (J a j))))
  | _ => match ea_nt fs (j % p) with
    | some f => mt I a j f
    | none => .inl (.inl 0)
def mm (G : Nat → Option CT) (I : Nat → Nat → Int32) (J : Nat → Nat → Int64) (C : List AC) : Prop :=
  (∀ a ci fs, G a = some (.inl (ci, fs)) → ∃ vs, ea_nt C a = some (.inr (ci, vs)) ∧ vs.length = fs.length ∧ ∀ k f, ea_nt fs k = some f → ea_nt vs k = some (mt I a k f)) ∧
  (∀ a kd n p fs, G a = some (.inr (kd, n, p, fs)) → ∃ d us, ea_nt C a = some (.inl (kd, n, d, us)) ∧ ∀ j, j < n → ea_al d us j = me I J a kd p fs j)
def mI (C : List AC) (a k : Nat) : Int32 := match cv C a k with
  | some (.inl (.inl x)) => x
  | _ => 0
def mJ (C : List AC) (a k : Nat) : Int64 := match cv C a k with
  | some (.inr (.inr (.inl (some y)))) => y
  | _ => 0
theorem mI_v {C : List AC} {a k : Nat} {x : Int32} (h : cv C a k = some (.inl (.inl x))) : mI C a k = x := by unfold mI; rw [h]
theorem mJ_v {C : List AC} {a k : Nat} {y : Int64} (h : cv C a k = some (.inr (.inr (.inl (some y))))) : mJ C a k = y := by unfold mJ; rw [h]
theorem mt_of {C : List AC} {a k : Nat} {f : FT} {v : AV} (h : cv C a k = some v) (hv : ft_g f v) : v = mt (mI C) a k f := by
  match f, hv with
  | .inl q, ⟨x, e, _, _⟩ =>
    subst e
    show Sum.inl (Sum.inl x) = Sum.inl (Sum.inl (mI C a k))
    rw [mI_v h]
  | .inr b, hv => exact hv
theorem mm_of {G : Nat → Option CT} {C : List AC} (hI : xI G C) : mm G (mI C) (mJ C) C := by
  refine ⟨fun a ci fs hG => ?_, fun a kd n p fs hG => ?_⟩
  · obtain ⟨vs, v1, v2, v3⟩ := hI_f hI hG
    refine ⟨vs, v1, v2, fun k f hf => ?_⟩
    obtain ⟨v, w1, w2⟩ := v3 k f hf
    rw [w1]
    have hc : cv C a k = some v := by unfold cv; rw [v1]; exact w1
    rw [mt_of hc w2]
  · obtain ⟨d, us, v1, v2⟩ := hI_a hI hG
    refine ⟨d, us, v1, fun j hj => ?_⟩
    have hc : cv C a j = some (ea_al d us j) := by
      unfold cv
      rw [v1]
      show (bif Nat.blt j n then some (ea_al d us j) else none) = _
      rw [show Nat.blt j n = true from Nat.ble_eq_true_of_le hj]
      rfl
    have h := v2 j hj
    by_cases h1 : kd = 1
    · subst h1
      obtain ⟨y, hy⟩ := h
      rw [hy] at hc ⊢
      show _ = Sum.inr (Sum.inr (Sum.inl (some (mJ C a j))))
      rw [mJ_v hc]
    · obtain ⟨f, f1, f2⟩ := el_get h1 h
      have : me (mI C) (mJ C) a kd p fs j = mt (mI C) a j f := by
        unfold me
        split
        · exact absurd rfl h1
        · rw [f1]
      rw [this, mt_of hc f2]
section MM
variable {G : Nat → Option CT} {I : Nat → Nat → Int32} {J : Nat → Nat → Int64} {C : List AC} {a : Nat}
theorem mt_n {b k i : Nat} {x : Int32} {f : FT} (h : ¬ (b = a ∧ k = i)) : mt (up I a i x) b k f = mt I b k f := by
  match f with
  | .inl q => show Sum.inl (Sum.inl (up I a i x b k)) = Sum.inl (Sum.inl (I b k)); rw [up_n h]
  | .inr _ => rfl
theorem me_n {b kd p j i : Nat} {x : Int32} {fs : List FT} (h : ¬ (b = a ∧ j = i)) : me (up I a i x) J b kd p fs j = me I J b kd p fs j := by
  unfold me
  split
  · rfl
  · split
    · exact mt_n h
    · rfl
theorem mm_pf (hM : mm G I J C) {ci k : Nat} {fs : List FT} {q : Int × Int} (hG : G a = some (.inl (ci, fs))) (hf : ea_nt fs k = some (.inl q)) {vs : List AV} (hC : ea_nt C a = some (.inr (ci, vs))) (x : Int32) : mm G (up I a k x) J (C.set a (.inr (ci, vs.set k (.inl (.inl x))))) := by
  obtain ⟨vs', v1, v2, v3⟩ := hM.1 a ci fs hG
  rw [hC] at v1
  cases v1
  refine ⟨fun b cj gs hG' => ?_, fun b kd n p gs hG' => ?_⟩
  · by_cases hb : b = a
    · subst hb
      rw [hG] at hG'
      cases hG'
      refine ⟨_, nt_set_self hC, by rw [List.length_set]; exact v2, fun i f hi => ?_⟩
      by_cases hk : i = k
      · subst hk
        rw [hf] at hi
        cases hi
        rw [nt_set_self (v3 i _ hf)]
        show _ = some (Sum.inl (Sum.inl (up I b i x b i)))
        rw [up_s]
      · rw [nt_set_ne (fun h => hk h.symm), mt_n (fun h => hk h.2)]
        exact v3 i f hi
    · obtain ⟨ws, w1, w2, w3⟩ := hM.1 b cj gs hG'
      refine ⟨ws, by rw [nt_set_ne (fun h => hb h.symm)]; exact w1, w2, fun i f hi => ?_⟩
      rw [mt_n (fun h => hb h.1)]
      exact w3 i f hi
  · have hb : b ≠ a := by
      intro h
      rw [h, hG] at hG'
      cases hG'
    obtain ⟨d, us, w1, w2⟩ := hM.2 b kd n p gs hG'
    refine ⟨d, us, by rw [nt_set_ne (fun h => hb h.symm)]; exact w1, fun j hj => ?_⟩
    rw [me_n (fun h => hb h.1)]
    exact w2 j hj
theorem mm_as (hM : mm G I J C) {kd n p j : Nat} {fs : List FT} {q : Int × Int} (hk : kd ≠ 1) (hG : G a = some (.inr (kd, n, p, fs))) (hf : ea_nt fs (j % p) = some (.inl q)) {d : AV} {us : List (Nat × AV)} (hC : ea_nt C a = some (.inl (kd, n, d, us))) (x : Int32) : mm G (up I a j x) J (C.set a (.inl (kd, n, d, (j, .inl (.inl x)) :: us))) := by
  obtain ⟨d', us', v1, v2⟩ := hM.2 a kd n p fs hG
  rw [hC] at v1
  cases v1
  refine ⟨fun b cj gs hG' => ?_, fun b kd' n' p' gs hG' => ?_⟩
  · have hb : b ≠ a := by
      intro h
      rw [h, hG] at hG'
      cases hG'
    obtain ⟨ws, w1, w2, w3⟩ := hM.1 b cj gs hG'
    refine ⟨ws, by rw [nt_set_ne (fun h => hb h.symm)]; exact w1, w2, fun i f hi => ?_⟩
    rw [mt_n (fun h => hb h.1)]
    exact w3 i f hi
  · by_cases hb : b = a
    · subst hb
      rw [hG] at hG'
      cases hG'
      refine ⟨_, _, nt_set_self hC, fun i hi => ?_⟩
      rw [ea_al_at]
      by_cases hij : i = j
      · subst hij
        rw [if_pos rfl]
        unfold me
        split
        · exact absurd rfl hk
        · rw [hf]
          show _ = Sum.inl (Sum.inl (up I b i x b i))
          rw [up_s]
      · rw [if_neg hij, me_n (fun h => hij h.2)]
        exact v2 i hi
    · obtain ⟨d2, us2, w1, w2⟩ := hM.2 b kd' n' p' gs hG'
      refine ⟨d2, us2, by rw [nt_set_ne (fun h => hb h.symm)]; exact w1, fun i hi => ?_⟩
      rw [me_n (fun h => hb h.1)]
      exact w2 i hi
theorem mj_n {b kd p j i : Nat} {y : Int64} {fs : List FT} (h : ¬ (b = a ∧ j = i)) : me I (up J a i y) b kd p fs j = me I J b kd p fs j := by
  unfold me
  split
  · rw [up_n h]
  · rfl
theorem mm_ls (hM : mm G I J C) {n p j : Nat} {fs : List FT} (hG : G a = some (.inr (1, n, p, fs))) {d : AV} {us : List (Nat × AV)} (hC : ea_nt C a = some (.inl (1, n, d, us))) (y : Int64) : mm G I (up J a j y) (C.set a (.inl (1, n, d, (j, .inr (.inr (.inl (some y)))) :: us))) := by
  obtain ⟨d', us', v1, v2⟩ := hM.2 a 1 n p fs hG
  rw [hC] at v1
  cases v1
  refine ⟨fun b cj gs hG' => ?_, fun b kd' n' p' gs hG' => ?_⟩
  · have hb : b ≠ a := by
      intro h
      rw [h, hG] at hG'
      cases hG'
    obtain ⟨ws, w1, w2, w3⟩ := hM.1 b cj gs hG'
    exact ⟨ws, by rw [nt_set_ne (fun h => hb h.symm)]; exact w1, w2, w3⟩
  · by_cases hb : b = a
    · subst hb
      rw [hG] at hG'
      cases hG'
      refine ⟨_, _, nt_set_self hC, fun i hi => ?_⟩
      rw [ea_al_at]
      by_cases hij : i = j
      · subst hij
        rw [if_pos rfl]
        show _ = Sum.inr (Sum.inr (Sum.inl (some (up J b i y b i))))
        rw [up_s]
      · rw [if_neg hij, mj_n (fun h => hij h.2)]
        exact v2 i hi
    · obtain ⟨d2, us2, w1, w2⟩ := hM.2 b kd' n' p' gs hG'
      refine ⟨d2, us2, by rw [nt_set_ne (fun h => hb h.symm)]; exact w1, fun i hi => ?_⟩
      rw [mj_n (fun h => hb h.1)]
      exact w2 i hi
end MM
theorem ix_get {x : Int32} {n j : Nat} (h : ea_ix (.inl x) n = some j) : x.toInt = (j : Int) ∧ j < n := by
  have h1 : (if 0 ≤ x.toInt ∧ x.toInt < n then some x.toNatClampNeg else none) = some j := h
  split at h1
  · rename_i h2
    cases h1
    obtain ⟨-, h3, h4⟩ := ix_ok h2.1 h2.2
    exact ⟨h3.symm, h4⟩
  · cases h1
