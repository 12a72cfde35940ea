/-! A REPUBLIC'S TEXT: what it means -/
abbrev WRS : Type := RW × RS
section RSP
variable (K V : Nat → Int32) (S : Nat → Nat)
def nm (lo hi : Int32) (i : Nat) : Int32 := if K i = 20 then (if V i < lo then -1 else if hi < V i then -1 else V i) else -1
def mtq (i : Nat) : Bool := decide (K i = 20 ∧ S i = 2 ∧ V i / 10 < 8 ∧ rm (V i) 10 < 8)
def mtv (i : Nat) : Int32 := V i / 10 * 8 + rm (V i) 10
def pHab (c : Nat) : Nat → Nat → Nat → RW → Option RW × Nat
  | 0, _, i, _ => (none, i)
  | k + 1, v, i, w => if mtq K V S i = true then (if K (i + 1) = 20 then pHab c k (v + 1) (i + 1) (up1 w (18 + 13 * c + (7 + v)) (mtv V i)) else (some (up1 (up1 w (18 + 13 * c + (7 + v)) (mtv V i)) (18 + 13 * c + 5) (i32 (v + 1))), i + 1)) else (none, i)
def knwW (c : Nat) (w : RW) (x : Int32) : RW := up1 w (18 + 13 * c + 1) (cl w c 1 ||| sl 1 x)
def pKn (C : Int32) (c : Nat) : Nat → Nat → RW → Option RW × Nat
  | 0, i, _ => (none, i)
  | k + 1, i, w => if nm K V 0 C i < 0 then (none, i) else if K (i + 1) = 20 then pKn C c k (i + 1) (knwW c w (nm K V 0 C i)) else (some (knwW c w (nm K V 0 C i)), i + 1)
def zrow (w : RW) (c k : Nat) : RW := fun j => if 18 + 13 * c ≤ j ∧ j < 18 + 13 * c + k then 0 else w j
def citW (w : RW) (c : Nat) (x : Int32) : RW := up1 (up1 (up1 (zrow w c 13) (18 + 13 * c + 0) 1) (18 + 13 * c + 4) (-1)) (18 + 13 * c + 2) x
def morW (w : RW) : RW := up1 w 0 (w 0 + 1)
def pCit (C : Int32) (F : Nat) (q : WRS) (i : Nat) : Option WRS × Nat :=
  if K i = 12 then (if nm K V 0 100 (i + 1) < 0 then (none, i + 1) else if K (i + 2) = 13 then (match pHab K V S (nC q.1) 6 0 (i + 3) (citW q.1 (nC q.1) (nm K V 0 100 (i + 1))) with
    | (none, j) => (none, j)
    | (some w2, j) => if K j = 14 then (match pKn K V C (nC q.1) F (j + 1) w2 with
      | (none, j') => (none, j')
      | (some w3, j') => (some (morW w3, us q.2 (nC q.1) (Int64.ofNat 0)), j')) else (some (morW w2, us q.2 (nC q.1) (Int64.ofNat 0)), j)) else (none, i + 2)) else (none, i)
def tol (w : RW) (i : Nat) : Int32 := if nm K V 0 (w 0 - 1) i < 0 then -1 else if cl w (ni (nm K V 0 (w 0 - 1) i)) 0 = 1 then nm K V 0 (w 0 - 1) i else -1
def sng (w : RW) (x : Int32) : Bool := decide (¬ x < 0 ∧ cl w (ni x) 4 < 0)
def wedW (w : RW) (c d : Nat) : RW := up1 (up1 (up1 (up1 w (18 + 13 * c + 4) (i32 d)) (18 + 13 * d + 4) (i32 c)) (18 + 13 * c + 1) (cl w c 1 ||| cl w d 1)) (18 + 13 * d + 1) (cl w c 1 ||| cl w d 1)
def pWed (q : WRS) (i : Nat) : Option WRS × Nat := if sng q.1 (tol K V q.1 i) = true then (if sng q.1 (tol K V q.1 (i + 1)) = true ∧ ¬ tol K V q.1 i = tol K V q.1 (i + 1) then (some (wedW q.1 (ni (tol K V q.1 i)) (ni (tol K V q.1 (i + 1))), q.2), i + 2) else (none, i + 1)) else (none, i)
def pSeen (q : WRS) (i : Nat) : Option WRS × Nat := if tol K V q.1 i < 0 then (none, i) else if mtq K V S (i + 1) = true then (some (q.1, us q.2 (ni (tol K V q.1 i)) (q.2 (ni (tol K V q.1 i)) ||| ll (Int64.ofNat 1) (mtv V (i + 1)))), i + 2) else (none, i + 1)
def pNum (k : Nat) (lo hi : Int32) (q : WRS) (i : Nat) : Option WRS × Nat := if nm K V lo hi i < 0 then (none, i) else (some (up1 q.1 k (nm K V lo hi i), q.2), i + 1)
def pHarm (q : WRS) (i : Nat) : Option WRS × Nat := if nm K V 0 7 i < 0 then (none, i) else pNum K V (10 + ni (nm K V 0 7 i)) 0 99 q (i + 1)
def pRL (C : Int32) (F : Nat) (q : WRS) (i : Nat) : Option WRS × Nat :=
  if K i = 11 then (if nC q.1 = 10 then (none, i) else pCit K V S C F q (i + 1)) else if K i = 15 then pNum K V 7 0 100 q (i + 1) else if K i = 16 then pNum K V 8 1 30 q (i + 1) else if K i = 18 then pWed K V q (i + 1) else if K i = 19 then pSeen K V S q (i + 1) else if K i = 17 then pHarm K V q (i + 1) else (none, i)
def pRs (C : Int32) (F : Nat) : Nat → WRS → Nat → Option WRS × Nat
  | 0, _, i => (none, i)
  | m + 1, q, i => match pRL K V S C F q i with
    | (none, j) => (none, j)
    | (some q', j) => if K j = 21 then (some q', j) else if K j = 59 then pRs C F m q' (j + 1) else (none, j)
def pRep (C : Int32) (F : Nat) (q : WRS) : Option WRS × Nat := if K 0 = 21 then (some q, 0) else pRs K V S C F 14 q 0
end RSP
/-! what it keeps -/
section RSK
variable {f : BY} {n t : Nat} {K V : Nat → Int32} {b e : Nat → Nat} {w w' : RW}
def sz (b e : Nat → Nat) (i : Nat) : Nat := e i - b i
theorem nm_ok {lo hi : Int32} {i : Nat} (hT : TKS f n t K V b e) (hi' : i ≤ t) (h : ¬ nm K V lo hi i < 0) : ∃ m, m ≤ 1000 ∧ nm K V lo hi i = i32 m ∧ V i = i32 m ∧ K i = 20 ∧ ¬ V i < lo ∧ ¬ hi < V i ∧ i < t := by
  unfold nm at *
  by_cases hk : K i = 20
  · rw [if_pos hk] at h ⊢
    obtain ⟨m, hm, hv⟩ := tk_V hT hi' hk
    have hlt := tk_lt hT hi' (by rw [hk]; decide)
    by_cases c1 : V i < lo
    · rw [if_pos c1] at h
      exact absurd (by decide) h
    · rw [if_neg c1] at h ⊢
      by_cases c2 : hi < V i
      · rw [if_pos c2] at h
        exact absurd (by decide) h
      · rw [if_neg c2]
        exact ⟨m, hm, hv, hv, hk, c1, c2, hlt⟩
  · rw [if_neg hk] at h
    exact absurd (by decide) h
theorem nm_n {lo hi : Int32} {i : Nat} (hT : TKS f n t K V b e) (hi' : i ≤ t) : nm K V lo hi i < 0 ↔ nm K V lo hi i = -1 := by
  constructor
  · intro h
    unfold nm at *
    by_cases hk : K i = 20
    · rw [if_pos hk] at h ⊢
      obtain ⟨m, hm, hv⟩ := tk_V hT hi' hk
      by_cases c1 : V i < lo
      · rw [if_pos c1]
      · rw [if_neg c1] at h ⊢
        by_cases c2 : hi < V i
        · rw [if_pos c2]
        · rw [if_neg c2, hv, lt_lit, i32_i (by omega)] at h
          exact absurd h (by show ¬ ((m : Int) < 0); omega)
    · rw [if_neg hk]
  · intro h
    rw [h]
    decide
theorem mtq_ok {i : Nat} {S : Nat → Nat} (hT : TKS f n t K V b e) (hi : i ≤ t) (h : mtq K V S i = true) : K i = 20 ∧ S i = 2 ∧ i < t ∧ 0 ≤ (mtv V i).toInt ∧ (mtv V i).toInt ≤ 63 ∧ ¬ mtv V i < 0 ∧ ¬ mtv V i = -1 := by
  unfold mtq at h
  obtain ⟨h1, h2, h3, h4⟩ := of_decide_eq_true h
  obtain ⟨m, hm, hv⟩ := tk_V hT hi h1
  have hlt := tk_lt hT hi (by rw [h1]; decide)
  rw [hv, show (i32 m / 10 : Int32) = i32 (m / 10) from i32_d (y := 10) (by omega) (by omega), show ((8 : Int32)) = i32 8 from rfl] at h3
  rw [hv, show rm (i32 m) 10 = i32 (m % 10) from rm_n (y := 10) (by omega) (by omega), show ((8 : Int32)) = i32 8 from rfl] at h4
  have a3 := (i32_lt (by omega) (by omega)).mp h3
  have a4 := (i32_lt (by omega) (by omega)).mp h4
  have e1 : mtv V i = i32 (m / 10 * 8 + m % 10) := by
    unfold mtv
    rw [hv, show (i32 m / 10 : Int32) = i32 (m / 10) from i32_d (y := 10) (by omega) (by omega), show rm (i32 m) 10 = i32 (m % 10) from rm_n (y := 10) (by omega) (by omega), show i32 (m / 10) * 8 = i32 (m / 10 * 8) from i32_m _ 8, i32_a]
  have e2 : (mtv V i).toInt = ((m / 10 * 8 + m % 10 : Nat) : Int) := by rw [e1, i32_i (by omega)]
  refine ⟨h1, h2, hlt, by omega, by omega, fun x => ?_, fun x => ?_⟩
  · rw [lt_lit, e2] at x
    have : (0 : Int32).toInt = 0 := rfl
    omega
  · have := congrArg Int32.toInt x
    rw [e2] at this
    have e3 : ((-1 : Int32)).toInt = -1 := rfl
    omega
theorem tol_ok {i : Nat} (hT : TKS f n t K V b e) (hi : i ≤ t) (hw : WF w) (h : ¬ tol K V w i < 0) : ∃ m, m < nC w ∧ tol K V w i = i32 m ∧ nm K V 0 (w 0 - 1) i = i32 m ∧ V i = i32 m ∧ K i = 20 ∧ i < t ∧ alv w m = true := by
  unfold tol at *
  by_cases c1 : nm K V 0 (w 0 - 1) i < 0
  · rw [if_pos c1] at h
    exact absurd (by decide) h
  · rw [if_neg c1] at h ⊢
    obtain ⟨m, hm, h1, h2, h3, h4, h5, h6⟩ := nm_ok hT hi c1
    obtain ⟨e0, e1, e2⟩ := nC_i hw
    rw [h1, ni_i (by omega)] at h ⊢
    have hmn : m < nC w := by
      rw [h2, e2] at h5
      by_cases z : nC w = 0
      · rw [z] at h5
        exfalso
        apply h5
        rw [lt_lit, i32_i (by omega)]
        show (i32 0 - 1 : Int32).toInt < (m : Int)
        have : (i32 0 - 1 : Int32).toInt = -1 := by decide
        omega
      · obtain ⟨k, hk⟩ : ∃ k, nC w = k + 1 := ⟨nC w - 1, by omega⟩
        rw [hk, show (i32 (k + 1) - 1 : Int32) = i32 k from i32_sb k 1] at h5
        have : ¬ k < m := fun x => h5 ((i32_lt (by omega) (by omega)).mpr x)
        omega
    by_cases c2 : cl w m 0 = 1
    · rw [if_pos c2]
      exact ⟨m, hmn, rfl, rfl, h2, h3, h6, decide_eq_true c2⟩
    · rw [if_neg c2] at h
      exact absurd (by decide) h
end RSK
