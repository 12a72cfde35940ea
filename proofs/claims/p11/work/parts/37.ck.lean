/-! a contract and its heads, checked -/
theorem ea_as_mem {α : Type} : ∀ {l : List (Nat × α)} {k : Nat} {a : α}, ea_as l k = some a → (k, a) ∈ l
  | [], k, a, h => by cases h
  | q :: t, k, a, h => by
    unfold ea_as at h
    cases hb : Nat.beq q.1 k with
    | true =>
      rw [hb] at h
      cases h
      have e : q.1 = k := Nat.eq_of_beq_eq_true hb
      subst e
      exact List.mem_cons_self
    | false => rw [hb] at h; exact List.mem_cons_of_mem _ (ea_as_mem h)
def hd_all (P : EP) (G : Nat → Option CT) (cts : Nat → List CN) (hd : Nat → Option HA) (c : CN) (n : Nat) (l : List (Nat × HA)) : Bool := match l with
  | [] => true
  | q :: t => hd_ck P G cts hd c n q.1 q.2 && hd_all P G cts hd c n t
theorem hd_all_ok {P : EP} {G : Nat → Option CT} {cts : Nat → List CN} {hd : Nat → Option HA} {c : CN} {n : Nat} : ∀ {l : List (Nat × HA)}, hd_all P G cts hd c n l = true → ∀ q ∈ l, hd_ck P G cts hd c n q.1 q.2 = true
  | [], _, q, hq => nomatch hq
  | p :: t, h, q, hq => by
    unfold hd_all at h
    simp only [Bool.and_eq_true] at h
    rcases List.mem_cons.mp hq with rfl | hq
    · exact h.1
    · exact hd_all_ok h.2 q hq
def cn_ck (P : EP) (G : Nat → Option CT) (cts : Nat → List CN) (hds : List (Nat × HA)) (c : CN) (n : Nat) : Bool := xw P G cts (ea_as hds) c none n c.1 0 (xa_ar 0 (xa_in c.2.1 xe_0).1) [] (hf_in c.2.2.2.2.2 (xa_in c.2.1 xe_0).2) [] && hd_all P G cts (ea_as hds) c n hds
theorem cn_ck_ok {P : EP} {G : Nat → Option CT} {cts : Nat → List CN} {hds : List (Nat × HA)} {c : CN} {n : Nat} (hct : ∀ mj c', c' ∈ cts mj → c'.1 = mj ∧ cn_ok P G c') (h : cn_ck P G cts hds c n = true) : cn_ok P G c := by
  unfold cn_ck at h
  simp only [Bool.and_eq_true] at h
  exact cn_by hct n (fun pc a ha => hd_all_ok h.2 _ (ea_as_mem ha)) h.1
abbrev zz_any : AT := .inl (-2147483648, 2147483647)
abbrev zz_r (k : Nat) : AT := .inr (.inl k)
