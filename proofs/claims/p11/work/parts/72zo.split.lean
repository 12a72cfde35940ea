/-! THE TEXT SPLIT INTO THINGS -/
def thb (M : MM) (i : Nat) : Nat := ni (M.1 5 i)
def the (M : MM) (i : Nat) : Nat := ni (M.1 5 i) + ni (M.1 6 i)
/-- a thing of the text from b to e: what it is, what it is worth -/
def TKN (f : BY) (n b : Nat) (k : Int32) (e : Nat) (v : Int32) : Prop :=
  (LT f n b ∧ ENd (LT f n) n b e ∧ (∃ r, wnm (wdL f b e) r ∧ k = i32 r) ∧ v = 0) ∨
  (DG f n b ∧ ENd (DG f n) n b e ∧ k = 20 ∧ v = if 3 < e - b then 1000 else nv f b (e - b)) ∨
  (b < n ∧ ¬ LT f n b ∧ ¬ DG f n b ∧ (f b).toInt ≠ 32 ∧ e = b + 1 ∧ k = mx (f b) 22 ∧ v = 0) ∨
  (b = n ∧ e = n ∧ k = 21 ∧ v = 0)
def THG (f : BY) (n : Nat) (M : MM) (i : Nat) : Prop := M.1 5 i = i32 (thb M i) ∧ thb M i ≤ n ∧ the M i ≤ n ∧ TKN f n (thb M i) (M.1 4 i) (the M i) (M.1 7 i)
def gp (M : MM) (i : Nat) : Nat := if i = 0 then 0 else the M (i - 1)
def CHN (f : BY) (n : Nat) (M : MM) (t : Nat) : Prop := ∀ i, i < t → THG f n M i ∧ NB f n (gp M i) (thb M i)
def TXT (f : BY) (n : Nat) (M : MM) (t : Nat) : Prop := CHN f n M (t + 1) ∧ thb M t = n ∧ (∀ i, i < t → thb M i < n) ∧ M.1 3 4 = i32 (t + 1) ∧ t ≤ 400
section SP
variable {f : BY} {n t : Nat} {M M' : MM}
theorem c_put {N b e : Nat} {k v : Int32} {Q : MM → Prop} (h4 : M.1 3 4 = i32 t) (ht : t ≤ 400) (hbe : b ≤ e) (he : e ≤ 400) (hQ : ∀ M', M'.1 3 4 = i32 (t + 1) → M'.1 4 t = k → M'.1 5 t = i32 b → M'.1 6 t = i32 (e - b) → M'.1 7 t = v → (∀ a j, j ≠ t → 4 ≤ a → M'.1 a j = M.1 a j) → Eqo fp_Text_put M M' → Q M') : W_Text_put k (i32 b) (i32 e) v N M Q := by
  refine and_Text_put (Q1 := fun M' => M'.1 3 4 = i32 (t + 1) ∧ M'.1 4 t = k ∧ M'.1 5 t = i32 b ∧ M'.1 6 t = i32 (e - b) ∧ M'.1 7 t = v ∧ (∀ a j, j ≠ t → 4 ≤ a → M'.1 a j = M.1 a j)) (fun M' h1 h2 => hQ M' h1.1 h1.2.1 h1.2.2.1 h1.2.2.2.1 h1.2.2.2.2.1 h1.2.2.2.2.2 h2) ?_ (an_Text_put (Q := fun M' => Eqo fp_Text_put M M') (fun M' h => h))
  unfold W_Text_put
  simp (disch := omega) only [wi_1n]
  rw [h4, ni_i (by omega), i32_df hbe, i32_s]
  refine ⟨fun _ => ⟨wi_1e, ?_, ?_, ?_, ?_, fun a j hj ha => ?_⟩, fun hx => absurd ((i32_lt (k := 401) (by omega) (by omega)).mpr (by omega)) hx⟩
  · simp (disch := omega) only [wi_1n, wi_1e]
  · simp (disch := omega) only [wi_1n, wi_1e]
  · simp (disch := omega) only [wi_1n, wi_1e]
  · simp (disch := omega) only [wi_1n, wi_1e]
  · simp (disch := omega) only [wi_1n]
theorem thb_eq {i : Nat} (h : M'.1 5 i = M.1 5 i) : thb M' i = thb M i := by
  unfold thb
  rw [h]
theorem the_eq {i : Nat} (h : M'.1 5 i = M.1 5 i) (h6 : M'.1 6 i = M.1 6 i) : the M' i = the M i := by
  unfold the
  rw [h, h6]
theorem thg_eq {i : Nat} (h : THG f n M i) (e : ∀ a, 4 ≤ a → M'.1 a i = M.1 a i) : THG f n M' i := by
  unfold THG at *
  rw [e 5 (by omega), e 4 (by omega), e 7 (by omega), thb_eq (e 5 (by omega)), the_eq (e 5 (by omega)) (e 6 (by omega))]
  exact h
theorem gp_eq {i : Nat} (e : ∀ a j, j < i → 4 ≤ a → M'.1 a j = M.1 a j) : gp M' i = gp M i := by
  unfold gp
  by_cases c : i = 0
  · rw [if_pos c, if_pos c]
  · rw [if_neg c, if_neg c, the_eq (e 5 _ (by omega) (by omega)) (e 6 _ (by omega) (by omega))]
theorem chn_s {b e : Nat} {k v : Int32} (h : CHN f n M t) (hn : n ≤ 400) (h1 : M'.1 4 t = k) (h2 : M'.1 5 t = i32 b) (h3 : M'.1 6 t = i32 (e - b)) (h4 : M'.1 7 t = v) (hf : ∀ a j, j ≠ t → 4 ≤ a → M'.1 a j = M.1 a j) (hbe : b ≤ e) (he : e ≤ n) (hk : TKN f n b k e v) (hg : NB f n (gp M t) b) : CHN f n M' (t + 1) ∧ thb M' t = b ∧ the M' t = e := by
  have e1 : thb M' t = b := by
    unfold thb
    rw [h2, ni_i (by omega)]
  have e2 : the M' t = e := by
    unfold the
    rw [h2, h3, ni_i (by omega), ni_i (by omega)]
    omega
  refine ⟨fun i hi => ?_, e1, e2⟩
  by_cases c : i = t
  · subst c
    rw [gp_eq (fun a j hj ha => hf a j (by omega) ha), e1]
    refine ⟨⟨by rw [e1]; exact h2, by omega, by omega, ?_⟩, hg⟩
    rw [e1, e2, h1, h4]
    exact hk
  · obtain ⟨g1, g2⟩ := h i (by omega)
    rw [gp_eq (fun a j hj ha => hf a j (by omega) ha), thb_eq (hf 5 i c (by omega))]
    exact ⟨thg_eq g1 (fun a ha => hf a i c ha), g2⟩
theorem gp_s : gp M (t + 1) = the M t := if_neg (by omega)
/-- how far the splitting is -/
def SPI (f : BY) (n : Nat) (M : MM) (t j : Nat) : Prop := t ≤ j ∧ M.1 3 4 = i32 t ∧ M.1 3 5 = 0 ∧ CHN f n M t ∧ (∀ i, i < t → thb M i < n) ∧ gp M t ≤ n ∧
  ((gp M t ≤ j ∧ ∀ x, gp M t ≤ x → x < j → (f x).toInt = 32) ∨ (j < gp M t ∧ 0 < t ∧ thb M (t - 1) < j ∧ ((∀ x, thb M (t - 1) ≤ x → x < gp M t → LT f n x) ∨ (∀ x, thb M (t - 1) ≤ x → x < gp M t → DG f n x))))
theorem spi_gap {j : Nat} {P : Nat → Prop} (h : CHN f n M t) (h2 : gp M t ≤ j) (h3 : ∀ x, gp M t ≤ x → x < j → (f x).toInt = 32) (hj : 0 < j) (hp : ∀ x, P x → (f x).toInt ≠ 32) (hn : P (j - 1)) : 0 < t ∧ gp M t = j ∧ the M (t - 1) = j := by
  rcases Nat.lt_or_ge (gp M t) j with c | c
  · exact absurd (h3 (j - 1) (by omega) (by omega)) (hp _ hn)
  · have e : gp M t = j := by omega
    have ht : 0 < t := by
      rcases Nat.eq_zero_or_pos t with c | c
      · rw [c] at e
        have : gp M 0 = 0 := if_pos rfl
        omega
      · exact c
    refine ⟨ht, e, ?_⟩
    rw [← e]
    exact (if_neg (by omega)).symm
theorem tkn_lt {b e : Nat} {k v : Int32} (h : TKN f n b k e v) (hb : b < n) : b < e := by
  rcases h with ⟨h1, h2, -⟩ | ⟨h1, h2, -⟩ | ⟨-, -, -, -, h2, -⟩ | ⟨h2, -⟩
  · rcases Nat.lt_or_ge b e with c | c
    · exact c
    · obtain rfl : b = e := by have := h2.1; omega
      exact absurd h1 h2.2.2.2
  · rcases Nat.lt_or_ge b e with c | c
    · exact c
    · obtain rfl : b = e := by have := h2.1; omega
      exact absurd h1 h2.2.2.2
  · omega
  · omega
theorem spi_let {j : Nat} (h : CHN f n M t) (hb : ∀ i, i < t → thb M i < n) (h2 : gp M t ≤ j) (h3 : ∀ x, gp M t ≤ x → x < j → (f x).toInt = 32) (hj : LT f n j) : ¬ (0 < j ∧ LT f n (j - 1)) := fun ⟨c1, c2⟩ => by
  obtain ⟨g1, g2, g3⟩ := spi_gap (P := LT f n) h h2 h3 c1 (fun x hx => by have := hx.2; omega) c2
  obtain ⟨⟨-, -, -, hk⟩, -⟩ := h (t - 1) (by omega)
  have hlt := tkn_lt hk (hb _ (by omega))
  rw [g3] at hk hlt
  rcases hk with ⟨-, hk, -⟩ | ⟨-, hk, -⟩ | ⟨-, hk, -, -, he, -⟩ | ⟨hb, he, -⟩
  · exact hk.2.2.2 hj
  · have hd := (hk.2.2.1 (j - 1) (by omega) (by omega)).2
    have := c2.2
    omega
  · rw [show j - 1 = thb M (t - 1) by omega] at c2
    exact hk c2
  · have := hj.1
    omega
theorem spi_dig {j : Nat} (h : CHN f n M t) (hb : ∀ i, i < t → thb M i < n) (h2 : gp M t ≤ j) (h3 : ∀ x, gp M t ≤ x → x < j → (f x).toInt = 32) (hj : DG f n j) : ¬ (0 < j ∧ DG f n (j - 1)) := fun ⟨c1, c2⟩ => by
  obtain ⟨g1, g2, g3⟩ := spi_gap (P := DG f n) h h2 h3 c1 (fun x hx => by have := hx.2; omega) c2
  obtain ⟨⟨-, -, -, hk⟩, -⟩ := h (t - 1) (by omega)
  have hlt := tkn_lt hk (hb _ (by omega))
  rw [g3] at hk hlt
  rcases hk with ⟨-, hk, -⟩ | ⟨-, hk, -⟩ | ⟨-, -, hk, -, he, -⟩ | ⟨hb, he, -⟩
  · have hd := (hk.2.2.1 (j - 1) (by omega) (by omega)).2
    have := c2.2
    omega
  · exact hk.2.2.2 hj
  · rw [show j - 1 = thb M (t - 1) by omega] at c2
    exact hk c2
  · have := hj.1
    omega
end SP
