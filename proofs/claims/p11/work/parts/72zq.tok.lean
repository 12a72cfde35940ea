/-! THINGS, AS THE REFERENCE'S WALK MEETS THEM -/
def TKS (f : BY) (n t : Nat) (K V : Nat → Int32) (b e : Nat → Nat) : Prop := t ≤ 400 ∧ b t = n ∧ (∀ i, i < t → b i < n) ∧ ∀ i, i ≤ t → TKN f n (b i) (K i) (e i) (V i) ∧ b i ≤ n ∧ e i ≤ n ∧ NB f n (if i = 0 then 0 else e (i - 1)) (b i)
theorem TXT_s {f : BY} {n t : Nat} {M : MM} (h : TXT f n M t) : TKS f n t (M.1 4) (M.1 7) (thb M) (the M) ∧ (∀ i, i ≤ t → M.1 5 i = i32 (thb M i)) ∧ M.1 3 4 = i32 (t + 1) := by
  obtain ⟨h1, h2, h3, h4, h5⟩ := h
  exact ⟨⟨h5, h2, h3, fun i hi => ⟨(h1 i (by omega)).1.2.2.2, (h1 i (by omega)).1.2.1, (h1 i (by omega)).1.2.2.1, (h1 i (by omega)).2⟩⟩, fun i hi => (h1 i (by omega)).1.1, h4⟩
/-- ahead of thing i -/
def PT (e b : Nat → Nat) (i p : Nat) : Prop := (if i = 0 then 0 else e (i - 1)) ≤ p ∧ p ≤ b i
theorem wln_p : ∀ k, k < 20 → 0 < wln k := by decide +kernel
section TK
variable {f : BY} {n t i p g : Nat} {K V : Nat → Int32} {b e : Nat → Nat} {M : MM}
theorem PT_0 : PT e b 0 p ↔ p ≤ b 0 := by
  unfold PT
  rw [if_pos rfl]
  omega
theorem PT_s (h : TKS f n t K V b e) (hi : i < t) : PT e b (i + 1) (e i) := by
  have := (h.2.2.2 (i + 1) (by omega)).2.2.2.1
  unfold PT
  rw [if_neg (by omega)] at this ⊢
  rw [show i + 1 - 1 = i by omega] at this ⊢
  exact ⟨Nat.le_refl _, this⟩
theorem PT_b (h : TKS f n t K V b e) (hi : i ≤ t) : PT e b i (b i) := ⟨(h.2.2.2 i hi).2.2.2.1, Nat.le_refl _⟩
theorem tk_nb (h : TKS f n t K V b e) (hi : i ≤ t) (hp : PT e b i p) : NB f n p (b i) := by
  obtain ⟨-, h1, h2, h3, h4, h5, h6⟩ := h.2.2.2 i hi
  exact ⟨hp.2, h4, fun j j1 j2 => h5 j (by have := hp.1; omega) j2, h6⟩
theorem tk_pn (h : TKS f n t K V b e) (hi : i ≤ t) (hp : PT e b i p) : p ≤ n := by
  have := (h.2.2.2 i hi).2.1
  have := hp.2
  omega
theorem mx_22 {x : Int32} : mx x 22 = if x.toInt < 22 then 22 else x := by
  unfold mx
  by_cases c : x < 22
  · rw [if_pos c, if_pos (by rw [lt_lit] at c; exact c)]
  · rw [if_neg c, if_neg (by rw [lt_lit] at c; exact c)]
/-- what it is: a word, a number, a sign, the end -/
theorem tk_word (h : TKS f n t K V b e) (hi : i ≤ t) (hl : LT f n (b i)) : ENd (LT f n) n (b i) (e i) ∧ ∃ r, wnm (wdL f (b i) (e i)) r ∧ K i = i32 r := by
  rcases (h.2.2.2 i hi).1 with ⟨-, h2, h3, -⟩ | ⟨h1, -⟩ | ⟨-, h1, -⟩ | ⟨h1, -⟩
  · exact ⟨h2, h3⟩
  · have := h1.2; have := hl.2; omega
  · exact absurd hl h1
  · have := hl.1; omega
theorem tk_now (h : TKS f n t K V b e) (hi : i ≤ t) (hl : ¬ LT f n (b i)) : 20 ≤ (K i).toInt := by
  rcases (h.2.2.2 i hi).1 with ⟨h1, -⟩ | ⟨-, -, h1, -⟩ | ⟨-, -, -, -, -, h1, -⟩ | ⟨-, -, h1, -⟩
  · exact absurd h1 hl
  · rw [h1]; decide
  · rw [h1, mx_22]
    split
    · decide
    · omega
  · rw [h1]; decide
theorem t_passes {s k N : Nat} {Q : Int32 → MM → Prop} (hs : stL s = dwL k ∧ sx_len ((s + 1) / 128) < 100) (hk : k < 20) (h : TXr M f n p g) (hb : BOK f n) (hn : n ≤ 400) (hT : TKS f n t K V b e) (hi : i ≤ t) (hp : PT e b i p) (hQ : (K i = i32 k → Q 1 (atP M (e i) (b i))) ∧ (¬ K i = i32 k → Q 0 (atP M (b i) (b i)))) : W_m_passes s N M Q := by
  refine r_passes h hb hn (tk_pn hT hi hp) hs.2 (fun q e' hq he => ?_)
  obtain rfl := NB_u hq (tk_nb hT hi hp)
  rw [hs.1]
  by_cases hl : LT f n (b i)
  · obtain ⟨w1, r, w2, w3⟩ := tk_word hT hi hl
    obtain rfl := ENd_u he w1
    have hr : r < 23 := by rcases w2 with ⟨c, -⟩ | ⟨c, -⟩ <;> omega
    have hkr : K i = i32 k ↔ r = k := by
      rw [w3]
      exact i32_ij (by omega) (by omega)
    rw [wnm_k w2 hk, ← hkr]
    exact hQ
  · have hd : ENd (LT f n) n (b i) (b i) := ⟨Nat.le_refl _, (hT.2.2.2 i hi).2.1, fun j j1 j2 => by omega, hl⟩
    obtain rfl := ENd_u he hd
    have hne : ¬ wdL f (b i) (b i) = dwL k := fun x => by
      have := (wd_iff.mp x).1
      have := wln_p k hk
      omega
    have hK := tk_now hT hi hl
    exact ⟨fun x => absurd x hne, fun _ => hQ.2 (fun x => by rw [x, i32_i (by omega)] at hK; omega)⟩
theorem t_sign {c : Int32} {N : Nat} {Q : Int32 → MM → Prop} (hc : 22 < c.toInt ∧ c.toInt < 128 ∧ ¬ (97 ≤ c.toInt ∧ c.toInt ≤ 122) ∧ ¬ (48 ≤ c.toInt ∧ c.toInt ≤ 57) ∧ ¬ c.toInt = 32) (h : TXr M f n p g) (hb : BOK f n) (hn : n ≤ 400) (hT : TKS f n t K V b e) (hi : i ≤ t) (hp : PT e b i p) (hQ : (K i = c → Q 1 (atP M (e i) (b i))) ∧ (¬ K i = c → Q 0 (atP M (b i) (b i)))) : W_m_sign c N M Q := by
  refine r_sign h hb hn (tk_pn hT hi hp) (by omega) hc.2.1 (fun q hq => ?_)
  obtain rfl := NB_u hq (tk_nb hT hi hp)
  rcases (hT.2.2.2 i hi).1 with ⟨h1, -, ⟨r, hr, hk⟩, -⟩ | ⟨h1, -, hk, -⟩ | ⟨h1, h2, h3, h4, h5, hk, -⟩ | ⟨h1, -, hk, -⟩
  · have hr' : r < 23 := by rcases hr with ⟨c, -⟩ | ⟨c, -⟩ <;> omega
    refine ⟨fun x => ?_, fun _ => hQ.2 (fun x => ?_)⟩
    · rw [← x.2] at hc
      have := h1.2
      omega
    · rw [← x, hk, i32_i (by omega)] at hc
      omega
  · refine ⟨fun x => ?_, fun _ => hQ.2 (fun x => ?_)⟩
    · rw [← x.2] at hc
      have := h1.2
      omega
    · rw [← x, hk] at hc
      exact absurd hc.1 (by decide)
  · rw [hk, h5, mx_22] at hQ
    by_cases c22 : (f (b i)).toInt < 22
    · rw [if_pos c22] at hQ
      refine ⟨fun x => ?_, fun _ => hQ.2 (fun x => ?_)⟩
      · rw [← x.2] at hc
        omega
      · rw [← x] at hc
        exact absurd hc.1 (by decide)
    · rw [if_neg c22] at hQ
      exact ⟨fun x => hQ.1 x.2, fun x => hQ.2 (fun y => x ⟨h1, y⟩)⟩
  · refine ⟨fun x => by omega, fun _ => hQ.2 (fun x => ?_)⟩
    rw [← x, hk] at hc
    exact absurd hc.1 (by decide)
theorem tk_dig (h : TKS f n t K V b e) (hi : i ≤ t) : DG f n (b i) ↔ K i = 20 := by
  rcases (h.2.2.2 i hi).1 with ⟨h1, -, ⟨r, hr, hk⟩, -⟩ | ⟨h1, -, hk, -⟩ | ⟨h1, h2, h3, h4, h5, hk, -⟩ | ⟨h1, -, hk, -⟩
  · have h20 : ¬ K i = 20 := fun x => by
      rw [hk] at x
      have hr' : r < 23 := by rcases hr with ⟨c, -⟩ | ⟨c, -⟩ <;> omega
      have := (i32_ij (b := 20) (by omega) (by omega)).mp x
      rcases hr with ⟨c, -⟩ | ⟨c, -⟩ <;> omega
    exact ⟨fun x => by have := x.2; have := h1.2; omega, fun x => absurd x h20⟩
  · exact ⟨fun _ => hk, fun _ => h1⟩
  · refine ⟨fun x => absurd x h3, fun x => ?_⟩
    rw [hk, mx_22] at x
    by_cases c : (f (b i)).toInt < 22
    · rw [if_pos c] at x
      exact absurd x (by decide)
    · rw [if_neg c] at x
      rw [x] at c
      exact absurd (by decide) c
  · exact ⟨fun x => by have := x.1; omega, fun x => by rw [hk] at x; exact absurd x (by decide)⟩
theorem tk_num (h : TKS f n t K V b e) (hi : i ≤ t) (hk : K i = 20) : ENd (DG f n) n (b i) (e i) ∧ V i = if 3 < e i - b i then 1000 else nv f (b i) (e i - b i) := by
  have hd := (tk_dig h hi).mpr hk
  rcases (h.2.2.2 i hi).1 with ⟨h1, -⟩ | ⟨-, h2, -, h3⟩ | ⟨-, -, h1, -⟩ | ⟨h1, -⟩
  · have := h1.2; have := hd.2; omega
  · exact ⟨h2, h3⟩
  · exact absurd hd h1
  · have := hd.1; omega
theorem t_number {lo hi : Int32} {N : Nat} {Q : Int32 → MM → Prop} (h1 : hi < 1000) (h : TXr M f n p g) (hb : BOK f n) (hn : n ≤ 400) (hT : TKS f n t K V b e) (hi' : i ≤ t) (hp : PT e b i p) (hQ : (K i = 20 → Q (if V i < lo then -1 else if hi < V i then -1 else V i) (atP M (e i) (b i))) ∧ (¬ K i = 20 → Q (-1) (atP M (b i) (b i)))) : W_m_number lo hi N M Q := by
  refine r_number h hb hn (tk_pn hT hi' hp) (fun q e' hq he => ?_)
  obtain rfl := NB_u hq (tk_nb hT hi' hp)
  by_cases hk : K i = 20
  · obtain ⟨w1, w2⟩ := tk_num hT hi' hk
    obtain rfl := ENd_u he w1
    have hne : ¬ e i = b i := fun x => by
      have := (tk_dig hT hi').mpr hk
      rw [x] at w1
      exact w1.2.2.2 this
    have hh := hQ.1 hk
    unfold numR
    rw [if_neg hne]
    rw [w2] at hh
    by_cases c : 3 < e i - b i
    · rw [if_pos c] at hh ⊢
      by_cases d : (1000 : Int32) < lo
      · rw [if_pos d] at hh; exact hh
      · rw [if_neg d, if_pos h1] at hh; exact hh
    · rw [if_neg c] at hh ⊢
      exact hh
  · have hd : ENd (DG f n) n (b i) (b i) := ⟨Nat.le_refl _, (hT.2.2.2 i hi').2.1, fun j j1 j2 => by omega, fun x => hk ((tk_dig hT hi').mp x)⟩
    obtain rfl := ENd_u he hd
    unfold numR
    rw [if_pos rfl]
    exact hQ.2 hk
theorem t_figure {N : Nat} {Q : Int32 → MM → Prop} (h : TXr M f n p g) (hb : BOK f n) (hn : n ≤ 400) (hT : TKS f n t K V b e) (hi : i ≤ t) (hp : PT e b i p) (hQ : (K i = 20 → Q 1 (atP M (b i) (b i))) ∧ (¬ K i = 20 → Q 0 (atP M (b i) (b i)))) : W_m_isFigure N M Q := by
  refine r_figure h hb hn (tk_pn hT hi hp) (fun q hq => ?_)
  obtain rfl := NB_u hq (tk_nb hT hi hp)
  by_cases hk : K i = 20
  · rw [decide_eq_true ((tk_dig hT hi).mpr hk)]
    exact hQ.1 hk
  · rw [decide_eq_false (fun x => hk ((tk_dig hT hi).mp x))]
    exact hQ.2 hk
end TK
