/-! A REPUBLIC'S TEXT: the reference reads it -/
theorem st_citizen : stL 13200821491936309661 = dwL 11 ∧ sx_len ((13200821491936309661 + 1) / 128) < 100 := by decide +kernel
theorem st_watch : stL 198125670153119 = dwL 15 ∧ sx_len ((198125670153119 + 1) / 128) < 100 := by decide +kernel
theorem st_term : stL 784791157281 = dwL 16 ∧ sx_len ((784791157281 + 1) / 128) < 100 := by decide +kernel
theorem st_harm : stL 784791024679 = dwL 17 ∧ sx_len ((784791024679 + 1) / 128) < 100 := by decide +kernel
theorem st_wed : stL 2989669283 = dwL 18 ∧ sx_len ((2989669283 + 1) / 128) < 100 := by decide +kernel
theorem st_seen : stL 786829588901 = dwL 19 ∧ sx_len ((786829588901 + 1) / 128) < 100 := by decide +kernel
theorem st_fear : stL 795385967383 = dwL 12 ∧ sx_len ((795385967383 + 1) / 128) < 100 := by decide +kernel
theorem st_does : stL 797567332889 = dwL 13 ∧ sx_len ((797567332889 + 1) / 128) < 100 := by decide +kernel
theorem st_knows : stL 204215892260251 = dwL 14 ∧ sx_len ((204215892260251 + 1) / 128) < 100 := by decide +kernel
abbrev fq3 : List (Nat × Nat × Option Nat) := [(190, 190, some 19), (190, 190, some 21), (191, 191, none), (196, 196, none)]
def RST (f : BY) (n : Nat) (M0 : MM) (M : MM) (p g : Nat) (w : RW) (s : RS) : Prop := TXr M f n p g ∧ M.1 191 = w ∧ M.2 196 = s ∧ Eqo fq3 M0 M
theorem atP_q3 {M0 M : MM} {p' g' : Nat} (h : Eqo fq3 M0 M) : Eqo fq3 M0 (atP M p' g') := fun c j hc => by
  refine ⟨?_, (h c j hc).2⟩
  rw [← (h c j hc).1]
  show (if c = 190 ∧ j = 19 then i32 p' else if c = 190 ∧ j = 21 then i32 g' else M.1 c j) = M.1 c j
  by_cases x1 : c = 190 ∧ j = 19
  · obtain ⟨rfl, rfl⟩ := x1
    exact absurd hc (by decide)
  · rw [if_neg x1]
    by_cases x2 : c = 190 ∧ j = 21
    · obtain ⟨rfl, rfl⟩ := x2
      exact absurd hc (by decide)
    · rw [if_neg x2]
def np (K : Nat → Int32) (b e : Nat → Nat) (i : Nat) : Nat := if K i = 20 then e i else b i
section RR
variable {f : BY} {n t i p g N : Nat} {K V : Nat → Int32} {b e : Nat → Nat} {M : MM} {w : RW} {s : RS} {M0 : MM} {Q : Int32 → MM → Prop}
theorem RST_at {p' g' : Nat} (h : RST f n M0 M p g w s) : RST f n M0 (atP M p' g') p' g' w s := ⟨atP_T h.1, h.2.1, h.2.2.1, atP_q3 h.2.2.2⟩
theorem RST_w {k : Nat} {y : Int32} (h : RST f n M0 M p g w s) : RST f n M0 (wi M 191 k y) p g (up1 w k y) s := ⟨TXr_e h.1 eqo_a rfl, wi_row h.2.1, h.2.2.1, eqo_wi (i := 2) h.2.2.2 rfl (Or.inl rfl)⟩
theorem RST_j {k : Nat} {y : Int64} (h : RST f n M0 M p g w s) : RST f n M0 (wj M 196 k y) p g w (us s k y) := ⟨TXr_e h.1 eqo_b rfl, h.2.1, by
  funext j
  unfold us
  by_cases c : j = k
  · rw [c, if_pos rfl, wj_2e]
  · rw [if_neg c, wj_2n (by omega), h.2.2.1], eqo_wj (i := 3) h.2.2.2 rfl (Or.inl rfl)⟩
theorem RST_g (h : RST f n M0 M p g w s) : M.1 190 21 = i32 g ∧ Eqo fq3 M0 M := ⟨h.1.2.2.1, h.2.2.2⟩
theorem r_set {c k : Nat} {y z : Int32} {Q : MM → Prop} (h : RST f n M0 M p g w s) (hc : c < 1000) (hk : k < 1000) (hz : z = i32 k) (hQ : ∀ M', RST f n M0 M' p g (up1 w (18 + 13 * c + k) y) s → Q M') : W_m_sets (i32 c) z y N M Q := by
  unfold W_m_sets
  rw [hz, ofs hc hk]
  exact hQ _ (RST_w h)
theorem np_T (hb : BOK f n) (hn : n ≤ 400) (hT : TKS f n t K V b e) (hi : i ≤ t) (hk : K i = 20) : PT e b (i + 1) (np K b e i) ∧ i < t := by
  have hlt := tk_lt hT hi (by rw [hk]; decide)
  unfold np
  rw [if_pos hk]
  exact ⟨PT_s hT hlt, hlt⟩
theorem r_nm (hb : BOK f n) (hn : n ≤ 400) (hT : TKS f n t K V b e) {lo hi' : Int32} (h1 : hi' < 1000) (h : RST f n M0 M p g w s) (hi : i ≤ t) (hp : PT e b i p) (hQ : ∀ M', RST f n M0 M' (np K b e i) (b i) w s → Q (nm K V lo hi' i) M') : W_m_number lo hi' N M Q := by
  refine t_number h1 h.1 hb hn hT hi hp ⟨fun hk => ?_, fun hk => ?_⟩
  · have := hQ (atP M (e i) (b i)) (by unfold np; rw [if_pos hk]; exact RST_at h)
    unfold nm at this
    rw [if_pos hk] at this
    exact this
  · have := hQ (atP M (b i) (b i)) (by unfold np; rw [if_neg hk]; exact RST_at h)
    unfold nm at this
    rw [if_neg hk] at this
    exact this
theorem mt_d (hb : BOK f n) (hn : n ≤ 400) (hT : TKS f n t K V b e) (hi : i ≤ t) (hk : K i = 20) : mtR f (b i) (e i) = if mtq K V (sz b e) i = true then mtv V i else -1 := by
  obtain ⟨w1, w2⟩ := tk_num hT hi hk
  unfold mtR mtq
  by_cases c : e i - b i = 2
  · rw [if_pos c]
    rw [if_neg (by omega), c] at w2
    have d1 := w1.2.2.1 (b i) (by omega) (by omega)
    have d2 := w1.2.2.1 (b i + 1) (by omega) (by omega)
    obtain ⟨a1, a2, a3⟩ := d1
    obtain ⟨b1, b2, b3⟩ := d2
    have x1 : f (b i) - 48 = i32 ((f (b i)).toInt - 48).toNat := by
      have : f (b i) = i32 (((f (b i)).toInt - 48).toNat + 48) := i32_of (by omega)
      rw [this, show (48 : Int32) = i32 48 from rfl, i32_sb, i32_i (by omega)]
      congr 1
      omega
    have x2 : f (b i + 1) - 48 = i32 ((f (b i + 1)).toInt - 48).toNat := by
      have : f (b i + 1) = i32 (((f (b i + 1)).toInt - 48).toNat + 48) := i32_of (by omega)
      rw [this, show (48 : Int32) = i32 48 from rfl, i32_sb, i32_i (by omega)]
      congr 1
      omega
    have hv : V i = i32 (10 * ((f (b i)).toInt - 48).toNat + ((f (b i + 1)).toInt - 48).toNat) := by
      rw [w2]
      show 10 * (10 * 0 + f (b i + 0) - 48) + f (b i + 1) - 48 = _
      rw [show (10 * 0 + f (b i + 0) - 48 : Int32) = f (b i) - 48 by rw [Nat.add_zero]; simp, x1, show (10 : Int32) * i32 _ = i32 (10 * ((f (b i)).toInt - 48).toNat) from i32_m 10 _, show ∀ y : Int32, y + f (b i + 1) - 48 = y + (f (b i + 1) - 48) from fun y => by rw [Int32.sub_eq_add_neg, Int32.sub_eq_add_neg, Int32.add_assoc], x2, i32_a]
    rw [x1, x2]
    generalize hA : ((f (b i)).toInt - 48).toNat = A at *
    generalize hB : ((f (b i + 1)).toInt - 48).toNat = B at *
    have hA9 : A ≤ 9 := by omega
    have hB9 : B ≤ 9 := by omega
    have y1 : V i / 10 = i32 A := by
      rw [hv, show (i32 (10 * A + B) / 10 : Int32) = i32 ((10 * A + B) / 10) from i32_d (y := 10) (by omega) (by omega), show (10 * A + B) / 10 = A by omega]
    have y2 : rm (V i) 10 = i32 B := by
      rw [hv, show rm (i32 (10 * A + B)) 10 = i32 ((10 * A + B) % 10) from rm_n (y := 10) (by omega) (by omega), show (10 * A + B) % 10 = B by omega]
    unfold mtv
    rw [y1, y2]
    by_cases p1 : i32 A < 8
    · by_cases p2 : i32 B < 8
      · rw [if_pos p1, if_pos p2, if_pos (decide_eq_true ⟨hk, c, p1, p2⟩), show (8 : Int32) * i32 A = i32 (8 * A) from i32_m 8 _, show i32 A * 8 = i32 (A * 8) from i32_m _ 8, Nat.mul_comm]
      · rw [if_pos p1, if_neg p2, if_neg (fun h => p2 (of_decide_eq_true h).2.2.2)]
    · rw [if_neg p1, if_neg (fun h => p1 (of_decide_eq_true h).2.2.1)]
  · rw [if_neg c, if_neg (fun h => c (of_decide_eq_true h).2.1)]
theorem r_mt (hb : BOK f n) (hn : n ≤ 400) (hT : TKS f n t K V b e) (h : RST f n M0 M p g w s) (hi : i ≤ t) (hp : PT e b i p) (hQ : ∀ M', RST f n M0 M' (np K b e i) (b i) w s → Q (if mtq K V (sz b e) i = true then mtv V i else -1) M') : W_m_matterTold N M Q := by
  refine r_matter h.1 hb hn (tk_pn hT hi hp) (fun q e' hq he => ?_)
  obtain rfl := NB_u hq (tk_nb hT hi hp)
  by_cases hk : K i = 20
  · obtain ⟨w1, w2⟩ := tk_num hT hi hk
    obtain rfl := ENd_u he w1
    rw [mt_d hb hn hT hi hk]
    exact hQ _ (by unfold np; rw [if_pos hk]; exact RST_at h)
  · have hd : ENd (DG f n) n (b i) (b i) := ⟨Nat.le_refl _, (hT.2.2.2 i hi).2.1, fun j j1 j2 => by omega, fun x => hk ((tk_dig hT hi).mp x)⟩
    obtain rfl := ENd_u he hd
    have := hQ (atP M (b i) (b i)) (by unfold np; rw [if_neg hk]; exact RST_at h)
    rw [if_neg (fun h => hk (of_decide_eq_true h).1)] at this
    unfold mtR
    rw [if_neg (by omega)]
    exact this
theorem r_fig (hb : BOK f n) (hn : n ≤ 400) (hT : TKS f n t K V b e) (h : RST f n M0 M p g w s) (hi : i ≤ t) (hp : PT e b i p) (hQ : ∀ M', RST f n M0 M' (b i) (b i) w s → (K i = 20 → Q 1 M') ∧ (¬ K i = 20 → Q 0 M')) : W_m_isFigure N M Q := t_figure h.1 hb hn hT hi hp (hQ _ (RST_at h))
theorem r_ps (hb : BOK f n) (hn : n ≤ 400) (hT : TKS f n t K V b e) {σ k : Nat} (hs : stL σ = dwL k ∧ sx_len ((σ + 1) / 128) < 100) (hk : k < 20) (h : RST f n M0 M p g w s) (hi : i ≤ t) (hp : PT e b i p) (hQ1 : K i = i32 k → i < t → ∀ M', RST f n M0 M' (e i) (b i) w s → PT e b (i + 1) (e i) → Q 1 M') (hQ0 : ¬ K i = i32 k → ∀ M', RST f n M0 M' (b i) (b i) w s → PT e b i (b i) → Q 0 M') : W_m_passes σ N M Q :=
  t_passes hs hk h.1 hb hn hT hi hp ⟨fun y => by
    have hlt := tk_lt hT hi (by rw [y]; exact fun z => by have := (i32_ij (b := 21) (by omega) (by omega)).mp z; omega)
    exact hQ1 y hlt _ (RST_at h) (PT_s hT hlt), fun y => hQ0 y _ (RST_at h) (PT_b hT hi)⟩
theorem r_lts (hb : BOK f n) (hn : n ≤ 400) (hT : TKS f n t K V b e) {Q : MM → Prop} (h : RST f n M0 M p g w s) (hi : i ≤ t) (hp : PT e b i p) (hQ : ∀ e' M', ENd (LT f n) n (b i) e' → RST f n M0 M' e' (b i) w s → Q M') : W_m_letters N M Q := by
  refine r_letters h.1 hb hn (tk_pn hT hi hp) (fun q e' hq he => ?_)
  obtain rfl := NB_u hq (tk_nb hT hi hp)
  exact hQ e' _ he (RST_at h)
theorem r_isw (hb : BOK f n) (hn : n ≤ 400) (hT : TKS f n t K V b e) {σ k e' : Nat} {Q : Int32 → Prop} (hs : stL σ = dwL k ∧ sx_len ((σ + 1) / 128) < 100) (hk : k < 20) (h : RST f n M0 M e' (b i) w s) (hi : i ≤ t) (he : ENd (LT f n) n (b i) e') (hQ1 : K i = i32 k → e' = e i → i < t → PT e b (i + 1) e' → Q 1) (hQ0 : ¬ K i = i32 k → Q 0) : W_m_isWord σ N M Q := by
  refine r_isWord h.1 hb hn he hs.2 ?_
  by_cases c : K i = i32 k
  · rw [decide_eq_true ((t_wd hs.1 hk hT hi he).mpr c)]
    have hlt := tk_lt hT hi (by rw [c]; exact fun z => by have := (i32_ij (b := 21) (by omega) (by omega)).mp z; omega)
    have ee := t_we hk hT hi he c
    exact hQ1 c ee hlt (by rw [ee]; exact PT_s hT hlt)
  · rw [decide_eq_false (fun y => c ((t_wd hs.1 hk hT hi he).mp y))]
    exact hQ0 c
theorem r_tol (hb : BOK f n) (hn : n ≤ 400) (hT : TKS f n t K V b e) (h : RST f n M0 M p g w s) (hw : WF w) (hi : i ≤ t) (hp : PT e b i p) (hQ : ∀ M', RST f n M0 M' (np K b e i) (b i) w s → Q (tol K V w i) M') : W_m_citizenTold N M Q := by
  unfold W_m_citizenTold
  have hc : V_m_citizens M = w 0 := by
    unfold V_m_citizens
    rw [h.2.1]
    rfl
  obtain ⟨e0, e1, e2⟩ := nC_i hw
  have hlim : w 0 - 1 < 1000 := by
    rw [e2]
    have : nC w = 0 ∨ nC w = 1 ∨ nC w = 2 ∨ nC w = 3 ∨ nC w = 4 ∨ nC w = 5 ∨ nC w = 6 ∨ nC w = 7 ∨ nC w = 8 ∨ nC w = 9 ∨ nC w = 10 := by omega
    rcases this with c | c | c | c | c | c | c | c | c | c | c <;> rw [c] <;> decide
  rw [hc]
  refine r_nm hb hn hT hlim h hi hp (fun M' h' => ?_)
  have hh := hQ M' h'
  unfold tol at hh
  refine ⟨fun c => ?_, fun c => ?_⟩
  · rw [if_pos c] at hh
    exact hh
  · rw [if_neg c] at hh
    obtain ⟨m, hm', h1, h2, -, -, h5, -⟩ := nm_ok hT hi c
    have hm : m < 1000 := by
      rw [h2, lt_lit, i32_i (by omega)] at h5
      rw [lt_lit, show (1000 : Int32).toInt = 1000 from rfl] at hlim
      omega
    rw [h1, ni_i (by omega)] at hh
    rw [h1]
    have ha : V_m_isAlive (i32 m) M' = if cl w m 0 = 1 then 1 else 0 := by
      unfold V_m_isAlive
      rw [show V_m_of (i32 m) 0 M' = cl (M'.1 191) m 0 from by
        have := v_of (c := m) (i := 0) (M := M') (by omega) (by omega)
        exact this, h'.2.1]
    rw [ha]
    by_cases c2 : cl w m 0 = 1
    · rw [if_pos c2] at hh ⊢
      exact ⟨fun y => absurd y (by decide), fun _ => hh⟩
    · rw [if_neg c2] at hh ⊢
      exact ⟨fun _ => hh, fun y => absurd rfl y⟩
theorem tol_T (hb : BOK f n) (hn : n ≤ 400) (hT : TKS f n t K V b e) (hw : WF w) (hi : i ≤ t) (h : ¬ tol K V w i < 0) : PT e b (i + 1) (np K b e i) ∧ i < t := by
  obtain ⟨m, -, -, -, -, hk, -⟩ := tol_ok hT hi hw h
  exact np_T hb hn hT hi hk
theorem v_sng (hb : BOK f n) (hn : n ≤ 400) (hT : TKS f n t K V b e) {y : Int32} {m : Nat} (h : RST f n M0 M p g w s) (hm : m < 1000) (hy : y < 0 ∨ y = i32 m) : V_m_isSingle y M = b32 (sng w y) := by
  unfold V_m_isSingle sng
  by_cases c : y < 0
  · rw [if_pos c, decide_eq_false (fun h => h.1 c)]; rfl
  · rw [if_neg c]
    have hy : y = i32 m := by
      rcases hy with h | h
      · exact absurd h c
      · exact h
    rw [hy, show V_m_of (i32 m) 4 M = cl (M.1 191) m 4 from v_of (c := m) (i := 4) (M := M) hm (by omega), h.2.1, ni_i (by omega)]
    rw [hy] at c
    by_cases c2 : cl w m 4 < 0
    · rw [if_pos c2, decide_eq_true ⟨c, c2⟩]; rfl
    · rw [if_neg c2, decide_eq_false (fun h => c2 h.2)]; rfl
end RR
