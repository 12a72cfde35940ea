/-! THE REFERENCE'S READING OF A PART AND OF A SUM -/
section RP
variable {f : BY} {n t i p g σ : Nat} {K V : Nat → Int32} {b e : Nat → Nat} {M : MM}
theorem ki_ne {r k : Nat} (h : K i = i32 r) (hr : r < 1000) (hk : k < 1000) (hne : ¬ r = k) : ¬ K i = i32 k := fun x => hne ((i32_ij (by omega) (by omega)).mp (h.symm.trans x))
theorem pPart_n (h1 : ¬ K i = 20) (h2 : ¬ K i = 7) (h3 : ¬ K i = 8) (h4 : ¬ K i = 9) (h5 : ¬ K i = 10) : pPart K V i = none := by
  unfold pPart
  rw [if_neg h1, if_neg h2, if_neg h3, if_neg h4, if_neg h5]
theorem pPart_w {k : Nat} (h : K i = i32 k) : (k = 7 → pPart K V i = some (fun pl _ _ _ => pl)) ∧ (k = 8 → pPart K V i = some (fun _ _ _ dy => dy)) ∧ (k = 9 → pPart K V i = some (fun _ wh _ _ => wh)) ∧ (k = 10 → pPart K V i = some (fun _ _ kn _ => kn)) := by
  unfold pPart
  refine ⟨fun c => ?_, fun c => ?_, fun c => ?_, fun c => ?_⟩
  · rw [h, c, if_neg (by decide), if_pos (by decide)]
  · rw [h, c, if_neg (by decide), if_neg (by decide), if_pos (by decide)]
  · rw [h, c, if_neg (by decide), if_neg (by decide), if_neg (by decide), if_pos (by decide)]
  · rw [h, c, if_neg (by decide), if_neg (by decide), if_neg (by decide), if_neg (by decide), if_pos (by decide)]
theorem r_part {N : Nat} {Q : Int32 → MM → Prop} (h : TXr M f n p g) (hb : BOK f n) (hn : n ≤ 400) (hT : TKS f n t K V b e) (hi : i ≤ t) (hp : PT e b i p) (hs : M.1 190 25 = i32 σ) (hσ : σ < 1000)
    (hQ1 : ∀ s, pPart K V i = some s → ∀ M', TXr M' f n (e i) (b i) → M'.1 190 25 = i32 (σ + 1) → RMg (M'.1 202) σ (σ + 1) s → (∀ j, j < 2 * σ → M'.1 202 j = M.1 202 j) → M'.1 190 22 = M.1 190 22 → Q 1 M')
    (hQ0 : pPart K V i = none → ∀ M', M'.1 190 21 = i32 (b i) → Q 0 M') : W_m_readPart N M Q := by
  have hin := (hT.2.2.2 i hi).2.1
  have hen := (hT.2.2.2 i hi).2.2.1
  unfold W_m_readPart
  refine r_letters h hb hn (tk_pn hT hi hp) (fun q e' hq he => ?_)
  obtain rfl := NB_u hq (tk_nb hT hi hp)
  rw [show (atP M e' (b i)).1 190 19 = i32 e' from rfl, show (atP M e' (b i)).1 190 21 = i32 (b i) from rfl]
  have fin : ∀ p' op v s, ¬ 5 < op → (∀ pl wh kn dy, rfact op v pl wh kn dy = s pl wh kn dy) → pPart K V i = some s → p' = e i → W_m_emits op v N (atP M p' (b i)) (fun M' => Q 1 M') := fun p' op v s ho hr hs2 hp' => by
    subst hp'
    exact r_emits (M := atP M (e i) (b i)) hs hσ (fun M' a1 a2 a3 a4 a5 => hQ1 s hs2 M' (TXr_e (atP_T h) a5 rfl) a1 (RMg_1 a2 a3 ho hr) a4 (eq1 a5 (b := 190) (k := 22) rfl))
  have bad : ∀ p' op v, pPart K V i = none → W_m_emits op v N (atP M p' (b i)) (fun M' => Q 0 M') := fun p' op v hs2 => r_emits (M := atP M p' (b i)) hs hσ (fun M' a1 a2 a3 a4 a5 => hQ0 hs2 M' (by rw [eq1 a5 (b := 190) (k := 21) rfl]; rfl))
  by_cases hl : LT f n (b i)
  · obtain ⟨w1, r, w2, w3⟩ := tk_word hT hi hl
    obtain rfl := ENd_u he w1
    have hr : r < 23 := by rcases w2 with ⟨c, -⟩ | ⟨c, -⟩ <;> omega
    have hr20 : ¬ r = 20 := by rcases w2 with ⟨c, -⟩ | ⟨c, -⟩ <;> omega
    have hne : ¬ e i = b i := fun x => by rw [x] at w1; exact w1.2.2.2 hl
    have h2 := atP_T (p' := e i) (g' := b i) h
    obtain ⟨p7, p8, p9, p10⟩ := pPart_w (V := V) w3
    refine ⟨fun x => absurd ((i32_ij (by omega) (by omega)).mp x) hne, fun _ => ?_⟩
    refine r_isWord h2 hb hn he st_place.2 ?_
    rw [st_place.1, show decide (wdL f (b i) (e i) = dwL 7) = decide (r = 7) from decide_eq_decide.mpr (wnm_k w2 (by omega))]
    refine ⟨fun c7 => ?_, fun c7 => ?_⟩
    · rw [b32_eq0, decide_eq_false_iff_not] at c7
      refine r_isWord h2 hb hn he st_day.2 ?_
      rw [st_day.1, show decide (wdL f (b i) (e i) = dwL 8) = decide (r = 8) from decide_eq_decide.mpr (wnm_k w2 (by omega))]
      refine ⟨fun c8 => ?_, fun c8 => ?_⟩
      · rw [b32_eq0, decide_eq_false_iff_not] at c8
        refine r_isWord h2 hb hn he st_who.2 ?_
        rw [st_who.1, show decide (wdL f (b i) (e i) = dwL 9) = decide (r = 9) from decide_eq_decide.mpr (wnm_k w2 (by omega))]
        refine ⟨fun c9 => ?_, fun c9 => ?_⟩
        · rw [b32_eq0, decide_eq_false_iff_not] at c9
          refine r_isWord h2 hb hn he st_known.2 ?_
          rw [st_known.1, show decide (wdL f (b i) (e i) = dwL 10) = decide (r = 10) from decide_eq_decide.mpr (wnm_k w2 (by omega))]
          refine ⟨fun c10 => ?_, fun c10 => ?_⟩
          · rw [b32_eq0, decide_eq_false_iff_not] at c10
            exact bad _ _ _ (pPart_n (ki_ne w3 (by omega) (k := 20) (by omega) hr20) (ki_ne w3 (by omega) (k := 7) (by omega) c7) (ki_ne w3 (by omega) (k := 8) (by omega) c8) (ki_ne w3 (by omega) (k := 9) (by omega) c9) (ki_ne w3 (by omega) (k := 10) (by omega) c10))
          · rw [b32_ne0, decide_eq_true_eq] at c10
            exact fin _ _ _ _ (by decide) (fun _ _ _ _ => rfl) (p10 c10) rfl
        · rw [b32_ne0, decide_eq_true_eq] at c9
          exact fin _ _ _ _ (by decide) (fun _ _ _ _ => rfl) (p9 c9) rfl
      · rw [b32_ne0, decide_eq_true_eq] at c8
        exact fin _ _ _ _ (by decide) (fun _ _ _ _ => rfl) (p8 c8) rfl
    · rw [b32_ne0, decide_eq_true_eq] at c7
      exact fin _ _ _ _ (by decide) (fun _ _ _ _ => rfl) (p7 c7) rfl
  · have hd : ENd (LT f n) n (b i) (b i) := ⟨Nat.le_refl _, hin, fun j j1 j2 => by omega, hl⟩
    obtain rfl := ENd_u he hd
    refine ⟨fun _ => ?_, fun x => absurd rfl x⟩
    refine t_number (by decide) (atP_T h) hb hn hT hi (PT_b hT hi) ⟨fun hk => ?_, fun hk => ?_⟩
    · obtain ⟨m, m1, m2⟩ := tk_V hT hi hk
      have hneg : ¬ V i < 0 := by
        rw [m2, lt_lit, i32_i (by omega)]
        show ¬ (m : Int) < 0
        omega
      rw [if_neg hneg, atP_2]
      by_cases c : 999 < V i
      · rw [if_pos c]
        refine r_emits (M := atP M (e i) (b i)) hs hσ (fun M' a1 a2 a3 a4 a5 => ⟨fun _ => hQ0 ?_ M' (by rw [eq1 a5 (b := 190) (k := 21) rfl]; rfl), fun x => absurd (by decide) x⟩)
        unfold pPart
        rw [if_pos hk, if_pos c]
      · rw [if_neg c]
        refine r_emits (M := atP M (e i) (b i)) hs hσ (fun M' a1 a2 a3 a4 a5 => ⟨fun x => absurd x hneg, fun _ => hQ1 (fun _ _ _ _ => V i) ?_ M' (TXr_e (atP_T h) a5 rfl) a1 (RMg_1 a2 a3 (by decide) (fun _ _ _ _ => rfl)) a4 (eq1 a5 (b := 190) (k := 22) rfl)⟩)
        unfold pPart
        rw [if_pos hk, if_neg c]
    · rw [atP_2]
      have h20 := tk_now hT hi hl
      have hn' : ∀ k, k < 20 → ¬ K i = i32 k := fun k hk x => by
        rw [x, i32_i (by omega)] at h20
        omega
      refine r_emits (M := atP M (b i) (b i)) hs hσ (fun M' a1 a2 a3 a4 a5 => ⟨fun _ => hQ0 (pPart_n hk (hn' 7 (by omega)) (hn' 8 (by omega)) (hn' 9 (by omega)) (hn' 10 (by omega))) M' (by rw [eq1 a5 (b := 190) (k := 21) rfl]; rfl), fun x => absurd (by decide) x⟩)
end RP
