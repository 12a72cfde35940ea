/-! THE TEXT SPLIT: the loop -/
section SQ
variable {f : BY} {n t : Nat} {M M' : MM}
theorem spi_put {j e : Nat} {k v : Int32} (hn : n ≤ 400) (hj : j < n) (ht : t ≤ j) (h : CHN f n M t) (hb : ∀ i, i < t → thb M i < n) (h2 : gp M t ≤ j) (h3 : ∀ x, gp M t ≤ x → x < j → (f x).toInt = 32) (h35 : M.1 3 5 = 0)
    (a1 : M'.1 3 4 = i32 (t + 1)) (a2 : M'.1 4 t = k) (a3 : M'.1 5 t = i32 j) (a4 : M'.1 6 t = i32 (e - j)) (a5 : M'.1 7 t = v) (a6 : ∀ a x, x ≠ t → 4 ≤ a → M'.1 a x = M.1 a x) (a7 : Eqo fp_Text_put M M')
    (hne : (f j).toInt ≠ 32) (hje : j < e) (he : e ≤ n) (hk : TKN f n j k e v) (hl : e = j + 1 ∨ (∀ x, j ≤ x → x < e → LT f n x) ∨ (∀ x, j ≤ x → x < e → DG f n x)) : SPI f n M' (t + 1) (j + 1) := by
  obtain ⟨c1, c2, c3⟩ := chn_s h hn a2 a3 a4 a5 a6 (by omega) he hk ⟨h2, by omega, h3, fun _ => hne⟩
  have g : gp M' (t + 1) = e := by rw [gp_s, c3]
  refine ⟨by omega, a1, by rw [eq1 a7 (b := 3) (k := 5) rfl]; exact h35, c1, fun i hi => ?_, by omega, ?_⟩
  · by_cases c : i = t
    · rw [c, c2]; exact hj
    · rw [thb_eq (a6 5 i c (by omega))]
      exact hb i (by omega)
  · rw [g]
    by_cases c : e = j + 1
    · exact Or.inl ⟨by omega, fun x x1 x2 => by omega⟩
    · refine Or.inr ⟨by omega, by omega, ?_, ?_⟩
      · rw [show t + 1 - 1 = t by omega, c2]; omega
      · rw [show t + 1 - 1 = t by omega, c2]
        rcases hl with hl | hl
        · exact absurd hl c
        · exact hl
theorem spi_skip {j : Nat} (h : SPI f n M t j) (hs : (gp M t ≤ j ∧ (f j).toInt = 32) ∨ j < gp M t) : SPI f n M t (j + 1) := by
  obtain ⟨b1, b2, b3, b4, b5, b6, b7⟩ := h
  refine ⟨by omega, b2, b3, b4, b5, b6, ?_⟩
  rcases b7 with ⟨c1, c2⟩ | ⟨c1, c2, c3, c4⟩
  · rcases hs with ⟨-, hs⟩ | hs
    · refine Or.inl ⟨by omega, fun x x1 x2 => ?_⟩
      by_cases c : x = j
      · rw [c]; exact hs
      · exact c2 x x1 (by omega)
    · omega
  · by_cases c : gp M t = j + 1
    · exact Or.inl ⟨by omega, fun x x1 x2 => by omega⟩
    · exact Or.inr ⟨by omega, c2, by omega, c4⟩
theorem c_split {N : Nat} {Q : MM → Prop} (h : TXc M f n) (hn : n ≤ 400) (hQ : ∀ M' t, TXT f n M' t → M'.1 3 5 = 0 → Eqo fp_Text_split M M' → Q M') : W_Text_split N M Q := by
  refine and_Text_split (Q1 := fun M' => ∃ t, TXT f n M' t ∧ M'.1 3 5 = 0) (fun M' h1 h2 => by obtain ⟨t, h1, h3⟩ := h1; exact hQ M' t h1 h3 h2) ?_ (an_Text_split (Q := fun M' => Eqo fp_Text_split M M') (fun M' h => h))
  unfold W_Text_split
  refine I_Text_split_12 _ (fun v M' => ∃ t j, j ≤ n ∧ v = i32 j ∧ TXc M' f n ∧ SPI f n M' t j) (fun N ih v M' hih hv => ?_) N _ _ ⟨0, 0, by omega, rfl, ⟨by rw [wi_1n (by omega), wi_1n (by omega)]; exact h.1, h.2⟩, ⟨by omega, by rw [wi_1n (by omega)]; exact wi_1e, wi_1e, fun i hi => by omega, fun i hi => by omega, Nat.zero_le _, Or.inl ⟨Nat.zero_le _, fun x x1 x2 => by omega⟩⟩⟩
  obtain ⟨t, j, hj, rfl, hc, hs⟩ := hv
  have hs' := hs
  obtain ⟨b1, b2, b3, b4, b5, b6, b7⟩ := hs'
  have hcp : ∀ M2, Eqo fp_Text_put M' M2 → TXc M2 f n := fun M2 e => ⟨by rw [eq1 e (b := 1) (k := 1) rfl]; exact hc.1, by rw [eqb e (lo := 2) (hi := 2) rfl (Nat.le_refl _) (Nat.le_refl _)]; exact hc.2⟩
  unfold B_Text_split_12
  rw [v_let hc hn (by omega), v_dig hc hn (by omega), v_letp hc hn (by omega), v_digp hc hn (by omega), hc.1, hc.2, ni_i (by omega), i32_s]
  refine ⟨fun hjn => ?_, fun hjn => ?_⟩
  · have hjn' := (i32_lt (by omega) (by omega)).mp hjn
    rcases b7 with ⟨c1, c2⟩ | ⟨c1, c2, c3, c4⟩
    · refine ⟨fun hl => ⟨fun hd => ⟨fun h32 => ?_, fun h32 => ?_⟩, fun hd => ⟨fun hp => ?_, fun hp => ?_⟩⟩, fun hl => ⟨fun hp => ?_, fun hp => ?_⟩⟩
      · refine hih _ _ ⟨t, j + 1, by omega, rfl, hc, spi_skip hs (Or.inl ⟨c1, ?_⟩)⟩
        rw [h32]; rfl
      · rw [b32_eq0, decide_eq_false_iff_not] at hl hd
        have h32' : (f j).toInt ≠ 32 := fun e => h32 (Int32.toInt_inj.mp (by rw [e]; rfl))
        refine c_put b2 (by omega) (by omega) (by omega) (fun M2 a1 a2 a3 a4 a5 a6 a7 => hih _ _ ⟨t + 1, j + 1, by omega, rfl, hcp M2 a7, spi_put hn hjn' b1 b4 b5 c1 c2 b3 a1 a2 a3 a4 a5 a6 a7 h32' (by omega) (by omega) (Or.inr (Or.inr (Or.inl ⟨hjn', hl, hd, h32', rfl, rfl, rfl⟩))) (Or.inl rfl)⟩)
      · rw [b32_ne0, decide_eq_true_eq] at hd
        refine c_eon hc hn hd (fun e he => ?_)
        have hlt : j < e := by
          rcases Nat.lt_or_ge j e with c | c
          · exact c
          · obtain rfl : j = e := by have := he.1; omega
            exact absurd hd he.2.2.2
        refine c_val hc hn (by omega) he.2.1 ?_
        refine c_put b2 (by omega) (by omega) (by have := he.2.1; omega) (fun M2 a1 a2 a3 a4 a5 a6 a7 => hih _ _ ⟨t + 1, j + 1, by omega, rfl, hcp M2 a7, spi_put hn hjn' b1 b4 b5 c1 c2 b3 a1 a2 a3 a4 a5 a6 a7 (by have := hd.2; omega) hlt he.2.1 (Or.inr (Or.inl ⟨hd, he, rfl, rfl⟩)) (Or.inr (Or.inr he.2.2.1))⟩)
      · rw [b32_ne0, decide_eq_true_eq] at hd hp
        exact absurd hp (spi_dig b4 b5 c1 c2 hd)
      · rw [b32_ne0, decide_eq_true_eq] at hl
        refine c_eow hc hn hl (fun e he => ?_)
        have hlt : j < e := by
          rcases Nat.lt_or_ge j e with c | c
          · exact c
          · obtain rfl : j = e := by have := he.1; omega
            exact absurd hl he.2.2.2
        refine c_word hc hn (by omega) he.2.1 (fun r hr => ?_)
        refine c_put b2 (by omega) (by omega) (by have := he.2.1; omega) (fun M2 a1 a2 a3 a4 a5 a6 a7 => hih _ _ ⟨t + 1, j + 1, by omega, rfl, hcp M2 a7, spi_put hn hjn' b1 b4 b5 c1 c2 b3 a1 a2 a3 a4 a5 a6 a7 (by have := hl.2; omega) hlt he.2.1 (Or.inl ⟨hl, he, ⟨r, hr, rfl⟩, rfl⟩) (Or.inr (Or.inl he.2.2.1))⟩)
      · rw [b32_ne0, decide_eq_true_eq] at hl hp
        exact absurd hp (spi_let b4 b5 c1 c2 hl)
    · have hsk := hih _ _ ⟨t, j + 1, by omega, rfl, hc, spi_skip hs (Or.inr c1)⟩
      rcases c4 with c4 | c4
      · have l1 := c4 j (by omega) c1
        have l2 := c4 (j - 1) (by omega) (by omega)
        refine ⟨fun hl => ?_, fun hl => ⟨fun hp => ?_, fun _ => hsk⟩⟩
        · rw [b32_eq0, decide_eq_false_iff_not] at hl
          exact absurd l1 hl
        · rw [b32_eq0, decide_eq_false_iff_not] at hp
          exact absurd ⟨by omega, l2⟩ hp
      · have l1 := c4 j (by omega) c1
        have l2 := c4 (j - 1) (by omega) (by omega)
        refine ⟨fun hl => ⟨fun hd => ?_, fun hd => ⟨fun hp => ?_, fun _ => hsk⟩⟩, fun hl => ?_⟩
        · rw [b32_eq0, decide_eq_false_iff_not] at hd
          exact absurd l1 hd
        · rw [b32_eq0, decide_eq_false_iff_not] at hp
          exact absurd ⟨by omega, l2⟩ hp
        · rw [b32_ne0, decide_eq_true_eq] at hl
          have := l1.2
          have := hl.2
          omega
  · have hjn' : ¬ j < n := fun x => hjn ((i32_lt (by omega) (by omega)).mpr x)
    obtain rfl : j = n := by omega
    rcases b7 with ⟨c1, c2⟩ | ⟨c1, c2, c3, c4⟩
    · refine c_put b2 (by omega) (Nat.le_refl _) (by omega) (fun M2 a1 a2 a3 a4 a5 a6 a7 => ?_)
      obtain ⟨d1, d2, d3⟩ := chn_s b4 hn a2 a3 a4 a5 a6 (Nat.le_refl _) (Nat.le_refl _) (Or.inr (Or.inr (Or.inr ⟨rfl, rfl, rfl, rfl⟩))) ⟨c1, Nat.le_refl _, c2, fun x => by omega⟩
      refine ⟨t, ⟨d1, d2, fun i hi => ?_, a1, by omega⟩, by rw [eq1 a7 (b := 3) (k := 5) rfl]; exact b3⟩
      rw [thb_eq (a6 5 i (by omega) (by omega))]
      exact b5 i hi
    · omega
end SQ
