/-! A REPUBLIC'S TEXT: the reference reads a line -/
section R2
variable {f : BY} {n t i p g N : Nat} {K V : Nat → Int32} {b e : Nat → Nat} {M : MM} {w : RW} {s : RS} {M0 : MM} {Q : Int32 → MM → Prop}
def ROK (f : BY) (n t : Nat) (b e : Nat → Nat) (M0 : MM) (res : Option WRS × Nat) (r : Int32) (M' : MM) : Prop := (r = 1 ∧ ∃ q j p' g', res = (some q, j) ∧ j ≤ t ∧ RST f n M0 M' p' g' q.1 q.2 ∧ PT e b j p') ∨ (r = 0 ∧ ∃ j, res = (none, j) ∧ j ≤ t ∧ M'.1 190 21 = i32 (b j) ∧ Eqo fq3 M0 M')
def ROW (f : BY) (n t : Nat) (b e : Nat → Nat) (M0 : MM) (s : RS) (res : Option RW × Nat) (r : Int32) (M' : MM) : Prop := (r = 1 ∧ ∃ w' j p' g', res = (some w', j) ∧ j ≤ t ∧ RST f n M0 M' p' g' w' s ∧ PT e b j p') ∨ (r = 0 ∧ ∃ j, res = (none, j) ∧ j ≤ t ∧ M'.1 190 21 = i32 (b j) ∧ Eqo fq3 M0 M')
theorem r_hab (hb : BOK f n) (hn : n ≤ 400) (hT : TKS f n t K V b e) {c : Nat} (hc : c < 1000) (h : RST f n M0 M p g w s) (hi : i ≤ t) (hp : PT e b i p) (hQ : ∀ r M', ROW f n t b e M0 s (pHab K V (sz b e) c 6 0 i w) r M' → Q r M') : W_m_readHabit (i32 c) N M Q := by
  unfold W_m_readHabit
  refine I_m_readHabit_2 (i32 c) Q (fun v M' => ∃ k u j w' p' g', u + k = 6 ∧ v = i32 u ∧ j ≤ t ∧ RST f n M0 M' p' g' w' s ∧ PT e b j p' ∧ (u = 0 ∨ g' = b j) ∧ pHab K V (sz b e) c 6 0 i w = pHab K V (sz b e) c k u j w') (fun N ih v M' hih hv => ?_) N _ _ ⟨6, 0, i, w, p, g, rfl, rfl, hi, h, hp, Or.inl rfl, rfl⟩
  obtain ⟨k, u, j, w', p', g', k1, rfl, k2, k3, k4, k5, k6⟩ := hv
  rw [k6] at hQ
  unfold B_m_readHabit_2
  refine ⟨fun h6 => ?_, fun h6 => ?_⟩
  · have hu : u = 6 := (i32_ij (b := 6) (by omega) (by omega)).mp h6
    obtain rfl : k = 0 := by omega
    have hg : g' = b j := by
      rcases k5 with c | c
      · omega
      · exact c
    exact hQ 0 M' (Or.inr ⟨rfl, j, rfl, k2, hg ▸ RST_g k3⟩)
  · have hu : u ≠ 6 := fun c => h6 (by rw [c]; rfl)
    obtain ⟨k, rfl⟩ : ∃ k', k = k' + 1 := ⟨k - 1, by omega⟩
    unfold pHab at hQ
    refine r_mt hb hn hT k3 k2 k4 (fun M4 h4 => ?_)
    by_cases hm : mtq K V (sz b e) j = true
    · rw [if_pos hm] at hQ ⊢
      obtain ⟨m1, m2, m3, m4, m5, m6, m7⟩ := mtq_ok hT k2 hm
      refine ⟨fun y => absurd y m6, fun _ => ?_⟩
      refine r_set (c := c) (k := 7 + u) h4 hc (by omega) (i32_a 7 u) (fun M7 h7 => ?_)
      refine r_fig hb hn hT h7 (i := j + 1) (by omega) (np_T hb hn hT k2 m1).1 (fun M9 h9 => ⟨fun hk => ?_, fun hk => ?_⟩)
      · rw [if_pos hk] at hQ
        refine ⟨fun y => absurd y (by decide), fun _ => hih _ _ ⟨k, u + 1, j + 1, _, _, _, by omega, i32_s u, by omega, h9, PT_b hT (by omega), Or.inr rfl, ?_⟩⟩
        rw [k6]
        show (if mtq K V (sz b e) j = true then _ else _) = _
        rw [if_pos hm, if_pos hk]
      · rw [if_neg hk] at hQ
        refine ⟨fun _ => ?_, fun y => absurd rfl y⟩
        refine r_set (c := c) (k := 5) h9 hc (by omega) rfl (fun M12 h12 => ?_)
        rw [i32_s] at h12
        exact hQ 1 _ (Or.inl ⟨rfl, _, j + 1, _, _, rfl, by omega, h12, PT_b hT (by omega)⟩)
    · rw [if_neg hm] at hQ ⊢
      exact ⟨fun _ => hQ 0 _ (Or.inr ⟨rfl, j, rfl, k2, RST_g h4⟩), fun y => absurd (by decide) y⟩
theorem r_kno (hb : BOK f n) (hn : n ≤ 400) (hT : TKS f n t K V b e) {F c : Nat} {C : Int32} (hF : 400 < F) (hc : c < 1000) (hC : C < 1000) (hx : mx 0 (M0.1 190 15) - 1 = C) (h : RST f n M0 M p g w s) (hi : i ≤ t) (hp : PT e b i p) (hQ : ∀ r M', ROW f n t b e M0 s (pKn K V C c F i w) r M' → Q r M') : W_m_readKnows (i32 c) N M Q := by
  have ht := hT.1
  unfold W_m_readKnows
  refine I_m_readKnows_0 (i32 c) Q (fun M' => ∃ k j w' p' g', 400 < k + j ∧ j ≤ t ∧ RST f n M0 M' p' g' w' s ∧ PT e b j p' ∧ pKn K V C c F i w = pKn K V C c k j w') (fun N ih M' hih hv => ?_) N _ ⟨F, i, w, p, g, by omega, hi, h, hp, rfl⟩
  obtain ⟨k, j, w', p', g', k1, k2, k3, k4, k6⟩ := hv
  rw [k6] at hQ
  unfold B_m_readKnows_0
  rw [show V_m_clauses M' - 1 = C from by unfold V_m_clauses; rw [eq1 k3.2.2.2 (b := 190) (k := 15) rfl]; exact hx]
  refine r_nm hb hn hT hC k3 k2 k4 (fun M2 h2 => ?_)
  by_cases hk0 : k = 0
  · subst hk0
    -- not reached: the text has ended
    have hjt : j = t := by omega
    have : nm K V 0 C j < 0 := by
      rcases Classical.em (nm K V 0 C j < 0) with h | h
      · exact h
      · obtain ⟨m, -, -, -, -, -, -, hlt⟩ := nm_ok hT k2 h
        omega
    exact ⟨fun _ => hQ 0 _ (Or.inr ⟨rfl, j, rfl, k2, RST_g h2⟩), fun y => absurd this y⟩
  · obtain ⟨k, rfl⟩ : ∃ k', k = k' + 1 := ⟨k - 1, by omega⟩
    unfold pKn at hQ
    refine ⟨fun hneg => ?_, fun hneg => ?_⟩
    · rw [if_pos hneg] at hQ
      exact hQ 0 _ (Or.inr ⟨rfl, j, rfl, k2, RST_g h2⟩)
    · rw [if_neg hneg] at hQ
      obtain ⟨m, hm, m1, m2, m3, m4, m5, m6⟩ := nm_ok hT k2 hneg
      rw [show V_m_of (i32 c) 1 M2 = cl w' c 1 from by
        have := v_of (c := c) (i := 1) (M := M2) hc (by omega)
        rw [h2.2.1] at this
        exact this]
      refine r_set (c := c) (k := 1) h2 hc (by omega) rfl (fun M5 h5 => ?_)
      refine r_fig hb hn hT h5 (i := j + 1) (by omega) (np_T hb hn hT k2 m3).1 (fun M9 h9 => ⟨fun hk => ?_, fun hk => ?_⟩)
      · refine ⟨fun y => absurd y (by decide), fun _ => hih _ ⟨k, j + 1, _, _, _, by omega, by omega, h9, PT_b hT (by omega), ?_⟩⟩
        rw [k6]
        show (if nm K V 0 C j < 0 then _ else _) = _
        rw [if_neg hneg, if_pos hk]
        rfl
      · rw [if_neg hk] at hQ
        exact ⟨fun _ => hQ 1 _ (Or.inl ⟨rfl, _, j + 1, _, _, rfl, by omega, h9, PT_b hT (by omega)⟩), fun y => absurd rfl y⟩
theorem zrow_0 (hb : BOK f n) (hn : n ≤ 400) (hT : TKS f n t K V b e) {c : Nat} : zrow w c 0 = w := by
  funext j
  unfold zrow
  rw [if_neg (by omega)]
theorem zrow_s (hb : BOK f n) (hn : n ≤ 400) (hT : TKS f n t K V b e) {c k : Nat} : up1 (zrow w c k) (18 + 13 * c + k) 0 = zrow w c (k + 1) := by
  funext j
  unfold up1 zrow
  by_cases h : j = 18 + 13 * c + k
  · rw [if_pos h, if_pos (by omega)]
  · rw [if_neg h]
    by_cases h2 : 18 + 13 * c ≤ j ∧ j < 18 + 13 * c + k
    · rw [if_pos h2, if_pos (by omega)]
    · rw [if_neg h2, if_neg (by omega)]
theorem r_zer (hb : BOK f n) (hn : n ≤ 400) (hT : TKS f n t K V b e) {c : Nat} {k34 : MM → Prop} (hc : c < 1000) (h : RST f n M0 M p g w s) (hQ : ∀ M', RST f n M0 M' p g (zrow w c 13) s → k34 M') : W_m_readCitizen_15 (i32 c) k34 Q N 0 M := by
  refine I_m_readCitizen_15 (i32 c) k34 Q (fun v M' => ∃ k, k ≤ 13 ∧ v = i32 k ∧ RST f n M0 M' p g (zrow w c k) s) (fun N ih v M' hih hv => ?_) N _ _ ⟨0, by omega, rfl, by rw [zrow_0 hb hn hT]; exact h⟩
  obtain ⟨k, k1, rfl, k2⟩ := hv
  unfold B_m_readCitizen_15
  refine ⟨fun hl => ?_, fun hl => ?_⟩
  · have hl' : k < 13 := (i32_lt (k := 13) (by omega) (by omega)).mp hl
    refine r_set (c := c) (k := k) k2 hc (by omega) rfl (fun M4 h4 => hih _ _ ⟨k + 1, by omega, i32_s k, ?_⟩)
    rw [zrow_s hb hn hT] at h4
    exact h4
  · have : ¬ k < 13 := fun e => hl ((i32_lt (j := k) (k := 13) (by omega) (by omega)).mpr e)
    obtain rfl : k = 13 := by omega
    exact hQ _ k2
theorem r_cit (hb : BOK f n) (hn : n ≤ 400) (hT : TKS f n t K V b e) {F : Nat} {C : Int32} (hF : 400 < F) (hC : C < 1000) (hx : mx 0 (M0.1 190 15) - 1 = C) (h : RST f n M0 M p g w s) (hw : WF w) (hi : i + 1 ≤ t) (hp : PT e b (i + 1) p) (hg : g = b i) (hQ : ∀ r M', ROK f n t b e M0 (if nC w = 10 then (none, i) else pCit K V (sz b e) C F (w, s) (i + 1)) r M' → Q r M') : W_m_readCitizen N M Q := by
  obtain ⟨e0, e1, e2⟩ := nC_i hw
  unfold W_m_readCitizen
  have hc : V_m_citizens M = i32 (nC w) := by
    unfold V_m_citizens
    rw [h.2.1]
    exact e2
  rw [hc]
  refine ⟨fun h10 => ?_, fun h10 => ?_⟩
  · have : nC w = 10 := (i32_ij (b := 10) (by omega) (by omega)).mp h10
    rw [if_pos this] at hQ
    exact hQ 0 M (Or.inr ⟨rfl, i, rfl, by omega, hg ▸ RST_g h⟩)
  · rw [if_neg (fun y => h10 (by rw [y]; rfl))] at hQ
    unfold pCit at hQ
    dsimp only at hQ
    refine r_zer hb hn hT (by omega) h (fun M5 h5 => ?_)
    rw [ni_i (show nC w < 2147483648 by omega)]
    refine r_set (c := nC w) (k := 0) (RST_j h5) (by omega) (by omega) rfl (fun M7 h7 => ?_)
    refine r_set (c := nC w) (k := 4) h7 (by omega) (by omega) rfl (fun M9 h9 => ?_)
    refine r_lts hb hn hT h9 hi hp (fun e' M11 he h11 => ?_)
    refine r_isw hb hn hT st_fear (by omega) h11 hi he (fun hk ee hlt hp' => ?_) (fun hk => ?_)
    · rw [if_pos (show K (i + 1) = 12 from hk)] at hQ
      refine ⟨fun y => absurd y (by decide), fun _ => ?_⟩
      refine r_nm hb hn hT (by decide) h11 (i := i + 1 + 1) (by omega) hp' (fun M16 h16 => ?_)
      refine r_set (c := nC w) (k := 2) h16 (by omega) (by omega) rfl (fun M18 h18 => ?_)
      have hof : V_m_of (i32 (nC w)) 2 M18 = nm K V 0 100 (i + 1 + 1) := by
        have := v_of (c := nC w) (i := 2) (M := M18) (by omega) (by omega)
        rw [h18.2.1] at this
        rw [show (2 : Int32) = i32 2 from rfl, this]
        exact up1_e
      rw [hof]
      refine ⟨fun hneg => ?_, fun hneg => ?_⟩
      · rw [if_pos hneg] at hQ
        exact hQ 0 _ (Or.inr ⟨rfl, _, rfl, by omega, RST_g h18⟩)
      · rw [if_neg hneg] at hQ
        obtain ⟨m, hm, m1, m2, m3, m4, m5, m6⟩ := nm_ok hT (by omega) hneg
        refine r_lts hb hn hT h18 (i := i + 1 + 1 + 1) (by omega) (np_T hb hn hT (by omega) m3).1 (fun e2' M21 he2 h21 => ?_)
        refine r_isw hb hn hT st_does (by omega) h21 (by omega) he2 (fun hk2 ee2 hlt2 hp2 => ?_) (fun hk2 => ?_)
        · rw [if_pos (show K (i + 1 + 2) = 13 from hk2)] at hQ
          refine ⟨fun y => absurd y (by decide), fun _ => ?_⟩
          refine r_hab hb hn hT (by omega) h21 (i := i + 1 + 1 + 1 + 1) (by omega) hp2 (fun r25 M26 h26 => ?_)
          replace hQ : ∀ r M', ROK f n t b e M0 (match pHab K V (sz b e) (nC w) 6 0 (i + 1 + 3) (citW w (nC w) (nm K V 0 100 (i + 1 + 1))) with
            | (none, j) => (none, j)
            | (some w2, j) => if K j = 14 then (match pKn K V C (nC w) F (j + 1) w2 with
              | (none, j') => (none, j')
              | (some w3, j') => (some (morW w3, us s (nC w) (Int64.ofNat 0)), j')) else (some (morW w2, us s (nC w) (Int64.ofNat 0)), j)) r M' → Q r M' := hQ
          rcases h26 with ⟨rfl, w2, j, p2, g2, j1, j2, j3, j4⟩ | ⟨rfl, j, j1, j2, j3⟩
          · replace j1 : pHab K V (sz b e) (nC w) 6 0 (i + 1 + 3) (citW w (nC w) (nm K V 0 100 (i + 1 + 1))) = (some w2, j) := j1
            rw [j1] at hQ
            refine ⟨fun y => absurd y (by decide), fun _ => ?_⟩
            have fin : ∀ (M' : MM) (w3 : RW) (j' p' g' : Nat), RST f n M0 M' p' g' w3 (us s (nC w) (Int64.ofNat 0)) → RST f n M0 (wi M' 191 (ni 0) ((M'.1 191 (ni 0)) + 1)) p' g' (morW w3) (us s (nC w) (Int64.ofNat 0)) := fun M' w3 j' p' g' hh => by
              have := RST_w (k := ni 0) (y := M'.1 191 (ni 0) + 1) hh
              rw [hh.2.1] at this ⊢
              exact this
            refine r_ps hb hn hT st_knows (by omega) j3 j2 j4 (fun hk3 hlt3 M29 h29 hp3 => ?_) (fun hk3 M29 h29 hp3 => ?_)
            · replace hQ : ∀ r M', ROK f n t b e M0 (match pKn K V C (nC w) F (j + 1) w2 with
              | (none, j') => (none, j')
              | (some w3, j') => (some (morW w3, us s (nC w) (Int64.ofNat 0)), j')) r M' → Q r M' := fun r M' hh => hQ r M' (by
                show ROK f n t b e M0 (if K j = 14 then _ else _) r M'
                rw [if_pos (show K j = 14 from hk3)]
                exact hh)
              refine ⟨fun y => absurd y (by decide), fun _ => ?_⟩
              refine r_kno hb hn hT hF (by omega) hC hx h29 (i := j + 1) (by omega) hp3 (fun r31 M32 h32 => ?_)
              rcases h32 with ⟨rfl, w3, j', p3, g3, l1, l2, l3, l4⟩ | ⟨rfl, j', l1, l2, l3⟩
              · rw [l1] at hQ
                exact ⟨fun y => absurd y (by decide), fun _ => hQ 1 _ (Or.inl ⟨rfl, _, j', _, _, rfl, l2, fin M32 w3 j' _ _ l3, l4⟩)⟩
              · rw [l1] at hQ
                exact ⟨fun _ => hQ 0 _ (Or.inr ⟨rfl, j', rfl, l2, l3⟩), fun y => absurd rfl y⟩
            · replace hQ : ∀ r M', ROK f n t b e M0 (some (morW w2, us s (nC w) (Int64.ofNat 0)), j) r M' → Q r M' := fun r M' hh => hQ r M' (by
                show ROK f n t b e M0 (if K j = 14 then _ else _) r M'
                rw [if_neg (show ¬ K j = 14 from hk3)]
                exact hh)
              exact ⟨fun _ => hQ 1 _ (Or.inl ⟨rfl, _, j, _, _, rfl, j2, fin M29 w2 j _ _ h29, hp3⟩), fun y => absurd rfl y⟩
          · replace j1 : pHab K V (sz b e) (nC w) 6 0 (i + 1 + 3) (citW w (nC w) (nm K V 0 100 (i + 1 + 1))) = (none, j) := j1
            rw [j1] at hQ
            exact ⟨fun _ => hQ 0 _ (Or.inr ⟨rfl, j, rfl, j2, j3⟩), fun y => absurd rfl y⟩
        · rw [if_neg (show ¬ K (i + 1 + 2) = 13 from hk2)] at hQ
          exact ⟨fun _ => hQ 0 _ (Or.inr ⟨rfl, _, rfl, by omega, RST_g h21⟩), fun y => absurd rfl y⟩
    · rw [if_neg (show ¬ K (i + 1) = 12 from hk)] at hQ
      exact ⟨fun _ => hQ 0 _ (Or.inr ⟨rfl, _, rfl, hi, RST_g h11⟩), fun y => absurd rfl y⟩
end R2
