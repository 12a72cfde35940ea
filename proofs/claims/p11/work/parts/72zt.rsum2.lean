/-! THE REFERENCE'S READING OF A SUM -/
theorem RMg_b {td : Nat → Int32} {σ0 σ1 σ2 : Nat} {s q : SF} {op : Int32} (h1 : RMg td σ0 σ1 s) (h2 : RMg td σ1 σ2 q) (l1 : σ0 ≤ σ1) (l2 : σ1 ≤ σ2) (ho : td (2 * σ2) = op) (o1 : 5 < op) (o2 : ¬ op = 9) : RMg td σ0 (σ2 + 1) (fun pl wh kn dy => rop op (s pl wh kn dy) (q pl wh kn dy)) := fun pl wh kn dy val h hh => by
  obtain ⟨v1, a1, a2, a3⟩ := h1 pl wh kn dy val h (by omega)
  obtain ⟨v2, b1, b2, b3⟩ := h2 pl wh kn dy v1 (h + 1) (by omega)
  refine ⟨up1 v2 h (rop op (s pl wh kn dy) (q pl wh kn dy)), ?_, up1_e, fun j hj => ?_⟩
  · rw [show σ2 + 1 - σ0 = (σ1 - σ0) + ((σ2 - σ1) + 1) by omega, rrun_app, a1, show σ0 + (σ1 - σ0) = σ1 by omega, rrun_app, b1, show σ1 + (σ2 - σ1) = σ2 by omega]
    show rst pl wh kn dy (td (2 * σ2)) (td (2 * σ2 + 1)) (i32 (h + 1 + 1), v2) = _
    unfold rst
    rw [ho, if_pos o1, if_neg o2]
    dsimp only
    have e1 : i32 (h + 1 + 1) + (-1) = i32 (h + 1) := by
      rw [← i32_s (h + 1), Int32.add_assoc, show (1 + -1 : Int32) = 0 from by decide, Int32.add_zero]
    have e2 : i32 (h + 1) - 1 = i32 h := by
      rw [← i32_s]
      exact Int32.add_sub_cancel _ _
    rw [e1, e2, ni_i (by omega), ni_i (by omega), b2, b3 h (by omega), a2]
  · rw [up1_n (by omega), b3 j (by omega), a3 j hj]
section RS2
variable {f : BY} {n t i p g σ : Nat} {K V : Nat → Int32} {b e : Nat → Nat} {M : MM}
theorem tk_end (h : TKS f n t K V b e) : K t = 21 := by
  have hb := h.2.1
  rcases (h.2.2.2 t (Nat.le_refl _)).1 with ⟨h1, -⟩ | ⟨h1, -⟩ | ⟨h1, -⟩ | ⟨-, -, h1, -⟩
  · have := h1.1; omega
  · have := h1.1; omega
  · omega
  · exact h1
theorem tk_lt (h : TKS f n t K V b e) (hi : i ≤ t) (hk : ¬ K i = 21) : i < t := by
  rcases Nat.lt_or_ge i t with c | c
  · exact c
  · obtain rfl : i = t := by omega
    exact absurd (tk_end h) hk
theorem pPart_lt {s : SF} (h : TKS f n t K V b e) (hi : i ≤ t) (hs : pPart K V i = some s) : i < t := by
  refine tk_lt h hi (fun x => ?_)
  rw [pPart_n (by rw [x]; decide) (by rw [x]; decide) (by rw [x]; decide) (by rw [x]; decide) (by rw [x]; decide)] at hs
  cases hs
def zSF : SF := fun _ _ _ _ => 0
theorem r_sum {N m : Nat} {Q : Int32 → MM → Prop} (h : TXr M f n p g) (hb : BOK f n) (hn : n ≤ 400) (hT : TKS f n t K V b e) (hi : i ≤ t) (hp : PT e b i p) (hs : M.1 190 25 = i32 σ) (hσ : σ ≤ i) (hm : t ≤ i + m)
    (hQ1 : ∀ s j, pSum K V (m + 1) zSF i = (some s, j) → j ≤ t → ∀ M' p' g' σ', TXr M' f n p' g' → PT e b j p' → M'.1 190 25 = i32 σ' → σ' + i ≤ σ + j → σ ≤ σ' → RMg (M'.1 202) σ σ' s → (∀ x, x < 2 * σ → M'.1 202 x = M.1 202 x) → M'.1 190 22 = M.1 190 22 → Q 1 M')
    (hQ0 : ∀ j, pSum K V (m + 1) zSF i = (none, j) → j ≤ t → ∀ M', M'.1 190 21 = i32 (b j) → Q 0 M') : W_m_readSum N M Q := by
  have ht := hT.1
  unfold W_m_readSum
  refine r_part h hb hn hT hi hp hs (by omega) (fun s hps M1 t1 c1 g1 f1 y1 => ?_) (fun hps M1 x1 => ?_)
  · refine ⟨fun x => absurd x (by decide), fun _ => ?_⟩
    have hlt := pPart_lt hT hi hps
    have hz : (fun pl wh kn dy => zSF pl wh kn dy + s pl wh kn dy) = s := by
      funext pl wh kn dy
      exact Int32.zero_add _
    refine I_m_readSum_9 _ (fun M' => ∃ i' m' s' σ' p' g', i' ≤ t ∧ pSum K V (m + 1) zSF i = (if K i' = 43 then pSum K V m' s' (i' + 1) else (some s', i')) ∧ t ≤ i' + m' ∧ TXr M' f n p' g' ∧ PT e b i' p' ∧ M'.1 190 25 = i32 σ' ∧ σ' + i ≤ σ + i' ∧ σ ≤ σ' ∧ RMg (M'.1 202) σ σ' s' ∧ (∀ x, x < 2 * σ → M'.1 202 x = M.1 202 x) ∧ M'.1 190 22 = M.1 190 22) (fun N ih M' hih hv => ?_) N _ ⟨i + 1, m, s, σ + 1, e i, b i, by omega, ?_, by omega, t1, PT_s hT hlt, c1, by omega, by omega, g1, f1, y1⟩
    · obtain ⟨i', m', s', σ', p', g', k1, k2, k3, k4, k5, k6, k7, k8, k9, k10, k11⟩ := hv
      unfold B_m_readSum_9
      refine t_sign (by decide) k4 hb hn hT k1 k5 ⟨fun hk => ?_, fun hk => ?_⟩
      · refine ⟨fun x => absurd x (by decide), fun _ => ?_⟩
        have hlt' := tk_lt hT k1 (by rw [hk]; decide)
        rw [if_pos hk] at k2
        obtain ⟨m2, rfl⟩ : ∃ m2, m' = m2 + 1 := ⟨m' - 1, by omega⟩
        refine r_part (M := atP M' (e i') (b i')) (atP_T k4) hb hn hT (by omega) (PT_s hT hlt') k6 (by omega) (fun q hq M2 t2 c2 g2 f2 y2 => ?_) (fun hq M2 x2 => ?_)
        · refine ⟨fun x => absurd x (by decide), fun _ => ?_⟩
          have hlt2 := pPart_lt hT (by omega) hq
          refine r_emits c2 (by omega) (fun M3 a1 a2 a3 a4 a5 => hih _ ⟨i' + 2, m2, fun pl wh kn dy => s' pl wh kn dy + q pl wh kn dy, σ' + 2, e (i' + 1), b (i' + 1), by omega, ?_, by omega, TXr_e t2 a5 rfl, PT_s hT hlt2, a1, by omega, by omega, ?_, fun x hx => ?_, by rw [eq1 a5 (b := 190) (k := 22) rfl, y2]; exact k11⟩)
          · rw [k2]
            show (match pPart K V (i' + 1) with | none => (none, i' + 1) | some q => _) = _
            rw [hq]
          · have r1 : RMg (M3.1 202) σ σ' s' := RMg_cg k9 k8 (fun j hj => by rw [a4 j (by omega), f2 j hj]; rfl)
            have r2 : RMg (M3.1 202) σ' (σ' + 1) q := RMg_cg g2 (by omega) (fun j hj => a4 j hj)
            exact RMg_b r1 r2 k8 (by omega) a2 (by decide) (by decide)
          · rw [a4 x (by omega), f2 x (by omega)]
            exact k10 x hx
        · refine ⟨fun _ => hQ0 (i' + 1) ?_ (by omega) M2 x2, fun x => absurd rfl x⟩
          rw [k2]
          show (match pPart K V (i' + 1) with | none => (none, i' + 1) | some q => _) = _
          rw [hq]
      · refine ⟨fun _ => ?_, fun x => absurd rfl x⟩
        rw [if_neg hk] at k2
        exact hQ1 s' i' k2 k1 _ _ _ σ' (atP_T k4) (PT_b hT k1) k6 k7 k8 k9 k10 k11
    · show (match pPart K V i with | none => (none, i) | some q => _) = _
      rw [hps]
      dsimp only
      rw [hz]
  · refine ⟨fun _ => hQ0 i ?_ hi M1 x1, fun x => absurd rfl x⟩
    show (match pPart K V i with | none => (none, i) | some q => _) = _
    rw [hps]
end RS2
