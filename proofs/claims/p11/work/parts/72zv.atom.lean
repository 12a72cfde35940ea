/-! THE REFERENCE'S READING OF AN ATOM, a level over the one within -/
def atomW (rc ra : Nat → MM → (Int32 → MM → Prop) → Prop) (N : Nat) (M : MM) (Q : Int32 → MM → Prop) : Prop :=
  W_m_sign 40 N M (fun r1 M2 =>
    ((r1 = 0 →
      W_m_passes 3124213513 N M2 (fun r4 M5 =>
        ((r4 = 0 →
          W_m_passes 204756940403467 N M5 (fun r7 M8 =>
            ((r7 = 0 → cmpW N M8 Q) ∧
             (¬ r7 = 0 →
              W_m_emits 4 0 N M8 (fun M36 =>
                Q 1 M36))))) ∧
         (¬ r4 = 0 →
          (((M5.1 190 22) = 6 →
            Q 0 M5) ∧
           (¬ (M5.1 190 22) = 6 →
            ra N (wi M5 190 22 ((M5.1 190 22) + 1)) (fun r38 M39 =>
              ((r38 = 0 →
                Q 0 M39) ∧
               (¬ r38 = 0 →
                W_m_emits 9 0 N (wi M39 190 22 ((M39.1 190 22) - 1)) (fun M42 =>
                  Q 1 M42)))))))))) ∧
     (¬ r1 = 0 →
      (((M2.1 190 22) = 6 →
        Q 0 M2) ∧
       (¬ (M2.1 190 22) = 6 →
        rc N (wi M2 190 22 ((M2.1 190 22) + 1)) (fun r44 M45 =>
          ((r44 = 0 →
            Q 0 M45) ∧
           (¬ r44 = 0 →
            W_m_sign 41 N (wi M45 190 22 ((M45.1 190 22) - 1)) (fun r47 M48 =>
              Q r47 M48)))))))))
theorem atomW_384 {N : Nat} {M : MM} {Q : Int32 → MM → Prop} : W_m_readAtom_384 N M Q = atomW W_m_readCond_385 W_m_readAtom_387 N M Q := rfl
theorem atomW_0 {N : Nat} {M : MM} {Q : Int32 → MM → Prop} : W_m_readAtom_387 N M Q = atomW (fun _ _ _ => True) (fun _ _ _ => True) N M Q := rfl
section RA
variable {f : BY} {n t : Nat} {K V : Nat → Int32} {b e : Nat → Nat}
def RDR (f : BY) (n t : Nat) (b e : Nat → Nat) (rd : Nat → MM → (Int32 → MM → Prop) → Prop) (sp : Nat → Option BF × Nat) (d : Int32) : Prop := ∀ N M p g i σ Q, TXr M f n p g → PT e b i p → i ≤ t → M.1 190 25 = i32 σ → σ ≤ i → M.1 190 22 = d → RDS f n t b e i σ M (sp i) Q → rd N M Q
theorem TXr_22 {M : MM} {p g : Nat} {x : Int32} (h : TXr M f n p g) : TXr (wi M 190 22 x) f n p g := TXr_e h (eqo_1 (a := 190) (k := 22)) rfl
theorem r_atomS {rc ra : Nat → MM → (Int32 → MM → Prop) → Prop} {F k d : Nat} (hb : BOK f n) (hn : n ≤ 400) (hT : TKS f n t K V b e) (hd : d < 6) (hc : RDR f n t b e rc (pCond K V F k) (i32 (d + 1))) (ha : RDR f n t b e ra (pAtom K V F k) (i32 (d + 1))) : RDR f n t b e (atomW rc ra) (pAtom K V F (k + 1)) (i32 d) := by
  intro N M p g i σ Q h hp hi hs hσ h22 hQ
  have ht := hT.1
  have d6 : ¬ (i32 d = 6) := fun x => by
    have := (i32_ij (b := 6) (by omega) (by omega)).mp x
    omega
  have hd1 : i32 (d + 1) - 1 = i32 d := by
    rw [← i32_s]
    exact Int32.add_sub_cancel _ _
  unfold pAtom at hQ
  unfold atomW
  refine t_sign (by decide) h hb hn hT hi hp ⟨fun hk => ?_, fun hk => ?_⟩
  · rw [if_pos hk] at hQ
    have hlt := tk_lt hT hi (by rw [hk]; decide)
    refine ⟨fun x => absurd x (by decide), fun _ => ?_⟩
    rw [show (atP M (e i) (b i)).1 190 22 = i32 d from h22]
    refine ⟨fun x => absurd x d6, fun _ => ?_⟩
    rw [i32_s]
    refine hc N _ (e i) (b i) (i + 1) σ _ (TXr_22 (atP_T h)) (PT_s hT hlt) (by omega) hs (by omega) wi_1e ⟨fun c j hj hjt hij M' p' g' σ' t1 k1 c1 q1 q2 m1 f1 y1 => ?_, fun j hj hjt M' x1 => ?_⟩
    · refine ⟨fun x => absurd x (by decide), fun _ => ?_⟩
      rw [show pJoin K (pAtom K V F k) F none none (i + 1) = (some c, j) from hj] at hQ
      dsimp only at hQ
      rw [y1, wi_1e, hd1]
      refine t_sign (by decide) (TXr_22 t1) hb hn hT hjt k1 ⟨fun hk2 => ?_, fun hk2 => ?_⟩
      · rw [if_pos hk2] at hQ
        have hlt2 := tk_lt hT hjt (by rw [hk2]; decide)
        exact hQ.1 c (j + 1) rfl (by omega) (by omega) _ _ _ σ' (atP_T (TXr_22 t1)) (PT_s hT hlt2) c1 (by omega) q2 m1 (fun x hx => f1 x hx) h22.symm
      · rw [if_neg hk2] at hQ
        exact hQ.2 j rfl hjt _ rfl
    · refine ⟨fun _ => ?_, fun x => absurd rfl x⟩
      rw [show pJoin K (pAtom K V F k) F none none (i + 1) = (none, j) from hj] at hQ
      exact hQ.2 j rfl hjt M' x1
  · rw [if_neg hk] at hQ
    refine ⟨fun _ => ?_, fun x => absurd rfl x⟩
    refine t_passes st_not (by omega) (atP_T h) hb hn hT hi (PT_b hT hi) ⟨fun hk2 => ?_, fun hk2 => ?_⟩
    · rw [if_pos (show K i = 5 from hk2)] at hQ
      have hlt := tk_lt hT hi (by rw [hk2]; decide)
      refine ⟨fun x => absurd x (by decide), fun _ => ?_⟩
      rw [atP_2, show (atP M (e i) (b i)).1 190 22 = i32 d from h22]
      refine ⟨fun x => absurd x d6, fun _ => ?_⟩
      rw [i32_s]
      refine ha N _ (e i) (b i) (i + 1) σ _ (TXr_22 (atP_T h)) (PT_s hT hlt) (by omega) hs (by omega) wi_1e ⟨fun c j hj hjt hij M' p' g' σ' t1 k1 c1 q1 q2 m1 f1 y1 => ?_, fun j hj hjt M' x1 => ?_⟩
      · refine ⟨fun x => absurd x (by decide), fun _ => ?_⟩
        rw [hj] at hQ
        dsimp only at hQ
        rw [y1, wi_1e, hd1]
        refine r_emits (M := wi M' 190 22 (i32 d)) (σ := σ') c1 (by omega) (fun M3 a1 a2 a3 a4 a5 => hQ.1 _ j rfl hjt (by omega) M3 p' g' (σ' + 1) (TXr_e (TXr_22 t1) a5 rfl) k1 a1 (by omega) (by omega) (BMg_n (RMg_cg m1 q2 (fun x hx => a4 x hx)) q2 a2) (fun x hx => (a4 x (by omega)).trans (f1 x hx)) ?_)
        rw [eq1 a5 (b := 190) (k := 22) rfl, wi_1e, h22]
      · refine ⟨fun _ => ?_, fun x => absurd rfl x⟩
        rw [hj] at hQ
        exact hQ.2 j rfl hjt M' x1
    · rw [if_neg (show ¬ K i = 5 from hk2)] at hQ
      refine ⟨fun _ => ?_, fun x => absurd rfl x⟩
      rw [atP_2]
      refine t_passes st_feast (by omega) (atP_T h) hb hn hT hi (PT_b hT hi) ⟨fun hk3 => ?_, fun hk3 => ?_⟩
      · rw [if_pos (show K i = 6 from hk3)] at hQ
        have hlt := tk_lt hT hi (by rw [hk3]; decide)
        refine ⟨fun x => absurd x (by decide), fun _ => ?_⟩
        rw [atP_2]
        refine r_emits (M := atP M (e i) (b i)) (σ := σ) hs (by omega) (fun M3 a1 a2 a3 a4 a5 => hQ.1 _ (i + 1) rfl (by omega) (by omega) M3 (e i) (b i) (σ + 1) (TXr_e (atP_T h) a5 rfl) (PT_s hT hlt) a1 (by omega) (by omega) (RMg_1 a2 a3 (by decide) (fun pl wh kn dy => ?_)) a4 (eq1 a5 (b := 190) (k := 22) rfl))
        show (if rm dy 7 = 0 then (1 : Int32) else 0) = b32 (decide (rm dy 7 = 0))
        by_cases c : rm dy 7 = 0
        · rw [if_pos c, decide_eq_true c]; rfl
        · rw [if_neg c, decide_eq_false c]; rfl
      · rw [if_neg (show ¬ K i = 6 from hk3)] at hQ
        refine ⟨fun _ => ?_, fun x => absurd rfl x⟩
        rw [atP_2]
        exact r_cmp (M := atP M (b i) (b i)) (atP_T h) hb hn hT hi (PT_b hT hi) hs hσ hQ
end RA
