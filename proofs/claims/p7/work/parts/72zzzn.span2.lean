/-! ANSWERS: the span -/
section SP2
variable {B : Int} {M M0 : MM} {p q : Int32} {N : Nat} {L : LWT} {w : RW} {s : RS}
/-- the arrests of a try with a seed -/
def gotF (L : LWT) (w : RW) (s : RS) (n k : Nat) : Int32 := (dayI L n (up1 w 9 (i32 k), s)).1 3 - w 3
/-- the best after the seeds below k -/
def spnF (L : LWT) (w : RW) (s : RS) (n : Nat) (q : Int32) : Nat → Int32
  | 0 => -1
  | k + 1 => if k = 0 then gotF L w s n 1 else if q = 0 then (if gotF L w s n (k + 1) < spnF L w s n q k then gotF L w s n (k + 1) else spnF L w s n q k) else (if spnF L w s n q k < gotF L w s n (k + 1) then gotF L w s n (k + 1) else spnF L w s n q k)
theorem c_try {a n k N : Nat} {Q : MM → Prop} (hc : CW M 18 w s) (hw : WF w) (hL : LawC M 8 L) (hd : 0 ≤ (w 2).toInt ∧ (w 2).toInt ≤ 28000) (hn : n ≤ 40) (hk : k < 100) (hQ : ∀ M', CW M' 18 w s → LawC M' 8 L → M'.1 30 16 = (dayI L n (up1 w 9 (i32 k), s)).1 3 → M'.1 18 16 = w 3 → Q M') : W_E_tryDays (i32 n) (i32 k) N M Q := by
  unfold W_E_tryDays
  refine sp_become (Or.inr (by omega)) hc (fun M3 h3 e3 => ?_)
  have h9 : CW (wi M3 30 14 (i32 k)) 30 (up1 w 9 (i32 k)) s := CW_sc h3 (Or.inr (Or.inr (Or.inr (Or.inr (Or.inr (Or.inr (Or.inr ⟨rfl, rfl⟩)))))))
  have w9 : WF (up1 w 9 (i32 k)) := WF_sc hw (by omega) (by omega) (by omega) (by omega)
  have e9 : (up1 w 9 (i32 k)) 2 = w 2 := up1_n (by omega)
  have dW : ∀ i : Nat, i ≤ 41 → WF (dayI L i (up1 w 9 (i32 k), s)).1 ∧ dOK (dayI L i (up1 w 9 (i32 k), s)).1 := fun i hi => by
    obtain ⟨a, b⟩ := dayI_W (L := L) (x := (up1 w 9 (i32 k), s)) w9 (by show 0 ≤ (up1 w 9 (i32 k) 2).toInt; rw [e9]; exact hd.1) i (by show (up1 w 9 (i32 k) 2).toInt + _ ≤ _; rw [e9]; omega)
    have b' : ((dayI L i (up1 w 9 (i32 k), s)).1 2).toInt = (w 2).toInt + i := by
      rw [b]
      show (up1 w 9 (i32 k) 2).toInt + _ = _
      rw [e9]
    refine ⟨a, ?_⟩
    unfold dOK
    rw [b']
    exact ⟨by omega, by omega⟩
  have oth : ∀ {M' : MM}, Eqo (fp_World_become 30 18) M M' → CW (wi M' 30 14 (i32 k)) 18 w s ∧ LawC (wi M' 30 14 (i32 k)) 8 L := fun e => ⟨CW_eq (CW_oth hc e (Or.inl (by omega))) (eqo_1 (a := 30) (k := 14)) rfl, LawC_eq (LawC_eq hL e rfl) (eqo_1 (a := 30) (k := 14)) rfl⟩
  obtain ⟨o1, o2⟩ := oth e3
  refine I_E_tryDays_21 (i32 n) (i32 k) Q (fun v M' => ∃ i, i ≤ n ∧ v = i32 i ∧ CW M' 30 (dayI L i (up1 w 9 (i32 k), s)).1 (dayI L i (up1 w 9 (i32 k), s)).2 ∧ CW M' 18 w s ∧ LawC M' 8 L) (fun N ih v M' hih hv => ?_) N _ _ ⟨0, by omega, rfl, h9, o1, o2⟩
  obtain ⟨i, hi, rfl, h30, h18, h8⟩ := hv
  unfold B_E_tryDays_21
  rw [i32_lt (by omega) (by omega)]
  refine ⟨fun hlt => c_dayE h30 (dW i (by omega)).1 h8 (by omega) (dW i (by omega)).2 (fun M5 c5 l5 e5 => hih _ _ ⟨i + 1, by omega, i32_s i, c5, CW_eq h18 e5 rfl, l5⟩), fun hlt => ?_⟩
  obtain rfl : i = n := by omega
  exact hQ M' h18 h8 h30.1.2.2.2.1 h18.1.2.2.2.1
theorem a_span (h : CP B M) (hB : 0 ≤ B ∧ B ≤ 28000) (hk : 0 ≤ (M.1 191 3).toInt ∧ (M.1 191 3).toInt ≤ 10 * (M.1 191 2).toInt) : W_E_span p q N M (fun y M1 => ∀ z N', W_m_span p q N' (wj M1 215 0 z) (fun b M2 => CP B M2 ∧ M2.1 190 0 = 0 ∧ y = b)) (fun ce M1 => ∀ N', W_m_span p q N' M1 (fun _ M2 => CP B M2 ∧ M2.1 190 0 = 1)) := by
  obtain ⟨L, hL, hR, hcl, hc, hg⟩ := CP_w h
  have hw := hg.1
  have d0 := hg.2.1
  have d1 := hg.2.2.1
  by_cases hp : 0 ≤ p.toInt ∧ p.toInt ≤ 40
  · obtain ⟨n, hn, rfl⟩ := lit_r (q := p) (n := 41) (by omega)
    have w9 : ∀ k : Nat, WF (up1 (M.1 191) 9 (i32 k)) := fun k => WF_sc hw (by omega) (by omega) (by omega) (by omega)
    have e92 : ∀ k : Nat, (up1 (M.1 191) 9 (i32 k)) 2 = M.1 191 2 := fun k => up1_n (by omega)
    have e93 : ∀ k : Nat, (up1 (M.1 191) 9 (i32 k)) 3 = M.1 191 3 := fun k => up1_n (by omega)
    have got0 : ∀ k, 0 ≤ (gotF L (M.1 191) (M.2 196) n k).toInt := fun k => by
      obtain ⟨a, b, -⟩ := dayI_a (L := L) (x := (up1 (M.1 191) 9 (i32 k), M.2 196)) (w9 k) (by show 0 ≤ (up1 (M.1 191) 9 (i32 k) 2).toInt; rw [e92]; exact d0) (by
        show 0 ≤ (up1 (M.1 191) 9 (i32 k) 3).toInt ∧ (up1 (M.1 191) 9 (i32 k) 3).toInt ≤ _
        rw [e93]
        exact ⟨hk.1, by have := hk.2; omega⟩) n (by omega) (by show (up1 (M.1 191) 9 (i32 k) 2).toInt + _ ≤ _; rw [e92]; omega)
      have a' : (M.1 191 3).toInt ≤ ((dayI L n (up1 (M.1 191) 9 (i32 k), M.2 196)).1 3).toInt := by
        have a2 : (up1 (M.1 191) 9 (i32 k) 3).toInt ≤ _ := a
        rw [e93] at a2
        exact a2
      have b' : ((dayI L n (up1 (M.1 191) 9 (i32 k), M.2 196)).1 3).toInt ≤ (M.1 191 3).toInt + 10 * n := by
        have b2 : _ ≤ (up1 (M.1 191) 9 (i32 k) 3).toInt + 10 * n := b
        rw [e93] at b2
        exact b2
      unfold gotF
      rw [i32_sub (by omega) (by omega)]
      omega
    have spn0 : ∀ k, 1 ≤ k → 0 ≤ (spnF L (M.1 191) (M.2 196) n q k).toInt := by
      intro k
      induction k with
      | zero => intro h; omega
      | succ k ih =>
        intro _
        unfold spnF
        by_cases e : k = 0
        · rw [if_pos e]; exact got0 1
        · rw [if_neg e]
          have := ih (by omega)
          split <;> split <;> first | exact got0 _ | exact this
    refine and_E_span (Q1 := fun y _ => y = spnF L (M.1 191) (M.2 196) n q 6) (E1 := fun _ _ => False) (Q2 := fun _ M1 => Eqo fp_E_span M M1) (E2 := fun _ _ => True) (fun y M1 hy h1 z N' => ?_) (fun ce M1 hf _ => hf.elim) ?_ (an_E_span (fun _ _ e => e) (fun _ _ _ => trivial))
    · subst hy
      have e1 := eqo_app h1 (eqo_z (z := z))
      have hp' : CP B (wj M1 215 0 z) := CP_z (CP_eq h h1 rfl) z
      generalize wj M1 215 0 z = M1 at *
      have x191 : M1.1 191 = M.1 191 := eqb e1 (lo := 191) (hi := 191) rfl (Nat.le_refl _) (Nat.le_refl _)
      have x196 : M1.2 196 = M.2 196 := eqb2 e1 (lo := 196) (hi := 196) rfl (Nat.le_refl _) (Nat.le_refl _)
      refine and_m_span (Q1 := fun b M2 => M2.1 190 0 = 0 ∧ spnF L (M.1 191) (M.2 196) n q 6 = b) (fun b M2 q1 q2 => ⟨q2, q1⟩) ?_ (fm_span hp')
      have fin : ∀ X : MM, V_m_in (i32 n) 0 40 X = 1 := fun X => by rw [v_in, show (0 : Int32).toInt = 0 from rfl, show (40 : Int32).toInt = 40 from rfl, decide_eq_true hp]; rfl
      unfold W_m_span W_m_throwsIf
      simp only [fin, e10, e10n, true_implies, false_implies, not_true_eq_false, not_false_eq_true, and_true, true_and, if_true]
      refine try_0 (fun M2 t2 => ?_)
      rw [x191, x196] at t2
      have hR1 : LawR M1 L := LawR_eq hR e1 rfl
      have hn1 : V_m_clauses M1 = i32 L.1 := by
        unfold V_m_clauses at hcl ⊢
        rw [eq1 e1 (b := 190) (k := 15) rfl]
        exact hcl
      refine I_m_span_39 _ _ _ (fun v3 v4 M' => ∃ k, k ≤ 6 ∧ v4 = i32 (k + 1) ∧ v3 = spnF L (M.1 191) (M.2 196) n q k ∧ TRY M1 M' (M.1 191, M.2 196)) (fun N ih v3 v4 M' hih hv => ?_) N' _ _ _ ⟨0, by omega, rfl, rfl, t2⟩
      obtain ⟨k, hk6, rfl, rfl, t⟩ := hv
      unfold B_m_span_39
      rw [show (6 : Int32) < i32 (k + 1) ↔ 6 < k + 1 from i32_lt (j := 6) (by omega) (by omega)]
      refine ⟨fun hlt => ⟨t.2.1, by rw [show k = 6 by omega]⟩, fun hlt => ?_⟩
      have t9 : TRY M1 (wi M' 191 (ni 9) (i32 (k + 1))) (up1 (M.1 191) 9 (i32 (k + 1)), M.2 196) := ⟨kp_eq t.1 eqo_a (fps_cons (i := 3) rfl fps_nil) rfl, by rw [wi_1n (by omega)]; exact t.2.1, wi_row t.2.2.1, t.2.2.2⟩
      have dW : ∀ i : Nat, i ≤ 41 → WF (dayI L i (up1 (M.1 191) 9 (i32 (k + 1)), M.2 196)).1 ∧ dOK (dayI L i (up1 (M.1 191) 9 (i32 (k + 1)), M.2 196)).1 := fun i hi => by
        obtain ⟨a, b⟩ := dayI_W (L := L) (x := (up1 (M.1 191) 9 (i32 (k + 1)), M.2 196)) (w9 _) (by show 0 ≤ (up1 (M.1 191) 9 (i32 (k + 1)) 2).toInt; rw [e92]; exact d0) i (by show (up1 (M.1 191) 9 (i32 (k + 1)) 2).toInt + _ ≤ _; rw [e92]; omega)
        have b' : ((dayI L i (up1 (M.1 191) 9 (i32 (k + 1)), M.2 196)).1 2).toInt = (M.1 191 2).toInt + i := by
          rw [b]
          show (up1 (M.1 191) 9 (i32 (k + 1)) 2).toInt + _ = _
          rw [e92]
        refine ⟨a, ?_⟩
        unfold dOK
        rw [b']
        exact ⟨by omega, by omega⟩
      refine I_m_span_58 _ _ _ _ _ _ (fun v M'' => ∃ i, i ≤ n ∧ v = i32 i ∧ TRY M1 M'' (dayI L i (up1 (M.1 191) 9 (i32 (k + 1)), M.2 196))) (fun N ih2 v M'' hih2 hv => ?_) N _ _ ⟨0, by omega, rfl, t9⟩
      obtain ⟨i, hi, rfl, ti⟩ := hv
      unfold B_m_span_58
      rw [i32_lt (by omega) (by omega)]
      refine ⟨fun hlt2 => try_day ti (dW i (by omega)).1 (dW i (by omega)).2 hR1 hn1 (fun M6 t6 => hih2 _ _ ⟨i + 1, by omega, i32_s i, t6⟩), fun hlt2 => ?_⟩
      obtain rfl : i = n := by omega
      have hhi := dayI_hi (L := L) (x := (up1 (M.1 191) 9 (i32 (k + 1)), M.2 196)) (w9 _) (by show 0 ≤ (up1 (M.1 191) 9 (i32 (k + 1)) 2).toInt; rw [e92]; exact d0) i (by show (up1 (M.1 191) 9 (i32 (k + 1)) 2).toInt + _ ≤ _; rw [e92]; omega)
      have g3 : M''.1 191 (ni 3) - M''.1 194 (ni 3) = gotF L (M.1 191) (M.2 196) i (k + 1) := by
        rw [ti.2.2.1, show M''.1 194 (ni 3) = M1.1 191 3 from ti.1.2.1 3 (by omega), x191]
        rfl
      refine try_bk ti (fun j hj => by rw [x191, hhi.1 j hj]; exact up1_n (by omega)) (fun j hj => by rw [x196]; exact hhi.2 j hj) (fun M13 t13 => ?_)
      rw [g3]
      have nx : ∀ x, x = spnF L (M.1 191) (M.2 196) i q (k + 1) → ih x (i32 (k + 1) + 1) M13 := fun x hx => hih _ _ _ ⟨k + 1, by omega, i32_s (k + 1), hx, by rw [x191, x196] at t13; exact t13⟩
      have z0 : (0 : Int32).toInt = 0 := rfl
      by_cases e0 : k = 0
      · subst e0
        refine ⟨fun _ => nx _ ?_, fun hb => absurd (show (-1 : Int32) < 0 by decide) hb⟩
        unfold spnF
        rw [if_pos rfl]
      · have s0 := spn0 k (by omega)
        refine ⟨fun hb => absurd hb (by rw [lt_lit, z0]; omega), fun _ => ⟨fun hq => nx _ ?_, fun hq => nx _ ?_⟩⟩
        · show _ = spnF L (M.1 191) (M.2 196) i q (k + 1)
          rw [show spnF L (M.1 191) (M.2 196) i q (k + 1) = if k = 0 then gotF L (M.1 191) (M.2 196) i 1 else if q = 0 then (if gotF L (M.1 191) (M.2 196) i (k + 1) < spnF L (M.1 191) (M.2 196) i q k then gotF L (M.1 191) (M.2 196) i (k + 1) else spnF L (M.1 191) (M.2 196) i q k) else (if spnF L (M.1 191) (M.2 196) i q k < gotF L (M.1 191) (M.2 196) i (k + 1) then gotF L (M.1 191) (M.2 196) i (k + 1) else spnF L (M.1 191) (M.2 196) i q k) from rfl, if_neg e0, if_pos hq]
          unfold mn
          by_cases c1 : gotF L (M.1 191) (M.2 196) i (k + 1) < spnF L (M.1 191) (M.2 196) i q k
          · rw [if_pos c1]
          · rw [if_neg c1]
        · rw [show spnF L (M.1 191) (M.2 196) i q (k + 1) = if k = 0 then gotF L (M.1 191) (M.2 196) i 1 else if q = 0 then (if gotF L (M.1 191) (M.2 196) i (k + 1) < spnF L (M.1 191) (M.2 196) i q k then gotF L (M.1 191) (M.2 196) i (k + 1) else spnF L (M.1 191) (M.2 196) i q k) else (if spnF L (M.1 191) (M.2 196) i q k < gotF L (M.1 191) (M.2 196) i (k + 1) then gotF L (M.1 191) (M.2 196) i (k + 1) else spnF L (M.1 191) (M.2 196) i q k) from rfl, if_neg e0, if_neg hq]
          unfold mx
          by_cases c1 : spnF L (M.1 191) (M.2 196) i q k < gotF L (M.1 191) (M.2 196) i (k + 1)
          · rw [if_pos c1]
          · rw [if_neg c1]
    · unfold W_E_span
      refine s_num (fun _ => ?_) (fun hb => absurd hp hb)
      refine I_E_span_12 _ _ _ _ (fun v3 v4 M' => ∃ k, k ≤ 6 ∧ v4 = i32 (k + 1) ∧ v3 = spnF L (M.1 191) (M.2 196) n q k ∧ CW M' 18 (M.1 191) (M.2 196) ∧ LawC M' 8 L) (fun N ih v3 v4 M' hih hv => ?_) N _ _ _ ⟨0, by omega, rfl, rfl, hc, hL⟩
      obtain ⟨k, hk6, rfl, rfl, hc', hL'⟩ := hv
      unfold B_E_span_12
      rw [show (6 : Int32) < i32 (k + 1) ↔ 6 < k + 1 from i32_lt (j := 6) (by omega) (by omega)]
      refine ⟨fun hlt => by rw [show k = 6 by omega], fun hlt => c_try (a := 0) hc' hw hL' ⟨d0, by omega⟩ (by omega) (by omega) (fun M5 c5 l5 g1 g2 => ?_)⟩
      rw [g1, g2, show (dayI L n (up1 (M.1 191) 9 (i32 (k + 1)), M.2 196)).1 3 - M.1 191 3 = gotF L (M.1 191) (M.2 196) n (k + 1) from rfl]
      have nx : ∀ x, x = spnF L (M.1 191) (M.2 196) n q (k + 1) → ih x (i32 (k + 1) + 1) M5 := fun x hx => hih _ _ _ ⟨k + 1, by omega, i32_s (k + 1), hx, c5, l5⟩
      have u : spnF L (M.1 191) (M.2 196) n q (k + 1) = if k = 0 then gotF L (M.1 191) (M.2 196) n 1 else if q = 0 then (if gotF L (M.1 191) (M.2 196) n (k + 1) < spnF L (M.1 191) (M.2 196) n q k then gotF L (M.1 191) (M.2 196) n (k + 1) else spnF L (M.1 191) (M.2 196) n q k) else (if spnF L (M.1 191) (M.2 196) n q k < gotF L (M.1 191) (M.2 196) n (k + 1) then gotF L (M.1 191) (M.2 196) n (k + 1) else spnF L (M.1 191) (M.2 196) n q k) := rfl
      by_cases e0 : k = 0
      · subst e0
        refine ⟨fun _ => nx _ ?_, fun hb => absurd rfl hb⟩
        rw [u, if_pos rfl]
      · have s0 := spn0 k (by omega)
        refine ⟨fun hb => absurd (congrArg Int32.toInt hb) (by rw [show (-1 : Int32).toInt = -1 from rfl]; omega), fun _ => ⟨fun hq => ⟨fun c => nx _ ?_, fun c => nx _ ?_⟩, fun hq => ⟨fun c => nx _ ?_, fun c => nx _ ?_⟩⟩⟩
        · rw [u, if_neg e0, if_pos hq, if_pos c]
        · rw [u, if_neg e0, if_pos hq, if_neg c]
        · rw [u, if_neg e0, if_neg hq, if_pos c]
        · rw [u, if_neg e0, if_neg hq, if_neg c]
  · have fin : ∀ X : MM, V_m_in p 0 40 X = 0 := fun X => by rw [v_in, show (0 : Int32).toInt = 0 from rfl, show (40 : Int32).toInt = 40 from rfl, decide_eq_false hp]; rfl
    unfold W_E_span
    refine s_num (fun hb => absurd hb hp) (fun _ N' => ?_)
    unfold W_m_span W_m_throwsIf
    simp only [fin, e10, e10n, true_implies, false_implies, not_true_eq_false, not_false_eq_true, and_true, true_and, if_true]
    exact CP_t h 1 (fun e => e)
end SP2
