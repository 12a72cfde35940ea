/-! ANSWERS: the day of the first arrest, the span -/
section SPN
variable {B : Int} {M M0 : MM} {p q : Int32} {N : Nat} {L : LWT} {w : RW} {s : RS}
/-- what lies behind the rows stays -/
theorem seeS_hi {f m : Int32} {c : Nat} (hc : 10 ≤ c) : ∀ n, n ≤ 10 → seeS w f m n s c = s c
  | 0, _ => rfl
  | n + 1, h => by
    rw [seeS_s]
    split
    · unfold us
      rw [if_neg (by omega)]
      exact seeS_hi hc n (by omega)
    · exact seeS_hi hc n (by omega)
theorem judgeS_hi {fo f : Int32} {c j : Nat} {x : RW × RS} (hw : WF x.1) (hc : c < 10) (hj : 388 ≤ j) : (judgeS L fo f c x).1 j = x.1 j ∧ ∀ k, 10 ≤ k → (judgeS L fo f c x).2 k = x.2 k := by
  have hn := (nC_i hw).2.1
  unfold judgeS
  split
  · exact ⟨rfl, fun _ _ => rfl⟩
  · split
    · refine ⟨?_, fun k hk => seeS_hi hk _ hn⟩
      dsimp only
      unfold logS takeS hrmS
      rw [if_neg (by omega), if_neg (by omega), if_neg (by omega), if_neg (by omega), if_neg (by omega), if_neg (by omega), up1_n (by omega), up1_n (by omega), up1_n (by omega), up1_n (by omega)]
    · refine ⟨?_, fun _ _ => rfl⟩
      dsimp only
      unfold hrmS
      rw [up1_n (by omega), up1_n (by omega)]
theorem judgeN_hi {fo f d : Int32} {j : Nat} {x : RW × RS} (hw : WF x.1) (hj : 388 ≤ j) : ∀ n, n ≤ 10 → (judgeN L fo f d n x).1 j = x.1 j ∧ ∀ k, 10 ≤ k → (judgeN L fo f d n x).2 k = x.2 k
  | 0, _ => ⟨rfl, fun _ _ => rfl⟩
  | n + 1, h => by
    obtain ⟨h1, h2⟩ := judgeN_hi (fo := fo) (f := f) (d := d) hw hj n (by omega)
    have hW := (judgeN_W (L := L) (fo := fo) (f := f) (d := d) (x := x) hw n).2
    rw [judgeN_s]
    split
    · obtain ⟨h3, h4⟩ := judgeS_hi (L := L) (fo := fo) (f := f) (c := n) hW (by omega) hj
      exact ⟨h3.trans h1, fun k hk => (h4 k hk).trans (h2 k hk)⟩
    · exact ⟨h1, h2⟩
theorem dayS_hi {j : Nat} (hw : WF w) (hj : 388 ≤ j) : (dayS L w s).1 j = w j ∧ ∀ k, 10 ≤ k → (dayS L w s).2 k = s k := by
  have hn := (nC_i hw).2.1
  have hP : P59 w (pickN L s (nC w) (w, 0)).1 := pickN_P _
  have wP := P59_WF hP hw
  unfold dayS
  dsimp only
  obtain ⟨h1, h2⟩ := judgeN_hi (L := L) (fo := inF (pickN L s (nC w) (w, 0)).1 (nC w)) (f := bs (frb w) (nC w)) (d := (pickN L s (nC w) (w, 0)).2) (x := ((pickN L s (nC w) (w, 0)).1, s)) wP hj (nC w) hn
  refine ⟨?_, h2⟩
  rw [up1_n (by omega), rest_k (fun c _ => by omega) _ hn, h1]
  exact hP j (by omega) (by omega)
/-- the arrests of a day -/
theorem judgeS_a {fo f : Int32} {c : Nat} {x : RW × RS} (hx : 0 ≤ (x.1 3).toInt ∧ (x.1 3).toInt ≤ 1000000) : (x.1 3).toInt ≤ ((judgeS L fo f c x).1 3).toInt ∧ ((judgeS L fo f c x).1 3).toInt ≤ (x.1 3).toInt + 1 := by
  unfold judgeS
  split
  · exact ⟨Int.le_refl _, by omega⟩
  · split
    · dsimp only
      rw [lg_3]
      unfold takeS hrmS
      rw [up1_n (by omega), up1_e, up1_n (by omega), up1_n (by omega), i32_add (by rw [show (1 : Int32).toInt = 1 from rfl]; omega) (by rw [show (1 : Int32).toInt = 1 from rfl]; omega), show (1 : Int32).toInt = 1 from rfl]
      exact ⟨by omega, by omega⟩
    · dsimp only
      unfold hrmS
      rw [up1_n (by omega), up1_n (by omega)]
      exact ⟨Int.le_refl _, by omega⟩
theorem judgeN_a {fo f d : Int32} {x : RW × RS} (hx : 0 ≤ (x.1 3).toInt ∧ (x.1 3).toInt ≤ 900000) : ∀ n : Nat, n ≤ 10 → (x.1 3).toInt ≤ ((judgeN L fo f d n x).1 3).toInt ∧ ((judgeN L fo f d n x).1 3).toInt ≤ (x.1 3).toInt + n
  | 0, _ => ⟨Int.le_refl _, by show (x.1 3).toInt ≤ _; omega⟩
  | n + 1, h => by
    obtain ⟨h1, h2⟩ := judgeN_a (fo := fo) (f := f) (d := d) hx n (by omega)
    rw [judgeN_s]
    split
    · obtain ⟨h3, h4⟩ := judgeS_a (L := L) (fo := fo) (f := f) (c := n) (x := judgeN L fo f d n x) ⟨by omega, by omega⟩
      exact ⟨by omega, by omega⟩
    · exact ⟨h1, by omega⟩
theorem dayS_a (hw : WF w) (hx : 0 ≤ (w 3).toInt ∧ (w 3).toInt ≤ 900000) : (w 3).toInt ≤ ((dayS L w s).1 3).toInt ∧ ((dayS L w s).1 3).toInt ≤ (w 3).toInt + 10 := by
  have hn := (nC_i hw).2.1
  have hP : P59 w (pickN L s (nC w) (w, 0)).1 := pickN_P _
  have e3 := hP 3 (by omega) (by omega)
  unfold dayS
  dsimp only
  obtain ⟨h1, h2⟩ := judgeN_a (L := L) (fo := inF (pickN L s (nC w) (w, 0)).1 (nC w)) (f := bs (frb w) (nC w)) (d := (pickN L s (nC w) (w, 0)).2) (x := ((pickN L s (nC w) (w, 0)).1, s)) (by rw [e3]; exact hx) (nC w) hn
  dsimp only at h1 h2
  rw [e3] at h1 h2
  rw [up1_n (by omega), rest_k (fun c _ => by omega) _ hn]
  exact ⟨h1, by omega⟩
/-- so many days -/
theorem dayI_a {x : RW × RS} (hw : WF x.1) (h2 : 0 ≤ (x.1 2).toInt) (hx : 0 ≤ (x.1 3).toInt ∧ (x.1 3).toInt ≤ 400000) : ∀ n : Nat, n ≤ 50 → (x.1 2).toInt + n ≤ 29000 → (x.1 3).toInt ≤ ((dayI L n x).1 3).toInt ∧ ((dayI L n x).1 3).toInt ≤ (x.1 3).toInt + 10 * n ∧ ∀ i, i ≤ n → ((dayI L i x).1 3).toInt ≤ ((dayI L n x).1 3).toInt
  | 0, _, _ => ⟨Int.le_refl _, by show (x.1 3).toInt ≤ _; omega, fun i hi => by rw [show i = 0 by omega]; exact Int.le_refl _⟩
  | n + 1, h, h5 => by
    obtain ⟨h1, h3, h4⟩ := dayI_a hw h2 hx n (by omega) (by omega)
    have hW := (dayI_W (L := L) hw h2 n (by omega)).1
    obtain ⟨h6, h7⟩ := dayS_a (L := L) (s := (dayI L n x).2) hW ⟨by omega, by omega⟩
    rw [dayI_s]
    refine ⟨by omega, by omega, fun i hi => ?_⟩
    by_cases e : i = n + 1
    · rw [e, dayI_s]
      exact Int.le_refl _
    · have := h4 i (by omega)
      omega
theorem dayI_hi {x : RW × RS} (hw : WF x.1) (h2 : 0 ≤ (x.1 2).toInt) : ∀ n : Nat, (x.1 2).toInt + n ≤ 29000 → (∀ j, 388 ≤ j → (dayI L n x).1 j = x.1 j) ∧ ∀ k, 10 ≤ k → (dayI L n x).2 k = x.2 k
  | 0, _ => ⟨fun _ _ => rfl, fun _ _ => rfl⟩
  | n + 1, h => by
    obtain ⟨h1, h3⟩ := dayI_hi hw h2 n (by omega)
    have hW := (dayI_W (L := L) hw h2 n (by omega)).1
    rw [dayI_s]
    exact ⟨fun j hj => ((dayS_hi (L := L) (s := (dayI L n x).2) hW hj).1).trans (h1 j hj), fun k hk => ((dayS_hi (L := L) (s := (dayI L n x).2) hW (Nat.le_refl 388)).2 k hk).trans (h3 k hk)⟩
/-- the reference while it tries -/
def TRY (M0 M : MM) (x : RW × RS) : Prop := KP M0 M ∧ M.1 190 0 = 0 ∧ M.1 191 = x.1 ∧ M.2 196 = x.2
theorem try_0 {Q : MM → Prop} (hQ : ∀ M', TRY M M' (M.1 191, M.2 196) → Q M') : W_m_keepsAll N (wi M 190 0 0) Q :=
  and_m_keepsAll (Q1 := fun M' => KP M M' ∧ M'.1 191 = M.1 191 ∧ M'.2 196 = M.2 196) (Q2 := fun M' => Eqo fp_m_keepsAll (wi M 190 0 0) M') (fun M' h1 h2 => hQ M' ⟨h1.1, by rw [eq1 h2 (b := 190) (k := 0) rfl]; exact wi_1e, h1.2.1, h1.2.2⟩) (kp_k2 (M0 := M) (eqo_wi (i := 0) (eqo_rf _) rfl (Or.inr rfl)) rfl rfl (fun M' h1 h2 h3 => ⟨h1, h2, h3⟩)) (an_m_keepsAll (fun M' h => h))
theorem try_day {x : RW × RS} {Q : MM → Prop} (h : TRY M0 M x) (hw : WF x.1) (hd : dOK x.1) (hL : LawR M0 L) (hn : V_m_clauses M0 = i32 L.1) (hQ : ∀ M', TRY M0 M' (dayS L x.1 x.2) → Q M') : W_m_oneDay N M Q := by
  obtain ⟨h1, h2, h3, h4⟩ := h
  have hL' : LawR M L := LawR_eq hL h1.1 rfl
  have hn' : V_m_clauses M = i32 L.1 := by
    unfold V_m_clauses at hn ⊢
    rw [eq1 h1.1 (b := 190) (k := 15) rfl]
    exact hn
  refine and_m_oneDay (Q1 := fun M2 => M2.1 191 = (dayS L x.1 x.2).1 ∧ M2.2 196 = (dayS L x.1 x.2).2) (Q2 := fun M2 => KP M0 M2 ∧ M2.1 190 0 = 0) (fun M2 q1 q2 => hQ M2 ⟨q2.1, q2.2, q1.1, q1.2⟩) ?_ (and_m_oneDay (Q1 := fun M2 => KP M0 M2) (Q2 := fun M2 => Eqo fp_m_oneDay M M2) (fun M2 a b => ⟨a, by rw [eq1 b (b := 190) (k := 0) rfl]; exact h2⟩) (kp_day h1 (fun _ k => k)) (an_m_oneDay (fun _ e => e)))
  have e := rM_id (M := M)
  have t := r_day (M := M) (w := x.1) (s := x.2) (f := M.1 190 29) (d := M.1 190 30) (v := M.1 207) (N := N) (Q := fun M2 => M2.1 191 = (dayS L x.1 x.2).1 ∧ M2.2 196 = (dayS L x.1 x.2).2) hL' hn' hw hd (fun f' d' v' => ⟨rM_191, rM_196⟩)
  rw [h3, h4] at e
  rw [e] at t
  exact t
theorem try_bk {x : RW × RS} {Q : MM → Prop} (h : TRY M0 M x) (h1 : ∀ j, 388 ≤ j → x.1 j = M0.1 191 j) (h2 : ∀ k, 10 ≤ k → x.2 k = M0.2 196 k) (hQ : ∀ M', TRY M0 M' (M0.1 191, M0.2 196) → Q M') : W_m_bringsBack N M Q := by
  obtain ⟨k1, k2, k3, k4⟩ := h
  unfold W_m_bringsBack
  refine sp_likens (P := 0) (R := 0) (by omega) (by omega) (Or.inl (by decide)) ?_
  refine sp_likensS (P := 0) (R := 0) (by omega) (by omega) (Or.inl (by decide)) ?_
  refine hQ _ ⟨kp_eq (kp_eq k1 eqo_lk (fps_cons (i := 3) rfl fps_nil) rfl) eqo_lkS (fps_cons (i := 4) rfl fps_nil) rfl, ?_, ?_, ?_⟩
  · show (lkM M 194 0 191 0 388).1 190 0 = 0
    unfold lkM
    dsimp only
    rw [if_neg (by omega)]
    exact k2
  · funext j
    show (lkM M 194 0 191 0 388).1 191 j = M0.1 191 j
    unfold lkM
    dsimp only
    by_cases e : j < 388
    · rw [if_pos (by omega), show 0 + (j - 0) = j by omega]
      exact k1.2.1 j e
    · rw [if_neg (by omega), k3]
      exact h1 j (by omega)
  · funext c
    unfold lkS
    dsimp only
    by_cases e : c < 10
    · rw [if_pos (by omega)]
      show M.2 199 (0 + (c - 0)) = _
      rw [show 0 + (c - 0) = c by omega]
      exact k1.2.2 c e
    · rw [if_neg (by omega)]
      show M.2 196 c = _
      rw [k4]
      exact h2 c (by omega)
/-- the day of the first arrest -/
def FST (L : LWT) (x : RW × RS) (y : Int32) : Prop := (∃ i, 1 ≤ i ∧ i ≤ 40 ∧ y = i32 i ∧ ¬ (dayI L i x).1 3 = x.1 3 ∧ ∀ j, 1 ≤ j → j < i → (dayI L j x).1 3 = x.1 3) ∨ (y = -1 ∧ ∀ j, 1 ≤ j → j ≤ 40 → (dayI L j x).1 3 = x.1 3)
theorem FST_u {x : RW × RS} {y z : Int32} (h1 : FST L x y) (h2 : FST L x z) : y = z := by
  rcases h1 with ⟨v, v0, v1, v2, v3, v4⟩ | ⟨v2, v4⟩ <;> rcases h2 with ⟨q, q0, q1, q2, q3, q4⟩ | ⟨q2, q4⟩
  · have : v = q := by
      rcases Nat.lt_trichotomy v q with e | e | e
      · exact absurd (q4 v v0 e) v3
      · exact e
      · exact absurd (v4 q q0 e) q3
    rw [v2, q2, this]
  · exact absurd (q4 v v0 v1) v3
  · exact absurd (v4 q q0 q1) q3
  · rw [v2, q2]
theorem a_first (h : CP B M) (hB : 0 ≤ B ∧ B ≤ 28000) (hk : 0 ≤ (M.1 191 3).toInt ∧ (M.1 191 3).toInt ≤ 10 * (M.1 191 2).toInt) : W_E_first N M (fun y M1 => ∀ N', W_m_first N' M1 (fun b M2 => CP B M2 ∧ M2.1 190 0 = 0 ∧ y = b)) := by
  obtain ⟨L, hL, hR, hcl, hc, hg⟩ := CP_w h
  have hw := hg.1
  have d0 := hg.2.1
  have d1 := hg.2.2.1
  have dW : ∀ n : Nat, n ≤ 41 → WF (dayI L n (M.1 191, M.2 196)).1 ∧ dOK (dayI L n (M.1 191, M.2 196)).1 := fun n hn => by
    obtain ⟨a, b⟩ := dayI_W (L := L) (x := (M.1 191, M.2 196)) hw d0 n (by show (M.1 191 2).toInt + _ ≤ _; omega)
    refine ⟨a, ?_⟩
    unfold dOK
    rw [b]
    show 0 ≤ (M.1 191 2).toInt + _ ∧ (M.1 191 2).toInt + _ ≤ _
    exact ⟨by omega, by omega⟩
  refine and_E_first (Q1 := fun y _ => FST L (M.1 191, M.2 196) y) (fun y M1 hy h1 N' => ?_) ?_ (an_E_first (Q := fun _ M1 => Eqo fp_E_first M M1) (fun _ _ e => e))
  · have x191 : M1.1 191 = M.1 191 := eqb h1 (lo := 191) (hi := 191) rfl (Nat.le_refl _) (Nat.le_refl _)
    have x196 : M1.2 196 = M.2 196 := eqb2 h1 (lo := 196) (hi := 196) rfl (Nat.le_refl _) (Nat.le_refl _)
    have hp : CP B M1 := CP_eq h h1 rfl
    refine and_m_first (Q1 := fun b M2 => M2.1 190 0 = 0 ∧ y = b) (fun b M2 q1 q2 => ⟨q2, q1⟩) ?_ (fm_first hp)
    unfold W_m_first
    refine try_0 (fun M2 t2 => ?_)
    rw [x191, x196] at t2
    have hR1 : LawR M1 L := LawR_eq hR h1 rfl
    have hn1 : V_m_clauses M1 = i32 L.1 := by
      unfold V_m_clauses at hcl ⊢
      rw [eq1 h1 (b := 190) (k := 15) rfl]
      exact hcl
    refine I_m_first_11 _ _ (fun v M' => ∃ i, i ≤ 40 ∧ v = i32 i ∧ TRY M1 M' (dayI L i (M.1 191, M.2 196)) ∧ ∀ j, 1 ≤ j → j < i → (dayI L j (M.1 191, M.2 196)).1 3 = M.1 191 3) (fun N ih v M' hih hv => ?_) N' _ _ ⟨0, by omega, rfl, t2, fun j h1 h2 => absurd h2 (by omega)⟩
    obtain ⟨i, hi, rfl, t, hj⟩ := hv
    unfold B_m_first_11
    have e3 : M'.1 191 (ni 3) = (dayI L i (M.1 191, M.2 196)).1 3 := by rw [t.2.2.1]; rfl
    have e4 : M'.1 194 (ni 3) = M.1 191 3 := by rw [← x191]; exact t.1.2.1 3 (by omega)
    rw [show i32 i < 40 ↔ i < 40 from i32_lt (k := 40) (by omega) (by omega), e3, e4]
    have mono := (dayI_a (L := L) (x := (M.1 191, M.2 196)) hw d0 ⟨hk.1, by have := hk.2; show (M.1 191 3).toInt ≤ _; omega⟩ i (by omega) (by show (M.1 191 2).toInt + _ ≤ _; omega)).1
    have mono' : (M.1 191 3).toInt ≤ ((dayI L i (M.1 191, M.2 196)).1 3).toInt := mono
    have hhi := dayI_hi (L := L) (x := (M.1 191, M.2 196)) hw d0 i (by show (M.1 191 2).toInt + _ ≤ _; omega)
    have back : ∀ (b : Int32), FST L (M.1 191, M.2 196) b → W_m_bringsBack N' M' (fun M11 => M11.1 190 0 = 0 ∧ y = b) := fun b hb => try_bk t (fun j hj => by rw [x191]; exact hhi.1 j hj) (fun k hk => by rw [x196]; exact hhi.2 k hk) (fun M11 t11 => ⟨t11.2.1, FST_u hy hb⟩)
    have stop : (i = 40 ∨ ¬ (dayI L i (M.1 191, M.2 196)).1 3 = M.1 191 3) → ((M.1 191 3 < (dayI L i (M.1 191, M.2 196)).1 3 → W_m_bringsBack N' M' (fun M11 => M11.1 190 0 = 0 ∧ y = i32 i)) ∧ (¬ M.1 191 3 < (dayI L i (M.1 191, M.2 196)).1 3 → W_m_bringsBack N' M' (fun M11 => M11.1 190 0 = 0 ∧ y = -1))) := fun hs => by
      refine ⟨fun hlt => back _ (Or.inl ⟨i, ?_, hi, rfl, ?_, hj⟩), fun hlt => back _ (Or.inr ⟨rfl, fun j j1 j2 => ?_⟩)⟩
      · by_cases e : i = 0
        · rw [e] at hlt
          exact absurd hlt (by rw [lt_lit]; show ¬ (M.1 191 3).toInt < (M.1 191 3).toInt; omega)
        · omega
      · intro e
        rw [show (dayI L i (M.1 191, M.2 196)).1 3 = M.1 191 3 from e, lt_lit] at hlt
        omega
      · rw [lt_lit] at hlt
        have e : (dayI L i (M.1 191, M.2 196)).1 3 = M.1 191 3 := Int32.toInt_inj.mp (by omega)
        rcases hs with hs | hs
        · by_cases e2 : j = i
          · rw [e2]; exact e
          · exact hj j j1 (by omega)
        · exact absurd e hs
    refine ⟨fun hlt => ⟨fun e => ?_, fun e => ?_⟩, fun hlt => ?_⟩
    · refine try_day t (dW i (by omega)).1 (dW i (by omega)).2 hR1 hn1 (fun M6 t6 => hih _ _ ⟨i + 1, by omega, i32_s i, t6, fun j j1 j2 => ?_⟩)
      by_cases e2 : j = i
      · rw [e2]; exact e
      · exact hj j j1 (by omega)
    · show ((M'.1 194 (ni 3) < M'.1 191 (ni 3) → _) ∧ (¬ M'.1 194 (ni 3) < M'.1 191 (ni 3) → _))
      rw [e3, e4]
      exact stop (Or.inr e)
    · show ((M'.1 194 (ni 3) < M'.1 191 (ni 3) → _) ∧ (¬ M'.1 194 (ni 3) < M'.1 191 (ni 3) → _))
      rw [e3, e4]
      exact stop (Or.inl (by omega))
  · unfold W_E_first
    refine sp_become (Or.inr (by omega)) hc (fun M3 h3 e3 => ?_)
    have a16 : M3.1 18 16 = M.1 191 3 := by rw [eq1 e3 (b := 18) (k := 16) rfl]; exact hc.1.2.2.2.1
    refine I_E_first_13 _ (fun v M' => ∃ i, i ≤ 40 ∧ v = i32 (i + 1) ∧ CW M' 30 (dayI L i (M.1 191, M.2 196)).1 (dayI L i (M.1 191, M.2 196)).2 ∧ LawC M' 8 L ∧ M'.1 18 16 = M.1 191 3 ∧ ∀ j, 1 ≤ j → j ≤ i → (dayI L j (M.1 191, M.2 196)).1 3 = M.1 191 3) (fun N ih v M' hih hv => ?_) N _ _ ⟨0, by omega, rfl, h3, LawC_eq hL e3 rfl, a16, fun j h1 h2 => absurd h2 (by omega)⟩
    obtain ⟨i, hi, rfl, hcw, hl, h16, hj⟩ := hv
    unfold B_E_first_13
    rw [show (40 : Int32) < i32 (i + 1) ↔ 40 < i + 1 from i32_lt (j := 40) (by omega) (by omega)]
    refine ⟨fun hlt => Or.inr ⟨rfl, fun j j1 j2 => hj j j1 (by omega)⟩, fun hlt => ?_⟩
    refine c_dayE hcw (dW i (by omega)).1 hl (by omega) (dW i (by omega)).2 (fun M5 c5 l5 e5 => ?_)
    rw [show M5.1 18 16 = M.1 191 3 from by rw [eq1 e5 (b := 18) (k := 16) rfl]; exact h16, show M5.1 30 16 = (dayI L (i + 1) (M.1 191, M.2 196)).1 3 from c5.1.2.2.2.1]
    refine ⟨fun e => hih _ _ ⟨i + 1, by omega, i32_s (i + 1), c5, l5, by rw [eq1 e5 (b := 18) (k := 16) rfl]; exact h16, fun j j1 j2 => ?_⟩, fun e => Or.inl ⟨i + 1, by omega, by omega, rfl, e, fun j j1 j2 => hj j j1 (by omega)⟩⟩
    by_cases e2 : j = i + 1
    · rw [e2]; exact e
    · exact hj j j1 (by omega)
end SPN
