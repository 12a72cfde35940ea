/-! ANSWERS: what the log leads to, what all fear, crowds, meetings -/
section AN3
variable {B : Int} {M : MM} {p q r : Int32}
theorem c_entry {w : RW} {n k i : Nat} (h : CWl M 18 w) (h6 : w 6 = i32 n) (hn : n ≤ 60) (hk : k < n) (hi : i < 4) : V_Log_entry 28 (i32 k) (i32 i) M = w (148 + 4 * k + i) := by
  obtain ⟨g1, ⟨g2, g3⟩, g4⟩ := h
  have e28 : M.1 28 1 = i32 n := g1.trans h6
  obtain ⟨d, ed, hd, hd2⟩ := lit_n (x := M.1 28 2) g2
  have hd3 : d < 60 := by
    have g3' : (M.1 28 2).toInt < 60 := g3
    rw [hd] at g3'
    omega
  unfold V_Log_entry
  rw [e28, if_neg (by rw [lt_lit, i32_i (by omega)]; show ¬ ((k : Int) < 0); omega), if_pos ((i32_lt (by omega) (by omega)).mpr hk)]
  rw [ed, show (i32 d + 60 - 1 - i32 k : Int32) = i32 (d + 59 - k) by
    rw [show (i32 d + 60 : Int32) = i32 (d + 60) from i32_a d 60, show (i32 (d + 60) - 1 : Int32) = i32 (d + 59) from by
      have := i32_sb (d + 59) 1
      exact this]
    exact i32_df (by omega)]
  rw [show rm (i32 (d + 59 - k)) 60 = i32 ((d + 59 - k) % 60) from rm_n (y := 60) (by omega) (by omega), show i32 ((d + 59 - k) % 60) * 4 = i32 ((d + 59 - k) % 60 * 4) from i32_m _ 4, i32_a, ni_i (by omega)]
  have h6i : (w 6).toInt = (n : Int) := by rw [h6, i32_i (by omega)]
  have := g4 k i (by omega) (by omega) (by omega)
  rw [show M.1 (18 + 10) 2 = M.1 28 2 from rfl, ed, ni_i (by omega)] at this
  exact this
theorem r_entry {X : MM} {w : RW} {k i : Nat} (hx : X.1 191 = w) (hk : k < 60) (hi : i < 4) : V_m_ofLog (i32 k) (i32 i) X = w (148 + 4 * k + i) := by
  unfold V_m_ofLog
  rw [show (4 : Int32) * i32 k = i32 (4 * k) from i32_m 4 k, show (148 : Int32) + i32 (4 * k) = i32 (148 + 4 * k) from i32_a 148 _, i32_a, ni_i (by omega), hx]
theorem log_n {w : RW} (hw : WF w) : ∃ n, n ≤ 60 ∧ w 6 = i32 n := by
  obtain ⟨n, e, h, -⟩ := lit_n (x := w 6) hw.2.1.1
  have := hw.2.1.2
  exact ⟨n, by omega, e⟩
def ledF (w : RW) (p : Int32) : Nat → Int32
  | 0 => 0
  | n + 1 => if p = -1 ∨ w (148 + 4 * n + 1) = p then ledF w p n ||| sl 1 (w (148 + 4 * n + 3)) else ledF w p n
theorem c_led {w : RW} {n N : Nat} {Q : Int32 → Prop} (h : CWl M 18 w) (h6 : w 6 = i32 n) (hn : n ≤ 60) (hQ : Q (ledF w p n)) : W_Log_clausesOf 28 p N M Q := by
  unfold W_Log_clausesOf
  have e28 : M.1 28 1 = i32 n := h.1.trans h6
  refine I_Log_clausesOf_4 28 p M Q (fun v1 v2 => ∃ j, j ≤ n ∧ v2 = i32 j ∧ v1 = ledF w p j) (fun N ih v1 v2 hih hv => ?_) N _ _ ⟨0, by omega, rfl, rfl⟩
  obtain ⟨j, hj, rfl, rfl⟩ := hv
  unfold B_Log_clausesOf_4
  rw [e28, i32_lt (by omega) (by omega)]
  refine ⟨fun hlt => ?_, fun hlt => ?_⟩
  · have nx : ih (ledF w p (j + 1)) (i32 j + 1) := hih _ _ ⟨j + 1, by omega, i32_s j, rfl⟩
    rw [show V_Log_entry 28 (i32 j) 3 M = w (148 + 4 * j + 3) from c_entry (i := 3) h h6 hn hlt (by omega), show V_Log_entry 28 (i32 j) 1 M = w (148 + 4 * j + 1) from c_entry (i := 1) h h6 hn hlt (by omega)]
    unfold ledF at nx
    refine ⟨fun a => ?_, fun a => ⟨fun b => ?_, fun b => ?_⟩⟩
    · rw [if_pos (Or.inl a)] at nx; exact nx
    · rw [if_pos (Or.inr b)] at nx; exact nx
    · rw [if_neg (fun h => h.elim a b)] at nx; exact nx
  · obtain rfl : j = n := by omega
    exact hQ
theorem r_led {X : MM} {w : RW} {n N : Nat} {Q : Int32 → MM → Prop} (hx : X.1 191 = w) (h6 : w 6 = i32 n) (hn : n ≤ 60) (hQ : Q (ledF w p n) X) : W_m_led_37 p X Q N 0 0 := by
  refine I_m_led_37 p X Q (fun v1 v2 => ∃ j, j ≤ n ∧ v2 = i32 j ∧ v1 = ledF w p j) (fun N ih v1 v2 hih hv => ?_) N _ _ ⟨0, by omega, rfl, rfl⟩
  obtain ⟨j, hj, rfl, rfl⟩ := hv
  unfold B_m_led_37
  rw [show X.1 191 (ni 6) = i32 n from by rw [hx]; exact h6, i32_lt (by omega) (by omega)]
  refine ⟨fun hlt => ?_, fun hlt => ?_⟩
  · have nx : ih (ledF w p (j + 1)) (i32 j + 1) := hih _ _ ⟨j + 1, by omega, i32_s j, rfl⟩
    rw [show V_m_ofLog (i32 j) 3 X = w (148 + 4 * j + 3) from r_entry (i := 3) hx (by omega) (by omega), show V_m_ofLog (i32 j) 1 X = w (148 + 4 * j + 1) from r_entry (i := 1) hx (by omega) (by omega)]
    unfold ledF at nx
    refine ⟨fun a => ?_, fun a => ⟨fun b => ?_, fun b => ?_⟩⟩
    · rw [if_pos (Or.inl a)] at nx; exact nx
    · rw [if_pos (Or.inr b)] at nx; exact nx
    · rw [if_neg (fun h => h.elim a b), ← Int32.or_zero (a := ledF w p j)] at nx; exact nx
  · obtain rfl : j = n := by omega
    exact hQ
theorem a_led (h : CP B M) {N : Nat} : W_E_led p N M (fun y => ∀ z N', W_m_led p N' (wj M 215 0 z) (fun b M2 => CP B M2 ∧ M2.1 190 0 = 0 ∧ y = b)) (fun ce => ∀ N', W_m_led p N' M (fun _ M2 => CP B M2 ∧ M2.1 190 0 = 1)) := by
  obtain ⟨hc, hg⟩ := h.2.2.2.1
  obtain ⟨n, hn, h6⟩ := log_n hg.1
  have hl := hc.2.2.2.2
  unfold W_E_led
  refine ⟨fun hp => c_led hl h6 hn (fun z N' => ?_), fun hp => s_cit hc (fun hk => c_led hl h6 hn (fun z N' => ?_)) (fun hk N' => ?_)⟩
  · unfold W_m_led W_m_throwsIf
    exact ⟨fun _ => ⟨fun _ => ⟨fun _ => r_led (X := wi (wj M 215 0 z) 190 0 0) rfl h6 hn ⟨CP_0 (CP_z h z) 0, wi_1e, rfl⟩, fun hb => absurd rfl hb⟩, fun hb => absurd rfl hb⟩, fun hb => absurd hp hb⟩
  · have e1 : V_m_noCitizen p (wi (wj M 215 0 z) 190 0 0) = 0 := (noc_e (M := M) (M1 := wj M 215 0 z) rfl).trans (noc_1 hg.1 hk)
    unfold W_m_led W_m_throwsIf
    rw [e1]
    exact ⟨fun hb => absurd hb hp, fun _ => ⟨fun _ => ⟨fun _ => ⟨fun _ => r_led (X := wi (wj M 215 0 z) 190 0 0) rfl h6 hn ⟨CP_0 (CP_z h z) 0, wi_1e, rfl⟩, fun hb => absurd rfl hb⟩, fun hb => absurd rfl hb⟩, fun hb => absurd rfl hb⟩⟩
  · unfold W_m_led W_m_throwsIf
    rw [noc_0 hg.1 hk]
    exact ⟨fun hb => absurd hb hp, fun _ => ⟨fun hb => absurd hb (by decide), fun _ => ⟨fun hb => absurd hb (by decide), fun _ => ⟨fun hb => absurd hb (by decide), fun _ => CP_t h 1 (fun e => e)⟩⟩⟩⟩
/-- an index, a number -/
theorem s_idx {n N : Nat} {Q : Prop} {E : Nat → Prop} {x : Int32} (hx : x.toInt = (n : Int)) (hQ : 0 ≤ p.toInt ∧ p.toInt < (n : Int) → Q) (hE : ¬ (0 ≤ p.toInt ∧ p.toInt < (n : Int)) → E 2) : W_E_needIndex p x N M Q E := by
  unfold W_E_needIndex
  refine ⟨fun a => hE ?_, fun a => ⟨fun b => hQ ?_, fun b => hE ?_⟩⟩
  · rw [lt_lit, show (0 : Int32).toInt = 0 from rfl] at a
    omega
  · rw [lt_lit, show (0 : Int32).toInt = 0 from rfl] at a
    rw [lt_lit, hx] at b
    omega
  · rw [lt_lit, hx] at b
    omega
theorem s_num {N : Nat} {Q : Prop} {E : Nat → Prop} {lo hi : Int32} (hQ : lo.toInt ≤ p.toInt ∧ p.toInt ≤ hi.toInt → Q) (hE : ¬ (lo.toInt ≤ p.toInt ∧ p.toInt ≤ hi.toInt) → E 0) : W_E_needNumber p lo hi N M Q E := by
  unfold W_E_needNumber
  refine ⟨fun a => hE ?_, fun a => ⟨fun b => hE ?_, fun b => hQ ?_⟩⟩
  · rw [lt_lit] at a
    omega
  · rw [lt_lit] at b
    omega
  · rw [lt_lit] at a b
    omega
theorem no8 {X : MM} : V_m_noEight p X = b32 (!decide (0 ≤ p.toInt ∧ p.toInt < 8)) := by
  unfold V_m_noEight
  rw [v_in, show (0 : Int32).toInt = 0 from rfl, show (7 : Int32).toInt = 7 from rfl]
  by_cases h : 0 ≤ p.toInt ∧ p.toInt < 8
  · rw [decide_eq_true (show 0 ≤ p.toInt ∧ p.toInt ≤ 7 by omega), decide_eq_true h]; rfl
  · rw [decide_eq_false (show ¬ (0 ≤ p.toInt ∧ p.toInt ≤ 7) by omega), decide_eq_false h]; rfl
/-- who is at a place -/
def crwF (w : RW) (p : Int32) (k : Nat) : Nat → Bool := fun c => alv w c && decide (rm (md w c k) 8 = p)
theorem c_crw {w : RW} {s : RS} {k N : Nat} {Q : Int32 → Prop} (hc : CW M 18 w s) (hw : WF w) (hk : k < 1000) (hQ : Q (bs (crwF w p k) (nC w))) : W_Inquiry_crowdAt p (i32 k) N M Q := by
  obtain ⟨e0, hn10, ei⟩ := nC_i hw
  unfold W_Inquiry_crowdAt
  refine I_Inquiry_crowdAt_5 p (i32 k) M Q (fun v1 v2 => ∃ j, j ≤ nC w ∧ v2 = i32 j ∧ v1 = bs (crwF w p k) j) (fun N ih v1 v2 hih hv => ?_) N _ _ ⟨0, by omega, rfl, rfl⟩
  obtain ⟨j, hj, rfl, rfl⟩ := hv
  unfold B_Inquiry_crowdAt_5
  rw [hc.1.1, ei, i32_lt (by omega) (by omega)]
  refine ⟨fun hlt => ?_, fun hlt => ?_⟩
  · have nx : ih (bs (crwF w p k) (j + 1)) (i32 j + 1) := hih _ _ ⟨j + 1, by omega, i32_s j, rfl⟩
    rw [bs_s] at nx
    have hpl : V_World_placeAhead 18 (i32 j) (i32 k) M = rm (md w j k) 8 := by
      unfold V_World_placeAhead
      rw [c_ahead hc hw hlt (by omega)]
    rw [c_alive hc hw hlt, hpl]
    unfold crwF at nx
    cases hal : alv w j with
    | true =>
      rw [hal, Bool.true_and] at nx
      refine ⟨fun h => absurd h (by decide), fun _ => ⟨fun h => ?_, fun h => ?_⟩⟩
      · rw [if_pos (decide_eq_true h)] at nx; exact nx
      · rw [if_neg (by rw [decide_eq_false h]; decide)] at nx; exact nx
    | false =>
      rw [hal, Bool.false_and] at nx
      exact ⟨fun _ => nx, fun h => absurd rfl h⟩
  · obtain rfl : j = nC w := by omega
    exact hQ
theorem r_crw {X : MM} {w : RW} {k N : Nat} {Q : Int32 → MM → Prop} (hx : X.1 191 = w) (hw : WF w) (hk : k < 1000) (hQ : Q (bs (crwF w p k) (nC w)) X) : W_m_crowd_47 p (i32 k) X Q N 0 0 := by
  obtain ⟨e0, hn10, ei⟩ := nC_i hw
  refine I_m_crowd_47 p (i32 k) X Q (fun v1 v2 => ∃ j, j ≤ nC w ∧ v2 = i32 j ∧ v1 = bs (crwF w p k) j) (fun N ih v1 v2 hih hv => ?_) N _ _ ⟨0, by omega, rfl, rfl⟩
  obtain ⟨j, hj, rfl, rfl⟩ := hv
  unfold B_m_crowd_47
  have ec : V_m_citizens X = i32 (nC w) := by unfold V_m_citizens; rw [hx, n0, ei]
  rw [ec, i32_lt (by omega) (by omega)]
  refine ⟨fun hlt => ?_, fun hlt => ?_⟩
  · have nx : ih (bs (crwF w p k) (j + 1)) (i32 j + 1) := hih _ _ ⟨j + 1, by omega, i32_s j, rfl⟩
    rw [bs_s] at nx
    rw [v_alive (by omega), hx, show V_m_doesIn (i32 j) (i32 k) X = md w j k from by rw [v_does (by omega) (by rw [hx]; exact hw.2.2.2 j hlt) (by omega), hx], Int32.or_zero]
    unfold crwF at nx
    cases hal : alv w j with
    | true =>
      rw [hal, Bool.true_and] at nx
      refine ⟨fun h => absurd h (by decide), fun _ => ⟨fun h => ?_, fun h => ?_⟩⟩
      · rw [if_pos (decide_eq_true h)] at nx; exact nx
      · rw [if_neg (by rw [decide_eq_false h]; decide)] at nx; exact nx
    | false =>
      rw [hal, Bool.false_and] at nx
      exact ⟨fun _ => nx, fun h => absurd rfl h⟩
  · obtain rfl : j = nC w := by omega
    exact hQ
theorem a_crowd (h : CP B M) {N : Nat} : W_E_crowd p q N M (fun y => ∀ z N', W_m_crowd p q N' (wj M 215 0 z) (fun b M2 => CP B M2 ∧ M2.1 190 0 = 0 ∧ y = b)) (fun ce => ∀ N', W_m_crowd p q N' M (fun _ M2 => CP B M2 ∧ M2.1 190 0 = if ce = 2 then 1 else 2)) := by
  obtain ⟨hc, hg⟩ := h.2.2.2.1
  have hin : ∀ X : MM, V_m_in q 0 60 X = b32 (decide (0 ≤ q.toInt ∧ q.toInt ≤ 60)) := fun X => by rw [v_in]; rfl
  unfold W_E_crowd
  refine s_idx (n := 8) rfl (fun hp => s_num (fun hq => ?_) (fun hq N' => ?_)) (fun hp N' => ?_)
  · replace hp : 0 ≤ p.toInt ∧ p.toInt < 8 := hp
    have e8 : ∀ Y : MM, V_m_noEight p Y = 0 := fun Y => by rw [no8, decide_eq_true hp]; rfl
    replace hq : 0 ≤ q.toInt ∧ q.toInt ≤ 60 := hq
    have hin1 : ∀ Y : MM, V_m_in q 0 60 Y = 1 := fun Y => by rw [hin, decide_eq_true hq]; rfl
    obtain ⟨k, hk, rfl⟩ := lit_r (q := q) (n := 61) (by omega)
    refine c_crw hc hg.1 (by omega) (fun z N' => ?_)
    unfold W_m_crowd W_m_throwsIf
    simp only [e8, hin1, e10, e10n, true_implies, false_implies, not_true_eq_false, not_false_eq_true, and_true, true_and, if_true]
    exact r_crw (X := wi (wj M 215 0 z) 190 0 0) rfl hg.1 (by omega) ⟨CP_0 (CP_z h z) 0, wi_1e, rfl⟩
  · replace hp : 0 ≤ p.toInt ∧ p.toInt < 8 := hp
    have e8 : ∀ Y : MM, V_m_noEight p Y = 0 := fun Y => by rw [no8, decide_eq_true hp]; rfl
    replace hq : ¬ (0 ≤ q.toInt ∧ q.toInt ≤ 60) := hq
    have hin0 : ∀ Y : MM, V_m_in q 0 60 Y = 0 := fun Y => by rw [hin, decide_eq_false hq]; rfl
    unfold W_m_crowd W_m_throwsIf
    simp only [e8, hin0, e10, e10n, true_implies, false_implies, not_true_eq_false, not_false_eq_true, and_true, true_and, if_true]
    exact CP_t h 2 (fun e => e)
  · replace hp : ¬ (0 ≤ p.toInt ∧ p.toInt < 8) := hp
    have e8 : ∀ Y : MM, V_m_noEight p Y = 1 := fun Y => by rw [no8, decide_eq_false hp]; rfl
    unfold W_m_crowd W_m_throwsIf
    simp only [e8, e10, e10n, true_implies, false_implies, not_true_eq_false, not_false_eq_true, and_true, true_and, if_true]
    exact CP_t h 1 (fun e => e)
/-- how often two meet -/
def wtF (w : RW) (c d : Nat) : Nat → Nat
  | 0 => 0
  | n + 1 => wtF w c d n + (if rm (md w c n) 8 = rm (md w d n) 8 then 1 else 0)
theorem wtF_b {w : RW} {c d : Nat} : ∀ n, wtF w c d n ≤ n
  | 0 => Nat.le_refl _
  | n + 1 => by
    have := wtF_b (w := w) (c := c) (d := d) n
    unfold wtF
    split <;> omega
theorem c_wit {w : RW} {s : RS} {c d n N : Nat} {Q : Int32 → Prop} (hc : CW M 18 w s) (hw : WF w) (h1 : c < nC w) (h2 : d < nC w) (hn : n < 1000) (hQ : Q (i32 (wtF w c d n))) : W_Inquiry_meetings (i32 c) (i32 d) (i32 n) N M Q := by
  unfold W_Inquiry_meetings
  refine I_Inquiry_meetings_6 (i32 c) (i32 d) (i32 n) M Q (fun v1 v2 => ∃ j, j ≤ n ∧ v2 = i32 j ∧ v1 = i32 (wtF w c d j)) (fun N ih v1 v2 hih hv => ?_) N _ _ ⟨0, by omega, rfl, rfl⟩
  obtain ⟨j, hj, rfl, rfl⟩ := hv
  unfold B_Inquiry_meetings_6 V_World_placeAhead
  rw [i32_lt (by omega) (by omega), c_ahead hc hw h1 (by omega), c_ahead hc hw h2 (by omega)]
  refine ⟨fun hlt => ?_, fun hlt => ?_⟩
  · have nx : ih (i32 (wtF w c d (j + 1))) (i32 j + 1) := hih _ _ ⟨j + 1, by omega, i32_s j, rfl⟩
    unfold wtF at nx
    refine ⟨fun a => ?_, fun a => ?_⟩
    · rw [if_pos a, ← i32_s] at nx; exact nx
    · rw [if_neg a, Nat.add_zero] at nx; exact nx
  · obtain rfl : j = n := by omega
    exact hQ
theorem r_wit {X : MM} {w : RW} {c d n N : Nat} {Q : Int32 → MM → Prop} (hx : X.1 191 = w) (hw : WF w) (h1 : c < nC w) (h2 : d < nC w) (hn : n < 1000) (hQ : Q (i32 (wtF w c d n)) X) : W_m_witnesses_67 (i32 c) (i32 d) (i32 n) X Q N 0 0 := by
  have h10 := (nC_i hw).2.1
  refine I_m_witnesses_67 (i32 c) (i32 d) (i32 n) X Q (fun v1 v2 => ∃ j, j ≤ n ∧ v2 = i32 j ∧ v1 = i32 (wtF w c d j)) (fun N ih v1 v2 hih hv => ?_) N _ _ ⟨0, by omega, rfl, rfl⟩
  obtain ⟨j, hj, rfl, rfl⟩ := hv
  unfold B_m_witnesses_67
  rw [i32_lt (by omega) (by omega), v_does (by omega) (by rw [hx]; exact hw.2.2.2 c h1) (by omega), v_does (by omega) (by rw [hx]; exact hw.2.2.2 d h2) (by omega), hx]
  refine ⟨fun hlt => ?_, fun hlt => ?_⟩
  · have nx : ih (i32 (wtF w c d (j + 1))) (i32 j + 1) := hih _ _ ⟨j + 1, by omega, i32_s j, rfl⟩
    unfold wtF at nx
    refine ⟨fun a => ?_, fun a => ?_⟩
    · rw [if_pos a, ← i32_s] at nx; exact nx
    · rw [if_neg a] at nx
      rw [show i32 (wtF w c d j) + 0 = i32 (wtF w c d j + 0) from i32_a _ 0]
      exact nx
  · obtain rfl : j = n := by omega
    exact hQ
theorem noD {X : MM} : V_m_noDays p X = b32 (!decide ((1 : Int32).toInt ≤ p.toInt ∧ p.toInt ≤ (60 : Int32).toInt)) := by
  unfold V_m_noDays
  rw [v_in]
  cases decide ((1 : Int32).toInt ≤ p.toInt ∧ p.toInt ≤ (60 : Int32).toInt) <;> rfl
theorem a_witnesses (h : CP B M) {N : Nat} : W_E_witnesses p q r N M (fun y => ∀ z N', W_m_witnesses p q r N' (wj M 215 0 z) (fun b M2 => CP B M2 ∧ M2.1 190 0 = 0 ∧ y = b)) (fun ce => ∀ N', W_m_witnesses p q r N' M (fun _ M2 => CP B M2 ∧ M2.1 190 0 = if ce = 2 then 1 else 2)) := by
  obtain ⟨hc, hg⟩ := h.2.2.2.1
  unfold W_E_witnesses
  refine s_cit hc (fun hp => s_cit hc (fun hq => ?_) (fun hq N' => ?_)) (fun hp N' => ?_)
  · obtain ⟨c, rfl, hcn, hc10⟩ := okc_c hg.1 hp
    obtain ⟨d, rfl, hdn, hd10⟩ := okc_c hg.1 hq
    unfold W_E_needTwo
    refine ⟨fun he N' => ?_, fun he => s_num (fun hr => ?_) (fun hr N' => ?_)⟩
    · unfold W_m_witnesses W_m_throwsIf
      simp only [noc_1 hg.1 hp, noc_1 hg.1 hq, he, e10, e10n, true_implies, false_implies, not_true_eq_false, not_false_eq_true, and_true, true_and, if_true]
      exact CP_t h 2 (fun e => e)
    · have hef : (i32 c = i32 d) = False := eq_false he
      have hr' : 1 ≤ r.toInt ∧ r.toInt ≤ 60 := hr
      obtain ⟨n, hn, rfl⟩ := lit_r (q := r) (n := 61) (by omega)
      refine c_wit hc hg.1 hcn hdn (by omega) (fun z N' => ?_)
      have e1 : V_m_noCitizen (i32 c) (wi (wj M 215 0 z) 190 0 0) = 0 := (noc_e (M := M) (M1 := wj M 215 0 z) rfl).trans (noc_1 hg.1 hp)
      have e2 : V_m_noCitizen (i32 d) (wi (wj M 215 0 z) 190 0 0) = 0 := (noc_e (M := M) (M1 := wj M 215 0 z) rfl).trans (noc_1 hg.1 hq)
      have e3 : V_m_noDays (i32 n) (wi (wj M 215 0 z) 190 0 0) = 0 := by rw [noD, decide_eq_true hr]; rfl
      unfold W_m_witnesses W_m_throwsIf
      simp only [e1, e2, e3, hef, e10, e10n, true_implies, false_implies, not_true_eq_false, not_false_eq_true, and_true, true_and, if_true]
      exact r_wit (X := wi (wj M 215 0 z) 190 0 0) rfl hg.1 hcn hdn (by omega) ⟨CP_0 (CP_z h z) 0, wi_1e, rfl⟩
    · have hef : (i32 c = i32 d) = False := eq_false he
      have e3 : V_m_noDays r (wi M 190 0 0) = 1 := by rw [noD, decide_eq_false hr]; rfl
      unfold W_m_witnesses W_m_throwsIf
      simp only [noc_1 hg.1 hp, noc_1 hg.1 hq, e3, hef, e10, e10n, true_implies, false_implies, not_true_eq_false, not_false_eq_true, and_true, true_and, if_true]
      exact CP_t h 2 (fun e => e)
  · unfold W_m_witnesses W_m_throwsIf
    simp only [noc_1 hg.1 hp, noc_0 hg.1 hq, e10, e10n, true_implies, false_implies, not_true_eq_false, not_false_eq_true, and_true, true_and, if_true]
    exact CP_t h 1 (fun e => e)
  · unfold W_m_witnesses W_m_throwsIf
    simp only [noc_0 hg.1 hp, e10, e10n, true_implies, false_implies, not_true_eq_false, not_false_eq_true, and_true, true_and, if_true]
    exact CP_t h 1 (fun e => e)
/-- what all, or none, have seen -/
def allF (w : RW) (s : RS) : Nat → Int64
  | 0 => Int64.ofNat 18446744073709551615
  | n + 1 => if alv w n = true then allF w s n &&& s n else allF w s n
def anyF (w : RW) (s : RS) : Nat → Int64
  | 0 => Int64.ofNat 0
  | n + 1 => if alv w n = true then anyF w s n ||| s n else anyF w s n
theorem c_all {w : RW} {s : RS} {N : Nat} {Q : Int64 → Prop} (hc : CW M 18 w s) (hw : WF w) (hQ : Q (allF w s (nC w))) : W_World_seenByAll 18 N M Q := by
  obtain ⟨e0, hn10, ei⟩ := nC_i hw
  unfold W_World_seenByAll
  refine I_World_seenByAll_6 18 M Q (fun v1 v2 => ∃ j, j ≤ nC w ∧ v2 = i32 j ∧ v1 = allF w s j) (fun N ih v1 v2 hih hv => ?_) N _ _ ⟨0, by omega, rfl, rfl⟩
  obtain ⟨j, hj, rfl, rfl⟩ := hv
  unfold B_World_seenByAll_6
  rw [hc.1.1, ei, i32_lt (by omega) (by omega), ni_i (by omega)]
  refine ⟨fun hlt => ?_, fun hlt => ?_⟩
  · have nx : ih (allF w s (j + 1)) (i32 j + 1) := hih _ _ ⟨j + 1, by omega, i32_s j, rfl⟩
    unfold allF at nx
    rw [c_alive hc hw hlt, show M.2 (18 + 8) j = s j from (hc.2.2.2.1 j hlt).2.2.2.2.2.2.2]
    cases hal : alv w j with
    | true => rw [hal] at nx; exact ⟨fun h => absurd h (by decide), fun _ => nx⟩
    | false => rw [hal] at nx; exact ⟨fun _ => nx, fun h => absurd rfl h⟩
  · obtain rfl : j = nC w := by omega
    exact hQ
theorem c_any {w : RW} {s : RS} {N : Nat} {Q : Int64 → Prop} (hc : CW M 18 w s) (hw : WF w) (hQ : Q (anyF w s (nC w))) : W_World_seenByAny 18 N M Q := by
  obtain ⟨e0, hn10, ei⟩ := nC_i hw
  unfold W_World_seenByAny
  refine I_World_seenByAny_4 18 M Q (fun v1 v2 => ∃ j, j ≤ nC w ∧ v2 = i32 j ∧ v1 = anyF w s j) (fun N ih v1 v2 hih hv => ?_) N _ _ ⟨0, by omega, rfl, rfl⟩
  obtain ⟨j, hj, rfl, rfl⟩ := hv
  unfold B_World_seenByAny_4
  rw [hc.1.1, ei, i32_lt (by omega) (by omega), ni_i (by omega)]
  refine ⟨fun hlt => ?_, fun hlt => ?_⟩
  · have nx : ih (anyF w s (j + 1)) (i32 j + 1) := hih _ _ ⟨j + 1, by omega, i32_s j, rfl⟩
    unfold anyF at nx
    rw [c_alive hc hw hlt, show M.2 (18 + 8) j = s j from (hc.2.2.2.1 j hlt).2.2.2.2.2.2.2]
    cases hal : alv w j with
    | true => rw [hal] at nx; exact ⟨fun h => absurd h (by decide), fun _ => nx⟩
    | false => rw [hal] at nx; exact ⟨fun _ => nx, fun h => absurd rfl h⟩
  · obtain rfl : j = nC w := by omega
    exact hQ
theorem r_fea {X : MM} {w : RW} {s : RS} {N : Nat} {Q : Int64 → MM → Prop} (hx : X.1 191 = w) (hs : X.2 196 = s) (hw : WF w) (hQ : Q (if bs (alv w) (nC w) = 0 then Int64.ofNat 0 else if p = 0 then anyF w s (nC w) ^^^ Int64.ofNat 18446744073709551615 else allF w s (nC w)) X) : W_m_feared_15 p X Q N (Int64.ofNat 18446744073709551615) (Int64.ofNat 0) 0 := by
  obtain ⟨e0, hn10, ei⟩ := nC_i hw
  refine I_m_feared_15 p X Q (fun v2 v4 v6 => ∃ j, j ≤ nC w ∧ v6 = i32 j ∧ v2 = allF w s j ∧ v4 = anyF w s j) (fun N ih v2 v4 v6 hih hv => ?_) N _ _ _ ⟨0, by omega, rfl, rfl, rfl⟩
  obtain ⟨j, hj, rfl, rfl, rfl⟩ := hv
  unfold B_m_feared_15
  have ec : V_m_citizens X = i32 (nC w) := by unfold V_m_citizens; rw [hx, n0, ei]
  rw [ec, i32_lt (by omega) (by omega)]
  refine ⟨fun hlt => ?_, fun hlt => ?_⟩
  · have nx : ih (allF w s (j + 1)) (anyF w s (j + 1)) (i32 j + 1) := hih _ _ _ ⟨j + 1, by omega, i32_s j, rfl, rfl⟩
    unfold allF anyF at nx
    rw [v_alive (by omega), hx, hs, ni_i (by omega)]
    cases hal : alv w j with
    | true => rw [hal] at nx; exact ⟨fun h => absurd h (by decide), fun _ => nx⟩
    | false => rw [hal] at nx; exact ⟨fun _ => nx, fun h => absurd rfl h⟩
  · obtain rfl : j = nC w := by omega
    refine r_alive hw hx ?_
    refine ⟨fun a => ?_, fun a => ⟨fun b => ?_, fun b => ?_⟩⟩
    · rw [if_pos a] at hQ; exact hQ
    · rw [if_neg a, if_pos b] at hQ; exact hQ
    · rw [if_neg a, if_neg b] at hQ; exact hQ
theorem a_feared (h : CP B M) {N : Nat} : W_E_feared p N M (fun y => ∀ N', W_m_feared p N' M (fun b M2 => CP B M2 ∧ M2.1 190 0 = 0 ∧ y = b)) := by
  obtain ⟨hc, hg⟩ := h.2.2.2.1
  have b2 := hc.2.2.1
  have k0 := CP_0 h 0
  unfold W_E_feared
  rw [b2]
  refine ⟨fun a N' => ?_, fun a => ⟨fun b => c_any hc hg.1 (fun N' => ?_), fun b => c_all hc hg.1 (fun N' => ?_)⟩⟩
  · unfold W_m_feared
    exact r_fea (w := M.1 191) (s := M.2 196) rfl rfl hg.1 ⟨k0, wi_1e, by rw [if_pos a]⟩
  · unfold W_m_feared
    exact r_fea (w := M.1 191) (s := M.2 196) rfl rfl hg.1 ⟨k0, wi_1e, by rw [if_neg a, if_pos b]⟩
  · unfold W_m_feared
    exact r_fea (w := M.1 191) (s := M.2 196) rfl rfl hg.1 ⟨k0, wi_1e, by rw [if_neg a, if_neg b]⟩
end AN3
