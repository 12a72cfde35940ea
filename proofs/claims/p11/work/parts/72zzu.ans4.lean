/-! ANSWERS: heirs, the usual deed -/
section AN4
variable {B : Int} {M : MM} {p q r : Int32}
def knwF (w : RW) (k : Nat) : Nat → Bool := fun c => alv w c && tb (cl w c 1) k
theorem c_knowers {w : RW} {s : RS} {k N : Nat} {Q : Int32 → Prop} (hc : CW M 18 w s) (hw : WF w) (hk : k < 32) (hQ : Q (bs (knwF w k) (nC w))) : W_World_knowersOf 18 (i32 k) N M Q := by
  obtain ⟨e0, hn10, ei⟩ := nC_i hw
  unfold W_World_knowersOf
  refine I_World_knowersOf_4 18 (i32 k) M Q (fun v1 v2 => ∃ j, j ≤ nC w ∧ v2 = i32 j ∧ v1 = bs (knwF w k) j) (fun N ih v1 v2 hih hv => ?_) N _ _ ⟨0, by omega, rfl, rfl⟩
  obtain ⟨j, hj, rfl, rfl⟩ := hv
  unfold B_World_knowersOf_4
  rw [hc.1.1, ei, i32_lt (by omega) (by omega), ni_i (by omega)]
  refine ⟨fun hlt => ?_, fun hlt => ?_⟩
  · have nx : ih (bs (knwF w k) (j + 1)) (i32 j + 1) := hih _ _ ⟨j + 1, by omega, i32_s j, rfl⟩
    rw [bs_s] at nx
    unfold V_E_bit
    rw [c_alive hc hw hlt, show M.1 (18 + 1) j = cl w j 1 from (hc.2.2.2.1 j hlt).1, bt_1 hk]
    unfold knwF at nx
    cases hal : alv w j with
    | true =>
      rw [hal, Bool.true_and] at nx
      refine ⟨fun h => absurd h (by decide), fun _ => ⟨fun h => ?_, fun h => ?_⟩⟩
      · rw [if_pos h] at nx; exact nx
      · rw [if_neg h] at nx; exact nx
    | false =>
      rw [hal, Bool.false_and] at nx
      exact ⟨fun _ => nx, fun h => absurd rfl h⟩
  · obtain rfl : j = nC w := by omega
    exact hQ
theorem r_knowers {X : MM} {w : RW} {k N : Nat} {Q : Int32 → Prop} (hx : X.1 191 = w) (hw : WF w) (hk : k < 32) (hQ : Q (bs (knwF w k) (nC w))) : W_m_knowers (i32 k) N X Q := by
  obtain ⟨e0, hn10, ei⟩ := nC_i hw
  unfold W_m_knowers
  refine I_m_knowers_4 (i32 k) X Q (fun v1 v2 => ∃ j, j ≤ nC w ∧ v2 = i32 j ∧ v1 = bs (knwF w k) j) (fun N ih v1 v2 hih hv => ?_) N _ _ ⟨0, by omega, rfl, rfl⟩
  obtain ⟨j, hj, rfl, rfl⟩ := hv
  unfold B_m_knowers_4
  have ec : V_m_citizens X = i32 (nC w) := by unfold V_m_citizens; rw [hx, n0, ei]
  rw [ec, i32_lt (by omega) (by omega)]
  refine ⟨fun hlt => ?_, fun hlt => ?_⟩
  · have nx : ih (bs (knwF w k) (j + 1)) (i32 j + 1) := hih _ _ ⟨j + 1, by omega, i32_s j, rfl⟩
    rw [bs_s] at nx
    have hkn : V_m_knows (i32 j) (i32 k) X = b32 (tb (cl w j 1) k) := by
      unfold V_m_knows
      rw [show V_m_of (i32 j) 1 X = cl w j 1 from of_row (i := 1) hx (by omega) (by omega), v_has hk]
    rw [v_alive (by omega), hx, hkn, Int32.or_zero]
    unfold knwF at nx
    cases hal : alv w j with
    | true =>
      rw [hal, Bool.true_and] at nx
      refine ⟨fun h => absurd h (by decide), fun _ => ⟨fun h => ?_, fun h => ?_⟩⟩
      · rw [b32_eq0] at h
        rw [if_neg (by rw [h]; decide)] at nx; exact nx
      · rw [b32_ne0] at h
        rw [if_pos h] at nx; exact nx
    | false =>
      rw [hal, Bool.false_and] at nx
      exact ⟨fun _ => nx, fun h => absurd rfl h⟩
  · obtain rfl : j = nC w := by omega
    exact hQ
def herF (w : RW) (p : Int32) (M : MM) : Nat → Int32
  | 0 => 0
  | n + 1 => if tb (inF w (nC w)) n = true then herF w p M n + mx 0 (p - V_Int_bitCount (bs (knwF w n) (nC w)) M) else herF w p M n
theorem c_her {w : RW} {s : RS} {L N : Nat} {Q : Int32 → Prop} (hc : CW M 18 w s) (hw : WF w) (hL : M.1 8 1 = i32 L) (h12 : L ≤ 12) (hQ : Q (if V_Int_bitCount (bs (alv w) (nC w)) M < p then -1 else herF w p M L)) : W_Inquiry_tellingsFor p N M Q := by
  unfold W_Inquiry_tellingsFor
  rw [hc.2.2.1]
  refine ⟨fun a => by rw [if_pos a] at hQ; exact hQ, fun a => ?_⟩
  rw [if_neg a] at hQ
  refine c_force hc hw ?_
  refine I_Inquiry_tellingsFor_29 p (inF w (nC w)) M Q (fun v1 v2 => ∃ j, j ≤ L ∧ v2 = i32 j ∧ v1 = herF w p M j) (fun N ih v1 v2 hih hv => ?_) N _ _ ⟨0, by omega, rfl, rfl⟩
  obtain ⟨j, hj, rfl, rfl⟩ := hv
  unfold B_Inquiry_tellingsFor_29
  rw [hL, i32_lt (by omega) (by omega)]
  refine ⟨fun hlt => ?_, fun hlt => ?_⟩
  · have nx : ih (herF w p M (j + 1)) (i32 j + 1) := hih _ _ ⟨j + 1, by omega, i32_s j, rfl⟩
    unfold herF at nx
    unfold V_E_bit
    rw [bt_1 (by omega)]
    refine ⟨fun b => ?_, fun b => ?_⟩
    · rw [if_pos b] at nx
      exact c_knowers hc hw (by omega) nx
    · rw [if_neg b] at nx; exact nx
  · obtain rfl : j = L := by omega
    exact hQ
theorem r_her {X : MM} {w : RW} {L N : Nat} {Q : Int32 → MM → Prop} (hx : X.1 191 = w) (hw : WF w) (hL : V_m_clauses X = i32 L) (h12 : L ≤ 12) (hQ : Q (herF w p X L) X) : W_m_heirs_47 p X Q N 0 0 := by
  refine I_m_heirs_47 p X Q (fun v1 v2 => ∃ j, j ≤ L ∧ v2 = i32 j ∧ v1 = herF w p X j) (fun N ih v1 v2 hih hv => ?_) N _ _ ⟨0, by omega, rfl, rfl⟩
  obtain ⟨j, hj, rfl, rfl⟩ := hv
  unfold B_m_heirs_47
  rw [hL, i32_lt (by omega) (by omega)]
  refine ⟨fun hlt => ?_, fun hlt => ?_⟩
  · have nx : ih (herF w p X (j + 1)) (i32 j + 1) := hih _ _ ⟨j + 1, by omega, i32_s j, rfl⟩
    unfold herF at nx
    refine r_force hw hx ?_
    rw [v_has (by omega)]
    refine ⟨fun b => ?_, fun b => ?_⟩
    · rw [b32_eq0] at b
      rw [if_neg (by rw [b]; decide)] at nx
      rw [Int32.add_zero]
      exact nx
    · rw [b32_ne0] at b
      rw [if_pos b] at nx
      exact r_knowers hx hw (by omega) nx
  · obtain rfl : j = L := by omega
    exact hQ
theorem herF_M {w : RW} {M M' : MM} : ∀ n, herF w p M n = herF w p M' n
  | 0 => rfl
  | n + 1 => by
    unfold herF
    rw [herF_M (M := M) (M' := M') n]
    rfl
theorem a_heirs (h : CP B M) {N : Nat} : W_E_heirs p N M (fun y => ∀ z N', W_m_heirs p N' (wj M 215 0 z) (fun b M2 => CP B M2 ∧ M2.1 190 0 = 0 ∧ y = b)) (fun ce => ∀ N', W_m_heirs p N' M (fun _ M2 => CP B M2 ∧ M2.1 190 0 = 1)) := by
  obtain ⟨hc, hg⟩ := h.2.2.2.1
  obtain ⟨nc, hnc, hnc8, hncR⟩ := CP_n h
  have hin : ∀ X : MM, V_m_in p 1 10 X = b32 (decide ((1 : Int32).toInt ≤ p.toInt ∧ p.toInt ≤ (10 : Int32).toInt)) := fun X => v_in
  unfold W_E_heirs
  refine s_num (fun hp => c_her hc hg.1 hnc8 hnc (fun z N' => ?_)) (fun hp N' => ?_)
  · have k0 := CP_0 (CP_z h z) 0
    have hcl : V_m_clauses (wi (wj M 215 0 z) 190 0 0) = i32 nc := hncR
    unfold W_m_heirs W_m_throwsIf
    rw [hin, decide_eq_true hp]
    refine ⟨fun hb => absurd hb (by decide), fun _ => ⟨fun _ => ⟨fun _ => ?_, fun hb => absurd rfl hb⟩, fun hb => absurd rfl hb⟩⟩
    refine r_alive hg.1 (w := M.1 191) rfl ?_
    refine ⟨fun a => ⟨k0, wi_1e, if_pos a⟩, fun a => r_her (w := M.1 191) rfl hg.1 hcl hnc ⟨k0, wi_1e, (if_neg a).trans (herF_M nc)⟩⟩
  · unfold W_m_heirs W_m_throwsIf
    rw [hin, decide_eq_false hp]
    exact ⟨fun _ => ⟨fun hb => absurd hb (by decide), fun _ => ⟨fun hb => absurd hb (by decide), fun _ => CP_t h 1 (fun e => e)⟩⟩, fun hb => absurd rfl hb⟩
/-! how often a matter stands in habits -/
def occ (w : RW) (x c : Nat) : Nat → Nat
  | 0 => 0
  | n + 1 => occ w x c n + (if cl w c (7 + n) = i32 x then 1 else 0)
theorem occ_b {w : RW} {x c : Nat} : ∀ n, occ w x c n ≤ n
  | 0 => Nat.le_refl _
  | n + 1 => by
    have := occ_b (w := w) (x := x) (c := c) n
    unfold occ
    split <;> omega
def len (w : RW) (c : Nat) : Nat := ni (cl w c 5)
def tot (w : RW) (x : Nat) : Nat → Nat
  | 0 => 0
  | n + 1 => tot w x n + (if alv w n = true then occ w x n (len w n) else 0)
theorem len_e {w : RW} {c : Nat} (h : WFc w c) : cl w c 5 = i32 (len w c) ∧ 1 ≤ len w c ∧ len w c ≤ 6 := by
  obtain ⟨l, l1, l6, hl⟩ := len_i h
  unfold len
  rw [hl, ni_i (by omega)]
  exact ⟨rfl, l1, l6⟩
theorem tot_b {w : RW} {x : Nat} (hw : ∀ c, c < nC w → WFc w c) : ∀ n, n ≤ nC w → tot w x n ≤ 6 * n
  | 0, _ => Nat.le_refl _
  | n + 1, h => by
    have h1 := tot_b (x := x) hw n (by omega)
    have h2 := occ_b (w := w) (x := x) (c := n) (len w n)
    have h3 := (len_e (hw n (by omega))).2.2
    unfold tot
    split <;> omega
theorem c_tim {w : RW} {s : RS} {x N : Nat} {Q : Int32 → Prop} (hc : CW M 18 w s) (hw : WF w) (hQ : Q (i32 (tot w x (nC w)))) : W_Inquiry_timesInHabits (i32 x) N M Q := by
  obtain ⟨e0, hn10, ei⟩ := nC_i hw
  unfold W_Inquiry_timesInHabits
  refine I_Inquiry_timesInHabits_4 (i32 x) M Q (fun v1 v2 => ∃ j, j ≤ nC w ∧ v2 = i32 j ∧ v1 = i32 (tot w x j)) (fun N ih v1 v2 hih hv => ?_) N _ _ ⟨0, by omega, rfl, rfl⟩
  obtain ⟨j, hj, rfl, rfl⟩ := hv
  unfold B_Inquiry_timesInHabits_4
  rw [hc.1.1, ei, i32_lt (by omega) (by omega)]
  refine ⟨fun hlt => ?_, fun hlt => ?_⟩
  · have nx : ih (i32 (tot w x (j + 1))) (i32 j + 1) := hih _ _ ⟨j + 1, by omega, i32_s j, rfl⟩
    unfold tot at nx
    obtain ⟨hl, l1, l6⟩ := len_e (hw.2.2.2 j hlt)
    have hcc := hc.2.2.2.1 j hlt
    refine I_Inquiry_timesInHabits_18 (i32 x) (i32 j) M _ Q (fun v1 v2 => ∃ k, k ≤ len w j ∧ v2 = i32 k ∧ v1 = i32 (tot w x j + occ w x j k) ∧ (k = 0 ∨ alv w j = true)) (fun N2 ih2 v1 v2 hih2 hv2 => ?_) N _ _ ⟨0, by omega, rfl, rfl, Or.inl rfl⟩
    obtain ⟨k, hk, rfl, rfl, hk0⟩ := hv2
    unfold B_Inquiry_timesInHabits_18
    rw [ni_i (by omega), show M.1 24 j = i32 (len w j) from hcc.2.2.2.2.1.trans hl, i32_lt (by omega) (by omega), c_alive hc hw hlt]
    refine ⟨fun hlt2 => ⟨fun a => ?_, fun a => ?_⟩, fun hlt2 => ?_⟩
    · rw [b32_eq0] at a
      have hk0 : k = 0 := by
        rcases hk0 with h | h
        · exact h
        · rw [a] at h; cases h
      subst hk0
      rw [if_neg (by rw [a]; decide)] at nx
      exact nx
    · rw [b32_ne0] at a
      have nx2 : ih2 (i32 (tot w x j + occ w x j (k + 1))) (i32 k + 1) := hih2 _ _ ⟨k + 1, by omega, i32_s k, rfl, Or.inr a⟩
      unfold occ at nx2
      have hm : V_World_matterAt 18 (i32 j) (i32 k) M = cl w j (7 + k) := by
        unfold V_World_matterAt
        rw [show ni (i32 j * 6 + i32 k) = 6 * j + k by rw [show i32 j * 6 = i32 (j * 6) from i32_m j 6, i32_a, ni_i (by omega)]; omega]
        exact hcc.2.2.2.2.2.2.1 k (by omega) (by rw [hl, i32_i (by omega)]; omega)
      rw [hm]
      refine ⟨fun b => ?_, fun b => ?_⟩
      · rw [if_pos b, ← Nat.add_assoc, ← i32_s] at nx2; exact nx2
      · rw [if_neg b, Nat.add_zero] at nx2; exact nx2
    · obtain rfl : k = len w j := by omega
      have a : alv w j = true := by
        rcases hk0 with h | h
        · omega
        · exact h
      rw [if_pos a] at nx
      exact nx
  · obtain rfl : j = nC w := by omega
    exact hQ
def usF (w : RW) (pp : Nat) : Nat → Int32 × Nat
  | 0 => (-1, 0)
  | d + 1 => if (usF w pp d).2 < tot w (8 * d + pp) (nC w) then (i32 d, tot w (8 * d + pp) (nC w)) else usF w pp d
theorem usF_b {w : RW} {pp : Nat} (hw : ∀ c, c < nC w → WFc w c) : ∀ d, (usF w pp d).2 ≤ 6 * nC w ∧ ((usF w pp d).1 = -1 ∧ (usF w pp d).2 = 0 ∨ ∃ e, e < d ∧ (usF w pp d).1 = i32 e ∧ (usF w pp d).2 = tot w (8 * e + pp) (nC w) ∧ 0 < (usF w pp d).2)
  | 0 => ⟨by show 0 ≤ _; omega, Or.inl ⟨rfl, rfl⟩⟩
  | d + 1 => by
    obtain ⟨h1, h2⟩ := usF_b (pp := pp) hw d
    have h3 := tot_b (x := 8 * d + pp) hw (nC w) (Nat.le_refl _)
    unfold usF
    by_cases c : (usF w pp d).2 < tot w (8 * d + pp) (nC w)
    · rw [if_pos c]
      exact ⟨h3, Or.inr ⟨d, by omega, rfl, rfl, by show 0 < tot w (8 * d + pp) (nC w); omega⟩⟩
    · rw [if_neg c]
      refine ⟨h1, ?_⟩
      rcases h2 with h | ⟨e, e1, e2⟩
      · exact Or.inl h
      · exact Or.inr ⟨e, by omega, e2⟩
theorem c_usu {w : RW} {s : RS} {pp N : Nat} {Q : Int32 → Prop} (hc : CW M 18 w s) (hw : WF w) (hp : pp < 8) (hQ : Q (usF w pp 8).1) : W_Inquiry_usualDeed (i32 pp) N M Q := by
  have hn10 := (nC_i hw).2.1
  unfold W_Inquiry_usualDeed
  refine I_Inquiry_usualDeed_7 (i32 pp) M Q (fun v2 v3 v4 => ∃ d, d ≤ 8 ∧ v4 = i32 d ∧ v2 = (usF w pp d).1 ∧ v3 = i32 (usF w pp d).2) (fun N ih v2 v3 v4 hih hv => ?_) N _ _ _ ⟨0, by omega, rfl, rfl, rfl⟩
  obtain ⟨d, hd, rfl, rfl, rfl⟩ := hv
  unfold B_Inquiry_usualDeed_7
  refine ⟨fun hl => ?_, fun hl => ?_⟩
  · have hd8 : d < 8 := (i32_lt (k := 8) (by omega) (by omega)).mp hl
    have nx : ih (usF w pp (d + 1)).1 (i32 (usF w pp (d + 1)).2) (i32 d + 1) := hih _ _ _ ⟨d + 1, by omega, i32_s d, rfl, rfl⟩
    rw [show i32 d * 8 + i32 pp = i32 (8 * d + pp) by rw [show i32 d * 8 = i32 (d * 8) from i32_m d 8, i32_a, Nat.mul_comm]]
    refine c_tim hc hw ?_
    have b1 := (usF_b (pp := pp) hw.2.2.2 d).1
    have b2 := tot_b (x := 8 * d + pp) hw.2.2.2 (nC w) (Nat.le_refl _)
    rw [i32_lt (by omega) (by omega)]
    unfold usF at nx
    refine ⟨fun a => ?_, fun a => ?_⟩
    · rw [if_pos a] at nx; exact nx
    · rw [if_neg a] at nx; exact nx
  · have : ¬ d < 8 := fun e => hl ((i32_lt (j := d) (k := 8) (by omega) (by omega)).mpr e)
    obtain rfl : d = 8 := by omega
    exact hQ
end AN4
