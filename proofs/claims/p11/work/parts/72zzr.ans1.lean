/-! ANSWERS: what one has seen, the habit, the log, a citizen -/
section AN1
variable {B : Int} {M : MM} {p q : Int32}
theorem z_2 {M : MM} {z : Int64} {a : Nat} (ha : a ≠ 215) : (wj M 215 0 z).2 a = M.2 a := by
  funext j
  exact up_n (by omega)
theorem CP_z (h : CP B M) (z : Int64) : CP B (wj M 215 0 z) := CP_eq h eqo_z rfl
theorem a_seen (h : CP B M) {N : Nat} : W_E_seen p N M (fun y => ∀ z N', W_m_seen p N' (wj M 215 0 z) (fun b M2 => CP B M2 ∧ M2.1 190 0 = 0 ∧ y = b)) (fun ce => ∀ N', W_m_seen p N' M (fun _ M2 => CP B M2 ∧ M2.1 190 0 = 1)) := by
  obtain ⟨hc, hg⟩ := h.2.2.2.1
  unfold W_E_seen
  refine s_cit hc (fun hp z N' => ?_) (fun hp N' => ?_)
  · obtain ⟨c, rfl, hcn, hc10⟩ := okc_c hg.1 hp
    have e1 : V_m_noCitizen (i32 c) (wi (wj M 215 0 z) 190 0 0) = 0 := (noc_e (M := M) (M1 := wj M 215 0 z) rfl).trans (noc_1 hg.1 hp)
    unfold W_m_seen W_m_throwsIf
    rw [e1]
    refine ⟨fun _ => ⟨fun _ => ⟨CP_0 (CP_z h z) 0, wi_1e, ?_⟩, fun hb => absurd rfl hb⟩, fun hb => absurd rfl hb⟩
    rw [ni_i (by omega), show M.2 26 c = M.2 196 c from (hc.2.2.2.1 c hcn).2.2.2.2.2.2.2]
    show _ = (wj M 215 0 z).2 196 c
    rw [z_2 (by omega)]
  · unfold W_m_seen W_m_throwsIf
    rw [noc_0 hg.1 hp]
    exact ⟨fun hb => absurd hb (by decide), fun _ => ⟨fun hb => absurd hb (by decide), fun _ => CP_t h 1 (fun e => e)⟩⟩
/-- the length of a habit -/
theorem len_i {w : RW} {c : Nat} (h : WFc w c) : ∃ l, 1 ≤ l ∧ l ≤ 6 ∧ cl w c 5 = i32 l := by
  obtain ⟨-, -, -, ⟨h1, h2⟩, -⟩ := h
  exact ⟨(cl w c 5).toInt.toNat, by omega, by omega, i32_of (by omega)⟩
theorem lit_n {x : Int32} (h : 0 ≤ x.toInt) : ∃ k : Nat, x = i32 k ∧ x.toInt = (k : Int) ∧ k < 2147483648 := by
  have := Int32.toInt_lt x
  exact ⟨x.toInt.toNat, i32_of (by omega), by omega, by omega⟩
theorem a_habit (h : CP B M) {N : Nat} : W_E_habit p q N M (fun y => ∀ z N', W_m_habit p q N' (wj M 215 0 z) (fun b M2 => CP B M2 ∧ M2.1 190 0 = 0 ∧ y = b)) (fun ce => ∀ N', W_m_habit p q N' M (fun _ M2 => CP B M2 ∧ M2.1 190 0 = 1)) := by
  obtain ⟨hc, hg⟩ := h.2.2.2.1
  unfold W_E_habit
  refine s_cit hc (fun hp => ?_) (fun hp N' => ?_)
  · obtain ⟨c, rfl, hcn, hc10⟩ := okc_c hg.1 hp
    obtain ⟨l, l1, l6, hl⟩ := len_i (hg.1.2.2.2 c hcn)
    have hcc := hc.2.2.2.1 c hcn
    have e24 : M.1 24 c = i32 l := hcc.2.2.2.2.1.trans hl
    have main : ∀ (y : Int32), (∀ z : Int64, y = if V_m_in q 0 (i32 l - 1) M = 0 then -1 else (wi (wj M 215 0 z) 190 0 0).1 191 (ni ((18 + 13 * i32 c) + (7 + q)))) → ∀ z N', W_m_habit (i32 c) q N' (wj M 215 0 z) (fun b M2 => CP B M2 ∧ M2.1 190 0 = 0 ∧ y = b) := by
      intro y hy z N'
      have e1 : V_m_noCitizen (i32 c) (wi (wj M 215 0 z) 190 0 0) = 0 := (noc_e (M := M) (M1 := wj M 215 0 z) rfl).trans (noc_1 hg.1 hp)
      have e5 : V_m_of (i32 c) 5 (wi (wj M 215 0 z) 190 0 0) = i32 l := (of_row (i := 5) (w := M.1 191) rfl hc10 (by omega)).trans hl
      unfold W_m_habit W_m_throwsIf
      rw [e1]
      refine ⟨fun _ => ⟨fun _ => ?_, fun hb => absurd rfl hb⟩, fun hb => absurd rfl hb⟩
      rw [e5]
      have hyz := hy z
      rw [show V_m_in q 0 (i32 l - 1) M = V_m_in q 0 (i32 l - 1) (wi (wj M 215 0 z) 190 0 0) from rfl] at hyz
      refine ⟨fun h0 => ⟨CP_0 (CP_z h z) 0, wi_1e, ?_⟩, fun h0 => ⟨CP_0 (CP_z h z) 0, wi_1e, ?_⟩⟩
      · rw [if_pos h0] at hyz; exact hyz
      · rw [if_neg h0] at hyz; exact hyz
    have hin : V_m_in q 0 (i32 l - 1) M = b32 (decide (0 ≤ q.toInt ∧ q.toInt < l)) := by
      obtain ⟨l', rfl⟩ : ∃ l', l = l' + 1 := ⟨l - 1, by omega⟩
      rw [v_in, show (i32 (l' + 1) - 1 : Int32) = i32 l' from i32_sb l' 1, i32_i (by omega), show (0 : Int32).toInt = 0 from rfl]
      congr 1
      rw [decide_eq_decide]
      omega
    rw [hin] at main
    rw [ni_i (by omega), e24]
    refine ⟨fun h0 => main _ (fun z => ?_), fun h0 => ⟨fun h1 => main _ (fun z => ?_), fun h1 => main _ (fun z => ?_)⟩⟩
    · rw [lt_lit, show (0 : Int32).toInt = 0 from rfl] at h0
      rw [if_pos]
      rw [decide_eq_false (by omega)]
      rfl
    · rw [lt_lit, show (0 : Int32).toInt = 0 from rfl] at h0
      obtain ⟨k, rfl, hk, hk2⟩ := lit_n (x := q) (by omega)
      have hkl := (i32_lt (by omega) (by omega)).mp h1
      rw [decide_eq_true (show 0 ≤ (i32 k).toInt ∧ (i32 k).toInt < (l : Int) by omega), if_neg (by decide)]
      unfold V_World_matterAt
      rw [show ni (i32 c * 6 + i32 k) = 6 * c + k by rw [show i32 c * 6 = i32 (c * 6) from i32_m c 6, i32_a, ni_i (by omega)]; omega]
      rw [show (7 : Int32) + i32 k = i32 (7 + k) from i32_a 7 k, ofs (by omega) (by omega)]
      show M.1 23 (6 * c + k) = M.1 191 (18 + 13 * c + (7 + k))
      exact hcc.2.2.2.2.2.2.1 k (by omega) (by rw [hl, i32_i (by omega)]; omega)
    · rw [lt_lit, i32_i (by omega)] at h1
      rw [if_pos]
      rw [decide_eq_false (by omega)]
      rfl
  · unfold W_m_habit W_m_throwsIf
    rw [noc_0 hg.1 hp]
    exact ⟨fun hb => absurd hb (by decide), fun _ => ⟨fun hb => absurd hb (by decide), fun _ => CP_t h 1 (fun e => e)⟩⟩
theorem a_log (h : CP B M) {N : Nat} : W_E_log p q N M (fun y => ∀ z N', W_m_log p q N' (wj M 215 0 z) (fun b M2 => CP B M2 ∧ M2.1 190 0 = 0 ∧ y = b)) (fun ce => ∀ N', W_m_log p q N' M (fun _ M2 => CP B M2 ∧ M2.1 190 0 = 1)) := by
  obtain ⟨hc, hg⟩ := h.2.2.2.1
  obtain ⟨-, -, -, -, ⟨g1, ⟨g2, g3⟩, g4⟩⟩ := hc
  have hin : ∀ X : MM, V_m_in q 0 3 X = b32 (decide (0 ≤ q.toInt ∧ q.toInt ≤ 3)) := fun X => by rw [v_in]; rfl
  have bad : ¬ (0 ≤ q.toInt ∧ q.toInt ≤ 3) → ∀ N', W_m_log p q N' M (fun _ M2 => CP B M2 ∧ M2.1 190 0 = 1) := fun hq N' => by
    unfold W_m_log W_m_throwsIf
    rw [hin, decide_eq_false hq]
    exact ⟨fun _ => ⟨fun hb => absurd hb (by decide), fun _ => ⟨fun hb => absurd hb (by decide), fun _ => CP_t h 1 (fun e => e)⟩⟩, fun hb => absurd rfl hb⟩
  have z0 : (0 : Int32).toInt = 0 := rfl
  have z4 : (4 : Int32).toInt = 4 := rfl
  unfold W_E_log
  refine ⟨fun h0 => bad (by rw [lt_lit, z0] at h0; omega), fun h0 => ⟨fun h1 z N' => ?_, fun h1 => bad (by rw [lt_lit, z4] at h1; omega)⟩⟩
  rw [lt_lit, z0] at h0
  rw [lt_lit, z4] at h1
  have hgw := hg.1.2.1
  obtain ⟨n6, e6, h6, -⟩ := lit_n (x := M.1 191 6) hgw.1
  have e28 : M.1 28 1 = i32 n6 := g1.trans e6
  have hp6 : ∀ X : MM, V_m_in p 0 (i32 n6 - 1) X = b32 (decide (0 ≤ p.toInt ∧ p.toInt < n6)) := fun X => by
    rw [v_in, z0]
    congr 1
    rw [decide_eq_decide]
    by_cases c : n6 = 0
    · subst c
      have : (i32 0 - 1 : Int32).toInt = -1 := by decide
      omega
    · obtain ⟨m, rfl⟩ : ∃ m, n6 = m + 1 := ⟨n6 - 1, by omega⟩
      rw [show (i32 (m + 1) - 1 : Int32) = i32 m from i32_sb m 1, i32_i (by omega)]
      omega
  unfold W_m_log W_m_throwsIf
  rw [hin, decide_eq_true (by omega)]
  refine ⟨fun hb => absurd hb (by decide), fun _ => ⟨fun _ => ⟨fun _ => ?_, fun hb => absurd rfl hb⟩, fun hb => absurd rfl hb⟩⟩
  rw [show (wi (wj M 215 0 z) 190 0 0).1 191 (ni 6) = i32 n6 from e6, hp6]
  unfold V_Log_entry
  rw [e28]
  by_cases c : 0 ≤ p.toInt ∧ p.toInt < n6
  · rw [decide_eq_true c]
    refine ⟨fun hb => absurd hb (by decide), fun _ => ⟨CP_0 (CP_z h z) 0, wi_1e, ?_⟩⟩
    obtain ⟨k, rfl, hk, hk2⟩ := lit_n (x := p) c.1
    obtain ⟨r, rfl, hr, hr2⟩ := lit_n (x := q) (by omega)
    obtain ⟨d, ed, hd, hd2⟩ := lit_n (x := M.1 28 2) g2
    have hd3 : d < 60 := by
      have g3' : (M.1 28 2).toInt < 60 := g3
      rw [hd] at g3'
      omega
    rw [if_neg (by rw [lt_lit, z0]; omega), if_pos ((i32_lt (by omega) (by omega)).mpr (by omega))]
    unfold V_m_ofLog
    rw [ed, show (i32 d + 60 - 1 - i32 k : Int32) = i32 (d + 59 - k) by
      rw [show (i32 d + 60 : Int32) = i32 (d + 60) from i32_a d 60, show (i32 (d + 60) - 1 : Int32) = i32 (d + 59) from by
        have := i32_sb (d + 59) 1
        exact this]
      exact i32_df (by omega)]
    rw [show rm (i32 (d + 59 - k)) 60 = i32 ((d + 59 - k) % 60) from rm_n (y := 60) (by omega) (by omega), show i32 ((d + 59 - k) % 60) * 4 = i32 ((d + 59 - k) % 60 * 4) from i32_m _ 4, i32_a, ni_i (by omega)]
    rw [show (4 : Int32) * i32 k = i32 (4 * k) from i32_m 4 k, show (148 : Int32) + i32 (4 * k) = i32 (148 + 4 * k) from i32_a 148 _, i32_a, ni_i (by omega)]
    show M.1 29 _ = M.1 191 _
    have := g4 k r (by omega) (by omega) (by omega)
    rw [ed, ni_i (by omega)] at this
    exact this
  · rw [decide_eq_false c]
    refine ⟨fun _ => ⟨CP_0 (CP_z h z) 0, wi_1e, ?_⟩, fun hb => absurd rfl hb⟩
    by_cases c1 : p < 0
    · rw [if_pos c1]
    · rw [if_neg c1, if_neg]
      intro hx
      rw [lt_lit, z0] at c1
      rw [lt_lit, i32_i (by omega)] at hx
      omega
end AN1
