/-! ANSWERS: a citizen, the counts -/
section AN2
variable {B : Int} {M : MM} {p q : Int32}
theorem lit_r {q : Int32} {n : Nat} (h : 0 ≤ q.toInt ∧ q.toInt < n) : ∃ k, k < n ∧ q = i32 k := ⟨q.toInt.toNat, by omega, i32_of (by omega)⟩
theorem a_citizen (h : CP B M) {N : Nat} : W_E_citizen p q N M (fun y => ∀ z N', W_m_citizen p q N' (wj M 215 0 z) (fun b M2 => CP B M2 ∧ M2.1 190 0 = 0 ∧ y = b)) (fun ce => ∀ N', W_m_citizen p q N' M (fun _ M2 => CP B M2 ∧ M2.1 190 0 = if ce = 2 then 1 else 2)) := by
  obtain ⟨hc, hg⟩ := h.2.2.2.1
  unfold W_E_citizen
  refine s_cit hc (fun hp => ?_) (fun hp N' => ?_)
  · obtain ⟨c, rfl, hcn, hc10⟩ := okc_c hg.1 hp
    have hw := hg.1.2.2.2 c hcn
    have hcc := hc.2.2.2.1 c hcn
    obtain ⟨c1, c2, c3, c4, c5, c6, c7, c8⟩ := hcc
    have ofx : ∀ (X : MM) (i : Nat), X.1 191 = M.1 191 → i < 1000 → V_m_of (i32 c) (i32 i) X = cl (M.1 191) c i := fun X i hx hi => of_row (i := i) hx hc10 hi
    have ref : ∀ (y : Int32), (∀ X : MM, X.1 191 = M.1 191 → X.2 196 = M.2 196 → (q = 6 → y = V_m_doesIn (i32 c) 0 X) ∧ (q = 7 → y = V_m_pooled (i32 c) X) ∧ (q = 8 → y = V_Lng_bitCount (X.2 196 (ni (i32 c))) X) ∧ (¬ q = 6 → ¬ q = 7 → ¬ q = 8 → y = V_m_of (i32 c) q X)) → (0 ≤ q.toInt ∧ q.toInt ≤ 8) → ∀ z N', W_m_citizen (i32 c) q N' (wj M 215 0 z) (fun b M2 => CP B M2 ∧ M2.1 190 0 = 0 ∧ y = b) := by
      intro y hy hq z N'
      have e1 : V_m_noCitizen (i32 c) (wi (wj M 215 0 z) 190 0 0) = 0 := (noc_e (M := M) (M1 := wj M 215 0 z) rfl).trans (noc_1 hg.1 hp)
      have e2 : V_m_in q 0 8 (wi (wj M 215 0 z) 190 0 0) = 1 := by rw [v_in, decide_eq_true (show (0 : Int32).toInt ≤ q.toInt ∧ q.toInt ≤ (8 : Int32).toInt from hq)]; rfl
      obtain ⟨y1, y2, y3, y4⟩ := hy (wi (wj M 215 0 z) 190 0 0) rfl (z_2 (M := M) (z := z) (a := 196) (by omega))
      unfold W_m_citizen W_m_throwsIf
      simp only [e1, e2, e10, e10n, true_implies, false_implies, not_true_eq_false, not_false_eq_true, and_true, true_and, if_true]
      have k := CP_0 (CP_z h z) 0
      exact ⟨fun e => ⟨k, wi_1e, y1 e⟩, fun e => ⟨k, wi_1e, y2 e⟩, fun e => ⟨k, wi_1e, y3 e⟩, fun a b d => ⟨k, wi_1e, y4 a b d⟩⟩
    have easy : ∀ (k : Nat) (y : Int32), k < 6 → y = cl (M.1 191) c k → q = i32 k → ∀ z N', W_m_citizen (i32 c) q N' (wj M 215 0 z) (fun b M2 => CP B M2 ∧ M2.1 190 0 = 0 ∧ y = b) := by
      intro k y hk hy hq
      have ne : ∀ j : Nat, 6 ≤ j → j < 100 → ¬ q = i32 j := fun j h1 h2 e => by
        have := (i32_ij (by omega) (by omega)).mp (hq.symm.trans e)
        omega
      refine ref y (fun X x1 x2 => ⟨fun e => absurd e (ne 6 (by omega) (by omega)), fun e => absurd e (ne 7 (by omega) (by omega)), fun e => absurd e (ne 8 (by omega) (by omega)), fun _ _ _ => ?_⟩) (by rw [hq, i32_i (by omega)]; omega)
      rw [hq, ofx X k x1 (by omega)]
      exact hy
    have bad : ¬ (0 ≤ q.toInt ∧ q.toInt ≤ 8) → ∀ N', W_m_citizen (i32 c) q N' M (fun _ M2 => CP B M2 ∧ M2.1 190 0 = if (4 : Nat) = 2 then 1 else 2) := by
      intro hq N'
      have e2 : ∀ X : MM, V_m_in q 0 8 X = 0 := fun X => by rw [v_in, decide_eq_false (show ¬ ((0 : Int32).toInt ≤ q.toInt ∧ q.toInt ≤ (8 : Int32).toInt) from hq)]; rfl
      unfold W_m_citizen W_m_throwsIf
      simp only [noc_1 hg.1 hp, e2, e10, e10n, true_implies, false_implies, not_true_eq_false, not_false_eq_true, and_true, true_and, if_true]
      exact CP_t h 2 (fun e => e)
    rw [ni_i (show c < 2147483648 by omega)] at ref ⊢
    refine ⟨fun e => easy 0 _ (by omega) ?_ e, fun e => easy 1 _ (by omega) c1 e, fun e => easy 2 _ (by omega) c2 e, fun e => easy 3 _ (by omega) c3 e, fun e => easy 4 _ (by omega) c4 e, fun e => easy 5 _ (by omega) c5 e, fun e => ?_, fun e => ?_, fun e => ?_, fun n0 n1 n2 n3 n4 n5 n6 n7 n8 => ?_⟩
    · unfold V_E_bit
      rw [hc.2.2.1, bt_b (by omega), tb_bs _ _ (by have := (nC_i hg.1).2.1; omega) _ (by omega), decide_eq_true hcn, Bool.true_and]
      unfold alv
      rcases hw.1 with e0 | e0 <;> rw [e0] <;> decide
    · refine ref _ (fun X x1 x2 => ⟨fun _ => ?_, fun e' => absurd (e.symm.trans e') (by decide), fun e' => absurd (e.symm.trans e') (by decide), fun n _ _ => absurd e n⟩) (by rw [e]; decide)
      rw [show V_World_matterAhead 18 (i32 c) 0 M = md (M.1 191) c 0 from c_ahead hc hg.1 hcn (k := 0) (by omega), show V_m_doesIn (i32 c) 0 X = md (X.1 191) c 0 from v_does (k := 0) (by omega) (by rw [x1]; exact hw) (by omega), x1]
    · refine ref _ (fun X x1 x2 => ⟨fun e' => absurd (e.symm.trans e') (by decide), fun _ => ?_, fun e' => absurd (e.symm.trans e') (by decide), fun _ n _ => absurd e n⟩) (by rw [e]; decide)
      unfold V_World_pooledBy V_m_pooled
      rw [show V_m_of (i32 c) 4 X = cl (M.1 191) c 4 from ofx X 4 x1 (by omega), show V_m_of (i32 c) 1 X = cl (M.1 191) c 1 from ofx X 1 x1 (by omega), ni_i (by omega), show M.1 (18 + 4) c = cl (M.1 191) c 4 from c4, show M.1 (18 + 1) c = cl (M.1 191) c 1 from c1]
      have e0 := (nC_i hg.1).1
      have ei := (nC_i hg.1).2.2
      have h10 := (nC_i hg.1).2.1
      rcases hw.2.2.1 with hs | ⟨hs1, hs2⟩
      · rw [hs]
        have : V_World_isThere 18 (-1) M = 0 := by
          unfold V_World_isThere
          rfl
        rw [this, if_pos rfl, if_pos (by decide), Int32.or_zero]
      · obtain ⟨d, hd, ed⟩ := lit_r (q := cl (M.1 191) c 4) (n := nC (M.1 191)) (by omega)
        rw [ed]
        have : V_World_isThere 18 (i32 d) M = 1 := by
          unfold V_World_isThere
          rw [hc.1.1, ei, if_neg (by rw [lt_lit, i32_i (by omega)]; show ¬ ((d : Int) < 0); omega), if_pos ((i32_lt (by omega) (by omega)).mpr hd)]
        rw [this, if_neg (by decide), if_neg (by rw [lt_lit, i32_i (by omega)]; show ¬ ((d : Int) < 0); omega), ni_i (by omega), show M.1 (18 + 1) d = cl (M.1 191) d 1 from (hc.2.2.2.1 d hd).1, show V_m_of (i32 d) 1 X = cl (M.1 191) d 1 from of_row (i := 1) x1 (by omega) (by omega)]
    · refine ref _ (fun X x1 x2 => ⟨fun e' => absurd (e.symm.trans e') (by decide), fun e' => absurd (e.symm.trans e') (by decide), fun _ => ?_, fun _ _ n => absurd e n⟩) (by rw [e]; decide)
      rw [x2, show M.2 26 c = M.2 196 c from c8]
      rfl
    · refine bad (fun hq => ?_)
      obtain ⟨k, hk, ek⟩ := lit_r (q := q) (n := 9) (by omega)
      have : k = 0 ∨ k = 1 ∨ k = 2 ∨ k = 3 ∨ k = 4 ∨ k = 5 ∨ k = 6 ∨ k = 7 ∨ k = 8 := by omega
      rcases this with e | e | e | e | e | e | e | e | e <;> subst e
      · exact n0 ek
      · exact n1 ek
      · exact n2 ek
      · exact n3 ek
      · exact n4 ek
      · exact n5 ek
      · exact n6 ek
      · exact n7 ek
      · exact n8 ek
  · unfold W_m_citizen W_m_throwsIf
    rw [noc_0 hg.1 hp]
    exact ⟨fun hb => absurd hb (by decide), fun _ => ⟨fun hb => absurd hb (by decide), fun _ => CP_t h 1 (fun e => e)⟩⟩
theorem r_alive {N : Nat} {w : RW} {Q : Int32 → Prop} (hw : WF w) (hM : M.1 191 = w) (hQ : Q (bs (alv w) (nC w))) : W_m_alive N M Q := by
  obtain ⟨e0, hn10, ei⟩ := nC_i hw
  unfold W_m_alive
  refine I_m_alive_4 M Q (fun v1 v2 => ∃ j, j ≤ nC w ∧ v2 = i32 j ∧ v1 = bs (alv w) j) (fun N ih v1 v2 hih hv => ?_) N _ _ ⟨0, by omega, rfl, rfl⟩
  obtain ⟨j, hj, rfl, rfl⟩ := hv
  unfold B_m_alive_4
  have ec : V_m_citizens M = i32 (nC w) := by unfold V_m_citizens; rw [hM, n0, ei]
  rw [ec, i32_lt (by omega) (by omega)]
  refine ⟨fun hlt => ?_, fun hlt => ?_⟩
  · have nx : ih (bs (alv w) (j + 1)) (i32 j + 1) := hih _ _ ⟨j + 1, by omega, i32_s j, rfl⟩
    rw [bs_s] at nx
    rw [v_alive (by omega), hM, Int32.or_zero]
    cases hal : alv w j with
    | true => rw [hal] at nx; exact ⟨fun h => absurd h (by decide), fun _ => nx⟩
    | false => rw [hal] at nx; exact ⟨fun _ => nx, fun h => absurd rfl h⟩
  · obtain rfl : j = nC w := by omega
    exact hQ
theorem r_taken {N : Nat} {w : RW} {Q : Int32 → Prop} (hw : WF w) (hM : M.1 191 = w) (hQ : Q (bs (fun c => decide (0 < cl w c 3)) (nC w))) : W_m_takenNow N M Q := by
  obtain ⟨e0, hn10, ei⟩ := nC_i hw
  unfold W_m_takenNow
  refine I_m_takenNow_4 M Q (fun v1 v2 => ∃ j, j ≤ nC w ∧ v2 = i32 j ∧ v1 = bs (fun c => decide (0 < cl w c 3)) j) (fun N ih v1 v2 hih hv => ?_) N _ _ ⟨0, by omega, rfl, rfl⟩
  obtain ⟨j, hj, rfl, rfl⟩ := hv
  unfold B_m_takenNow_4
  have ec : V_m_citizens M = i32 (nC w) := by unfold V_m_citizens; rw [hM, n0, ei]
  rw [ec, i32_lt (by omega) (by omega)]
  refine ⟨fun hlt => ?_, fun hlt => ?_⟩
  · have nx : ih (bs (fun c => decide (0 < cl w c 3)) (j + 1)) (i32 j + 1) := hih _ _ ⟨j + 1, by omega, i32_s j, rfl⟩
    rw [bs_s] at nx
    rw [show V_m_of (i32 j) 3 M = cl w j 3 from of_row (i := 3) hM (by omega) (by omega), Int32.or_zero]
    refine ⟨fun h3 => ?_, fun h3 => ?_⟩
    · rw [if_pos (decide_eq_true h3)] at nx; exact nx
    · rw [if_neg (by rw [decide_eq_false h3]; decide)] at nx; exact nx
  · obtain rfl : j = nC w := by omega
    exact hQ
theorem a_count (h : CP B M) {N : Nat} : W_E_count p N M (fun y => ∀ N', W_m_count p N' M (fun b M2 => CP B M2 ∧ M2.1 190 0 = 0 ∧ y = b)) := by
  have k0 := CP_0 h 0
  obtain ⟨-, -, ⟨L, hL, hR, hTL, -⟩, ⟨hc, hg⟩, m, hh, hm, hr, -⟩ := h
  have hc' := hc
  obtain ⟨⟨a0, a1, a2, a3, a4, a5, a6, a7, a8⟩, -, b2, -, b4, -⟩ := hc'
  unfold W_E_count
  refine ⟨fun e => ⟨fun hz N' => ?_, fun hz N' => ?_⟩, fun e N' => ?_, fun e N' => ?_, fun e N' => ?_, fun e N' => ?_, fun e => c_force hc hg.1 (fun N' => ?_), fun e => c_taken hc hg.1 (fun N' => ?_), fun e N' => ?_, fun e N' => ?_, fun e N' => ?_, fun e N' => ?_, fun e N' => ?_, fun e N' => ?_, fun e N' => ?_, fun x0 x1 x2 x3 x4 x5 x6 x7 x8 x9 x10 x11 x12 x13 N' => ?_⟩
  · unfold W_m_count
    refine ⟨fun _ => ⟨k0, wi_1e, ?_⟩, fun e' => absurd (e.symm.trans e') (by decide), fun e' => absurd (e.symm.trans e') (by decide), fun e' => absurd (e.symm.trans e') (by decide), fun e' => absurd (e.symm.trans e') (by decide), fun e' => absurd (e.symm.trans e') (by decide), fun e' => absurd (e.symm.trans e') (by decide), fun e' => absurd (e.symm.trans e') (by decide), fun e' => absurd (e.symm.trans e') (by decide), fun e' => absurd (e.symm.trans e') (by decide), fun e' => absurd (e.symm.trans e') (by decide), fun e' => absurd (e.symm.trans e') (by decide), fun e' => absurd (e.symm.trans e') (by decide), fun e' => absurd (e.symm.trans e') (by decide), fun x0 x1 x2 x3 x4 x5 x6 x7 x8 x9 x10 x11 x12 x13 => absurd e x0⟩
    rcases hTL with ⟨t1, -, -⟩ | ⟨-, t2⟩
    · exact t1.symm
    · rw [hz] at t2
      exact absurd t2 (by decide)
  · unfold W_m_count
    refine ⟨fun _ => ⟨k0, wi_1e, ?_⟩, fun e' => absurd (e.symm.trans e') (by decide), fun e' => absurd (e.symm.trans e') (by decide), fun e' => absurd (e.symm.trans e') (by decide), fun e' => absurd (e.symm.trans e') (by decide), fun e' => absurd (e.symm.trans e') (by decide), fun e' => absurd (e.symm.trans e') (by decide), fun e' => absurd (e.symm.trans e') (by decide), fun e' => absurd (e.symm.trans e') (by decide), fun e' => absurd (e.symm.trans e') (by decide), fun e' => absurd (e.symm.trans e') (by decide), fun e' => absurd (e.symm.trans e') (by decide), fun e' => absurd (e.symm.trans e') (by decide), fun e' => absurd (e.symm.trans e') (by decide), fun x0 x1 x2 x3 x4 x5 x6 x7 x8 x9 x10 x11 x12 x13 => absurd e x0⟩
    rcases hTL with ⟨-, t2, -⟩ | ⟨t1, -⟩
    · exact absurd t2 hz
    · exact hL.1.trans t1.symm
  · unfold W_m_count
    exact ⟨fun e' => absurd (e.symm.trans e') (by decide), fun _ => ⟨k0, wi_1e, a0⟩, fun e' => absurd (e.symm.trans e') (by decide), fun e' => absurd (e.symm.trans e') (by decide), fun e' => absurd (e.symm.trans e') (by decide), fun e' => absurd (e.symm.trans e') (by decide), fun e' => absurd (e.symm.trans e') (by decide), fun e' => absurd (e.symm.trans e') (by decide), fun e' => absurd (e.symm.trans e') (by decide), fun e' => absurd (e.symm.trans e') (by decide), fun e' => absurd (e.symm.trans e') (by decide), fun e' => absurd (e.symm.trans e') (by decide), fun e' => absurd (e.symm.trans e') (by decide), fun e' => absurd (e.symm.trans e') (by decide), fun x0 x1 x2 x3 x4 x5 x6 x7 x8 x9 x10 x11 x12 x13 => absurd e x1⟩
  · unfold W_m_count
    refine ⟨fun e' => absurd (e.symm.trans e') (by decide), fun e' => absurd (e.symm.trans e') (by decide), fun _ => r_alive hg.1 (w := M.1 191) rfl ⟨k0, wi_1e, ?_⟩, fun e' => absurd (e.symm.trans e') (by decide), fun e' => absurd (e.symm.trans e') (by decide), fun e' => absurd (e.symm.trans e') (by decide), fun e' => absurd (e.symm.trans e') (by decide), fun e' => absurd (e.symm.trans e') (by decide), fun e' => absurd (e.symm.trans e') (by decide), fun e' => absurd (e.symm.trans e') (by decide), fun e' => absurd (e.symm.trans e') (by decide), fun e' => absurd (e.symm.trans e') (by decide), fun e' => absurd (e.symm.trans e') (by decide), fun e' => absurd (e.symm.trans e') (by decide), fun x0 x1 x2 x3 x4 x5 x6 x7 x8 x9 x10 x11 x12 x13 => absurd e x2⟩
    rw [b2]
    rfl
  · unfold W_m_count
    exact ⟨fun e' => absurd (e.symm.trans e') (by decide), fun e' => absurd (e.symm.trans e') (by decide), fun e' => absurd (e.symm.trans e') (by decide), fun _ => ⟨k0, wi_1e, a1⟩, fun e' => absurd (e.symm.trans e') (by decide), fun e' => absurd (e.symm.trans e') (by decide), fun e' => absurd (e.symm.trans e') (by decide), fun e' => absurd (e.symm.trans e') (by decide), fun e' => absurd (e.symm.trans e') (by decide), fun e' => absurd (e.symm.trans e') (by decide), fun e' => absurd (e.symm.trans e') (by decide), fun e' => absurd (e.symm.trans e') (by decide), fun e' => absurd (e.symm.trans e') (by decide), fun e' => absurd (e.symm.trans e') (by decide), fun x0 x1 x2 x3 x4 x5 x6 x7 x8 x9 x10 x11 x12 x13 => absurd e x3⟩
  · unfold W_m_count
    exact ⟨fun e' => absurd (e.symm.trans e') (by decide), fun e' => absurd (e.symm.trans e') (by decide), fun e' => absurd (e.symm.trans e') (by decide), fun e' => absurd (e.symm.trans e') (by decide), fun _ => ⟨k0, wi_1e, a2⟩, fun e' => absurd (e.symm.trans e') (by decide), fun e' => absurd (e.symm.trans e') (by decide), fun e' => absurd (e.symm.trans e') (by decide), fun e' => absurd (e.symm.trans e') (by decide), fun e' => absurd (e.symm.trans e') (by decide), fun e' => absurd (e.symm.trans e') (by decide), fun e' => absurd (e.symm.trans e') (by decide), fun e' => absurd (e.symm.trans e') (by decide), fun e' => absurd (e.symm.trans e') (by decide), fun x0 x1 x2 x3 x4 x5 x6 x7 x8 x9 x10 x11 x12 x13 => absurd e x4⟩
  · unfold W_m_count
    exact ⟨fun e' => absurd (e.symm.trans e') (by decide), fun e' => absurd (e.symm.trans e') (by decide), fun e' => absurd (e.symm.trans e') (by decide), fun e' => absurd (e.symm.trans e') (by decide), fun e' => absurd (e.symm.trans e') (by decide), fun _ => r_force hg.1 (w := M.1 191) rfl ⟨k0, wi_1e, rfl⟩, fun e' => absurd (e.symm.trans e') (by decide), fun e' => absurd (e.symm.trans e') (by decide), fun e' => absurd (e.symm.trans e') (by decide), fun e' => absurd (e.symm.trans e') (by decide), fun e' => absurd (e.symm.trans e') (by decide), fun e' => absurd (e.symm.trans e') (by decide), fun e' => absurd (e.symm.trans e') (by decide), fun e' => absurd (e.symm.trans e') (by decide), fun x0 x1 x2 x3 x4 x5 x6 x7 x8 x9 x10 x11 x12 x13 => absurd e x5⟩
  · unfold W_m_count
    exact ⟨fun e' => absurd (e.symm.trans e') (by decide), fun e' => absurd (e.symm.trans e') (by decide), fun e' => absurd (e.symm.trans e') (by decide), fun e' => absurd (e.symm.trans e') (by decide), fun e' => absurd (e.symm.trans e') (by decide), fun e' => absurd (e.symm.trans e') (by decide), fun _ => r_taken hg.1 (w := M.1 191) rfl ⟨k0, wi_1e, rfl⟩, fun e' => absurd (e.symm.trans e') (by decide), fun e' => absurd (e.symm.trans e') (by decide), fun e' => absurd (e.symm.trans e') (by decide), fun e' => absurd (e.symm.trans e') (by decide), fun e' => absurd (e.symm.trans e') (by decide), fun e' => absurd (e.symm.trans e') (by decide), fun e' => absurd (e.symm.trans e') (by decide), fun x0 x1 x2 x3 x4 x5 x6 x7 x8 x9 x10 x11 x12 x13 => absurd e x6⟩
  · unfold W_m_count
    exact ⟨fun e' => absurd (e.symm.trans e') (by decide), fun e' => absurd (e.symm.trans e') (by decide), fun e' => absurd (e.symm.trans e') (by decide), fun e' => absurd (e.symm.trans e') (by decide), fun e' => absurd (e.symm.trans e') (by decide), fun e' => absurd (e.symm.trans e') (by decide), fun e' => absurd (e.symm.trans e') (by decide), fun _ => ⟨k0, wi_1e, a3⟩, fun e' => absurd (e.symm.trans e') (by decide), fun e' => absurd (e.symm.trans e') (by decide), fun e' => absurd (e.symm.trans e') (by decide), fun e' => absurd (e.symm.trans e') (by decide), fun e' => absurd (e.symm.trans e') (by decide), fun e' => absurd (e.symm.trans e') (by decide), fun x0 x1 x2 x3 x4 x5 x6 x7 x8 x9 x10 x11 x12 x13 => absurd e x7⟩
  · unfold W_m_count
    exact ⟨fun e' => absurd (e.symm.trans e') (by decide), fun e' => absurd (e.symm.trans e') (by decide), fun e' => absurd (e.symm.trans e') (by decide), fun e' => absurd (e.symm.trans e') (by decide), fun e' => absurd (e.symm.trans e') (by decide), fun e' => absurd (e.symm.trans e') (by decide), fun e' => absurd (e.symm.trans e') (by decide), fun e' => absurd (e.symm.trans e') (by decide), fun _ => ⟨k0, wi_1e, a4⟩, fun e' => absurd (e.symm.trans e') (by decide), fun e' => absurd (e.symm.trans e') (by decide), fun e' => absurd (e.symm.trans e') (by decide), fun e' => absurd (e.symm.trans e') (by decide), fun e' => absurd (e.symm.trans e') (by decide), fun x0 x1 x2 x3 x4 x5 x6 x7 x8 x9 x10 x11 x12 x13 => absurd e x8⟩
  · unfold W_m_count
    exact ⟨fun e' => absurd (e.symm.trans e') (by decide), fun e' => absurd (e.symm.trans e') (by decide), fun e' => absurd (e.symm.trans e') (by decide), fun e' => absurd (e.symm.trans e') (by decide), fun e' => absurd (e.symm.trans e') (by decide), fun e' => absurd (e.symm.trans e') (by decide), fun e' => absurd (e.symm.trans e') (by decide), fun e' => absurd (e.symm.trans e') (by decide), fun e' => absurd (e.symm.trans e') (by decide), fun _ => ⟨k0, wi_1e, a5⟩, fun e' => absurd (e.symm.trans e') (by decide), fun e' => absurd (e.symm.trans e') (by decide), fun e' => absurd (e.symm.trans e') (by decide), fun e' => absurd (e.symm.trans e') (by decide), fun x0 x1 x2 x3 x4 x5 x6 x7 x8 x9 x10 x11 x12 x13 => absurd e x9⟩
  · unfold W_m_count
    exact ⟨fun e' => absurd (e.symm.trans e') (by decide), fun e' => absurd (e.symm.trans e') (by decide), fun e' => absurd (e.symm.trans e') (by decide), fun e' => absurd (e.symm.trans e') (by decide), fun e' => absurd (e.symm.trans e') (by decide), fun e' => absurd (e.symm.trans e') (by decide), fun e' => absurd (e.symm.trans e') (by decide), fun e' => absurd (e.symm.trans e') (by decide), fun e' => absurd (e.symm.trans e') (by decide), fun e' => absurd (e.symm.trans e') (by decide), fun _ => ⟨k0, wi_1e, b4⟩, fun e' => absurd (e.symm.trans e') (by decide), fun e' => absurd (e.symm.trans e') (by decide), fun e' => absurd (e.symm.trans e') (by decide), fun x0 x1 x2 x3 x4 x5 x6 x7 x8 x9 x10 x11 x12 x13 => absurd e x10⟩
  · unfold W_m_count
    exact ⟨fun e' => absurd (e.symm.trans e') (by decide), fun e' => absurd (e.symm.trans e') (by decide), fun e' => absurd (e.symm.trans e') (by decide), fun e' => absurd (e.symm.trans e') (by decide), fun e' => absurd (e.symm.trans e') (by decide), fun e' => absurd (e.symm.trans e') (by decide), fun e' => absurd (e.symm.trans e') (by decide), fun e' => absurd (e.symm.trans e') (by decide), fun e' => absurd (e.symm.trans e') (by decide), fun e' => absurd (e.symm.trans e') (by decide), fun e' => absurd (e.symm.trans e') (by decide), fun _ => ⟨k0, wi_1e, a6⟩, fun e' => absurd (e.symm.trans e') (by decide), fun e' => absurd (e.symm.trans e') (by decide), fun x0 x1 x2 x3 x4 x5 x6 x7 x8 x9 x10 x11 x12 x13 => absurd e x11⟩
  · unfold W_m_count
    exact ⟨fun e' => absurd (e.symm.trans e') (by decide), fun e' => absurd (e.symm.trans e') (by decide), fun e' => absurd (e.symm.trans e') (by decide), fun e' => absurd (e.symm.trans e') (by decide), fun e' => absurd (e.symm.trans e') (by decide), fun e' => absurd (e.symm.trans e') (by decide), fun e' => absurd (e.symm.trans e') (by decide), fun e' => absurd (e.symm.trans e') (by decide), fun e' => absurd (e.symm.trans e') (by decide), fun e' => absurd (e.symm.trans e') (by decide), fun e' => absurd (e.symm.trans e') (by decide), fun e' => absurd (e.symm.trans e') (by decide), fun _ => ⟨k0, wi_1e, a7⟩, fun e' => absurd (e.symm.trans e') (by decide), fun x0 x1 x2 x3 x4 x5 x6 x7 x8 x9 x10 x11 x12 x13 => absurd e x12⟩
  · unfold W_m_count
    exact ⟨fun e' => absurd (e.symm.trans e') (by decide), fun e' => absurd (e.symm.trans e') (by decide), fun e' => absurd (e.symm.trans e') (by decide), fun e' => absurd (e.symm.trans e') (by decide), fun e' => absurd (e.symm.trans e') (by decide), fun e' => absurd (e.symm.trans e') (by decide), fun e' => absurd (e.symm.trans e') (by decide), fun e' => absurd (e.symm.trans e') (by decide), fun e' => absurd (e.symm.trans e') (by decide), fun e' => absurd (e.symm.trans e') (by decide), fun e' => absurd (e.symm.trans e') (by decide), fun e' => absurd (e.symm.trans e') (by decide), fun e' => absurd (e.symm.trans e') (by decide), fun _ => ⟨k0, wi_1e, hm.2.1.trans hr.2.1.symm⟩, fun x0 x1 x2 x3 x4 x5 x6 x7 x8 x9 x10 x11 x12 x13 => absurd e x13⟩
  · unfold W_m_count
    exact ⟨fun e' => absurd e' x0, fun e' => absurd e' x1, fun e' => absurd e' x2, fun e' => absurd e' x3, fun e' => absurd e' x4, fun e' => absurd e' x5, fun e' => absurd e' x6, fun e' => absurd e' x7, fun e' => absurd e' x8, fun e' => absurd e' x9, fun e' => absurd e' x10, fun e' => absurd e' x11, fun e' => absurd e' x12, fun e' => absurd e' x13, fun _ _ _ _ _ _ _ _ _ _ _ _ _ _ => ⟨k0, wi_1e, rfl⟩⟩
end AN2
