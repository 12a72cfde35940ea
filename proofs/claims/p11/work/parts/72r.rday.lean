/-! A DAY of the reference -/
theorem n0 : ni 0 = 0 := rfl
theorem n1 : ni 1 = 1 := rfl
theorem n2 : ni 2 = 2 := rfl
theorem n3 : ni 3 = 3 := rfl
theorem n4 : ni 4 = 4 := rfl
theorem n5 : ni 5 = 5 := rfl
theorem n6 : ni 6 = 6 := rfl
theorem n7 : ni 7 = 7 := rfl
theorem n8 : ni 8 = 8 := rfl
theorem n9 : ni 9 = 9 := rfl
theorem n148 : ni 148 = 148 := rfl
theorem n149 : ni 149 = 149 := rfl
theorem n150 : ni 150 = 150 := rfl
theorem n151 : ni 151 = 151 := rfl
theorem md_i {w : RW} {c k : Nat} (h : WFc w c) : md w c k = i32 (ni (md w c k)) ∧ ni (md w c k) < 64 := by
  have := md_b (k := k) h
  exact ⟨i32_ni this.1, by unfold ni; omega⟩
/-- what only draws and counts -/
def P59 (w w' : RW) : Prop := ∀ k, k ≠ 5 → k ≠ 9 → w' k = w k
theorem P59_cl {w w' : RW} (h : P59 w w') (c i : Nat) : cl w' c i = cl w c i := h _ (by omega) (by omega)
theorem P59_tr {a b c : RW} (h1 : P59 a b) (h2 : P59 b c) : P59 a c := fun k h5 h9 => (h2 k h5 h9).trans (h1 k h5 h9)
theorem P59_up {w : RW} {k : Nat} {x : Int32} (hk : k = 5 ∨ k = 9) : P59 w (up1 w k x) := fun j _ _ => up1_n (by omega)
theorem P59_nC {w w' : RW} (h : P59 w w') : nC w' = nC w := by unfold nC; rw [h 0 (by omega) (by omega)]
theorem P59_md {w w' : RW} (h : P59 w w') (c k : Nat) : md w' c k = md w c k := by unfold md; simp only [P59_cl h]
theorem P59_WF {w w' : RW} (h : P59 w w') (hw : WF w) : WF w' := by
  obtain ⟨g0, g6, g8, hc⟩ := hw
  refine ⟨by rw [h 0 (by omega) (by omega)]; exact g0, by rw [h 6 (by omega) (by omega)]; exact g6, by rw [h 8 (by omega) (by omega)]; exact g8, fun c hcn => ?_⟩
  rw [P59_nC h] at hcn
  have := hc c hcn
  unfold WFc at this ⊢
  simp only [P59_cl h]
  rw [h 0 (by omega) (by omega)]
  exact this
theorem P59_frb {w w' : RW} (h : P59 w w') (c : Nat) : frb w' c = frb w c := by unfold frb alv; simp only [P59_cl h]
theorem P59_fbn {L : LWT} {w w' : RW} (h : P59 w w') (c : Nat) : fbn L w' c = fbn L w c := by
  unfold fbn
  rw [P59_md h, P59_cl h, h 2 (by omega) (by omega)]
theorem keepS_P {L : LWT} {w : RW} {s : RS} {c : Nat} : P59 w (keepS L w s c).2 := by
  unfold keepS
  split
  · split
    · exact P59_up (Or.inr rfl)
    · exact fun _ _ _ => rfl
  · exact fun _ _ _ => rfl
theorem pickS_P {L : LWT} {s : RS} {c : Nat} {x : RW × Int32} : P59 x.1 (pickS L s c x).1 := by
  unfold pickS
  split
  · split
    · exact P59_tr keepS_P (P59_up (Or.inl rfl))
    · exact keepS_P
  · exact fun _ _ _ => rfl
theorem pickN_P {L : LWT} {s : RS} {x : RW × Int32} : ∀ n, P59 x.1 (pickN L s n x).1
  | 0 => fun _ _ _ => rfl
  | n + 1 => P59_tr (pickN_P n) pickS_P
theorem pickN_s {L : LWT} {s : RS} {x : RW × Int32} {n : Nat} : pickN L s (n + 1) x = pickS L s n (pickN L s n x) := rfl
section RD
variable {M : MM} {w : RW} {s : RS} {f d : Int32} {v : Nat → Int32} {L : LWT} {c N : Nat}
theorem rM_of {i : Nat} (hc : c < 10) (hi : i < 1000) : V_m_of (i32 c) (i32 i) (rM M w s f d v) = cl w c i := by rw [v_of (by omega) hi, rM_191]
theorem rM_does (hc : c < 10) (hw : WFc w c) {k : Nat} (hk : k < 1000000) : V_m_doesIn (i32 c) (i32 k) (rM M w s f d v) = md w c k := by rw [v_does (by omega) (by rw [rM_191]; exact hw) hk, rM_191]
theorem rM_al (hc : c < 10) : V_m_isAlive (i32 c) (rM M w s f d v) = b32 (alv w c) := by rw [v_alive (by omega), rM_191]
theorem rM_cz : V_m_citizens (rM M w s f d v) = w 0 := by unfold V_m_citizens; rw [rM_191]; rfl
/-- what forbids now, of a set -/
theorem r_fb {set : Int32} {Q : Int32 → MM → Prop} (hL : LawR M L) (hn : V_m_clauses M = i32 L.1) (hw : WF w) (hc : c < nC w) (hd : dOK w) (hQ : ∀ v', Q (fbn L w c &&& set) (rM M w s f d v')) : W_m_forbidsNow set (md w c 0) (i32 c) N (rM M w s f d v) Q := by
  have hn10 := (nC_i hw).2.1
  have hc' := hw.2.2.2 c hc
  unfold W_m_forbidsNow W_m_forbidding
  have ek : knw (rM M w s f d v) (i32 c) = bcn (cl w c 1) := by
    unfold knw
    rw [show V_m_of (i32 c) 1 (rM M w s f d v) = cl w c 1 from rM_of (i := 1) (by omega) (by omega)]
    rfl
  rw [rM_191, n2]
  refine sp_saying (LawR_rM hL) hn (by rw [ek]; exact rngD hc' (by omega) ⟨hd.1, by have := hd.2; omega⟩ _) (fun val => ?_)
  rw [ek, bs_and (by have := hL.1; omega), rM_v]
  exact hQ val
theorem r_keeps {Q : Int32 → MM → Prop} (hL : LawR M L) (hn : V_m_clauses M = i32 L.1) (hw : WF w) (hc : c < nC w) (hd : dOK w) (hQ : ∀ v', Q (b32 (keepS L w s c).1) (rM M (keepS L w s c).2 s f d v')) : W_m_keeps (i32 c) (md w c 0) N (rM M w s f d v) Q := by
  have hn10 := (nC_i hw).2.1
  have hc' := hw.2.2.2 c hc
  obtain ⟨em, bm⟩ := md_i (k := 0) hc'
  unfold W_m_keeps W_m_may
  rw [show V_m_of (i32 c) 1 (rM M w s f d v) = cl w c 1 from rM_of (i := 1) (by omega) (by omega)]
  refine r_fb hL hn hw hc hd (fun v' => ?_)
  have hQ' := hQ v'
  unfold keepS at hQ'
  refine ⟨fun h0 => ⟨fun h => absurd h (by decide), fun _ => ?_⟩, fun h0 => ⟨fun _ => ?_, fun h => absurd rfl h⟩⟩
  · rw [if_pos h0] at hQ'
    rw [rM_196, ni_i (by omega), em, v_hasM bm]
    cases hs : sb (s c) (ni (md w c 0)) with
    | true =>
      rw [if_pos hs] at hQ'
      refine ⟨fun h => absurd h (by decide), fun _ => ?_⟩
      unfold W_m_draw
      simp only [n9, rM_w, rM_191, up1_e]
      rw [show V_m_of (i32 c) 2 (rM M (up1 w 9 (1103515245 * w 9 + 12345)) s f d v') = cl w c 2 from by
        rw [show V_m_of (i32 c) 2 (rM M (up1 w 9 (1103515245 * w 9 + 12345)) s f d v') = cl (up1 w 9 (1103515245 * w 9 + 12345)) c 2 from rM_of (i := 2) (by omega) (by omega), cl_lo (by omega)]]
      dsimp only at hQ'
      refine ⟨fun h => ?_, fun h => ?_⟩
      · rw [show decide (dr (sd (w 9)) < cl w c 2) = true from decide_eq_true h] at hQ'; exact hQ'
      · rw [show decide (dr (sd (w 9)) < cl w c 2) = false from decide_eq_false h] at hQ'; exact hQ'
    | false =>
      rw [if_neg (by rw [hs]; decide)] at hQ'
      exact ⟨fun _ => hQ', fun h => absurd rfl h⟩
  · rw [if_neg h0] at hQ'
    exact hQ'
/-- (a): who does what -/
theorem r_pick {k97 : MM → Prop} {Q : MM → Prop} (hL : LawR M L) (hn : V_m_clauses M = i32 L.1) (hw : WF w) (hd : dOK w) (hQ : ∀ v', k97 (rM M (pickN L s (nC w) (w, 0)).1 s (bs (frb w) (nC w)) (pickN L s (nC w) (w, 0)).2 v')) : W_m_oneDay_12 k97 Q N 0 (rM M w s 0 0 v) := by
  obtain ⟨e0, hn10, ei⟩ := nC_i hw
  refine I_m_oneDay_12 k97 Q (fun v1 M' => ∃ j v', j ≤ nC w ∧ v1 = i32 j ∧ M' = rM M (pickN L s j (w, 0)).1 s (bs (frb w) j) (pickN L s j (w, 0)).2 v') (fun N ih v1 M' hih hv => ?_) N _ _ ⟨0, v, by omega, rfl, rfl⟩
  obtain ⟨j, v', hj, rfl, rfl⟩ := hv
  have hP : P59 w (pickN L s j (w, 0)).1 := pickN_P j
  have hs := pickN_s (L := L) (s := s) (x := (w, 0)) (n := j)
  have hb := bs_s (P := frb w) (n := j)
  unfold B_m_oneDay_12
  rw [rM_cz, hP 0 (by omega) (by omega), ei, i32_lt (by omega) (by omega)]
  refine ⟨fun hlt => ?_, fun hlt => ?_⟩
  · have hwj : WF (pickN L s j (w, 0)).1 := P59_WF hP hw
    have hcj : j < nC (pickN L s j (w, 0)).1 := by rw [P59_nC hP]; exact hlt
    have hdj : dOK (pickN L s j (w, 0)).1 := by unfold dOK; rw [hP 2 (by omega) (by omega)]; exact hd
    have nx : ∀ v', ih (i32 j + 1) (rM M (pickN L s (j + 1) (w, 0)).1 s (bs (frb w) (j + 1)) (pickN L s (j + 1) (w, 0)).2 v') := fun v' => hih _ _ ⟨j + 1, v', by omega, i32_s j, rfl⟩
    rw [hs, hb] at nx
    rw [← P59_frb hP] at nx
    unfold pickS at nx
    rw [rM_al (by omega), show V_m_of (i32 j) 3 (rM M (pickN L s j (w, 0)).1 s (bs (frb w) j) (pickN L s j (w, 0)).2 v') = cl (pickN L s j (w, 0)).1 j 3 from rM_of (i := 3) (by omega) (by omega)]
    generalize pickN L s j (w, 0) = x at *
    have hfr : frb x.1 j = (alv x.1 j && !decide (0 < cl x.1 j 3)) := rfl
    cases hal : alv x.1 j with
    | false =>
      rw [hfr, hal] at nx
      exact ⟨fun _ => nx v', fun h => absurd rfl h⟩
    | true =>
      refine ⟨fun h => absurd h (by decide), fun _ => ⟨fun h3 => ?_, fun h3 => ?_⟩⟩
      · rw [hfr, hal, decide_eq_true h3] at nx
        exact nx v'
      · rw [hfr, hal, decide_eq_false h3] at nx
        simp only [Bool.not_false, Bool.and_true, if_true] at nx
        rw [rM_29, rM_f, show V_m_doesIn (i32 j) 0 (rM M x.1 s (bs (frb w) j ||| sl 1 (i32 j)) x.2 v') = md x.1 j 0 from rM_does (k := 0) (by omega) (hwj.2.2.2 j hcj) (by omega)]
        refine r_keeps hL hn hwj hcj hdj (fun v'' => ?_)
        refine ⟨fun hk => ?_, fun hk => ?_⟩
        · rw [b32_eq0] at hk
          rw [hk] at nx
          rw [rM_30, rM_d]
          exact nx v''
        · rw [b32_ne0] at hk
          rw [hk] at nx
          rw [n5, rM_191, rM_w]
          exact nx v''
  · obtain rfl : j = nC w := by omega
    exact hQ v'
theorem inF_s {n : Nat} : inF w (n + 1) = if alv w n = true then inF w n ||| cl w n 1 else inF w n := rfl
theorem r_force {Q : Int32 → Prop} (hw : WF w) (hM : M.1 191 = w) (hQ : Q (inF w (nC w))) : W_m_inForce N M Q := by
  obtain ⟨e0, hn10, ei⟩ := nC_i hw
  unfold W_m_inForce
  refine I_m_inForce_4 M Q (fun v1 v2 => ∃ j, j ≤ nC w ∧ v2 = i32 j ∧ v1 = inF w j) (fun N ih v1 v2 hih hv => ?_) N _ _ ⟨0, by omega, rfl, rfl⟩
  obtain ⟨j, hj, rfl, rfl⟩ := hv
  unfold B_m_inForce_4
  have ec : V_m_citizens M = i32 (nC w) := by unfold V_m_citizens; rw [hM, n0, ei]
  rw [ec, i32_lt (by omega) (by omega)]
  refine ⟨fun hlt => ?_, fun hlt => ?_⟩
  · have nx : ih (inF w (j + 1)) (i32 j + 1) := hih _ _ ⟨j + 1, by omega, i32_s j, rfl⟩
    rw [inF_s] at nx
    rw [v_alive (by omega), hM, show V_m_of (i32 j) 1 M = cl w j 1 from by rw [show V_m_of (i32 j) 1 M = cl (M.1 191) j 1 from v_of (i := 1) (by omega) (by omega), hM], Int32.or_zero]
    cases hal : alv w j with
    | true => rw [hal] at nx; exact ⟨fun h => absurd h (by decide), fun _ => nx⟩
    | false => rw [hal] at nx; exact ⟨fun _ => nx, fun h => absurd rfl h⟩
  · obtain rfl : j = nC w := by omega
    exact hQ
end RD
