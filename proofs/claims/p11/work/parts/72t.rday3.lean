/-! A DAY of the reference: whole -/
section R3
variable {M : MM} {w : RW} {s : RS} {f d : Int32} {v : Nat → Int32} {L : LWT} {N : Nat}
theorem r_judge {fo : Int32} {k162 : MM → Prop} {Q : MM → Prop} (hL : LawR M L) (hn : V_m_clauses M = i32 L.1) (hw : WF w) (hd : dOK w) (hQ : ∀ v', k162 (rM M (judgeN L fo f d (nC w) (w, s)).1 (judgeN L fo f d (nC w) (w, s)).2 f d v')) : W_m_oneDay_104 fo k162 Q N 0 (rM M w s f d v) := by
  obtain ⟨e0, hn10, ei⟩ := nC_i hw
  refine I_m_oneDay_104 fo k162 Q (fun v2 M' => ∃ j v', j ≤ nC w ∧ v2 = i32 j ∧ M' = rM M (judgeN L fo f d j (w, s)).1 (judgeN L fo f d j (w, s)).2 f d v') (fun N ih v2 M' hih hv => ?_) N _ _ ⟨0, v, by omega, rfl, rfl⟩
  obtain ⟨j, v', hj, rfl, rfl⟩ := hv
  obtain ⟨hP, hW⟩ := judgeN_W (L := L) (fo := fo) (f := f) (d := d) (x := (w, s)) hw j
  have hs := judgeN_s (L := L) (fo := fo) (f := f) (d := d) (n := j) (x := (w, s))
  unfold B_m_oneDay_104
  have h00 : (judgeN L fo f d j (w, s)).1 0 = w 0 := hP.1 0 (by omega) (by omega) (by omega) (by omega) (by omega)
  rw [rM_cz, h00, ei, i32_lt (by omega) (by omega)]
  refine ⟨fun hlt => ?_, fun hlt => ?_⟩
  · have nx : ∀ v', ih (i32 j + 1) (rM M (judgeN L fo f d (j + 1) (w, s)).1 (judgeN L fo f d (j + 1) (w, s)).2 f d v') := fun v' => hih _ _ ⟨j + 1, v', by omega, i32_s j, rfl⟩
    rw [hs] at nx
    have hcj : j < nC (judgeN L fo f d j (w, s)).1 := by rw [PJ_nC hP]; exact hlt
    have hdj : dOK (judgeN L fo f d j (w, s)).1 := by
      unfold dOK
      rw [show (judgeN L fo f d j (w, s)).1 2 = w 2 from hP.1 2 (by omega) (by omega) (by omega) (by omega) (by omega)]
      exact hd
    rw [rM_30, v_has (by omega), show V_m_doesIn (i32 j) 0 (rM M (judgeN L fo f d j (w, s)).1 (judgeN L fo f d j (w, s)).2 f d v') = md (judgeN L fo f d j (w, s)).1 j 0 from rM_does (k := 0) (by omega) (hW.2.2.2 j hcj) (by omega)]
    generalize judgeN L fo f d j (w, s) = x at *
    cases ht : tb d j with
    | false =>
      rw [if_neg (by rw [ht]; decide)] at nx
      exact ⟨fun _ => nx v', fun h => absurd rfl h⟩
    | true =>
      rw [if_pos ht] at nx
      refine ⟨fun h => absurd h (by decide), fun _ => ?_⟩
      refine r_fb hL hn hW hcj hdj (fun v'' => ?_)
      rw [Int32.and_comm (fbn L x.1 j) fo]
      unfold judgeS at nx
      refine ⟨fun h0 => ?_, fun h0 => ?_⟩
      · rw [if_pos h0] at nx
        exact nx v''
      · rw [if_neg h0] at nx
        rw [show V_m_doesIn (i32 j) 0 (rM M x.1 x.2 f d v'') = md x.1 j 0 from rM_does (k := 0) (by omega) (hW.2.2.2 j hcj) (by omega)]
        refine r_breaks hW hcj ?_
        by_cases hb : dr (sd (x.1 9)) < x.1 7
        · rw [if_pos hb] at nx ⊢
          exact nx v''
        · rw [if_neg hb] at nx ⊢
          exact nx v''
  · obtain rfl : j = nC w := by omega
    exact hQ v'
theorem restN_s {n : Nat} : restN f (n + 1) w = restS f n (restN f n w) := rfl
theorem restS_0 {c : Nat} : restS f c w 0 = w 0 := by
  unfold restS nextS
  split
  · exact up1_n (by omega)
  · rw [up1_n (by omega), up1_n (by omega)]
theorem restN_0 : ∀ n, restN f n w 0 = w 0
  | 0 => rfl
  | n + 1 => by rw [restN_s, restS_0, restN_0 n]
theorem r_rest {Q : MM → Prop} (hw : WF w) (hQ : Q (rM M (up1 (restN f (nC w) w) 2 (restN f (nC w) w 2 + 1)) s f d v)) : W_m_oneDay_164 Q N 0 (rM M w s f d v) := by
  obtain ⟨e0, hn10, ei⟩ := nC_i hw
  refine I_m_oneDay_164 Q (fun v2 M' => ∃ j, j ≤ nC w ∧ v2 = i32 j ∧ M' = rM M (restN f j w) s f d v) (fun N ih v2 M' hih hv => ?_) N _ _ ⟨0, by omega, rfl, rfl⟩
  obtain ⟨j, hj, rfl, rfl⟩ := hv
  unfold B_m_oneDay_164
  rw [rM_cz, restN_0, ei, i32_lt (by omega) (by omega)]
  refine ⟨fun hlt => ?_, fun hlt => ?_⟩
  · have nx : ih (i32 j + 1) (rM M (restN f (j + 1) w) s f d v) := hih _ _ ⟨j + 1, by omega, i32_s j, rfl⟩
    rw [restN_s] at nx
    generalize restN f j w = y at *
    unfold restS nextS at nx
    rw [rM_29, v_has (by omega)]
    unfold W_m_sets
    have o3 : ni ((18 + (13 * i32 j)) + 3) = 18 + 13 * j + 3 := ofs (i := 3) (by omega) (by omega)
    have o6 : ni ((18 + (13 * i32 j)) + 6) = 18 + 13 * j + 6 := ofs (i := 6) (by omega) (by omega)
    have q : ∀ (u : RW) (i : Nat), i < 1000 → V_m_of (i32 j) (i32 i) (rM M u s f d v) = cl u j i := fun u i hi => rM_of (by omega) hi
    cases ht : tb f j with
    | false =>
      rw [if_neg (by rw [ht]; decide)] at nx
      refine ⟨fun _ => ?_, fun h => absurd rfl h⟩
      dsimp only
      rw [o3, o6, rM_w, rM_w, show V_m_of (i32 j) 3 (rM M y s f d v) = cl y j 3 from q y 3 (by omega)]
      rw [show ∀ u, V_m_of (i32 j) 6 (rM M u s f d v) = cl u j 6 from fun u => q u 6 (by omega), show ∀ u, V_m_of (i32 j) 5 (rM M u s f d v) = cl u j 5 from fun u => q u 5 (by omega)]
      exact nx
    | true =>
      rw [if_pos ht] at nx
      refine ⟨fun h => absurd h (by decide), fun _ => ?_⟩
      dsimp only
      rw [o6, rM_w, show V_m_of (i32 j) 6 (rM M y s f d v) = cl y j 6 from q y 6 (by omega), show V_m_of (i32 j) 5 (rM M y s f d v) = cl y j 5 from q y 5 (by omega)]
      exact nx
  · obtain rfl : j = nC w := by omega
    rw [n2, rM_191, rM_w]
    exact hQ
/-- a day -/
theorem r_day {Q : MM → Prop} (hL : LawR M L) (hn : V_m_clauses M = i32 L.1) (hw : WF w) (hd : dOK w) (hQ : ∀ f' d' v', Q (rM M (dayS L w s).1 (dayS L w s).2 f' d' v')) : W_m_oneDay N (rM M w s f d v) Q := by
  unfold W_m_oneDay
  rw [rM_f, rM_d]
  refine r_pick hL hn hw hd (fun v' => ?_)
  have hP : P59 w (pickN L s (nC w) (w, 0)).1 := pickN_P _
  have wP := P59_WF hP hw
  have nP := P59_nC hP
  refine r_force wP rM_191 ?_
  refine r_judge hL hn wP (by unfold dOK; rw [hP 2 (by omega) (by omega)]; exact hd) (fun v'' => ?_)
  obtain ⟨hJ, wJ⟩ := judgeN_W (L := L) (fo := inF (pickN L s (nC w) (w, 0)).1 (nC (pickN L s (nC w) (w, 0)).1)) (f := bs (frb w) (nC w)) (d := (pickN L s (nC w) (w, 0)).2) (x := ((pickN L s (nC w) (w, 0)).1, s)) wP (nC (pickN L s (nC w) (w, 0)).1)
  refine r_rest wJ ?_
  rw [PJ_nC hJ]
  dsimp only
  rw [nP]
  exact hQ _ _ _
end R3
