/-! WHAT EACH METHOD WRITES (gw.py) -/
def fp_World_letAllSee (a : Nat) : List (Nat × Nat × Option Nat) := [((a + 8), (a + 8), none)]
theorem an_World_letAllSee_4 {M0 : MM} {a : Nat} {p1 : Int32} {Q : Int32 → MM → Prop} (hQ : ∀ (r : Int32) (M1 : MM), Eqo (fp_World_letAllSee a) M0 M1 → Q r M1) : ∀ (N : Nat) (v2 : Int32) (v3 : Int32) (M : MM), Eqo (fp_World_letAllSee a) M0 M → W_World_letAllSee_4 a p1 Q N v2 v3 M := by
  refine I_World_letAllSee_4 a p1 Q (fun _ _ M => Eqo (fp_World_letAllSee a) M0 M) (fun N ih v2 v3 M hih hM => ?_)
  unfold B_World_letAllSee_4
  refine ⟨fun _ => ?_, fun _ => ?_⟩
  · refine ⟨fun _ => ?_, fun _ => ?_⟩
    · exact hih _ _ _ hM
    · refine ⟨fun _ => ?_, fun _ => ?_⟩
      · exact hih _ _ _ (eqo_wj hM (i := 0) rfl (Or.inl rfl))
      · exact hih _ _ _ hM
  · exact hQ _ _ hM
theorem an_World_letAllSee {a : Nat} {p1 : Int32} {N : Nat} {M : MM} {Q : Int32 → MM → Prop} (hQ : ∀ (r : Int32) (M1 : MM), Eqo (fp_World_letAllSee a) M M1 → Q r M1) : W_World_letAllSee a p1 N M Q := by
  unfold W_World_letAllSee
  refine an_World_letAllSee_4   hQ N _ _ _ (eqo_rf _)
def fp_World_spreadFear (a : Nat) : List (Nat × Nat × Option Nat) := [((a + 8), (a + 8), none)]
theorem an_World_spreadFear_14 {M0 : MM} {a : Nat} {u2 : Int32} {Q : Int32 → MM → Prop} (hQ : ∀ (r : Int32) (M1 : MM), Eqo (fp_World_spreadFear a) M0 M1 → Q r M1) : ∀ (N : Nat) (v1 : Int32) (v3 : Int32) (M : MM), Eqo (fp_World_spreadFear a) M0 M → W_World_spreadFear_14 a u2 Q N v1 v3 M := by
  refine I_World_spreadFear_14 a u2 Q (fun _ _ M => Eqo (fp_World_spreadFear a) M0 M) (fun N ih v1 v3 M hih hM => ?_)
  unfold B_World_spreadFear_14
  refine ⟨fun _ => ?_, fun _ => ?_⟩
  · refine an_World_seersOf (fun r2 => ?_)
    refine ⟨fun _ => ?_, fun _ => ?_⟩
    · refine an_World_letAllSee (fun r5 M6 hM6 => ?_)
      refine ⟨fun _ => ?_, fun _ => ?_⟩
      · exact hih _ _ _ (eqo_tr hM (fps_cons (i := 0) rfl fps_nil) hM6)
      · exact hih _ _ _ (eqo_tr hM (fps_cons (i := 0) rfl fps_nil) hM6)
    · exact hih _ _ _ hM
  · exact hQ _ _ hM
theorem an_World_spreadFear {a : Nat} {N : Nat} {M : MM} {Q : Int32 → MM → Prop} (hQ : ∀ (r : Int32) (M1 : MM), Eqo (fp_World_spreadFear a) M M1 → Q r M1) : W_World_spreadFear a N M Q := by
  unfold W_World_spreadFear
  refine an_World_spreadFear_14   hQ N _ _ _ (eqo_rf _)
theorem an_World_seenInSum_4 {a : Nat} {M : MM} {Q : Int32 → Prop} (hQ : ∀ (r : Int32), Q r) : ∀ (N : Nat) (v1 : Int32) (v2 : Int32), True → W_World_seenInSum_4 a M Q N v1 v2 := by
  refine I_World_seenInSum_4 a M Q (fun _ _ => True) (fun N ih v1 v2 hih _ => ?_)
  unfold B_World_seenInSum_4
  refine ⟨fun _ => ?_, fun _ => ?_⟩
  · exact hih _ _ trivial
  · exact hQ _
theorem an_World_seenInSum {a : Nat} {N : Nat} {M : MM} {Q : Int32 → Prop} (hQ : ∀ (r : Int32), Q r) : W_World_seenInSum a N M Q := by
  unfold W_World_seenInSum
  refine an_World_seenInSum_4   hQ N _ _ trivial
theorem an_World_seenByAll_6 {a : Nat} {M : MM} {Q : Int64 → Prop} (hQ : ∀ (r : Int64), Q r) : ∀ (N : Nat) (v1 : Int64) (v3 : Int32), True → W_World_seenByAll_6 a M Q N v1 v3 := by
  refine I_World_seenByAll_6 a M Q (fun _ _ => True) (fun N ih v1 v3 hih _ => ?_)
  unfold B_World_seenByAll_6
  refine ⟨fun _ => ?_, fun _ => ?_⟩
  · refine ⟨fun _ => ?_, fun _ => ?_⟩
    · exact hih _ _ trivial
    · exact hih _ _ trivial
  · exact hQ _
theorem an_World_seenByAll {a : Nat} {N : Nat} {M : MM} {Q : Int64 → Prop} (hQ : ∀ (r : Int64), Q r) : W_World_seenByAll a N M Q := by
  unfold W_World_seenByAll
  refine an_World_seenByAll_6   hQ N _ _ trivial
theorem an_World_seenByAny_4 {a : Nat} {M : MM} {Q : Int64 → Prop} (hQ : ∀ (r : Int64), Q r) : ∀ (N : Nat) (v1 : Int64) (v3 : Int32), True → W_World_seenByAny_4 a M Q N v1 v3 := by
  refine I_World_seenByAny_4 a M Q (fun _ _ => True) (fun N ih v1 v3 hih _ => ?_)
  unfold B_World_seenByAny_4
  refine ⟨fun _ => ?_, fun _ => ?_⟩
  · refine ⟨fun _ => ?_, fun _ => ?_⟩
    · exact hih _ _ trivial
    · exact hih _ _ trivial
  · exact hQ _
theorem an_World_seenByAny {a : Nat} {N : Nat} {M : MM} {Q : Int64 → Prop} (hQ : ∀ (r : Int64), Q r) : W_World_seenByAny a N M Q := by
  unfold W_World_seenByAny
  refine an_World_seenByAny_4   hQ N _ _ trivial
def fp_E_feed  : List (Nat × Nat × Option Nat) := [(2, 2, none), (1, 1, some 1)]
theorem an_E_feed {p1 : Int32} {p2 : Int32} {p3 : Int32} {p4 : Int32} {p5 : Int32} {N : Nat} {M : MM} {Q : Int32 → MM → Prop} (hQ : ∀ (r : Int32) (M1 : MM), Eqo fp_E_feed M M1 → Q r M1) : W_E_feed p1 p2 p3 p4 p5 N M Q := by
  unfold W_E_feed
  refine ⟨fun _ => ?_, fun _ => ?_⟩
  · exact hQ _ _ (eqo_rf _)
  · refine an_Tape_add (fun M3 hM3 => ?_)
    refine an_Tape_add (fun M5 hM5 => ?_)
    refine an_Tape_add (fun M7 hM7 => ?_)
    refine an_Tape_add (fun M9 hM9 => ?_)
    refine an_Tape_add (fun M11 hM11 => ?_)
    exact hQ _ _ (eqo_tr (eqo_tr (eqo_tr (eqo_tr (eqo_tr (eqo_rf _) (fps_cons (i := 0) rfl (fps_cons (i := 1) rfl fps_nil)) hM3) (fps_cons (i := 0) rfl (fps_cons (i := 1) rfl fps_nil)) hM5) (fps_cons (i := 0) rfl (fps_cons (i := 1) rfl fps_nil)) hM7) (fps_cons (i := 0) rfl (fps_cons (i := 1) rfl fps_nil)) hM9) (fps_cons (i := 0) rfl (fps_cons (i := 1) rfl fps_nil)) hM11)
def fp_E_end  : List (Nat × Nat × Option Nat) := [(1, 1, some 1)]
theorem an_E_end {p1 : Int32} {N : Nat} {M : MM} {Q : Int32 → MM → Prop} (hQ : ∀ (r : Int32) (M1 : MM), Eqo fp_E_end M M1 → Q r M1) : W_E_end p1 N M Q := by
  unfold W_E_end
  refine ⟨fun _ => ?_, fun _ => ?_⟩
  · exact hQ _ _ (eqo_rf _)
  · refine ⟨fun _ => ?_, fun _ => ?_⟩
    · exact hQ _ _ (eqo_rf _)
    · exact hQ _ _ (eqo_wi (eqo_rf _) (i := 0) rfl (Or.inr rfl))
def fp_E_code  : List (Nat × Nat × Option Nat) := [(3, 3, some 4), (3, 3, some 5), (4, 4, none), (5, 5, none), (6, 6, none), (7, 7, none), (1, 1, some 1), (13, 13, some 0), (13, 13, some 1), (13, 13, some 2), (13, 13, some 6), (13, 13, some 8), (14, 14, none), (15, 15, none), (17, 17, none), (16, 16, none), (0, 0, some 15), (8, 8, some 0), (8, 8, some 1), (8, 8, some 2), (8, 8, some 6), (8, 8, some 8), (9, 9, none), (10, 10, none), (11, 11, none), (12, 12, none), (44, 44, some 2)]
theorem an_E_code  {N : Nat} {M : MM} {Q : Int32 → MM → Prop} {E : Nat → MM → Prop} (hQ : ∀ (r : Int32) (M1 : MM), Eqo fp_E_code M M1 → Q r M1) (hE : ∀ ce (M1 : MM), Eqo fp_E_code M M1 → E ce M1) : W_E_code  N M Q E := by
  unfold W_E_code
  refine an_Text_split (fun M2 hM2 => ?_)
  refine an_LawReader_readAll (fun r3 M4 hM4 => ?_)
  refine ⟨fun _ => ?_, fun _ => ?_⟩
  · refine ⟨fun _ => ?_, fun _ => ?_⟩
    · refine ⟨fun _ => ?_, fun _ => ?_⟩
      · exact hE _ _ (eqo_wi (eqo_tr (eqo_wi (eqo_tr (eqo_rf _) (fps_cons (i := 0) rfl (fps_cons (i := 1) rfl (fps_cons (i := 2) rfl (fps_cons (i := 3) rfl (fps_cons (i := 4) rfl (fps_cons (i := 5) rfl fps_nil)))))) hM2) (i := 6) rfl (Or.inr rfl)) (fps_cons (i := 7) rfl (fps_cons (i := 8) rfl (fps_cons (i := 9) rfl (fps_cons (i := 10) rfl (fps_cons (i := 11) rfl (fps_cons (i := 1) rfl (fps_cons (i := 12) rfl (fps_cons (i := 13) rfl (fps_cons (i := 14) rfl (fps_cons (i := 15) rfl fps_nil)))))))))) hM4) (i := 16) rfl (Or.inr rfl))
      · refine an_Law_become (fun M9 hM9 => ?_)
        refine an_Memory_forget (fun M11 hM11 => ?_)
        exact hQ _ _ (eqo_tr (eqo_tr (eqo_wi (eqo_tr (eqo_wi (eqo_tr (eqo_rf _) (fps_cons (i := 0) rfl (fps_cons (i := 1) rfl (fps_cons (i := 2) rfl (fps_cons (i := 3) rfl (fps_cons (i := 4) rfl (fps_cons (i := 5) rfl fps_nil)))))) hM2) (i := 6) rfl (Or.inr rfl)) (fps_cons (i := 7) rfl (fps_cons (i := 8) rfl (fps_cons (i := 9) rfl (fps_cons (i := 10) rfl (fps_cons (i := 11) rfl (fps_cons (i := 1) rfl (fps_cons (i := 12) rfl (fps_cons (i := 13) rfl (fps_cons (i := 14) rfl (fps_cons (i := 15) rfl fps_nil)))))))))) hM4) (i := 16) rfl (Or.inr rfl)) (fps_cons (i := 17) rfl (fps_cons (i := 18) rfl (fps_cons (i := 19) rfl (fps_cons (i := 20) rfl (fps_cons (i := 21) rfl (fps_cons (i := 22) rfl (fps_cons (i := 23) rfl (fps_cons (i := 24) rfl (fps_cons (i := 25) rfl fps_nil))))))))) hM9) (fps_cons (i := 26) rfl fps_nil) hM11)
    · exact hE _ _ (eqo_wi (eqo_tr (eqo_wi (eqo_tr (eqo_rf _) (fps_cons (i := 0) rfl (fps_cons (i := 1) rfl (fps_cons (i := 2) rfl (fps_cons (i := 3) rfl (fps_cons (i := 4) rfl (fps_cons (i := 5) rfl fps_nil)))))) hM2) (i := 6) rfl (Or.inr rfl)) (fps_cons (i := 7) rfl (fps_cons (i := 8) rfl (fps_cons (i := 9) rfl (fps_cons (i := 10) rfl (fps_cons (i := 11) rfl (fps_cons (i := 1) rfl (fps_cons (i := 12) rfl (fps_cons (i := 13) rfl (fps_cons (i := 14) rfl (fps_cons (i := 15) rfl fps_nil)))))))))) hM4) (i := 16) rfl (Or.inr rfl))
  · exact hE _ _ (eqo_wi (eqo_tr (eqo_wi (eqo_tr (eqo_rf _) (fps_cons (i := 0) rfl (fps_cons (i := 1) rfl (fps_cons (i := 2) rfl (fps_cons (i := 3) rfl (fps_cons (i := 4) rfl (fps_cons (i := 5) rfl fps_nil)))))) hM2) (i := 6) rfl (Or.inr rfl)) (fps_cons (i := 7) rfl (fps_cons (i := 8) rfl (fps_cons (i := 9) rfl (fps_cons (i := 10) rfl (fps_cons (i := 11) rfl (fps_cons (i := 1) rfl (fps_cons (i := 12) rfl (fps_cons (i := 13) rfl (fps_cons (i := 14) rfl (fps_cons (i := 15) rfl fps_nil)))))))))) hM4) (i := 16) rfl (Or.inr rfl))
def fp_E_republic  : List (Nat × Nat × Option Nat) := [(3, 3, some 4), (3, 3, some 5), (4, 4, none), (5, 5, none), (6, 6, none), (7, 7, none), (1, 1, some 1), (30, 30, some 0), (30, 30, some 1), (31, 31, none), (32, 32, none), (33, 33, none), (34, 34, none), (35, 35, none), (36, 36, none), (37, 37, none), (38, 38, none), (39, 39, none), (30, 30, some 11), (30, 30, some 12), (30, 30, some 13), (30, 30, some 14), (30, 30, some 15), (30, 30, some 16), (30, 30, some 17), (30, 30, some 18), (41, 41, none), (40, 40, some 1), (40, 40, some 2), (0, 0, some 15), (18, 18, some 0), (18, 18, some 1), (19, 19, none), (20, 20, none), (21, 21, none), (22, 22, none), (23, 23, none), (24, 24, none), (25, 25, none), (26, 26, none), (27, 27, none), (18, 18, some 11), (18, 18, some 12), (18, 18, some 13), (18, 18, some 14), (18, 18, some 15), (18, 18, some 16), (18, 18, some 17), (18, 18, some 18), (29, 29, none), (28, 28, some 1), (28, 28, some 2), (44, 44, some 2)]
theorem an_E_republic  {N : Nat} {M : MM} {Q : Int32 → MM → Prop} {E : Nat → MM → Prop} (hQ : ∀ (r : Int32) (M1 : MM), Eqo fp_E_republic M M1 → Q r M1) (hE : ∀ ce (M1 : MM), Eqo fp_E_republic M M1 → E ce M1) : W_E_republic  N M Q E := by
  unfold W_E_republic
  refine an_Text_split (fun M2 hM2 => ?_)
  refine an_World_become (fun M4 hM4 => ?_)
  refine an_RepublicReader_readAll (fun r5 M6 hM6 => ?_)
  refine ⟨fun _ => ?_, fun _ => ?_⟩
  · refine ⟨fun _ => ?_, fun _ => ?_⟩
    · refine an_World_become (fun M10 hM10 => ?_)
      refine an_Memory_forget (fun M12 hM12 => ?_)
      exact hQ _ _ (eqo_tr (eqo_wi (eqo_tr (eqo_wi (eqo_tr (eqo_tr (eqo_wi (eqo_tr (eqo_rf _) (fps_cons (i := 0) rfl (fps_cons (i := 1) rfl (fps_cons (i := 2) rfl (fps_cons (i := 3) rfl (fps_cons (i := 4) rfl (fps_cons (i := 5) rfl fps_nil)))))) hM2) (i := 6) rfl (Or.inr rfl)) (fps_cons (i := 7) rfl (fps_cons (i := 8) rfl (fps_cons (i := 9) rfl (fps_cons (i := 10) rfl (fps_cons (i := 11) rfl (fps_cons (i := 12) rfl (fps_cons (i := 13) rfl (fps_cons (i := 14) rfl (fps_cons (i := 15) rfl (fps_cons (i := 16) rfl (fps_cons (i := 17) rfl (fps_cons (i := 18) rfl (fps_cons (i := 19) rfl (fps_cons (i := 20) rfl (fps_cons (i := 21) rfl (fps_cons (i := 22) rfl (fps_cons (i := 23) rfl (fps_cons (i := 24) rfl (fps_cons (i := 25) rfl (fps_cons (i := 26) rfl (fps_cons (i := 27) rfl (fps_cons (i := 28) rfl fps_nil)))))))))))))))))))))) hM4) (fps_cons (i := 1) rfl (fps_cons (i := 12) rfl (fps_cons (i := 9) rfl (fps_cons (i := 17) rfl (fps_cons (i := 19) rfl (fps_cons (i := 18) rfl (fps_cons (i := 16) rfl (fps_cons (i := 7) rfl (fps_cons (i := 8) rfl (fps_cons (i := 10) rfl (fps_cons (i := 11) rfl (fps_cons (i := 14) rfl (fps_cons (i := 15) rfl (fps_cons (i := 13) rfl fps_nil)))))))))))))) hM6) (i := 29) rfl (Or.inr rfl)) (fps_cons (i := 30) rfl (fps_cons (i := 31) rfl (fps_cons (i := 32) rfl (fps_cons (i := 33) rfl (fps_cons (i := 34) rfl (fps_cons (i := 35) rfl (fps_cons (i := 36) rfl (fps_cons (i := 37) rfl (fps_cons (i := 38) rfl (fps_cons (i := 39) rfl (fps_cons (i := 40) rfl (fps_cons (i := 41) rfl (fps_cons (i := 42) rfl (fps_cons (i := 43) rfl (fps_cons (i := 44) rfl (fps_cons (i := 45) rfl (fps_cons (i := 46) rfl (fps_cons (i := 47) rfl (fps_cons (i := 48) rfl (fps_cons (i := 49) rfl (fps_cons (i := 50) rfl (fps_cons (i := 51) rfl fps_nil)))))))))))))))))))))) hM10) (i := 45) rfl (Or.inr rfl)) (fps_cons (i := 52) rfl fps_nil) hM12)
    · exact hE _ _ (eqo_wi (eqo_tr (eqo_tr (eqo_wi (eqo_tr (eqo_rf _) (fps_cons (i := 0) rfl (fps_cons (i := 1) rfl (fps_cons (i := 2) rfl (fps_cons (i := 3) rfl (fps_cons (i := 4) rfl (fps_cons (i := 5) rfl fps_nil)))))) hM2) (i := 6) rfl (Or.inr rfl)) (fps_cons (i := 7) rfl (fps_cons (i := 8) rfl (fps_cons (i := 9) rfl (fps_cons (i := 10) rfl (fps_cons (i := 11) rfl (fps_cons (i := 12) rfl (fps_cons (i := 13) rfl (fps_cons (i := 14) rfl (fps_cons (i := 15) rfl (fps_cons (i := 16) rfl (fps_cons (i := 17) rfl (fps_cons (i := 18) rfl (fps_cons (i := 19) rfl (fps_cons (i := 20) rfl (fps_cons (i := 21) rfl (fps_cons (i := 22) rfl (fps_cons (i := 23) rfl (fps_cons (i := 24) rfl (fps_cons (i := 25) rfl (fps_cons (i := 26) rfl (fps_cons (i := 27) rfl (fps_cons (i := 28) rfl fps_nil)))))))))))))))))))))) hM4) (fps_cons (i := 1) rfl (fps_cons (i := 12) rfl (fps_cons (i := 9) rfl (fps_cons (i := 17) rfl (fps_cons (i := 19) rfl (fps_cons (i := 18) rfl (fps_cons (i := 16) rfl (fps_cons (i := 7) rfl (fps_cons (i := 8) rfl (fps_cons (i := 10) rfl (fps_cons (i := 11) rfl (fps_cons (i := 14) rfl (fps_cons (i := 15) rfl (fps_cons (i := 13) rfl fps_nil)))))))))))))) hM6) (i := 29) rfl (Or.inr rfl))
  · exact hE _ _ (eqo_wi (eqo_tr (eqo_tr (eqo_wi (eqo_tr (eqo_rf _) (fps_cons (i := 0) rfl (fps_cons (i := 1) rfl (fps_cons (i := 2) rfl (fps_cons (i := 3) rfl (fps_cons (i := 4) rfl (fps_cons (i := 5) rfl fps_nil)))))) hM2) (i := 6) rfl (Or.inr rfl)) (fps_cons (i := 7) rfl (fps_cons (i := 8) rfl (fps_cons (i := 9) rfl (fps_cons (i := 10) rfl (fps_cons (i := 11) rfl (fps_cons (i := 12) rfl (fps_cons (i := 13) rfl (fps_cons (i := 14) rfl (fps_cons (i := 15) rfl (fps_cons (i := 16) rfl (fps_cons (i := 17) rfl (fps_cons (i := 18) rfl (fps_cons (i := 19) rfl (fps_cons (i := 20) rfl (fps_cons (i := 21) rfl (fps_cons (i := 22) rfl (fps_cons (i := 23) rfl (fps_cons (i := 24) rfl (fps_cons (i := 25) rfl (fps_cons (i := 26) rfl (fps_cons (i := 27) rfl (fps_cons (i := 28) rfl fps_nil)))))))))))))))))))))) hM4) (fps_cons (i := 1) rfl (fps_cons (i := 12) rfl (fps_cons (i := 9) rfl (fps_cons (i := 17) rfl (fps_cons (i := 19) rfl (fps_cons (i := 18) rfl (fps_cons (i := 16) rfl (fps_cons (i := 7) rfl (fps_cons (i := 8) rfl (fps_cons (i := 10) rfl (fps_cons (i := 11) rfl (fps_cons (i := 14) rfl (fps_cons (i := 15) rfl (fps_cons (i := 13) rfl fps_nil)))))))))))))) hM6) (i := 29) rfl (Or.inr rfl))
theorem an_E_needIndex {p0 : Int32} {p1 : Int32} {N : Nat} {M : MM} {Q : Prop} {E : Nat → Prop} (hQ : Q) (hE : ∀ ce, E ce) : W_E_needIndex p0 p1 N M Q E := by
  unfold W_E_needIndex
  refine ⟨fun _ => ?_, fun _ => ?_⟩
  · exact hE _
  · refine ⟨fun _ => ?_, fun _ => ?_⟩
    · exact hQ
    · exact hE _
theorem an_E_needClause {p1 : Int32} {N : Nat} {M : MM} {Q : Prop} {E : Nat → Prop} (hQ : Q) (hE : ∀ ce, E ce) : W_E_needClause p1 N M Q E := by
  unfold W_E_needClause
  refine an_E_needIndex ?_ (fun ce => hE ce)
  exact hQ
def fp_E_clause  : List (Nat × Nat × Option Nat) := [(172, 172, none)]
theorem an_E_clause {p1 : Int32} {p2 : Int32} {N : Nat} {M : MM} {Q : Int32 → MM → Prop} {E : Nat → MM → Prop} (hQ : ∀ (r : Int32) (M1 : MM), Eqo fp_E_clause M M1 → Q r M1) (hE : ∀ ce (M1 : MM), Eqo fp_E_clause M M1 → E ce M1) : W_E_clause p1 p2 N M Q E := by
  unfold W_E_clause
  refine an_E_needClause ?_ (fun ce => hE ce _ (eqo_rf _))
  refine ⟨?_, ?_, ?_, ?_, ?_, ?_⟩
  · intro _
    exact hQ _ _ (eqo_rf _)
  · intro _
    exact hQ _ _ (eqo_rf _)
  · intro _
    refine an_World_inForce (fun r4 => ?_)
    exact hQ _ _ (eqo_rf _)
  · intro _
    refine an_World_knowersOf (fun r6 => ?_)
    exact hQ _ _ (eqo_rf _)
  · intro _
    refine an_Inquiry_contradicting (fun r8 M9 hM9 => ?_)
    exact hQ _ _ (eqo_tr (eqo_rf _) (fps_cons (i := 0) rfl fps_nil) hM9)
  · intro _ _ _ _ _
    exact hE _ _ (eqo_rf _)
theorem an_E_needCitizen {p1 : Int32} {N : Nat} {M : MM} {Q : Prop} {E : Nat → Prop} (hQ : Q) (hE : ∀ ce, E ce) : W_E_needCitizen p1 N M Q E := by
  unfold W_E_needCitizen
  refine an_E_needIndex ?_ (fun ce => hE ce)
  exact hQ
theorem an_E_citizen {p1 : Int32} {p2 : Int32} {N : Nat} {M : MM} {Q : Int32 → Prop} {E : Nat → Prop} (hQ : ∀ (r : Int32), Q r) (hE : ∀ ce, E ce) : W_E_citizen p1 p2 N M Q E := by
  unfold W_E_citizen
  refine an_E_needCitizen ?_ (fun ce => hE ce)
  refine ⟨?_, ?_, ?_, ?_, ?_, ?_, ?_, ?_, ?_, ?_⟩
  · intro _
    exact hQ _
  · intro _
    exact hQ _
  · intro _
    exact hQ _
  · intro _
    exact hQ _
  · intro _
    exact hQ _
  · intro _
    exact hQ _
  · intro _
    exact hQ _
  · intro _
    exact hQ _
  · intro _
    exact hQ _
  · intro _ _ _ _ _ _ _ _ _
    exact hE _
theorem an_E_seen {p1 : Int32} {N : Nat} {M : MM} {Q : Int64 → Prop} {E : Nat → Prop} (hQ : ∀ (r : Int64), Q r) (hE : ∀ ce, E ce) : W_E_seen p1 N M Q E := by
  unfold W_E_seen
  refine an_E_needCitizen ?_ (fun ce => hE ce)
  exact hQ _
theorem an_E_habit {p1 : Int32} {p2 : Int32} {N : Nat} {M : MM} {Q : Int32 → Prop} {E : Nat → Prop} (hQ : ∀ (r : Int32), Q r) (hE : ∀ ce, E ce) : W_E_habit p1 p2 N M Q E := by
  unfold W_E_habit
  refine an_E_needCitizen ?_ (fun ce => hE ce)
  refine ⟨fun _ => ?_, fun _ => ?_⟩
  · exact hQ _
  · refine ⟨fun _ => ?_, fun _ => ?_⟩
    · exact hQ _
    · exact hQ _
theorem an_E_needAlive {p1 : Int32} {N : Nat} {M : MM} {Q : Prop} {E : Nat → Prop} (hQ : Q) (hE : ∀ ce, E ce) : W_E_needAlive p1 N M Q E := by
  unfold W_E_needAlive
  refine ⟨fun _ => ?_, fun _ => ?_⟩
  · exact hE _
  · exact hQ
theorem an_E_matter {p1 : Int32} {p2 : Int32} {p3 : Int32} {N : Nat} {M : MM} {Q : Int32 → Prop} {E : Nat → Prop} (hQ : ∀ (r : Int32), Q r) (hE : ∀ ce, E ce) : W_E_matter p1 p2 p3 N M Q E := by
  unfold W_E_matter
  refine an_E_needIndex ?_ (fun ce => hE ce)
  refine an_E_needCitizen ?_ (fun ce => hE ce)
  refine an_E_needAlive ?_ (fun ce => hE ce)
  refine ⟨?_, ?_, ?_, ?_, ?_⟩
  · intro _
    refine an_Inquiry_forbiddenTo (fun r8 => ?_)
    exact hQ _
  · intro _
    refine an_Inquiry_demandedOf (fun r10 => ?_)
    exact hQ _
  · intro _
    refine an_Inquiry_allows (fun r12 => ?_)
    refine ⟨fun _ => ?_, fun _ => ?_⟩
    · exact hQ _
    · exact hQ _
  · intro _
    refine an_Inquiry_allows (fun r15 => ?_)
    refine ⟨fun _ => ?_, fun _ => ?_⟩
    · exact hQ _
    · refine ⟨fun _ => ?_, fun _ => ?_⟩
      · exact hQ _
      · exact hQ _
  · intro _ _ _ _
    exact hE _
def fp_E_tell  : List (Nat × Nat × Option Nat) := [(46, 165, none), (44, 44, some 1), (44, 44, some 2), (19, 19, none)]
theorem an_E_tell {p1 : Int32} {p2 : Int32} {N : Nat} {M : MM} {Q : Int32 → MM → Prop} {E : Nat → MM → Prop} (hQ : ∀ (r : Int32) (M1 : MM), Eqo fp_E_tell M M1 → Q r M1) (hE : ∀ ce (M1 : MM), Eqo fp_E_tell M M1 → E ce M1) : W_E_tell p1 p2 N M Q E := by
  unfold W_E_tell
  refine an_E_needCitizen ?_ (fun ce => hE ce _ (eqo_rf _))
  refine an_E_needClause ?_ (fun ce => hE ce _ (eqo_rf _))
  refine an_E_needAlive ?_ (fun ce => hE ce _ (eqo_rf _))
  refine ⟨fun _ => ?_, fun _ => ?_⟩
  · exact hE _ _ (eqo_rf _)
  · refine an_Memory_remember (fun M9 hM9 => ?_)
    exact hQ _ _ (eqo_wi (eqo_tr (eqo_rf _) (fps_cons (i := 0) rfl (fps_cons (i := 1) rfl (fps_cons (i := 2) rfl fps_nil))) hM9) (i := 3) rfl (Or.inl rfl))
def fp_E_die  : List (Nat × Nat × Option Nat) := [(46, 165, none), (44, 44, some 1), (44, 44, some 2), (18, 18, some 1), (21, 21, none), (22, 22, none)]
theorem an_E_die {p1 : Int32} {N : Nat} {M : MM} {Q : Int32 → MM → Prop} {E : Nat → MM → Prop} (hQ : ∀ (r : Int32) (M1 : MM), Eqo fp_E_die M M1 → Q r M1) (hE : ∀ ce (M1 : MM), Eqo fp_E_die M M1 → E ce M1) : W_E_die p1 N M Q E := by
  unfold W_E_die
  refine an_E_needCitizen ?_ (fun ce => hE ce _ (eqo_rf _))
  refine an_E_needAlive ?_ (fun ce => hE ce _ (eqo_rf _))
  refine an_Memory_remember (fun M6 hM6 => ?_)
  refine an_World_inForce (fun r7 => ?_)
  refine an_World_bury (fun M10 hM10 => ?_)
  refine an_World_inForce (fun r11 => ?_)
  exact hQ _ _ (eqo_tr (eqo_tr (eqo_rf _) (fps_cons (i := 0) rfl (fps_cons (i := 1) rfl (fps_cons (i := 2) rfl fps_nil))) hM6) (fps_cons (i := 3) rfl (fps_cons (i := 4) rfl (fps_cons (i := 5) rfl fps_nil))) hM10)
theorem an_E_needTwo {p0 : Int32} {p1 : Int32} {N : Nat} {M : MM} {Q : Prop} {E : Nat → Prop} (hQ : Q) (hE : ∀ ce, E ce) : W_E_needTwo p0 p1 N M Q E := by
  unfold W_E_needTwo
  refine ⟨fun _ => ?_, fun _ => ?_⟩
  · exact hE _
  · exact hQ
def fp_E_wed  : List (Nat × Nat × Option Nat) := [(46, 165, none), (44, 44, some 1), (44, 44, some 2), (22, 22, none), (19, 19, none)]
theorem an_E_wed {p1 : Int32} {p2 : Int32} {N : Nat} {M : MM} {Q : Int32 → MM → Prop} {E : Nat → MM → Prop} (hQ : ∀ (r : Int32) (M1 : MM), Eqo fp_E_wed M M1 → Q r M1) (hE : ∀ ce (M1 : MM), Eqo fp_E_wed M M1 → E ce M1) : W_E_wed p1 p2 N M Q E := by
  unfold W_E_wed
  refine an_E_needCitizen ?_ (fun ce => hE ce _ (eqo_rf _))
  refine an_E_needCitizen ?_ (fun ce => hE ce _ (eqo_rf _))
  refine an_E_needTwo ?_ (fun ce => hE ce _ (eqo_rf _))
  refine an_E_needAlive ?_ (fun ce => hE ce _ (eqo_rf _))
  refine an_E_needAlive ?_ (fun ce => hE ce _ (eqo_rf _))
  refine ⟨fun _ => ?_, fun _ => ?_⟩
  · refine ⟨fun _ => ?_, fun _ => ?_⟩
    · refine an_Memory_remember (fun M14 hM14 => ?_)
      refine an_World_marry (fun M16 hM16 => ?_)
      exact hQ _ _ (eqo_tr (eqo_tr (eqo_rf _) (fps_cons (i := 0) rfl (fps_cons (i := 1) rfl (fps_cons (i := 2) rfl fps_nil))) hM14) (fps_cons (i := 3) rfl (fps_cons (i := 4) rfl fps_nil)) hM16)
    · exact hE _ _ (eqo_rf _)
  · exact hE _ _ (eqo_rf _)
def fp_E_baby  : List (Nat × Nat × Option Nat) := [(46, 165, none), (44, 44, some 1), (44, 44, some 2), (18, 18, some 0), (18, 18, some 1), (19, 19, none), (20, 20, none), (21, 21, none), (22, 22, none), (24, 24, none), (25, 25, none), (26, 26, none), (23, 23, none)]
theorem an_E_baby {p1 : Int32} {N : Nat} {M : MM} {Q : Int32 → MM → Prop} {E : Nat → MM → Prop} (hQ : ∀ (r : Int32) (M1 : MM), Eqo fp_E_baby M M1 → Q r M1) (hE : ∀ ce (M1 : MM), Eqo fp_E_baby M M1 → E ce M1) : W_E_baby p1 N M Q E := by
  unfold W_E_baby
  refine an_E_needCitizen ?_ (fun ce => hE ce _ (eqo_rf _))
  refine an_E_needAlive ?_ (fun ce => hE ce _ (eqo_rf _))
  refine ⟨fun _ => ?_, fun _ => ?_⟩
  · refine an_Memory_remember (fun M7 hM7 => ?_)
    refine an_World_bear (fun r8 M9 hM9 => ?_)
    exact hQ _ _ (eqo_tr (eqo_tr (eqo_rf _) (fps_cons (i := 0) rfl (fps_cons (i := 1) rfl (fps_cons (i := 2) rfl fps_nil))) hM7) (fps_cons (i := 3) rfl (fps_cons (i := 4) rfl (fps_cons (i := 5) rfl (fps_cons (i := 6) rfl (fps_cons (i := 7) rfl (fps_cons (i := 8) rfl (fps_cons (i := 9) rfl (fps_cons (i := 10) rfl (fps_cons (i := 11) rfl (fps_cons (i := 12) rfl fps_nil)))))))))) hM9)
  · exact hE _ _ (eqo_rf _)
def fp_E_release  : List (Nat × Nat × Option Nat) := [(46, 165, none), (44, 44, some 1), (44, 44, some 2), (21, 21, none)]
theorem an_E_release {p1 : Int32} {N : Nat} {M : MM} {Q : Int32 → MM → Prop} {E : Nat → MM → Prop} (hQ : ∀ (r : Int32) (M1 : MM), Eqo fp_E_release M M1 → Q r M1) (hE : ∀ ce (M1 : MM), Eqo fp_E_release M M1 → E ce M1) : W_E_release p1 N M Q E := by
  unfold W_E_release
  refine an_E_needCitizen ?_ (fun ce => hE ce _ (eqo_rf _))
  refine an_E_needAlive ?_ (fun ce => hE ce _ (eqo_rf _))
  refine ⟨fun _ => ?_, fun _ => ?_⟩
  · exact hE _ _ (eqo_rf _)
  · refine an_Memory_remember (fun M7 hM7 => ?_)
    exact hQ _ _ (eqo_wi (eqo_tr (eqo_rf _) (fps_cons (i := 0) rfl (fps_cons (i := 1) rfl (fps_cons (i := 2) rfl fps_nil))) hM7) (i := 3) rfl (Or.inl rfl))
theorem an_E_needNumber {p0 : Int32} {p1 : Int32} {p2 : Int32} {N : Nat} {M : MM} {Q : Prop} {E : Nat → Prop} (hQ : Q) (hE : ∀ ce, E ce) : W_E_needNumber p0 p1 p2 N M Q E := by
  unfold W_E_needNumber
  refine ⟨fun _ => ?_, fun _ => ?_⟩
  · exact hE _
  · refine ⟨fun _ => ?_, fun _ => ?_⟩
    · exact hE _
    · exact hQ
def fp_E_days  : List (Nat × Nat × Option Nat) := [(46, 165, none), (44, 44, some 1), (44, 44, some 2), (18, 18, some 14), (18, 18, some 18), (18, 18, some 13), (25, 25, none), (21, 21, none), (18, 18, some 17), (18, 18, some 16), (29, 29, none), (28, 28, some 2), (28, 28, some 1), (26, 26, none)]
theorem an_E_days_28 {M0 : MM} {p1 : Int32} {u2 : Int32} {Q : Int32 → MM → Prop} {E : Nat → MM → Prop} (hQ : ∀ (r : Int32) (M1 : MM), Eqo fp_E_days M0 M1 → Q r M1) (hE : ∀ ce (M1 : MM), Eqo fp_E_days M0 M1 → E ce M1) : ∀ (N : Nat) (v3 : Int32) (M : MM), Eqo fp_E_days M0 M → W_E_days_28 p1 u2 Q E N v3 M := by
  refine I_E_days_28 p1 u2 Q E (fun _ M => Eqo fp_E_days M0 M) (fun N ih v3 M hih hM => ?_)
  unfold B_E_days_28
  refine ⟨fun _ => ?_, fun _ => ?_⟩
  · refine an_World_passDay (fun M7 hM7 => ?_)
    exact hih _ _ (eqo_tr hM (fps_cons (i := 3) rfl (fps_cons (i := 4) rfl (fps_cons (i := 5) rfl (fps_cons (i := 6) rfl (fps_cons (i := 7) rfl (fps_cons (i := 8) rfl (fps_cons (i := 9) rfl (fps_cons (i := 10) rfl (fps_cons (i := 11) rfl (fps_cons (i := 12) rfl (fps_cons (i := 13) rfl fps_nil))))))))))) hM7)
  · exact hQ _ _ hM
theorem an_E_days {p1 : Int32} {N : Nat} {M : MM} {Q : Int32 → MM → Prop} {E : Nat → MM → Prop} (hQ : ∀ (r : Int32) (M1 : MM), Eqo fp_E_days M M1 → Q r M1) (hE : ∀ ce (M1 : MM), Eqo fp_E_days M M1 → E ce M1) : W_E_days p1 N M Q E := by
  unfold W_E_days
  refine an_E_needNumber ?_ (fun ce => hE ce _ (eqo_rf _))
  refine an_Memory_remember (fun M4 hM4 => ?_)
  refine an_E_days_28   hQ hE N _ _ (eqo_tr (eqo_rf _) (fps_cons (i := 0) rfl (fps_cons (i := 1) rfl (fps_cons (i := 2) rfl fps_nil))) hM4)
theorem an_E_nobody  {N : Nat} {M : MM} {Q : Int32 → Prop} (hQ : ∀ (r : Int32), Q r) : W_E_nobody  N M Q := by
  unfold W_E_nobody
  refine an_Inquiry_forbiddenToAll (fun r1 => ?_)
  exact hQ _
def fp_E_relief  : List (Nat × Nat × Option Nat) := [(172, 172, none)]
theorem an_E_relief  {N : Nat} {M : MM} {Q : Int32 → MM → Prop} (hQ : ∀ (r : Int32) (M1 : MM), Eqo fp_E_relief M M1 → Q r M1) : W_E_relief  N M Q := by
  unfold W_E_relief
  refine an_Inquiry_fewestToDie (fun r1 M2 hM2 => ?_)
  exact hQ _ _ (eqo_tr (eqo_rf _) (fps_cons (i := 0) rfl fps_nil) hM2)
def fp_E_read  : List (Nat × Nat × Option Nat) := [(166, 166, some 3), (166, 166, some 4), (167, 167, none), (1, 1, some 1), (166, 166, some 6), (166, 166, some 7), (166, 166, some 8), (168, 168, none)]
theorem an_E_read {p1 : Int32} {N : Nat} {M : MM} {Q : Int32 → MM → Prop} {E : Nat → MM → Prop} (hQ : ∀ (r : Int32) (M1 : MM), Eqo fp_E_read M M1 → Q r M1) (hE : ∀ ce (M1 : MM), Eqo fp_E_read M M1 → E ce M1) : W_E_read p1 N M Q E := by
  unfold W_E_read
  refine an_Reading_takeRows (fun r1 M2 hM2 => ?_)
  refine ⟨fun _ => ?_, fun _ => ?_⟩
  · exact hE _ _ (eqo_wi (eqo_tr (eqo_rf _) (fps_cons (i := 0) rfl (fps_cons (i := 1) rfl (fps_cons (i := 2) rfl fps_nil))) hM2) (i := 3) rfl (Or.inr rfl))
  · refine ⟨fun _ => ?_, fun _ => ?_⟩
    · exact hE _ _ (eqo_wi (eqo_tr (eqo_rf _) (fps_cons (i := 0) rfl (fps_cons (i := 1) rfl (fps_cons (i := 2) rfl fps_nil))) hM2) (i := 3) rfl (Or.inr rfl))
    · refine ⟨fun _ => ?_, fun _ => ?_⟩
      · exact hE _ _ (eqo_wi (eqo_tr (eqo_rf _) (fps_cons (i := 0) rfl (fps_cons (i := 1) rfl (fps_cons (i := 2) rfl fps_nil))) hM2) (i := 3) rfl (Or.inr rfl))
      · refine an_Reading_findCodes (fun M7 hM7 => ?_)
        refine ⟨fun _ => ?_, fun _ => ?_⟩
        · exact hQ _ _ (eqo_tr (eqo_wi (eqo_tr (eqo_rf _) (fps_cons (i := 0) rfl (fps_cons (i := 1) rfl (fps_cons (i := 2) rfl fps_nil))) hM2) (i := 3) rfl (Or.inr rfl)) (fps_cons (i := 4) rfl (fps_cons (i := 5) rfl (fps_cons (i := 6) rfl (fps_cons (i := 7) rfl fps_nil)))) hM7)
        · refine ⟨fun _ => ?_, fun _ => ?_⟩
          · exact hQ _ _ (eqo_tr (eqo_wi (eqo_tr (eqo_rf _) (fps_cons (i := 0) rfl (fps_cons (i := 1) rfl (fps_cons (i := 2) rfl fps_nil))) hM2) (i := 3) rfl (Or.inr rfl)) (fps_cons (i := 4) rfl (fps_cons (i := 5) rfl (fps_cons (i := 6) rfl (fps_cons (i := 7) rfl fps_nil)))) hM7)
          · exact hQ _ _ (eqo_tr (eqo_wi (eqo_tr (eqo_rf _) (fps_cons (i := 0) rfl (fps_cons (i := 1) rfl (fps_cons (i := 2) rfl fps_nil))) hM2) (i := 3) rfl (Or.inr rfl)) (fps_cons (i := 4) rfl (fps_cons (i := 5) rfl (fps_cons (i := 6) rfl (fps_cons (i := 7) rfl fps_nil)))) hM7)
def fp_E_next  : List (Nat × Nat × Option Nat) := [(166, 166, some 3), (166, 166, some 4), (167, 167, none), (1, 1, some 1), (166, 166, some 6), (166, 166, some 7), (166, 166, some 8), (168, 168, none)]
theorem an_E_next {p1 : Int32} {N : Nat} {M : MM} {Q : Int32 → MM → Prop} {E : Nat → MM → Prop} (hQ : ∀ (r : Int32) (M1 : MM), Eqo fp_E_next M M1 → Q r M1) (hE : ∀ ce (M1 : MM), Eqo fp_E_next M M1 → E ce M1) : W_E_next p1 N M Q E := by
  unfold W_E_next
  refine an_Reading_takeRows (fun r1 M2 hM2 => ?_)
  refine an_E_needCitizen ?_ (fun ce => hE ce _ (eqo_wi (eqo_tr (eqo_rf _) (fps_cons (i := 0) rfl (fps_cons (i := 1) rfl (fps_cons (i := 2) rfl fps_nil))) hM2) (i := 3) rfl (Or.inr rfl)))
  refine ⟨fun _ => ?_, fun _ => ?_⟩
  · exact hE _ _ (eqo_wi (eqo_tr (eqo_rf _) (fps_cons (i := 0) rfl (fps_cons (i := 1) rfl (fps_cons (i := 2) rfl fps_nil))) hM2) (i := 3) rfl (Or.inr rfl))
  · refine an_E_needAlive ?_ (fun ce => hE ce _ (eqo_wi (eqo_tr (eqo_rf _) (fps_cons (i := 0) rfl (fps_cons (i := 1) rfl (fps_cons (i := 2) rfl fps_nil))) hM2) (i := 3) rfl (Or.inr rfl)))
    refine an_Reading_findCodes (fun M9 hM9 => ?_)
    refine ⟨fun _ => ?_, fun _ => ?_⟩
    · exact hQ _ _ (eqo_tr (eqo_wi (eqo_tr (eqo_rf _) (fps_cons (i := 0) rfl (fps_cons (i := 1) rfl (fps_cons (i := 2) rfl fps_nil))) hM2) (i := 3) rfl (Or.inr rfl)) (fps_cons (i := 4) rfl (fps_cons (i := 5) rfl (fps_cons (i := 6) rfl (fps_cons (i := 7) rfl fps_nil)))) hM9)
    · refine an_Reading_bestSplit (fun r11 M12 hM12 => ?_)
      exact hQ _ _ (eqo_tr (eqo_tr (eqo_wi (eqo_tr (eqo_rf _) (fps_cons (i := 0) rfl (fps_cons (i := 1) rfl (fps_cons (i := 2) rfl fps_nil))) hM2) (i := 3) rfl (Or.inr rfl)) (fps_cons (i := 4) rfl (fps_cons (i := 5) rfl (fps_cons (i := 6) rfl (fps_cons (i := 7) rfl fps_nil)))) hM9) (fps_cons (i := 7) rfl fps_nil) hM12)
theorem an_E_cover  {N : Nat} {M : MM} {Q : Int32 → Prop} (hQ : ∀ (r : Int32), Q r) : W_E_cover  N M Q := by
  unfold W_E_cover
  refine an_Inquiry_fewestKnowers (fun r1 => ?_)
  exact hQ _
theorem an_E_dies {p1 : Int32} {N : Nat} {M : MM} {Q : Int32 → Prop} {E : Nat → Prop} (hQ : ∀ (r : Int32), Q r) (hE : ∀ ce, E ce) : W_E_dies p1 N M Q E := by
  unfold W_E_dies
  refine an_E_needCitizen ?_ (fun ce => hE ce)
  refine an_E_needAlive ?_ (fun ce => hE ce)
  refine an_Inquiry_knownByOnly (fun r5 => ?_)
  exact hQ _
theorem an_E_heirs {p1 : Int32} {N : Nat} {M : MM} {Q : Int32 → Prop} {E : Nat → Prop} (hQ : ∀ (r : Int32), Q r) (hE : ∀ ce, E ce) : W_E_heirs p1 N M Q E := by
  unfold W_E_heirs
  refine an_E_needNumber ?_ (fun ce => hE ce)
  refine an_Inquiry_tellingsFor (fun r3 => ?_)
  exact hQ _
def fp_E_risk  : List (Nat × Nat × Option Nat) := [(170, 170, none)]
theorem an_E_risk {p1 : Int32} {p2 : Int32} {N : Nat} {M : MM} {Q : Int32 → MM → Prop} {E : Nat → MM → Prop} (hQ : ∀ (r : Int32) (M1 : MM), Eqo fp_E_risk M M1 → Q r M1) (hE : ∀ ce (M1 : MM), Eqo fp_E_risk M M1 → E ce M1) : W_E_risk p1 p2 N M Q E := by
  unfold W_E_risk
  refine an_E_needCitizen ?_ (fun ce => hE ce _ (eqo_rf _))
  refine an_E_needNumber ?_ (fun ce => hE ce _ (eqo_rf _))
  refine an_E_needAlive ?_ (fun ce => hE ce _ (eqo_rf _))
  refine an_Outlook_riskFrom (fun r7 M8 hM8 => ?_)
  exact hQ _ _ (eqo_tr (eqo_rf _) (fps_cons (i := 0) rfl fps_nil) hM8)
theorem an_E_safe {p1 : Int32} {p2 : Int32} {N : Nat} {M : MM} {Q : Int32 → Prop} {E : Nat → Prop} (hQ : ∀ (r : Int32), Q r) (hE : ∀ ce, E ce) : W_E_safe p1 p2 N M Q E := by
  unfold W_E_safe
  refine an_E_needCitizen ?_ (fun ce => hE ce)
  refine an_E_needIndex ?_ (fun ce => hE ce)
  refine an_E_needAlive ?_ (fun ce => hE ce)
  refine an_Inquiry_firstFreePlace (fun r7 => ?_)
  exact hQ _
def fp_E_better  : List (Nat × Nat × Option Nat) := [(170, 170, none)]
theorem an_E_better {p1 : Int32} {p2 : Int32} {N : Nat} {M : MM} {Q : Int32 → MM → Prop} {E : Nat → MM → Prop} (hQ : ∀ (r : Int32) (M1 : MM), Eqo fp_E_better M M1 → Q r M1) (hE : ∀ ce (M1 : MM), Eqo fp_E_better M M1 → E ce M1) : W_E_better p1 p2 N M Q E := by
  unfold W_E_better
  refine an_E_needCitizen ?_ (fun ce => hE ce _ (eqo_rf _))
  refine an_E_needNumber ?_ (fun ce => hE ce _ (eqo_rf _))
  refine an_E_needAlive ?_ (fun ce => hE ce _ (eqo_rf _))
  refine an_Outlook_bestStart (fun r7 M8 hM8 => ?_)
  exact hQ _ _ (eqo_tr (eqo_rf _) (fps_cons (i := 0) rfl fps_nil) hM8)
def fp_E_telling  : List (Nat × Nat × Option Nat) := [(169, 169, some 3), (169, 169, some 4), (170, 170, none)]
theorem an_E_telling {p1 : Int32} {p2 : Int32} {N : Nat} {M : MM} {Q : Int32 → MM → Prop} {E : Nat → MM → Prop} (hQ : ∀ (r : Int32) (M1 : MM), Eqo fp_E_telling M M1 → Q r M1) (hE : ∀ ce (M1 : MM), Eqo fp_E_telling M M1 → E ce M1) : W_E_telling p1 p2 N M Q E := by
  unfold W_E_telling
  refine an_E_needNumber ?_ (fun ce => hE ce _ (eqo_rf _))
  refine an_Outlook_findTelling (fun M4 hM4 => ?_)
  refine ⟨fun _ => ?_, fun _ => ?_⟩
  · exact hQ _ _ (eqo_tr (eqo_rf _) (fps_cons (i := 0) rfl (fps_cons (i := 1) rfl (fps_cons (i := 2) rfl fps_nil))) hM4)
  · exact hQ _ _ (eqo_tr (eqo_rf _) (fps_cons (i := 0) rfl (fps_cons (i := 1) rfl (fps_cons (i := 2) rfl fps_nil))) hM4)
theorem an_E_deduced {p1 : Int32} {N : Nat} {M : MM} {Q : Int32 → Prop} {E : Nat → Prop} (hQ : ∀ (r : Int32), Q r) (hE : ∀ ce, E ce) : W_E_deduced p1 N M Q E := by
  unfold W_E_deduced
  refine an_E_needCitizen ?_ (fun ce => hE ce)
  refine an_E_needAlive ?_ (fun ce => hE ce)
  refine an_Inquiry_deducedBy (fun r5 => ?_)
  exact hQ _
theorem an_E_hush {p1 : Int32} {N : Nat} {M : MM} {Q : Int32 → Prop} {E : Nat → Prop} (hQ : ∀ (r : Int32), Q r) (hE : ∀ ce, E ce) : W_E_hush p1 N M Q E := by
  unfold W_E_hush
  refine an_E_needIndex ?_ (fun ce => hE ce)
  refine an_Inquiry_hushedPlaces (fun r3 => ?_)
  exact hQ _
theorem an_E_usual {p1 : Int32} {N : Nat} {M : MM} {Q : Int32 → Prop} {E : Nat → Prop} (hQ : ∀ (r : Int32), Q r) (hE : ∀ ce, E ce) : W_E_usual p1 N M Q E := by
  unfold W_E_usual
  refine an_E_needIndex ?_ (fun ce => hE ce)
  refine an_Inquiry_usualDeed (fun r3 => ?_)
  exact hQ _
theorem an_E_feared {p1 : Int32} {N : Nat} {M : MM} {Q : Int64 → Prop} (hQ : ∀ (r : Int64), Q r) : W_E_feared p1 N M Q := by
  unfold W_E_feared
  refine ⟨fun _ => ?_, fun _ => ?_⟩
  · exact hQ _
  · refine ⟨fun _ => ?_, fun _ => ?_⟩
    · refine an_World_seenByAny (fun r3 => ?_)
      exact hQ _
    · refine an_World_seenByAll (fun r5 => ?_)
      exact hQ _
def fp_E_custom  : List (Nat × Nat × Option Nat) := [(30, 30, some 0), (30, 30, some 1), (31, 31, none), (32, 32, none), (33, 33, none), (34, 34, none), (35, 35, none), (36, 36, none), (37, 37, none), (38, 38, none), (39, 39, none), (30, 30, some 11), (30, 30, some 12), (30, 30, some 13), (30, 30, some 14), (30, 30, some 15), (30, 30, some 16), (30, 30, some 17), (30, 30, some 18), (41, 41, none), (40, 40, some 1), (40, 40, some 2)]
theorem an_E_custom_22 {M0 : MM} {p1 : Int32} {Q : Int32 → MM → Prop} {E : Nat → MM → Prop} (hQ : ∀ (r : Int32) (M1 : MM), Eqo fp_E_custom M0 M1 → Q r M1) (hE : ∀ ce (M1 : MM), Eqo fp_E_custom M0 M1 → E ce M1) : ∀ (N : Nat) (v2 : Int32) (v3 : Int32) (M : MM), Eqo fp_E_custom M0 M → W_E_custom_22 p1 Q E N v2 v3 M := by
  refine I_E_custom_22 p1 Q E (fun _ _ M => Eqo fp_E_custom M0 M) (fun N ih v2 v3 M hih hM => ?_)
  unfold B_E_custom_22
  refine ⟨fun _ => ?_, fun _ => ?_⟩
  · refine ⟨fun _ => ?_, fun _ => ?_⟩
    · refine an_World_seenInSum (fun r7 => ?_)
      exact hQ _ _ hM
    · refine an_World_spreadFear (fun r9 M10 hM10 => ?_)
      exact hih _ _ _ (eqo_tr hM (fps_cons (i := 9) rfl fps_nil) hM10)
  · refine an_World_seenInSum (fun r11 => ?_)
    exact hQ _ _ hM
theorem an_E_custom {p1 : Int32} {N : Nat} {M : MM} {Q : Int32 → MM → Prop} {E : Nat → MM → Prop} (hQ : ∀ (r : Int32) (M1 : MM), Eqo fp_E_custom M M1 → Q r M1) (hE : ∀ ce (M1 : MM), Eqo fp_E_custom M M1 → E ce M1) : W_E_custom p1 N M Q E := by
  unfold W_E_custom
  refine an_E_needNumber ?_ (fun ce => hE ce _ (eqo_rf _))
  refine an_World_become (fun M4 hM4 => ?_)
  refine an_E_custom_22   hQ hE N _ _ _ (eqo_tr (eqo_rf _) (fps_cons (i := 0) rfl (fps_cons (i := 1) rfl (fps_cons (i := 2) rfl (fps_cons (i := 3) rfl (fps_cons (i := 4) rfl (fps_cons (i := 5) rfl (fps_cons (i := 6) rfl (fps_cons (i := 7) rfl (fps_cons (i := 8) rfl (fps_cons (i := 9) rfl (fps_cons (i := 10) rfl (fps_cons (i := 11) rfl (fps_cons (i := 12) rfl (fps_cons (i := 13) rfl (fps_cons (i := 14) rfl (fps_cons (i := 15) rfl (fps_cons (i := 16) rfl (fps_cons (i := 17) rfl (fps_cons (i := 18) rfl (fps_cons (i := 19) rfl (fps_cons (i := 20) rfl (fps_cons (i := 21) rfl fps_nil)))))))))))))))))))))) hM4)
def fp_E_settles  : List (Nat × Nat × Option Nat) := [(30, 30, some 0), (30, 30, some 1), (31, 31, none), (32, 32, none), (33, 33, none), (34, 34, none), (35, 35, none), (36, 36, none), (37, 37, none), (38, 38, none), (39, 39, none), (30, 30, some 11), (30, 30, some 12), (30, 30, some 13), (30, 30, some 14), (30, 30, some 15), (30, 30, some 16), (30, 30, some 17), (30, 30, some 18), (41, 41, none), (40, 40, some 1), (40, 40, some 2)]
theorem an_E_settles_13 {M0 : MM} {Q : Int32 → MM → Prop} (hQ : ∀ (r : Int32) (M1 : MM), Eqo fp_E_settles M0 M1 → Q r M1) : ∀ (N : Nat) (v1 : Int32) (M : MM), Eqo fp_E_settles M0 M → W_E_settles_13 Q N v1 M := by
  refine I_E_settles_13 Q (fun _ M => Eqo fp_E_settles M0 M) (fun N ih v1 M hih hM => ?_)
  unfold B_E_settles_13
  refine ⟨fun _ => ?_, fun _ => ?_⟩
  · exact hQ _ _ hM
  · refine an_World_spreadFear (fun r4 M5 hM5 => ?_)
    refine ⟨fun _ => ?_, fun _ => ?_⟩
    · exact hQ _ _ (eqo_tr hM (fps_cons (i := 9) rfl fps_nil) hM5)
    · exact hih _ _ (eqo_tr hM (fps_cons (i := 9) rfl fps_nil) hM5)
theorem an_E_settles  {N : Nat} {M : MM} {Q : Int32 → MM → Prop} (hQ : ∀ (r : Int32) (M1 : MM), Eqo fp_E_settles M M1 → Q r M1) : W_E_settles  N M Q := by
  unfold W_E_settles
  refine an_World_become (fun M2 hM2 => ?_)
  refine an_E_settles_13   hQ N _ _ (eqo_tr (eqo_rf _) (fps_cons (i := 0) rfl (fps_cons (i := 1) rfl (fps_cons (i := 2) rfl (fps_cons (i := 3) rfl (fps_cons (i := 4) rfl (fps_cons (i := 5) rfl (fps_cons (i := 6) rfl (fps_cons (i := 7) rfl (fps_cons (i := 8) rfl (fps_cons (i := 9) rfl (fps_cons (i := 10) rfl (fps_cons (i := 11) rfl (fps_cons (i := 12) rfl (fps_cons (i := 13) rfl (fps_cons (i := 14) rfl (fps_cons (i := 15) rfl (fps_cons (i := 16) rfl (fps_cons (i := 17) rfl (fps_cons (i := 18) rfl (fps_cons (i := 19) rfl (fps_cons (i := 20) rfl (fps_cons (i := 21) rfl fps_nil)))))))))))))))))))))) hM2)
theorem an_E_provoked {p1 : Int32} {p2 : Int32} {N : Nat} {M : MM} {Q : Int32 → Prop} {E : Nat → Prop} (hQ : ∀ (r : Int32), Q r) (hE : ∀ ce, E ce) : W_E_provoked p1 p2 N M Q E := by
  unfold W_E_provoked
  refine an_E_needCitizen ?_ (fun ce => hE ce)
  refine an_E_needAlive ?_ (fun ce => hE ce)
  refine an_Inquiry_mostWorth (fun r5 => ?_)
  refine ⟨fun _ => ?_, fun _ => ?_⟩
  · refine an_Inquiry_worthOf (fun r8 => ?_)
    exact hQ _
  · refine an_Inquiry_mostWorth (fun r10 => ?_)
    refine ⟨fun _ => ?_, fun _ => ?_⟩
    · exact hQ _
    · refine an_Inquiry_worthOf (fun r13 => ?_)
      exact hQ _
theorem an_E_crowd {p1 : Int32} {p2 : Int32} {N : Nat} {M : MM} {Q : Int32 → Prop} {E : Nat → Prop} (hQ : ∀ (r : Int32), Q r) (hE : ∀ ce, E ce) : W_E_crowd p1 p2 N M Q E := by
  unfold W_E_crowd
  refine an_E_needIndex ?_ (fun ce => hE ce)
  refine an_E_needNumber ?_ (fun ce => hE ce)
  refine an_Inquiry_crowdAt (fun r5 => ?_)
  exact hQ _
theorem an_E_witnesses {p1 : Int32} {p2 : Int32} {p3 : Int32} {N : Nat} {M : MM} {Q : Int32 → Prop} {E : Nat → Prop} (hQ : ∀ (r : Int32), Q r) (hE : ∀ ce, E ce) : W_E_witnesses p1 p2 p3 N M Q E := by
  unfold W_E_witnesses
  refine an_E_needCitizen ?_ (fun ce => hE ce)
  refine an_E_needCitizen ?_ (fun ce => hE ce)
  refine an_E_needTwo ?_ (fun ce => hE ce)
  refine an_E_needNumber ?_ (fun ce => hE ce)
  refine an_Inquiry_meetings (fun r9 => ?_)
  exact hQ _
def fp_E_tryDays  : List (Nat × Nat × Option Nat) := [(30, 30, some 0), (30, 30, some 1), (31, 31, none), (32, 32, none), (33, 33, none), (34, 34, none), (35, 35, none), (36, 36, none), (37, 37, none), (38, 38, none), (39, 39, none), (30, 30, some 11), (30, 30, some 12), (30, 30, some 13), (30, 30, some 14), (30, 30, some 15), (30, 30, some 16), (30, 30, some 17), (30, 30, some 18), (41, 41, none), (40, 40, some 1), (40, 40, some 2)]
theorem an_E_tryDays_21 {M0 : MM} {p1 : Int32} {p2 : Int32} {Q : MM → Prop} (hQ : ∀  (M1 : MM), Eqo fp_E_tryDays M0 M1 → Q M1) : ∀ (N : Nat) (v3 : Int32) (M : MM), Eqo fp_E_tryDays M0 M → W_E_tryDays_21 p1 p2 Q N v3 M := by
  refine I_E_tryDays_21 p1 p2 Q (fun _ M => Eqo fp_E_tryDays M0 M) (fun N ih v3 M hih hM => ?_)
  unfold B_E_tryDays_21
  refine ⟨fun _ => ?_, fun _ => ?_⟩
  · refine an_World_passDay (fun M5 hM5 => ?_)
    exact hih _ _ (eqo_tr hM (fps_cons (i := 14) rfl (fps_cons (i := 18) rfl (fps_cons (i := 13) rfl (fps_cons (i := 8) rfl (fps_cons (i := 4) rfl (fps_cons (i := 17) rfl (fps_cons (i := 16) rfl (fps_cons (i := 19) rfl (fps_cons (i := 21) rfl (fps_cons (i := 20) rfl (fps_cons (i := 9) rfl fps_nil))))))))))) hM5)
  · exact hQ _ hM
theorem an_E_tryDays {p1 : Int32} {p2 : Int32} {N : Nat} {M : MM} {Q : MM → Prop} (hQ : ∀  (M1 : MM), Eqo fp_E_tryDays M M1 → Q M1) : W_E_tryDays p1 p2 N M Q := by
  unfold W_E_tryDays
  refine an_World_become (fun M2 hM2 => ?_)
  refine an_E_tryDays_21   hQ N _ _ (eqo_wi (eqo_tr (eqo_rf _) (fps_cons (i := 0) rfl (fps_cons (i := 1) rfl (fps_cons (i := 2) rfl (fps_cons (i := 3) rfl (fps_cons (i := 4) rfl (fps_cons (i := 5) rfl (fps_cons (i := 6) rfl (fps_cons (i := 7) rfl (fps_cons (i := 8) rfl (fps_cons (i := 9) rfl (fps_cons (i := 10) rfl (fps_cons (i := 11) rfl (fps_cons (i := 12) rfl (fps_cons (i := 13) rfl (fps_cons (i := 14) rfl (fps_cons (i := 15) rfl (fps_cons (i := 16) rfl (fps_cons (i := 17) rfl (fps_cons (i := 18) rfl (fps_cons (i := 19) rfl (fps_cons (i := 20) rfl (fps_cons (i := 21) rfl fps_nil)))))))))))))))))))))) hM2) (i := 14) rfl (Or.inr rfl))
def fp_E_trial  : List (Nat × Nat × Option Nat) := [(30, 30, some 0), (30, 30, some 1), (31, 31, none), (32, 32, none), (33, 33, none), (34, 34, none), (35, 35, none), (36, 36, none), (37, 37, none), (38, 38, none), (39, 39, none), (30, 30, some 11), (30, 30, some 12), (30, 30, some 13), (30, 30, some 14), (30, 30, some 15), (30, 30, some 16), (30, 30, some 17), (30, 30, some 18), (41, 41, none), (40, 40, some 1), (40, 40, some 2)]
theorem an_E_trial {p1 : Int32} {p2 : Int32} {N : Nat} {M : MM} {Q : Int32 → MM → Prop} {E : Nat → MM → Prop} (hQ : ∀ (r : Int32) (M1 : MM), Eqo fp_E_trial M M1 → Q r M1) (hE : ∀ ce (M1 : MM), Eqo fp_E_trial M M1 → E ce M1) : W_E_trial p1 p2 N M Q E := by
  unfold W_E_trial
  refine an_E_needNumber ?_ (fun ce => hE ce _ (eqo_rf _))
  refine ⟨fun _ => ?_, fun _ => ?_⟩
  · exact hE _ _ (eqo_rf _)
  · refine ⟨fun _ => ?_, fun _ => ?_⟩
    · exact hE _ _ (eqo_rf _)
    · refine an_E_tryDays (fun M6 hM6 => ?_)
      refine ⟨?_, ?_, ?_, ?_⟩
      · intro _
        exact hQ _ _ (eqo_tr (eqo_rf _) (fps_cons (i := 0) rfl (fps_cons (i := 1) rfl (fps_cons (i := 2) rfl (fps_cons (i := 3) rfl (fps_cons (i := 4) rfl (fps_cons (i := 5) rfl (fps_cons (i := 6) rfl (fps_cons (i := 7) rfl (fps_cons (i := 8) rfl (fps_cons (i := 9) rfl (fps_cons (i := 10) rfl (fps_cons (i := 11) rfl (fps_cons (i := 12) rfl (fps_cons (i := 13) rfl (fps_cons (i := 14) rfl (fps_cons (i := 15) rfl (fps_cons (i := 16) rfl (fps_cons (i := 17) rfl (fps_cons (i := 18) rfl (fps_cons (i := 19) rfl (fps_cons (i := 20) rfl (fps_cons (i := 21) rfl fps_nil)))))))))))))))))))))) hM6)
      · intro _
        exact hQ _ _ (eqo_tr (eqo_rf _) (fps_cons (i := 0) rfl (fps_cons (i := 1) rfl (fps_cons (i := 2) rfl (fps_cons (i := 3) rfl (fps_cons (i := 4) rfl (fps_cons (i := 5) rfl (fps_cons (i := 6) rfl (fps_cons (i := 7) rfl (fps_cons (i := 8) rfl (fps_cons (i := 9) rfl (fps_cons (i := 10) rfl (fps_cons (i := 11) rfl (fps_cons (i := 12) rfl (fps_cons (i := 13) rfl (fps_cons (i := 14) rfl (fps_cons (i := 15) rfl (fps_cons (i := 16) rfl (fps_cons (i := 17) rfl (fps_cons (i := 18) rfl (fps_cons (i := 19) rfl (fps_cons (i := 20) rfl (fps_cons (i := 21) rfl fps_nil)))))))))))))))))))))) hM6)
      · intro _
        refine an_World_takenOnes (fun r10 => ?_)
        exact hQ _ _ (eqo_tr (eqo_rf _) (fps_cons (i := 0) rfl (fps_cons (i := 1) rfl (fps_cons (i := 2) rfl (fps_cons (i := 3) rfl (fps_cons (i := 4) rfl (fps_cons (i := 5) rfl (fps_cons (i := 6) rfl (fps_cons (i := 7) rfl (fps_cons (i := 8) rfl (fps_cons (i := 9) rfl (fps_cons (i := 10) rfl (fps_cons (i := 11) rfl (fps_cons (i := 12) rfl (fps_cons (i := 13) rfl (fps_cons (i := 14) rfl (fps_cons (i := 15) rfl (fps_cons (i := 16) rfl (fps_cons (i := 17) rfl (fps_cons (i := 18) rfl (fps_cons (i := 19) rfl (fps_cons (i := 20) rfl (fps_cons (i := 21) rfl fps_nil)))))))))))))))))))))) hM6)
      · intro _ _ _
        refine an_World_seenInSum (fun r8 => ?_)
        exact hQ _ _ (eqo_tr (eqo_rf _) (fps_cons (i := 0) rfl (fps_cons (i := 1) rfl (fps_cons (i := 2) rfl (fps_cons (i := 3) rfl (fps_cons (i := 4) rfl (fps_cons (i := 5) rfl (fps_cons (i := 6) rfl (fps_cons (i := 7) rfl (fps_cons (i := 8) rfl (fps_cons (i := 9) rfl (fps_cons (i := 10) rfl (fps_cons (i := 11) rfl (fps_cons (i := 12) rfl (fps_cons (i := 13) rfl (fps_cons (i := 14) rfl (fps_cons (i := 15) rfl (fps_cons (i := 16) rfl (fps_cons (i := 17) rfl (fps_cons (i := 18) rfl (fps_cons (i := 19) rfl (fps_cons (i := 20) rfl (fps_cons (i := 21) rfl fps_nil)))))))))))))))))))))) hM6)
def fp_E_span  : List (Nat × Nat × Option Nat) := [(30, 30, some 0), (30, 30, some 1), (31, 31, none), (32, 32, none), (33, 33, none), (34, 34, none), (35, 35, none), (36, 36, none), (37, 37, none), (38, 38, none), (39, 39, none), (30, 30, some 11), (30, 30, some 12), (30, 30, some 13), (30, 30, some 14), (30, 30, some 15), (30, 30, some 16), (30, 30, some 17), (30, 30, some 18), (41, 41, none), (40, 40, some 1), (40, 40, some 2)]
theorem an_E_span_12 {M0 : MM} {p1 : Int32} {p2 : Int32} {Q : Int32 → MM → Prop} {E : Nat → MM → Prop} (hQ : ∀ (r : Int32) (M1 : MM), Eqo fp_E_span M0 M1 → Q r M1) (hE : ∀ ce (M1 : MM), Eqo fp_E_span M0 M1 → E ce M1) : ∀ (N : Nat) (v3 : Int32) (v4 : Int32) (M : MM), Eqo fp_E_span M0 M → W_E_span_12 p1 p2 Q E N v3 v4 M := by
  refine I_E_span_12 p1 p2 Q E (fun _ _ M => Eqo fp_E_span M0 M) (fun N ih v3 v4 M hih hM => ?_)
  unfold B_E_span_12
  refine ⟨fun _ => ?_, fun _ => ?_⟩
  · exact hQ _ _ hM
  · refine an_E_tryDays (fun M5 hM5 => ?_)
    refine ⟨fun _ => ?_, fun _ => ?_⟩
    · exact hih _ _ _ (eqo_tr hM (fps_cons (i := 0) rfl (fps_cons (i := 1) rfl (fps_cons (i := 2) rfl (fps_cons (i := 3) rfl (fps_cons (i := 4) rfl (fps_cons (i := 5) rfl (fps_cons (i := 6) rfl (fps_cons (i := 7) rfl (fps_cons (i := 8) rfl (fps_cons (i := 9) rfl (fps_cons (i := 10) rfl (fps_cons (i := 11) rfl (fps_cons (i := 12) rfl (fps_cons (i := 13) rfl (fps_cons (i := 14) rfl (fps_cons (i := 15) rfl (fps_cons (i := 16) rfl (fps_cons (i := 17) rfl (fps_cons (i := 18) rfl (fps_cons (i := 19) rfl (fps_cons (i := 20) rfl (fps_cons (i := 21) rfl fps_nil)))))))))))))))))))))) hM5)
    · refine ⟨fun _ => ?_, fun _ => ?_⟩
      · refine ⟨fun _ => ?_, fun _ => ?_⟩
        · exact hih _ _ _ (eqo_tr hM (fps_cons (i := 0) rfl (fps_cons (i := 1) rfl (fps_cons (i := 2) rfl (fps_cons (i := 3) rfl (fps_cons (i := 4) rfl (fps_cons (i := 5) rfl (fps_cons (i := 6) rfl (fps_cons (i := 7) rfl (fps_cons (i := 8) rfl (fps_cons (i := 9) rfl (fps_cons (i := 10) rfl (fps_cons (i := 11) rfl (fps_cons (i := 12) rfl (fps_cons (i := 13) rfl (fps_cons (i := 14) rfl (fps_cons (i := 15) rfl (fps_cons (i := 16) rfl (fps_cons (i := 17) rfl (fps_cons (i := 18) rfl (fps_cons (i := 19) rfl (fps_cons (i := 20) rfl (fps_cons (i := 21) rfl fps_nil)))))))))))))))))))))) hM5)
        · exact hih _ _ _ (eqo_tr hM (fps_cons (i := 0) rfl (fps_cons (i := 1) rfl (fps_cons (i := 2) rfl (fps_cons (i := 3) rfl (fps_cons (i := 4) rfl (fps_cons (i := 5) rfl (fps_cons (i := 6) rfl (fps_cons (i := 7) rfl (fps_cons (i := 8) rfl (fps_cons (i := 9) rfl (fps_cons (i := 10) rfl (fps_cons (i := 11) rfl (fps_cons (i := 12) rfl (fps_cons (i := 13) rfl (fps_cons (i := 14) rfl (fps_cons (i := 15) rfl (fps_cons (i := 16) rfl (fps_cons (i := 17) rfl (fps_cons (i := 18) rfl (fps_cons (i := 19) rfl (fps_cons (i := 20) rfl (fps_cons (i := 21) rfl fps_nil)))))))))))))))))))))) hM5)
      · refine ⟨fun _ => ?_, fun _ => ?_⟩
        · exact hih _ _ _ (eqo_tr hM (fps_cons (i := 0) rfl (fps_cons (i := 1) rfl (fps_cons (i := 2) rfl (fps_cons (i := 3) rfl (fps_cons (i := 4) rfl (fps_cons (i := 5) rfl (fps_cons (i := 6) rfl (fps_cons (i := 7) rfl (fps_cons (i := 8) rfl (fps_cons (i := 9) rfl (fps_cons (i := 10) rfl (fps_cons (i := 11) rfl (fps_cons (i := 12) rfl (fps_cons (i := 13) rfl (fps_cons (i := 14) rfl (fps_cons (i := 15) rfl (fps_cons (i := 16) rfl (fps_cons (i := 17) rfl (fps_cons (i := 18) rfl (fps_cons (i := 19) rfl (fps_cons (i := 20) rfl (fps_cons (i := 21) rfl fps_nil)))))))))))))))))))))) hM5)
        · exact hih _ _ _ (eqo_tr hM (fps_cons (i := 0) rfl (fps_cons (i := 1) rfl (fps_cons (i := 2) rfl (fps_cons (i := 3) rfl (fps_cons (i := 4) rfl (fps_cons (i := 5) rfl (fps_cons (i := 6) rfl (fps_cons (i := 7) rfl (fps_cons (i := 8) rfl (fps_cons (i := 9) rfl (fps_cons (i := 10) rfl (fps_cons (i := 11) rfl (fps_cons (i := 12) rfl (fps_cons (i := 13) rfl (fps_cons (i := 14) rfl (fps_cons (i := 15) rfl (fps_cons (i := 16) rfl (fps_cons (i := 17) rfl (fps_cons (i := 18) rfl (fps_cons (i := 19) rfl (fps_cons (i := 20) rfl (fps_cons (i := 21) rfl fps_nil)))))))))))))))))))))) hM5)
theorem an_E_span {p1 : Int32} {p2 : Int32} {N : Nat} {M : MM} {Q : Int32 → MM → Prop} {E : Nat → MM → Prop} (hQ : ∀ (r : Int32) (M1 : MM), Eqo fp_E_span M M1 → Q r M1) (hE : ∀ ce (M1 : MM), Eqo fp_E_span M M1 → E ce M1) : W_E_span p1 p2 N M Q E := by
  unfold W_E_span
  refine an_E_needNumber ?_ (fun ce => hE ce _ (eqo_rf _))
  refine an_E_span_12   hQ hE N _ _ _ (eqo_rf _)
def fp_E_first  : List (Nat × Nat × Option Nat) := [(30, 30, some 0), (30, 30, some 1), (31, 31, none), (32, 32, none), (33, 33, none), (34, 34, none), (35, 35, none), (36, 36, none), (37, 37, none), (38, 38, none), (39, 39, none), (30, 30, some 11), (30, 30, some 12), (30, 30, some 13), (30, 30, some 14), (30, 30, some 15), (30, 30, some 16), (30, 30, some 17), (30, 30, some 18), (41, 41, none), (40, 40, some 1), (40, 40, some 2)]
theorem an_E_first_13 {M0 : MM} {Q : Int32 → MM → Prop} (hQ : ∀ (r : Int32) (M1 : MM), Eqo fp_E_first M0 M1 → Q r M1) : ∀ (N : Nat) (v1 : Int32) (M : MM), Eqo fp_E_first M0 M → W_E_first_13 Q N v1 M := by
  refine I_E_first_13 Q (fun _ M => Eqo fp_E_first M0 M) (fun N ih v1 M hih hM => ?_)
  unfold B_E_first_13
  refine ⟨fun _ => ?_, fun _ => ?_⟩
  · exact hQ _ _ hM
  · refine an_World_passDay (fun M5 hM5 => ?_)
    refine ⟨fun _ => ?_, fun _ => ?_⟩
    · exact hih _ _ (eqo_tr hM (fps_cons (i := 14) rfl (fps_cons (i := 18) rfl (fps_cons (i := 13) rfl (fps_cons (i := 8) rfl (fps_cons (i := 4) rfl (fps_cons (i := 17) rfl (fps_cons (i := 16) rfl (fps_cons (i := 19) rfl (fps_cons (i := 21) rfl (fps_cons (i := 20) rfl (fps_cons (i := 9) rfl fps_nil))))))))))) hM5)
    · exact hQ _ _ (eqo_tr hM (fps_cons (i := 14) rfl (fps_cons (i := 18) rfl (fps_cons (i := 13) rfl (fps_cons (i := 8) rfl (fps_cons (i := 4) rfl (fps_cons (i := 17) rfl (fps_cons (i := 16) rfl (fps_cons (i := 19) rfl (fps_cons (i := 21) rfl (fps_cons (i := 20) rfl (fps_cons (i := 9) rfl fps_nil))))))))))) hM5)
theorem an_E_first  {N : Nat} {M : MM} {Q : Int32 → MM → Prop} (hQ : ∀ (r : Int32) (M1 : MM), Eqo fp_E_first M M1 → Q r M1) : W_E_first  N M Q := by
  unfold W_E_first
  refine an_World_become (fun M2 hM2 => ?_)
  refine an_E_first_13   hQ N _ _ (eqo_tr (eqo_rf _) (fps_cons (i := 0) rfl (fps_cons (i := 1) rfl (fps_cons (i := 2) rfl (fps_cons (i := 3) rfl (fps_cons (i := 4) rfl (fps_cons (i := 5) rfl (fps_cons (i := 6) rfl (fps_cons (i := 7) rfl (fps_cons (i := 8) rfl (fps_cons (i := 9) rfl (fps_cons (i := 10) rfl (fps_cons (i := 11) rfl (fps_cons (i := 12) rfl (fps_cons (i := 13) rfl (fps_cons (i := 14) rfl (fps_cons (i := 15) rfl (fps_cons (i := 16) rfl (fps_cons (i := 17) rfl (fps_cons (i := 18) rfl (fps_cons (i := 19) rfl (fps_cons (i := 20) rfl (fps_cons (i := 21) rfl fps_nil)))))))))))))))))))))) hM2)
theorem an_E_led {p1 : Int32} {N : Nat} {M : MM} {Q : Int32 → Prop} {E : Nat → Prop} (hQ : ∀ (r : Int32), Q r) (hE : ∀ ce, E ce) : W_E_led p1 N M Q E := by
  unfold W_E_led
  refine ⟨fun _ => ?_, fun _ => ?_⟩
  · refine an_Log_clausesOf (fun r2 => ?_)
    exact hQ _
  · refine an_E_needCitizen ?_ (fun ce => hE ce)
    refine an_Log_clausesOf (fun r6 => ?_)
    exact hQ _
theorem an_E_worst  {N : Nat} {M : MM} {Q : Int32 → Prop} (hQ : ∀ (r : Int32), Q r) : W_E_worst  N M Q := by
  unfold W_E_worst
  refine an_Log_mostFrequentClause (fun r1 => ?_)
  exact hQ _
theorem an_E_log {p1 : Int32} {p2 : Int32} {N : Nat} {M : MM} {Q : Int32 → Prop} {E : Nat → Prop} (hQ : ∀ (r : Int32), Q r) (hE : ∀ ce, E ce) : W_E_log p1 p2 N M Q E := by
  unfold W_E_log
  refine ⟨fun _ => ?_, fun _ => ?_⟩
  · exact hE _
  · refine ⟨fun _ => ?_, fun _ => ?_⟩
    · exact hQ _
    · exact hE _
def fp_E_seed  : List (Nat × Nat × Option Nat) := [(18, 18, some 14)]
theorem an_E_seed {p1 : Int32} {N : Nat} {M : MM} {Q : Int32 → MM → Prop} (hQ : ∀ (r : Int32) (M1 : MM), Eqo fp_E_seed M M1 → Q r M1) : W_E_seed p1 N M Q := by
  unfold W_E_seed
  exact hQ _ _ (eqo_wi (eqo_rf _) (i := 0) rfl (Or.inr rfl))
def fp_E_undo  : List (Nat × Nat × Option Nat) := [(44, 44, some 1), (44, 44, some 2), (18, 18, some 0), (18, 18, some 1), (19, 19, none), (20, 20, none), (21, 21, none), (22, 22, none), (23, 23, none), (24, 24, none), (25, 25, none), (26, 26, none), (27, 27, none), (18, 18, some 11), (18, 18, some 12), (18, 18, some 13), (18, 18, some 14), (18, 18, some 15), (18, 18, some 16), (18, 18, some 17), (18, 18, some 18), (29, 29, none), (28, 28, some 1), (28, 28, some 2)]
theorem an_E_undo  {N : Nat} {M : MM} {Q : Int32 → MM → Prop} (hQ : ∀ (r : Int32) (M1 : MM), Eqo fp_E_undo M M1 → Q r M1) : W_E_undo  N M Q := by
  unfold W_E_undo
  refine an_Memory_takeBack (fun r1 M2 hM2 => ?_)
  exact hQ _ _ (eqo_tr (eqo_rf _) (fps_cons (i := 0) rfl (fps_cons (i := 1) rfl (fps_cons (i := 2) rfl (fps_cons (i := 3) rfl (fps_cons (i := 4) rfl (fps_cons (i := 5) rfl (fps_cons (i := 6) rfl (fps_cons (i := 7) rfl (fps_cons (i := 8) rfl (fps_cons (i := 9) rfl (fps_cons (i := 10) rfl (fps_cons (i := 11) rfl (fps_cons (i := 12) rfl (fps_cons (i := 13) rfl (fps_cons (i := 14) rfl (fps_cons (i := 15) rfl (fps_cons (i := 16) rfl (fps_cons (i := 17) rfl (fps_cons (i := 18) rfl (fps_cons (i := 19) rfl (fps_cons (i := 20) rfl (fps_cons (i := 21) rfl (fps_cons (i := 22) rfl (fps_cons (i := 23) rfl fps_nil)))))))))))))))))))))))) hM2)
def fp_E_image  : List (Nat × Nat × Option Nat) := [(173, 173, some 0), (173, 173, some 1), (173, 173, some 2), (173, 173, some 6), (173, 173, some 8), (174, 174, none), (175, 175, none), (176, 176, none), (177, 177, none), (178, 178, some 0), (178, 178, some 1), (179, 179, none), (180, 180, none), (181, 181, none), (182, 182, none), (183, 183, none), (184, 184, none), (185, 185, none), (186, 186, none), (187, 187, none), (178, 178, some 11), (178, 178, some 12), (178, 178, some 13), (178, 178, some 14), (178, 178, some 15), (178, 178, some 16), (178, 178, some 17), (178, 178, some 18), (189, 189, none), (188, 188, some 1), (188, 188, some 2), (0, 0, some 14)]
theorem an_E_image  {N : Nat} {M : MM} {Q : MM → Prop} (hQ : ∀  (M1 : MM), Eqo fp_E_image M M1 → Q M1) : W_E_image  N M Q := by
  unfold W_E_image
  refine an_Law_become (fun M2 hM2 => ?_)
  refine an_World_become (fun M4 hM4 => ?_)
  exact hQ _ (eqo_wi (eqo_tr (eqo_tr (eqo_rf _) (fps_cons (i := 0) rfl (fps_cons (i := 1) rfl (fps_cons (i := 2) rfl (fps_cons (i := 3) rfl (fps_cons (i := 4) rfl (fps_cons (i := 5) rfl (fps_cons (i := 6) rfl (fps_cons (i := 7) rfl (fps_cons (i := 8) rfl fps_nil))))))))) hM2) (fps_cons (i := 9) rfl (fps_cons (i := 10) rfl (fps_cons (i := 11) rfl (fps_cons (i := 12) rfl (fps_cons (i := 13) rfl (fps_cons (i := 14) rfl (fps_cons (i := 15) rfl (fps_cons (i := 16) rfl (fps_cons (i := 17) rfl (fps_cons (i := 18) rfl (fps_cons (i := 19) rfl (fps_cons (i := 20) rfl (fps_cons (i := 21) rfl (fps_cons (i := 22) rfl (fps_cons (i := 23) rfl (fps_cons (i := 24) rfl (fps_cons (i := 25) rfl (fps_cons (i := 26) rfl (fps_cons (i := 27) rfl (fps_cons (i := 28) rfl (fps_cons (i := 29) rfl (fps_cons (i := 30) rfl fps_nil)))))))))))))))))))))) hM4) (i := 31) rfl (Or.inr rfl))
def fp_E_back  : List (Nat × Nat × Option Nat) := [(8, 8, some 0), (8, 8, some 1), (8, 8, some 2), (8, 8, some 6), (8, 8, some 8), (9, 9, none), (10, 10, none), (11, 11, none), (12, 12, none), (18, 18, some 0), (18, 18, some 1), (19, 19, none), (20, 20, none), (21, 21, none), (22, 22, none), (23, 23, none), (24, 24, none), (25, 25, none), (26, 26, none), (27, 27, none), (18, 18, some 11), (18, 18, some 12), (18, 18, some 13), (18, 18, some 14), (18, 18, some 15), (18, 18, some 16), (18, 18, some 17), (18, 18, some 18), (29, 29, none), (28, 28, some 1), (28, 28, some 2), (44, 44, some 2)]
theorem an_E_back  {N : Nat} {M : MM} {Q : Int32 → MM → Prop} (hQ : ∀ (r : Int32) (M1 : MM), Eqo fp_E_back M M1 → Q r M1) : W_E_back  N M Q := by
  unfold W_E_back
  refine ⟨fun _ => ?_, fun _ => ?_⟩
  · exact hQ _ _ (eqo_rf _)
  · refine an_Law_become (fun M3 hM3 => ?_)
    refine an_World_become (fun M5 hM5 => ?_)
    refine an_Memory_forget (fun M7 hM7 => ?_)
    exact hQ _ _ (eqo_tr (eqo_tr (eqo_tr (eqo_rf _) (fps_cons (i := 0) rfl (fps_cons (i := 1) rfl (fps_cons (i := 2) rfl (fps_cons (i := 3) rfl (fps_cons (i := 4) rfl (fps_cons (i := 5) rfl (fps_cons (i := 6) rfl (fps_cons (i := 7) rfl (fps_cons (i := 8) rfl fps_nil))))))))) hM3) (fps_cons (i := 9) rfl (fps_cons (i := 10) rfl (fps_cons (i := 11) rfl (fps_cons (i := 12) rfl (fps_cons (i := 13) rfl (fps_cons (i := 14) rfl (fps_cons (i := 15) rfl (fps_cons (i := 16) rfl (fps_cons (i := 17) rfl (fps_cons (i := 18) rfl (fps_cons (i := 19) rfl (fps_cons (i := 20) rfl (fps_cons (i := 21) rfl (fps_cons (i := 22) rfl (fps_cons (i := 23) rfl (fps_cons (i := 24) rfl (fps_cons (i := 25) rfl (fps_cons (i := 26) rfl (fps_cons (i := 27) rfl (fps_cons (i := 28) rfl (fps_cons (i := 29) rfl (fps_cons (i := 30) rfl fps_nil)))))))))))))))))))))) hM5) (fps_cons (i := 31) rfl fps_nil) hM7)
theorem an_E_count {p1 : Int32} {N : Nat} {M : MM} {Q : Int32 → Prop} (hQ : ∀ (r : Int32), Q r) : W_E_count p1 N M Q := by
  unfold W_E_count
  refine ⟨?_, ?_, ?_, ?_, ?_, ?_, ?_, ?_, ?_, ?_, ?_, ?_, ?_, ?_, ?_⟩
  · intro _
    refine ⟨fun _ => ?_, fun _ => ?_⟩
    · exact hQ _
    · exact hQ _
  · intro _
    exact hQ _
  · intro _
    exact hQ _
  · intro _
    exact hQ _
  · intro _
    exact hQ _
  · intro _
    refine an_World_inForce (fun r3 => ?_)
    exact hQ _
  · intro _
    refine an_World_takenOnes (fun r5 => ?_)
    exact hQ _
  · intro _
    exact hQ _
  · intro _
    exact hQ _
  · intro _
    exact hQ _
  · intro _
    exact hQ _
  · intro _
    exact hQ _
  · intro _
    exact hQ _
  · intro _
    exact hQ _
  · intro _ _ _ _ _ _ _ _ _ _ _ _ _ _
    exact hQ _
def fp_m_throwsIf  : List (Nat × Nat × Option Nat) := [(190, 190, some 0)]
theorem an_m_throwsIf {p1 : Int32} {p2 : Int32} {N : Nat} {M : MM} {Q : Int32 → MM → Prop} (hQ : ∀ (r : Int32) (M1 : MM), Eqo fp_m_throwsIf M M1 → Q r M1) : W_m_throwsIf p1 p2 N M Q := by
  unfold W_m_throwsIf
  refine ⟨fun _ => ?_, fun _ => ?_⟩
  · exact hQ _ _ (eqo_rf _)
  · exact hQ _ _ (eqo_wi (eqo_rf _) (i := 0) rfl (Or.inr rfl))
def fp_m_likens (a : Nat) (b : Nat) : List (Nat × Nat × Option Nat) := [(b, b, none)]
theorem an_m_likens_3 {M0 : MM} {a : Nat} {p1 : Int32} {b : Nat} {p3 : Int32} {Q : MM → Prop} (hQ : ∀  (M1 : MM), Eqo (fp_m_likens a b) M0 M1 → Q M1) : ∀ (N : Nat) (v4 : Int32) (M : MM), Eqo (fp_m_likens a b) M0 M → W_m_likens_3 a p1 b p3 Q N v4 M := by
  refine I_m_likens_3 a p1 b p3 Q (fun _ M => Eqo (fp_m_likens a b) M0 M) (fun N ih v4 M hih hM => ?_)
  unfold B_m_likens_3
  refine ⟨fun _ => ?_, fun _ => ?_⟩
  · exact hih _ _ (eqo_wi hM (i := 0) rfl (Or.inl rfl))
  · exact hQ _ hM
theorem an_m_likens {a : Nat} {p1 : Int32} {b : Nat} {p3 : Int32} {N : Nat} {M : MM} {Q : MM → Prop} (hQ : ∀  (M1 : MM), Eqo (fp_m_likens a b) M M1 → Q M1) : W_m_likens a p1 b p3 N M Q := by
  unfold W_m_likens
  refine an_m_likens_3   hQ N _ _ (eqo_rf _)
def fp_m_likensSeen (a : Nat) (b : Nat) : List (Nat × Nat × Option Nat) := [(b, b, none)]
theorem an_m_likensSeen_3 {M0 : MM} {a : Nat} {p1 : Int32} {b : Nat} {p3 : Int32} {Q : MM → Prop} (hQ : ∀  (M1 : MM), Eqo (fp_m_likensSeen a b) M0 M1 → Q M1) : ∀ (N : Nat) (v4 : Int32) (M : MM), Eqo (fp_m_likensSeen a b) M0 M → W_m_likensSeen_3 a p1 b p3 Q N v4 M := by
  refine I_m_likensSeen_3 a p1 b p3 Q (fun _ M => Eqo (fp_m_likensSeen a b) M0 M) (fun N ih v4 M hih hM => ?_)
  unfold B_m_likensSeen_3
  refine ⟨fun _ => ?_, fun _ => ?_⟩
  · exact hih _ _ (eqo_wj hM (i := 0) rfl (Or.inl rfl))
  · exact hQ _ hM
theorem an_m_likensSeen {a : Nat} {p1 : Int32} {b : Nat} {p3 : Int32} {N : Nat} {M : MM} {Q : MM → Prop} (hQ : ∀  (M1 : MM), Eqo (fp_m_likensSeen a b) M M1 → Q M1) : W_m_likensSeen a p1 b p3 N M Q := by
  unfold W_m_likensSeen
  refine an_m_likensSeen_3   hQ N _ _ (eqo_rf _)
def fp_m_image  : List (Nat × Nat × Option Nat) := [(190, 190, some 0), (192, 192, none), (197, 197, none), (190, 190, some 16), (190, 190, some 11)]
theorem an_m_image  {N : Nat} {M : MM} {Q : MM → Prop} (hQ : ∀  (M1 : MM), Eqo fp_m_image M M1 → Q M1) : W_m_image  N M Q := by
  unfold W_m_image
  refine an_m_likens (fun M2 hM2 => ?_)
  refine an_m_likensSeen (fun M4 hM4 => ?_)
  exact hQ _ (eqo_wi (eqo_wi (eqo_tr (eqo_tr (eqo_wi (eqo_rf _) (i := 0) rfl (Or.inr rfl)) (fps_cons (i := 1) rfl fps_nil) hM2) (fps_cons (i := 2) rfl fps_nil) hM4) (i := 3) rfl (Or.inr rfl)) (i := 4) rfl (Or.inr rfl))
def fp_m_back  : List (Nat × Nat × Option Nat) := [(190, 190, some 0), (191, 191, none), (196, 196, none), (190, 190, some 15), (190, 190, some 12)]
theorem an_m_back  {N : Nat} {M : MM} {Q : Int32 → MM → Prop} (hQ : ∀ (r : Int32) (M1 : MM), Eqo fp_m_back M M1 → Q r M1) : W_m_back  N M Q := by
  unfold W_m_back
  refine ⟨fun _ => ?_, fun _ => ?_⟩
  · exact hQ _ _ (eqo_wi (eqo_rf _) (i := 0) rfl (Or.inr rfl))
  · refine an_m_likens (fun M3 hM3 => ?_)
    refine an_m_likensSeen (fun M5 hM5 => ?_)
    exact hQ _ _ (eqo_wi (eqo_wi (eqo_tr (eqo_tr (eqo_wi (eqo_rf _) (i := 0) rfl (Or.inr rfl)) (fps_cons (i := 1) rfl fps_nil) hM3) (fps_cons (i := 2) rfl fps_nil) hM5) (i := 3) rfl (Or.inr rfl)) (i := 4) rfl (Or.inr rfl))
def fp_m_remembers  : List (Nat × Nat × Option Nat) := [(190, 190, some 12), (195, 195, none), (200, 200, none)]
theorem an_m_remembers_2 {M0 : MM} {k67 : MM → Prop} {Q : MM → Prop} (hk67 : ∀  (M : MM), Eqo fp_m_remembers M0 M → k67 M) (hQ : ∀  (M1 : MM), Eqo fp_m_remembers M0 M1 → Q M1) : ∀ (N : Nat) (v1 : Int32) (M : MM), Eqo fp_m_remembers M0 M → W_m_remembers_2 k67 Q N v1 M := by
  refine I_m_remembers_2 k67 Q (fun _ M => Eqo fp_m_remembers M0 M) (fun N ih v1 M hih hM => ?_)
  unfold B_m_remembers_2
  refine ⟨fun _ => ?_, fun _ => ?_⟩
  · refine ⟨fun _ => ?_, fun _ => ?_⟩
    · refine an_m_likens (fun M4 hM4 => ?_)
      refine an_m_likensSeen (fun M6 hM6 => ?_)
      exact hih _ _ (eqo_tr (eqo_tr hM (fps_cons (i := 1) rfl fps_nil) hM4) (fps_cons (i := 2) rfl fps_nil) hM6)
    · exact hk67 _ hM
  · exact hk67 _ hM
theorem an_m_remembers  {N : Nat} {M : MM} {Q : MM → Prop} (hQ : ∀  (M1 : MM), Eqo fp_m_remembers M M1 → Q M1) : W_m_remembers  N M Q := by
  unfold W_m_remembers
  refine an_m_remembers_2  (fun M7 hMM7 => ?_) hQ N _ _ (eqo_rf _)
  · refine an_m_likens (fun M9 hM9 => ?_)
    refine an_m_likensSeen (fun M11 hM11 => ?_)
    exact hQ _ (eqo_tr (eqo_tr (eqo_wi hMM7 (i := 0) rfl (Or.inr rfl)) (fps_cons (i := 1) rfl fps_nil) hM9) (fps_cons (i := 2) rfl fps_nil) hM11)
def fp_m_undo  : List (Nat × Nat × Option Nat) := [(190, 190, some 0), (190, 190, some 12), (191, 191, none), (196, 196, none)]
theorem an_m_undo  {N : Nat} {M : MM} {Q : Int32 → MM → Prop} (hQ : ∀ (r : Int32) (M1 : MM), Eqo fp_m_undo M M1 → Q r M1) : W_m_undo  N M Q := by
  unfold W_m_undo
  refine ⟨fun _ => ?_, fun _ => ?_⟩
  · exact hQ _ _ (eqo_wi (eqo_rf _) (i := 0) rfl (Or.inr rfl))
  · refine an_m_likens (fun M3 hM3 => ?_)
    refine an_m_likensSeen (fun M5 hM5 => ?_)
    exact hQ _ _ (eqo_tr (eqo_tr (eqo_wi (eqo_wi (eqo_rf _) (i := 0) rfl (Or.inr rfl)) (i := 1) rfl (Or.inr rfl)) (fps_cons (i := 2) rfl fps_nil) hM3) (fps_cons (i := 3) rfl fps_nil) hM5)
def fp_m_sets  : List (Nat × Nat × Option Nat) := [(191, 191, none)]
theorem an_m_sets {p1 : Int32} {p2 : Int32} {p3 : Int32} {N : Nat} {M : MM} {Q : MM → Prop} (hQ : ∀  (M1 : MM), Eqo fp_m_sets M M1 → Q M1) : W_m_sets p1 p2 p3 N M Q := by
  unfold W_m_sets
  exact hQ _ (eqo_wi (eqo_rf _) (i := 0) rfl (Or.inl rfl))
def fp_m_draw  : List (Nat × Nat × Option Nat) := [(191, 191, none)]
theorem an_m_draw {p1 : Int32} {N : Nat} {M : MM} {Q : Int32 → MM → Prop} (hQ : ∀ (r : Int32) (M1 : MM), Eqo fp_m_draw M M1 → Q r M1) : W_m_draw p1 N M Q := by
  unfold W_m_draw
  exact hQ _ _ (eqo_wi (eqo_rf _) (i := 0) rfl (Or.inl rfl))
def fp_m_feed  : List (Nat × Nat × Option Nat) := [(190, 190, some 0), (204, 204, none), (190, 190, some 18), (203, 203, none)]
theorem an_m_feed_60 {M0 : MM} {p1 : Int32} {p2 : Int32} {p3 : Int32} {p4 : Int32} {p5 : Int32} {Q : Int32 → MM → Prop} (hQ : ∀ (r : Int32) (M1 : MM), Eqo fp_m_feed M0 M1 → Q r M1) : ∀ (N : Nat) (v6 : Int32) (M : MM), Eqo fp_m_feed M0 M → W_m_feed_60 p1 p2 p3 p4 p5 Q N v6 M := by
  refine I_m_feed_60 p1 p2 p3 p4 p5 Q (fun _ M => Eqo fp_m_feed M0 M) (fun N ih v6 M hih hM => ?_)
  unfold B_m_feed_60
  refine ⟨fun _ => ?_, fun _ => ?_⟩
  · exact hih _ _ (eqo_wi hM (i := 3) rfl (Or.inl rfl))
  · exact hQ _ _ (eqo_wi hM (i := 2) rfl (Or.inr rfl))
theorem an_m_feed {p1 : Int32} {p2 : Int32} {p3 : Int32} {p4 : Int32} {p5 : Int32} {N : Nat} {M : MM} {Q : Int32 → MM → Prop} (hQ : ∀ (r : Int32) (M1 : MM), Eqo fp_m_feed M M1 → Q r M1) : W_m_feed p1 p2 p3 p4 p5 N M Q := by
  unfold W_m_feed
  refine ⟨fun _ => ?_, fun _ => ?_⟩
  · exact hQ _ _ (eqo_wi (eqo_rf _) (i := 0) rfl (Or.inr rfl))
  · refine an_m_feed_60   hQ N _ _ (eqo_wi (eqo_wi (eqo_wi (eqo_wi (eqo_wi (eqo_wi (eqo_rf _) (i := 0) rfl (Or.inr rfl)) (i := 1) rfl (Or.inl rfl)) (i := 1) rfl (Or.inl rfl)) (i := 1) rfl (Or.inl rfl)) (i := 1) rfl (Or.inl rfl)) (i := 1) rfl (Or.inl rfl))
def fp_m_end  : List (Nat × Nat × Option Nat) := [(190, 190, some 0), (190, 190, some 18)]
theorem an_m_end {p1 : Int32} {N : Nat} {M : MM} {Q : Int32 → MM → Prop} (hQ : ∀ (r : Int32) (M1 : MM), Eqo fp_m_end M M1 → Q r M1) : W_m_end p1 N M Q := by
  unfold W_m_end
  refine ⟨fun _ => ?_, fun _ => ?_⟩
  · exact hQ _ _ (eqo_wi (eqo_rf _) (i := 0) rfl (Or.inr rfl))
  · refine ⟨fun _ => ?_, fun _ => ?_⟩
    · exact hQ _ _ (eqo_wi (eqo_rf _) (i := 0) rfl (Or.inr rfl))
    · exact hQ _ _ (eqo_wi (eqo_wi (eqo_rf _) (i := 0) rfl (Or.inr rfl)) (i := 1) rfl (Or.inr rfl))
def fp_m_blanks  : List (Nat × Nat × Option Nat) := [(190, 190, some 21), (190, 190, some 19)]
theorem an_m_blanks_0 {M0 : MM} {Q : MM → Prop} (hQ : ∀  (M1 : MM), Eqo fp_m_blanks M0 M1 → Q M1) : ∀ (N : Nat) (M : MM), Eqo fp_m_blanks M0 M → W_m_blanks_0 Q N M := by
  refine I_m_blanks_0 Q (fun M => Eqo fp_m_blanks M0 M) (fun N ih M hih hM => ?_)
  unfold B_m_blanks_0
  refine ⟨fun _ => ?_, fun _ => ?_⟩
  · exact hQ _ (eqo_wi hM (i := 0) rfl (Or.inr rfl))
  · exact hih _ (eqo_wi hM (i := 1) rfl (Or.inr rfl))
theorem an_m_blanks  {N : Nat} {M : MM} {Q : MM → Prop} (hQ : ∀  (M1 : MM), Eqo fp_m_blanks M M1 → Q M1) : W_m_blanks  N M Q := by
  unfold W_m_blanks
  refine an_m_blanks_0   hQ N _ (eqo_rf _)
def fp_m_letters  : List (Nat × Nat × Option Nat) := [(190, 190, some 21), (190, 190, some 19)]
theorem an_m_letters_4 {M0 : MM} {Q : MM → Prop} (hQ : ∀  (M1 : MM), Eqo fp_m_letters M0 M1 → Q M1) : ∀ (N : Nat) (M : MM), Eqo fp_m_letters M0 M → W_m_letters_4 Q N M := by
  refine I_m_letters_4 Q (fun M => Eqo fp_m_letters M0 M) (fun N ih M hih hM => ?_)
  unfold B_m_letters_4
  refine ⟨fun _ => ?_, fun _ => ?_⟩
  · exact hQ _ hM
  · exact hih _ (eqo_wi hM (i := 1) rfl (Or.inr rfl))
theorem an_m_letters  {N : Nat} {M : MM} {Q : MM → Prop} (hQ : ∀  (M1 : MM), Eqo fp_m_letters M M1 → Q M1) : W_m_letters  N M Q := by
  unfold W_m_letters
  refine an_m_blanks (fun M2 hM2 => ?_)
  refine an_m_letters_4   hQ N _ (eqo_tr (eqo_rf _) (fps_cons (i := 0) rfl (fps_cons (i := 1) rfl fps_nil)) hM2)
theorem an_m_isWord_24 {s : Nat} {M : MM} {Q : Int32 → Prop} (hQ : ∀ (r : Int32), Q r) : ∀ (N : Nat) (v2 : Int32) (v3 : Int32), True → W_m_isWord_24 s M Q N v2 v3 := by
  refine I_m_isWord_24 s M Q (fun _ _ => True) (fun N ih v2 v3 hih _ => ?_)
  unfold B_m_isWord_24
  refine ⟨fun _ => ?_, fun _ => ?_⟩
  · exact hQ _
  · refine ⟨fun _ => ?_, fun _ => ?_⟩
    · refine ⟨fun _ => ?_, fun _ => ?_⟩
      · exact hih _ _ trivial
      · exact hih _ _ trivial
    · exact hQ _
theorem an_m_isWord {s : Nat} {N : Nat} {M : MM} {Q : Int32 → Prop} (hQ : ∀ (r : Int32), Q r) : W_m_isWord s N M Q := by
  unfold W_m_isWord
  refine ⟨fun _ => ?_, fun _ => ?_⟩
  · refine an_m_isWord_24   hQ N _ _ trivial
  · refine an_m_isWord_24   hQ N _ _ trivial
def fp_m_passes  : List (Nat × Nat × Option Nat) := [(190, 190, some 21), (190, 190, some 19)]
theorem an_m_passes {s : Nat} {N : Nat} {M : MM} {Q : Int32 → MM → Prop} (hQ : ∀ (r : Int32) (M1 : MM), Eqo fp_m_passes M M1 → Q r M1) : W_m_passes s N M Q := by
  unfold W_m_passes
  refine an_m_letters (fun M2 hM2 => ?_)
  refine an_m_isWord (fun r3 => ?_)
  refine ⟨fun _ => ?_, fun _ => ?_⟩
  · exact hQ _ _ (eqo_wi (eqo_tr (eqo_rf _) (fps_cons (i := 0) rfl (fps_cons (i := 1) rfl fps_nil)) hM2) (i := 1) rfl (Or.inr rfl))
  · exact hQ _ _ (eqo_tr (eqo_rf _) (fps_cons (i := 0) rfl (fps_cons (i := 1) rfl fps_nil)) hM2)
def fp_m_sign  : List (Nat × Nat × Option Nat) := [(190, 190, some 21), (190, 190, some 19)]
theorem an_m_sign {p1 : Int32} {N : Nat} {M : MM} {Q : Int32 → MM → Prop} (hQ : ∀ (r : Int32) (M1 : MM), Eqo fp_m_sign M M1 → Q r M1) : W_m_sign p1 N M Q := by
  unfold W_m_sign
  refine an_m_blanks (fun M2 hM2 => ?_)
  refine ⟨fun _ => ?_, fun _ => ?_⟩
  · exact hQ _ _ (eqo_tr (eqo_rf _) (fps_cons (i := 0) rfl (fps_cons (i := 1) rfl fps_nil)) hM2)
  · exact hQ _ _ (eqo_wi (eqo_tr (eqo_rf _) (fps_cons (i := 0) rfl (fps_cons (i := 1) rfl fps_nil)) hM2) (i := 1) rfl (Or.inr rfl))
def fp_m_number  : List (Nat × Nat × Option Nat) := [(190, 190, some 21), (190, 190, some 19)]
theorem an_m_number_6 {M0 : MM} {p1 : Int32} {p2 : Int32} {k65 : Int32 → MM → Prop} {Q : Int32 → MM → Prop} (hk65 : ∀ (v3 : Int32) (M : MM), Eqo fp_m_number M0 M → k65 v3 M) (hQ : ∀ (r : Int32) (M1 : MM), Eqo fp_m_number M0 M1 → Q r M1) : ∀ (N : Nat) (v3 : Int32) (M : MM), Eqo fp_m_number M0 M → W_m_number_6 p1 p2 k65 Q N v3 M := by
  refine I_m_number_6 p1 p2 k65 Q (fun _ M => Eqo fp_m_number M0 M) (fun N ih v3 M hih hM => ?_)
  unfold B_m_number_6
  refine ⟨fun _ => ?_, fun _ => ?_⟩
  · exact hk65 _ _ hM
  · refine ⟨fun _ => ?_, fun _ => ?_⟩
    · exact hih _ _ (eqo_wi hM (i := 1) rfl (Or.inr rfl))
    · exact hih _ _ (eqo_wi hM (i := 1) rfl (Or.inr rfl))
theorem an_m_number {p1 : Int32} {p2 : Int32} {N : Nat} {M : MM} {Q : Int32 → MM → Prop} (hQ : ∀ (r : Int32) (M1 : MM), Eqo fp_m_number M M1 → Q r M1) : W_m_number p1 p2 N M Q := by
  unfold W_m_number
  refine an_m_blanks (fun M2 hM2 => ?_)
  refine an_m_number_6  (fun x5 M6 hMM6 => ?_) hQ N _ _ (eqo_tr (eqo_rf _) (fps_cons (i := 0) rfl (fps_cons (i := 1) rfl fps_nil)) hM2)
  · refine ⟨fun _ => ?_, fun _ => ?_⟩
    · exact hQ _ _ hMM6
    · refine ⟨fun _ => ?_, fun _ => ?_⟩
      · exact hQ _ _ hMM6
      · refine ⟨fun _ => ?_, fun _ => ?_⟩
        · exact hQ _ _ hMM6
        · refine ⟨fun _ => ?_, fun _ => ?_⟩
          · exact hQ _ _ hMM6
          · exact hQ _ _ hMM6
def fp_m_isFigure  : List (Nat × Nat × Option Nat) := [(190, 190, some 21), (190, 190, some 19)]
theorem an_m_isFigure  {N : Nat} {M : MM} {Q : Int32 → MM → Prop} (hQ : ∀ (r : Int32) (M1 : MM), Eqo fp_m_isFigure M M1 → Q r M1) : W_m_isFigure  N M Q := by
  unfold W_m_isFigure
  refine an_m_blanks (fun M2 hM2 => ?_)
  exact hQ _ _ (eqo_tr (eqo_rf _) (fps_cons (i := 0) rfl (fps_cons (i := 1) rfl fps_nil)) hM2)
def fp_m_matterTold  : List (Nat × Nat × Option Nat) := [(190, 190, some 21), (190, 190, some 19)]
theorem an_m_matterTold_4 {M0 : MM} {k28 : MM → Prop} {Q : Int32 → MM → Prop} (hk28 : ∀  (M : MM), Eqo fp_m_matterTold M0 M → k28 M) (hQ : ∀ (r : Int32) (M1 : MM), Eqo fp_m_matterTold M0 M1 → Q r M1) : ∀ (N : Nat) (M : MM), Eqo fp_m_matterTold M0 M → W_m_matterTold_4 k28 Q N M := by
  refine I_m_matterTold_4 k28 Q (fun M => Eqo fp_m_matterTold M0 M) (fun N ih M hih hM => ?_)
  unfold B_m_matterTold_4
  refine ⟨fun _ => ?_, fun _ => ?_⟩
  · exact hk28 _ hM
  · exact hih _ (eqo_wi hM (i := 1) rfl (Or.inr rfl))
theorem an_m_matterTold  {N : Nat} {M : MM} {Q : Int32 → MM → Prop} (hQ : ∀ (r : Int32) (M1 : MM), Eqo fp_m_matterTold M M1 → Q r M1) : W_m_matterTold  N M Q := by
  unfold W_m_matterTold
  refine an_m_blanks (fun M2 hM2 => ?_)
  refine an_m_matterTold_4  (fun M4 hMM4 => ?_) hQ N _ (eqo_tr (eqo_rf _) (fps_cons (i := 0) rfl (fps_cons (i := 1) rfl fps_nil)) hM2)
  · refine ⟨fun _ => ?_, fun _ => ?_⟩
    · refine ⟨fun _ => ?_, fun _ => ?_⟩
      · refine ⟨fun _ => ?_, fun _ => ?_⟩
        · exact hQ _ _ hMM4
        · exact hQ _ _ hMM4
      · exact hQ _ _ hMM4
    · exact hQ _ _ hMM4
def fp_m_fault  : List (Nat × Nat × Option Nat) := [(190, 190, some 0)]
theorem an_m_fault  {N : Nat} {M : MM} {Q : Int32 → MM → Prop} (hQ : ∀ (r : Int32) (M1 : MM), Eqo fp_m_fault M M1 → Q r M1) : W_m_fault  N M Q := by
  unfold W_m_fault
  exact hQ _ _ (eqo_wi (eqo_rf _) (i := 0) rfl (Or.inr rfl))
def fp_m_uses  : List (Nat × Nat × Option Nat) := [(190, 190, some 0), (190, 190, some 20), (190, 190, some 18), (190, 190, some 19)]
theorem an_m_uses  {N : Nat} {M : MM} {Q : MM → Prop} (hQ : ∀  (M1 : MM), Eqo fp_m_uses M M1 → Q M1) : W_m_uses  N M Q := by
  unfold W_m_uses
  exact hQ _ (eqo_wi (eqo_wi (eqo_wi (eqo_wi (eqo_rf _) (i := 0) rfl (Or.inr rfl)) (i := 1) rfl (Or.inr rfl)) (i := 2) rfl (Or.inr rfl)) (i := 3) rfl (Or.inr rfl))
def fp_m_emits  : List (Nat × Nat × Option Nat) := [(202, 202, none), (190, 190, some 25)]
theorem an_m_emits {p1 : Int32} {p2 : Int32} {N : Nat} {M : MM} {Q : MM → Prop} (hQ : ∀  (M1 : MM), Eqo fp_m_emits M M1 → Q M1) : W_m_emits p1 p2 N M Q := by
  unfold W_m_emits
  exact hQ _ (eqo_wi (eqo_wi (eqo_wi (eqo_rf _) (i := 0) rfl (Or.inl rfl)) (i := 0) rfl (Or.inl rfl)) (i := 1) rfl (Or.inr rfl))
def fp_m_readPart  : List (Nat × Nat × Option Nat) := [(190, 190, some 21), (190, 190, some 19), (202, 202, none), (190, 190, some 25)]
theorem an_m_readPart  {N : Nat} {M : MM} {Q : Int32 → MM → Prop} (hQ : ∀ (r : Int32) (M1 : MM), Eqo fp_m_readPart M M1 → Q r M1) : W_m_readPart  N M Q := by
  unfold W_m_readPart
  refine an_m_letters (fun M2 hM2 => ?_)
  refine ⟨fun _ => ?_, fun _ => ?_⟩
  · refine an_m_number (fun r4 M5 hM5 => ?_)
    refine an_m_emits (fun M7 hM7 => ?_)
    refine ⟨fun _ => ?_, fun _ => ?_⟩
    · exact hQ _ _ (eqo_tr (eqo_tr (eqo_tr (eqo_rf _) (fps_cons (i := 0) rfl (fps_cons (i := 1) rfl fps_nil)) hM2) (fps_cons (i := 0) rfl (fps_cons (i := 1) rfl fps_nil)) hM5) (fps_cons (i := 2) rfl (fps_cons (i := 3) rfl fps_nil)) hM7)
    · exact hQ _ _ (eqo_tr (eqo_tr (eqo_tr (eqo_rf _) (fps_cons (i := 0) rfl (fps_cons (i := 1) rfl fps_nil)) hM2) (fps_cons (i := 0) rfl (fps_cons (i := 1) rfl fps_nil)) hM5) (fps_cons (i := 2) rfl (fps_cons (i := 3) rfl fps_nil)) hM7)
  · refine an_m_isWord (fun r9 => ?_)
    refine ⟨fun _ => ?_, fun _ => ?_⟩
    · refine an_m_isWord (fun r12 => ?_)
      refine ⟨fun _ => ?_, fun _ => ?_⟩
      · refine an_m_isWord (fun r15 => ?_)
        refine ⟨fun _ => ?_, fun _ => ?_⟩
        · refine an_m_isWord (fun r18 => ?_)
          refine ⟨fun _ => ?_, fun _ => ?_⟩
          · refine an_m_emits (fun M22 hM22 => ?_)
            exact hQ _ _ (eqo_tr (eqo_tr (eqo_rf _) (fps_cons (i := 0) rfl (fps_cons (i := 1) rfl fps_nil)) hM2) (fps_cons (i := 2) rfl (fps_cons (i := 3) rfl fps_nil)) hM22)
          · refine an_m_emits (fun M25 hM25 => ?_)
            exact hQ _ _ (eqo_tr (eqo_tr (eqo_rf _) (fps_cons (i := 0) rfl (fps_cons (i := 1) rfl fps_nil)) hM2) (fps_cons (i := 2) rfl (fps_cons (i := 3) rfl fps_nil)) hM25)
        · refine an_m_emits (fun M28 hM28 => ?_)
          exact hQ _ _ (eqo_tr (eqo_tr (eqo_rf _) (fps_cons (i := 0) rfl (fps_cons (i := 1) rfl fps_nil)) hM2) (fps_cons (i := 2) rfl (fps_cons (i := 3) rfl fps_nil)) hM28)
      · refine an_m_emits (fun M31 hM31 => ?_)
        exact hQ _ _ (eqo_tr (eqo_tr (eqo_rf _) (fps_cons (i := 0) rfl (fps_cons (i := 1) rfl fps_nil)) hM2) (fps_cons (i := 2) rfl (fps_cons (i := 3) rfl fps_nil)) hM31)
    · refine an_m_emits (fun M34 hM34 => ?_)
      exact hQ _ _ (eqo_tr (eqo_tr (eqo_rf _) (fps_cons (i := 0) rfl (fps_cons (i := 1) rfl fps_nil)) hM2) (fps_cons (i := 2) rfl (fps_cons (i := 3) rfl fps_nil)) hM34)
def fp_m_readSum  : List (Nat × Nat × Option Nat) := [(190, 190, some 21), (190, 190, some 19), (202, 202, none), (190, 190, some 25)]
theorem an_m_readSum_9 {M0 : MM} {Q : Int32 → MM → Prop} (hQ : ∀ (r : Int32) (M1 : MM), Eqo fp_m_readSum M0 M1 → Q r M1) : ∀ (N : Nat) (M : MM), Eqo fp_m_readSum M0 M → W_m_readSum_9 Q N M := by
  refine I_m_readSum_9 Q (fun M => Eqo fp_m_readSum M0 M) (fun N ih M hih hM => ?_)
  unfold B_m_readSum_9
  refine an_m_sign (fun r4 M5 hM5 => ?_)
  refine ⟨fun _ => ?_, fun _ => ?_⟩
  · exact hQ _ _ (eqo_tr hM (fps_cons (i := 0) rfl (fps_cons (i := 1) rfl fps_nil)) hM5)
  · refine an_m_readPart (fun r7 M8 hM8 => ?_)
    refine ⟨fun _ => ?_, fun _ => ?_⟩
    · exact hQ _ _ (eqo_tr (eqo_tr hM (fps_cons (i := 0) rfl (fps_cons (i := 1) rfl fps_nil)) hM5) (fps_cons (i := 0) rfl (fps_cons (i := 1) rfl (fps_cons (i := 2) rfl (fps_cons (i := 3) rfl fps_nil)))) hM8)
    · refine an_m_emits (fun M11 hM11 => ?_)
      exact hih _ (eqo_tr (eqo_tr (eqo_tr hM (fps_cons (i := 0) rfl (fps_cons (i := 1) rfl fps_nil)) hM5) (fps_cons (i := 0) rfl (fps_cons (i := 1) rfl (fps_cons (i := 2) rfl (fps_cons (i := 3) rfl fps_nil)))) hM8) (fps_cons (i := 2) rfl (fps_cons (i := 3) rfl fps_nil)) hM11)
theorem an_m_readSum  {N : Nat} {M : MM} {Q : Int32 → MM → Prop} (hQ : ∀ (r : Int32) (M1 : MM), Eqo fp_m_readSum M M1 → Q r M1) : W_m_readSum  N M Q := by
  unfold W_m_readSum
  refine an_m_readPart (fun r1 M2 hM2 => ?_)
  refine ⟨fun _ => ?_, fun _ => ?_⟩
  · exact hQ _ _ (eqo_tr (eqo_rf _) (fps_cons (i := 0) rfl (fps_cons (i := 1) rfl (fps_cons (i := 2) rfl (fps_cons (i := 3) rfl fps_nil)))) hM2)
  · refine an_m_readSum_9   hQ N _ (eqo_tr (eqo_rf _) (fps_cons (i := 0) rfl (fps_cons (i := 1) rfl (fps_cons (i := 2) rfl (fps_cons (i := 3) rfl fps_nil)))) hM2)
def fp_m_readAtom_387  : List (Nat × Nat × Option Nat) := [(190, 190, some 21), (190, 190, some 19), (202, 202, none), (190, 190, some 25), (190, 190, some 22)]
theorem an_m_readAtom_387  {N : Nat} {M : MM} {Q : Int32 → MM → Prop} (hQ : ∀ (r : Int32) (M1 : MM), Eqo fp_m_readAtom_387 M M1 → Q r M1) : W_m_readAtom_387  N M Q := by
  unfold W_m_readAtom_387
  refine an_m_sign (fun r1 M2 hM2 => ?_)
  refine ⟨fun _ => ?_, fun _ => ?_⟩
  · refine an_m_passes (fun r4 M5 hM5 => ?_)
    refine ⟨fun _ => ?_, fun _ => ?_⟩
    · refine an_m_passes (fun r7 M8 hM8 => ?_)
      refine ⟨fun _ => ?_, fun _ => ?_⟩
      · refine an_m_readSum (fun r10 M11 hM11 => ?_)
        refine ⟨fun _ => ?_, fun _ => ?_⟩
        · exact hQ _ _ (eqo_tr (eqo_tr (eqo_tr (eqo_tr (eqo_rf _) (fps_cons (i := 0) rfl (fps_cons (i := 1) rfl fps_nil)) hM2) (fps_cons (i := 0) rfl (fps_cons (i := 1) rfl fps_nil)) hM5) (fps_cons (i := 0) rfl (fps_cons (i := 1) rfl fps_nil)) hM8) (fps_cons (i := 0) rfl (fps_cons (i := 1) rfl (fps_cons (i := 2) rfl (fps_cons (i := 3) rfl fps_nil)))) hM11)
        · refine an_m_sign (fun r13 M14 hM14 => ?_)
          refine ⟨fun _ => ?_, fun _ => ?_⟩
          · refine an_m_sign (fun r16 M17 hM17 => ?_)
            refine ⟨fun _ => ?_, fun _ => ?_⟩
            · exact hQ _ _ (eqo_tr (eqo_tr (eqo_tr (eqo_tr (eqo_tr (eqo_tr (eqo_rf _) (fps_cons (i := 0) rfl (fps_cons (i := 1) rfl fps_nil)) hM2) (fps_cons (i := 0) rfl (fps_cons (i := 1) rfl fps_nil)) hM5) (fps_cons (i := 0) rfl (fps_cons (i := 1) rfl fps_nil)) hM8) (fps_cons (i := 0) rfl (fps_cons (i := 1) rfl (fps_cons (i := 2) rfl (fps_cons (i := 3) rfl fps_nil)))) hM11) (fps_cons (i := 0) rfl (fps_cons (i := 1) rfl fps_nil)) hM14) (fps_cons (i := 0) rfl (fps_cons (i := 1) rfl fps_nil)) hM17)
            · refine an_m_readSum (fun r19 M20 hM20 => ?_)
              refine ⟨fun _ => ?_, fun _ => ?_⟩
              · exact hQ _ _ (eqo_tr (eqo_tr (eqo_tr (eqo_tr (eqo_tr (eqo_tr (eqo_tr (eqo_rf _) (fps_cons (i := 0) rfl (fps_cons (i := 1) rfl fps_nil)) hM2) (fps_cons (i := 0) rfl (fps_cons (i := 1) rfl fps_nil)) hM5) (fps_cons (i := 0) rfl (fps_cons (i := 1) rfl fps_nil)) hM8) (fps_cons (i := 0) rfl (fps_cons (i := 1) rfl (fps_cons (i := 2) rfl (fps_cons (i := 3) rfl fps_nil)))) hM11) (fps_cons (i := 0) rfl (fps_cons (i := 1) rfl fps_nil)) hM14) (fps_cons (i := 0) rfl (fps_cons (i := 1) rfl fps_nil)) hM17) (fps_cons (i := 0) rfl (fps_cons (i := 1) rfl (fps_cons (i := 2) rfl (fps_cons (i := 3) rfl fps_nil)))) hM20)
              · refine ⟨fun _ => ?_, fun _ => ?_⟩
                · refine an_m_emits (fun M24 hM24 => ?_)
                  exact hQ _ _ (eqo_tr (eqo_tr (eqo_tr (eqo_tr (eqo_tr (eqo_tr (eqo_tr (eqo_tr (eqo_rf _) (fps_cons (i := 0) rfl (fps_cons (i := 1) rfl fps_nil)) hM2) (fps_cons (i := 0) rfl (fps_cons (i := 1) rfl fps_nil)) hM5) (fps_cons (i := 0) rfl (fps_cons (i := 1) rfl fps_nil)) hM8) (fps_cons (i := 0) rfl (fps_cons (i := 1) rfl (fps_cons (i := 2) rfl (fps_cons (i := 3) rfl fps_nil)))) hM11) (fps_cons (i := 0) rfl (fps_cons (i := 1) rfl fps_nil)) hM14) (fps_cons (i := 0) rfl (fps_cons (i := 1) rfl fps_nil)) hM17) (fps_cons (i := 0) rfl (fps_cons (i := 1) rfl (fps_cons (i := 2) rfl (fps_cons (i := 3) rfl fps_nil)))) hM20) (fps_cons (i := 2) rfl (fps_cons (i := 3) rfl fps_nil)) hM24)
                · refine an_m_emits (fun M26 hM26 => ?_)
                  exact hQ _ _ (eqo_tr (eqo_tr (eqo_tr (eqo_tr (eqo_tr (eqo_tr (eqo_tr (eqo_tr (eqo_rf _) (fps_cons (i := 0) rfl (fps_cons (i := 1) rfl fps_nil)) hM2) (fps_cons (i := 0) rfl (fps_cons (i := 1) rfl fps_nil)) hM5) (fps_cons (i := 0) rfl (fps_cons (i := 1) rfl fps_nil)) hM8) (fps_cons (i := 0) rfl (fps_cons (i := 1) rfl (fps_cons (i := 2) rfl (fps_cons (i := 3) rfl fps_nil)))) hM11) (fps_cons (i := 0) rfl (fps_cons (i := 1) rfl fps_nil)) hM14) (fps_cons (i := 0) rfl (fps_cons (i := 1) rfl fps_nil)) hM17) (fps_cons (i := 0) rfl (fps_cons (i := 1) rfl (fps_cons (i := 2) rfl (fps_cons (i := 3) rfl fps_nil)))) hM20) (fps_cons (i := 2) rfl (fps_cons (i := 3) rfl fps_nil)) hM26)
          · refine an_m_readSum (fun r27 M28 hM28 => ?_)
            refine ⟨fun _ => ?_, fun _ => ?_⟩
            · exact hQ _ _ (eqo_tr (eqo_tr (eqo_tr (eqo_tr (eqo_tr (eqo_tr (eqo_rf _) (fps_cons (i := 0) rfl (fps_cons (i := 1) rfl fps_nil)) hM2) (fps_cons (i := 0) rfl (fps_cons (i := 1) rfl fps_nil)) hM5) (fps_cons (i := 0) rfl (fps_cons (i := 1) rfl fps_nil)) hM8) (fps_cons (i := 0) rfl (fps_cons (i := 1) rfl (fps_cons (i := 2) rfl (fps_cons (i := 3) rfl fps_nil)))) hM11) (fps_cons (i := 0) rfl (fps_cons (i := 1) rfl fps_nil)) hM14) (fps_cons (i := 0) rfl (fps_cons (i := 1) rfl (fps_cons (i := 2) rfl (fps_cons (i := 3) rfl fps_nil)))) hM28)
            · refine ⟨fun _ => ?_, fun _ => ?_⟩
              · refine an_m_emits (fun M32 hM32 => ?_)
                exact hQ _ _ (eqo_tr (eqo_tr (eqo_tr (eqo_tr (eqo_tr (eqo_tr (eqo_tr (eqo_rf _) (fps_cons (i := 0) rfl (fps_cons (i := 1) rfl fps_nil)) hM2) (fps_cons (i := 0) rfl (fps_cons (i := 1) rfl fps_nil)) hM5) (fps_cons (i := 0) rfl (fps_cons (i := 1) rfl fps_nil)) hM8) (fps_cons (i := 0) rfl (fps_cons (i := 1) rfl (fps_cons (i := 2) rfl (fps_cons (i := 3) rfl fps_nil)))) hM11) (fps_cons (i := 0) rfl (fps_cons (i := 1) rfl fps_nil)) hM14) (fps_cons (i := 0) rfl (fps_cons (i := 1) rfl (fps_cons (i := 2) rfl (fps_cons (i := 3) rfl fps_nil)))) hM28) (fps_cons (i := 2) rfl (fps_cons (i := 3) rfl fps_nil)) hM32)
              · refine an_m_emits (fun M34 hM34 => ?_)
                exact hQ _ _ (eqo_tr (eqo_tr (eqo_tr (eqo_tr (eqo_tr (eqo_tr (eqo_tr (eqo_rf _) (fps_cons (i := 0) rfl (fps_cons (i := 1) rfl fps_nil)) hM2) (fps_cons (i := 0) rfl (fps_cons (i := 1) rfl fps_nil)) hM5) (fps_cons (i := 0) rfl (fps_cons (i := 1) rfl fps_nil)) hM8) (fps_cons (i := 0) rfl (fps_cons (i := 1) rfl (fps_cons (i := 2) rfl (fps_cons (i := 3) rfl fps_nil)))) hM11) (fps_cons (i := 0) rfl (fps_cons (i := 1) rfl fps_nil)) hM14) (fps_cons (i := 0) rfl (fps_cons (i := 1) rfl (fps_cons (i := 2) rfl (fps_cons (i := 3) rfl fps_nil)))) hM28) (fps_cons (i := 2) rfl (fps_cons (i := 3) rfl fps_nil)) hM34)
      · refine an_m_emits (fun M36 hM36 => ?_)
        exact hQ _ _ (eqo_tr (eqo_tr (eqo_tr (eqo_tr (eqo_rf _) (fps_cons (i := 0) rfl (fps_cons (i := 1) rfl fps_nil)) hM2) (fps_cons (i := 0) rfl (fps_cons (i := 1) rfl fps_nil)) hM5) (fps_cons (i := 0) rfl (fps_cons (i := 1) rfl fps_nil)) hM8) (fps_cons (i := 2) rfl (fps_cons (i := 3) rfl fps_nil)) hM36)
    · refine ⟨fun _ => ?_, fun _ => ?_⟩
      · exact hQ _ _ (eqo_tr (eqo_tr (eqo_rf _) (fps_cons (i := 0) rfl (fps_cons (i := 1) rfl fps_nil)) hM2) (fps_cons (i := 0) rfl (fps_cons (i := 1) rfl fps_nil)) hM5)
      · trivial
  · refine ⟨fun _ => ?_, fun _ => ?_⟩
    · exact hQ _ _ (eqo_tr (eqo_rf _) (fps_cons (i := 0) rfl (fps_cons (i := 1) rfl fps_nil)) hM2)
    · trivial
def fp_m_readAllOf_386  : List (Nat × Nat × Option Nat) := [(190, 190, some 21), (190, 190, some 19), (202, 202, none), (190, 190, some 25), (190, 190, some 22)]
theorem an_m_readAllOf_386_9 {M0 : MM} {Q : Int32 → MM → Prop} (hQ : ∀ (r : Int32) (M1 : MM), Eqo fp_m_readAllOf_386 M0 M1 → Q r M1) : ∀ (N : Nat) (M : MM), Eqo fp_m_readAllOf_386 M0 M → W_m_readAllOf_386_9 Q N M := by
  refine I_m_readAllOf_386_9 Q (fun M => Eqo fp_m_readAllOf_386 M0 M) (fun N ih M hih hM => ?_)
  unfold B_m_readAllOf_386_9
  refine an_m_passes (fun r4 M5 hM5 => ?_)
  refine ⟨fun _ => ?_, fun _ => ?_⟩
  · exact hQ _ _ (eqo_tr hM (fps_cons (i := 0) rfl (fps_cons (i := 1) rfl fps_nil)) hM5)
  · refine an_m_readAtom_387 (fun r7 M8 hM8 => ?_)
    refine ⟨fun _ => ?_, fun _ => ?_⟩
    · exact hQ _ _ (eqo_tr (eqo_tr hM (fps_cons (i := 0) rfl (fps_cons (i := 1) rfl fps_nil)) hM5) (fps_cons (i := 0) rfl (fps_cons (i := 1) rfl (fps_cons (i := 2) rfl (fps_cons (i := 3) rfl (fps_cons (i := 4) rfl fps_nil))))) hM8)
    · refine an_m_emits (fun M11 hM11 => ?_)
      exact hih _ (eqo_tr (eqo_tr (eqo_tr hM (fps_cons (i := 0) rfl (fps_cons (i := 1) rfl fps_nil)) hM5) (fps_cons (i := 0) rfl (fps_cons (i := 1) rfl (fps_cons (i := 2) rfl (fps_cons (i := 3) rfl (fps_cons (i := 4) rfl fps_nil))))) hM8) (fps_cons (i := 2) rfl (fps_cons (i := 3) rfl fps_nil)) hM11)
theorem an_m_readAllOf_386  {N : Nat} {M : MM} {Q : Int32 → MM → Prop} (hQ : ∀ (r : Int32) (M1 : MM), Eqo fp_m_readAllOf_386 M M1 → Q r M1) : W_m_readAllOf_386  N M Q := by
  unfold W_m_readAllOf_386
  refine an_m_readAtom_387 (fun r1 M2 hM2 => ?_)
  refine ⟨fun _ => ?_, fun _ => ?_⟩
  · exact hQ _ _ (eqo_tr (eqo_rf _) (fps_cons (i := 0) rfl (fps_cons (i := 1) rfl (fps_cons (i := 2) rfl (fps_cons (i := 3) rfl (fps_cons (i := 4) rfl fps_nil))))) hM2)
  · refine an_m_readAllOf_386_9   hQ N _ (eqo_tr (eqo_rf _) (fps_cons (i := 0) rfl (fps_cons (i := 1) rfl (fps_cons (i := 2) rfl (fps_cons (i := 3) rfl (fps_cons (i := 4) rfl fps_nil))))) hM2)
