/-! WHAT EACH METHOD WRITES (gw.py) -/
theorem an_Law_holds_25 {a : Nat} {p1 : Int32} {p2 : Int32} {p3 : Int32} {p4 : Int32} {p5 : Int32} {M : MM} {Q : Int32 → Prop} (hQ : ∀ (r : Int32), Q r) : ∀ (N : Nat) (v7 : Int32) (v8 : Int32), True → W_Law_holds_25 a p1 p2 p3 p4 p5 M Q N v7 v8 := by
  refine I_Law_holds_25 a p1 p2 p3 p4 p5 M Q (fun _ _ => True) (fun N ih v7 v8 hih _ => ?_)
  unfold B_Law_holds_25
  refine ⟨fun _ => ?_, fun _ => ?_⟩
  · refine ⟨fun _ => ?_, fun _ => ?_⟩
    · refine ⟨fun _ => ?_, fun _ => ?_⟩
      · exact hih _ _ trivial
      · exact hih _ _ trivial
    · refine ⟨fun _ => ?_, fun _ => ?_⟩
      · exact hih _ _ trivial
      · refine ⟨fun _ => ?_, fun _ => ?_⟩
        · exact hih _ _ trivial
        · refine ⟨fun _ => ?_, fun _ => ?_⟩
          · exact hih _ _ trivial
          · refine ⟨fun _ => ?_, fun _ => ?_⟩
            · exact hih _ _ trivial
            · refine ⟨fun _ => ?_, fun _ => ?_⟩
              · exact hih _ _ trivial
              · refine ⟨fun _ => ?_, fun _ => ?_⟩
                · exact hih _ _ trivial
                · exact hih _ _ trivial
  · refine ⟨fun _ => ?_, fun _ => ?_⟩
    · exact hQ _
    · exact hQ _
theorem an_Law_holds {a : Nat} {p1 : Int32} {p2 : Int32} {p3 : Int32} {p4 : Int32} {p5 : Int32} {N : Nat} {M : MM} {Q : Int32 → Prop} (hQ : ∀ (r : Int32), Q r) : W_Law_holds a p1 p2 p3 p4 p5 N M Q := by
  unfold W_Law_holds
  refine ⟨fun _ => ?_, fun _ => ?_⟩
  · refine an_Law_holds_25   hQ N _ _ trivial
  · refine an_Law_holds_25   hQ N _ _ trivial
theorem an_Law_bearing_23 {a : Nat} {p1 : Int32} {p2 : Int32} {p3 : Int32} {p4 : Int32} {p5 : Int32} {u7 : Int32} {u8 : Int32} {M : MM} {Q : Int32 → Prop} (hQ : ∀ (r : Int32), Q r) : ∀ (N : Nat) (v6 : Int32) (v9 : Int32), True → W_Law_bearing_23 a p1 p2 p3 p4 p5 u7 u8 M Q N v6 v9 := by
  refine I_Law_bearing_23 a p1 p2 p3 p4 p5 u7 u8 M Q (fun _ _ => True) (fun N ih v6 v9 hih _ => ?_)
  unfold B_Law_bearing_23
  refine ⟨fun _ => ?_, fun _ => ?_⟩
  · refine ⟨fun _ => ?_, fun _ => ?_⟩
    · refine ⟨fun _ => ?_, fun _ => ?_⟩
      · refine an_Law_holds (fun r5 => ?_)
        refine ⟨fun _ => ?_, fun _ => ?_⟩
        · exact hih _ _ trivial
        · exact hih _ _ trivial
      · exact hih _ _ trivial
    · exact hih _ _ trivial
  · exact hQ _
theorem an_Law_bearing {a : Nat} {p1 : Int32} {p2 : Int32} {p3 : Int32} {p4 : Int32} {p5 : Int32} {N : Nat} {M : MM} {Q : Int32 → Prop} (hQ : ∀ (r : Int32), Q r) : W_Law_bearing a p1 p2 p3 p4 p5 N M Q := by
  unfold W_Law_bearing
  refine ⟨fun _ => ?_, fun _ => ?_⟩
  · refine an_Law_bearing_23   hQ N _ _ trivial
  · refine an_Law_bearing_23   hQ N _ _ trivial
theorem an_Inquiry_forbidding {p1 : Int32} {p2 : Int32} {N : Nat} {M : MM} {Q : Int32 → Prop} (hQ : ∀ (r : Int32), Q r) : W_Inquiry_forbidding p1 p2 N M Q := by
  unfold W_Inquiry_forbidding
  refine an_Law_bearing (fun r1 => ?_)
  exact hQ _
theorem an_Inquiry_demanding {p1 : Int32} {p2 : Int32} {N : Nat} {M : MM} {Q : Int32 → Prop} (hQ : ∀ (r : Int32), Q r) : W_Inquiry_demanding p1 p2 N M Q := by
  unfold W_Inquiry_demanding
  refine an_Law_bearing (fun r1 => ?_)
  exact hQ _
theorem an_World_inForce_4 {a : Nat} {M : MM} {Q : Int32 → Prop} (hQ : ∀ (r : Int32), Q r) : ∀ (N : Nat) (v1 : Int32) (v2 : Int32), True → W_World_inForce_4 a M Q N v1 v2 := by
  refine I_World_inForce_4 a M Q (fun _ _ => True) (fun N ih v1 v2 hih _ => ?_)
  unfold B_World_inForce_4
  refine ⟨fun _ => ?_, fun _ => ?_⟩
  · refine ⟨fun _ => ?_, fun _ => ?_⟩
    · exact hih _ _ trivial
    · exact hih _ _ trivial
  · exact hQ _
theorem an_World_inForce {a : Nat} {N : Nat} {M : MM} {Q : Int32 → Prop} (hQ : ∀ (r : Int32), Q r) : W_World_inForce a N M Q := by
  unfold W_World_inForce
  refine an_World_inForce_4   hQ N _ _ trivial
theorem an_Inquiry_forbiddenTo {p1 : Int32} {p2 : Int32} {N : Nat} {M : MM} {Q : Int32 → Prop} (hQ : ∀ (r : Int32), Q r) : W_Inquiry_forbiddenTo p1 p2 N M Q := by
  unfold W_Inquiry_forbiddenTo
  refine an_Inquiry_forbidding (fun r1 => ?_)
  refine an_World_inForce (fun r3 => ?_)
  exact hQ _
theorem an_Inquiry_demandedOf {p1 : Int32} {p2 : Int32} {N : Nat} {M : MM} {Q : Int32 → Prop} (hQ : ∀ (r : Int32), Q r) : W_Inquiry_demandedOf p1 p2 N M Q := by
  unfold W_Inquiry_demandedOf
  refine an_Inquiry_demanding (fun r1 => ?_)
  refine an_World_inForce (fun r3 => ?_)
  exact hQ _
theorem an_Inquiry_allows {p1 : Int32} {p2 : Int32} {N : Nat} {M : MM} {Q : Int32 → Prop} (hQ : ∀ (r : Int32), Q r) : W_Inquiry_allows p1 p2 N M Q := by
  unfold W_Inquiry_allows
  refine an_Inquiry_forbidding (fun r1 => ?_)
  refine ⟨fun _ => ?_, fun _ => ?_⟩
  · exact hQ _
  · exact hQ _
theorem an_Inquiry_isForbiddenToAll_16 {p1 : Int32} {p2 : Int32} {u3 : Int32} {M : MM} {k59 : Prop} {Q : Int32 → Prop} (hk59 : k59) (hQ : ∀ (r : Int32), Q r) : ∀ (N : Nat) (v4 : Int32), True → W_Inquiry_isForbiddenToAll_16 p1 p2 u3 M k59 Q N v4 := by
  refine I_Inquiry_isForbiddenToAll_16 p1 p2 u3 M k59 Q (fun _ => True) (fun N ih v4 hih _ => ?_)
  unfold B_Inquiry_isForbiddenToAll_16
  refine ⟨fun _ => ?_, fun _ => ?_⟩
  · refine ⟨fun _ => ?_, fun _ => ?_⟩
    · exact hk59
    · refine an_Inquiry_forbidding (fun r4 => ?_)
      refine ⟨fun _ => ?_, fun _ => ?_⟩
      · exact hQ _
      · exact hih _ trivial
  · exact hk59
theorem an_Inquiry_isForbiddenToAll_2 {p1 : Int32} {p2 : Int32} {M : MM} {Q : Int32 → Prop} (hQ : ∀ (r : Int32), Q r) : ∀ (N : Nat) (v3 : Int32), True → W_Inquiry_isForbiddenToAll_2 p1 p2 M Q N v3 := by
  refine I_Inquiry_isForbiddenToAll_2 p1 p2 M Q (fun _ => True) (fun N ih v3 hih _ => ?_)
  unfold B_Inquiry_isForbiddenToAll_2
  refine ⟨fun _ => ?_, fun _ => ?_⟩
  · refine an_Inquiry_isForbiddenToAll_16  ?_ hQ N _ trivial
    · exact hih _ trivial
  · exact hQ _
theorem an_Inquiry_isForbiddenToAll {p1 : Int32} {p2 : Int32} {N : Nat} {M : MM} {Q : Int32 → Prop} (hQ : ∀ (r : Int32), Q r) : W_Inquiry_isForbiddenToAll p1 p2 N M Q := by
  unfold W_Inquiry_isForbiddenToAll
  refine an_Inquiry_isForbiddenToAll_2   hQ N _ trivial
theorem an_Inquiry_forbiddenToAll_12 {u2 : Int32} {M : MM} {Q : Int32 → Prop} (hQ : ∀ (r : Int32), Q r) : ∀ (N : Nat) (v1 : Int32) (v3 : Int32), True → W_Inquiry_forbiddenToAll_12 u2 M Q N v1 v3 := by
  refine I_Inquiry_forbiddenToAll_12 u2 M Q (fun _ _ => True) (fun N ih v1 v3 hih _ => ?_)
  unfold B_Inquiry_forbiddenToAll_12
  refine ⟨fun _ => ?_, fun _ => ?_⟩
  · refine ⟨fun _ => ?_, fun _ => ?_⟩
    · exact hQ _
    · refine an_Inquiry_isForbiddenToAll (fun r5 => ?_)
      refine ⟨fun _ => ?_, fun _ => ?_⟩
      · exact hih _ _ trivial
      · exact hih _ _ trivial
  · exact hQ _
theorem an_Inquiry_forbiddenToAll  {N : Nat} {M : MM} {Q : Int32 → Prop} (hQ : ∀ (r : Int32), Q r) : W_Inquiry_forbiddenToAll  N M Q := by
  unfold W_Inquiry_forbiddenToAll
  refine an_World_inForce (fun r1 => ?_)
  refine an_Inquiry_forbiddenToAll_12   hQ N _ _ trivial
def fp_Inquiry_clearOthers  : List (Nat × Nat × Option Nat) := [(172, 172, none)]
theorem an_Inquiry_clearOthers_2 {M0 : MM} {Q : MM → Prop} (hQ : ∀  (M1 : MM), Eqo fp_Inquiry_clearOthers M0 M1 → Q M1) : ∀ (N : Nat) (v1 : Int32) (M : MM), Eqo fp_Inquiry_clearOthers M0 M → W_Inquiry_clearOthers_2 Q N v1 M := by
  refine I_Inquiry_clearOthers_2 Q (fun _ M => Eqo fp_Inquiry_clearOthers M0 M) (fun N ih v1 M hih hM => ?_)
  unfold B_Inquiry_clearOthers_2
  refine ⟨fun _ => ?_, fun _ => ?_⟩
  · exact hih _ _ (eqo_wi hM (i := 0) rfl (Or.inl rfl))
  · exact hQ _ hM
theorem an_Inquiry_clearOthers  {N : Nat} {M : MM} {Q : MM → Prop} (hQ : ∀  (M1 : MM), Eqo fp_Inquiry_clearOthers M M1 → Q M1) : W_Inquiry_clearOthers  N M Q := by
  unfold W_Inquiry_clearOthers
  refine an_Inquiry_clearOthers_2   hQ N _ _ (eqo_rf _)
def fp_Inquiry_addOthers  : List (Nat × Nat × Option Nat) := [(172, 172, none)]
theorem an_Inquiry_addOthers_2 {M0 : MM} {p1 : Int32} {p2 : Int32} {Q : MM → Prop} (hQ : ∀  (M1 : MM), Eqo fp_Inquiry_addOthers M0 M1 → Q M1) : ∀ (N : Nat) (v3 : Int32) (M : MM), Eqo fp_Inquiry_addOthers M0 M → W_Inquiry_addOthers_2 p1 p2 Q N v3 M := by
  refine I_Inquiry_addOthers_2 p1 p2 Q (fun _ M => Eqo fp_Inquiry_addOthers M0 M) (fun N ih v3 M hih hM => ?_)
  unfold B_Inquiry_addOthers_2
  refine ⟨fun _ => ?_, fun _ => ?_⟩
  · refine ⟨fun _ => ?_, fun _ => ?_⟩
    · exact hih _ _ (eqo_wi hM (i := 0) rfl (Or.inl rfl))
    · refine ⟨fun _ => ?_, fun _ => ?_⟩
      · exact hih _ _ (eqo_wi hM (i := 0) rfl (Or.inl rfl))
      · exact hih _ _ hM
  · exact hQ _ hM
theorem an_Inquiry_addOthers {p1 : Int32} {p2 : Int32} {N : Nat} {M : MM} {Q : MM → Prop} (hQ : ∀  (M1 : MM), Eqo fp_Inquiry_addOthers M M1 → Q M1) : W_Inquiry_addOthers p1 p2 N M Q := by
  unfold W_Inquiry_addOthers
  refine an_Inquiry_addOthers_2   hQ N _ _ (eqo_rf _)
def fp_Inquiry_findOthers  : List (Nat × Nat × Option Nat) := [(172, 172, none)]
theorem an_Inquiry_findOthers_15 {M0 : MM} {p1 : Int32} {u2 : Int32} {k64 : MM → Prop} {Q : MM → Prop} (hk64 : ∀  (M : MM), Eqo fp_Inquiry_findOthers M0 M → k64 M) (hQ : ∀  (M1 : MM), Eqo fp_Inquiry_findOthers M0 M1 → Q M1) : ∀ (N : Nat) (v3 : Int32) (M : MM), Eqo fp_Inquiry_findOthers M0 M → W_Inquiry_findOthers_15 p1 u2 k64 Q N v3 M := by
  refine I_Inquiry_findOthers_15 p1 u2 k64 Q (fun _ M => Eqo fp_Inquiry_findOthers M0 M) (fun N ih v3 M hih hM => ?_)
  unfold B_Inquiry_findOthers_15
  refine ⟨fun _ => ?_, fun _ => ?_⟩
  · refine ⟨fun _ => ?_, fun _ => ?_⟩
    · exact hk64 _ hM
    · refine an_Inquiry_forbidding (fun r4 => ?_)
      refine an_Inquiry_demanding (fun r6 => ?_)
      refine an_Inquiry_addOthers (fun M9 hM9 => ?_)
      exact hih _ _ (eqo_tr hM (fps_cons (i := 0) rfl fps_nil) hM9)
  · exact hk64 _ hM
theorem an_Inquiry_findOthers_2 {M0 : MM} {p1 : Int32} {Q : MM → Prop} (hQ : ∀  (M1 : MM), Eqo fp_Inquiry_findOthers M0 M1 → Q M1) : ∀ (N : Nat) (v2 : Int32) (M : MM), Eqo fp_Inquiry_findOthers M0 M → W_Inquiry_findOthers_2 p1 Q N v2 M := by
  refine I_Inquiry_findOthers_2 p1 Q (fun _ M => Eqo fp_Inquiry_findOthers M0 M) (fun N ih v2 M hih hM => ?_)
  unfold B_Inquiry_findOthers_2
  refine ⟨fun _ => ?_, fun _ => ?_⟩
  · refine an_Inquiry_findOthers_15  (fun M10 hMM10 => ?_) hQ N _ _ hM
    · exact hih _ _ hMM10
  · exact hQ _ hM
theorem an_Inquiry_findOthers {p1 : Int32} {N : Nat} {M : MM} {Q : MM → Prop} (hQ : ∀  (M1 : MM), Eqo fp_Inquiry_findOthers M M1 → Q M1) : W_Inquiry_findOthers p1 N M Q := by
  unfold W_Inquiry_findOthers
  refine an_Inquiry_findOthers_2   hQ N _ _ (eqo_rf _)
def fp_Inquiry_contradicting  : List (Nat × Nat × Option Nat) := [(172, 172, none)]
theorem an_Inquiry_contradicting {p1 : Int32} {N : Nat} {M : MM} {Q : Int32 → MM → Prop} (hQ : ∀ (r : Int32) (M1 : MM), Eqo fp_Inquiry_contradicting M M1 → Q r M1) : W_Inquiry_contradicting p1 N M Q := by
  unfold W_Inquiry_contradicting
  refine an_Inquiry_clearOthers (fun M2 hM2 => ?_)
  refine an_Inquiry_findOthers (fun M4 hM4 => ?_)
  exact hQ _ _ (eqo_tr (eqo_tr (eqo_rf _) (fps_cons (i := 0) rfl fps_nil) hM2) (fps_cons (i := 0) rfl fps_nil) hM4)
theorem an_Inquiry_isRelief_2 {p1 : Int32} {M : MM} {Q : Int32 → Prop} (hQ : ∀ (r : Int32), Q r) : ∀ (N : Nat) (v2 : Int32), True → W_Inquiry_isRelief_2 p1 M Q N v2 := by
  refine I_Inquiry_isRelief_2 p1 M Q (fun _ => True) (fun N ih v2 hih _ => ?_)
  unfold B_Inquiry_isRelief_2
  refine ⟨fun _ => ?_, fun _ => ?_⟩
  · refine ⟨fun _ => ?_, fun _ => ?_⟩
    · refine ⟨fun _ => ?_, fun _ => ?_⟩
      · exact hih _ trivial
      · exact hQ _
    · exact hih _ trivial
  · exact hQ _
theorem an_Inquiry_isRelief {p1 : Int32} {N : Nat} {M : MM} {Q : Int32 → Prop} (hQ : ∀ (r : Int32), Q r) : W_Inquiry_isRelief p1 N M Q := by
  unfold W_Inquiry_isRelief
  refine an_Inquiry_isRelief_2   hQ N _ trivial
def fp_Inquiry_fewestToDie  : List (Nat × Nat × Option Nat) := [(172, 172, none)]
theorem an_Inquiry_fewestToDie_6 {M0 : MM} {k23 : MM → Prop} {Q : Int32 → MM → Prop} (hk23 : ∀  (M : MM), Eqo fp_Inquiry_fewestToDie M0 M → k23 M) (hQ : ∀ (r : Int32) (M1 : MM), Eqo fp_Inquiry_fewestToDie M0 M1 → Q r M1) : ∀ (N : Nat) (v1 : Int32) (M : MM), Eqo fp_Inquiry_fewestToDie M0 M → W_Inquiry_fewestToDie_6 k23 Q N v1 M := by
  refine I_Inquiry_fewestToDie_6 k23 Q (fun _ M => Eqo fp_Inquiry_fewestToDie M0 M) (fun N ih v1 M hih hM => ?_)
  unfold B_Inquiry_fewestToDie_6
  refine ⟨fun _ => ?_, fun _ => ?_⟩
  · refine an_Inquiry_findOthers (fun M5 hM5 => ?_)
    exact hih _ _ (eqo_tr hM (fps_cons (i := 0) rfl fps_nil) hM5)
  · exact hk23 _ hM
theorem an_Inquiry_fewestToDie_30 {M0 : MM} {M : MM} {Q : Int32 → MM → Prop} (hM : Eqo fp_Inquiry_fewestToDie M0 M) (hQ : ∀ (r : Int32) (M1 : MM), Eqo fp_Inquiry_fewestToDie M0 M1 → Q r M1) : ∀ (N : Nat) (v1 : Int32) (v2 : Int32) (v3 : Int32), True → W_Inquiry_fewestToDie_30 M Q N v1 v2 v3 := by
  refine I_Inquiry_fewestToDie_30 M Q (fun _ _ _ => True) (fun N ih v1 v2 v3 hih _ => ?_)
  unfold B_Inquiry_fewestToDie_30
  refine ⟨fun _ => ?_, fun _ => ?_⟩
  · refine ⟨fun _ => ?_, fun _ => ?_⟩
    · refine an_Inquiry_isRelief (fun r9 => ?_)
      refine ⟨fun _ => ?_, fun _ => ?_⟩
      · exact hih _ _ _ trivial
      · exact hih _ _ _ trivial
    · exact hih _ _ _ trivial
  · exact hQ _ _ hM
theorem an_Inquiry_fewestToDie  {N : Nat} {M : MM} {Q : Int32 → MM → Prop} (hQ : ∀ (r : Int32) (M1 : MM), Eqo fp_Inquiry_fewestToDie M M1 → Q r M1) : W_Inquiry_fewestToDie  N M Q := by
  unfold W_Inquiry_fewestToDie
  refine an_Inquiry_clearOthers (fun M2 hM2 => ?_)
  refine an_Inquiry_fewestToDie_6  (fun M6 hMM6 => ?_) hQ N _ _ (eqo_tr (eqo_rf _) (fps_cons (i := 0) rfl fps_nil) hM2)
  · refine an_Inquiry_fewestToDie_30 hMM6  hQ N _ _ _ trivial
theorem an_Inquiry_knownTogether_4 {p1 : Int32} {M : MM} {Q : Int32 → Prop} (hQ : ∀ (r : Int32), Q r) : ∀ (N : Nat) (v2 : Int32) (v3 : Int32), True → W_Inquiry_knownTogether_4 p1 M Q N v2 v3 := by
  refine I_Inquiry_knownTogether_4 p1 M Q (fun _ _ => True) (fun N ih v2 v3 hih _ => ?_)
  unfold B_Inquiry_knownTogether_4
  refine ⟨fun _ => ?_, fun _ => ?_⟩
  · refine ⟨fun _ => ?_, fun _ => ?_⟩
    · exact hih _ _ trivial
    · exact hih _ _ trivial
  · exact hQ _
theorem an_Inquiry_knownTogether {p1 : Int32} {N : Nat} {M : MM} {Q : Int32 → Prop} (hQ : ∀ (r : Int32), Q r) : W_Inquiry_knownTogether p1 N M Q := by
  unfold W_Inquiry_knownTogether
  refine an_Inquiry_knownTogether_4   hQ N _ _ trivial
theorem an_Inquiry_fewestKnowers_16 {u1 : Int32} {M : MM} {Q : Int32 → Prop} (hQ : ∀ (r : Int32), Q r) : ∀ (N : Nat) (v2 : Int32) (v3 : Int32) (v4 : Int32), True → W_Inquiry_fewestKnowers_16 u1 M Q N v2 v3 v4 := by
  refine I_Inquiry_fewestKnowers_16 u1 M Q (fun _ _ _ => True) (fun N ih v2 v3 v4 hih _ => ?_)
  unfold B_Inquiry_fewestKnowers_16
  refine ⟨fun _ => ?_, fun _ => ?_⟩
  · refine ⟨fun _ => ?_, fun _ => ?_⟩
    · refine ⟨fun _ => ?_, fun _ => ?_⟩
      · refine an_Inquiry_knownTogether (fun r6 => ?_)
        refine ⟨fun _ => ?_, fun _ => ?_⟩
        · exact hih _ _ _ trivial
        · exact hih _ _ _ trivial
      · exact hih _ _ _ trivial
    · exact hih _ _ _ trivial
  · exact hQ _
theorem an_Inquiry_fewestKnowers  {N : Nat} {M : MM} {Q : Int32 → Prop} (hQ : ∀ (r : Int32), Q r) : W_Inquiry_fewestKnowers  N M Q := by
  unfold W_Inquiry_fewestKnowers
  refine an_World_inForce (fun r1 => ?_)
  refine an_Inquiry_fewestKnowers_16   hQ N _ _ _ trivial
theorem an_Inquiry_knownByOnly {p1 : Int32} {N : Nat} {M : MM} {Q : Int32 → Prop} (hQ : ∀ (r : Int32), Q r) : W_Inquiry_knownByOnly p1 N M Q := by
  unfold W_Inquiry_knownByOnly
  refine an_Inquiry_knownTogether (fun r1 => ?_)
  exact hQ _
theorem an_World_knowersOf_4 {a : Nat} {p1 : Int32} {M : MM} {Q : Int32 → Prop} (hQ : ∀ (r : Int32), Q r) : ∀ (N : Nat) (v2 : Int32) (v3 : Int32), True → W_World_knowersOf_4 a p1 M Q N v2 v3 := by
  refine I_World_knowersOf_4 a p1 M Q (fun _ _ => True) (fun N ih v2 v3 hih _ => ?_)
  unfold B_World_knowersOf_4
  refine ⟨fun _ => ?_, fun _ => ?_⟩
  · refine ⟨fun _ => ?_, fun _ => ?_⟩
    · exact hih _ _ trivial
    · refine ⟨fun _ => ?_, fun _ => ?_⟩
      · exact hih _ _ trivial
      · exact hih _ _ trivial
  · exact hQ _
theorem an_World_knowersOf {a : Nat} {p1 : Int32} {N : Nat} {M : MM} {Q : Int32 → Prop} (hQ : ∀ (r : Int32), Q r) : W_World_knowersOf a p1 N M Q := by
  unfold W_World_knowersOf
  refine an_World_knowersOf_4   hQ N _ _ trivial
theorem an_Inquiry_tellingsFor_29 {p1 : Int32} {u2 : Int32} {M : MM} {Q : Int32 → Prop} (hQ : ∀ (r : Int32), Q r) : ∀ (N : Nat) (v3 : Int32) (v4 : Int32), True → W_Inquiry_tellingsFor_29 p1 u2 M Q N v3 v4 := by
  refine I_Inquiry_tellingsFor_29 p1 u2 M Q (fun _ _ => True) (fun N ih v3 v4 hih _ => ?_)
  unfold B_Inquiry_tellingsFor_29
  refine ⟨fun _ => ?_, fun _ => ?_⟩
  · refine ⟨fun _ => ?_, fun _ => ?_⟩
    · refine an_World_knowersOf (fun r6 => ?_)
      exact hih _ _ trivial
    · exact hih _ _ trivial
  · exact hQ _
theorem an_Inquiry_tellingsFor {p1 : Int32} {N : Nat} {M : MM} {Q : Int32 → Prop} (hQ : ∀ (r : Int32), Q r) : W_Inquiry_tellingsFor p1 N M Q := by
  unfold W_Inquiry_tellingsFor
  refine ⟨fun _ => ?_, fun _ => ?_⟩
  · exact hQ _
  · refine an_World_inForce (fun r2 => ?_)
    refine an_Inquiry_tellingsFor_29   hQ N _ _ trivial
theorem an_Inquiry_firstFreePlace_11 {p1 : Int32} {p2 : Int32} {u3 : Int32} {M : MM} {Q : Int32 → Prop} (hQ : ∀ (r : Int32), Q r) : ∀ (N : Nat) (v4 : Int32), True → W_Inquiry_firstFreePlace_11 p1 p2 u3 M Q N v4 := by
  refine I_Inquiry_firstFreePlace_11 p1 p2 u3 M Q (fun _ => True) (fun N ih v4 hih _ => ?_)
  unfold B_Inquiry_firstFreePlace_11
  refine ⟨fun _ => ?_, fun _ => ?_⟩
  · refine an_Inquiry_forbidding (fun r4 => ?_)
    refine ⟨fun _ => ?_, fun _ => ?_⟩
    · exact hQ _
    · exact hih _ trivial
  · exact hQ _
theorem an_Inquiry_firstFreePlace {p1 : Int32} {p2 : Int32} {N : Nat} {M : MM} {Q : Int32 → Prop} (hQ : ∀ (r : Int32), Q r) : W_Inquiry_firstFreePlace p1 p2 N M Q := by
  unfold W_Inquiry_firstFreePlace
  refine an_World_inForce (fun r1 => ?_)
  refine an_Inquiry_firstFreePlace_11   hQ N _ trivial
theorem an_Inquiry_deducedBy_4 {p1 : Int32} {M : MM} {Q : Int32 → Prop} (hQ : ∀ (r : Int32), Q r) : ∀ (N : Nat) (v2 : Int32) (v3 : Int32), True → W_Inquiry_deducedBy_4 p1 M Q N v2 v3 := by
  refine I_Inquiry_deducedBy_4 p1 M Q (fun _ _ => True) (fun N ih v2 v3 hih _ => ?_)
  unfold B_Inquiry_deducedBy_4
  refine ⟨fun _ => ?_, fun _ => ?_⟩
  · refine ⟨fun _ => ?_, fun _ => ?_⟩
    · exact hih _ _ trivial
    · refine an_Inquiry_forbidding (fun r3 => ?_)
      exact hih _ _ trivial
  · refine an_World_inForce (fun r5 => ?_)
    exact hQ _
theorem an_Inquiry_deducedBy {p1 : Int32} {N : Nat} {M : MM} {Q : Int32 → Prop} (hQ : ∀ (r : Int32), Q r) : W_Inquiry_deducedBy p1 N M Q := by
  unfold W_Inquiry_deducedBy
  refine an_Inquiry_deducedBy_4   hQ N _ _ trivial
theorem an_Inquiry_isAllowedToAny_2 {p1 : Int32} {M : MM} {Q : Int32 → Prop} (hQ : ∀ (r : Int32), Q r) : ∀ (N : Nat) (v2 : Int32), True → W_Inquiry_isAllowedToAny_2 p1 M Q N v2 := by
  refine I_Inquiry_isAllowedToAny_2 p1 M Q (fun _ => True) (fun N ih v2 hih _ => ?_)
  unfold B_Inquiry_isAllowedToAny_2
  refine ⟨fun _ => ?_, fun _ => ?_⟩
  · refine ⟨fun _ => ?_, fun _ => ?_⟩
    · exact hih _ trivial
    · refine an_Inquiry_allows (fun r3 => ?_)
      refine ⟨fun _ => ?_, fun _ => ?_⟩
      · exact hih _ trivial
      · exact hQ _
  · exact hQ _
theorem an_Inquiry_isAllowedToAny {p1 : Int32} {N : Nat} {M : MM} {Q : Int32 → Prop} (hQ : ∀ (r : Int32), Q r) : W_Inquiry_isAllowedToAny p1 N M Q := by
  unfold W_Inquiry_isAllowedToAny
  refine an_Inquiry_isAllowedToAny_2   hQ N _ trivial
theorem an_Inquiry_hushedPlaces_4 {p1 : Int32} {M : MM} {Q : Int32 → Prop} (hQ : ∀ (r : Int32), Q r) : ∀ (N : Nat) (v2 : Int32) (v3 : Int32), True → W_Inquiry_hushedPlaces_4 p1 M Q N v2 v3 := by
  refine I_Inquiry_hushedPlaces_4 p1 M Q (fun _ _ => True) (fun N ih v2 v3 hih _ => ?_)
  unfold B_Inquiry_hushedPlaces_4
  refine ⟨fun _ => ?_, fun _ => ?_⟩
  · refine ⟨fun _ => ?_, fun _ => ?_⟩
    · exact hQ _
    · refine an_Inquiry_isAllowedToAny (fun r3 => ?_)
      refine ⟨fun _ => ?_, fun _ => ?_⟩
      · exact hih _ _ trivial
      · exact hih _ _ trivial
  · exact hQ _
theorem an_Inquiry_hushedPlaces {p1 : Int32} {N : Nat} {M : MM} {Q : Int32 → Prop} (hQ : ∀ (r : Int32), Q r) : W_Inquiry_hushedPlaces p1 N M Q := by
  unfold W_Inquiry_hushedPlaces
  refine an_Inquiry_hushedPlaces_4   hQ N _ _ trivial
theorem an_Inquiry_timesInHabits_18 {p1 : Int32} {u3 : Int32} {M : MM} {k66 : Int32 → Prop} {Q : Int32 → Prop} (hk66 : ∀ (v2 : Int32), k66 v2) (hQ : ∀ (r : Int32), Q r) : ∀ (N : Nat) (v2 : Int32) (v4 : Int32), True → W_Inquiry_timesInHabits_18 p1 u3 M k66 Q N v2 v4 := by
  refine I_Inquiry_timesInHabits_18 p1 u3 M k66 Q (fun _ _ => True) (fun N ih v2 v4 hih _ => ?_)
  unfold B_Inquiry_timesInHabits_18
  refine ⟨fun _ => ?_, fun _ => ?_⟩
  · refine ⟨fun _ => ?_, fun _ => ?_⟩
    · exact hk66 _
    · refine ⟨fun _ => ?_, fun _ => ?_⟩
      · exact hih _ _ trivial
      · exact hih _ _ trivial
  · exact hk66 _
theorem an_Inquiry_timesInHabits_4 {p1 : Int32} {M : MM} {Q : Int32 → Prop} (hQ : ∀ (r : Int32), Q r) : ∀ (N : Nat) (v2 : Int32) (v3 : Int32), True → W_Inquiry_timesInHabits_4 p1 M Q N v2 v3 := by
  refine I_Inquiry_timesInHabits_4 p1 M Q (fun _ _ => True) (fun N ih v2 v3 hih _ => ?_)
  unfold B_Inquiry_timesInHabits_4
  refine ⟨fun _ => ?_, fun _ => ?_⟩
  · refine an_Inquiry_timesInHabits_18  (fun x5 => ?_) hQ N _ _ trivial
    · exact hih _ _ trivial
  · exact hQ _
theorem an_Inquiry_timesInHabits {p1 : Int32} {N : Nat} {M : MM} {Q : Int32 → Prop} (hQ : ∀ (r : Int32), Q r) : W_Inquiry_timesInHabits p1 N M Q := by
  unfold W_Inquiry_timesInHabits
  refine an_Inquiry_timesInHabits_4   hQ N _ _ trivial
theorem an_Inquiry_usualDeed_7 {p1 : Int32} {M : MM} {Q : Int32 → Prop} (hQ : ∀ (r : Int32), Q r) : ∀ (N : Nat) (v2 : Int32) (v3 : Int32) (v4 : Int32), True → W_Inquiry_usualDeed_7 p1 M Q N v2 v3 v4 := by
  refine I_Inquiry_usualDeed_7 p1 M Q (fun _ _ _ => True) (fun N ih v2 v3 v4 hih _ => ?_)
  unfold B_Inquiry_usualDeed_7
  refine ⟨fun _ => ?_, fun _ => ?_⟩
  · refine an_Inquiry_timesInHabits (fun r2 => ?_)
    refine ⟨fun _ => ?_, fun _ => ?_⟩
    · exact hih _ _ _ trivial
    · exact hih _ _ _ trivial
  · exact hQ _
theorem an_Inquiry_usualDeed {p1 : Int32} {N : Nat} {M : MM} {Q : Int32 → Prop} (hQ : ∀ (r : Int32), Q r) : W_Inquiry_usualDeed p1 N M Q := by
  unfold W_Inquiry_usualDeed
  refine an_Inquiry_usualDeed_7   hQ N _ _ _ trivial
theorem an_Inquiry_worthOf {p1 : Int32} {p2 : Int32} {N : Nat} {M : MM} {Q : Int32 → Prop} (hQ : ∀ (r : Int32), Q r) : W_Inquiry_worthOf p1 p2 N M Q := by
  unfold W_Inquiry_worthOf
  refine ⟨fun _ => ?_, fun _ => ?_⟩
  · exact hQ _
  · refine ⟨fun _ => ?_, fun _ => ?_⟩
    · refine an_Inquiry_forbiddenTo (fun r3 => ?_)
      refine ⟨fun _ => ?_, fun _ => ?_⟩
      · exact hQ _
      · exact hQ _
    · exact hQ _
theorem an_Inquiry_mostWorth_5 {p1 : Int32} {p2 : Int32} {M : MM} {Q : Int32 → Prop} (hQ : ∀ (r : Int32), Q r) : ∀ (N : Nat) (v3 : Int32) (v4 : Int32), True → W_Inquiry_mostWorth_5 p1 p2 M Q N v3 v4 := by
  refine I_Inquiry_mostWorth_5 p1 p2 M Q (fun _ _ => True) (fun N ih v3 v4 hih _ => ?_)
  unfold B_Inquiry_mostWorth_5
  refine ⟨fun _ => ?_, fun _ => ?_⟩
  · refine ⟨fun _ => ?_, fun _ => ?_⟩
    · exact hih _ _ trivial
    · refine ⟨fun _ => ?_, fun _ => ?_⟩
      · exact hih _ _ trivial
      · refine an_Inquiry_worthOf (fun r4 => ?_)
        refine an_Inquiry_worthOf (fun r6 => ?_)
        refine ⟨fun _ => ?_, fun _ => ?_⟩
        · exact hih _ _ trivial
        · exact hih _ _ trivial
  · exact hQ _
theorem an_Inquiry_mostWorth {p1 : Int32} {p2 : Int32} {N : Nat} {M : MM} {Q : Int32 → Prop} (hQ : ∀ (r : Int32), Q r) : W_Inquiry_mostWorth p1 p2 N M Q := by
  unfold W_Inquiry_mostWorth
  refine an_Inquiry_mostWorth_5   hQ N _ _ trivial
theorem an_Inquiry_crowdAt_5 {p1 : Int32} {p2 : Int32} {M : MM} {Q : Int32 → Prop} (hQ : ∀ (r : Int32), Q r) : ∀ (N : Nat) (v3 : Int32) (v4 : Int32), True → W_Inquiry_crowdAt_5 p1 p2 M Q N v3 v4 := by
  refine I_Inquiry_crowdAt_5 p1 p2 M Q (fun _ _ => True) (fun N ih v3 v4 hih _ => ?_)
  unfold B_Inquiry_crowdAt_5
  refine ⟨fun _ => ?_, fun _ => ?_⟩
  · refine ⟨fun _ => ?_, fun _ => ?_⟩
    · exact hih _ _ trivial
    · refine ⟨fun _ => ?_, fun _ => ?_⟩
      · exact hih _ _ trivial
      · exact hih _ _ trivial
  · exact hQ _
theorem an_Inquiry_crowdAt {p1 : Int32} {p2 : Int32} {N : Nat} {M : MM} {Q : Int32 → Prop} (hQ : ∀ (r : Int32), Q r) : W_Inquiry_crowdAt p1 p2 N M Q := by
  unfold W_Inquiry_crowdAt
  refine an_Inquiry_crowdAt_5   hQ N _ _ trivial
theorem an_Inquiry_meetings_6 {p1 : Int32} {p2 : Int32} {p3 : Int32} {M : MM} {Q : Int32 → Prop} (hQ : ∀ (r : Int32), Q r) : ∀ (N : Nat) (v4 : Int32) (v5 : Int32), True → W_Inquiry_meetings_6 p1 p2 p3 M Q N v4 v5 := by
  refine I_Inquiry_meetings_6 p1 p2 p3 M Q (fun _ _ => True) (fun N ih v4 v5 hih _ => ?_)
  unfold B_Inquiry_meetings_6
  refine ⟨fun _ => ?_, fun _ => ?_⟩
  · refine ⟨fun _ => ?_, fun _ => ?_⟩
    · exact hih _ _ trivial
    · exact hih _ _ trivial
  · exact hQ _
theorem an_Inquiry_meetings {p1 : Int32} {p2 : Int32} {p3 : Int32} {N : Nat} {M : MM} {Q : Int32 → Prop} (hQ : ∀ (r : Int32), Q r) : W_Inquiry_meetings p1 p2 p3 N M Q := by
  unfold W_Inquiry_meetings
  refine an_Inquiry_meetings_6   hQ N _ _ trivial
def fp_Law_become (a : Nat) (b : Nat) : List (Nat × Nat × Option Nat) := [(a, a, some 0), (a, a, some 1), (a, a, some 2), (a, a, some 6), (a, a, some 8), ((a + 1), (a + 1), none), ((a + 2), (a + 2), none), ((a + 3), (a + 3), none), ((a + 4), (a + 4), none)]
theorem an_Law_become {a : Nat} {b : Nat} {N : Nat} {M : MM} {Q : MM → Prop} (hQ : ∀  (M1 : MM), Eqo (fp_Law_become a b) M M1 → Q M1) : W_Law_become a b N M Q := by
  unfold W_Law_become
  exact hQ _ (eqo_cp (eqo_cp (eqo_cp (eqo_cp (eqo_wi (eqo_wi (eqo_wi (eqo_wi (eqo_wi (eqo_rf _) (i := 0) rfl (Or.inr rfl)) (i := 1) rfl (Or.inr rfl)) (i := 2) rfl (Or.inr rfl)) (i := 3) rfl (Or.inr rfl)) (i := 4) rfl (Or.inr rfl)) (i := 5) rfl (Or.inl rfl)) (i := 6) rfl (Or.inl rfl)) (i := 7) rfl (Or.inl rfl)) (i := 8) rfl (Or.inl rfl))
def fp_Law_clear (a : Nat) : List (Nat × Nat × Option Nat) := [(a, a, some 0), (a, a, some 1), (a, a, some 2), (a, a, some 6), (a, a, some 8)]
theorem an_Law_clear {a : Nat} {N : Nat} {M : MM} {Q : MM → Prop} (hQ : ∀  (M1 : MM), Eqo (fp_Law_clear a) M M1 → Q M1) : W_Law_clear a N M Q := by
  unfold W_Law_clear
  exact hQ _ (eqo_wi (eqo_wi (eqo_wi (eqo_wi (eqo_wi (eqo_rf _) (i := 0) rfl (Or.inr rfl)) (i := 1) rfl (Or.inr rfl)) (i := 2) rfl (Or.inr rfl)) (i := 3) rfl (Or.inr rfl)) (i := 4) rfl (Or.inr rfl))
def fp_Law_addStep (a : Nat) : List (Nat × Nat × Option Nat) := [((a + 3), (a + 3), none), (a, a, some 6)]
theorem an_Law_addStep {a : Nat} {p1 : Int32} {N : Nat} {M : MM} {Q : MM → Prop} (hQ : ∀  (M1 : MM), Eqo (fp_Law_addStep a) M M1 → Q M1) : W_Law_addStep a p1 N M Q := by
  unfold W_Law_addStep
  refine ⟨fun _ => ?_, fun _ => ?_⟩
  · exact hQ _ (eqo_wi (eqo_wi (eqo_rf _) (i := 0) rfl (Or.inl rfl)) (i := 1) rfl (Or.inr rfl))
  · exact hQ _ (eqo_rf _)
def fp_Law_addTerms (a : Nat) : List (Nat × Nat × Option Nat) := [(a, a, some 8), ((a + 4), (a + 4), none)]
theorem an_Law_addTerms_20 {M0 : MM} {a : Nat} {u1 : Int32} {Q : Int32 → MM → Prop} (hQ : ∀ (r : Int32) (M1 : MM), Eqo (fp_Law_addTerms a) M0 M1 → Q r M1) : ∀ (N : Nat) (v2 : Int32) (M : MM), Eqo (fp_Law_addTerms a) M0 M → W_Law_addTerms_20 a u1 Q N v2 M := by
  refine I_Law_addTerms_20 a u1 Q (fun _ M => Eqo (fp_Law_addTerms a) M0 M) (fun N ih v2 M hih hM => ?_)
  unfold B_Law_addTerms_20
  refine ⟨fun _ => ?_, fun _ => ?_⟩
  · exact hih _ _ (eqo_wi hM (i := 1) rfl (Or.inl rfl))
  · exact hQ _ _ (eqo_wi hM (i := 0) rfl (Or.inr rfl))
theorem an_Law_addTerms {a : Nat} {N : Nat} {M : MM} {Q : Int32 → MM → Prop} (hQ : ∀ (r : Int32) (M1 : MM), Eqo (fp_Law_addTerms a) M M1 → Q r M1) : W_Law_addTerms a N M Q := by
  unfold W_Law_addTerms
  refine ⟨fun _ => ?_, fun _ => ?_⟩
  · exact hQ _ _ (eqo_rf _)
  · refine an_Law_addTerms_20   hQ N _ _ (eqo_rf _)
def fp_Law_addClause (a : Nat) : List (Nat × Nat × Option Nat) := [((a + 1), (a + 1), none), ((a + 2), (a + 2), none), (a, a, some 2), (a, a, some 1)]
theorem an_Law_addClause {a : Nat} {p1 : Int32} {p2 : Int32} {N : Nat} {M : MM} {Q : MM → Prop} (hQ : ∀  (M1 : MM), Eqo (fp_Law_addClause a) M M1 → Q M1) : W_Law_addClause a p1 p2 N M Q := by
  unfold W_Law_addClause
  refine ⟨fun _ => ?_, fun _ => ?_⟩
  · refine ⟨fun _ => ?_, fun _ => ?_⟩
    · exact hQ _ (eqo_wi (eqo_wi (eqo_wi (eqo_wi (eqo_rf _) (i := 0) rfl (Or.inl rfl)) (i := 1) rfl (Or.inl rfl)) (i := 2) rfl (Or.inr rfl)) (i := 3) rfl (Or.inr rfl))
    · exact hQ _ (eqo_wi (eqo_wi (eqo_wi (eqo_wi (eqo_rf _) (i := 0) rfl (Or.inl rfl)) (i := 1) rfl (Or.inl rfl)) (i := 2) rfl (Or.inr rfl)) (i := 3) rfl (Or.inr rfl))
  · exact hQ _ (eqo_rf _)
def fp_Text_goOn  : List (Nat × Nat × Option Nat) := [(3, 3, some 5)]
theorem an_Text_goOn  {N : Nat} {M : MM} {Q : MM → Prop} (hQ : ∀  (M1 : MM), Eqo fp_Text_goOn M M1 → Q M1) : W_Text_goOn  N M Q := by
  unfold W_Text_goOn
  exact hQ _ (eqo_wi (eqo_rf _) (i := 0) rfl (Or.inr rfl))
def fp_LawReader_readSum  : List (Nat × Nat × Option Nat) := [(17, 17, none), (3, 3, some 5)]
theorem an_LawReader_readSum_2 {M0 : MM} {p1 : Int32} {p2 : Int32} {Q : Int32 → MM → Prop} (hQ : ∀ (r : Int32) (M1 : MM), Eqo fp_LawReader_readSum M0 M1 → Q r M1) : ∀ (N : Nat) (v3 : Int32) (M : MM), Eqo fp_LawReader_readSum M0 M → W_LawReader_readSum_2 p1 p2 Q N v3 M := by
  refine I_LawReader_readSum_2 p1 p2 Q (fun _ M => Eqo fp_LawReader_readSum M0 M) (fun N ih v3 M hih hM => ?_)
  unfold B_LawReader_readSum_2
  refine ⟨fun _ => ?_, fun _ => ?_⟩
  · refine ⟨fun _ => ?_, fun _ => ?_⟩
    · refine ⟨fun _ => ?_, fun _ => ?_⟩
      · refine ⟨fun _ => ?_, fun _ => ?_⟩
        · refine an_Text_goOn (fun M6 hM6 => ?_)
          refine ⟨fun _ => ?_, fun _ => ?_⟩
          · refine an_Text_goOn (fun M9 hM9 => ?_)
            exact hih _ _ (eqo_tr (eqo_tr (eqo_wi hM (i := 0) rfl (Or.inl rfl)) (fps_cons (i := 1) rfl fps_nil) hM6) (fps_cons (i := 1) rfl fps_nil) hM9)
          · exact hQ _ _ (eqo_tr (eqo_wi hM (i := 0) rfl (Or.inl rfl)) (fps_cons (i := 1) rfl fps_nil) hM6)
        · refine ⟨fun _ => ?_, fun _ => ?_⟩
          · refine an_Text_goOn (fun M12 hM12 => ?_)
            refine ⟨fun _ => ?_, fun _ => ?_⟩
            · refine an_Text_goOn (fun M15 hM15 => ?_)
              exact hih _ _ (eqo_tr (eqo_tr (eqo_wi hM (i := 0) rfl (Or.inl rfl)) (fps_cons (i := 1) rfl fps_nil) hM12) (fps_cons (i := 1) rfl fps_nil) hM15)
            · exact hQ _ _ (eqo_tr (eqo_wi hM (i := 0) rfl (Or.inl rfl)) (fps_cons (i := 1) rfl fps_nil) hM12)
          · refine ⟨fun _ => ?_, fun _ => ?_⟩
            · refine an_Text_goOn (fun M18 hM18 => ?_)
              refine ⟨fun _ => ?_, fun _ => ?_⟩
              · refine an_Text_goOn (fun M21 hM21 => ?_)
                exact hih _ _ (eqo_tr (eqo_tr (eqo_wi hM (i := 0) rfl (Or.inl rfl)) (fps_cons (i := 1) rfl fps_nil) hM18) (fps_cons (i := 1) rfl fps_nil) hM21)
              · exact hQ _ _ (eqo_tr (eqo_wi hM (i := 0) rfl (Or.inl rfl)) (fps_cons (i := 1) rfl fps_nil) hM18)
            · refine ⟨fun _ => ?_, fun _ => ?_⟩
              · refine an_Text_goOn (fun M24 hM24 => ?_)
                refine ⟨fun _ => ?_, fun _ => ?_⟩
                · refine an_Text_goOn (fun M27 hM27 => ?_)
                  exact hih _ _ (eqo_tr (eqo_tr (eqo_wi hM (i := 0) rfl (Or.inl rfl)) (fps_cons (i := 1) rfl fps_nil) hM24) (fps_cons (i := 1) rfl fps_nil) hM27)
                · exact hQ _ _ (eqo_tr (eqo_wi hM (i := 0) rfl (Or.inl rfl)) (fps_cons (i := 1) rfl fps_nil) hM24)
              · exact hQ _ _ hM
      · refine an_Text_goOn (fun M29 hM29 => ?_)
        refine ⟨fun _ => ?_, fun _ => ?_⟩
        · refine an_Text_goOn (fun M32 hM32 => ?_)
          exact hih _ _ (eqo_tr (eqo_tr (eqo_wi hM (i := 0) rfl (Or.inl rfl)) (fps_cons (i := 1) rfl fps_nil) hM29) (fps_cons (i := 1) rfl fps_nil) hM32)
        · exact hQ _ _ (eqo_tr (eqo_wi hM (i := 0) rfl (Or.inl rfl)) (fps_cons (i := 1) rfl fps_nil) hM29)
    · refine ⟨fun _ => ?_, fun _ => ?_⟩
      · refine an_Text_goOn (fun M35 hM35 => ?_)
        refine ⟨fun _ => ?_, fun _ => ?_⟩
        · refine an_Text_goOn (fun M38 hM38 => ?_)
          exact hih _ _ (eqo_tr (eqo_tr (eqo_wi hM (i := 0) rfl (Or.inl rfl)) (fps_cons (i := 1) rfl fps_nil) hM35) (fps_cons (i := 1) rfl fps_nil) hM38)
        · exact hQ _ _ (eqo_tr (eqo_wi hM (i := 0) rfl (Or.inl rfl)) (fps_cons (i := 1) rfl fps_nil) hM35)
      · refine ⟨fun _ => ?_, fun _ => ?_⟩
        · refine an_Text_goOn (fun M41 hM41 => ?_)
          refine ⟨fun _ => ?_, fun _ => ?_⟩
          · refine an_Text_goOn (fun M44 hM44 => ?_)
            exact hih _ _ (eqo_tr (eqo_tr (eqo_wi hM (i := 0) rfl (Or.inl rfl)) (fps_cons (i := 1) rfl fps_nil) hM41) (fps_cons (i := 1) rfl fps_nil) hM44)
          · exact hQ _ _ (eqo_tr (eqo_wi hM (i := 0) rfl (Or.inl rfl)) (fps_cons (i := 1) rfl fps_nil) hM41)
        · refine ⟨fun _ => ?_, fun _ => ?_⟩
          · refine an_Text_goOn (fun M47 hM47 => ?_)
            refine ⟨fun _ => ?_, fun _ => ?_⟩
            · refine an_Text_goOn (fun M50 hM50 => ?_)
              exact hih _ _ (eqo_tr (eqo_tr (eqo_wi hM (i := 0) rfl (Or.inl rfl)) (fps_cons (i := 1) rfl fps_nil) hM47) (fps_cons (i := 1) rfl fps_nil) hM50)
            · exact hQ _ _ (eqo_tr (eqo_wi hM (i := 0) rfl (Or.inl rfl)) (fps_cons (i := 1) rfl fps_nil) hM47)
          · refine ⟨fun _ => ?_, fun _ => ?_⟩
            · refine an_Text_goOn (fun M53 hM53 => ?_)
              refine ⟨fun _ => ?_, fun _ => ?_⟩
              · refine an_Text_goOn (fun M56 hM56 => ?_)
                exact hih _ _ (eqo_tr (eqo_tr (eqo_wi hM (i := 0) rfl (Or.inl rfl)) (fps_cons (i := 1) rfl fps_nil) hM53) (fps_cons (i := 1) rfl fps_nil) hM56)
              · exact hQ _ _ (eqo_tr (eqo_wi hM (i := 0) rfl (Or.inl rfl)) (fps_cons (i := 1) rfl fps_nil) hM53)
            · exact hQ _ _ hM
  · exact hQ _ _ hM
theorem an_LawReader_readSum {p1 : Int32} {p2 : Int32} {N : Nat} {M : MM} {Q : Int32 → MM → Prop} (hQ : ∀ (r : Int32) (M1 : MM), Eqo fp_LawReader_readSum M M1 → Q r M1) : W_LawReader_readSum p1 p2 N M Q := by
  unfold W_LawReader_readSum
  refine an_LawReader_readSum_2   hQ N _ _ (eqo_rf _)
def fp_LawReader_readComparison  : List (Nat × Nat × Option Nat) := [(13, 13, some 8), (17, 17, none), (3, 3, some 5), (16, 16, none), (13, 13, some 6)]
theorem an_LawReader_readComparison_61 {M0 : MM} {u1 : Int32} {u2 : Int32} {k95 : MM → Prop} {Q : Int32 → MM → Prop} (hk95 : ∀  (M : MM), Eqo fp_LawReader_readComparison M0 M → k95 M) (hQ : ∀ (r : Int32) (M1 : MM), Eqo fp_LawReader_readComparison M0 M1 → Q r M1) : ∀ (N : Nat) (v3 : Int32) (M : MM), Eqo fp_LawReader_readComparison M0 M → W_LawReader_readComparison_61 u1 u2 k95 Q N v3 M := by
  refine I_LawReader_readComparison_61 u1 u2 k95 Q (fun _ M => Eqo fp_LawReader_readComparison M0 M) (fun N ih v3 M hih hM => ?_)
  unfold B_LawReader_readComparison_61
  refine ⟨fun _ => ?_, fun _ => ?_⟩
  · exact hih _ _ (eqo_wi hM (i := 1) rfl (Or.inl rfl))
  · exact hk95 _ hM
theorem an_LawReader_readComparison  {N : Nat} {M : MM} {Q : Int32 → MM → Prop} (hQ : ∀ (r : Int32) (M1 : MM), Eqo fp_LawReader_readComparison M M1 → Q r M1) : W_LawReader_readComparison  N M Q := by
  unfold W_LawReader_readComparison
  refine an_Law_addTerms (fun r1 M2 hM2 => ?_)
  refine ⟨fun _ => ?_, fun _ => ?_⟩
  · exact hQ _ _ (eqo_tr (eqo_rf _) (fps_cons (i := 0) rfl (fps_cons (i := 1) rfl fps_nil)) hM2)
  · refine an_LawReader_readSum (fun r4 M5 hM5 => ?_)
    refine ⟨fun _ => ?_, fun _ => ?_⟩
    · exact hQ _ _ (eqo_tr (eqo_tr (eqo_rf _) (fps_cons (i := 0) rfl (fps_cons (i := 1) rfl fps_nil)) hM2) (fps_cons (i := 1) rfl (fps_cons (i := 2) rfl fps_nil)) hM5)
    · refine ⟨fun _ => ?_, fun _ => ?_⟩
      · refine an_Text_goOn (fun M9 hM9 => ?_)
        refine ⟨fun _ => ?_, fun _ => ?_⟩
        · refine an_LawReader_readComparison_61  (fun M12 hMM12 => ?_) hQ N _ _ (eqo_tr (eqo_tr (eqo_tr (eqo_rf _) (fps_cons (i := 0) rfl (fps_cons (i := 1) rfl fps_nil)) hM2) (fps_cons (i := 1) rfl (fps_cons (i := 2) rfl fps_nil)) hM5) (fps_cons (i := 2) rfl fps_nil) hM9)
          · refine ⟨fun _ => ?_, fun _ => ?_⟩
            · refine an_LawReader_readSum (fun r14 M15 hM15 => ?_)
              refine ⟨fun _ => ?_, fun _ => ?_⟩
              · exact hQ _ _ (eqo_tr hMM12 (fps_cons (i := 1) rfl (fps_cons (i := 2) rfl fps_nil)) hM15)
              · refine an_Law_addStep (fun M18 hM18 => ?_)
                exact hQ _ _ (eqo_tr (eqo_tr hMM12 (fps_cons (i := 1) rfl (fps_cons (i := 2) rfl fps_nil)) hM15) (fps_cons (i := 3) rfl (fps_cons (i := 4) rfl fps_nil)) hM18)
            · refine an_LawReader_readSum (fun r19 M20 hM20 => ?_)
              refine ⟨fun _ => ?_, fun _ => ?_⟩
              · exact hQ _ _ (eqo_tr hMM12 (fps_cons (i := 1) rfl (fps_cons (i := 2) rfl fps_nil)) hM20)
              · refine an_Law_addStep (fun M23 hM23 => ?_)
                exact hQ _ _ (eqo_tr (eqo_tr hMM12 (fps_cons (i := 1) rfl (fps_cons (i := 2) rfl fps_nil)) hM20) (fps_cons (i := 3) rfl (fps_cons (i := 4) rfl fps_nil)) hM23)
        · refine ⟨fun _ => ?_, fun _ => ?_⟩
          · refine an_LawReader_readSum (fun r25 M26 hM26 => ?_)
            refine ⟨fun _ => ?_, fun _ => ?_⟩
            · exact hQ _ _ (eqo_tr (eqo_tr (eqo_tr (eqo_tr (eqo_rf _) (fps_cons (i := 0) rfl (fps_cons (i := 1) rfl fps_nil)) hM2) (fps_cons (i := 1) rfl (fps_cons (i := 2) rfl fps_nil)) hM5) (fps_cons (i := 2) rfl fps_nil) hM9) (fps_cons (i := 1) rfl (fps_cons (i := 2) rfl fps_nil)) hM26)
            · refine an_Law_addStep (fun M29 hM29 => ?_)
              exact hQ _ _ (eqo_tr (eqo_tr (eqo_tr (eqo_tr (eqo_tr (eqo_rf _) (fps_cons (i := 0) rfl (fps_cons (i := 1) rfl fps_nil)) hM2) (fps_cons (i := 1) rfl (fps_cons (i := 2) rfl fps_nil)) hM5) (fps_cons (i := 2) rfl fps_nil) hM9) (fps_cons (i := 1) rfl (fps_cons (i := 2) rfl fps_nil)) hM26) (fps_cons (i := 3) rfl (fps_cons (i := 4) rfl fps_nil)) hM29)
          · refine an_LawReader_readSum (fun r30 M31 hM31 => ?_)
            refine ⟨fun _ => ?_, fun _ => ?_⟩
            · exact hQ _ _ (eqo_tr (eqo_tr (eqo_tr (eqo_tr (eqo_rf _) (fps_cons (i := 0) rfl (fps_cons (i := 1) rfl fps_nil)) hM2) (fps_cons (i := 1) rfl (fps_cons (i := 2) rfl fps_nil)) hM5) (fps_cons (i := 2) rfl fps_nil) hM9) (fps_cons (i := 1) rfl (fps_cons (i := 2) rfl fps_nil)) hM31)
            · refine an_Law_addStep (fun M34 hM34 => ?_)
              exact hQ _ _ (eqo_tr (eqo_tr (eqo_tr (eqo_tr (eqo_tr (eqo_rf _) (fps_cons (i := 0) rfl (fps_cons (i := 1) rfl fps_nil)) hM2) (fps_cons (i := 1) rfl (fps_cons (i := 2) rfl fps_nil)) hM5) (fps_cons (i := 2) rfl fps_nil) hM9) (fps_cons (i := 1) rfl (fps_cons (i := 2) rfl fps_nil)) hM31) (fps_cons (i := 3) rfl (fps_cons (i := 4) rfl fps_nil)) hM34)
      · refine ⟨fun _ => ?_, fun _ => ?_⟩
        · refine an_Text_goOn (fun M37 hM37 => ?_)
          refine ⟨fun _ => ?_, fun _ => ?_⟩
          · refine an_LawReader_readComparison_61  (fun M39 hMM39 => ?_) hQ N _ _ (eqo_tr (eqo_tr (eqo_tr (eqo_rf _) (fps_cons (i := 0) rfl (fps_cons (i := 1) rfl fps_nil)) hM2) (fps_cons (i := 1) rfl (fps_cons (i := 2) rfl fps_nil)) hM5) (fps_cons (i := 2) rfl fps_nil) hM37)
            · refine ⟨fun _ => ?_, fun _ => ?_⟩
              · refine an_LawReader_readSum (fun r41 M42 hM42 => ?_)
                refine ⟨fun _ => ?_, fun _ => ?_⟩
                · exact hQ _ _ (eqo_tr hMM39 (fps_cons (i := 1) rfl (fps_cons (i := 2) rfl fps_nil)) hM42)
                · refine an_Law_addStep (fun M45 hM45 => ?_)
                  exact hQ _ _ (eqo_tr (eqo_tr hMM39 (fps_cons (i := 1) rfl (fps_cons (i := 2) rfl fps_nil)) hM42) (fps_cons (i := 3) rfl (fps_cons (i := 4) rfl fps_nil)) hM45)
              · refine an_LawReader_readSum (fun r46 M47 hM47 => ?_)
                refine ⟨fun _ => ?_, fun _ => ?_⟩
                · exact hQ _ _ (eqo_tr hMM39 (fps_cons (i := 1) rfl (fps_cons (i := 2) rfl fps_nil)) hM47)
                · refine an_Law_addStep (fun M50 hM50 => ?_)
                  exact hQ _ _ (eqo_tr (eqo_tr hMM39 (fps_cons (i := 1) rfl (fps_cons (i := 2) rfl fps_nil)) hM47) (fps_cons (i := 3) rfl (fps_cons (i := 4) rfl fps_nil)) hM50)
          · refine ⟨fun _ => ?_, fun _ => ?_⟩
            · refine an_LawReader_readSum (fun r52 M53 hM53 => ?_)
              refine ⟨fun _ => ?_, fun _ => ?_⟩
              · exact hQ _ _ (eqo_tr (eqo_tr (eqo_tr (eqo_tr (eqo_rf _) (fps_cons (i := 0) rfl (fps_cons (i := 1) rfl fps_nil)) hM2) (fps_cons (i := 1) rfl (fps_cons (i := 2) rfl fps_nil)) hM5) (fps_cons (i := 2) rfl fps_nil) hM37) (fps_cons (i := 1) rfl (fps_cons (i := 2) rfl fps_nil)) hM53)
              · refine an_Law_addStep (fun M56 hM56 => ?_)
                exact hQ _ _ (eqo_tr (eqo_tr (eqo_tr (eqo_tr (eqo_tr (eqo_rf _) (fps_cons (i := 0) rfl (fps_cons (i := 1) rfl fps_nil)) hM2) (fps_cons (i := 1) rfl (fps_cons (i := 2) rfl fps_nil)) hM5) (fps_cons (i := 2) rfl fps_nil) hM37) (fps_cons (i := 1) rfl (fps_cons (i := 2) rfl fps_nil)) hM53) (fps_cons (i := 3) rfl (fps_cons (i := 4) rfl fps_nil)) hM56)
            · refine an_LawReader_readSum (fun r57 M58 hM58 => ?_)
              refine ⟨fun _ => ?_, fun _ => ?_⟩
              · exact hQ _ _ (eqo_tr (eqo_tr (eqo_tr (eqo_tr (eqo_rf _) (fps_cons (i := 0) rfl (fps_cons (i := 1) rfl fps_nil)) hM2) (fps_cons (i := 1) rfl (fps_cons (i := 2) rfl fps_nil)) hM5) (fps_cons (i := 2) rfl fps_nil) hM37) (fps_cons (i := 1) rfl (fps_cons (i := 2) rfl fps_nil)) hM58)
              · refine an_Law_addStep (fun M61 hM61 => ?_)
                exact hQ _ _ (eqo_tr (eqo_tr (eqo_tr (eqo_tr (eqo_tr (eqo_rf _) (fps_cons (i := 0) rfl (fps_cons (i := 1) rfl fps_nil)) hM2) (fps_cons (i := 1) rfl (fps_cons (i := 2) rfl fps_nil)) hM5) (fps_cons (i := 2) rfl fps_nil) hM37) (fps_cons (i := 1) rfl (fps_cons (i := 2) rfl fps_nil)) hM58) (fps_cons (i := 3) rfl (fps_cons (i := 4) rfl fps_nil)) hM61)
        · exact hQ _ _ (eqo_tr (eqo_tr (eqo_rf _) (fps_cons (i := 0) rfl (fps_cons (i := 1) rfl fps_nil)) hM2) (fps_cons (i := 1) rfl (fps_cons (i := 2) rfl fps_nil)) hM5)
def fp_LawReader_readAtom_369  : List (Nat × Nat × Option Nat) := [(3, 3, some 5), (13, 13, some 8), (17, 17, none), (16, 16, none), (13, 13, some 6)]
theorem an_LawReader_readAtom_369 {p1 : Int32} {N : Nat} {M : MM} {Q : Int32 → MM → Prop} (hQ : ∀ (r : Int32) (M1 : MM), Eqo fp_LawReader_readAtom_369 M M1 → Q r M1) : W_LawReader_readAtom_369 p1 N M Q := by
  unfold W_LawReader_readAtom_369
  refine ⟨fun _ => ?_, fun _ => ?_⟩
  · refine an_Text_goOn (fun M3 hM3 => ?_)
    refine an_Law_addStep (fun M5 hM5 => ?_)
    exact hQ _ _ (eqo_tr (eqo_tr (eqo_rf _) (fps_cons (i := 0) rfl fps_nil) hM3) (fps_cons (i := 3) rfl (fps_cons (i := 4) rfl fps_nil)) hM5)
  · refine ⟨fun _ => ?_, fun _ => ?_⟩
    · refine ⟨fun _ => ?_, fun _ => ?_⟩
      · refine an_Text_goOn (fun M9 hM9 => ?_)
        refine ⟨fun _ => ?_, fun _ => ?_⟩
        · trivial
        · trivial
      · exact hQ _ _ (eqo_rf _)
    · refine ⟨fun _ => ?_, fun _ => ?_⟩
      · refine ⟨fun _ => ?_, fun _ => ?_⟩
        · refine an_Text_goOn (fun M14 hM14 => ?_)
          refine ⟨fun _ => ?_, fun _ => ?_⟩
          · trivial
          · trivial
        · exact hQ _ _ (eqo_rf _)
      · refine an_LawReader_readComparison (fun r16 M17 hM17 => ?_)
        exact hQ _ _ (eqo_tr (eqo_rf _) (fps_cons (i := 1) rfl (fps_cons (i := 2) rfl (fps_cons (i := 0) rfl (fps_cons (i := 3) rfl (fps_cons (i := 4) rfl fps_nil))))) hM17)
def fp_LawReader_readCondition_368  : List (Nat × Nat × Option Nat) := [(3, 3, some 5), (13, 13, some 8), (17, 17, none), (16, 16, none), (13, 13, some 6)]
theorem an_LawReader_readCondition_368_7 {M0 : MM} {p1 : Int32} {Q : Int32 → MM → Prop} (hQ : ∀ (r : Int32) (M1 : MM), Eqo fp_LawReader_readCondition_368 M0 M1 → Q r M1) : ∀ (N : Nat) (v2 : Int32) (v3 : Int32) (v4 : Int32) (M : MM), Eqo fp_LawReader_readCondition_368 M0 M → W_LawReader_readCondition_368_7 p1 Q N v2 v3 v4 M := by
  refine I_LawReader_readCondition_368_7 p1 Q (fun _ _ _ M => Eqo fp_LawReader_readCondition_368 M0 M) (fun N ih v2 v3 v4 M hih hM => ?_)
  unfold B_LawReader_readCondition_368_7
  refine ⟨fun _ => ?_, fun _ => ?_⟩
  · refine an_LawReader_readAtom_369 (fun r2 M3 hM3 => ?_)
    refine ⟨fun _ => ?_, fun _ => ?_⟩
    · exact hQ _ _ (eqo_tr hM (fps_cons (i := 0) rfl (fps_cons (i := 1) rfl (fps_cons (i := 2) rfl (fps_cons (i := 3) rfl (fps_cons (i := 4) rfl fps_nil))))) hM3)
    · refine ⟨fun _ => ?_, fun _ => ?_⟩
      · refine ⟨fun _ => ?_, fun _ => ?_⟩
        · refine an_Text_goOn (fun M9 hM9 => ?_)
          exact hih _ _ _ _ (eqo_tr (eqo_tr hM (fps_cons (i := 0) rfl (fps_cons (i := 1) rfl (fps_cons (i := 2) rfl (fps_cons (i := 3) rfl (fps_cons (i := 4) rfl fps_nil))))) hM3) (fps_cons (i := 0) rfl fps_nil) hM9)
        · refine ⟨fun _ => ?_, fun _ => ?_⟩
          · refine ⟨fun _ => ?_, fun _ => ?_⟩
            · refine an_Text_goOn (fun M15 hM15 => ?_)
              exact hih _ _ _ _ (eqo_tr (eqo_tr hM (fps_cons (i := 0) rfl (fps_cons (i := 1) rfl (fps_cons (i := 2) rfl (fps_cons (i := 3) rfl (fps_cons (i := 4) rfl fps_nil))))) hM3) (fps_cons (i := 0) rfl fps_nil) hM15)
            · exact hQ _ _ (eqo_tr hM (fps_cons (i := 0) rfl (fps_cons (i := 1) rfl (fps_cons (i := 2) rfl (fps_cons (i := 3) rfl (fps_cons (i := 4) rfl fps_nil))))) hM3)
          · refine an_Law_addStep (fun M18 hM18 => ?_)
            refine ⟨fun _ => ?_, fun _ => ?_⟩
            · refine an_Text_goOn (fun M22 hM22 => ?_)
              exact hih _ _ _ _ (eqo_tr (eqo_tr (eqo_tr hM (fps_cons (i := 0) rfl (fps_cons (i := 1) rfl (fps_cons (i := 2) rfl (fps_cons (i := 3) rfl (fps_cons (i := 4) rfl fps_nil))))) hM3) (fps_cons (i := 3) rfl (fps_cons (i := 4) rfl fps_nil)) hM18) (fps_cons (i := 0) rfl fps_nil) hM22)
            · exact hQ _ _ (eqo_tr (eqo_tr hM (fps_cons (i := 0) rfl (fps_cons (i := 1) rfl (fps_cons (i := 2) rfl (fps_cons (i := 3) rfl (fps_cons (i := 4) rfl fps_nil))))) hM3) (fps_cons (i := 3) rfl (fps_cons (i := 4) rfl fps_nil)) hM18)
      · refine an_Law_addStep (fun M25 hM25 => ?_)
        refine ⟨fun _ => ?_, fun _ => ?_⟩
        · refine an_Text_goOn (fun M29 hM29 => ?_)
          exact hih _ _ _ _ (eqo_tr (eqo_tr (eqo_tr hM (fps_cons (i := 0) rfl (fps_cons (i := 1) rfl (fps_cons (i := 2) rfl (fps_cons (i := 3) rfl (fps_cons (i := 4) rfl fps_nil))))) hM3) (fps_cons (i := 3) rfl (fps_cons (i := 4) rfl fps_nil)) hM25) (fps_cons (i := 0) rfl fps_nil) hM29)
        · refine ⟨fun _ => ?_, fun _ => ?_⟩
          · refine ⟨fun _ => ?_, fun _ => ?_⟩
            · refine an_Text_goOn (fun M35 hM35 => ?_)
              exact hih _ _ _ _ (eqo_tr (eqo_tr (eqo_tr hM (fps_cons (i := 0) rfl (fps_cons (i := 1) rfl (fps_cons (i := 2) rfl (fps_cons (i := 3) rfl (fps_cons (i := 4) rfl fps_nil))))) hM3) (fps_cons (i := 3) rfl (fps_cons (i := 4) rfl fps_nil)) hM25) (fps_cons (i := 0) rfl fps_nil) hM35)
            · exact hQ _ _ (eqo_tr (eqo_tr hM (fps_cons (i := 0) rfl (fps_cons (i := 1) rfl (fps_cons (i := 2) rfl (fps_cons (i := 3) rfl (fps_cons (i := 4) rfl fps_nil))))) hM3) (fps_cons (i := 3) rfl (fps_cons (i := 4) rfl fps_nil)) hM25)
          · refine an_Law_addStep (fun M38 hM38 => ?_)
            refine ⟨fun _ => ?_, fun _ => ?_⟩
            · refine an_Text_goOn (fun M42 hM42 => ?_)
              exact hih _ _ _ _ (eqo_tr (eqo_tr (eqo_tr (eqo_tr hM (fps_cons (i := 0) rfl (fps_cons (i := 1) rfl (fps_cons (i := 2) rfl (fps_cons (i := 3) rfl (fps_cons (i := 4) rfl fps_nil))))) hM3) (fps_cons (i := 3) rfl (fps_cons (i := 4) rfl fps_nil)) hM25) (fps_cons (i := 3) rfl (fps_cons (i := 4) rfl fps_nil)) hM38) (fps_cons (i := 0) rfl fps_nil) hM42)
            · exact hQ _ _ (eqo_tr (eqo_tr (eqo_tr hM (fps_cons (i := 0) rfl (fps_cons (i := 1) rfl (fps_cons (i := 2) rfl (fps_cons (i := 3) rfl (fps_cons (i := 4) rfl fps_nil))))) hM3) (fps_cons (i := 3) rfl (fps_cons (i := 4) rfl fps_nil)) hM25) (fps_cons (i := 3) rfl (fps_cons (i := 4) rfl fps_nil)) hM38)
  · exact hQ _ _ hM
theorem an_LawReader_readCondition_368 {p1 : Int32} {N : Nat} {M : MM} {Q : Int32 → MM → Prop} (hQ : ∀ (r : Int32) (M1 : MM), Eqo fp_LawReader_readCondition_368 M M1 → Q r M1) : W_LawReader_readCondition_368 p1 N M Q := by
  unfold W_LawReader_readCondition_368
  refine an_LawReader_readCondition_368_7   hQ N _ _ _ _ (eqo_rf _)
def fp_LawReader_readAtom_367  : List (Nat × Nat × Option Nat) := [(3, 3, some 5), (13, 13, some 8), (17, 17, none), (16, 16, none), (13, 13, some 6)]
theorem an_LawReader_readAtom_367 {p1 : Int32} {N : Nat} {M : MM} {Q : Int32 → MM → Prop} (hQ : ∀ (r : Int32) (M1 : MM), Eqo fp_LawReader_readAtom_367 M M1 → Q r M1) : W_LawReader_readAtom_367 p1 N M Q := by
  unfold W_LawReader_readAtom_367
  refine ⟨fun _ => ?_, fun _ => ?_⟩
  · refine an_Text_goOn (fun M3 hM3 => ?_)
    refine an_Law_addStep (fun M5 hM5 => ?_)
    exact hQ _ _ (eqo_tr (eqo_tr (eqo_rf _) (fps_cons (i := 0) rfl fps_nil) hM3) (fps_cons (i := 3) rfl (fps_cons (i := 4) rfl fps_nil)) hM5)
  · refine ⟨fun _ => ?_, fun _ => ?_⟩
    · refine ⟨fun _ => ?_, fun _ => ?_⟩
      · refine an_Text_goOn (fun M9 hM9 => ?_)
        refine ⟨fun _ => ?_, fun _ => ?_⟩
        · refine an_LawReader_readAtom_369 (fun r11 M12 hM12 => ?_)
          refine ⟨fun _ => ?_, fun _ => ?_⟩
          · exact hQ _ _ (eqo_tr (eqo_tr (eqo_rf _) (fps_cons (i := 0) rfl fps_nil) hM9) (fps_cons (i := 0) rfl (fps_cons (i := 1) rfl (fps_cons (i := 2) rfl (fps_cons (i := 3) rfl (fps_cons (i := 4) rfl fps_nil))))) hM12)
          · refine an_Law_addStep (fun M15 hM15 => ?_)
            exact hQ _ _ (eqo_tr (eqo_tr (eqo_tr (eqo_rf _) (fps_cons (i := 0) rfl fps_nil) hM9) (fps_cons (i := 0) rfl (fps_cons (i := 1) rfl (fps_cons (i := 2) rfl (fps_cons (i := 3) rfl (fps_cons (i := 4) rfl fps_nil))))) hM12) (fps_cons (i := 3) rfl (fps_cons (i := 4) rfl fps_nil)) hM15)
        · refine an_LawReader_readCondition_368 (fun r16 M17 hM17 => ?_)
          refine ⟨fun _ => ?_, fun _ => ?_⟩
          · exact hQ _ _ (eqo_tr (eqo_tr (eqo_rf _) (fps_cons (i := 0) rfl fps_nil) hM9) (fps_cons (i := 0) rfl (fps_cons (i := 1) rfl (fps_cons (i := 2) rfl (fps_cons (i := 3) rfl (fps_cons (i := 4) rfl fps_nil))))) hM17)
          · refine ⟨fun _ => ?_, fun _ => ?_⟩
            · refine an_Text_goOn (fun M21 hM21 => ?_)
              exact hQ _ _ (eqo_tr (eqo_tr (eqo_tr (eqo_rf _) (fps_cons (i := 0) rfl fps_nil) hM9) (fps_cons (i := 0) rfl (fps_cons (i := 1) rfl (fps_cons (i := 2) rfl (fps_cons (i := 3) rfl (fps_cons (i := 4) rfl fps_nil))))) hM17) (fps_cons (i := 0) rfl fps_nil) hM21)
            · exact hQ _ _ (eqo_tr (eqo_tr (eqo_rf _) (fps_cons (i := 0) rfl fps_nil) hM9) (fps_cons (i := 0) rfl (fps_cons (i := 1) rfl (fps_cons (i := 2) rfl (fps_cons (i := 3) rfl (fps_cons (i := 4) rfl fps_nil))))) hM17)
      · exact hQ _ _ (eqo_rf _)
    · refine ⟨fun _ => ?_, fun _ => ?_⟩
      · refine ⟨fun _ => ?_, fun _ => ?_⟩
        · refine an_Text_goOn (fun M25 hM25 => ?_)
          refine ⟨fun _ => ?_, fun _ => ?_⟩
          · refine an_LawReader_readAtom_369 (fun r27 M28 hM28 => ?_)
            refine ⟨fun _ => ?_, fun _ => ?_⟩
            · exact hQ _ _ (eqo_tr (eqo_tr (eqo_rf _) (fps_cons (i := 0) rfl fps_nil) hM25) (fps_cons (i := 0) rfl (fps_cons (i := 1) rfl (fps_cons (i := 2) rfl (fps_cons (i := 3) rfl (fps_cons (i := 4) rfl fps_nil))))) hM28)
            · refine an_Law_addStep (fun M31 hM31 => ?_)
              exact hQ _ _ (eqo_tr (eqo_tr (eqo_tr (eqo_rf _) (fps_cons (i := 0) rfl fps_nil) hM25) (fps_cons (i := 0) rfl (fps_cons (i := 1) rfl (fps_cons (i := 2) rfl (fps_cons (i := 3) rfl (fps_cons (i := 4) rfl fps_nil))))) hM28) (fps_cons (i := 3) rfl (fps_cons (i := 4) rfl fps_nil)) hM31)
          · refine an_LawReader_readCondition_368 (fun r32 M33 hM33 => ?_)
            refine ⟨fun _ => ?_, fun _ => ?_⟩
            · exact hQ _ _ (eqo_tr (eqo_tr (eqo_rf _) (fps_cons (i := 0) rfl fps_nil) hM25) (fps_cons (i := 0) rfl (fps_cons (i := 1) rfl (fps_cons (i := 2) rfl (fps_cons (i := 3) rfl (fps_cons (i := 4) rfl fps_nil))))) hM33)
            · refine ⟨fun _ => ?_, fun _ => ?_⟩
              · refine an_Text_goOn (fun M37 hM37 => ?_)
                exact hQ _ _ (eqo_tr (eqo_tr (eqo_tr (eqo_rf _) (fps_cons (i := 0) rfl fps_nil) hM25) (fps_cons (i := 0) rfl (fps_cons (i := 1) rfl (fps_cons (i := 2) rfl (fps_cons (i := 3) rfl (fps_cons (i := 4) rfl fps_nil))))) hM33) (fps_cons (i := 0) rfl fps_nil) hM37)
              · exact hQ _ _ (eqo_tr (eqo_tr (eqo_rf _) (fps_cons (i := 0) rfl fps_nil) hM25) (fps_cons (i := 0) rfl (fps_cons (i := 1) rfl (fps_cons (i := 2) rfl (fps_cons (i := 3) rfl (fps_cons (i := 4) rfl fps_nil))))) hM33)
        · exact hQ _ _ (eqo_rf _)
      · refine an_LawReader_readComparison (fun r38 M39 hM39 => ?_)
        exact hQ _ _ (eqo_tr (eqo_rf _) (fps_cons (i := 1) rfl (fps_cons (i := 2) rfl (fps_cons (i := 0) rfl (fps_cons (i := 3) rfl (fps_cons (i := 4) rfl fps_nil))))) hM39)
def fp_LawReader_readCondition_366  : List (Nat × Nat × Option Nat) := [(3, 3, some 5), (13, 13, some 8), (17, 17, none), (16, 16, none), (13, 13, some 6)]
theorem an_LawReader_readCondition_366_7 {M0 : MM} {p1 : Int32} {Q : Int32 → MM → Prop} (hQ : ∀ (r : Int32) (M1 : MM), Eqo fp_LawReader_readCondition_366 M0 M1 → Q r M1) : ∀ (N : Nat) (v2 : Int32) (v3 : Int32) (v4 : Int32) (M : MM), Eqo fp_LawReader_readCondition_366 M0 M → W_LawReader_readCondition_366_7 p1 Q N v2 v3 v4 M := by
  refine I_LawReader_readCondition_366_7 p1 Q (fun _ _ _ M => Eqo fp_LawReader_readCondition_366 M0 M) (fun N ih v2 v3 v4 M hih hM => ?_)
  unfold B_LawReader_readCondition_366_7
  refine ⟨fun _ => ?_, fun _ => ?_⟩
  · refine an_LawReader_readAtom_367 (fun r2 M3 hM3 => ?_)
    refine ⟨fun _ => ?_, fun _ => ?_⟩
    · exact hQ _ _ (eqo_tr hM (fps_cons (i := 0) rfl (fps_cons (i := 1) rfl (fps_cons (i := 2) rfl (fps_cons (i := 3) rfl (fps_cons (i := 4) rfl fps_nil))))) hM3)
    · refine ⟨fun _ => ?_, fun _ => ?_⟩
      · refine ⟨fun _ => ?_, fun _ => ?_⟩
        · refine an_Text_goOn (fun M9 hM9 => ?_)
          exact hih _ _ _ _ (eqo_tr (eqo_tr hM (fps_cons (i := 0) rfl (fps_cons (i := 1) rfl (fps_cons (i := 2) rfl (fps_cons (i := 3) rfl (fps_cons (i := 4) rfl fps_nil))))) hM3) (fps_cons (i := 0) rfl fps_nil) hM9)
        · refine ⟨fun _ => ?_, fun _ => ?_⟩
          · refine ⟨fun _ => ?_, fun _ => ?_⟩
            · refine an_Text_goOn (fun M15 hM15 => ?_)
              exact hih _ _ _ _ (eqo_tr (eqo_tr hM (fps_cons (i := 0) rfl (fps_cons (i := 1) rfl (fps_cons (i := 2) rfl (fps_cons (i := 3) rfl (fps_cons (i := 4) rfl fps_nil))))) hM3) (fps_cons (i := 0) rfl fps_nil) hM15)
            · exact hQ _ _ (eqo_tr hM (fps_cons (i := 0) rfl (fps_cons (i := 1) rfl (fps_cons (i := 2) rfl (fps_cons (i := 3) rfl (fps_cons (i := 4) rfl fps_nil))))) hM3)
          · refine an_Law_addStep (fun M18 hM18 => ?_)
            refine ⟨fun _ => ?_, fun _ => ?_⟩
            · refine an_Text_goOn (fun M22 hM22 => ?_)
              exact hih _ _ _ _ (eqo_tr (eqo_tr (eqo_tr hM (fps_cons (i := 0) rfl (fps_cons (i := 1) rfl (fps_cons (i := 2) rfl (fps_cons (i := 3) rfl (fps_cons (i := 4) rfl fps_nil))))) hM3) (fps_cons (i := 3) rfl (fps_cons (i := 4) rfl fps_nil)) hM18) (fps_cons (i := 0) rfl fps_nil) hM22)
            · exact hQ _ _ (eqo_tr (eqo_tr hM (fps_cons (i := 0) rfl (fps_cons (i := 1) rfl (fps_cons (i := 2) rfl (fps_cons (i := 3) rfl (fps_cons (i := 4) rfl fps_nil))))) hM3) (fps_cons (i := 3) rfl (fps_cons (i := 4) rfl fps_nil)) hM18)
      · refine an_Law_addStep (fun M25 hM25 => ?_)
        refine ⟨fun _ => ?_, fun _ => ?_⟩
        · refine an_Text_goOn (fun M29 hM29 => ?_)
          exact hih _ _ _ _ (eqo_tr (eqo_tr (eqo_tr hM (fps_cons (i := 0) rfl (fps_cons (i := 1) rfl (fps_cons (i := 2) rfl (fps_cons (i := 3) rfl (fps_cons (i := 4) rfl fps_nil))))) hM3) (fps_cons (i := 3) rfl (fps_cons (i := 4) rfl fps_nil)) hM25) (fps_cons (i := 0) rfl fps_nil) hM29)
        · refine ⟨fun _ => ?_, fun _ => ?_⟩
          · refine ⟨fun _ => ?_, fun _ => ?_⟩
            · refine an_Text_goOn (fun M35 hM35 => ?_)
              exact hih _ _ _ _ (eqo_tr (eqo_tr (eqo_tr hM (fps_cons (i := 0) rfl (fps_cons (i := 1) rfl (fps_cons (i := 2) rfl (fps_cons (i := 3) rfl (fps_cons (i := 4) rfl fps_nil))))) hM3) (fps_cons (i := 3) rfl (fps_cons (i := 4) rfl fps_nil)) hM25) (fps_cons (i := 0) rfl fps_nil) hM35)
            · exact hQ _ _ (eqo_tr (eqo_tr hM (fps_cons (i := 0) rfl (fps_cons (i := 1) rfl (fps_cons (i := 2) rfl (fps_cons (i := 3) rfl (fps_cons (i := 4) rfl fps_nil))))) hM3) (fps_cons (i := 3) rfl (fps_cons (i := 4) rfl fps_nil)) hM25)
          · refine an_Law_addStep (fun M38 hM38 => ?_)
            refine ⟨fun _ => ?_, fun _ => ?_⟩
            · refine an_Text_goOn (fun M42 hM42 => ?_)
              exact hih _ _ _ _ (eqo_tr (eqo_tr (eqo_tr (eqo_tr hM (fps_cons (i := 0) rfl (fps_cons (i := 1) rfl (fps_cons (i := 2) rfl (fps_cons (i := 3) rfl (fps_cons (i := 4) rfl fps_nil))))) hM3) (fps_cons (i := 3) rfl (fps_cons (i := 4) rfl fps_nil)) hM25) (fps_cons (i := 3) rfl (fps_cons (i := 4) rfl fps_nil)) hM38) (fps_cons (i := 0) rfl fps_nil) hM42)
            · exact hQ _ _ (eqo_tr (eqo_tr (eqo_tr hM (fps_cons (i := 0) rfl (fps_cons (i := 1) rfl (fps_cons (i := 2) rfl (fps_cons (i := 3) rfl (fps_cons (i := 4) rfl fps_nil))))) hM3) (fps_cons (i := 3) rfl (fps_cons (i := 4) rfl fps_nil)) hM25) (fps_cons (i := 3) rfl (fps_cons (i := 4) rfl fps_nil)) hM38)
  · exact hQ _ _ hM
theorem an_LawReader_readCondition_366 {p1 : Int32} {N : Nat} {M : MM} {Q : Int32 → MM → Prop} (hQ : ∀ (r : Int32) (M1 : MM), Eqo fp_LawReader_readCondition_366 M M1 → Q r M1) : W_LawReader_readCondition_366 p1 N M Q := by
  unfold W_LawReader_readCondition_366
  refine an_LawReader_readCondition_366_7   hQ N _ _ _ _ (eqo_rf _)
def fp_LawReader_readAtom_365  : List (Nat × Nat × Option Nat) := [(3, 3, some 5), (13, 13, some 8), (17, 17, none), (16, 16, none), (13, 13, some 6)]
theorem an_LawReader_readAtom_365 {p1 : Int32} {N : Nat} {M : MM} {Q : Int32 → MM → Prop} (hQ : ∀ (r : Int32) (M1 : MM), Eqo fp_LawReader_readAtom_365 M M1 → Q r M1) : W_LawReader_readAtom_365 p1 N M Q := by
  unfold W_LawReader_readAtom_365
  refine ⟨fun _ => ?_, fun _ => ?_⟩
  · refine an_Text_goOn (fun M3 hM3 => ?_)
    refine an_Law_addStep (fun M5 hM5 => ?_)
    exact hQ _ _ (eqo_tr (eqo_tr (eqo_rf _) (fps_cons (i := 0) rfl fps_nil) hM3) (fps_cons (i := 3) rfl (fps_cons (i := 4) rfl fps_nil)) hM5)
  · refine ⟨fun _ => ?_, fun _ => ?_⟩
    · refine ⟨fun _ => ?_, fun _ => ?_⟩
      · refine an_Text_goOn (fun M9 hM9 => ?_)
        refine ⟨fun _ => ?_, fun _ => ?_⟩
        · refine an_LawReader_readAtom_367 (fun r11 M12 hM12 => ?_)
          refine ⟨fun _ => ?_, fun _ => ?_⟩
          · exact hQ _ _ (eqo_tr (eqo_tr (eqo_rf _) (fps_cons (i := 0) rfl fps_nil) hM9) (fps_cons (i := 0) rfl (fps_cons (i := 1) rfl (fps_cons (i := 2) rfl (fps_cons (i := 3) rfl (fps_cons (i := 4) rfl fps_nil))))) hM12)
          · refine an_Law_addStep (fun M15 hM15 => ?_)
            exact hQ _ _ (eqo_tr (eqo_tr (eqo_tr (eqo_rf _) (fps_cons (i := 0) rfl fps_nil) hM9) (fps_cons (i := 0) rfl (fps_cons (i := 1) rfl (fps_cons (i := 2) rfl (fps_cons (i := 3) rfl (fps_cons (i := 4) rfl fps_nil))))) hM12) (fps_cons (i := 3) rfl (fps_cons (i := 4) rfl fps_nil)) hM15)
        · refine an_LawReader_readCondition_366 (fun r16 M17 hM17 => ?_)
          refine ⟨fun _ => ?_, fun _ => ?_⟩
          · exact hQ _ _ (eqo_tr (eqo_tr (eqo_rf _) (fps_cons (i := 0) rfl fps_nil) hM9) (fps_cons (i := 0) rfl (fps_cons (i := 1) rfl (fps_cons (i := 2) rfl (fps_cons (i := 3) rfl (fps_cons (i := 4) rfl fps_nil))))) hM17)
          · refine ⟨fun _ => ?_, fun _ => ?_⟩
            · refine an_Text_goOn (fun M21 hM21 => ?_)
              exact hQ _ _ (eqo_tr (eqo_tr (eqo_tr (eqo_rf _) (fps_cons (i := 0) rfl fps_nil) hM9) (fps_cons (i := 0) rfl (fps_cons (i := 1) rfl (fps_cons (i := 2) rfl (fps_cons (i := 3) rfl (fps_cons (i := 4) rfl fps_nil))))) hM17) (fps_cons (i := 0) rfl fps_nil) hM21)
            · exact hQ _ _ (eqo_tr (eqo_tr (eqo_rf _) (fps_cons (i := 0) rfl fps_nil) hM9) (fps_cons (i := 0) rfl (fps_cons (i := 1) rfl (fps_cons (i := 2) rfl (fps_cons (i := 3) rfl (fps_cons (i := 4) rfl fps_nil))))) hM17)
      · exact hQ _ _ (eqo_rf _)
    · refine ⟨fun _ => ?_, fun _ => ?_⟩
      · refine ⟨fun _ => ?_, fun _ => ?_⟩
        · refine an_Text_goOn (fun M25 hM25 => ?_)
          refine ⟨fun _ => ?_, fun _ => ?_⟩
          · refine an_LawReader_readAtom_367 (fun r27 M28 hM28 => ?_)
            refine ⟨fun _ => ?_, fun _ => ?_⟩
            · exact hQ _ _ (eqo_tr (eqo_tr (eqo_rf _) (fps_cons (i := 0) rfl fps_nil) hM25) (fps_cons (i := 0) rfl (fps_cons (i := 1) rfl (fps_cons (i := 2) rfl (fps_cons (i := 3) rfl (fps_cons (i := 4) rfl fps_nil))))) hM28)
            · refine an_Law_addStep (fun M31 hM31 => ?_)
              exact hQ _ _ (eqo_tr (eqo_tr (eqo_tr (eqo_rf _) (fps_cons (i := 0) rfl fps_nil) hM25) (fps_cons (i := 0) rfl (fps_cons (i := 1) rfl (fps_cons (i := 2) rfl (fps_cons (i := 3) rfl (fps_cons (i := 4) rfl fps_nil))))) hM28) (fps_cons (i := 3) rfl (fps_cons (i := 4) rfl fps_nil)) hM31)
          · refine an_LawReader_readCondition_366 (fun r32 M33 hM33 => ?_)
            refine ⟨fun _ => ?_, fun _ => ?_⟩
            · exact hQ _ _ (eqo_tr (eqo_tr (eqo_rf _) (fps_cons (i := 0) rfl fps_nil) hM25) (fps_cons (i := 0) rfl (fps_cons (i := 1) rfl (fps_cons (i := 2) rfl (fps_cons (i := 3) rfl (fps_cons (i := 4) rfl fps_nil))))) hM33)
            · refine ⟨fun _ => ?_, fun _ => ?_⟩
              · refine an_Text_goOn (fun M37 hM37 => ?_)
                exact hQ _ _ (eqo_tr (eqo_tr (eqo_tr (eqo_rf _) (fps_cons (i := 0) rfl fps_nil) hM25) (fps_cons (i := 0) rfl (fps_cons (i := 1) rfl (fps_cons (i := 2) rfl (fps_cons (i := 3) rfl (fps_cons (i := 4) rfl fps_nil))))) hM33) (fps_cons (i := 0) rfl fps_nil) hM37)
              · exact hQ _ _ (eqo_tr (eqo_tr (eqo_rf _) (fps_cons (i := 0) rfl fps_nil) hM25) (fps_cons (i := 0) rfl (fps_cons (i := 1) rfl (fps_cons (i := 2) rfl (fps_cons (i := 3) rfl (fps_cons (i := 4) rfl fps_nil))))) hM33)
        · exact hQ _ _ (eqo_rf _)
      · refine an_LawReader_readComparison (fun r38 M39 hM39 => ?_)
        exact hQ _ _ (eqo_tr (eqo_rf _) (fps_cons (i := 1) rfl (fps_cons (i := 2) rfl (fps_cons (i := 0) rfl (fps_cons (i := 3) rfl (fps_cons (i := 4) rfl fps_nil))))) hM39)
def fp_LawReader_readCondition_364  : List (Nat × Nat × Option Nat) := [(3, 3, some 5), (13, 13, some 8), (17, 17, none), (16, 16, none), (13, 13, some 6)]
theorem an_LawReader_readCondition_364_7 {M0 : MM} {p1 : Int32} {Q : Int32 → MM → Prop} (hQ : ∀ (r : Int32) (M1 : MM), Eqo fp_LawReader_readCondition_364 M0 M1 → Q r M1) : ∀ (N : Nat) (v2 : Int32) (v3 : Int32) (v4 : Int32) (M : MM), Eqo fp_LawReader_readCondition_364 M0 M → W_LawReader_readCondition_364_7 p1 Q N v2 v3 v4 M := by
  refine I_LawReader_readCondition_364_7 p1 Q (fun _ _ _ M => Eqo fp_LawReader_readCondition_364 M0 M) (fun N ih v2 v3 v4 M hih hM => ?_)
  unfold B_LawReader_readCondition_364_7
  refine ⟨fun _ => ?_, fun _ => ?_⟩
  · refine an_LawReader_readAtom_365 (fun r2 M3 hM3 => ?_)
    refine ⟨fun _ => ?_, fun _ => ?_⟩
    · exact hQ _ _ (eqo_tr hM (fps_cons (i := 0) rfl (fps_cons (i := 1) rfl (fps_cons (i := 2) rfl (fps_cons (i := 3) rfl (fps_cons (i := 4) rfl fps_nil))))) hM3)
    · refine ⟨fun _ => ?_, fun _ => ?_⟩
      · refine ⟨fun _ => ?_, fun _ => ?_⟩
        · refine an_Text_goOn (fun M9 hM9 => ?_)
          exact hih _ _ _ _ (eqo_tr (eqo_tr hM (fps_cons (i := 0) rfl (fps_cons (i := 1) rfl (fps_cons (i := 2) rfl (fps_cons (i := 3) rfl (fps_cons (i := 4) rfl fps_nil))))) hM3) (fps_cons (i := 0) rfl fps_nil) hM9)
        · refine ⟨fun _ => ?_, fun _ => ?_⟩
          · refine ⟨fun _ => ?_, fun _ => ?_⟩
            · refine an_Text_goOn (fun M15 hM15 => ?_)
              exact hih _ _ _ _ (eqo_tr (eqo_tr hM (fps_cons (i := 0) rfl (fps_cons (i := 1) rfl (fps_cons (i := 2) rfl (fps_cons (i := 3) rfl (fps_cons (i := 4) rfl fps_nil))))) hM3) (fps_cons (i := 0) rfl fps_nil) hM15)
            · exact hQ _ _ (eqo_tr hM (fps_cons (i := 0) rfl (fps_cons (i := 1) rfl (fps_cons (i := 2) rfl (fps_cons (i := 3) rfl (fps_cons (i := 4) rfl fps_nil))))) hM3)
          · refine an_Law_addStep (fun M18 hM18 => ?_)
            refine ⟨fun _ => ?_, fun _ => ?_⟩
            · refine an_Text_goOn (fun M22 hM22 => ?_)
              exact hih _ _ _ _ (eqo_tr (eqo_tr (eqo_tr hM (fps_cons (i := 0) rfl (fps_cons (i := 1) rfl (fps_cons (i := 2) rfl (fps_cons (i := 3) rfl (fps_cons (i := 4) rfl fps_nil))))) hM3) (fps_cons (i := 3) rfl (fps_cons (i := 4) rfl fps_nil)) hM18) (fps_cons (i := 0) rfl fps_nil) hM22)
            · exact hQ _ _ (eqo_tr (eqo_tr hM (fps_cons (i := 0) rfl (fps_cons (i := 1) rfl (fps_cons (i := 2) rfl (fps_cons (i := 3) rfl (fps_cons (i := 4) rfl fps_nil))))) hM3) (fps_cons (i := 3) rfl (fps_cons (i := 4) rfl fps_nil)) hM18)
      · refine an_Law_addStep (fun M25 hM25 => ?_)
        refine ⟨fun _ => ?_, fun _ => ?_⟩
        · refine an_Text_goOn (fun M29 hM29 => ?_)
          exact hih _ _ _ _ (eqo_tr (eqo_tr (eqo_tr hM (fps_cons (i := 0) rfl (fps_cons (i := 1) rfl (fps_cons (i := 2) rfl (fps_cons (i := 3) rfl (fps_cons (i := 4) rfl fps_nil))))) hM3) (fps_cons (i := 3) rfl (fps_cons (i := 4) rfl fps_nil)) hM25) (fps_cons (i := 0) rfl fps_nil) hM29)
        · refine ⟨fun _ => ?_, fun _ => ?_⟩
          · refine ⟨fun _ => ?_, fun _ => ?_⟩
            · refine an_Text_goOn (fun M35 hM35 => ?_)
              exact hih _ _ _ _ (eqo_tr (eqo_tr (eqo_tr hM (fps_cons (i := 0) rfl (fps_cons (i := 1) rfl (fps_cons (i := 2) rfl (fps_cons (i := 3) rfl (fps_cons (i := 4) rfl fps_nil))))) hM3) (fps_cons (i := 3) rfl (fps_cons (i := 4) rfl fps_nil)) hM25) (fps_cons (i := 0) rfl fps_nil) hM35)
            · exact hQ _ _ (eqo_tr (eqo_tr hM (fps_cons (i := 0) rfl (fps_cons (i := 1) rfl (fps_cons (i := 2) rfl (fps_cons (i := 3) rfl (fps_cons (i := 4) rfl fps_nil))))) hM3) (fps_cons (i := 3) rfl (fps_cons (i := 4) rfl fps_nil)) hM25)
          · refine an_Law_addStep (fun M38 hM38 => ?_)
            refine ⟨fun _ => ?_, fun _ => ?_⟩
            · refine an_Text_goOn (fun M42 hM42 => ?_)
              exact hih _ _ _ _ (eqo_tr (eqo_tr (eqo_tr (eqo_tr hM (fps_cons (i := 0) rfl (fps_cons (i := 1) rfl (fps_cons (i := 2) rfl (fps_cons (i := 3) rfl (fps_cons (i := 4) rfl fps_nil))))) hM3) (fps_cons (i := 3) rfl (fps_cons (i := 4) rfl fps_nil)) hM25) (fps_cons (i := 3) rfl (fps_cons (i := 4) rfl fps_nil)) hM38) (fps_cons (i := 0) rfl fps_nil) hM42)
            · exact hQ _ _ (eqo_tr (eqo_tr (eqo_tr hM (fps_cons (i := 0) rfl (fps_cons (i := 1) rfl (fps_cons (i := 2) rfl (fps_cons (i := 3) rfl (fps_cons (i := 4) rfl fps_nil))))) hM3) (fps_cons (i := 3) rfl (fps_cons (i := 4) rfl fps_nil)) hM25) (fps_cons (i := 3) rfl (fps_cons (i := 4) rfl fps_nil)) hM38)
  · exact hQ _ _ hM
theorem an_LawReader_readCondition_364 {p1 : Int32} {N : Nat} {M : MM} {Q : Int32 → MM → Prop} (hQ : ∀ (r : Int32) (M1 : MM), Eqo fp_LawReader_readCondition_364 M M1 → Q r M1) : W_LawReader_readCondition_364 p1 N M Q := by
  unfold W_LawReader_readCondition_364
  refine an_LawReader_readCondition_364_7   hQ N _ _ _ _ (eqo_rf _)
def fp_LawReader_readAtom_363  : List (Nat × Nat × Option Nat) := [(3, 3, some 5), (13, 13, some 8), (17, 17, none), (16, 16, none), (13, 13, some 6)]
theorem an_LawReader_readAtom_363 {p1 : Int32} {N : Nat} {M : MM} {Q : Int32 → MM → Prop} (hQ : ∀ (r : Int32) (M1 : MM), Eqo fp_LawReader_readAtom_363 M M1 → Q r M1) : W_LawReader_readAtom_363 p1 N M Q := by
  unfold W_LawReader_readAtom_363
  refine ⟨fun _ => ?_, fun _ => ?_⟩
  · refine an_Text_goOn (fun M3 hM3 => ?_)
    refine an_Law_addStep (fun M5 hM5 => ?_)
    exact hQ _ _ (eqo_tr (eqo_tr (eqo_rf _) (fps_cons (i := 0) rfl fps_nil) hM3) (fps_cons (i := 3) rfl (fps_cons (i := 4) rfl fps_nil)) hM5)
  · refine ⟨fun _ => ?_, fun _ => ?_⟩
    · refine ⟨fun _ => ?_, fun _ => ?_⟩
      · refine an_Text_goOn (fun M9 hM9 => ?_)
        refine ⟨fun _ => ?_, fun _ => ?_⟩
        · refine an_LawReader_readAtom_365 (fun r11 M12 hM12 => ?_)
          refine ⟨fun _ => ?_, fun _ => ?_⟩
          · exact hQ _ _ (eqo_tr (eqo_tr (eqo_rf _) (fps_cons (i := 0) rfl fps_nil) hM9) (fps_cons (i := 0) rfl (fps_cons (i := 1) rfl (fps_cons (i := 2) rfl (fps_cons (i := 3) rfl (fps_cons (i := 4) rfl fps_nil))))) hM12)
          · refine an_Law_addStep (fun M15 hM15 => ?_)
            exact hQ _ _ (eqo_tr (eqo_tr (eqo_tr (eqo_rf _) (fps_cons (i := 0) rfl fps_nil) hM9) (fps_cons (i := 0) rfl (fps_cons (i := 1) rfl (fps_cons (i := 2) rfl (fps_cons (i := 3) rfl (fps_cons (i := 4) rfl fps_nil))))) hM12) (fps_cons (i := 3) rfl (fps_cons (i := 4) rfl fps_nil)) hM15)
        · refine an_LawReader_readCondition_364 (fun r16 M17 hM17 => ?_)
          refine ⟨fun _ => ?_, fun _ => ?_⟩
          · exact hQ _ _ (eqo_tr (eqo_tr (eqo_rf _) (fps_cons (i := 0) rfl fps_nil) hM9) (fps_cons (i := 0) rfl (fps_cons (i := 1) rfl (fps_cons (i := 2) rfl (fps_cons (i := 3) rfl (fps_cons (i := 4) rfl fps_nil))))) hM17)
          · refine ⟨fun _ => ?_, fun _ => ?_⟩
            · refine an_Text_goOn (fun M21 hM21 => ?_)
              exact hQ _ _ (eqo_tr (eqo_tr (eqo_tr (eqo_rf _) (fps_cons (i := 0) rfl fps_nil) hM9) (fps_cons (i := 0) rfl (fps_cons (i := 1) rfl (fps_cons (i := 2) rfl (fps_cons (i := 3) rfl (fps_cons (i := 4) rfl fps_nil))))) hM17) (fps_cons (i := 0) rfl fps_nil) hM21)
            · exact hQ _ _ (eqo_tr (eqo_tr (eqo_rf _) (fps_cons (i := 0) rfl fps_nil) hM9) (fps_cons (i := 0) rfl (fps_cons (i := 1) rfl (fps_cons (i := 2) rfl (fps_cons (i := 3) rfl (fps_cons (i := 4) rfl fps_nil))))) hM17)
      · exact hQ _ _ (eqo_rf _)
    · refine ⟨fun _ => ?_, fun _ => ?_⟩
      · refine ⟨fun _ => ?_, fun _ => ?_⟩
        · refine an_Text_goOn (fun M25 hM25 => ?_)
          refine ⟨fun _ => ?_, fun _ => ?_⟩
          · refine an_LawReader_readAtom_365 (fun r27 M28 hM28 => ?_)
            refine ⟨fun _ => ?_, fun _ => ?_⟩
            · exact hQ _ _ (eqo_tr (eqo_tr (eqo_rf _) (fps_cons (i := 0) rfl fps_nil) hM25) (fps_cons (i := 0) rfl (fps_cons (i := 1) rfl (fps_cons (i := 2) rfl (fps_cons (i := 3) rfl (fps_cons (i := 4) rfl fps_nil))))) hM28)
            · refine an_Law_addStep (fun M31 hM31 => ?_)
              exact hQ _ _ (eqo_tr (eqo_tr (eqo_tr (eqo_rf _) (fps_cons (i := 0) rfl fps_nil) hM25) (fps_cons (i := 0) rfl (fps_cons (i := 1) rfl (fps_cons (i := 2) rfl (fps_cons (i := 3) rfl (fps_cons (i := 4) rfl fps_nil))))) hM28) (fps_cons (i := 3) rfl (fps_cons (i := 4) rfl fps_nil)) hM31)
          · refine an_LawReader_readCondition_364 (fun r32 M33 hM33 => ?_)
            refine ⟨fun _ => ?_, fun _ => ?_⟩
            · exact hQ _ _ (eqo_tr (eqo_tr (eqo_rf _) (fps_cons (i := 0) rfl fps_nil) hM25) (fps_cons (i := 0) rfl (fps_cons (i := 1) rfl (fps_cons (i := 2) rfl (fps_cons (i := 3) rfl (fps_cons (i := 4) rfl fps_nil))))) hM33)
            · refine ⟨fun _ => ?_, fun _ => ?_⟩
              · refine an_Text_goOn (fun M37 hM37 => ?_)
                exact hQ _ _ (eqo_tr (eqo_tr (eqo_tr (eqo_rf _) (fps_cons (i := 0) rfl fps_nil) hM25) (fps_cons (i := 0) rfl (fps_cons (i := 1) rfl (fps_cons (i := 2) rfl (fps_cons (i := 3) rfl (fps_cons (i := 4) rfl fps_nil))))) hM33) (fps_cons (i := 0) rfl fps_nil) hM37)
              · exact hQ _ _ (eqo_tr (eqo_tr (eqo_rf _) (fps_cons (i := 0) rfl fps_nil) hM25) (fps_cons (i := 0) rfl (fps_cons (i := 1) rfl (fps_cons (i := 2) rfl (fps_cons (i := 3) rfl (fps_cons (i := 4) rfl fps_nil))))) hM33)
        · exact hQ _ _ (eqo_rf _)
      · refine an_LawReader_readComparison (fun r38 M39 hM39 => ?_)
        exact hQ _ _ (eqo_tr (eqo_rf _) (fps_cons (i := 1) rfl (fps_cons (i := 2) rfl (fps_cons (i := 0) rfl (fps_cons (i := 3) rfl (fps_cons (i := 4) rfl fps_nil))))) hM39)
def fp_LawReader_readCondition_362  : List (Nat × Nat × Option Nat) := [(3, 3, some 5), (13, 13, some 8), (17, 17, none), (16, 16, none), (13, 13, some 6)]
theorem an_LawReader_readCondition_362_7 {M0 : MM} {p1 : Int32} {Q : Int32 → MM → Prop} (hQ : ∀ (r : Int32) (M1 : MM), Eqo fp_LawReader_readCondition_362 M0 M1 → Q r M1) : ∀ (N : Nat) (v2 : Int32) (v3 : Int32) (v4 : Int32) (M : MM), Eqo fp_LawReader_readCondition_362 M0 M → W_LawReader_readCondition_362_7 p1 Q N v2 v3 v4 M := by
  refine I_LawReader_readCondition_362_7 p1 Q (fun _ _ _ M => Eqo fp_LawReader_readCondition_362 M0 M) (fun N ih v2 v3 v4 M hih hM => ?_)
  unfold B_LawReader_readCondition_362_7
  refine ⟨fun _ => ?_, fun _ => ?_⟩
  · refine an_LawReader_readAtom_363 (fun r2 M3 hM3 => ?_)
    refine ⟨fun _ => ?_, fun _ => ?_⟩
    · exact hQ _ _ (eqo_tr hM (fps_cons (i := 0) rfl (fps_cons (i := 1) rfl (fps_cons (i := 2) rfl (fps_cons (i := 3) rfl (fps_cons (i := 4) rfl fps_nil))))) hM3)
    · refine ⟨fun _ => ?_, fun _ => ?_⟩
      · refine ⟨fun _ => ?_, fun _ => ?_⟩
        · refine an_Text_goOn (fun M9 hM9 => ?_)
          exact hih _ _ _ _ (eqo_tr (eqo_tr hM (fps_cons (i := 0) rfl (fps_cons (i := 1) rfl (fps_cons (i := 2) rfl (fps_cons (i := 3) rfl (fps_cons (i := 4) rfl fps_nil))))) hM3) (fps_cons (i := 0) rfl fps_nil) hM9)
        · refine ⟨fun _ => ?_, fun _ => ?_⟩
          · refine ⟨fun _ => ?_, fun _ => ?_⟩
            · refine an_Text_goOn (fun M15 hM15 => ?_)
              exact hih _ _ _ _ (eqo_tr (eqo_tr hM (fps_cons (i := 0) rfl (fps_cons (i := 1) rfl (fps_cons (i := 2) rfl (fps_cons (i := 3) rfl (fps_cons (i := 4) rfl fps_nil))))) hM3) (fps_cons (i := 0) rfl fps_nil) hM15)
            · exact hQ _ _ (eqo_tr hM (fps_cons (i := 0) rfl (fps_cons (i := 1) rfl (fps_cons (i := 2) rfl (fps_cons (i := 3) rfl (fps_cons (i := 4) rfl fps_nil))))) hM3)
          · refine an_Law_addStep (fun M18 hM18 => ?_)
            refine ⟨fun _ => ?_, fun _ => ?_⟩
            · refine an_Text_goOn (fun M22 hM22 => ?_)
              exact hih _ _ _ _ (eqo_tr (eqo_tr (eqo_tr hM (fps_cons (i := 0) rfl (fps_cons (i := 1) rfl (fps_cons (i := 2) rfl (fps_cons (i := 3) rfl (fps_cons (i := 4) rfl fps_nil))))) hM3) (fps_cons (i := 3) rfl (fps_cons (i := 4) rfl fps_nil)) hM18) (fps_cons (i := 0) rfl fps_nil) hM22)
            · exact hQ _ _ (eqo_tr (eqo_tr hM (fps_cons (i := 0) rfl (fps_cons (i := 1) rfl (fps_cons (i := 2) rfl (fps_cons (i := 3) rfl (fps_cons (i := 4) rfl fps_nil))))) hM3) (fps_cons (i := 3) rfl (fps_cons (i := 4) rfl fps_nil)) hM18)
      · refine an_Law_addStep (fun M25 hM25 => ?_)
        refine ⟨fun _ => ?_, fun _ => ?_⟩
        · refine an_Text_goOn (fun M29 hM29 => ?_)
          exact hih _ _ _ _ (eqo_tr (eqo_tr (eqo_tr hM (fps_cons (i := 0) rfl (fps_cons (i := 1) rfl (fps_cons (i := 2) rfl (fps_cons (i := 3) rfl (fps_cons (i := 4) rfl fps_nil))))) hM3) (fps_cons (i := 3) rfl (fps_cons (i := 4) rfl fps_nil)) hM25) (fps_cons (i := 0) rfl fps_nil) hM29)
        · refine ⟨fun _ => ?_, fun _ => ?_⟩
          · refine ⟨fun _ => ?_, fun _ => ?_⟩
            · refine an_Text_goOn (fun M35 hM35 => ?_)
              exact hih _ _ _ _ (eqo_tr (eqo_tr (eqo_tr hM (fps_cons (i := 0) rfl (fps_cons (i := 1) rfl (fps_cons (i := 2) rfl (fps_cons (i := 3) rfl (fps_cons (i := 4) rfl fps_nil))))) hM3) (fps_cons (i := 3) rfl (fps_cons (i := 4) rfl fps_nil)) hM25) (fps_cons (i := 0) rfl fps_nil) hM35)
            · exact hQ _ _ (eqo_tr (eqo_tr hM (fps_cons (i := 0) rfl (fps_cons (i := 1) rfl (fps_cons (i := 2) rfl (fps_cons (i := 3) rfl (fps_cons (i := 4) rfl fps_nil))))) hM3) (fps_cons (i := 3) rfl (fps_cons (i := 4) rfl fps_nil)) hM25)
          · refine an_Law_addStep (fun M38 hM38 => ?_)
            refine ⟨fun _ => ?_, fun _ => ?_⟩
            · refine an_Text_goOn (fun M42 hM42 => ?_)
              exact hih _ _ _ _ (eqo_tr (eqo_tr (eqo_tr (eqo_tr hM (fps_cons (i := 0) rfl (fps_cons (i := 1) rfl (fps_cons (i := 2) rfl (fps_cons (i := 3) rfl (fps_cons (i := 4) rfl fps_nil))))) hM3) (fps_cons (i := 3) rfl (fps_cons (i := 4) rfl fps_nil)) hM25) (fps_cons (i := 3) rfl (fps_cons (i := 4) rfl fps_nil)) hM38) (fps_cons (i := 0) rfl fps_nil) hM42)
            · exact hQ _ _ (eqo_tr (eqo_tr (eqo_tr hM (fps_cons (i := 0) rfl (fps_cons (i := 1) rfl (fps_cons (i := 2) rfl (fps_cons (i := 3) rfl (fps_cons (i := 4) rfl fps_nil))))) hM3) (fps_cons (i := 3) rfl (fps_cons (i := 4) rfl fps_nil)) hM25) (fps_cons (i := 3) rfl (fps_cons (i := 4) rfl fps_nil)) hM38)
  · exact hQ _ _ hM
theorem an_LawReader_readCondition_362 {p1 : Int32} {N : Nat} {M : MM} {Q : Int32 → MM → Prop} (hQ : ∀ (r : Int32) (M1 : MM), Eqo fp_LawReader_readCondition_362 M M1 → Q r M1) : W_LawReader_readCondition_362 p1 N M Q := by
  unfold W_LawReader_readCondition_362
  refine an_LawReader_readCondition_362_7   hQ N _ _ _ _ (eqo_rf _)
def fp_LawReader_readAtom_361  : List (Nat × Nat × Option Nat) := [(3, 3, some 5), (13, 13, some 8), (17, 17, none), (16, 16, none), (13, 13, some 6)]
theorem an_LawReader_readAtom_361 {p1 : Int32} {N : Nat} {M : MM} {Q : Int32 → MM → Prop} (hQ : ∀ (r : Int32) (M1 : MM), Eqo fp_LawReader_readAtom_361 M M1 → Q r M1) : W_LawReader_readAtom_361 p1 N M Q := by
  unfold W_LawReader_readAtom_361
  refine ⟨fun _ => ?_, fun _ => ?_⟩
  · refine an_Text_goOn (fun M3 hM3 => ?_)
    refine an_Law_addStep (fun M5 hM5 => ?_)
    exact hQ _ _ (eqo_tr (eqo_tr (eqo_rf _) (fps_cons (i := 0) rfl fps_nil) hM3) (fps_cons (i := 3) rfl (fps_cons (i := 4) rfl fps_nil)) hM5)
  · refine ⟨fun _ => ?_, fun _ => ?_⟩
    · refine ⟨fun _ => ?_, fun _ => ?_⟩
      · refine an_Text_goOn (fun M9 hM9 => ?_)
        refine ⟨fun _ => ?_, fun _ => ?_⟩
        · refine an_LawReader_readAtom_363 (fun r11 M12 hM12 => ?_)
          refine ⟨fun _ => ?_, fun _ => ?_⟩
          · exact hQ _ _ (eqo_tr (eqo_tr (eqo_rf _) (fps_cons (i := 0) rfl fps_nil) hM9) (fps_cons (i := 0) rfl (fps_cons (i := 1) rfl (fps_cons (i := 2) rfl (fps_cons (i := 3) rfl (fps_cons (i := 4) rfl fps_nil))))) hM12)
          · refine an_Law_addStep (fun M15 hM15 => ?_)
            exact hQ _ _ (eqo_tr (eqo_tr (eqo_tr (eqo_rf _) (fps_cons (i := 0) rfl fps_nil) hM9) (fps_cons (i := 0) rfl (fps_cons (i := 1) rfl (fps_cons (i := 2) rfl (fps_cons (i := 3) rfl (fps_cons (i := 4) rfl fps_nil))))) hM12) (fps_cons (i := 3) rfl (fps_cons (i := 4) rfl fps_nil)) hM15)
        · refine an_LawReader_readCondition_362 (fun r16 M17 hM17 => ?_)
          refine ⟨fun _ => ?_, fun _ => ?_⟩
          · exact hQ _ _ (eqo_tr (eqo_tr (eqo_rf _) (fps_cons (i := 0) rfl fps_nil) hM9) (fps_cons (i := 0) rfl (fps_cons (i := 1) rfl (fps_cons (i := 2) rfl (fps_cons (i := 3) rfl (fps_cons (i := 4) rfl fps_nil))))) hM17)
          · refine ⟨fun _ => ?_, fun _ => ?_⟩
            · refine an_Text_goOn (fun M21 hM21 => ?_)
              exact hQ _ _ (eqo_tr (eqo_tr (eqo_tr (eqo_rf _) (fps_cons (i := 0) rfl fps_nil) hM9) (fps_cons (i := 0) rfl (fps_cons (i := 1) rfl (fps_cons (i := 2) rfl (fps_cons (i := 3) rfl (fps_cons (i := 4) rfl fps_nil))))) hM17) (fps_cons (i := 0) rfl fps_nil) hM21)
            · exact hQ _ _ (eqo_tr (eqo_tr (eqo_rf _) (fps_cons (i := 0) rfl fps_nil) hM9) (fps_cons (i := 0) rfl (fps_cons (i := 1) rfl (fps_cons (i := 2) rfl (fps_cons (i := 3) rfl (fps_cons (i := 4) rfl fps_nil))))) hM17)
      · exact hQ _ _ (eqo_rf _)
    · refine ⟨fun _ => ?_, fun _ => ?_⟩
      · refine ⟨fun _ => ?_, fun _ => ?_⟩
        · refine an_Text_goOn (fun M25 hM25 => ?_)
          refine ⟨fun _ => ?_, fun _ => ?_⟩
          · refine an_LawReader_readAtom_363 (fun r27 M28 hM28 => ?_)
            refine ⟨fun _ => ?_, fun _ => ?_⟩
            · exact hQ _ _ (eqo_tr (eqo_tr (eqo_rf _) (fps_cons (i := 0) rfl fps_nil) hM25) (fps_cons (i := 0) rfl (fps_cons (i := 1) rfl (fps_cons (i := 2) rfl (fps_cons (i := 3) rfl (fps_cons (i := 4) rfl fps_nil))))) hM28)
            · refine an_Law_addStep (fun M31 hM31 => ?_)
              exact hQ _ _ (eqo_tr (eqo_tr (eqo_tr (eqo_rf _) (fps_cons (i := 0) rfl fps_nil) hM25) (fps_cons (i := 0) rfl (fps_cons (i := 1) rfl (fps_cons (i := 2) rfl (fps_cons (i := 3) rfl (fps_cons (i := 4) rfl fps_nil))))) hM28) (fps_cons (i := 3) rfl (fps_cons (i := 4) rfl fps_nil)) hM31)
          · refine an_LawReader_readCondition_362 (fun r32 M33 hM33 => ?_)
            refine ⟨fun _ => ?_, fun _ => ?_⟩
            · exact hQ _ _ (eqo_tr (eqo_tr (eqo_rf _) (fps_cons (i := 0) rfl fps_nil) hM25) (fps_cons (i := 0) rfl (fps_cons (i := 1) rfl (fps_cons (i := 2) rfl (fps_cons (i := 3) rfl (fps_cons (i := 4) rfl fps_nil))))) hM33)
            · refine ⟨fun _ => ?_, fun _ => ?_⟩
              · refine an_Text_goOn (fun M37 hM37 => ?_)
                exact hQ _ _ (eqo_tr (eqo_tr (eqo_tr (eqo_rf _) (fps_cons (i := 0) rfl fps_nil) hM25) (fps_cons (i := 0) rfl (fps_cons (i := 1) rfl (fps_cons (i := 2) rfl (fps_cons (i := 3) rfl (fps_cons (i := 4) rfl fps_nil))))) hM33) (fps_cons (i := 0) rfl fps_nil) hM37)
              · exact hQ _ _ (eqo_tr (eqo_tr (eqo_rf _) (fps_cons (i := 0) rfl fps_nil) hM25) (fps_cons (i := 0) rfl (fps_cons (i := 1) rfl (fps_cons (i := 2) rfl (fps_cons (i := 3) rfl (fps_cons (i := 4) rfl fps_nil))))) hM33)
        · exact hQ _ _ (eqo_rf _)
      · refine an_LawReader_readComparison (fun r38 M39 hM39 => ?_)
        exact hQ _ _ (eqo_tr (eqo_rf _) (fps_cons (i := 1) rfl (fps_cons (i := 2) rfl (fps_cons (i := 0) rfl (fps_cons (i := 3) rfl (fps_cons (i := 4) rfl fps_nil))))) hM39)
def fp_LawReader_readCondition_360  : List (Nat × Nat × Option Nat) := [(3, 3, some 5), (13, 13, some 8), (17, 17, none), (16, 16, none), (13, 13, some 6)]
theorem an_LawReader_readCondition_360_7 {M0 : MM} {p1 : Int32} {Q : Int32 → MM → Prop} (hQ : ∀ (r : Int32) (M1 : MM), Eqo fp_LawReader_readCondition_360 M0 M1 → Q r M1) : ∀ (N : Nat) (v2 : Int32) (v3 : Int32) (v4 : Int32) (M : MM), Eqo fp_LawReader_readCondition_360 M0 M → W_LawReader_readCondition_360_7 p1 Q N v2 v3 v4 M := by
  refine I_LawReader_readCondition_360_7 p1 Q (fun _ _ _ M => Eqo fp_LawReader_readCondition_360 M0 M) (fun N ih v2 v3 v4 M hih hM => ?_)
  unfold B_LawReader_readCondition_360_7
  refine ⟨fun _ => ?_, fun _ => ?_⟩
  · refine an_LawReader_readAtom_361 (fun r2 M3 hM3 => ?_)
    refine ⟨fun _ => ?_, fun _ => ?_⟩
    · exact hQ _ _ (eqo_tr hM (fps_cons (i := 0) rfl (fps_cons (i := 1) rfl (fps_cons (i := 2) rfl (fps_cons (i := 3) rfl (fps_cons (i := 4) rfl fps_nil))))) hM3)
    · refine ⟨fun _ => ?_, fun _ => ?_⟩
      · refine ⟨fun _ => ?_, fun _ => ?_⟩
        · refine an_Text_goOn (fun M9 hM9 => ?_)
          exact hih _ _ _ _ (eqo_tr (eqo_tr hM (fps_cons (i := 0) rfl (fps_cons (i := 1) rfl (fps_cons (i := 2) rfl (fps_cons (i := 3) rfl (fps_cons (i := 4) rfl fps_nil))))) hM3) (fps_cons (i := 0) rfl fps_nil) hM9)
        · refine ⟨fun _ => ?_, fun _ => ?_⟩
          · refine ⟨fun _ => ?_, fun _ => ?_⟩
            · refine an_Text_goOn (fun M15 hM15 => ?_)
              exact hih _ _ _ _ (eqo_tr (eqo_tr hM (fps_cons (i := 0) rfl (fps_cons (i := 1) rfl (fps_cons (i := 2) rfl (fps_cons (i := 3) rfl (fps_cons (i := 4) rfl fps_nil))))) hM3) (fps_cons (i := 0) rfl fps_nil) hM15)
            · exact hQ _ _ (eqo_tr hM (fps_cons (i := 0) rfl (fps_cons (i := 1) rfl (fps_cons (i := 2) rfl (fps_cons (i := 3) rfl (fps_cons (i := 4) rfl fps_nil))))) hM3)
          · refine an_Law_addStep (fun M18 hM18 => ?_)
            refine ⟨fun _ => ?_, fun _ => ?_⟩
            · refine an_Text_goOn (fun M22 hM22 => ?_)
              exact hih _ _ _ _ (eqo_tr (eqo_tr (eqo_tr hM (fps_cons (i := 0) rfl (fps_cons (i := 1) rfl (fps_cons (i := 2) rfl (fps_cons (i := 3) rfl (fps_cons (i := 4) rfl fps_nil))))) hM3) (fps_cons (i := 3) rfl (fps_cons (i := 4) rfl fps_nil)) hM18) (fps_cons (i := 0) rfl fps_nil) hM22)
            · exact hQ _ _ (eqo_tr (eqo_tr hM (fps_cons (i := 0) rfl (fps_cons (i := 1) rfl (fps_cons (i := 2) rfl (fps_cons (i := 3) rfl (fps_cons (i := 4) rfl fps_nil))))) hM3) (fps_cons (i := 3) rfl (fps_cons (i := 4) rfl fps_nil)) hM18)
      · refine an_Law_addStep (fun M25 hM25 => ?_)
        refine ⟨fun _ => ?_, fun _ => ?_⟩
        · refine an_Text_goOn (fun M29 hM29 => ?_)
          exact hih _ _ _ _ (eqo_tr (eqo_tr (eqo_tr hM (fps_cons (i := 0) rfl (fps_cons (i := 1) rfl (fps_cons (i := 2) rfl (fps_cons (i := 3) rfl (fps_cons (i := 4) rfl fps_nil))))) hM3) (fps_cons (i := 3) rfl (fps_cons (i := 4) rfl fps_nil)) hM25) (fps_cons (i := 0) rfl fps_nil) hM29)
        · refine ⟨fun _ => ?_, fun _ => ?_⟩
          · refine ⟨fun _ => ?_, fun _ => ?_⟩
            · refine an_Text_goOn (fun M35 hM35 => ?_)
              exact hih _ _ _ _ (eqo_tr (eqo_tr (eqo_tr hM (fps_cons (i := 0) rfl (fps_cons (i := 1) rfl (fps_cons (i := 2) rfl (fps_cons (i := 3) rfl (fps_cons (i := 4) rfl fps_nil))))) hM3) (fps_cons (i := 3) rfl (fps_cons (i := 4) rfl fps_nil)) hM25) (fps_cons (i := 0) rfl fps_nil) hM35)
            · exact hQ _ _ (eqo_tr (eqo_tr hM (fps_cons (i := 0) rfl (fps_cons (i := 1) rfl (fps_cons (i := 2) rfl (fps_cons (i := 3) rfl (fps_cons (i := 4) rfl fps_nil))))) hM3) (fps_cons (i := 3) rfl (fps_cons (i := 4) rfl fps_nil)) hM25)
          · refine an_Law_addStep (fun M38 hM38 => ?_)
            refine ⟨fun _ => ?_, fun _ => ?_⟩
            · refine an_Text_goOn (fun M42 hM42 => ?_)
              exact hih _ _ _ _ (eqo_tr (eqo_tr (eqo_tr (eqo_tr hM (fps_cons (i := 0) rfl (fps_cons (i := 1) rfl (fps_cons (i := 2) rfl (fps_cons (i := 3) rfl (fps_cons (i := 4) rfl fps_nil))))) hM3) (fps_cons (i := 3) rfl (fps_cons (i := 4) rfl fps_nil)) hM25) (fps_cons (i := 3) rfl (fps_cons (i := 4) rfl fps_nil)) hM38) (fps_cons (i := 0) rfl fps_nil) hM42)
            · exact hQ _ _ (eqo_tr (eqo_tr (eqo_tr hM (fps_cons (i := 0) rfl (fps_cons (i := 1) rfl (fps_cons (i := 2) rfl (fps_cons (i := 3) rfl (fps_cons (i := 4) rfl fps_nil))))) hM3) (fps_cons (i := 3) rfl (fps_cons (i := 4) rfl fps_nil)) hM25) (fps_cons (i := 3) rfl (fps_cons (i := 4) rfl fps_nil)) hM38)
  · exact hQ _ _ hM
theorem an_LawReader_readCondition_360 {p1 : Int32} {N : Nat} {M : MM} {Q : Int32 → MM → Prop} (hQ : ∀ (r : Int32) (M1 : MM), Eqo fp_LawReader_readCondition_360 M M1 → Q r M1) : W_LawReader_readCondition_360 p1 N M Q := by
  unfold W_LawReader_readCondition_360
  refine an_LawReader_readCondition_360_7   hQ N _ _ _ _ (eqo_rf _)
