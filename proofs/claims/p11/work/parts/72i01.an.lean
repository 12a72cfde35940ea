/-! WHAT EACH METHOD WRITES (gw.py) -/
def fp_LawReader_readAtom_359  : List (Nat × Nat × Option Nat) := [(3, 3, some 5), (13, 13, some 8), (17, 17, none), (16, 16, none), (13, 13, some 6)]
theorem an_LawReader_readAtom_359 {p1 : Int32} {N : Nat} {M : MM} {Q : Int32 → MM → Prop} (hQ : ∀ (r : Int32) (M1 : MM), Eqo fp_LawReader_readAtom_359 M M1 → Q r M1) : W_LawReader_readAtom_359 p1 N M Q := by
  unfold W_LawReader_readAtom_359
  refine ⟨fun _ => ?_, fun _ => ?_⟩
  · refine an_Text_goOn (fun M3 hM3 => ?_)
    refine an_Law_addStep (fun M5 hM5 => ?_)
    exact hQ _ _ (eqo_tr (eqo_tr (eqo_rf _) (fps_cons (i := 0) rfl fps_nil) hM3) (fps_cons (i := 3) rfl (fps_cons (i := 4) rfl fps_nil)) hM5)
  · refine ⟨fun _ => ?_, fun _ => ?_⟩
    · refine ⟨fun _ => ?_, fun _ => ?_⟩
      · refine an_Text_goOn (fun M9 hM9 => ?_)
        refine ⟨fun _ => ?_, fun _ => ?_⟩
        · refine an_LawReader_readAtom_361 (fun r11 M12 hM12 => ?_)
          refine ⟨fun _ => ?_, fun _ => ?_⟩
          · exact hQ _ _ (eqo_tr (eqo_tr (eqo_rf _) (fps_cons (i := 0) rfl fps_nil) hM9) (fps_cons (i := 0) rfl (fps_cons (i := 1) rfl (fps_cons (i := 2) rfl (fps_cons (i := 3) rfl (fps_cons (i := 4) rfl fps_nil))))) hM12)
          · refine an_Law_addStep (fun M15 hM15 => ?_)
            exact hQ _ _ (eqo_tr (eqo_tr (eqo_tr (eqo_rf _) (fps_cons (i := 0) rfl fps_nil) hM9) (fps_cons (i := 0) rfl (fps_cons (i := 1) rfl (fps_cons (i := 2) rfl (fps_cons (i := 3) rfl (fps_cons (i := 4) rfl fps_nil))))) hM12) (fps_cons (i := 3) rfl (fps_cons (i := 4) rfl fps_nil)) hM15)
        · refine an_LawReader_readCondition_360 (fun r16 M17 hM17 => ?_)
          refine ⟨fun _ => ?_, fun _ => ?_⟩
          · exact hQ _ _ (eqo_tr (eqo_tr (eqo_rf _) (fps_cons (i := 0) rfl fps_nil) hM9) (fps_cons (i := 0) rfl (fps_cons (i := 1) rfl (fps_cons (i := 2) rfl (fps_cons (i := 3) rfl (fps_cons (i := 4) rfl fps_nil))))) hM17)
          · refine ⟨fun _ => ?_, fun _ => ?_⟩
            · refine an_Text_goOn (fun M21 hM21 => ?_)
              exact hQ _ _ (eqo_tr (eqo_tr (eqo_tr (eqo_rf _) (fps_cons (i := 0) rfl fps_nil) hM9) (fps_cons (i := 0) rfl (fps_cons (i := 1) rfl (fps_cons (i := 2) rfl (fps_cons (i := 3) rfl (fps_cons (i := 4) rfl fps_nil))))) hM17) (fps_cons (i := 0) rfl fps_nil) hM21)
            · exact hQ _ _ (eqo_tr (eqo_tr (eqo_rf _) (fps_cons (i := 0) rfl fps_nil) hM9) (fps_cons (i := 0) rfl (fps_cons (i := 1) rfl (fps_cons (i := 2) rfl (fps_cons (i := 3) rfl (fps_cons (i := 4) rfl fps_nil))))) hM17)
      · exact hQ _ _ (eqo_rf _)
    · refine ⟨fun _ => ?_, fun _ => ?_⟩
      · refine ⟨fun _ => ?_, fun _ => ?_⟩
        · refine an_Text_goOn (fun M25 hM25 => ?_)
          refine ⟨fun _ => ?_, fun _ => ?_⟩
          · refine an_LawReader_readAtom_361 (fun r27 M28 hM28 => ?_)
            refine ⟨fun _ => ?_, fun _ => ?_⟩
            · exact hQ _ _ (eqo_tr (eqo_tr (eqo_rf _) (fps_cons (i := 0) rfl fps_nil) hM25) (fps_cons (i := 0) rfl (fps_cons (i := 1) rfl (fps_cons (i := 2) rfl (fps_cons (i := 3) rfl (fps_cons (i := 4) rfl fps_nil))))) hM28)
            · refine an_Law_addStep (fun M31 hM31 => ?_)
              exact hQ _ _ (eqo_tr (eqo_tr (eqo_tr (eqo_rf _) (fps_cons (i := 0) rfl fps_nil) hM25) (fps_cons (i := 0) rfl (fps_cons (i := 1) rfl (fps_cons (i := 2) rfl (fps_cons (i := 3) rfl (fps_cons (i := 4) rfl fps_nil))))) hM28) (fps_cons (i := 3) rfl (fps_cons (i := 4) rfl fps_nil)) hM31)
          · refine an_LawReader_readCondition_360 (fun r32 M33 hM33 => ?_)
            refine ⟨fun _ => ?_, fun _ => ?_⟩
            · exact hQ _ _ (eqo_tr (eqo_tr (eqo_rf _) (fps_cons (i := 0) rfl fps_nil) hM25) (fps_cons (i := 0) rfl (fps_cons (i := 1) rfl (fps_cons (i := 2) rfl (fps_cons (i := 3) rfl (fps_cons (i := 4) rfl fps_nil))))) hM33)
            · refine ⟨fun _ => ?_, fun _ => ?_⟩
              · refine an_Text_goOn (fun M37 hM37 => ?_)
                exact hQ _ _ (eqo_tr (eqo_tr (eqo_tr (eqo_rf _) (fps_cons (i := 0) rfl fps_nil) hM25) (fps_cons (i := 0) rfl (fps_cons (i := 1) rfl (fps_cons (i := 2) rfl (fps_cons (i := 3) rfl (fps_cons (i := 4) rfl fps_nil))))) hM33) (fps_cons (i := 0) rfl fps_nil) hM37)
              · exact hQ _ _ (eqo_tr (eqo_tr (eqo_rf _) (fps_cons (i := 0) rfl fps_nil) hM25) (fps_cons (i := 0) rfl (fps_cons (i := 1) rfl (fps_cons (i := 2) rfl (fps_cons (i := 3) rfl (fps_cons (i := 4) rfl fps_nil))))) hM33)
        · exact hQ _ _ (eqo_rf _)
      · refine an_LawReader_readComparison (fun r38 M39 hM39 => ?_)
        exact hQ _ _ (eqo_tr (eqo_rf _) (fps_cons (i := 1) rfl (fps_cons (i := 2) rfl (fps_cons (i := 0) rfl (fps_cons (i := 3) rfl (fps_cons (i := 4) rfl fps_nil))))) hM39)
def fp_LawReader_readCondition_358  : List (Nat × Nat × Option Nat) := [(3, 3, some 5), (13, 13, some 8), (17, 17, none), (16, 16, none), (13, 13, some 6)]
theorem an_LawReader_readCondition_358_7 {M0 : MM} {p1 : Int32} {Q : Int32 → MM → Prop} (hQ : ∀ (r : Int32) (M1 : MM), Eqo fp_LawReader_readCondition_358 M0 M1 → Q r M1) : ∀ (N : Nat) (v2 : Int32) (v3 : Int32) (v4 : Int32) (M : MM), Eqo fp_LawReader_readCondition_358 M0 M → W_LawReader_readCondition_358_7 p1 Q N v2 v3 v4 M := by
  refine I_LawReader_readCondition_358_7 p1 Q (fun _ _ _ M => Eqo fp_LawReader_readCondition_358 M0 M) (fun N ih v2 v3 v4 M hih hM => ?_)
  unfold B_LawReader_readCondition_358_7
  refine ⟨fun _ => ?_, fun _ => ?_⟩
  · refine an_LawReader_readAtom_359 (fun r2 M3 hM3 => ?_)
    refine ⟨fun _ => ?_, fun _ => ?_⟩
    · exact hQ _ _ (eqo_tr hM (fps_cons (i := 0) rfl (fps_cons (i := 1) rfl (fps_cons (i := 2) rfl (fps_cons (i := 3) rfl (fps_cons (i := 4) rfl fps_nil))))) hM3)
    · refine ⟨fun _ => ?_, fun _ => ?_⟩
      · refine ⟨fun _ => ?_, fun _ => ?_⟩
        · refine an_Text_goOn (fun M9 hM9 => ?_)
          exact hih _ _ _ _ (eqo_tr (eqo_tr hM (fps_cons (i := 0) rfl (fps_cons (i := 1) rfl (fps_cons (i := 2) rfl (fps_cons (i := 3) rfl (fps_cons (i := 4) rfl fps_nil))))) hM3) (fps_cons (i := 0) rfl fps_nil) hM9)
        · refine ⟨fun _ => ?_, fun _ => ?_⟩
          · refine ⟨fun _ => ?_, fun _ => ?_⟩
            · refine an_Text_goOn (fun M15 hM15 => ?_)
              exact hih _ _ _ _ (eqo_tr (eqo_tr hM (fps_cons (i := 0) rfl (fps_cons (i := 1) rfl (fps_cons (i := 2) rfl (fps_cons (i := 3) rfl (fps_cons (i := 4) rfl fps_nil))))) hM3) (fps_cons (i := 0) rfl fps_nil) hM15)
            · exact hQ _ _ (eqo_tr hM (fps_cons (i := 0) rfl (fps_cons (i := 1) rfl (fps_cons (i := 2) rfl (fps_cons (i := 3) rfl (fps_cons (i := 4) rfl fps_nil))))) hM3)
          · refine an_Law_addStep (fun M18 hM18 => ?_)
            refine ⟨fun _ => ?_, fun _ => ?_⟩
            · refine an_Text_goOn (fun M22 hM22 => ?_)
              exact hih _ _ _ _ (eqo_tr (eqo_tr (eqo_tr hM (fps_cons (i := 0) rfl (fps_cons (i := 1) rfl (fps_cons (i := 2) rfl (fps_cons (i := 3) rfl (fps_cons (i := 4) rfl fps_nil))))) hM3) (fps_cons (i := 3) rfl (fps_cons (i := 4) rfl fps_nil)) hM18) (fps_cons (i := 0) rfl fps_nil) hM22)
            · exact hQ _ _ (eqo_tr (eqo_tr hM (fps_cons (i := 0) rfl (fps_cons (i := 1) rfl (fps_cons (i := 2) rfl (fps_cons (i := 3) rfl (fps_cons (i := 4) rfl fps_nil))))) hM3) (fps_cons (i := 3) rfl (fps_cons (i := 4) rfl fps_nil)) hM18)
      · refine an_Law_addStep (fun M25 hM25 => ?_)
        refine ⟨fun _ => ?_, fun _ => ?_⟩
        · refine an_Text_goOn (fun M29 hM29 => ?_)
          exact hih _ _ _ _ (eqo_tr (eqo_tr (eqo_tr hM (fps_cons (i := 0) rfl (fps_cons (i := 1) rfl (fps_cons (i := 2) rfl (fps_cons (i := 3) rfl (fps_cons (i := 4) rfl fps_nil))))) hM3) (fps_cons (i := 3) rfl (fps_cons (i := 4) rfl fps_nil)) hM25) (fps_cons (i := 0) rfl fps_nil) hM29)
        · refine ⟨fun _ => ?_, fun _ => ?_⟩
          · refine ⟨fun _ => ?_, fun _ => ?_⟩
            · refine an_Text_goOn (fun M35 hM35 => ?_)
              exact hih _ _ _ _ (eqo_tr (eqo_tr (eqo_tr hM (fps_cons (i := 0) rfl (fps_cons (i := 1) rfl (fps_cons (i := 2) rfl (fps_cons (i := 3) rfl (fps_cons (i := 4) rfl fps_nil))))) hM3) (fps_cons (i := 3) rfl (fps_cons (i := 4) rfl fps_nil)) hM25) (fps_cons (i := 0) rfl fps_nil) hM35)
            · exact hQ _ _ (eqo_tr (eqo_tr hM (fps_cons (i := 0) rfl (fps_cons (i := 1) rfl (fps_cons (i := 2) rfl (fps_cons (i := 3) rfl (fps_cons (i := 4) rfl fps_nil))))) hM3) (fps_cons (i := 3) rfl (fps_cons (i := 4) rfl fps_nil)) hM25)
          · refine an_Law_addStep (fun M38 hM38 => ?_)
            refine ⟨fun _ => ?_, fun _ => ?_⟩
            · refine an_Text_goOn (fun M42 hM42 => ?_)
              exact hih _ _ _ _ (eqo_tr (eqo_tr (eqo_tr (eqo_tr hM (fps_cons (i := 0) rfl (fps_cons (i := 1) rfl (fps_cons (i := 2) rfl (fps_cons (i := 3) rfl (fps_cons (i := 4) rfl fps_nil))))) hM3) (fps_cons (i := 3) rfl (fps_cons (i := 4) rfl fps_nil)) hM25) (fps_cons (i := 3) rfl (fps_cons (i := 4) rfl fps_nil)) hM38) (fps_cons (i := 0) rfl fps_nil) hM42)
            · exact hQ _ _ (eqo_tr (eqo_tr (eqo_tr hM (fps_cons (i := 0) rfl (fps_cons (i := 1) rfl (fps_cons (i := 2) rfl (fps_cons (i := 3) rfl (fps_cons (i := 4) rfl fps_nil))))) hM3) (fps_cons (i := 3) rfl (fps_cons (i := 4) rfl fps_nil)) hM25) (fps_cons (i := 3) rfl (fps_cons (i := 4) rfl fps_nil)) hM38)
  · exact hQ _ _ hM
theorem an_LawReader_readCondition_358 {p1 : Int32} {N : Nat} {M : MM} {Q : Int32 → MM → Prop} (hQ : ∀ (r : Int32) (M1 : MM), Eqo fp_LawReader_readCondition_358 M M1 → Q r M1) : W_LawReader_readCondition_358 p1 N M Q := by
  unfold W_LawReader_readCondition_358
  refine an_LawReader_readCondition_358_7   hQ N _ _ _ _ (eqo_rf _)
def fp_LawReader_readAtom  : List (Nat × Nat × Option Nat) := [(3, 3, some 5), (13, 13, some 8), (17, 17, none), (16, 16, none), (13, 13, some 6)]
theorem an_LawReader_readAtom {p1 : Int32} {N : Nat} {M : MM} {Q : Int32 → MM → Prop} (hQ : ∀ (r : Int32) (M1 : MM), Eqo fp_LawReader_readAtom M M1 → Q r M1) : W_LawReader_readAtom p1 N M Q := by
  unfold W_LawReader_readAtom
  refine ⟨fun _ => ?_, fun _ => ?_⟩
  · refine an_Text_goOn (fun M3 hM3 => ?_)
    refine an_Law_addStep (fun M5 hM5 => ?_)
    exact hQ _ _ (eqo_tr (eqo_tr (eqo_rf _) (fps_cons (i := 0) rfl fps_nil) hM3) (fps_cons (i := 3) rfl (fps_cons (i := 4) rfl fps_nil)) hM5)
  · refine ⟨fun _ => ?_, fun _ => ?_⟩
    · refine ⟨fun _ => ?_, fun _ => ?_⟩
      · refine an_Text_goOn (fun M9 hM9 => ?_)
        refine ⟨fun _ => ?_, fun _ => ?_⟩
        · refine an_LawReader_readAtom_359 (fun r11 M12 hM12 => ?_)
          refine ⟨fun _ => ?_, fun _ => ?_⟩
          · exact hQ _ _ (eqo_tr (eqo_tr (eqo_rf _) (fps_cons (i := 0) rfl fps_nil) hM9) (fps_cons (i := 0) rfl (fps_cons (i := 1) rfl (fps_cons (i := 2) rfl (fps_cons (i := 3) rfl (fps_cons (i := 4) rfl fps_nil))))) hM12)
          · refine an_Law_addStep (fun M15 hM15 => ?_)
            exact hQ _ _ (eqo_tr (eqo_tr (eqo_tr (eqo_rf _) (fps_cons (i := 0) rfl fps_nil) hM9) (fps_cons (i := 0) rfl (fps_cons (i := 1) rfl (fps_cons (i := 2) rfl (fps_cons (i := 3) rfl (fps_cons (i := 4) rfl fps_nil))))) hM12) (fps_cons (i := 3) rfl (fps_cons (i := 4) rfl fps_nil)) hM15)
        · refine an_LawReader_readCondition_358 (fun r16 M17 hM17 => ?_)
          refine ⟨fun _ => ?_, fun _ => ?_⟩
          · exact hQ _ _ (eqo_tr (eqo_tr (eqo_rf _) (fps_cons (i := 0) rfl fps_nil) hM9) (fps_cons (i := 0) rfl (fps_cons (i := 1) rfl (fps_cons (i := 2) rfl (fps_cons (i := 3) rfl (fps_cons (i := 4) rfl fps_nil))))) hM17)
          · refine ⟨fun _ => ?_, fun _ => ?_⟩
            · refine an_Text_goOn (fun M21 hM21 => ?_)
              exact hQ _ _ (eqo_tr (eqo_tr (eqo_tr (eqo_rf _) (fps_cons (i := 0) rfl fps_nil) hM9) (fps_cons (i := 0) rfl (fps_cons (i := 1) rfl (fps_cons (i := 2) rfl (fps_cons (i := 3) rfl (fps_cons (i := 4) rfl fps_nil))))) hM17) (fps_cons (i := 0) rfl fps_nil) hM21)
            · exact hQ _ _ (eqo_tr (eqo_tr (eqo_rf _) (fps_cons (i := 0) rfl fps_nil) hM9) (fps_cons (i := 0) rfl (fps_cons (i := 1) rfl (fps_cons (i := 2) rfl (fps_cons (i := 3) rfl (fps_cons (i := 4) rfl fps_nil))))) hM17)
      · exact hQ _ _ (eqo_rf _)
    · refine ⟨fun _ => ?_, fun _ => ?_⟩
      · refine ⟨fun _ => ?_, fun _ => ?_⟩
        · refine an_Text_goOn (fun M25 hM25 => ?_)
          refine ⟨fun _ => ?_, fun _ => ?_⟩
          · refine an_LawReader_readAtom_359 (fun r27 M28 hM28 => ?_)
            refine ⟨fun _ => ?_, fun _ => ?_⟩
            · exact hQ _ _ (eqo_tr (eqo_tr (eqo_rf _) (fps_cons (i := 0) rfl fps_nil) hM25) (fps_cons (i := 0) rfl (fps_cons (i := 1) rfl (fps_cons (i := 2) rfl (fps_cons (i := 3) rfl (fps_cons (i := 4) rfl fps_nil))))) hM28)
            · refine an_Law_addStep (fun M31 hM31 => ?_)
              exact hQ _ _ (eqo_tr (eqo_tr (eqo_tr (eqo_rf _) (fps_cons (i := 0) rfl fps_nil) hM25) (fps_cons (i := 0) rfl (fps_cons (i := 1) rfl (fps_cons (i := 2) rfl (fps_cons (i := 3) rfl (fps_cons (i := 4) rfl fps_nil))))) hM28) (fps_cons (i := 3) rfl (fps_cons (i := 4) rfl fps_nil)) hM31)
          · refine an_LawReader_readCondition_358 (fun r32 M33 hM33 => ?_)
            refine ⟨fun _ => ?_, fun _ => ?_⟩
            · exact hQ _ _ (eqo_tr (eqo_tr (eqo_rf _) (fps_cons (i := 0) rfl fps_nil) hM25) (fps_cons (i := 0) rfl (fps_cons (i := 1) rfl (fps_cons (i := 2) rfl (fps_cons (i := 3) rfl (fps_cons (i := 4) rfl fps_nil))))) hM33)
            · refine ⟨fun _ => ?_, fun _ => ?_⟩
              · refine an_Text_goOn (fun M37 hM37 => ?_)
                exact hQ _ _ (eqo_tr (eqo_tr (eqo_tr (eqo_rf _) (fps_cons (i := 0) rfl fps_nil) hM25) (fps_cons (i := 0) rfl (fps_cons (i := 1) rfl (fps_cons (i := 2) rfl (fps_cons (i := 3) rfl (fps_cons (i := 4) rfl fps_nil))))) hM33) (fps_cons (i := 0) rfl fps_nil) hM37)
              · exact hQ _ _ (eqo_tr (eqo_tr (eqo_rf _) (fps_cons (i := 0) rfl fps_nil) hM25) (fps_cons (i := 0) rfl (fps_cons (i := 1) rfl (fps_cons (i := 2) rfl (fps_cons (i := 3) rfl (fps_cons (i := 4) rfl fps_nil))))) hM33)
        · exact hQ _ _ (eqo_rf _)
      · refine an_LawReader_readComparison (fun r38 M39 hM39 => ?_)
        exact hQ _ _ (eqo_tr (eqo_rf _) (fps_cons (i := 1) rfl (fps_cons (i := 2) rfl (fps_cons (i := 0) rfl (fps_cons (i := 3) rfl (fps_cons (i := 4) rfl fps_nil))))) hM39)
def fp_LawReader_readCondition  : List (Nat × Nat × Option Nat) := [(3, 3, some 5), (13, 13, some 8), (17, 17, none), (16, 16, none), (13, 13, some 6)]
theorem an_LawReader_readCondition_7 {M0 : MM} {p1 : Int32} {Q : Int32 → MM → Prop} (hQ : ∀ (r : Int32) (M1 : MM), Eqo fp_LawReader_readCondition M0 M1 → Q r M1) : ∀ (N : Nat) (v2 : Int32) (v3 : Int32) (v4 : Int32) (M : MM), Eqo fp_LawReader_readCondition M0 M → W_LawReader_readCondition_7 p1 Q N v2 v3 v4 M := by
  refine I_LawReader_readCondition_7 p1 Q (fun _ _ _ M => Eqo fp_LawReader_readCondition M0 M) (fun N ih v2 v3 v4 M hih hM => ?_)
  unfold B_LawReader_readCondition_7
  refine ⟨fun _ => ?_, fun _ => ?_⟩
  · refine an_LawReader_readAtom (fun r2 M3 hM3 => ?_)
    refine ⟨fun _ => ?_, fun _ => ?_⟩
    · exact hQ _ _ (eqo_tr hM (fps_cons (i := 0) rfl (fps_cons (i := 1) rfl (fps_cons (i := 2) rfl (fps_cons (i := 3) rfl (fps_cons (i := 4) rfl fps_nil))))) hM3)
    · refine ⟨fun _ => ?_, fun _ => ?_⟩
      · refine ⟨fun _ => ?_, fun _ => ?_⟩
        · refine an_Text_goOn (fun M9 hM9 => ?_)
          exact hih _ _ _ _ (eqo_tr (eqo_tr hM (fps_cons (i := 0) rfl (fps_cons (i := 1) rfl (fps_cons (i := 2) rfl (fps_cons (i := 3) rfl (fps_cons (i := 4) rfl fps_nil))))) hM3) (fps_cons (i := 0) rfl fps_nil) hM9)
        · refine ⟨fun _ => ?_, fun _ => ?_⟩
          · refine ⟨fun _ => ?_, fun _ => ?_⟩
            · refine an_Text_goOn (fun M15 hM15 => ?_)
              exact hih _ _ _ _ (eqo_tr (eqo_tr hM (fps_cons (i := 0) rfl (fps_cons (i := 1) rfl (fps_cons (i := 2) rfl (fps_cons (i := 3) rfl (fps_cons (i := 4) rfl fps_nil))))) hM3) (fps_cons (i := 0) rfl fps_nil) hM15)
            · exact hQ _ _ (eqo_tr hM (fps_cons (i := 0) rfl (fps_cons (i := 1) rfl (fps_cons (i := 2) rfl (fps_cons (i := 3) rfl (fps_cons (i := 4) rfl fps_nil))))) hM3)
          · refine an_Law_addStep (fun M18 hM18 => ?_)
            refine ⟨fun _ => ?_, fun _ => ?_⟩
            · refine an_Text_goOn (fun M22 hM22 => ?_)
              exact hih _ _ _ _ (eqo_tr (eqo_tr (eqo_tr hM (fps_cons (i := 0) rfl (fps_cons (i := 1) rfl (fps_cons (i := 2) rfl (fps_cons (i := 3) rfl (fps_cons (i := 4) rfl fps_nil))))) hM3) (fps_cons (i := 3) rfl (fps_cons (i := 4) rfl fps_nil)) hM18) (fps_cons (i := 0) rfl fps_nil) hM22)
            · exact hQ _ _ (eqo_tr (eqo_tr hM (fps_cons (i := 0) rfl (fps_cons (i := 1) rfl (fps_cons (i := 2) rfl (fps_cons (i := 3) rfl (fps_cons (i := 4) rfl fps_nil))))) hM3) (fps_cons (i := 3) rfl (fps_cons (i := 4) rfl fps_nil)) hM18)
      · refine an_Law_addStep (fun M25 hM25 => ?_)
        refine ⟨fun _ => ?_, fun _ => ?_⟩
        · refine an_Text_goOn (fun M29 hM29 => ?_)
          exact hih _ _ _ _ (eqo_tr (eqo_tr (eqo_tr hM (fps_cons (i := 0) rfl (fps_cons (i := 1) rfl (fps_cons (i := 2) rfl (fps_cons (i := 3) rfl (fps_cons (i := 4) rfl fps_nil))))) hM3) (fps_cons (i := 3) rfl (fps_cons (i := 4) rfl fps_nil)) hM25) (fps_cons (i := 0) rfl fps_nil) hM29)
        · refine ⟨fun _ => ?_, fun _ => ?_⟩
          · refine ⟨fun _ => ?_, fun _ => ?_⟩
            · refine an_Text_goOn (fun M35 hM35 => ?_)
              exact hih _ _ _ _ (eqo_tr (eqo_tr (eqo_tr hM (fps_cons (i := 0) rfl (fps_cons (i := 1) rfl (fps_cons (i := 2) rfl (fps_cons (i := 3) rfl (fps_cons (i := 4) rfl fps_nil))))) hM3) (fps_cons (i := 3) rfl (fps_cons (i := 4) rfl fps_nil)) hM25) (fps_cons (i := 0) rfl fps_nil) hM35)
            · exact hQ _ _ (eqo_tr (eqo_tr hM (fps_cons (i := 0) rfl (fps_cons (i := 1) rfl (fps_cons (i := 2) rfl (fps_cons (i := 3) rfl (fps_cons (i := 4) rfl fps_nil))))) hM3) (fps_cons (i := 3) rfl (fps_cons (i := 4) rfl fps_nil)) hM25)
          · refine an_Law_addStep (fun M38 hM38 => ?_)
            refine ⟨fun _ => ?_, fun _ => ?_⟩
            · refine an_Text_goOn (fun M42 hM42 => ?_)
              exact hih _ _ _ _ (eqo_tr (eqo_tr (eqo_tr (eqo_tr hM (fps_cons (i := 0) rfl (fps_cons (i := 1) rfl (fps_cons (i := 2) rfl (fps_cons (i := 3) rfl (fps_cons (i := 4) rfl fps_nil))))) hM3) (fps_cons (i := 3) rfl (fps_cons (i := 4) rfl fps_nil)) hM25) (fps_cons (i := 3) rfl (fps_cons (i := 4) rfl fps_nil)) hM38) (fps_cons (i := 0) rfl fps_nil) hM42)
            · exact hQ _ _ (eqo_tr (eqo_tr (eqo_tr hM (fps_cons (i := 0) rfl (fps_cons (i := 1) rfl (fps_cons (i := 2) rfl (fps_cons (i := 3) rfl (fps_cons (i := 4) rfl fps_nil))))) hM3) (fps_cons (i := 3) rfl (fps_cons (i := 4) rfl fps_nil)) hM25) (fps_cons (i := 3) rfl (fps_cons (i := 4) rfl fps_nil)) hM38)
  · exact hQ _ _ hM
theorem an_LawReader_readCondition {p1 : Int32} {N : Nat} {M : MM} {Q : Int32 → MM → Prop} (hQ : ∀ (r : Int32) (M1 : MM), Eqo fp_LawReader_readCondition M M1 → Q r M1) : W_LawReader_readCondition p1 N M Q := by
  unfold W_LawReader_readCondition
  refine an_LawReader_readCondition_7   hQ N _ _ _ _ (eqo_rf _)
def fp_Text_numberWithin  : List (Nat × Nat × Option Nat) := [(3, 3, some 5)]
theorem an_Text_numberWithin {p1 : Int32} {p2 : Int32} {N : Nat} {M : MM} {Q : Int32 → MM → Prop} (hQ : ∀ (r : Int32) (M1 : MM), Eqo fp_Text_numberWithin M M1 → Q r M1) : W_Text_numberWithin p1 p2 N M Q := by
  unfold W_Text_numberWithin
  refine ⟨fun _ => ?_, fun _ => ?_⟩
  · refine ⟨fun _ => ?_, fun _ => ?_⟩
    · exact hQ _ _ (eqo_rf _)
    · refine ⟨fun _ => ?_, fun _ => ?_⟩
      · exact hQ _ _ (eqo_rf _)
      · exact hQ _ _ (eqo_wi (eqo_rf _) (i := 0) rfl (Or.inr rfl))
  · exact hQ _ _ (eqo_rf _)
def fp_LawReader_readClause  : List (Nat × Nat × Option Nat) := [(3, 3, some 5), (14, 14, none), (15, 15, none), (13, 13, some 2), (13, 13, some 1), (13, 13, some 8), (17, 17, none), (16, 16, none), (13, 13, some 6)]
theorem an_LawReader_readClause  {N : Nat} {M : MM} {Q : Int32 → MM → Prop} (hQ : ∀ (r : Int32) (M1 : MM), Eqo fp_LawReader_readClause M M1 → Q r M1) : W_LawReader_readClause  N M Q := by
  unfold W_LawReader_readClause
  refine ⟨fun _ => ?_, fun _ => ?_⟩
  · refine an_Text_goOn (fun M4 hM4 => ?_)
    refine an_Text_numberWithin (fun r5 M6 hM6 => ?_)
    refine ⟨fun _ => ?_, fun _ => ?_⟩
    · exact hQ _ _ (eqo_tr (eqo_tr (eqo_rf _) (fps_cons (i := 0) rfl fps_nil) hM4) (fps_cons (i := 0) rfl fps_nil) hM6)
    · refine ⟨fun _ => ?_, fun _ => ?_⟩
      · refine an_Text_goOn (fun M10 hM10 => ?_)
        refine an_LawReader_readCondition (fun r11 M12 hM12 => ?_)
        refine ⟨fun _ => ?_, fun _ => ?_⟩
        · exact hQ _ _ (eqo_tr (eqo_tr (eqo_tr (eqo_tr (eqo_rf _) (fps_cons (i := 0) rfl fps_nil) hM4) (fps_cons (i := 0) rfl fps_nil) hM6) (fps_cons (i := 0) rfl fps_nil) hM10) (fps_cons (i := 0) rfl (fps_cons (i := 5) rfl (fps_cons (i := 6) rfl (fps_cons (i := 7) rfl (fps_cons (i := 8) rfl fps_nil))))) hM12)
        · refine an_Law_addClause (fun M15 hM15 => ?_)
          exact hQ _ _ (eqo_tr (eqo_tr (eqo_tr (eqo_tr (eqo_tr (eqo_rf _) (fps_cons (i := 0) rfl fps_nil) hM4) (fps_cons (i := 0) rfl fps_nil) hM6) (fps_cons (i := 0) rfl fps_nil) hM10) (fps_cons (i := 0) rfl (fps_cons (i := 5) rfl (fps_cons (i := 6) rfl (fps_cons (i := 7) rfl (fps_cons (i := 8) rfl fps_nil))))) hM12) (fps_cons (i := 1) rfl (fps_cons (i := 2) rfl (fps_cons (i := 3) rfl (fps_cons (i := 4) rfl fps_nil)))) hM15)
      · refine an_Law_addClause (fun M17 hM17 => ?_)
        exact hQ _ _ (eqo_tr (eqo_tr (eqo_tr (eqo_rf _) (fps_cons (i := 0) rfl fps_nil) hM4) (fps_cons (i := 0) rfl fps_nil) hM6) (fps_cons (i := 1) rfl (fps_cons (i := 2) rfl (fps_cons (i := 3) rfl (fps_cons (i := 4) rfl fps_nil)))) hM17)
  · refine ⟨fun _ => ?_, fun _ => ?_⟩
    · refine an_Text_goOn (fun M21 hM21 => ?_)
      refine an_Text_numberWithin (fun r22 M23 hM23 => ?_)
      refine ⟨fun _ => ?_, fun _ => ?_⟩
      · exact hQ _ _ (eqo_tr (eqo_tr (eqo_rf _) (fps_cons (i := 0) rfl fps_nil) hM21) (fps_cons (i := 0) rfl fps_nil) hM23)
      · refine ⟨fun _ => ?_, fun _ => ?_⟩
        · refine an_Text_goOn (fun M27 hM27 => ?_)
          refine an_LawReader_readCondition (fun r28 M29 hM29 => ?_)
          refine ⟨fun _ => ?_, fun _ => ?_⟩
          · exact hQ _ _ (eqo_tr (eqo_tr (eqo_tr (eqo_tr (eqo_rf _) (fps_cons (i := 0) rfl fps_nil) hM21) (fps_cons (i := 0) rfl fps_nil) hM23) (fps_cons (i := 0) rfl fps_nil) hM27) (fps_cons (i := 0) rfl (fps_cons (i := 5) rfl (fps_cons (i := 6) rfl (fps_cons (i := 7) rfl (fps_cons (i := 8) rfl fps_nil))))) hM29)
          · refine an_Law_addClause (fun M32 hM32 => ?_)
            exact hQ _ _ (eqo_tr (eqo_tr (eqo_tr (eqo_tr (eqo_tr (eqo_rf _) (fps_cons (i := 0) rfl fps_nil) hM21) (fps_cons (i := 0) rfl fps_nil) hM23) (fps_cons (i := 0) rfl fps_nil) hM27) (fps_cons (i := 0) rfl (fps_cons (i := 5) rfl (fps_cons (i := 6) rfl (fps_cons (i := 7) rfl (fps_cons (i := 8) rfl fps_nil))))) hM29) (fps_cons (i := 1) rfl (fps_cons (i := 2) rfl (fps_cons (i := 3) rfl (fps_cons (i := 4) rfl fps_nil)))) hM32)
        · refine an_Law_addClause (fun M34 hM34 => ?_)
          exact hQ _ _ (eqo_tr (eqo_tr (eqo_tr (eqo_rf _) (fps_cons (i := 0) rfl fps_nil) hM21) (fps_cons (i := 0) rfl fps_nil) hM23) (fps_cons (i := 1) rfl (fps_cons (i := 2) rfl (fps_cons (i := 3) rfl (fps_cons (i := 4) rfl fps_nil)))) hM34)
    · exact hQ _ _ (eqo_rf _)
def fp_LawReader_readAll  : List (Nat × Nat × Option Nat) := [(13, 13, some 0), (13, 13, some 1), (13, 13, some 2), (13, 13, some 6), (13, 13, some 8), (3, 3, some 5), (14, 14, none), (15, 15, none), (17, 17, none), (16, 16, none)]
theorem an_LawReader_readAll_31 {M0 : MM} {Q : Int32 → MM → Prop} (hQ : ∀ (r : Int32) (M1 : MM), Eqo fp_LawReader_readAll M0 M1 → Q r M1) : ∀ (N : Nat) (v1 : Int32) (M : MM), Eqo fp_LawReader_readAll M0 M → W_LawReader_readAll_31 Q N v1 M := by
  refine I_LawReader_readAll_31 Q (fun _ M => Eqo fp_LawReader_readAll M0 M) (fun N ih v1 M hih hM => ?_)
  unfold B_LawReader_readAll_31
  refine ⟨fun _ => ?_, fun _ => ?_⟩
  · refine an_LawReader_readClause (fun r5 M6 hM6 => ?_)
    refine ⟨fun _ => ?_, fun _ => ?_⟩
    · exact hQ _ _ (eqo_tr hM (fps_cons (i := 5) rfl (fps_cons (i := 6) rfl (fps_cons (i := 7) rfl (fps_cons (i := 2) rfl (fps_cons (i := 1) rfl (fps_cons (i := 4) rfl (fps_cons (i := 8) rfl (fps_cons (i := 9) rfl (fps_cons (i := 3) rfl fps_nil))))))))) hM6)
    · refine ⟨fun _ => ?_, fun _ => ?_⟩
      · exact hQ _ _ (eqo_tr hM (fps_cons (i := 5) rfl (fps_cons (i := 6) rfl (fps_cons (i := 7) rfl (fps_cons (i := 2) rfl (fps_cons (i := 1) rfl (fps_cons (i := 4) rfl (fps_cons (i := 8) rfl (fps_cons (i := 9) rfl (fps_cons (i := 3) rfl fps_nil))))))))) hM6)
      · refine ⟨fun _ => ?_, fun _ => ?_⟩
        · refine an_Text_goOn (fun M11 hM11 => ?_)
          exact hih _ _ (eqo_tr (eqo_tr hM (fps_cons (i := 5) rfl (fps_cons (i := 6) rfl (fps_cons (i := 7) rfl (fps_cons (i := 2) rfl (fps_cons (i := 1) rfl (fps_cons (i := 4) rfl (fps_cons (i := 8) rfl (fps_cons (i := 9) rfl (fps_cons (i := 3) rfl fps_nil))))))))) hM6) (fps_cons (i := 5) rfl fps_nil) hM11)
        · exact hQ _ _ (eqo_tr hM (fps_cons (i := 5) rfl (fps_cons (i := 6) rfl (fps_cons (i := 7) rfl (fps_cons (i := 2) rfl (fps_cons (i := 1) rfl (fps_cons (i := 4) rfl (fps_cons (i := 8) rfl (fps_cons (i := 9) rfl (fps_cons (i := 3) rfl fps_nil))))))))) hM6)
  · exact hQ _ _ hM
theorem an_LawReader_readAll  {N : Nat} {M : MM} {Q : Int32 → MM → Prop} (hQ : ∀ (r : Int32) (M1 : MM), Eqo fp_LawReader_readAll M M1 → Q r M1) : W_LawReader_readAll  N M Q := by
  unfold W_LawReader_readAll
  refine an_Law_clear (fun M2 hM2 => ?_)
  refine ⟨fun _ => ?_, fun _ => ?_⟩
  · exact hQ _ _ (eqo_wi (eqo_tr (eqo_rf _) (fps_cons (i := 0) rfl (fps_cons (i := 1) rfl (fps_cons (i := 2) rfl (fps_cons (i := 3) rfl (fps_cons (i := 4) rfl fps_nil))))) hM2) (i := 0) rfl (Or.inr rfl))
  · refine an_LawReader_readAll_31   hQ N _ _ (eqo_wi (eqo_tr (eqo_rf _) (fps_cons (i := 0) rfl (fps_cons (i := 1) rfl (fps_cons (i := 2) rfl (fps_cons (i := 3) rfl (fps_cons (i := 4) rfl fps_nil))))) hM2) (i := 0) rfl (Or.inr rfl))
def fp_Log_become (a : Nat) (b : Nat) : List (Nat × Nat × Option Nat) := [((a + 1), (a + 1), none), (a, a, some 1), (a, a, some 2)]
theorem an_Log_become {a : Nat} {b : Nat} {N : Nat} {M : MM} {Q : MM → Prop} (hQ : ∀  (M1 : MM), Eqo (fp_Log_become a b) M M1 → Q M1) : W_Log_become a b N M Q := by
  unfold W_Log_become
  exact hQ _ (eqo_wi (eqo_wi (eqo_cp (eqo_rf _) (i := 0) rfl (Or.inl rfl)) (i := 1) rfl (Or.inr rfl)) (i := 2) rfl (Or.inr rfl))
def fp_Log_add (a : Nat) : List (Nat × Nat × Option Nat) := [((a + 1), (a + 1), none), (a, a, some 2), (a, a, some 1)]
theorem an_Log_add {a : Nat} {p1 : Int32} {p2 : Int32} {p3 : Int32} {p4 : Int32} {N : Nat} {M : MM} {Q : MM → Prop} (hQ : ∀  (M1 : MM), Eqo (fp_Log_add a) M M1 → Q M1) : W_Log_add a p1 p2 p3 p4 N M Q := by
  unfold W_Log_add
  exact hQ _ (eqo_wi (eqo_wi (eqo_wi (eqo_wi (eqo_wi (eqo_wi (eqo_rf _) (i := 0) rfl (Or.inl rfl)) (i := 0) rfl (Or.inl rfl)) (i := 0) rfl (Or.inl rfl)) (i := 0) rfl (Or.inl rfl)) (i := 1) rfl (Or.inr rfl)) (i := 2) rfl (Or.inr rfl))
theorem an_Log_clausesOf_4 {a : Nat} {p1 : Int32} {M : MM} {Q : Int32 → Prop} (hQ : ∀ (r : Int32), Q r) : ∀ (N : Nat) (v2 : Int32) (v3 : Int32), True → W_Log_clausesOf_4 a p1 M Q N v2 v3 := by
  refine I_Log_clausesOf_4 a p1 M Q (fun _ _ => True) (fun N ih v2 v3 hih _ => ?_)
  unfold B_Log_clausesOf_4
  refine ⟨fun _ => ?_, fun _ => ?_⟩
  · refine ⟨fun _ => ?_, fun _ => ?_⟩
    · exact hih _ _ trivial
    · refine ⟨fun _ => ?_, fun _ => ?_⟩
      · exact hih _ _ trivial
      · exact hih _ _ trivial
  · exact hQ _
theorem an_Log_clausesOf {a : Nat} {p1 : Int32} {N : Nat} {M : MM} {Q : Int32 → Prop} (hQ : ∀ (r : Int32), Q r) : W_Log_clausesOf a p1 N M Q := by
  unfold W_Log_clausesOf
  refine an_Log_clausesOf_4   hQ N _ _ trivial
theorem an_Log_mostFrequentClause_18 {a : Nat} {u1 : Int32} {u2 : Int32} {u3 : Int32} {M : MM} {k47 : Int32 → Prop} {Q : Int32 → Prop} (hk47 : ∀ (v4 : Int32), k47 v4) (hQ : ∀ (r : Int32), Q r) : ∀ (N : Nat) (v4 : Int32) (v5 : Int32), True → W_Log_mostFrequentClause_18 a u1 u2 u3 M k47 Q N v4 v5 := by
  refine I_Log_mostFrequentClause_18 a u1 u2 u3 M k47 Q (fun _ _ => True) (fun N ih v4 v5 hih _ => ?_)
  unfold B_Log_mostFrequentClause_18
  refine ⟨fun _ => ?_, fun _ => ?_⟩
  · refine ⟨fun _ => ?_, fun _ => ?_⟩
    · exact hih _ _ trivial
    · exact hih _ _ trivial
  · exact hk47 _
theorem an_Log_mostFrequentClause_6 {a : Nat} {M : MM} {Q : Int32 → Prop} (hQ : ∀ (r : Int32), Q r) : ∀ (N : Nat) (v1 : Int32) (v2 : Int32) (v3 : Int32), True → W_Log_mostFrequentClause_6 a M Q N v1 v2 v3 := by
  refine I_Log_mostFrequentClause_6 a M Q (fun _ _ _ => True) (fun N ih v1 v2 v3 hih _ => ?_)
  unfold B_Log_mostFrequentClause_6
  refine ⟨fun _ => ?_, fun _ => ?_⟩
  · refine an_Log_mostFrequentClause_18  (fun x4 => ?_) hQ N _ _ trivial
    · refine ⟨fun _ => ?_, fun _ => ?_⟩
      · exact hih _ _ _ trivial
      · exact hih _ _ _ trivial
  · exact hQ _
theorem an_Log_mostFrequentClause {a : Nat} {N : Nat} {M : MM} {Q : Int32 → Prop} (hQ : ∀ (r : Int32), Q r) : W_Log_mostFrequentClause a N M Q := by
  unfold W_Log_mostFrequentClause
  refine an_Log_mostFrequentClause_6   hQ N _ _ _ trivial
def fp_World_become (a : Nat) (b : Nat) : List (Nat × Nat × Option Nat) := [(a, a, some 0), (a, a, some 1), ((a + 1), (a + 1), none), ((a + 2), (a + 2), none), ((a + 3), (a + 3), none), ((a + 4), (a + 4), none), ((a + 5), (a + 5), none), ((a + 6), (a + 6), none), ((a + 7), (a + 7), none), ((a + 8), (a + 8), none), ((a + 9), (a + 9), none), (a, a, some 11), (a, a, some 12), (a, a, some 13), (a, a, some 14), (a, a, some 15), (a, a, some 16), (a, a, some 17), (a, a, some 18), (((a + 10) + 1), ((a + 10) + 1), none), ((a + 10), (a + 10), some 1), ((a + 10), (a + 10), some 2)]
theorem an_World_become {a : Nat} {b : Nat} {N : Nat} {M : MM} {Q : MM → Prop} (hQ : ∀  (M1 : MM), Eqo (fp_World_become a b) M M1 → Q M1) : W_World_become a b N M Q := by
  unfold W_World_become
  refine an_Log_become (fun M2 hM2 => ?_)
  exact hQ _ (eqo_tr (eqo_wi (eqo_wi (eqo_wi (eqo_wi (eqo_wi (eqo_wi (eqo_wi (eqo_wi (eqo_cp (eqo_cp (eqo_cp (eqo_cp (eqo_cp (eqo_cp (eqo_cp (eqo_cp (eqo_cp (eqo_wi (eqo_wi (eqo_rf _) (i := 0) rfl (Or.inr rfl)) (i := 1) rfl (Or.inr rfl)) (i := 2) rfl (Or.inl rfl)) (i := 3) rfl (Or.inl rfl)) (i := 4) rfl (Or.inl rfl)) (i := 5) rfl (Or.inl rfl)) (i := 6) rfl (Or.inl rfl)) (i := 7) rfl (Or.inl rfl)) (i := 8) rfl (Or.inl rfl)) (i := 9) rfl (Or.inl rfl)) (i := 10) rfl (Or.inl rfl)) (i := 11) rfl (Or.inr rfl)) (i := 12) rfl (Or.inr rfl)) (i := 13) rfl (Or.inr rfl)) (i := 14) rfl (Or.inr rfl)) (i := 15) rfl (Or.inr rfl)) (i := 16) rfl (Or.inr rfl)) (i := 17) rfl (Or.inr rfl)) (i := 18) rfl (Or.inr rfl)) (fps_cons (i := 19) rfl (fps_cons (i := 20) rfl (fps_cons (i := 21) rfl fps_nil))) hM2)
def fp_Memory_remember  : List (Nat × Nat × Option Nat) := [(46, 165, none), (44, 44, some 1), (44, 44, some 2)]
theorem an_Memory_remember  {N : Nat} {M : MM} {Q : MM → Prop} (hQ : ∀  (M1 : MM), Eqo fp_Memory_remember M M1 → Q M1) : W_Memory_remember  N M Q := by
  unfold W_Memory_remember
  intro hj1
  refine an_World_become (fun M3 hM3 => ?_)
  exact hQ _ (eqo_wi (eqo_wi (eqo_tr (eqo_rf _) (fps_rg (i := 0) rfl (by omega) (by omega) (fps_rg (i := 0) rfl (by omega) (by omega) (fps_rg (i := 0) rfl (by omega) (by omega) (fps_rg (i := 0) rfl (by omega) (by omega) (fps_rg (i := 0) rfl (by omega) (by omega) (fps_rg (i := 0) rfl (by omega) (by omega) (fps_rg (i := 0) rfl (by omega) (by omega) (fps_rg (i := 0) rfl (by omega) (by omega) (fps_rg (i := 0) rfl (by omega) (by omega) (fps_rg (i := 0) rfl (by omega) (by omega) (fps_rg (i := 0) rfl (by omega) (by omega) (fps_rg (i := 0) rfl (by omega) (by omega) (fps_rg (i := 0) rfl (by omega) (by omega) (fps_rg (i := 0) rfl (by omega) (by omega) (fps_rg (i := 0) rfl (by omega) (by omega) (fps_rg (i := 0) rfl (by omega) (by omega) (fps_rg (i := 0) rfl (by omega) (by omega) (fps_rg (i := 0) rfl (by omega) (by omega) (fps_rg (i := 0) rfl (by omega) (by omega) (fps_rg (i := 0) rfl (by omega) (by omega) (fps_rg (i := 0) rfl (by omega) (by omega) (fps_rg (i := 0) rfl (by omega) (by omega) fps_nil)))))))))))))))))))))) hM3) (i := 1) rfl (Or.inr rfl)) (i := 2) rfl (Or.inr rfl))
def fp_Memory_takeBack  : List (Nat × Nat × Option Nat) := [(44, 44, some 1), (44, 44, some 2), (18, 18, some 0), (18, 18, some 1), (19, 19, none), (20, 20, none), (21, 21, none), (22, 22, none), (23, 23, none), (24, 24, none), (25, 25, none), (26, 26, none), (27, 27, none), (18, 18, some 11), (18, 18, some 12), (18, 18, some 13), (18, 18, some 14), (18, 18, some 15), (18, 18, some 16), (18, 18, some 17), (18, 18, some 18), (29, 29, none), (28, 28, some 1), (28, 28, some 2)]
theorem an_Memory_takeBack  {N : Nat} {M : MM} {Q : Int32 → MM → Prop} (hQ : ∀ (r : Int32) (M1 : MM), Eqo fp_Memory_takeBack M M1 → Q r M1) : W_Memory_takeBack  N M Q := by
  unfold W_Memory_takeBack
  refine ⟨fun _ => ?_, fun _ => ?_⟩
  · exact hQ _ _ (eqo_rf _)
  · intro hj2
    refine an_World_become (fun M4 hM4 => ?_)
    exact hQ _ _ (eqo_tr (eqo_wi (eqo_wi (eqo_rf _) (i := 0) rfl (Or.inr rfl)) (i := 1) rfl (Or.inr rfl)) (fps_cons (i := 2) rfl (fps_cons (i := 3) rfl (fps_cons (i := 4) rfl (fps_cons (i := 5) rfl (fps_cons (i := 6) rfl (fps_cons (i := 7) rfl (fps_cons (i := 8) rfl (fps_cons (i := 9) rfl (fps_cons (i := 10) rfl (fps_cons (i := 11) rfl (fps_cons (i := 12) rfl (fps_cons (i := 13) rfl (fps_cons (i := 14) rfl (fps_cons (i := 15) rfl (fps_cons (i := 16) rfl (fps_cons (i := 17) rfl (fps_cons (i := 18) rfl (fps_cons (i := 19) rfl (fps_cons (i := 20) rfl (fps_cons (i := 21) rfl (fps_cons (i := 22) rfl (fps_cons (i := 23) rfl fps_nil)))))))))))))))))))))) hM4)
def fp_Memory_forget  : List (Nat × Nat × Option Nat) := [(44, 44, some 2)]
theorem an_Memory_forget  {N : Nat} {M : MM} {Q : MM → Prop} (hQ : ∀  (M1 : MM), Eqo fp_Memory_forget M M1 → Q M1) : W_Memory_forget  N M Q := by
  unfold W_Memory_forget
  exact hQ _ (eqo_wi (eqo_rf _) (i := 0) rfl (Or.inr rfl))
def fp_Outlook_foresee  : List (Nat × Nat × Option Nat) := [(170, 170, none)]
theorem an_Outlook_foresee_3 {M0 : MM} {p1 : Int32} {p2 : Int32} {p3 : Int32} {p4 : Int32} {Q : MM → Prop} (hQ : ∀  (M1 : MM), Eqo fp_Outlook_foresee M0 M1 → Q M1) : ∀ (N : Nat) (v5 : Int32) (M : MM), Eqo fp_Outlook_foresee M0 M → W_Outlook_foresee_3 p1 p2 p3 p4 Q N v5 M := by
  refine I_Outlook_foresee_3 p1 p2 p3 p4 Q (fun _ M => Eqo fp_Outlook_foresee M0 M) (fun N ih v5 M hih hM => ?_)
  unfold B_Outlook_foresee_3
  refine ⟨fun _ => ?_, fun _ => ?_⟩
  · refine ⟨fun _ => ?_, fun _ => ?_⟩
    · refine an_Law_bearing (fun r3 => ?_)
      exact hih _ _ (eqo_wi hM (i := 0) rfl (Or.inl rfl))
    · exact hQ _ hM
  · exact hQ _ hM
theorem an_Outlook_foresee {p1 : Int32} {p2 : Int32} {p3 : Int32} {p4 : Int32} {N : Nat} {M : MM} {Q : MM → Prop} (hQ : ∀  (M1 : MM), Eqo fp_Outlook_foresee M M1 → Q M1) : W_Outlook_foresee p1 p2 p3 p4 N M Q := by
  unfold W_Outlook_foresee
  refine an_Outlook_foresee_3   hQ N _ _ (eqo_rf _)
theorem an_Outlook_riskyDays_6 {p1 : Int32} {p2 : Int32} {p3 : Int32} {M : MM} {Q : Int32 → Prop} (hQ : ∀ (r : Int32), Q r) : ∀ (N : Nat) (v4 : Int32) (v5 : Int32), True → W_Outlook_riskyDays_6 p1 p2 p3 M Q N v4 v5 := by
  refine I_Outlook_riskyDays_6 p1 p2 p3 M Q (fun _ _ => True) (fun N ih v4 v5 hih _ => ?_)
  unfold B_Outlook_riskyDays_6
  refine ⟨fun _ => ?_, fun _ => ?_⟩
  · refine ⟨fun _ => ?_, fun _ => ?_⟩
    · refine ⟨fun _ => ?_, fun _ => ?_⟩
      · exact hih _ _ trivial
      · refine ⟨fun _ => ?_, fun _ => ?_⟩
        · exact hih _ _ trivial
        · exact hih _ _ trivial
    · exact hQ _
  · exact hQ _
theorem an_Outlook_riskyDays {p1 : Int32} {p2 : Int32} {p3 : Int32} {N : Nat} {M : MM} {Q : Int32 → Prop} (hQ : ∀ (r : Int32), Q r) : W_Outlook_riskyDays p1 p2 p3 N M Q := by
  unfold W_Outlook_riskyDays
  refine an_Outlook_riskyDays_6   hQ N _ _ trivial
def fp_Outlook_riskFrom  : List (Nat × Nat × Option Nat) := [(170, 170, none)]
theorem an_Outlook_riskFrom {p1 : Int32} {p2 : Int32} {p3 : Int32} {N : Nat} {M : MM} {Q : Int32 → MM → Prop} (hQ : ∀ (r : Int32) (M1 : MM), Eqo fp_Outlook_riskFrom M M1 → Q r M1) : W_Outlook_riskFrom p1 p2 p3 N M Q := by
  unfold W_Outlook_riskFrom
  refine an_Outlook_foresee (fun M2 hM2 => ?_)
  refine an_World_inForce (fun r3 => ?_)
  refine an_Outlook_riskyDays (fun r5 => ?_)
  exact hQ _ _ (eqo_tr (eqo_rf _) (fps_cons (i := 0) rfl fps_nil) hM2)
def fp_Outlook_bestStart  : List (Nat × Nat × Option Nat) := [(170, 170, none)]
theorem an_Outlook_bestStart_14 {M0 : MM} {p1 : Int32} {p2 : Int32} {Q : Int32 → MM → Prop} (hQ : ∀ (r : Int32) (M1 : MM), Eqo fp_Outlook_bestStart M0 M1 → Q r M1) : ∀ (N : Nat) (v3 : Int32) (v4 : Int32) (v5 : Int32) (M : MM), Eqo fp_Outlook_bestStart M0 M → W_Outlook_bestStart_14 p1 p2 Q N v3 v4 v5 M := by
  refine I_Outlook_bestStart_14 p1 p2 Q (fun _ _ _ M => Eqo fp_Outlook_bestStart M0 M) (fun N ih v3 v4 v5 M hih hM => ?_)
  unfold B_Outlook_bestStart_14
  refine ⟨fun _ => ?_, fun _ => ?_⟩
  · refine an_Outlook_riskFrom (fun r4 M5 hM5 => ?_)
    refine ⟨fun _ => ?_, fun _ => ?_⟩
    · exact hih _ _ _ _ (eqo_tr hM (fps_cons (i := 0) rfl fps_nil) hM5)
    · exact hih _ _ _ _ (eqo_tr hM (fps_cons (i := 0) rfl fps_nil) hM5)
  · exact hQ _ _ hM
theorem an_Outlook_bestStart {p1 : Int32} {p2 : Int32} {N : Nat} {M : MM} {Q : Int32 → MM → Prop} (hQ : ∀ (r : Int32) (M1 : MM), Eqo fp_Outlook_bestStart M M1 → Q r M1) : W_Outlook_bestStart p1 p2 N M Q := by
  unfold W_Outlook_bestStart
  refine an_Outlook_riskFrom (fun r1 M2 hM2 => ?_)
  refine an_Outlook_bestStart_14   hQ N _ _ _ _ (eqo_tr (eqo_rf _) (fps_cons (i := 0) rfl fps_nil) hM2)
def fp_Outlook_findTellingOf  : List (Nat × Nat × Option Nat) := [(170, 170, none), (169, 169, some 3), (169, 169, some 4)]
theorem an_Outlook_findTellingOf_40 {M0 : MM} {p1 : Int32} {p2 : Int32} {p3 : Int32} {u4 : Int32} {u5 : Int32} {Q : MM → Prop} (hQ : ∀  (M1 : MM), Eqo fp_Outlook_findTellingOf M0 M1 → Q M1) : ∀ (N : Nat) (v6 : Int32) (M : MM), Eqo fp_Outlook_findTellingOf M0 M → W_Outlook_findTellingOf_40 p1 p2 p3 u4 u5 Q N v6 M := by
  refine I_Outlook_findTellingOf_40 p1 p2 p3 u4 u5 Q (fun _ M => Eqo fp_Outlook_findTellingOf M0 M) (fun N ih v6 M hih hM => ?_)
  unfold B_Outlook_findTellingOf_40
  refine ⟨fun _ => ?_, fun _ => ?_⟩
  · refine ⟨fun _ => ?_, fun _ => ?_⟩
    · refine an_Outlook_riskyDays (fun r7 => ?_)
      refine ⟨fun _ => ?_, fun _ => ?_⟩
      · exact hih _ _ (eqo_wi (eqo_wi hM (i := 1) rfl (Or.inr rfl)) (i := 2) rfl (Or.inr rfl))
      · refine ⟨fun _ => ?_, fun _ => ?_⟩
        · exact hih _ _ (eqo_wi (eqo_wi hM (i := 1) rfl (Or.inr rfl)) (i := 2) rfl (Or.inr rfl))
        · exact hih _ _ hM
    · exact hih _ _ hM
  · exact hQ _ hM
theorem an_Outlook_findTellingOf {p1 : Int32} {p2 : Int32} {p3 : Int32} {N : Nat} {M : MM} {Q : MM → Prop} (hQ : ∀  (M1 : MM), Eqo fp_Outlook_findTellingOf M M1 → Q M1) : W_Outlook_findTellingOf p1 p2 p3 N M Q := by
  unfold W_Outlook_findTellingOf
  refine an_Outlook_riskFrom (fun r1 M2 hM2 => ?_)
  refine an_Outlook_foresee (fun M4 hM4 => ?_)
  refine an_Outlook_findTellingOf_40   hQ N _ _ (eqo_tr (eqo_tr (eqo_rf _) (fps_cons (i := 0) rfl fps_nil) hM2) (fps_cons (i := 0) rfl fps_nil) hM4)
def fp_Outlook_findTelling  : List (Nat × Nat × Option Nat) := [(169, 169, some 3), (169, 169, some 4), (170, 170, none)]
theorem an_Outlook_findTelling_20 {M0 : MM} {p1 : Int32} {u2 : Int32} {Q : MM → Prop} (hQ : ∀  (M1 : MM), Eqo fp_Outlook_findTelling M0 M1 → Q M1) : ∀ (N : Nat) (v3 : Int32) (M : MM), Eqo fp_Outlook_findTelling M0 M → W_Outlook_findTelling_20 p1 u2 Q N v3 M := by
  refine I_Outlook_findTelling_20 p1 u2 Q (fun _ M => Eqo fp_Outlook_findTelling M0 M) (fun N ih v3 M hih hM => ?_)
  unfold B_Outlook_findTelling_20
  refine ⟨fun _ => ?_, fun _ => ?_⟩
  · refine ⟨fun _ => ?_, fun _ => ?_⟩
    · exact hih _ _ hM
    · refine an_Outlook_findTellingOf (fun M6 hM6 => ?_)
      exact hih _ _ (eqo_tr hM (fps_cons (i := 2) rfl (fps_cons (i := 0) rfl (fps_cons (i := 1) rfl fps_nil))) hM6)
  · exact hQ _ hM
theorem an_Outlook_findTelling {p1 : Int32} {N : Nat} {M : MM} {Q : MM → Prop} (hQ : ∀  (M1 : MM), Eqo fp_Outlook_findTelling M M1 → Q M1) : W_Outlook_findTelling p1 N M Q := by
  unfold W_Outlook_findTelling
  refine an_World_inForce (fun r1 => ?_)
  refine an_Outlook_findTelling_20   hQ N _ _ (eqo_wi (eqo_wi (eqo_rf _) (i := 0) rfl (Or.inr rfl)) (i := 1) rfl (Or.inr rfl))
def fp_Reading_addNeed  : List (Nat × Nat × Option Nat) := [(167, 167, none), (166, 166, some 3)]
theorem an_Reading_addNeed_2 {M0 : MM} {p1 : Int32} {M : MM} {k27 : Prop} {Q : MM → Prop} (hM : Eqo fp_Reading_addNeed M0 M) (hk27 : k27) (hQ : ∀  (M1 : MM), Eqo fp_Reading_addNeed M0 M1 → Q M1) : ∀ (N : Nat) (v2 : Int32), True → W_Reading_addNeed_2 p1 M k27 Q N v2 := by
  refine I_Reading_addNeed_2 p1 M k27 Q (fun _ => True) (fun N ih v2 hih _ => ?_)
  unfold B_Reading_addNeed_2
  refine ⟨fun _ => ?_, fun _ => ?_⟩
  · refine ⟨fun _ => ?_, fun _ => ?_⟩
    · exact hQ _ hM
    · exact hih _ trivial
  · exact hk27
theorem an_Reading_addNeed {p1 : Int32} {N : Nat} {M : MM} {Q : MM → Prop} (hQ : ∀  (M1 : MM), Eqo fp_Reading_addNeed M M1 → Q M1) : W_Reading_addNeed p1 N M Q := by
  unfold W_Reading_addNeed
  refine an_Reading_addNeed_2 (eqo_rf _) ?_ hQ N _ trivial
  · refine ⟨fun _ => ?_, fun _ => ?_⟩
    · exact hQ _ (eqo_wi (eqo_wi (eqo_rf _) (i := 0) rfl (Or.inl rfl)) (i := 1) rfl (Or.inr rfl))
    · exact hQ _ (eqo_rf _)
def fp_Reading_takeRow  : List (Nat × Nat × Option Nat) := [(167, 167, none), (166, 166, some 3), (166, 166, some 4)]
theorem an_Reading_takeRow {p1 : Int32} {p2 : Int32} {p3 : Int32} {N : Nat} {M : MM} {Q : Int32 → MM → Prop} (hQ : ∀ (r : Int32) (M1 : MM), Eqo fp_Reading_takeRow M M1 → Q r M1) : W_Reading_takeRow p1 p2 p3 N M Q := by
  unfold W_Reading_takeRow
  refine ⟨fun _ => ?_, fun _ => ?_⟩
  · refine ⟨fun _ => ?_, fun _ => ?_⟩
    · exact hQ _ _ (eqo_rf _)
    · refine ⟨fun _ => ?_, fun _ => ?_⟩
      · refine ⟨fun _ => ?_, fun _ => ?_⟩
        · exact hQ _ _ (eqo_rf _)
        · refine an_Law_bearing (fun r5 => ?_)
          refine ⟨fun _ => ?_, fun _ => ?_⟩
          · exact hQ _ _ (eqo_wi (eqo_rf _) (i := 2) rfl (Or.inr rfl))
          · refine an_Reading_addNeed (fun M9 hM9 => ?_)
            exact hQ _ _ (eqo_tr (eqo_rf _) (fps_cons (i := 0) rfl (fps_cons (i := 1) rfl fps_nil)) hM9)
      · exact hQ _ _ (eqo_rf _)
  · exact hQ _ _ (eqo_rf _)
def fp_Reading_takeRows  : List (Nat × Nat × Option Nat) := [(166, 166, some 3), (166, 166, some 4), (167, 167, none)]
theorem an_Reading_takeRows_12 {M0 : MM} {Q : Int32 → MM → Prop} (hQ : ∀ (r : Int32) (M1 : MM), Eqo fp_Reading_takeRows M0 M1 → Q r M1) : ∀ (N : Nat) (v2 : Int32) (M : MM), Eqo fp_Reading_takeRows M0 M → W_Reading_takeRows_12 Q N v2 M := by
  refine I_Reading_takeRows_12 Q (fun _ M => Eqo fp_Reading_takeRows M0 M) (fun N ih v2 M hih hM => ?_)
  unfold B_Reading_takeRows_12
  refine ⟨fun _ => ?_, fun _ => ?_⟩
  · refine ⟨fun _ => ?_, fun _ => ?_⟩
    · exact hQ _ _ hM
    · refine an_Reading_takeRow (fun r3 M4 hM4 => ?_)
      refine ⟨fun _ => ?_, fun _ => ?_⟩
      · exact hQ _ _ (eqo_tr hM (fps_cons (i := 2) rfl (fps_cons (i := 0) rfl (fps_cons (i := 1) rfl fps_nil))) hM4)
      · exact hih _ _ (eqo_tr hM (fps_cons (i := 2) rfl (fps_cons (i := 0) rfl (fps_cons (i := 1) rfl fps_nil))) hM4)
  · exact hQ _ _ hM
theorem an_Reading_takeRows  {N : Nat} {M : MM} {Q : Int32 → MM → Prop} (hQ : ∀ (r : Int32) (M1 : MM), Eqo fp_Reading_takeRows M M1 → Q r M1) : W_Reading_takeRows  N M Q := by
  unfold W_Reading_takeRows
  refine an_Reading_takeRows_12   hQ N _ _ (eqo_wi (eqo_wi (eqo_rf _) (i := 0) rfl (Or.inr rfl)) (i := 1) rfl (Or.inr rfl))
theorem an_Reading_meetsNeeds_2 {p1 : Int32} {M : MM} {Q : Int32 → Prop} (hQ : ∀ (r : Int32), Q r) : ∀ (N : Nat) (v2 : Int32), True → W_Reading_meetsNeeds_2 p1 M Q N v2 := by
  refine I_Reading_meetsNeeds_2 p1 M Q (fun _ => True) (fun N ih v2 hih _ => ?_)
  unfold B_Reading_meetsNeeds_2
  refine ⟨fun _ => ?_, fun _ => ?_⟩
  · refine ⟨fun _ => ?_, fun _ => ?_⟩
    · exact hQ _
    · exact hih _ trivial
  · exact hQ _
theorem an_Reading_meetsNeeds {p1 : Int32} {N : Nat} {M : MM} {Q : Int32 → Prop} (hQ : ∀ (r : Int32), Q r) : W_Reading_meetsNeeds p1 N M Q := by
  unfold W_Reading_meetsNeeds
  refine an_Reading_meetsNeeds_2   hQ N _ trivial
def fp_Reading_findCodes  : List (Nat × Nat × Option Nat) := [(166, 166, some 6), (166, 166, some 7), (166, 166, some 8), (168, 168, none)]
theorem an_Reading_findCodes_42 {M0 : MM} {u1 : Int32} {u2 : Int32} {Q : MM → Prop} (hQ : ∀  (M1 : MM), Eqo fp_Reading_findCodes M0 M1 → Q M1) : ∀ (N : Nat) (v3 : Int32) (M : MM), Eqo fp_Reading_findCodes M0 M → W_Reading_findCodes_42 u1 u2 Q N v3 M := by
  refine I_Reading_findCodes_42 u1 u2 Q (fun _ M => Eqo fp_Reading_findCodes M0 M) (fun N ih v3 M hih hM => ?_)
  unfold B_Reading_findCodes_42
  refine ⟨fun _ => ?_, fun _ => ?_⟩
  · refine ⟨fun _ => ?_, fun _ => ?_⟩
    · refine an_Reading_meetsNeeds (fun r3 => ?_)
      refine ⟨fun _ => ?_, fun _ => ?_⟩
      · exact hih _ _ (eqo_wi hM (i := 3) rfl (Or.inl rfl))
      · exact hih _ _ (eqo_wi (eqo_wi (eqo_wi (eqo_wi hM (i := 3) rfl (Or.inl rfl)) (i := 0) rfl (Or.inr rfl)) (i := 1) rfl (Or.inr rfl)) (i := 2) rfl (Or.inr rfl))
    · exact hih _ _ (eqo_wi hM (i := 3) rfl (Or.inl rfl))
  · refine ⟨fun _ => ?_, fun _ => ?_⟩
    · exact hQ _ (eqo_wi hM (i := 1) rfl (Or.inr rfl))
    · exact hQ _ hM
theorem an_Reading_findCodes  {N : Nat} {M : MM} {Q : MM → Prop} (hQ : ∀  (M1 : MM), Eqo fp_Reading_findCodes M M1 → Q M1) : W_Reading_findCodes  N M Q := by
  unfold W_Reading_findCodes
  refine an_Reading_findCodes_42   hQ N _ _ (eqo_wi (eqo_wi (eqo_wi (eqo_rf _) (i := 0) rfl (Or.inr rfl)) (i := 1) rfl (Or.inr rfl)) (i := 2) rfl (Or.inr rfl))
def fp_Reading_sumOverSubsets  : List (Nat × Nat × Option Nat) := [(168, 168, none)]
theorem an_Reading_sumOverSubsets_19 {M0 : MM} {u1 : Int32} {u2 : Int32} {k53 : MM → Prop} {Q : MM → Prop} (hk53 : ∀  (M : MM), Eqo fp_Reading_sumOverSubsets M0 M → k53 M) (hQ : ∀  (M1 : MM), Eqo fp_Reading_sumOverSubsets M0 M1 → Q M1) : ∀ (N : Nat) (v3 : Int32) (M : MM), Eqo fp_Reading_sumOverSubsets M0 M → W_Reading_sumOverSubsets_19 u1 u2 k53 Q N v3 M := by
  refine I_Reading_sumOverSubsets_19 u1 u2 k53 Q (fun _ M => Eqo fp_Reading_sumOverSubsets M0 M) (fun N ih v3 M hih hM => ?_)
  unfold B_Reading_sumOverSubsets_19
  refine ⟨fun _ => ?_, fun _ => ?_⟩
  · refine ⟨fun _ => ?_, fun _ => ?_⟩
    · exact hih _ _ hM
    · exact hih _ _ (eqo_wi hM (i := 0) rfl (Or.inl rfl))
  · exact hk53 _ hM
theorem an_Reading_sumOverSubsets_12 {M0 : MM} {u1 : Int32} {Q : MM → Prop} (hQ : ∀  (M1 : MM), Eqo fp_Reading_sumOverSubsets M0 M1 → Q M1) : ∀ (N : Nat) (v2 : Int32) (M : MM), Eqo fp_Reading_sumOverSubsets M0 M → W_Reading_sumOverSubsets_12 u1 Q N v2 M := by
  refine I_Reading_sumOverSubsets_12 u1 Q (fun _ M => Eqo fp_Reading_sumOverSubsets M0 M) (fun N ih v2 M hih hM => ?_)
  unfold B_Reading_sumOverSubsets_12
  refine ⟨fun _ => ?_, fun _ => ?_⟩
  · refine an_Reading_sumOverSubsets_19  (fun M4 hMM4 => ?_) hQ N _ _ hM
    · exact hih _ _ hMM4
  · exact hQ _ hM
theorem an_Reading_sumOverSubsets  {N : Nat} {M : MM} {Q : MM → Prop} (hQ : ∀  (M1 : MM), Eqo fp_Reading_sumOverSubsets M M1 → Q M1) : W_Reading_sumOverSubsets  N M Q := by
  unfold W_Reading_sumOverSubsets
  refine an_Reading_sumOverSubsets_12   hQ N _ _ (eqo_rf _)
def fp_Reading_bestSplit  : List (Nat × Nat × Option Nat) := [(168, 168, none)]
theorem an_Reading_bestSplit_24 {M0 : MM} {p1 : Int32} {u2 : Int32} {M : MM} {Q : Int32 → MM → Prop} (hM : Eqo fp_Reading_bestSplit M0 M) (hQ : ∀ (r : Int32) (M1 : MM), Eqo fp_Reading_bestSplit M0 M1 → Q r M1) : ∀ (N : Nat) (v3 : Int32) (v4 : Int32) (v5 : Int32), True → W_Reading_bestSplit_24 p1 u2 M Q N v3 v4 v5 := by
  refine I_Reading_bestSplit_24 p1 u2 M Q (fun _ _ _ => True) (fun N ih v3 v4 v5 hih _ => ?_)
  unfold B_Reading_bestSplit_24
  refine ⟨fun _ => ?_, fun _ => ?_⟩
  · refine an_Law_bearing (fun r4 => ?_)
    refine ⟨fun _ => ?_, fun _ => ?_⟩
    · exact hih _ _ _ trivial
    · refine ⟨fun _ => ?_, fun _ => ?_⟩
      · exact hih _ _ _ trivial
      · exact hih _ _ _ trivial
  · exact hQ _ _ hM
theorem an_Reading_bestSplit {p1 : Int32} {N : Nat} {M : MM} {Q : Int32 → MM → Prop} (hQ : ∀ (r : Int32) (M1 : MM), Eqo fp_Reading_bestSplit M M1 → Q r M1) : W_Reading_bestSplit p1 N M Q := by
  unfold W_Reading_bestSplit
  refine an_Reading_sumOverSubsets (fun M2 hM2 => ?_)
  refine an_Reading_bestSplit_24 (eqo_tr (eqo_rf _) (fps_cons (i := 0) rfl fps_nil) hM2)  hQ N _ _ _ trivial
def fp_RepublicReader_readMatter  : List (Nat × Nat × Option Nat) := [(3, 3, some 5)]
theorem an_RepublicReader_readMatter  {N : Nat} {M : MM} {Q : Int32 → MM → Prop} (hQ : ∀ (r : Int32) (M1 : MM), Eqo fp_RepublicReader_readMatter M M1 → Q r M1) : W_RepublicReader_readMatter  N M Q := by
  unfold W_RepublicReader_readMatter
  refine ⟨fun _ => ?_, fun _ => ?_⟩
  · refine ⟨fun _ => ?_, fun _ => ?_⟩
    · refine ⟨fun _ => ?_, fun _ => ?_⟩
      · refine ⟨fun _ => ?_, fun _ => ?_⟩
        · refine an_Text_goOn (fun M6 hM6 => ?_)
          exact hQ _ _ (eqo_tr (eqo_rf _) (fps_cons (i := 0) rfl fps_nil) hM6)
        · exact hQ _ _ (eqo_rf _)
      · exact hQ _ _ (eqo_rf _)
    · exact hQ _ _ (eqo_rf _)
  · exact hQ _ _ (eqo_rf _)
def fp_World_addToHabit (a : Nat) : List (Nat × Nat × Option Nat) := [((a + 5), (a + 5), none), ((a + 6), (a + 6), none)]
theorem an_World_addToHabit {a : Nat} {p1 : Int32} {p2 : Int32} {N : Nat} {M : MM} {Q : MM → Prop} (hQ : ∀  (M1 : MM), Eqo (fp_World_addToHabit a) M M1 → Q M1) : W_World_addToHabit a p1 p2 N M Q := by
  unfold W_World_addToHabit
  refine ⟨fun _ => ?_, fun _ => ?_⟩
  · exact hQ _ (eqo_wi (eqo_wi (eqo_rf _) (i := 0) rfl (Or.inl rfl)) (i := 1) rfl (Or.inl rfl))
  · exact hQ _ (eqo_rf _)
def fp_RepublicReader_readHabit  : List (Nat × Nat × Option Nat) := [(3, 3, some 5), (35, 35, none), (36, 36, none)]
theorem an_RepublicReader_readHabit_2 {M0 : MM} {p1 : Int32} {Q : Int32 → MM → Prop} (hQ : ∀ (r : Int32) (M1 : MM), Eqo fp_RepublicReader_readHabit M0 M1 → Q r M1) : ∀ (N : Nat) (v2 : Int32) (M : MM), Eqo fp_RepublicReader_readHabit M0 M → W_RepublicReader_readHabit_2 p1 Q N v2 M := by
  refine I_RepublicReader_readHabit_2 p1 Q (fun _ M => Eqo fp_RepublicReader_readHabit M0 M) (fun N ih v2 M hih hM => ?_)
  unfold B_RepublicReader_readHabit_2
  refine ⟨fun _ => ?_, fun _ => ?_⟩
  · refine an_RepublicReader_readMatter (fun r2 M3 hM3 => ?_)
    refine ⟨fun _ => ?_, fun _ => ?_⟩
    · exact hQ _ _ (eqo_tr hM (fps_cons (i := 0) rfl fps_nil) hM3)
    · refine an_World_addToHabit (fun M6 hM6 => ?_)
      refine ⟨fun _ => ?_, fun _ => ?_⟩
      · exact hih _ _ (eqo_tr (eqo_tr hM (fps_cons (i := 0) rfl fps_nil) hM3) (fps_cons (i := 1) rfl (fps_cons (i := 2) rfl fps_nil)) hM6)
      · exact hQ _ _ (eqo_tr (eqo_tr hM (fps_cons (i := 0) rfl fps_nil) hM3) (fps_cons (i := 1) rfl (fps_cons (i := 2) rfl fps_nil)) hM6)
  · exact hQ _ _ hM
theorem an_RepublicReader_readHabit {p1 : Int32} {N : Nat} {M : MM} {Q : Int32 → MM → Prop} (hQ : ∀ (r : Int32) (M1 : MM), Eqo fp_RepublicReader_readHabit M M1 → Q r M1) : W_RepublicReader_readHabit p1 N M Q := by
  unfold W_RepublicReader_readHabit
  refine an_RepublicReader_readHabit_2   hQ N _ _ (eqo_rf _)
def fp_RepublicReader_readKnows  : List (Nat × Nat × Option Nat) := [(3, 3, some 5), (31, 31, none)]
theorem an_RepublicReader_readKnows_9 {M0 : MM} {p1 : Int32} {Q : Int32 → MM → Prop} (hQ : ∀ (r : Int32) (M1 : MM), Eqo fp_RepublicReader_readKnows M0 M1 → Q r M1) : ∀ (N : Nat) (v2 : Int32) (M : MM), Eqo fp_RepublicReader_readKnows M0 M → W_RepublicReader_readKnows_9 p1 Q N v2 M := by
  refine I_RepublicReader_readKnows_9 p1 Q (fun _ M => Eqo fp_RepublicReader_readKnows M0 M) (fun N ih v2 M hih hM => ?_)
  unfold B_RepublicReader_readKnows_9
  refine ⟨fun _ => ?_, fun _ => ?_⟩
  · refine an_Text_numberWithin (fun r4 M5 hM5 => ?_)
    refine ⟨fun _ => ?_, fun _ => ?_⟩
    · exact hQ _ _ (eqo_tr hM (fps_cons (i := 0) rfl fps_nil) hM5)
    · refine ⟨fun _ => ?_, fun _ => ?_⟩
      · exact hih _ _ (eqo_wi (eqo_tr hM (fps_cons (i := 0) rfl fps_nil) hM5) (i := 1) rfl (Or.inl rfl))
      · exact hQ _ _ (eqo_wi (eqo_tr hM (fps_cons (i := 0) rfl fps_nil) hM5) (i := 1) rfl (Or.inl rfl))
  · exact hQ _ _ hM
theorem an_RepublicReader_readKnows {p1 : Int32} {N : Nat} {M : MM} {Q : Int32 → MM → Prop} (hQ : ∀ (r : Int32) (M1 : MM), Eqo fp_RepublicReader_readKnows M M1 → Q r M1) : W_RepublicReader_readKnows p1 N M Q := by
  unfold W_RepublicReader_readKnows
  refine an_Text_goOn (fun M2 hM2 => ?_)
  refine an_RepublicReader_readKnows_9   hQ N _ _ (eqo_tr (eqo_rf _) (fps_cons (i := 0) rfl fps_nil) hM2)
def fp_World_addCitizen (a : Nat) : List (Nat × Nat × Option Nat) := [(a, a, some 0), (a, a, some 1), ((a + 1), (a + 1), none), ((a + 2), (a + 2), none), ((a + 3), (a + 3), none), ((a + 4), (a + 4), none), ((a + 6), (a + 6), none), ((a + 7), (a + 7), none), ((a + 8), (a + 8), none)]
theorem an_World_addCitizen {a : Nat} {p1 : Int32} {N : Nat} {M : MM} {Q : Int32 → MM → Prop} (hQ : ∀ (r : Int32) (M1 : MM), Eqo (fp_World_addCitizen a) M M1 → Q r M1) : W_World_addCitizen a p1 N M Q := by
  unfold W_World_addCitizen
  refine ⟨fun _ => ?_, fun _ => ?_⟩
  · exact hQ _ _ (eqo_wj (eqo_wi (eqo_wi (eqo_wi (eqo_wi (eqo_wi (eqo_wi (eqo_wi (eqo_wi (eqo_rf _) (i := 0) rfl (Or.inr rfl)) (i := 1) rfl (Or.inr rfl)) (i := 2) rfl (Or.inl rfl)) (i := 3) rfl (Or.inl rfl)) (i := 4) rfl (Or.inl rfl)) (i := 5) rfl (Or.inl rfl)) (i := 6) rfl (Or.inl rfl)) (i := 7) rfl (Or.inl rfl)) (i := 8) rfl (Or.inl rfl))
  · exact hQ _ _ (eqo_rf _)
def fp_RepublicReader_readCitizen  : List (Nat × Nat × Option Nat) := [(3, 3, some 5), (30, 30, some 0), (30, 30, some 1), (31, 31, none), (32, 32, none), (33, 33, none), (34, 34, none), (36, 36, none), (37, 37, none), (38, 38, none), (35, 35, none)]
theorem an_RepublicReader_readCitizen  {N : Nat} {M : MM} {Q : Int32 → MM → Prop} (hQ : ∀ (r : Int32) (M1 : MM), Eqo fp_RepublicReader_readCitizen M M1 → Q r M1) : W_RepublicReader_readCitizen  N M Q := by
  unfold W_RepublicReader_readCitizen
  refine ⟨fun _ => ?_, fun _ => ?_⟩
  · refine an_Text_goOn (fun M3 hM3 => ?_)
    refine an_Text_numberWithin (fun r4 M5 hM5 => ?_)
    refine ⟨fun _ => ?_, fun _ => ?_⟩
    · exact hQ _ _ (eqo_tr (eqo_tr (eqo_rf _) (fps_cons (i := 0) rfl fps_nil) hM3) (fps_cons (i := 0) rfl fps_nil) hM5)
    · refine ⟨fun _ => ?_, fun _ => ?_⟩
      · refine an_Text_goOn (fun M9 hM9 => ?_)
        refine an_World_addCitizen (fun r10 M11 hM11 => ?_)
        refine ⟨fun _ => ?_, fun _ => ?_⟩
        · exact hQ _ _ (eqo_tr (eqo_tr (eqo_tr (eqo_tr (eqo_rf _) (fps_cons (i := 0) rfl fps_nil) hM3) (fps_cons (i := 0) rfl fps_nil) hM5) (fps_cons (i := 0) rfl fps_nil) hM9) (fps_cons (i := 1) rfl (fps_cons (i := 2) rfl (fps_cons (i := 3) rfl (fps_cons (i := 4) rfl (fps_cons (i := 5) rfl (fps_cons (i := 6) rfl (fps_cons (i := 7) rfl (fps_cons (i := 8) rfl (fps_cons (i := 9) rfl fps_nil))))))))) hM11)
        · refine an_RepublicReader_readHabit (fun r13 M14 hM14 => ?_)
          refine ⟨fun _ => ?_, fun _ => ?_⟩
          · exact hQ _ _ (eqo_tr (eqo_tr (eqo_tr (eqo_tr (eqo_tr (eqo_rf _) (fps_cons (i := 0) rfl fps_nil) hM3) (fps_cons (i := 0) rfl fps_nil) hM5) (fps_cons (i := 0) rfl fps_nil) hM9) (fps_cons (i := 1) rfl (fps_cons (i := 2) rfl (fps_cons (i := 3) rfl (fps_cons (i := 4) rfl (fps_cons (i := 5) rfl (fps_cons (i := 6) rfl (fps_cons (i := 7) rfl (fps_cons (i := 8) rfl (fps_cons (i := 9) rfl fps_nil))))))))) hM11) (fps_cons (i := 0) rfl (fps_cons (i := 10) rfl (fps_cons (i := 7) rfl fps_nil))) hM14)
          · refine ⟨fun _ => ?_, fun _ => ?_⟩
            · refine an_RepublicReader_readKnows (fun r17 M18 hM18 => ?_)
              refine ⟨fun _ => ?_, fun _ => ?_⟩
              · exact hQ _ _ (eqo_tr (eqo_tr (eqo_tr (eqo_tr (eqo_tr (eqo_tr (eqo_rf _) (fps_cons (i := 0) rfl fps_nil) hM3) (fps_cons (i := 0) rfl fps_nil) hM5) (fps_cons (i := 0) rfl fps_nil) hM9) (fps_cons (i := 1) rfl (fps_cons (i := 2) rfl (fps_cons (i := 3) rfl (fps_cons (i := 4) rfl (fps_cons (i := 5) rfl (fps_cons (i := 6) rfl (fps_cons (i := 7) rfl (fps_cons (i := 8) rfl (fps_cons (i := 9) rfl fps_nil))))))))) hM11) (fps_cons (i := 0) rfl (fps_cons (i := 10) rfl (fps_cons (i := 7) rfl fps_nil))) hM14) (fps_cons (i := 0) rfl (fps_cons (i := 3) rfl fps_nil)) hM18)
              · exact hQ _ _ (eqo_tr (eqo_tr (eqo_tr (eqo_tr (eqo_tr (eqo_tr (eqo_rf _) (fps_cons (i := 0) rfl fps_nil) hM3) (fps_cons (i := 0) rfl fps_nil) hM5) (fps_cons (i := 0) rfl fps_nil) hM9) (fps_cons (i := 1) rfl (fps_cons (i := 2) rfl (fps_cons (i := 3) rfl (fps_cons (i := 4) rfl (fps_cons (i := 5) rfl (fps_cons (i := 6) rfl (fps_cons (i := 7) rfl (fps_cons (i := 8) rfl (fps_cons (i := 9) rfl fps_nil))))))))) hM11) (fps_cons (i := 0) rfl (fps_cons (i := 10) rfl (fps_cons (i := 7) rfl fps_nil))) hM14) (fps_cons (i := 0) rfl (fps_cons (i := 3) rfl fps_nil)) hM18)
            · exact hQ _ _ (eqo_tr (eqo_tr (eqo_tr (eqo_tr (eqo_tr (eqo_rf _) (fps_cons (i := 0) rfl fps_nil) hM3) (fps_cons (i := 0) rfl fps_nil) hM5) (fps_cons (i := 0) rfl fps_nil) hM9) (fps_cons (i := 1) rfl (fps_cons (i := 2) rfl (fps_cons (i := 3) rfl (fps_cons (i := 4) rfl (fps_cons (i := 5) rfl (fps_cons (i := 6) rfl (fps_cons (i := 7) rfl (fps_cons (i := 8) rfl (fps_cons (i := 9) rfl fps_nil))))))))) hM11) (fps_cons (i := 0) rfl (fps_cons (i := 10) rfl (fps_cons (i := 7) rfl fps_nil))) hM14)
      · exact hQ _ _ (eqo_tr (eqo_tr (eqo_rf _) (fps_cons (i := 0) rfl fps_nil) hM3) (fps_cons (i := 0) rfl fps_nil) hM5)
  · exact hQ _ _ (eqo_rf _)
def fp_RepublicReader_readWatch  : List (Nat × Nat × Option Nat) := [(3, 3, some 5), (30, 30, some 11)]
theorem an_RepublicReader_readWatch  {N : Nat} {M : MM} {Q : Int32 → MM → Prop} (hQ : ∀ (r : Int32) (M1 : MM), Eqo fp_RepublicReader_readWatch M M1 → Q r M1) : W_RepublicReader_readWatch  N M Q := by
  unfold W_RepublicReader_readWatch
  refine an_Text_numberWithin (fun r1 M2 hM2 => ?_)
  refine ⟨fun _ => ?_, fun _ => ?_⟩
  · exact hQ _ _ (eqo_wi (eqo_tr (eqo_rf _) (fps_cons (i := 0) rfl fps_nil) hM2) (i := 1) rfl (Or.inr rfl))
  · exact hQ _ _ (eqo_wi (eqo_tr (eqo_rf _) (fps_cons (i := 0) rfl fps_nil) hM2) (i := 1) rfl (Or.inr rfl))
def fp_RepublicReader_readTerm  : List (Nat × Nat × Option Nat) := [(3, 3, some 5), (30, 30, some 12)]
theorem an_RepublicReader_readTerm  {N : Nat} {M : MM} {Q : Int32 → MM → Prop} (hQ : ∀ (r : Int32) (M1 : MM), Eqo fp_RepublicReader_readTerm M M1 → Q r M1) : W_RepublicReader_readTerm  N M Q := by
  unfold W_RepublicReader_readTerm
  refine an_Text_numberWithin (fun r1 M2 hM2 => ?_)
  refine ⟨fun _ => ?_, fun _ => ?_⟩
  · exact hQ _ _ (eqo_wi (eqo_tr (eqo_rf _) (fps_cons (i := 0) rfl fps_nil) hM2) (i := 1) rfl (Or.inr rfl))
  · exact hQ _ _ (eqo_wi (eqo_tr (eqo_rf _) (fps_cons (i := 0) rfl fps_nil) hM2) (i := 1) rfl (Or.inr rfl))
def fp_RepublicReader_readHarm  : List (Nat × Nat × Option Nat) := [(3, 3, some 5), (39, 39, none)]
theorem an_RepublicReader_readHarm  {N : Nat} {M : MM} {Q : Int32 → MM → Prop} (hQ : ∀ (r : Int32) (M1 : MM), Eqo fp_RepublicReader_readHarm M M1 → Q r M1) : W_RepublicReader_readHarm  N M Q := by
  unfold W_RepublicReader_readHarm
  refine an_Text_numberWithin (fun r1 M2 hM2 => ?_)
  refine ⟨fun _ => ?_, fun _ => ?_⟩
  · exact hQ _ _ (eqo_tr (eqo_rf _) (fps_cons (i := 0) rfl fps_nil) hM2)
  · refine an_Text_numberWithin (fun r4 M5 hM5 => ?_)
    refine ⟨fun _ => ?_, fun _ => ?_⟩
    · exact hQ _ _ (eqo_wi (eqo_tr (eqo_tr (eqo_rf _) (fps_cons (i := 0) rfl fps_nil) hM2) (fps_cons (i := 0) rfl fps_nil) hM5) (i := 1) rfl (Or.inl rfl))
    · exact hQ _ _ (eqo_wi (eqo_tr (eqo_tr (eqo_rf _) (fps_cons (i := 0) rfl fps_nil) hM2) (fps_cons (i := 0) rfl fps_nil) hM5) (i := 1) rfl (Or.inl rfl))
def fp_RepublicReader_readLiving  : List (Nat × Nat × Option Nat) := [(3, 3, some 5)]
theorem an_RepublicReader_readLiving {p1 : Int32} {p2 : Int32} {N : Nat} {M : MM} {Q : Int32 → MM → Prop} (hQ : ∀ (r : Int32) (M1 : MM), Eqo fp_RepublicReader_readLiving M M1 → Q r M1) : W_RepublicReader_readLiving p1 p2 N M Q := by
  unfold W_RepublicReader_readLiving
  refine ⟨fun _ => ?_, fun _ => ?_⟩
  · refine ⟨fun _ => ?_, fun _ => ?_⟩
    · refine ⟨fun _ => ?_, fun _ => ?_⟩
      · exact hQ _ _ (eqo_rf _)
      · refine ⟨fun _ => ?_, fun _ => ?_⟩
        · exact hQ _ _ (eqo_rf _)
        · refine ⟨fun _ => ?_, fun _ => ?_⟩
          · refine an_Text_goOn (fun M7 hM7 => ?_)
            exact hQ _ _ (eqo_tr (eqo_rf _) (fps_cons (i := 0) rfl fps_nil) hM7)
          · refine ⟨fun _ => ?_, fun _ => ?_⟩
            · refine an_Text_goOn (fun M10 hM10 => ?_)
              exact hQ _ _ (eqo_tr (eqo_rf _) (fps_cons (i := 0) rfl fps_nil) hM10)
            · exact hQ _ _ (eqo_rf _)
    · exact hQ _ _ (eqo_rf _)
  · exact hQ _ _ (eqo_rf _)
def fp_World_marry (a : Nat) : List (Nat × Nat × Option Nat) := [((a + 4), (a + 4), none), ((a + 1), (a + 1), none)]
theorem an_World_marry {a : Nat} {p1 : Int32} {p2 : Int32} {N : Nat} {M : MM} {Q : MM → Prop} (hQ : ∀  (M1 : MM), Eqo (fp_World_marry a) M M1 → Q M1) : W_World_marry a p1 p2 N M Q := by
  unfold W_World_marry
  exact hQ _ (eqo_wi (eqo_wi (eqo_wi (eqo_wi (eqo_rf _) (i := 0) rfl (Or.inl rfl)) (i := 0) rfl (Or.inl rfl)) (i := 1) rfl (Or.inl rfl)) (i := 1) rfl (Or.inl rfl))
def fp_RepublicReader_readWed  : List (Nat × Nat × Option Nat) := [(3, 3, some 5), (34, 34, none), (31, 31, none)]
theorem an_RepublicReader_readWed  {N : Nat} {M : MM} {Q : Int32 → MM → Prop} (hQ : ∀ (r : Int32) (M1 : MM), Eqo fp_RepublicReader_readWed M M1 → Q r M1) : W_RepublicReader_readWed  N M Q := by
  unfold W_RepublicReader_readWed
  refine an_RepublicReader_readLiving (fun r1 M2 hM2 => ?_)
  refine ⟨fun _ => ?_, fun _ => ?_⟩
  · exact hQ _ _ (eqo_tr (eqo_rf _) (fps_cons (i := 0) rfl fps_nil) hM2)
  · refine an_RepublicReader_readLiving (fun r4 M5 hM5 => ?_)
    refine ⟨fun _ => ?_, fun _ => ?_⟩
    · exact hQ _ _ (eqo_tr (eqo_tr (eqo_rf _) (fps_cons (i := 0) rfl fps_nil) hM2) (fps_cons (i := 0) rfl fps_nil) hM5)
    · refine an_World_marry (fun M8 hM8 => ?_)
      exact hQ _ _ (eqo_tr (eqo_tr (eqo_tr (eqo_rf _) (fps_cons (i := 0) rfl fps_nil) hM2) (fps_cons (i := 0) rfl fps_nil) hM5) (fps_cons (i := 1) rfl (fps_cons (i := 2) rfl fps_nil)) hM8)
def fp_RepublicReader_readSeen  : List (Nat × Nat × Option Nat) := [(3, 3, some 5), (38, 38, none)]
theorem an_RepublicReader_readSeen  {N : Nat} {M : MM} {Q : Int32 → MM → Prop} (hQ : ∀ (r : Int32) (M1 : MM), Eqo fp_RepublicReader_readSeen M M1 → Q r M1) : W_RepublicReader_readSeen  N M Q := by
  unfold W_RepublicReader_readSeen
  refine an_RepublicReader_readLiving (fun r1 M2 hM2 => ?_)
  refine ⟨fun _ => ?_, fun _ => ?_⟩
  · exact hQ _ _ (eqo_tr (eqo_rf _) (fps_cons (i := 0) rfl fps_nil) hM2)
  · refine an_RepublicReader_readMatter (fun r4 M5 hM5 => ?_)
    refine ⟨fun _ => ?_, fun _ => ?_⟩
    · exact hQ _ _ (eqo_tr (eqo_tr (eqo_rf _) (fps_cons (i := 0) rfl fps_nil) hM2) (fps_cons (i := 0) rfl fps_nil) hM5)
    · exact hQ _ _ (eqo_wj (eqo_tr (eqo_tr (eqo_rf _) (fps_cons (i := 0) rfl fps_nil) hM2) (fps_cons (i := 0) rfl fps_nil) hM5) (i := 1) rfl (Or.inl rfl))
def fp_RepublicReader_readLine  : List (Nat × Nat × Option Nat) := [(3, 3, some 5), (34, 34, none), (31, 31, none), (39, 39, none), (30, 30, some 12), (30, 30, some 11), (38, 38, none), (30, 30, some 0), (30, 30, some 1), (32, 32, none), (33, 33, none), (36, 36, none), (37, 37, none), (35, 35, none)]
theorem an_RepublicReader_readLine  {N : Nat} {M : MM} {Q : Int32 → MM → Prop} (hQ : ∀ (r : Int32) (M1 : MM), Eqo fp_RepublicReader_readLine M M1 → Q r M1) : W_RepublicReader_readLine  N M Q := by
  unfold W_RepublicReader_readLine
  refine ⟨fun _ => ?_, fun _ => ?_⟩
  · refine ⟨fun _ => ?_, fun _ => ?_⟩
    · refine ⟨fun _ => ?_, fun _ => ?_⟩
      · exact hQ _ _ (eqo_rf _)
      · refine ⟨fun _ => ?_, fun _ => ?_⟩
        · exact hQ _ _ (eqo_rf _)
        · refine ⟨fun _ => ?_, fun _ => ?_⟩
          · exact hQ _ _ (eqo_rf _)
          · refine ⟨fun _ => ?_, fun _ => ?_⟩
            · exact hQ _ _ (eqo_rf _)
            · refine ⟨fun _ => ?_, fun _ => ?_⟩
              · exact hQ _ _ (eqo_rf _)
              · refine an_Text_goOn (fun M9 hM9 => ?_)
                refine ⟨?_, ?_, ?_, ?_, ?_, ?_⟩
                · intro _
                  refine an_RepublicReader_readCitizen (fun r13 M14 hM14 => ?_)
                  exact hQ _ _ (eqo_tr (eqo_tr (eqo_rf _) (fps_cons (i := 0) rfl fps_nil) hM9) (fps_cons (i := 0) rfl (fps_cons (i := 7) rfl (fps_cons (i := 8) rfl (fps_cons (i := 2) rfl (fps_cons (i := 9) rfl (fps_cons (i := 10) rfl (fps_cons (i := 1) rfl (fps_cons (i := 11) rfl (fps_cons (i := 12) rfl (fps_cons (i := 6) rfl (fps_cons (i := 13) rfl fps_nil))))))))))) hM14)
                · intro _
                  refine an_RepublicReader_readWatch (fun r15 M16 hM16 => ?_)
                  exact hQ _ _ (eqo_tr (eqo_tr (eqo_rf _) (fps_cons (i := 0) rfl fps_nil) hM9) (fps_cons (i := 0) rfl (fps_cons (i := 5) rfl fps_nil)) hM16)
                · intro _
                  refine an_RepublicReader_readTerm (fun r17 M18 hM18 => ?_)
                  exact hQ _ _ (eqo_tr (eqo_tr (eqo_rf _) (fps_cons (i := 0) rfl fps_nil) hM9) (fps_cons (i := 0) rfl (fps_cons (i := 4) rfl fps_nil)) hM18)
                · intro _
                  refine an_RepublicReader_readHarm (fun r19 M20 hM20 => ?_)
                  exact hQ _ _ (eqo_tr (eqo_tr (eqo_rf _) (fps_cons (i := 0) rfl fps_nil) hM9) (fps_cons (i := 0) rfl (fps_cons (i := 3) rfl fps_nil)) hM20)
                · intro _
                  refine an_RepublicReader_readWed (fun r21 M22 hM22 => ?_)
                  exact hQ _ _ (eqo_tr (eqo_tr (eqo_rf _) (fps_cons (i := 0) rfl fps_nil) hM9) (fps_cons (i := 0) rfl (fps_cons (i := 1) rfl (fps_cons (i := 2) rfl fps_nil))) hM22)
                · intro _ _ _ _ _
                  refine an_RepublicReader_readSeen (fun r11 M12 hM12 => ?_)
                  exact hQ _ _ (eqo_tr (eqo_tr (eqo_rf _) (fps_cons (i := 0) rfl fps_nil) hM9) (fps_cons (i := 0) rfl (fps_cons (i := 6) rfl fps_nil)) hM12)
    · exact hQ _ _ (eqo_rf _)
  · refine ⟨fun _ => ?_, fun _ => ?_⟩
    · exact hQ _ _ (eqo_rf _)
    · refine ⟨fun _ => ?_, fun _ => ?_⟩
      · exact hQ _ _ (eqo_rf _)
      · refine ⟨fun _ => ?_, fun _ => ?_⟩
        · exact hQ _ _ (eqo_rf _)
        · refine ⟨fun _ => ?_, fun _ => ?_⟩
          · exact hQ _ _ (eqo_rf _)
          · refine ⟨fun _ => ?_, fun _ => ?_⟩
            · exact hQ _ _ (eqo_rf _)
            · refine an_Text_goOn (fun M29 hM29 => ?_)
              refine ⟨?_, ?_, ?_, ?_, ?_, ?_⟩
              · intro _
                refine an_RepublicReader_readCitizen (fun r33 M34 hM34 => ?_)
                exact hQ _ _ (eqo_tr (eqo_tr (eqo_rf _) (fps_cons (i := 0) rfl fps_nil) hM29) (fps_cons (i := 0) rfl (fps_cons (i := 7) rfl (fps_cons (i := 8) rfl (fps_cons (i := 2) rfl (fps_cons (i := 9) rfl (fps_cons (i := 10) rfl (fps_cons (i := 1) rfl (fps_cons (i := 11) rfl (fps_cons (i := 12) rfl (fps_cons (i := 6) rfl (fps_cons (i := 13) rfl fps_nil))))))))))) hM34)
              · intro _
                refine an_RepublicReader_readWatch (fun r35 M36 hM36 => ?_)
                exact hQ _ _ (eqo_tr (eqo_tr (eqo_rf _) (fps_cons (i := 0) rfl fps_nil) hM29) (fps_cons (i := 0) rfl (fps_cons (i := 5) rfl fps_nil)) hM36)
              · intro _
                refine an_RepublicReader_readTerm (fun r37 M38 hM38 => ?_)
                exact hQ _ _ (eqo_tr (eqo_tr (eqo_rf _) (fps_cons (i := 0) rfl fps_nil) hM29) (fps_cons (i := 0) rfl (fps_cons (i := 4) rfl fps_nil)) hM38)
              · intro _
                refine an_RepublicReader_readHarm (fun r39 M40 hM40 => ?_)
                exact hQ _ _ (eqo_tr (eqo_tr (eqo_rf _) (fps_cons (i := 0) rfl fps_nil) hM29) (fps_cons (i := 0) rfl (fps_cons (i := 3) rfl fps_nil)) hM40)
              · intro _
                refine an_RepublicReader_readWed (fun r41 M42 hM42 => ?_)
                exact hQ _ _ (eqo_tr (eqo_tr (eqo_rf _) (fps_cons (i := 0) rfl fps_nil) hM29) (fps_cons (i := 0) rfl (fps_cons (i := 1) rfl (fps_cons (i := 2) rfl fps_nil))) hM42)
              · intro _ _ _ _ _
                refine an_RepublicReader_readSeen (fun r31 M32 hM32 => ?_)
                exact hQ _ _ (eqo_tr (eqo_tr (eqo_rf _) (fps_cons (i := 0) rfl fps_nil) hM29) (fps_cons (i := 0) rfl (fps_cons (i := 6) rfl fps_nil)) hM32)
def fp_RepublicReader_readAll  : List (Nat × Nat × Option Nat) := [(3, 3, some 5), (34, 34, none), (31, 31, none), (39, 39, none), (30, 30, some 12), (30, 30, some 11), (38, 38, none), (30, 30, some 0), (30, 30, some 1), (32, 32, none), (33, 33, none), (36, 36, none), (37, 37, none), (35, 35, none)]
theorem an_RepublicReader_readAll_16 {M0 : MM} {Q : Int32 → MM → Prop} (hQ : ∀ (r : Int32) (M1 : MM), Eqo fp_RepublicReader_readAll M0 M1 → Q r M1) : ∀ (N : Nat) (v1 : Int32) (M : MM), Eqo fp_RepublicReader_readAll M0 M → W_RepublicReader_readAll_16 Q N v1 M := by
  refine I_RepublicReader_readAll_16 Q (fun _ M => Eqo fp_RepublicReader_readAll M0 M) (fun N ih v1 M hih hM => ?_)
  unfold B_RepublicReader_readAll_16
  refine ⟨fun _ => ?_, fun _ => ?_⟩
  · refine an_RepublicReader_readLine (fun r3 M4 hM4 => ?_)
    refine ⟨fun _ => ?_, fun _ => ?_⟩
    · exact hQ _ _ (eqo_tr hM (fps_cons (i := 0) rfl (fps_cons (i := 1) rfl (fps_cons (i := 2) rfl (fps_cons (i := 3) rfl (fps_cons (i := 4) rfl (fps_cons (i := 5) rfl (fps_cons (i := 6) rfl (fps_cons (i := 7) rfl (fps_cons (i := 8) rfl (fps_cons (i := 9) rfl (fps_cons (i := 10) rfl (fps_cons (i := 11) rfl (fps_cons (i := 12) rfl (fps_cons (i := 13) rfl fps_nil)))))))))))))) hM4)
    · refine ⟨fun _ => ?_, fun _ => ?_⟩
      · exact hQ _ _ (eqo_tr hM (fps_cons (i := 0) rfl (fps_cons (i := 1) rfl (fps_cons (i := 2) rfl (fps_cons (i := 3) rfl (fps_cons (i := 4) rfl (fps_cons (i := 5) rfl (fps_cons (i := 6) rfl (fps_cons (i := 7) rfl (fps_cons (i := 8) rfl (fps_cons (i := 9) rfl (fps_cons (i := 10) rfl (fps_cons (i := 11) rfl (fps_cons (i := 12) rfl (fps_cons (i := 13) rfl fps_nil)))))))))))))) hM4)
      · refine ⟨fun _ => ?_, fun _ => ?_⟩
        · refine an_Text_goOn (fun M9 hM9 => ?_)
          exact hih _ _ (eqo_tr (eqo_tr hM (fps_cons (i := 0) rfl (fps_cons (i := 1) rfl (fps_cons (i := 2) rfl (fps_cons (i := 3) rfl (fps_cons (i := 4) rfl (fps_cons (i := 5) rfl (fps_cons (i := 6) rfl (fps_cons (i := 7) rfl (fps_cons (i := 8) rfl (fps_cons (i := 9) rfl (fps_cons (i := 10) rfl (fps_cons (i := 11) rfl (fps_cons (i := 12) rfl (fps_cons (i := 13) rfl fps_nil)))))))))))))) hM4) (fps_cons (i := 0) rfl fps_nil) hM9)
        · exact hQ _ _ (eqo_tr hM (fps_cons (i := 0) rfl (fps_cons (i := 1) rfl (fps_cons (i := 2) rfl (fps_cons (i := 3) rfl (fps_cons (i := 4) rfl (fps_cons (i := 5) rfl (fps_cons (i := 6) rfl (fps_cons (i := 7) rfl (fps_cons (i := 8) rfl (fps_cons (i := 9) rfl (fps_cons (i := 10) rfl (fps_cons (i := 11) rfl (fps_cons (i := 12) rfl (fps_cons (i := 13) rfl fps_nil)))))))))))))) hM4)
  · exact hQ _ _ hM
theorem an_RepublicReader_readAll  {N : Nat} {M : MM} {Q : Int32 → MM → Prop} (hQ : ∀ (r : Int32) (M1 : MM), Eqo fp_RepublicReader_readAll M M1 → Q r M1) : W_RepublicReader_readAll  N M Q := by
  unfold W_RepublicReader_readAll
  refine ⟨fun _ => ?_, fun _ => ?_⟩
  · exact hQ _ _ (eqo_rf _)
  · refine an_RepublicReader_readAll_16   hQ N _ _ (eqo_rf _)
def fp_Tape_add  : List (Nat × Nat × Option Nat) := [(2, 2, none), (1, 1, some 1)]
theorem an_Tape_add_18 {M0 : MM} {p1 : Int32} {Q : MM → Prop} (hQ : ∀  (M1 : MM), Eqo fp_Tape_add M0 M1 → Q M1) : ∀ (N : Nat) (v2 : Int32) (M : MM), Eqo fp_Tape_add M0 M → W_Tape_add_18 p1 Q N v2 M := by
  refine I_Tape_add_18 p1 Q (fun _ M => Eqo fp_Tape_add M0 M) (fun N ih v2 M hih hM => ?_)
  unfold B_Tape_add_18
  refine ⟨fun _ => ?_, fun _ => ?_⟩
  · exact hQ _ hM
  · exact hih _ _ (eqo_wi (eqo_wi hM (i := 0) rfl (Or.inl rfl)) (i := 1) rfl (Or.inr rfl))
theorem an_Tape_add {p1 : Int32} {N : Nat} {M : MM} {Q : MM → Prop} (hQ : ∀  (M1 : MM), Eqo fp_Tape_add M M1 → Q M1) : W_Tape_add p1 N M Q := by
  unfold W_Tape_add
  refine ⟨fun _ => ?_, fun _ => ?_⟩
  · exact hQ _ (eqo_rf _)
  · refine an_Tape_add_18   hQ N _ _ (eqo_rf _)
def fp_Text_put  : List (Nat × Nat × Option Nat) := [(4, 4, none), (5, 5, none), (6, 6, none), (7, 7, none), (3, 3, some 4)]
theorem an_Text_put {p1 : Int32} {p2 : Int32} {p3 : Int32} {p4 : Int32} {N : Nat} {M : MM} {Q : MM → Prop} (hQ : ∀  (M1 : MM), Eqo fp_Text_put M M1 → Q M1) : W_Text_put p1 p2 p3 p4 N M Q := by
  unfold W_Text_put
  refine ⟨fun _ => ?_, fun _ => ?_⟩
  · exact hQ _ (eqo_wi (eqo_wi (eqo_wi (eqo_wi (eqo_wi (eqo_rf _) (i := 0) rfl (Or.inl rfl)) (i := 1) rfl (Or.inl rfl)) (i := 2) rfl (Or.inl rfl)) (i := 3) rfl (Or.inl rfl)) (i := 4) rfl (Or.inr rfl))
  · exact hQ _ (eqo_rf _)
theorem an_Text_endOfWord_4 {p1 : Int32} {M : MM} {Q : Int32 → Prop} (hQ : ∀ (r : Int32), Q r) : ∀ (N : Nat) (v2 : Int32), True → W_Text_endOfWord_4 p1 M Q N v2 := by
  refine I_Text_endOfWord_4 p1 M Q (fun _ => True) (fun N ih v2 hih _ => ?_)
  unfold B_Text_endOfWord_4
  refine ⟨fun _ => ?_, fun _ => ?_⟩
  · refine ⟨fun _ => ?_, fun _ => ?_⟩
    · exact hQ _
    · exact hih _ trivial
  · exact hQ _
theorem an_Text_endOfWord {p1 : Int32} {N : Nat} {M : MM} {Q : Int32 → Prop} (hQ : ∀ (r : Int32), Q r) : W_Text_endOfWord p1 N M Q := by
  unfold W_Text_endOfWord
  refine an_Text_endOfWord_4   hQ N _ trivial
theorem an_Text_endOfNumber_4 {p1 : Int32} {M : MM} {Q : Int32 → Prop} (hQ : ∀ (r : Int32), Q r) : ∀ (N : Nat) (v2 : Int32), True → W_Text_endOfNumber_4 p1 M Q N v2 := by
  refine I_Text_endOfNumber_4 p1 M Q (fun _ => True) (fun N ih v2 hih _ => ?_)
  unfold B_Text_endOfNumber_4
  refine ⟨fun _ => ?_, fun _ => ?_⟩
  · refine ⟨fun _ => ?_, fun _ => ?_⟩
    · exact hQ _
    · exact hih _ trivial
  · exact hQ _
theorem an_Text_endOfNumber {p1 : Int32} {N : Nat} {M : MM} {Q : Int32 → Prop} (hQ : ∀ (r : Int32), Q r) : W_Text_endOfNumber p1 N M Q := by
  unfold W_Text_endOfNumber
  refine an_Text_endOfNumber_4   hQ N _ trivial
theorem an_Text_valueOf_16 {p1 : Int32} {p2 : Int32} {M : MM} {Q : Int32 → Prop} (hQ : ∀ (r : Int32), Q r) : ∀ (N : Nat) (v3 : Int32) (v4 : Int32), True → W_Text_valueOf_16 p1 p2 M Q N v3 v4 := by
  refine I_Text_valueOf_16 p1 p2 M Q (fun _ _ => True) (fun N ih v3 v4 hih _ => ?_)
  unfold B_Text_valueOf_16
  refine ⟨fun _ => ?_, fun _ => ?_⟩
  · exact hih _ _ trivial
  · exact hQ _
theorem an_Text_valueOf {p1 : Int32} {p2 : Int32} {N : Nat} {M : MM} {Q : Int32 → Prop} (hQ : ∀ (r : Int32), Q r) : W_Text_valueOf p1 p2 N M Q := by
  unfold W_Text_valueOf
  refine ⟨fun _ => ?_, fun _ => ?_⟩
  · exact hQ _
  · refine an_Text_valueOf_16   hQ N _ _ trivial
theorem an_Text_wordNumber_11 {p1 : Int32} {p2 : Int32} {M : MM} {Q : Int32 → Prop} (hQ : ∀ (r : Int32), Q r) : ∀ (N : Nat) (v3 : Int32) (v4 : Int32) (v5 : Int32) (v6 : Int32), True → W_Text_wordNumber_11 p1 p2 M Q N v3 v4 v5 v6 := by
  refine I_Text_wordNumber_11 p1 p2 M Q (fun _ _ _ _ => True) (fun N ih v3 v4 v5 v6 hih _ => ?_)
  unfold B_Text_wordNumber_11
  refine ⟨fun _ => ?_, fun _ => ?_⟩
  · refine ⟨fun _ => ?_, fun _ => ?_⟩
    · refine ⟨fun _ => ?_, fun _ => ?_⟩
      · exact hih _ _ _ _ trivial
      · refine ⟨fun _ => ?_, fun _ => ?_⟩
        · exact hQ _
        · exact hih _ _ _ _ trivial
    · refine ⟨fun _ => ?_, fun _ => ?_⟩
      · exact hih _ _ _ _ trivial
      · refine ⟨fun _ => ?_, fun _ => ?_⟩
        · refine ⟨fun _ => ?_, fun _ => ?_⟩
          · exact hih _ _ _ _ trivial
          · exact hih _ _ _ _ trivial
        · exact hih _ _ _ _ trivial
  · exact hQ _
theorem an_Text_wordNumber {p1 : Int32} {p2 : Int32} {N : Nat} {M : MM} {Q : Int32 → Prop} (hQ : ∀ (r : Int32), Q r) : W_Text_wordNumber p1 p2 N M Q := by
  unfold W_Text_wordNumber
  refine an_Text_wordNumber_11   hQ N _ _ _ _ trivial
def fp_Text_split  : List (Nat × Nat × Option Nat) := [(3, 3, some 4), (3, 3, some 5), (4, 4, none), (5, 5, none), (6, 6, none), (7, 7, none)]
theorem an_Text_split_12 {M0 : MM} {Q : MM → Prop} (hQ : ∀  (M1 : MM), Eqo fp_Text_split M0 M1 → Q M1) : ∀ (N : Nat) (v2 : Int32) (M : MM), Eqo fp_Text_split M0 M → W_Text_split_12 Q N v2 M := by
  refine I_Text_split_12 Q (fun _ M => Eqo fp_Text_split M0 M) (fun N ih v2 M hih hM => ?_)
  unfold B_Text_split_12
  refine ⟨fun _ => ?_, fun _ => ?_⟩
  · refine ⟨fun _ => ?_, fun _ => ?_⟩
    · refine ⟨fun _ => ?_, fun _ => ?_⟩
      · refine ⟨fun _ => ?_, fun _ => ?_⟩
        · exact hih _ _ hM
        · refine an_Text_put (fun M6 hM6 => ?_)
          exact hih _ _ (eqo_tr hM (fps_cons (i := 2) rfl (fps_cons (i := 3) rfl (fps_cons (i := 4) rfl (fps_cons (i := 5) rfl (fps_cons (i := 0) rfl fps_nil))))) hM6)
      · refine ⟨fun _ => ?_, fun _ => ?_⟩
        · refine an_Text_endOfNumber (fun r8 => ?_)
          refine an_Text_valueOf (fun r10 => ?_)
          refine an_Text_put (fun M13 hM13 => ?_)
          exact hih _ _ (eqo_tr hM (fps_cons (i := 2) rfl (fps_cons (i := 3) rfl (fps_cons (i := 4) rfl (fps_cons (i := 5) rfl (fps_cons (i := 0) rfl fps_nil))))) hM13)
        · exact hih _ _ hM
    · refine ⟨fun _ => ?_, fun _ => ?_⟩
      · refine an_Text_endOfWord (fun r15 => ?_)
        refine an_Text_wordNumber (fun r17 => ?_)
        refine an_Text_put (fun M20 hM20 => ?_)
        exact hih _ _ (eqo_tr hM (fps_cons (i := 2) rfl (fps_cons (i := 3) rfl (fps_cons (i := 4) rfl (fps_cons (i := 5) rfl (fps_cons (i := 0) rfl fps_nil))))) hM20)
      · exact hih _ _ hM
  · refine an_Text_put (fun M22 hM22 => ?_)
    exact hQ _ (eqo_tr hM (fps_cons (i := 2) rfl (fps_cons (i := 3) rfl (fps_cons (i := 4) rfl (fps_cons (i := 5) rfl (fps_cons (i := 0) rfl fps_nil))))) hM22)
theorem an_Text_split  {N : Nat} {M : MM} {Q : MM → Prop} (hQ : ∀  (M1 : MM), Eqo fp_Text_split M M1 → Q M1) : W_Text_split  N M Q := by
  unfold W_Text_split
  refine an_Text_split_12   hQ N _ _ (eqo_wi (eqo_wi (eqo_rf _) (i := 0) rfl (Or.inr rfl)) (i := 1) rfl (Or.inr rfl))
def fp_World_bear (a : Nat) : List (Nat × Nat × Option Nat) := [(a, a, some 0), (a, a, some 1), ((a + 1), (a + 1), none), ((a + 2), (a + 2), none), ((a + 3), (a + 3), none), ((a + 4), (a + 4), none), ((a + 6), (a + 6), none), ((a + 7), (a + 7), none), ((a + 8), (a + 8), none), ((a + 5), (a + 5), none)]
theorem an_World_bear_18 {M0 : MM} {a : Nat} {p1 : Int32} {u2 : Int32} {Q : Int32 → MM → Prop} (hQ : ∀ (r : Int32) (M1 : MM), Eqo (fp_World_bear a) M0 M1 → Q r M1) : ∀ (N : Nat) (v3 : Int32) (M : MM), Eqo (fp_World_bear a) M0 M → W_World_bear_18 a p1 u2 Q N v3 M := by
  refine I_World_bear_18 a p1 u2 Q (fun _ M => Eqo (fp_World_bear a) M0 M) (fun N ih v3 M hih hM => ?_)
  unfold B_World_bear_18
  refine ⟨fun _ => ?_, fun _ => ?_⟩
  · refine an_World_addToHabit (fun M6 hM6 => ?_)
    exact hih _ _ (eqo_tr hM (fps_cons (i := 9) rfl (fps_cons (i := 6) rfl fps_nil)) hM6)
  · exact hQ _ _ hM
theorem an_World_bear {a : Nat} {p1 : Int32} {N : Nat} {M : MM} {Q : Int32 → MM → Prop} (hQ : ∀ (r : Int32) (M1 : MM), Eqo (fp_World_bear a) M M1 → Q r M1) : W_World_bear a p1 N M Q := by
  unfold W_World_bear
  refine an_World_addCitizen (fun r1 M2 hM2 => ?_)
  refine ⟨fun _ => ?_, fun _ => ?_⟩
  · exact hQ _ _ (eqo_tr (eqo_rf _) (fps_cons (i := 0) rfl (fps_cons (i := 1) rfl (fps_cons (i := 2) rfl (fps_cons (i := 3) rfl (fps_cons (i := 4) rfl (fps_cons (i := 5) rfl (fps_cons (i := 6) rfl (fps_cons (i := 7) rfl (fps_cons (i := 8) rfl fps_nil))))))))) hM2)
  · refine an_World_bear_18   hQ N _ _ (eqo_tr (eqo_rf _) (fps_cons (i := 0) rfl (fps_cons (i := 1) rfl (fps_cons (i := 2) rfl (fps_cons (i := 3) rfl (fps_cons (i := 4) rfl (fps_cons (i := 5) rfl (fps_cons (i := 6) rfl (fps_cons (i := 7) rfl (fps_cons (i := 8) rfl fps_nil))))))))) hM2)
def fp_World_bury (a : Nat) : List (Nat × Nat × Option Nat) := [(a, a, some 1), ((a + 3), (a + 3), none), ((a + 4), (a + 4), none)]
theorem an_World_bury {a : Nat} {p1 : Int32} {N : Nat} {M : MM} {Q : MM → Prop} (hQ : ∀  (M1 : MM), Eqo (fp_World_bury a) M M1 → Q M1) : W_World_bury a p1 N M Q := by
  unfold W_World_bury
  refine ⟨fun _ => ?_, fun _ => ?_⟩
  · exact hQ _ (eqo_wi (eqo_wi (eqo_wi (eqo_rf _) (i := 0) rfl (Or.inr rfl)) (i := 1) rfl (Or.inl rfl)) (i := 2) rfl (Or.inl rfl))
  · exact hQ _ (eqo_wi (eqo_wi (eqo_wi (eqo_wi (eqo_rf _) (i := 0) rfl (Or.inr rfl)) (i := 1) rfl (Or.inl rfl)) (i := 2) rfl (Or.inl rfl)) (i := 2) rfl (Or.inl rfl))
theorem an_World_takenOnes_4 {a : Nat} {M : MM} {Q : Int32 → Prop} (hQ : ∀ (r : Int32), Q r) : ∀ (N : Nat) (v1 : Int32) (v2 : Int32), True → W_World_takenOnes_4 a M Q N v1 v2 := by
  refine I_World_takenOnes_4 a M Q (fun _ _ => True) (fun N ih v1 v2 hih _ => ?_)
  unfold B_World_takenOnes_4
  refine ⟨fun _ => ?_, fun _ => ?_⟩
  · refine ⟨fun _ => ?_, fun _ => ?_⟩
    · exact hih _ _ trivial
    · exact hih _ _ trivial
  · exact hQ _
theorem an_World_takenOnes {a : Nat} {N : Nat} {M : MM} {Q : Int32 → Prop} (hQ : ∀ (r : Int32), Q r) : W_World_takenOnes a N M Q := by
  unfold W_World_takenOnes
  refine an_World_takenOnes_4   hQ N _ _ trivial
def fp_World_draw (a : Nat) : List (Nat × Nat × Option Nat) := [(a, a, some 14)]
theorem an_World_draw {a : Nat} {N : Nat} {M : MM} {Q : Int32 → MM → Prop} (hQ : ∀ (r : Int32) (M1 : MM), Eqo (fp_World_draw a) M M1 → Q r M1) : W_World_draw a N M Q := by
  unfold W_World_draw
  exact hQ _ _ (eqo_wi (eqo_rf _) (i := 0) rfl (Or.inr rfl))
def fp_World_keepsFrom (a : Nat) : List (Nat × Nat × Option Nat) := [(a, a, some 14)]
theorem an_World_keepsFrom {a : Nat} {p2 : Int32} {N : Nat} {M : MM} {Q : Int32 → MM → Prop} (hQ : ∀ (r : Int32) (M1 : MM), Eqo (fp_World_keepsFrom a) M M1 → Q r M1) : W_World_keepsFrom a p2 N M Q := by
  unfold W_World_keepsFrom
  refine an_Law_bearing (fun r1 => ?_)
  refine ⟨fun _ => ?_, fun _ => ?_⟩
  · refine ⟨fun _ => ?_, fun _ => ?_⟩
    · exact hQ _ _ (eqo_rf _)
    · refine an_World_draw (fun r5 M6 hM6 => ?_)
      refine ⟨fun _ => ?_, fun _ => ?_⟩
      · exact hQ _ _ (eqo_tr (eqo_rf _) (fps_cons (i := 0) rfl fps_nil) hM6)
      · exact hQ _ _ (eqo_tr (eqo_rf _) (fps_cons (i := 0) rfl fps_nil) hM6)
  · exact hQ _ _ (eqo_rf _)
def fp_World_pickDoers (a : Nat) : List (Nat × Nat × Option Nat) := [(a, a, some 14), (a, a, some 18)]
theorem an_World_pickDoers_5 {M0 : MM} {a : Nat} {p2 : Int32} {Q : Int32 → MM → Prop} (hQ : ∀ (r : Int32) (M1 : MM), Eqo (fp_World_pickDoers a) M0 M1 → Q r M1) : ∀ (N : Nat) (v3 : Int32) (v4 : Int32) (M : MM), Eqo (fp_World_pickDoers a) M0 M → W_World_pickDoers_5 a p2 Q N v3 v4 M := by
  refine I_World_pickDoers_5 a p2 Q (fun _ _ M => Eqo (fp_World_pickDoers a) M0 M) (fun N ih v3 v4 M hih hM => ?_)
  unfold B_World_pickDoers_5
  refine ⟨fun _ => ?_, fun _ => ?_⟩
  · refine ⟨fun _ => ?_, fun _ => ?_⟩
    · refine an_World_keepsFrom (fun r3 M4 hM4 => ?_)
      refine ⟨fun _ => ?_, fun _ => ?_⟩
      · exact hih _ _ _ (eqo_tr hM (fps_cons (i := 0) rfl fps_nil) hM4)
      · exact hih _ _ _ (eqo_wi (eqo_tr hM (fps_cons (i := 0) rfl fps_nil) hM4) (i := 1) rfl (Or.inr rfl))
    · exact hih _ _ _ hM
  · exact hQ _ _ hM
theorem an_World_pickDoers {a : Nat} {p2 : Int32} {N : Nat} {M : MM} {Q : Int32 → MM → Prop} (hQ : ∀ (r : Int32) (M1 : MM), Eqo (fp_World_pickDoers a) M M1 → Q r M1) : W_World_pickDoers a p2 N M Q := by
  unfold W_World_pickDoers
  refine an_World_pickDoers_5   hQ N _ _ _ (eqo_rf _)
theorem an_World_lowest_2 {p0 : Int32} {M : MM} {Q : Int32 → Prop} (hQ : ∀ (r : Int32), Q r) : ∀ (N : Nat) (v1 : Int32), True → W_World_lowest_2 p0 M Q N v1 := by
  refine I_World_lowest_2 p0 M Q (fun _ => True) (fun N ih v1 hih _ => ?_)
  unfold B_World_lowest_2
  refine ⟨fun _ => ?_, fun _ => ?_⟩
  · refine ⟨fun _ => ?_, fun _ => ?_⟩
    · exact hQ _
    · exact hih _ trivial
  · exact hQ _
theorem an_World_lowest {p0 : Int32} {N : Nat} {M : MM} {Q : Int32 → Prop} (hQ : ∀ (r : Int32), Q r) : W_World_lowest p0 N M Q := by
  unfold W_World_lowest
  refine an_World_lowest_2   hQ N _ trivial
def fp_World_judge (a : Nat) : List (Nat × Nat × Option Nat) := [(a, a, some 17), (a, a, some 14), ((a + 3), (a + 3), none), (a, a, some 16), (((a + 10) + 1), ((a + 10) + 1), none), ((a + 10), (a + 10), some 2), ((a + 10), (a + 10), some 1), ((a + 8), (a + 8), none)]
theorem an_World_judge_112 {M0 : MM} {a : Nat} {p2 : Int32} {p3 : Int32} {p4 : Int32} {u5 : Int32} {Q : MM → Prop} (hQ : ∀  (M1 : MM), Eqo (fp_World_judge a) M0 M1 → Q M1) : ∀ (N : Nat) (v7 : Int32) (M : MM), Eqo (fp_World_judge a) M0 M → W_World_judge_112 a p2 p3 p4 u5 Q N v7 M := by
  refine I_World_judge_112 a p2 p3 p4 u5 Q (fun _ M => Eqo (fp_World_judge a) M0 M) (fun N ih v7 M hih hM => ?_)
  unfold B_World_judge_112
  refine ⟨fun _ => ?_, fun _ => ?_⟩
  · refine ⟨fun _ => ?_, fun _ => ?_⟩
    · refine ⟨fun _ => ?_, fun _ => ?_⟩
      · exact hih _ _ (eqo_wj hM (i := 7) rfl (Or.inl rfl))
      · exact hih _ _ hM
    · exact hih _ _ hM
  · exact hQ _ hM
theorem an_World_judge {a : Nat} {p2 : Int32} {p3 : Int32} {p4 : Int32} {N : Nat} {M : MM} {Q : MM → Prop} (hQ : ∀  (M1 : MM), Eqo (fp_World_judge a) M M1 → Q M1) : W_World_judge a p2 p3 p4 N M Q := by
  unfold W_World_judge
  refine an_Law_bearing (fun r1 => ?_)
  refine ⟨fun _ => ?_, fun _ => ?_⟩
  · exact hQ _ (eqo_rf _)
  · refine an_World_draw (fun r4 M5 hM5 => ?_)
    refine ⟨fun _ => ?_, fun _ => ?_⟩
    · refine an_World_lowest (fun r7 => ?_)
      refine an_Log_add (fun M10 hM10 => ?_)
      refine an_World_judge_112   hQ N _ _ (eqo_tr (eqo_wi (eqo_wi (eqo_tr (eqo_wi (eqo_rf _) (i := 0) rfl (Or.inr rfl)) (fps_cons (i := 1) rfl fps_nil) hM5) (i := 2) rfl (Or.inl rfl)) (i := 3) rfl (Or.inr rfl)) (fps_cons (i := 4) rfl (fps_cons (i := 5) rfl (fps_cons (i := 6) rfl fps_nil))) hM10)
    · exact hQ _ (eqo_tr (eqo_wi (eqo_rf _) (i := 0) rfl (Or.inr rfl)) (fps_cons (i := 1) rfl fps_nil) hM5)
def fp_World_passDay (a : Nat) : List (Nat × Nat × Option Nat) := [(a, a, some 14), (a, a, some 18), (a, a, some 13), ((a + 7), (a + 7), none), ((a + 3), (a + 3), none), (a, a, some 17), (a, a, some 16), (((a + 10) + 1), ((a + 10) + 1), none), ((a + 10), (a + 10), some 2), ((a + 10), (a + 10), some 1), ((a + 8), (a + 8), none)]
theorem an_World_passDay_28 {M0 : MM} {a : Nat} {u2 : Int32} {u3 : Int32} {u4 : Int32} {k63 : MM → Prop} {Q : MM → Prop} (hk63 : ∀  (M : MM), Eqo (fp_World_passDay a) M0 M → k63 M) (hQ : ∀  (M1 : MM), Eqo (fp_World_passDay a) M0 M1 → Q M1) : ∀ (N : Nat) (v5 : Int32) (M : MM), Eqo (fp_World_passDay a) M0 M → W_World_passDay_28 a u2 u3 u4 k63 Q N v5 M := by
  refine I_World_passDay_28 a u2 u3 u4 k63 Q (fun _ M => Eqo (fp_World_passDay a) M0 M) (fun N ih v5 M hih hM => ?_)
  unfold B_World_passDay_28
  refine ⟨fun _ => ?_, fun _ => ?_⟩
  · refine ⟨fun _ => ?_, fun _ => ?_⟩
    · refine an_World_judge (fun M10 hM10 => ?_)
      exact hih _ _ (eqo_tr hM (fps_cons (i := 5) rfl (fps_cons (i := 0) rfl (fps_cons (i := 4) rfl (fps_cons (i := 6) rfl (fps_cons (i := 7) rfl (fps_cons (i := 8) rfl (fps_cons (i := 9) rfl (fps_cons (i := 10) rfl fps_nil)))))))) hM10)
    · exact hih _ _ hM
  · exact hk63 _ hM
theorem an_World_passDay_66 {M0 : MM} {a : Nat} {u2 : Int32} {Q : MM → Prop} (hQ : ∀  (M1 : MM), Eqo (fp_World_passDay a) M0 M1 → Q M1) : ∀ (N : Nat) (v5 : Int32) (M : MM), Eqo (fp_World_passDay a) M0 M → W_World_passDay_66 a u2 Q N v5 M := by
  refine I_World_passDay_66 a u2 Q (fun _ M => Eqo (fp_World_passDay a) M0 M) (fun N ih v5 M hih hM => ?_)
  unfold B_World_passDay_66
  refine ⟨fun _ => ?_, fun _ => ?_⟩
  · refine ⟨fun _ => ?_, fun _ => ?_⟩
    · refine ⟨fun _ => ?_, fun _ => ?_⟩
      · refine ⟨fun _ => ?_, fun _ => ?_⟩
        · exact hih _ _ (eqo_wi (eqo_wi hM (i := 4) rfl (Or.inl rfl)) (i := 3) rfl (Or.inl rfl))
        · exact hih _ _ (eqo_wi (eqo_wi (eqo_wi hM (i := 4) rfl (Or.inl rfl)) (i := 3) rfl (Or.inl rfl)) (i := 3) rfl (Or.inl rfl))
      · refine ⟨fun _ => ?_, fun _ => ?_⟩
        · exact hih _ _ (eqo_wi hM (i := 3) rfl (Or.inl rfl))
        · exact hih _ _ (eqo_wi (eqo_wi hM (i := 3) rfl (Or.inl rfl)) (i := 3) rfl (Or.inl rfl))
    · refine ⟨fun _ => ?_, fun _ => ?_⟩
      · exact hih _ _ (eqo_wi hM (i := 3) rfl (Or.inl rfl))
      · exact hih _ _ (eqo_wi (eqo_wi hM (i := 3) rfl (Or.inl rfl)) (i := 3) rfl (Or.inl rfl))
  · exact hQ _ (eqo_wi hM (i := 2) rfl (Or.inr rfl))
theorem an_World_passDay {a : Nat} {N : Nat} {M : MM} {Q : MM → Prop} (hQ : ∀  (M1 : MM), Eqo (fp_World_passDay a) M M1 → Q M1) : W_World_passDay a N M Q := by
  unfold W_World_passDay
  refine an_World_takenOnes (fun r1 => ?_)
  refine an_World_pickDoers (fun r3 M4 hM4 => ?_)
  refine an_World_inForce (fun r5 => ?_)
  refine an_World_passDay_28  (fun M11 hMM11 => ?_) hQ N _ _ (eqo_tr (eqo_rf _) (fps_cons (i := 0) rfl (fps_cons (i := 1) rfl fps_nil)) hM4)
  · refine an_World_passDay_66   hQ N _ _ hMM11
theorem an_World_seersOf_4 {a : Nat} {p1 : Int32} {M : MM} {Q : Int32 → Prop} (hQ : ∀ (r : Int32), Q r) : ∀ (N : Nat) (v2 : Int32) (v3 : Int32), True → W_World_seersOf_4 a p1 M Q N v2 v3 := by
  refine I_World_seersOf_4 a p1 M Q (fun _ _ => True) (fun N ih v2 v3 hih _ => ?_)
  unfold B_World_seersOf_4
  refine ⟨fun _ => ?_, fun _ => ?_⟩
  · refine ⟨fun _ => ?_, fun _ => ?_⟩
    · exact hih _ _ trivial
    · refine ⟨fun _ => ?_, fun _ => ?_⟩
      · exact hih _ _ trivial
      · exact hih _ _ trivial
  · exact hQ _
theorem an_World_seersOf {a : Nat} {p1 : Int32} {N : Nat} {M : MM} {Q : Int32 → Prop} (hQ : ∀ (r : Int32), Q r) : W_World_seersOf a p1 N M Q := by
  unfold W_World_seersOf
  refine an_World_seersOf_4   hQ N _ _ trivial
