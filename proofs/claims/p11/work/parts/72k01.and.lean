/-! TWO ENDS AT ONCE (gw.py) -/
theorem and_LawReader_readAtom_363 {p1 : Int32} {N : Nat} {M : MM} {Q1 Q2 Q3 : Int32 → MM → Prop} (hQ : ∀ (r : Int32) (M1 : MM), Q1 r M1 → Q2 r M1 → Q3 r M1) (h1 : W_LawReader_readAtom_363 p1 N M Q1) (h2 : W_LawReader_readAtom_363 p1 N M Q2) : W_LawReader_readAtom_363 p1 N M Q3 := by
  unfold W_LawReader_readAtom_363 at h1 h2 ⊢
  refine ⟨fun hc => ?_, fun hc => ?_⟩
  · replace h1 := h1.1 hc
    replace h2 := h2.1 hc
    refine and_Text_goOn (fun M3 h1 h2 => ?_) h1 h2
    refine and_Law_addStep (fun M5 h1 h2 => ?_) h1 h2
    exact hQ _ _ h1 h2
  · replace h1 := h1.2 hc
    replace h2 := h2.2 hc
    refine ⟨fun hc => ?_, fun hc => ?_⟩
    · replace h1 := h1.1 hc
      replace h2 := h2.1 hc
      refine ⟨fun hc => ?_, fun hc => ?_⟩
      · replace h1 := h1.1 hc
        replace h2 := h2.1 hc
        refine and_Text_goOn (fun M9 h1 h2 => ?_) h1 h2
        refine ⟨fun hc => ?_, fun hc => ?_⟩
        · replace h1 := h1.1 hc
          replace h2 := h2.1 hc
          refine and_LawReader_readAtom_365 (fun r11 M12 h1 h2 => ?_) h1 h2
          refine ⟨fun hc => ?_, fun hc => ?_⟩
          · replace h1 := h1.1 hc
            replace h2 := h2.1 hc
            exact hQ _ _ h1 h2
          · replace h1 := h1.2 hc
            replace h2 := h2.2 hc
            refine and_Law_addStep (fun M15 h1 h2 => ?_) h1 h2
            exact hQ _ _ h1 h2
        · replace h1 := h1.2 hc
          replace h2 := h2.2 hc
          refine and_LawReader_readCondition_364 (fun r16 M17 h1 h2 => ?_) h1 h2
          refine ⟨fun hc => ?_, fun hc => ?_⟩
          · replace h1 := h1.1 hc
            replace h2 := h2.1 hc
            exact hQ _ _ h1 h2
          · replace h1 := h1.2 hc
            replace h2 := h2.2 hc
            refine ⟨fun hc => ?_, fun hc => ?_⟩
            · replace h1 := h1.1 hc
              replace h2 := h2.1 hc
              refine and_Text_goOn (fun M21 h1 h2 => ?_) h1 h2
              exact hQ _ _ h1 h2
            · replace h1 := h1.2 hc
              replace h2 := h2.2 hc
              exact hQ _ _ h1 h2
      · replace h1 := h1.2 hc
        replace h2 := h2.2 hc
        exact hQ _ _ h1 h2
    · replace h1 := h1.2 hc
      replace h2 := h2.2 hc
      refine ⟨fun hc => ?_, fun hc => ?_⟩
      · replace h1 := h1.1 hc
        replace h2 := h2.1 hc
        refine ⟨fun hc => ?_, fun hc => ?_⟩
        · replace h1 := h1.1 hc
          replace h2 := h2.1 hc
          refine and_Text_goOn (fun M25 h1 h2 => ?_) h1 h2
          refine ⟨fun hc => ?_, fun hc => ?_⟩
          · replace h1 := h1.1 hc
            replace h2 := h2.1 hc
            refine and_LawReader_readAtom_365 (fun r27 M28 h1 h2 => ?_) h1 h2
            refine ⟨fun hc => ?_, fun hc => ?_⟩
            · replace h1 := h1.1 hc
              replace h2 := h2.1 hc
              exact hQ _ _ h1 h2
            · replace h1 := h1.2 hc
              replace h2 := h2.2 hc
              refine and_Law_addStep (fun M31 h1 h2 => ?_) h1 h2
              exact hQ _ _ h1 h2
          · replace h1 := h1.2 hc
            replace h2 := h2.2 hc
            refine and_LawReader_readCondition_364 (fun r32 M33 h1 h2 => ?_) h1 h2
            refine ⟨fun hc => ?_, fun hc => ?_⟩
            · replace h1 := h1.1 hc
              replace h2 := h2.1 hc
              exact hQ _ _ h1 h2
            · replace h1 := h1.2 hc
              replace h2 := h2.2 hc
              refine ⟨fun hc => ?_, fun hc => ?_⟩
              · replace h1 := h1.1 hc
                replace h2 := h2.1 hc
                refine and_Text_goOn (fun M37 h1 h2 => ?_) h1 h2
                exact hQ _ _ h1 h2
              · replace h1 := h1.2 hc
                replace h2 := h2.2 hc
                exact hQ _ _ h1 h2
        · replace h1 := h1.2 hc
          replace h2 := h2.2 hc
          exact hQ _ _ h1 h2
      · replace h1 := h1.2 hc
        replace h2 := h2.2 hc
        refine and_LawReader_readComparison (fun r38 M39 h1 h2 => ?_) h1 h2
        exact hQ _ _ h1 h2
theorem and_LawReader_readCondition_362_7 {p1 : Int32} {Q1 Q2 Q3 : Int32 → MM → Prop} (hQ : ∀ (r : Int32) (M1 : MM), Q1 r M1 → Q2 r M1 → Q3 r M1) : ∀ (N : Nat) (v2 : Int32) (v3 : Int32) (v4 : Int32) (M : MM), W_LawReader_readCondition_362_7 p1 Q1 N v2 v3 v4 M → W_LawReader_readCondition_362_7 p1 Q2 N v2 v3 v4 M → W_LawReader_readCondition_362_7 p1 Q3 N v2 v3 v4 M := by
  intro N
  induction N with
  | zero => intros; trivial
  | succ N IH =>
    intro v2 v3 v4 M h1 h2
    replace h1 : B_LawReader_readCondition_362_7 p1 Q1 N (W_LawReader_readCondition_362_7 p1 Q1 N) v2 v3 v4 M := h1
    replace h2 : B_LawReader_readCondition_362_7 p1 Q2 N (W_LawReader_readCondition_362_7 p1 Q2 N) v2 v3 v4 M := h2
    show B_LawReader_readCondition_362_7 p1 Q3 N (W_LawReader_readCondition_362_7 p1 Q3 N) v2 v3 v4 M
    unfold B_LawReader_readCondition_362_7 at h1 h2 ⊢
    refine ⟨fun hc => ?_, fun hc => ?_⟩
    · replace h1 := h1.1 hc
      replace h2 := h2.1 hc
      refine and_LawReader_readAtom_363 (fun r2 M3 h1 h2 => ?_) h1 h2
      refine ⟨fun hc => ?_, fun hc => ?_⟩
      · replace h1 := h1.1 hc
        replace h2 := h2.1 hc
        exact hQ _ _ h1 h2
      · replace h1 := h1.2 hc
        replace h2 := h2.2 hc
        refine ⟨fun hc => ?_, fun hc => ?_⟩
        · replace h1 := h1.1 hc
          replace h2 := h2.1 hc
          refine ⟨fun hc => ?_, fun hc => ?_⟩
          · replace h1 := h1.1 hc
            replace h2 := h2.1 hc
            refine and_Text_goOn (fun M9 h1 h2 => ?_) h1 h2
            exact IH _ _ _ _ h1 h2
          · replace h1 := h1.2 hc
            replace h2 := h2.2 hc
            refine ⟨fun hc => ?_, fun hc => ?_⟩
            · replace h1 := h1.1 hc
              replace h2 := h2.1 hc
              refine ⟨fun hc => ?_, fun hc => ?_⟩
              · replace h1 := h1.1 hc
                replace h2 := h2.1 hc
                refine and_Text_goOn (fun M15 h1 h2 => ?_) h1 h2
                exact IH _ _ _ _ h1 h2
              · replace h1 := h1.2 hc
                replace h2 := h2.2 hc
                exact hQ _ _ h1 h2
            · replace h1 := h1.2 hc
              replace h2 := h2.2 hc
              refine and_Law_addStep (fun M18 h1 h2 => ?_) h1 h2
              refine ⟨fun hc => ?_, fun hc => ?_⟩
              · replace h1 := h1.1 hc
                replace h2 := h2.1 hc
                refine and_Text_goOn (fun M22 h1 h2 => ?_) h1 h2
                exact IH _ _ _ _ h1 h2
              · replace h1 := h1.2 hc
                replace h2 := h2.2 hc
                exact hQ _ _ h1 h2
        · replace h1 := h1.2 hc
          replace h2 := h2.2 hc
          refine and_Law_addStep (fun M25 h1 h2 => ?_) h1 h2
          refine ⟨fun hc => ?_, fun hc => ?_⟩
          · replace h1 := h1.1 hc
            replace h2 := h2.1 hc
            refine and_Text_goOn (fun M29 h1 h2 => ?_) h1 h2
            exact IH _ _ _ _ h1 h2
          · replace h1 := h1.2 hc
            replace h2 := h2.2 hc
            refine ⟨fun hc => ?_, fun hc => ?_⟩
            · replace h1 := h1.1 hc
              replace h2 := h2.1 hc
              refine ⟨fun hc => ?_, fun hc => ?_⟩
              · replace h1 := h1.1 hc
                replace h2 := h2.1 hc
                refine and_Text_goOn (fun M35 h1 h2 => ?_) h1 h2
                exact IH _ _ _ _ h1 h2
              · replace h1 := h1.2 hc
                replace h2 := h2.2 hc
                exact hQ _ _ h1 h2
            · replace h1 := h1.2 hc
              replace h2 := h2.2 hc
              refine and_Law_addStep (fun M38 h1 h2 => ?_) h1 h2
              refine ⟨fun hc => ?_, fun hc => ?_⟩
              · replace h1 := h1.1 hc
                replace h2 := h2.1 hc
                refine and_Text_goOn (fun M42 h1 h2 => ?_) h1 h2
                exact IH _ _ _ _ h1 h2
              · replace h1 := h1.2 hc
                replace h2 := h2.2 hc
                exact hQ _ _ h1 h2
    · replace h1 := h1.2 hc
      replace h2 := h2.2 hc
      exact hQ _ _ h1 h2
theorem and_LawReader_readCondition_362 {p1 : Int32} {N : Nat} {M : MM} {Q1 Q2 Q3 : Int32 → MM → Prop} (hQ : ∀ (r : Int32) (M1 : MM), Q1 r M1 → Q2 r M1 → Q3 r M1) (h1 : W_LawReader_readCondition_362 p1 N M Q1) (h2 : W_LawReader_readCondition_362 p1 N M Q2) : W_LawReader_readCondition_362 p1 N M Q3 := by
  unfold W_LawReader_readCondition_362 at h1 h2 ⊢
  refine and_LawReader_readCondition_362_7  hQ N _ _ _ _ h1 h2
theorem and_LawReader_readAtom_361 {p1 : Int32} {N : Nat} {M : MM} {Q1 Q2 Q3 : Int32 → MM → Prop} (hQ : ∀ (r : Int32) (M1 : MM), Q1 r M1 → Q2 r M1 → Q3 r M1) (h1 : W_LawReader_readAtom_361 p1 N M Q1) (h2 : W_LawReader_readAtom_361 p1 N M Q2) : W_LawReader_readAtom_361 p1 N M Q3 := by
  unfold W_LawReader_readAtom_361 at h1 h2 ⊢
  refine ⟨fun hc => ?_, fun hc => ?_⟩
  · replace h1 := h1.1 hc
    replace h2 := h2.1 hc
    refine and_Text_goOn (fun M3 h1 h2 => ?_) h1 h2
    refine and_Law_addStep (fun M5 h1 h2 => ?_) h1 h2
    exact hQ _ _ h1 h2
  · replace h1 := h1.2 hc
    replace h2 := h2.2 hc
    refine ⟨fun hc => ?_, fun hc => ?_⟩
    · replace h1 := h1.1 hc
      replace h2 := h2.1 hc
      refine ⟨fun hc => ?_, fun hc => ?_⟩
      · replace h1 := h1.1 hc
        replace h2 := h2.1 hc
        refine and_Text_goOn (fun M9 h1 h2 => ?_) h1 h2
        refine ⟨fun hc => ?_, fun hc => ?_⟩
        · replace h1 := h1.1 hc
          replace h2 := h2.1 hc
          refine and_LawReader_readAtom_363 (fun r11 M12 h1 h2 => ?_) h1 h2
          refine ⟨fun hc => ?_, fun hc => ?_⟩
          · replace h1 := h1.1 hc
            replace h2 := h2.1 hc
            exact hQ _ _ h1 h2
          · replace h1 := h1.2 hc
            replace h2 := h2.2 hc
            refine and_Law_addStep (fun M15 h1 h2 => ?_) h1 h2
            exact hQ _ _ h1 h2
        · replace h1 := h1.2 hc
          replace h2 := h2.2 hc
          refine and_LawReader_readCondition_362 (fun r16 M17 h1 h2 => ?_) h1 h2
          refine ⟨fun hc => ?_, fun hc => ?_⟩
          · replace h1 := h1.1 hc
            replace h2 := h2.1 hc
            exact hQ _ _ h1 h2
          · replace h1 := h1.2 hc
            replace h2 := h2.2 hc
            refine ⟨fun hc => ?_, fun hc => ?_⟩
            · replace h1 := h1.1 hc
              replace h2 := h2.1 hc
              refine and_Text_goOn (fun M21 h1 h2 => ?_) h1 h2
              exact hQ _ _ h1 h2
            · replace h1 := h1.2 hc
              replace h2 := h2.2 hc
              exact hQ _ _ h1 h2
      · replace h1 := h1.2 hc
        replace h2 := h2.2 hc
        exact hQ _ _ h1 h2
    · replace h1 := h1.2 hc
      replace h2 := h2.2 hc
      refine ⟨fun hc => ?_, fun hc => ?_⟩
      · replace h1 := h1.1 hc
        replace h2 := h2.1 hc
        refine ⟨fun hc => ?_, fun hc => ?_⟩
        · replace h1 := h1.1 hc
          replace h2 := h2.1 hc
          refine and_Text_goOn (fun M25 h1 h2 => ?_) h1 h2
          refine ⟨fun hc => ?_, fun hc => ?_⟩
          · replace h1 := h1.1 hc
            replace h2 := h2.1 hc
            refine and_LawReader_readAtom_363 (fun r27 M28 h1 h2 => ?_) h1 h2
            refine ⟨fun hc => ?_, fun hc => ?_⟩
            · replace h1 := h1.1 hc
              replace h2 := h2.1 hc
              exact hQ _ _ h1 h2
            · replace h1 := h1.2 hc
              replace h2 := h2.2 hc
              refine and_Law_addStep (fun M31 h1 h2 => ?_) h1 h2
              exact hQ _ _ h1 h2
          · replace h1 := h1.2 hc
            replace h2 := h2.2 hc
            refine and_LawReader_readCondition_362 (fun r32 M33 h1 h2 => ?_) h1 h2
            refine ⟨fun hc => ?_, fun hc => ?_⟩
            · replace h1 := h1.1 hc
              replace h2 := h2.1 hc
              exact hQ _ _ h1 h2
            · replace h1 := h1.2 hc
              replace h2 := h2.2 hc
              refine ⟨fun hc => ?_, fun hc => ?_⟩
              · replace h1 := h1.1 hc
                replace h2 := h2.1 hc
                refine and_Text_goOn (fun M37 h1 h2 => ?_) h1 h2
                exact hQ _ _ h1 h2
              · replace h1 := h1.2 hc
                replace h2 := h2.2 hc
                exact hQ _ _ h1 h2
        · replace h1 := h1.2 hc
          replace h2 := h2.2 hc
          exact hQ _ _ h1 h2
      · replace h1 := h1.2 hc
        replace h2 := h2.2 hc
        refine and_LawReader_readComparison (fun r38 M39 h1 h2 => ?_) h1 h2
        exact hQ _ _ h1 h2
theorem and_LawReader_readCondition_360_7 {p1 : Int32} {Q1 Q2 Q3 : Int32 → MM → Prop} (hQ : ∀ (r : Int32) (M1 : MM), Q1 r M1 → Q2 r M1 → Q3 r M1) : ∀ (N : Nat) (v2 : Int32) (v3 : Int32) (v4 : Int32) (M : MM), W_LawReader_readCondition_360_7 p1 Q1 N v2 v3 v4 M → W_LawReader_readCondition_360_7 p1 Q2 N v2 v3 v4 M → W_LawReader_readCondition_360_7 p1 Q3 N v2 v3 v4 M := by
  intro N
  induction N with
  | zero => intros; trivial
  | succ N IH =>
    intro v2 v3 v4 M h1 h2
    replace h1 : B_LawReader_readCondition_360_7 p1 Q1 N (W_LawReader_readCondition_360_7 p1 Q1 N) v2 v3 v4 M := h1
    replace h2 : B_LawReader_readCondition_360_7 p1 Q2 N (W_LawReader_readCondition_360_7 p1 Q2 N) v2 v3 v4 M := h2
    show B_LawReader_readCondition_360_7 p1 Q3 N (W_LawReader_readCondition_360_7 p1 Q3 N) v2 v3 v4 M
    unfold B_LawReader_readCondition_360_7 at h1 h2 ⊢
    refine ⟨fun hc => ?_, fun hc => ?_⟩
    · replace h1 := h1.1 hc
      replace h2 := h2.1 hc
      refine and_LawReader_readAtom_361 (fun r2 M3 h1 h2 => ?_) h1 h2
      refine ⟨fun hc => ?_, fun hc => ?_⟩
      · replace h1 := h1.1 hc
        replace h2 := h2.1 hc
        exact hQ _ _ h1 h2
      · replace h1 := h1.2 hc
        replace h2 := h2.2 hc
        refine ⟨fun hc => ?_, fun hc => ?_⟩
        · replace h1 := h1.1 hc
          replace h2 := h2.1 hc
          refine ⟨fun hc => ?_, fun hc => ?_⟩
          · replace h1 := h1.1 hc
            replace h2 := h2.1 hc
            refine and_Text_goOn (fun M9 h1 h2 => ?_) h1 h2
            exact IH _ _ _ _ h1 h2
          · replace h1 := h1.2 hc
            replace h2 := h2.2 hc
            refine ⟨fun hc => ?_, fun hc => ?_⟩
            · replace h1 := h1.1 hc
              replace h2 := h2.1 hc
              refine ⟨fun hc => ?_, fun hc => ?_⟩
              · replace h1 := h1.1 hc
                replace h2 := h2.1 hc
                refine and_Text_goOn (fun M15 h1 h2 => ?_) h1 h2
                exact IH _ _ _ _ h1 h2
              · replace h1 := h1.2 hc
                replace h2 := h2.2 hc
                exact hQ _ _ h1 h2
            · replace h1 := h1.2 hc
              replace h2 := h2.2 hc
              refine and_Law_addStep (fun M18 h1 h2 => ?_) h1 h2
              refine ⟨fun hc => ?_, fun hc => ?_⟩
              · replace h1 := h1.1 hc
                replace h2 := h2.1 hc
                refine and_Text_goOn (fun M22 h1 h2 => ?_) h1 h2
                exact IH _ _ _ _ h1 h2
              · replace h1 := h1.2 hc
                replace h2 := h2.2 hc
                exact hQ _ _ h1 h2
        · replace h1 := h1.2 hc
          replace h2 := h2.2 hc
          refine and_Law_addStep (fun M25 h1 h2 => ?_) h1 h2
          refine ⟨fun hc => ?_, fun hc => ?_⟩
          · replace h1 := h1.1 hc
            replace h2 := h2.1 hc
            refine and_Text_goOn (fun M29 h1 h2 => ?_) h1 h2
            exact IH _ _ _ _ h1 h2
          · replace h1 := h1.2 hc
            replace h2 := h2.2 hc
            refine ⟨fun hc => ?_, fun hc => ?_⟩
            · replace h1 := h1.1 hc
              replace h2 := h2.1 hc
              refine ⟨fun hc => ?_, fun hc => ?_⟩
              · replace h1 := h1.1 hc
                replace h2 := h2.1 hc
                refine and_Text_goOn (fun M35 h1 h2 => ?_) h1 h2
                exact IH _ _ _ _ h1 h2
              · replace h1 := h1.2 hc
                replace h2 := h2.2 hc
                exact hQ _ _ h1 h2
            · replace h1 := h1.2 hc
              replace h2 := h2.2 hc
              refine and_Law_addStep (fun M38 h1 h2 => ?_) h1 h2
              refine ⟨fun hc => ?_, fun hc => ?_⟩
              · replace h1 := h1.1 hc
                replace h2 := h2.1 hc
                refine and_Text_goOn (fun M42 h1 h2 => ?_) h1 h2
                exact IH _ _ _ _ h1 h2
              · replace h1 := h1.2 hc
                replace h2 := h2.2 hc
                exact hQ _ _ h1 h2
    · replace h1 := h1.2 hc
      replace h2 := h2.2 hc
      exact hQ _ _ h1 h2
theorem and_LawReader_readCondition_360 {p1 : Int32} {N : Nat} {M : MM} {Q1 Q2 Q3 : Int32 → MM → Prop} (hQ : ∀ (r : Int32) (M1 : MM), Q1 r M1 → Q2 r M1 → Q3 r M1) (h1 : W_LawReader_readCondition_360 p1 N M Q1) (h2 : W_LawReader_readCondition_360 p1 N M Q2) : W_LawReader_readCondition_360 p1 N M Q3 := by
  unfold W_LawReader_readCondition_360 at h1 h2 ⊢
  refine and_LawReader_readCondition_360_7  hQ N _ _ _ _ h1 h2
theorem and_LawReader_readAtom_359 {p1 : Int32} {N : Nat} {M : MM} {Q1 Q2 Q3 : Int32 → MM → Prop} (hQ : ∀ (r : Int32) (M1 : MM), Q1 r M1 → Q2 r M1 → Q3 r M1) (h1 : W_LawReader_readAtom_359 p1 N M Q1) (h2 : W_LawReader_readAtom_359 p1 N M Q2) : W_LawReader_readAtom_359 p1 N M Q3 := by
  unfold W_LawReader_readAtom_359 at h1 h2 ⊢
  refine ⟨fun hc => ?_, fun hc => ?_⟩
  · replace h1 := h1.1 hc
    replace h2 := h2.1 hc
    refine and_Text_goOn (fun M3 h1 h2 => ?_) h1 h2
    refine and_Law_addStep (fun M5 h1 h2 => ?_) h1 h2
    exact hQ _ _ h1 h2
  · replace h1 := h1.2 hc
    replace h2 := h2.2 hc
    refine ⟨fun hc => ?_, fun hc => ?_⟩
    · replace h1 := h1.1 hc
      replace h2 := h2.1 hc
      refine ⟨fun hc => ?_, fun hc => ?_⟩
      · replace h1 := h1.1 hc
        replace h2 := h2.1 hc
        refine and_Text_goOn (fun M9 h1 h2 => ?_) h1 h2
        refine ⟨fun hc => ?_, fun hc => ?_⟩
        · replace h1 := h1.1 hc
          replace h2 := h2.1 hc
          refine and_LawReader_readAtom_361 (fun r11 M12 h1 h2 => ?_) h1 h2
          refine ⟨fun hc => ?_, fun hc => ?_⟩
          · replace h1 := h1.1 hc
            replace h2 := h2.1 hc
            exact hQ _ _ h1 h2
          · replace h1 := h1.2 hc
            replace h2 := h2.2 hc
            refine and_Law_addStep (fun M15 h1 h2 => ?_) h1 h2
            exact hQ _ _ h1 h2
        · replace h1 := h1.2 hc
          replace h2 := h2.2 hc
          refine and_LawReader_readCondition_360 (fun r16 M17 h1 h2 => ?_) h1 h2
          refine ⟨fun hc => ?_, fun hc => ?_⟩
          · replace h1 := h1.1 hc
            replace h2 := h2.1 hc
            exact hQ _ _ h1 h2
          · replace h1 := h1.2 hc
            replace h2 := h2.2 hc
            refine ⟨fun hc => ?_, fun hc => ?_⟩
            · replace h1 := h1.1 hc
              replace h2 := h2.1 hc
              refine and_Text_goOn (fun M21 h1 h2 => ?_) h1 h2
              exact hQ _ _ h1 h2
            · replace h1 := h1.2 hc
              replace h2 := h2.2 hc
              exact hQ _ _ h1 h2
      · replace h1 := h1.2 hc
        replace h2 := h2.2 hc
        exact hQ _ _ h1 h2
    · replace h1 := h1.2 hc
      replace h2 := h2.2 hc
      refine ⟨fun hc => ?_, fun hc => ?_⟩
      · replace h1 := h1.1 hc
        replace h2 := h2.1 hc
        refine ⟨fun hc => ?_, fun hc => ?_⟩
        · replace h1 := h1.1 hc
          replace h2 := h2.1 hc
          refine and_Text_goOn (fun M25 h1 h2 => ?_) h1 h2
          refine ⟨fun hc => ?_, fun hc => ?_⟩
          · replace h1 := h1.1 hc
            replace h2 := h2.1 hc
            refine and_LawReader_readAtom_361 (fun r27 M28 h1 h2 => ?_) h1 h2
            refine ⟨fun hc => ?_, fun hc => ?_⟩
            · replace h1 := h1.1 hc
              replace h2 := h2.1 hc
              exact hQ _ _ h1 h2
            · replace h1 := h1.2 hc
              replace h2 := h2.2 hc
              refine and_Law_addStep (fun M31 h1 h2 => ?_) h1 h2
              exact hQ _ _ h1 h2
          · replace h1 := h1.2 hc
            replace h2 := h2.2 hc
            refine and_LawReader_readCondition_360 (fun r32 M33 h1 h2 => ?_) h1 h2
            refine ⟨fun hc => ?_, fun hc => ?_⟩
            · replace h1 := h1.1 hc
              replace h2 := h2.1 hc
              exact hQ _ _ h1 h2
            · replace h1 := h1.2 hc
              replace h2 := h2.2 hc
              refine ⟨fun hc => ?_, fun hc => ?_⟩
              · replace h1 := h1.1 hc
                replace h2 := h2.1 hc
                refine and_Text_goOn (fun M37 h1 h2 => ?_) h1 h2
                exact hQ _ _ h1 h2
              · replace h1 := h1.2 hc
                replace h2 := h2.2 hc
                exact hQ _ _ h1 h2
        · replace h1 := h1.2 hc
          replace h2 := h2.2 hc
          exact hQ _ _ h1 h2
      · replace h1 := h1.2 hc
        replace h2 := h2.2 hc
        refine and_LawReader_readComparison (fun r38 M39 h1 h2 => ?_) h1 h2
        exact hQ _ _ h1 h2
theorem and_LawReader_readCondition_358_7 {p1 : Int32} {Q1 Q2 Q3 : Int32 → MM → Prop} (hQ : ∀ (r : Int32) (M1 : MM), Q1 r M1 → Q2 r M1 → Q3 r M1) : ∀ (N : Nat) (v2 : Int32) (v3 : Int32) (v4 : Int32) (M : MM), W_LawReader_readCondition_358_7 p1 Q1 N v2 v3 v4 M → W_LawReader_readCondition_358_7 p1 Q2 N v2 v3 v4 M → W_LawReader_readCondition_358_7 p1 Q3 N v2 v3 v4 M := by
  intro N
  induction N with
  | zero => intros; trivial
  | succ N IH =>
    intro v2 v3 v4 M h1 h2
    replace h1 : B_LawReader_readCondition_358_7 p1 Q1 N (W_LawReader_readCondition_358_7 p1 Q1 N) v2 v3 v4 M := h1
    replace h2 : B_LawReader_readCondition_358_7 p1 Q2 N (W_LawReader_readCondition_358_7 p1 Q2 N) v2 v3 v4 M := h2
    show B_LawReader_readCondition_358_7 p1 Q3 N (W_LawReader_readCondition_358_7 p1 Q3 N) v2 v3 v4 M
    unfold B_LawReader_readCondition_358_7 at h1 h2 ⊢
    refine ⟨fun hc => ?_, fun hc => ?_⟩
    · replace h1 := h1.1 hc
      replace h2 := h2.1 hc
      refine and_LawReader_readAtom_359 (fun r2 M3 h1 h2 => ?_) h1 h2
      refine ⟨fun hc => ?_, fun hc => ?_⟩
      · replace h1 := h1.1 hc
        replace h2 := h2.1 hc
        exact hQ _ _ h1 h2
      · replace h1 := h1.2 hc
        replace h2 := h2.2 hc
        refine ⟨fun hc => ?_, fun hc => ?_⟩
        · replace h1 := h1.1 hc
          replace h2 := h2.1 hc
          refine ⟨fun hc => ?_, fun hc => ?_⟩
          · replace h1 := h1.1 hc
            replace h2 := h2.1 hc
            refine and_Text_goOn (fun M9 h1 h2 => ?_) h1 h2
            exact IH _ _ _ _ h1 h2
          · replace h1 := h1.2 hc
            replace h2 := h2.2 hc
            refine ⟨fun hc => ?_, fun hc => ?_⟩
            · replace h1 := h1.1 hc
              replace h2 := h2.1 hc
              refine ⟨fun hc => ?_, fun hc => ?_⟩
              · replace h1 := h1.1 hc
                replace h2 := h2.1 hc
                refine and_Text_goOn (fun M15 h1 h2 => ?_) h1 h2
                exact IH _ _ _ _ h1 h2
              · replace h1 := h1.2 hc
                replace h2 := h2.2 hc
                exact hQ _ _ h1 h2
            · replace h1 := h1.2 hc
              replace h2 := h2.2 hc
              refine and_Law_addStep (fun M18 h1 h2 => ?_) h1 h2
              refine ⟨fun hc => ?_, fun hc => ?_⟩
              · replace h1 := h1.1 hc
                replace h2 := h2.1 hc
                refine and_Text_goOn (fun M22 h1 h2 => ?_) h1 h2
                exact IH _ _ _ _ h1 h2
              · replace h1 := h1.2 hc
                replace h2 := h2.2 hc
                exact hQ _ _ h1 h2
        · replace h1 := h1.2 hc
          replace h2 := h2.2 hc
          refine and_Law_addStep (fun M25 h1 h2 => ?_) h1 h2
          refine ⟨fun hc => ?_, fun hc => ?_⟩
          · replace h1 := h1.1 hc
            replace h2 := h2.1 hc
            refine and_Text_goOn (fun M29 h1 h2 => ?_) h1 h2
            exact IH _ _ _ _ h1 h2
          · replace h1 := h1.2 hc
            replace h2 := h2.2 hc
            refine ⟨fun hc => ?_, fun hc => ?_⟩
            · replace h1 := h1.1 hc
              replace h2 := h2.1 hc
              refine ⟨fun hc => ?_, fun hc => ?_⟩
              · replace h1 := h1.1 hc
                replace h2 := h2.1 hc
                refine and_Text_goOn (fun M35 h1 h2 => ?_) h1 h2
                exact IH _ _ _ _ h1 h2
              · replace h1 := h1.2 hc
                replace h2 := h2.2 hc
                exact hQ _ _ h1 h2
            · replace h1 := h1.2 hc
              replace h2 := h2.2 hc
              refine and_Law_addStep (fun M38 h1 h2 => ?_) h1 h2
              refine ⟨fun hc => ?_, fun hc => ?_⟩
              · replace h1 := h1.1 hc
                replace h2 := h2.1 hc
                refine and_Text_goOn (fun M42 h1 h2 => ?_) h1 h2
                exact IH _ _ _ _ h1 h2
              · replace h1 := h1.2 hc
                replace h2 := h2.2 hc
                exact hQ _ _ h1 h2
    · replace h1 := h1.2 hc
      replace h2 := h2.2 hc
      exact hQ _ _ h1 h2
theorem and_LawReader_readCondition_358 {p1 : Int32} {N : Nat} {M : MM} {Q1 Q2 Q3 : Int32 → MM → Prop} (hQ : ∀ (r : Int32) (M1 : MM), Q1 r M1 → Q2 r M1 → Q3 r M1) (h1 : W_LawReader_readCondition_358 p1 N M Q1) (h2 : W_LawReader_readCondition_358 p1 N M Q2) : W_LawReader_readCondition_358 p1 N M Q3 := by
  unfold W_LawReader_readCondition_358 at h1 h2 ⊢
  refine and_LawReader_readCondition_358_7  hQ N _ _ _ _ h1 h2
theorem and_LawReader_readAtom {p1 : Int32} {N : Nat} {M : MM} {Q1 Q2 Q3 : Int32 → MM → Prop} (hQ : ∀ (r : Int32) (M1 : MM), Q1 r M1 → Q2 r M1 → Q3 r M1) (h1 : W_LawReader_readAtom p1 N M Q1) (h2 : W_LawReader_readAtom p1 N M Q2) : W_LawReader_readAtom p1 N M Q3 := by
  unfold W_LawReader_readAtom at h1 h2 ⊢
  refine ⟨fun hc => ?_, fun hc => ?_⟩
  · replace h1 := h1.1 hc
    replace h2 := h2.1 hc
    refine and_Text_goOn (fun M3 h1 h2 => ?_) h1 h2
    refine and_Law_addStep (fun M5 h1 h2 => ?_) h1 h2
    exact hQ _ _ h1 h2
  · replace h1 := h1.2 hc
    replace h2 := h2.2 hc
    refine ⟨fun hc => ?_, fun hc => ?_⟩
    · replace h1 := h1.1 hc
      replace h2 := h2.1 hc
      refine ⟨fun hc => ?_, fun hc => ?_⟩
      · replace h1 := h1.1 hc
        replace h2 := h2.1 hc
        refine and_Text_goOn (fun M9 h1 h2 => ?_) h1 h2
        refine ⟨fun hc => ?_, fun hc => ?_⟩
        · replace h1 := h1.1 hc
          replace h2 := h2.1 hc
          refine and_LawReader_readAtom_359 (fun r11 M12 h1 h2 => ?_) h1 h2
          refine ⟨fun hc => ?_, fun hc => ?_⟩
          · replace h1 := h1.1 hc
            replace h2 := h2.1 hc
            exact hQ _ _ h1 h2
          · replace h1 := h1.2 hc
            replace h2 := h2.2 hc
            refine and_Law_addStep (fun M15 h1 h2 => ?_) h1 h2
            exact hQ _ _ h1 h2
        · replace h1 := h1.2 hc
          replace h2 := h2.2 hc
          refine and_LawReader_readCondition_358 (fun r16 M17 h1 h2 => ?_) h1 h2
          refine ⟨fun hc => ?_, fun hc => ?_⟩
          · replace h1 := h1.1 hc
            replace h2 := h2.1 hc
            exact hQ _ _ h1 h2
          · replace h1 := h1.2 hc
            replace h2 := h2.2 hc
            refine ⟨fun hc => ?_, fun hc => ?_⟩
            · replace h1 := h1.1 hc
              replace h2 := h2.1 hc
              refine and_Text_goOn (fun M21 h1 h2 => ?_) h1 h2
              exact hQ _ _ h1 h2
            · replace h1 := h1.2 hc
              replace h2 := h2.2 hc
              exact hQ _ _ h1 h2
      · replace h1 := h1.2 hc
        replace h2 := h2.2 hc
        exact hQ _ _ h1 h2
    · replace h1 := h1.2 hc
      replace h2 := h2.2 hc
      refine ⟨fun hc => ?_, fun hc => ?_⟩
      · replace h1 := h1.1 hc
        replace h2 := h2.1 hc
        refine ⟨fun hc => ?_, fun hc => ?_⟩
        · replace h1 := h1.1 hc
          replace h2 := h2.1 hc
          refine and_Text_goOn (fun M25 h1 h2 => ?_) h1 h2
          refine ⟨fun hc => ?_, fun hc => ?_⟩
          · replace h1 := h1.1 hc
            replace h2 := h2.1 hc
            refine and_LawReader_readAtom_359 (fun r27 M28 h1 h2 => ?_) h1 h2
            refine ⟨fun hc => ?_, fun hc => ?_⟩
            · replace h1 := h1.1 hc
              replace h2 := h2.1 hc
              exact hQ _ _ h1 h2
            · replace h1 := h1.2 hc
              replace h2 := h2.2 hc
              refine and_Law_addStep (fun M31 h1 h2 => ?_) h1 h2
              exact hQ _ _ h1 h2
          · replace h1 := h1.2 hc
            replace h2 := h2.2 hc
            refine and_LawReader_readCondition_358 (fun r32 M33 h1 h2 => ?_) h1 h2
            refine ⟨fun hc => ?_, fun hc => ?_⟩
            · replace h1 := h1.1 hc
              replace h2 := h2.1 hc
              exact hQ _ _ h1 h2
            · replace h1 := h1.2 hc
              replace h2 := h2.2 hc
              refine ⟨fun hc => ?_, fun hc => ?_⟩
              · replace h1 := h1.1 hc
                replace h2 := h2.1 hc
                refine and_Text_goOn (fun M37 h1 h2 => ?_) h1 h2
                exact hQ _ _ h1 h2
              · replace h1 := h1.2 hc
                replace h2 := h2.2 hc
                exact hQ _ _ h1 h2
        · replace h1 := h1.2 hc
          replace h2 := h2.2 hc
          exact hQ _ _ h1 h2
      · replace h1 := h1.2 hc
        replace h2 := h2.2 hc
        refine and_LawReader_readComparison (fun r38 M39 h1 h2 => ?_) h1 h2
        exact hQ _ _ h1 h2
theorem and_LawReader_readCondition_7 {p1 : Int32} {Q1 Q2 Q3 : Int32 → MM → Prop} (hQ : ∀ (r : Int32) (M1 : MM), Q1 r M1 → Q2 r M1 → Q3 r M1) : ∀ (N : Nat) (v2 : Int32) (v3 : Int32) (v4 : Int32) (M : MM), W_LawReader_readCondition_7 p1 Q1 N v2 v3 v4 M → W_LawReader_readCondition_7 p1 Q2 N v2 v3 v4 M → W_LawReader_readCondition_7 p1 Q3 N v2 v3 v4 M := by
  intro N
  induction N with
  | zero => intros; trivial
  | succ N IH =>
    intro v2 v3 v4 M h1 h2
    replace h1 : B_LawReader_readCondition_7 p1 Q1 N (W_LawReader_readCondition_7 p1 Q1 N) v2 v3 v4 M := h1
    replace h2 : B_LawReader_readCondition_7 p1 Q2 N (W_LawReader_readCondition_7 p1 Q2 N) v2 v3 v4 M := h2
    show B_LawReader_readCondition_7 p1 Q3 N (W_LawReader_readCondition_7 p1 Q3 N) v2 v3 v4 M
    unfold B_LawReader_readCondition_7 at h1 h2 ⊢
    refine ⟨fun hc => ?_, fun hc => ?_⟩
    · replace h1 := h1.1 hc
      replace h2 := h2.1 hc
      refine and_LawReader_readAtom (fun r2 M3 h1 h2 => ?_) h1 h2
      refine ⟨fun hc => ?_, fun hc => ?_⟩
      · replace h1 := h1.1 hc
        replace h2 := h2.1 hc
        exact hQ _ _ h1 h2
      · replace h1 := h1.2 hc
        replace h2 := h2.2 hc
        refine ⟨fun hc => ?_, fun hc => ?_⟩
        · replace h1 := h1.1 hc
          replace h2 := h2.1 hc
          refine ⟨fun hc => ?_, fun hc => ?_⟩
          · replace h1 := h1.1 hc
            replace h2 := h2.1 hc
            refine and_Text_goOn (fun M9 h1 h2 => ?_) h1 h2
            exact IH _ _ _ _ h1 h2
          · replace h1 := h1.2 hc
            replace h2 := h2.2 hc
            refine ⟨fun hc => ?_, fun hc => ?_⟩
            · replace h1 := h1.1 hc
              replace h2 := h2.1 hc
              refine ⟨fun hc => ?_, fun hc => ?_⟩
              · replace h1 := h1.1 hc
                replace h2 := h2.1 hc
                refine and_Text_goOn (fun M15 h1 h2 => ?_) h1 h2
                exact IH _ _ _ _ h1 h2
              · replace h1 := h1.2 hc
                replace h2 := h2.2 hc
                exact hQ _ _ h1 h2
            · replace h1 := h1.2 hc
              replace h2 := h2.2 hc
              refine and_Law_addStep (fun M18 h1 h2 => ?_) h1 h2
              refine ⟨fun hc => ?_, fun hc => ?_⟩
              · replace h1 := h1.1 hc
                replace h2 := h2.1 hc
                refine and_Text_goOn (fun M22 h1 h2 => ?_) h1 h2
                exact IH _ _ _ _ h1 h2
              · replace h1 := h1.2 hc
                replace h2 := h2.2 hc
                exact hQ _ _ h1 h2
        · replace h1 := h1.2 hc
          replace h2 := h2.2 hc
          refine and_Law_addStep (fun M25 h1 h2 => ?_) h1 h2
          refine ⟨fun hc => ?_, fun hc => ?_⟩
          · replace h1 := h1.1 hc
            replace h2 := h2.1 hc
            refine and_Text_goOn (fun M29 h1 h2 => ?_) h1 h2
            exact IH _ _ _ _ h1 h2
          · replace h1 := h1.2 hc
            replace h2 := h2.2 hc
            refine ⟨fun hc => ?_, fun hc => ?_⟩
            · replace h1 := h1.1 hc
              replace h2 := h2.1 hc
              refine ⟨fun hc => ?_, fun hc => ?_⟩
              · replace h1 := h1.1 hc
                replace h2 := h2.1 hc
                refine and_Text_goOn (fun M35 h1 h2 => ?_) h1 h2
                exact IH _ _ _ _ h1 h2
              · replace h1 := h1.2 hc
                replace h2 := h2.2 hc
                exact hQ _ _ h1 h2
            · replace h1 := h1.2 hc
              replace h2 := h2.2 hc
              refine and_Law_addStep (fun M38 h1 h2 => ?_) h1 h2
              refine ⟨fun hc => ?_, fun hc => ?_⟩
              · replace h1 := h1.1 hc
                replace h2 := h2.1 hc
                refine and_Text_goOn (fun M42 h1 h2 => ?_) h1 h2
                exact IH _ _ _ _ h1 h2
              · replace h1 := h1.2 hc
                replace h2 := h2.2 hc
                exact hQ _ _ h1 h2
    · replace h1 := h1.2 hc
      replace h2 := h2.2 hc
      exact hQ _ _ h1 h2
theorem and_LawReader_readCondition {p1 : Int32} {N : Nat} {M : MM} {Q1 Q2 Q3 : Int32 → MM → Prop} (hQ : ∀ (r : Int32) (M1 : MM), Q1 r M1 → Q2 r M1 → Q3 r M1) (h1 : W_LawReader_readCondition p1 N M Q1) (h2 : W_LawReader_readCondition p1 N M Q2) : W_LawReader_readCondition p1 N M Q3 := by
  unfold W_LawReader_readCondition at h1 h2 ⊢
  refine and_LawReader_readCondition_7  hQ N _ _ _ _ h1 h2
theorem and_Text_numberWithin {p1 : Int32} {p2 : Int32} {N : Nat} {M : MM} {Q1 Q2 Q3 : Int32 → MM → Prop} (hQ : ∀ (r : Int32) (M1 : MM), Q1 r M1 → Q2 r M1 → Q3 r M1) (h1 : W_Text_numberWithin p1 p2 N M Q1) (h2 : W_Text_numberWithin p1 p2 N M Q2) : W_Text_numberWithin p1 p2 N M Q3 := by
  unfold W_Text_numberWithin at h1 h2 ⊢
  refine ⟨fun hc => ?_, fun hc => ?_⟩
  · replace h1 := h1.1 hc
    replace h2 := h2.1 hc
    refine ⟨fun hc => ?_, fun hc => ?_⟩
    · replace h1 := h1.1 hc
      replace h2 := h2.1 hc
      exact hQ _ _ h1 h2
    · replace h1 := h1.2 hc
      replace h2 := h2.2 hc
      refine ⟨fun hc => ?_, fun hc => ?_⟩
      · replace h1 := h1.1 hc
        replace h2 := h2.1 hc
        exact hQ _ _ h1 h2
      · replace h1 := h1.2 hc
        replace h2 := h2.2 hc
        exact hQ _ _ h1 h2
  · replace h1 := h1.2 hc
    replace h2 := h2.2 hc
    exact hQ _ _ h1 h2
theorem and_LawReader_readClause  {N : Nat} {M : MM} {Q1 Q2 Q3 : Int32 → MM → Prop} (hQ : ∀ (r : Int32) (M1 : MM), Q1 r M1 → Q2 r M1 → Q3 r M1) (h1 : W_LawReader_readClause  N M Q1) (h2 : W_LawReader_readClause  N M Q2) : W_LawReader_readClause  N M Q3 := by
  unfold W_LawReader_readClause at h1 h2 ⊢
  refine ⟨fun hc => ?_, fun hc => ?_⟩
  · replace h1 := h1.1 hc
    replace h2 := h2.1 hc
    refine and_Text_goOn (fun M4 h1 h2 => ?_) h1 h2
    refine and_Text_numberWithin (fun r5 M6 h1 h2 => ?_) h1 h2
    refine ⟨fun hc => ?_, fun hc => ?_⟩
    · replace h1 := h1.1 hc
      replace h2 := h2.1 hc
      exact hQ _ _ h1 h2
    · replace h1 := h1.2 hc
      replace h2 := h2.2 hc
      refine ⟨fun hc => ?_, fun hc => ?_⟩
      · replace h1 := h1.1 hc
        replace h2 := h2.1 hc
        refine and_Text_goOn (fun M10 h1 h2 => ?_) h1 h2
        refine and_LawReader_readCondition (fun r11 M12 h1 h2 => ?_) h1 h2
        refine ⟨fun hc => ?_, fun hc => ?_⟩
        · replace h1 := h1.1 hc
          replace h2 := h2.1 hc
          exact hQ _ _ h1 h2
        · replace h1 := h1.2 hc
          replace h2 := h2.2 hc
          refine and_Law_addClause (fun M15 h1 h2 => ?_) h1 h2
          exact hQ _ _ h1 h2
      · replace h1 := h1.2 hc
        replace h2 := h2.2 hc
        refine and_Law_addClause (fun M17 h1 h2 => ?_) h1 h2
        exact hQ _ _ h1 h2
  · replace h1 := h1.2 hc
    replace h2 := h2.2 hc
    refine ⟨fun hc => ?_, fun hc => ?_⟩
    · replace h1 := h1.1 hc
      replace h2 := h2.1 hc
      refine and_Text_goOn (fun M21 h1 h2 => ?_) h1 h2
      refine and_Text_numberWithin (fun r22 M23 h1 h2 => ?_) h1 h2
      refine ⟨fun hc => ?_, fun hc => ?_⟩
      · replace h1 := h1.1 hc
        replace h2 := h2.1 hc
        exact hQ _ _ h1 h2
      · replace h1 := h1.2 hc
        replace h2 := h2.2 hc
        refine ⟨fun hc => ?_, fun hc => ?_⟩
        · replace h1 := h1.1 hc
          replace h2 := h2.1 hc
          refine and_Text_goOn (fun M27 h1 h2 => ?_) h1 h2
          refine and_LawReader_readCondition (fun r28 M29 h1 h2 => ?_) h1 h2
          refine ⟨fun hc => ?_, fun hc => ?_⟩
          · replace h1 := h1.1 hc
            replace h2 := h2.1 hc
            exact hQ _ _ h1 h2
          · replace h1 := h1.2 hc
            replace h2 := h2.2 hc
            refine and_Law_addClause (fun M32 h1 h2 => ?_) h1 h2
            exact hQ _ _ h1 h2
        · replace h1 := h1.2 hc
          replace h2 := h2.2 hc
          refine and_Law_addClause (fun M34 h1 h2 => ?_) h1 h2
          exact hQ _ _ h1 h2
    · replace h1 := h1.2 hc
      replace h2 := h2.2 hc
      exact hQ _ _ h1 h2
theorem and_LawReader_readAll_31  {Q1 Q2 Q3 : Int32 → MM → Prop} (hQ : ∀ (r : Int32) (M1 : MM), Q1 r M1 → Q2 r M1 → Q3 r M1) : ∀ (N : Nat) (v1 : Int32) (M : MM), W_LawReader_readAll_31 Q1 N v1 M → W_LawReader_readAll_31 Q2 N v1 M → W_LawReader_readAll_31 Q3 N v1 M := by
  intro N
  induction N with
  | zero => intros; trivial
  | succ N IH =>
    intro v1 M h1 h2
    replace h1 : B_LawReader_readAll_31 Q1 N (W_LawReader_readAll_31 Q1 N) v1 M := h1
    replace h2 : B_LawReader_readAll_31 Q2 N (W_LawReader_readAll_31 Q2 N) v1 M := h2
    show B_LawReader_readAll_31 Q3 N (W_LawReader_readAll_31 Q3 N) v1 M
    unfold B_LawReader_readAll_31 at h1 h2 ⊢
    refine ⟨fun hc => ?_, fun hc => ?_⟩
    · replace h1 := h1.1 hc
      replace h2 := h2.1 hc
      refine and_LawReader_readClause (fun r5 M6 h1 h2 => ?_) h1 h2
      refine ⟨fun hc => ?_, fun hc => ?_⟩
      · replace h1 := h1.1 hc
        replace h2 := h2.1 hc
        exact hQ _ _ h1 h2
      · replace h1 := h1.2 hc
        replace h2 := h2.2 hc
        refine ⟨fun hc => ?_, fun hc => ?_⟩
        · replace h1 := h1.1 hc
          replace h2 := h2.1 hc
          exact hQ _ _ h1 h2
        · replace h1 := h1.2 hc
          replace h2 := h2.2 hc
          refine ⟨fun hc => ?_, fun hc => ?_⟩
          · replace h1 := h1.1 hc
            replace h2 := h2.1 hc
            refine and_Text_goOn (fun M11 h1 h2 => ?_) h1 h2
            exact IH _ _ h1 h2
          · replace h1 := h1.2 hc
            replace h2 := h2.2 hc
            exact hQ _ _ h1 h2
    · replace h1 := h1.2 hc
      replace h2 := h2.2 hc
      exact hQ _ _ h1 h2
theorem and_LawReader_readAll  {N : Nat} {M : MM} {Q1 Q2 Q3 : Int32 → MM → Prop} (hQ : ∀ (r : Int32) (M1 : MM), Q1 r M1 → Q2 r M1 → Q3 r M1) (h1 : W_LawReader_readAll  N M Q1) (h2 : W_LawReader_readAll  N M Q2) : W_LawReader_readAll  N M Q3 := by
  unfold W_LawReader_readAll at h1 h2 ⊢
  refine and_Law_clear (fun M2 h1 h2 => ?_) h1 h2
  refine ⟨fun hc => ?_, fun hc => ?_⟩
  · replace h1 := h1.1 hc
    replace h2 := h2.1 hc
    exact hQ _ _ h1 h2
  · replace h1 := h1.2 hc
    replace h2 := h2.2 hc
    refine and_LawReader_readAll_31  hQ N _ _ h1 h2
theorem and_Log_become {a : Nat} {b : Nat} {N : Nat} {M : MM} {Q1 Q2 Q3 : MM → Prop} (hQ : ∀  (M1 : MM), Q1 M1 → Q2 M1 → Q3 M1) (h1 : W_Log_become a b N M Q1) (h2 : W_Log_become a b N M Q2) : W_Log_become a b N M Q3 := by
  unfold W_Log_become at h1 h2 ⊢
  exact hQ _ h1 h2
theorem and_Log_add {a : Nat} {p1 : Int32} {p2 : Int32} {p3 : Int32} {p4 : Int32} {N : Nat} {M : MM} {Q1 Q2 Q3 : MM → Prop} (hQ : ∀  (M1 : MM), Q1 M1 → Q2 M1 → Q3 M1) (h1 : W_Log_add a p1 p2 p3 p4 N M Q1) (h2 : W_Log_add a p1 p2 p3 p4 N M Q2) : W_Log_add a p1 p2 p3 p4 N M Q3 := by
  unfold W_Log_add at h1 h2 ⊢
  exact hQ _ h1 h2
theorem and_Log_clausesOf_4 {a : Nat} {p1 : Int32} {M : MM} {Q1 Q2 Q3 : Int32 → Prop} (hQ : ∀ (r : Int32), Q1 r → Q2 r → Q3 r) : ∀ (N : Nat) (v2 : Int32) (v3 : Int32), W_Log_clausesOf_4 a p1 M Q1 N v2 v3 → W_Log_clausesOf_4 a p1 M Q2 N v2 v3 → W_Log_clausesOf_4 a p1 M Q3 N v2 v3 := by
  intro N
  induction N with
  | zero => intros; trivial
  | succ N IH =>
    intro v2 v3 h1 h2
    replace h1 : B_Log_clausesOf_4 a p1 M Q1 N (W_Log_clausesOf_4 a p1 M Q1 N) v2 v3 := h1
    replace h2 : B_Log_clausesOf_4 a p1 M Q2 N (W_Log_clausesOf_4 a p1 M Q2 N) v2 v3 := h2
    show B_Log_clausesOf_4 a p1 M Q3 N (W_Log_clausesOf_4 a p1 M Q3 N) v2 v3
    unfold B_Log_clausesOf_4 at h1 h2 ⊢
    refine ⟨fun hc => ?_, fun hc => ?_⟩
    · replace h1 := h1.1 hc
      replace h2 := h2.1 hc
      refine ⟨fun hc => ?_, fun hc => ?_⟩
      · replace h1 := h1.1 hc
        replace h2 := h2.1 hc
        exact IH _ _ h1 h2
      · replace h1 := h1.2 hc
        replace h2 := h2.2 hc
        refine ⟨fun hc => ?_, fun hc => ?_⟩
        · replace h1 := h1.1 hc
          replace h2 := h2.1 hc
          exact IH _ _ h1 h2
        · replace h1 := h1.2 hc
          replace h2 := h2.2 hc
          exact IH _ _ h1 h2
    · replace h1 := h1.2 hc
      replace h2 := h2.2 hc
      exact hQ _ h1 h2
theorem and_Log_clausesOf {a : Nat} {p1 : Int32} {N : Nat} {M : MM} {Q1 Q2 Q3 : Int32 → Prop} (hQ : ∀ (r : Int32), Q1 r → Q2 r → Q3 r) (h1 : W_Log_clausesOf a p1 N M Q1) (h2 : W_Log_clausesOf a p1 N M Q2) : W_Log_clausesOf a p1 N M Q3 := by
  unfold W_Log_clausesOf at h1 h2 ⊢
  refine and_Log_clausesOf_4  hQ N _ _ h1 h2
theorem and_Log_mostFrequentClause_18 {a : Nat} {u1 : Int32} {u2 : Int32} {u3 : Int32} {M : MM} {k47a k47b k47c : Int32 → Prop} {Q1 Q2 Q3 : Int32 → Prop} (hk47 : ∀ (v4 : Int32), k47a v4 → k47b v4 → k47c v4) (hQ : ∀ (r : Int32), Q1 r → Q2 r → Q3 r) : ∀ (N : Nat) (v4 : Int32) (v5 : Int32), W_Log_mostFrequentClause_18 a u1 u2 u3 M k47a Q1 N v4 v5 → W_Log_mostFrequentClause_18 a u1 u2 u3 M k47b Q2 N v4 v5 → W_Log_mostFrequentClause_18 a u1 u2 u3 M k47c Q3 N v4 v5 := by
  intro N
  induction N with
  | zero => intros; trivial
  | succ N IH =>
    intro v4 v5 h1 h2
    replace h1 : B_Log_mostFrequentClause_18 a u1 u2 u3 M k47a Q1 N (W_Log_mostFrequentClause_18 a u1 u2 u3 M k47a Q1 N) v4 v5 := h1
    replace h2 : B_Log_mostFrequentClause_18 a u1 u2 u3 M k47b Q2 N (W_Log_mostFrequentClause_18 a u1 u2 u3 M k47b Q2 N) v4 v5 := h2
    show B_Log_mostFrequentClause_18 a u1 u2 u3 M k47c Q3 N (W_Log_mostFrequentClause_18 a u1 u2 u3 M k47c Q3 N) v4 v5
    unfold B_Log_mostFrequentClause_18 at h1 h2 ⊢
    refine ⟨fun hc => ?_, fun hc => ?_⟩
    · replace h1 := h1.1 hc
      replace h2 := h2.1 hc
      refine ⟨fun hc => ?_, fun hc => ?_⟩
      · replace h1 := h1.1 hc
        replace h2 := h2.1 hc
        exact IH _ _ h1 h2
      · replace h1 := h1.2 hc
        replace h2 := h2.2 hc
        exact IH _ _ h1 h2
    · replace h1 := h1.2 hc
      replace h2 := h2.2 hc
      exact hk47 _ h1 h2
theorem and_Log_mostFrequentClause_6 {a : Nat} {M : MM} {Q1 Q2 Q3 : Int32 → Prop} (hQ : ∀ (r : Int32), Q1 r → Q2 r → Q3 r) : ∀ (N : Nat) (v1 : Int32) (v2 : Int32) (v3 : Int32), W_Log_mostFrequentClause_6 a M Q1 N v1 v2 v3 → W_Log_mostFrequentClause_6 a M Q2 N v1 v2 v3 → W_Log_mostFrequentClause_6 a M Q3 N v1 v2 v3 := by
  intro N
  induction N with
  | zero => intros; trivial
  | succ N IH =>
    intro v1 v2 v3 h1 h2
    replace h1 : B_Log_mostFrequentClause_6 a M Q1 N (W_Log_mostFrequentClause_6 a M Q1 N) v1 v2 v3 := h1
    replace h2 : B_Log_mostFrequentClause_6 a M Q2 N (W_Log_mostFrequentClause_6 a M Q2 N) v1 v2 v3 := h2
    show B_Log_mostFrequentClause_6 a M Q3 N (W_Log_mostFrequentClause_6 a M Q3 N) v1 v2 v3
    unfold B_Log_mostFrequentClause_6 at h1 h2 ⊢
    refine ⟨fun hc => ?_, fun hc => ?_⟩
    · replace h1 := h1.1 hc
      replace h2 := h2.1 hc
      refine and_Log_mostFrequentClause_18 (fun x4 h1 h2 => ?_) hQ N _ _ h1 h2
      · refine ⟨fun hc => ?_, fun hc => ?_⟩
        · replace h1 := h1.1 hc
          replace h2 := h2.1 hc
          exact IH _ _ _ h1 h2
        · replace h1 := h1.2 hc
          replace h2 := h2.2 hc
          exact IH _ _ _ h1 h2
    · replace h1 := h1.2 hc
      replace h2 := h2.2 hc
      exact hQ _ h1 h2
theorem and_Log_mostFrequentClause {a : Nat} {N : Nat} {M : MM} {Q1 Q2 Q3 : Int32 → Prop} (hQ : ∀ (r : Int32), Q1 r → Q2 r → Q3 r) (h1 : W_Log_mostFrequentClause a N M Q1) (h2 : W_Log_mostFrequentClause a N M Q2) : W_Log_mostFrequentClause a N M Q3 := by
  unfold W_Log_mostFrequentClause at h1 h2 ⊢
  refine and_Log_mostFrequentClause_6  hQ N _ _ _ h1 h2
theorem and_World_become {a : Nat} {b : Nat} {N : Nat} {M : MM} {Q1 Q2 Q3 : MM → Prop} (hQ : ∀  (M1 : MM), Q1 M1 → Q2 M1 → Q3 M1) (h1 : W_World_become a b N M Q1) (h2 : W_World_become a b N M Q2) : W_World_become a b N M Q3 := by
  unfold W_World_become at h1 h2 ⊢
  refine and_Log_become (fun M2 h1 h2 => ?_) h1 h2
  exact hQ _ h1 h2
theorem and_Memory_remember  {N : Nat} {M : MM} {Q1 Q2 Q3 : MM → Prop} (hQ : ∀  (M1 : MM), Q1 M1 → Q2 M1 → Q3 M1) (h1 : W_Memory_remember  N M Q1) (h2 : W_Memory_remember  N M Q2) : W_Memory_remember  N M Q3 := by
  unfold W_Memory_remember at h1 h2 ⊢
  intro hj1
  replace h1 := h1 hj1
  replace h2 := h2 hj1
  refine and_World_become (fun M3 h1 h2 => ?_) h1 h2
  exact hQ _ h1 h2
theorem and_Memory_takeBack  {N : Nat} {M : MM} {Q1 Q2 Q3 : Int32 → MM → Prop} (hQ : ∀ (r : Int32) (M1 : MM), Q1 r M1 → Q2 r M1 → Q3 r M1) (h1 : W_Memory_takeBack  N M Q1) (h2 : W_Memory_takeBack  N M Q2) : W_Memory_takeBack  N M Q3 := by
  unfold W_Memory_takeBack at h1 h2 ⊢
  refine ⟨fun hc => ?_, fun hc => ?_⟩
  · replace h1 := h1.1 hc
    replace h2 := h2.1 hc
    exact hQ _ _ h1 h2
  · replace h1 := h1.2 hc
    replace h2 := h2.2 hc
    intro hj2
    replace h1 := h1 hj2
    replace h2 := h2 hj2
    refine and_World_become (fun M4 h1 h2 => ?_) h1 h2
    exact hQ _ _ h1 h2
theorem and_Memory_forget  {N : Nat} {M : MM} {Q1 Q2 Q3 : MM → Prop} (hQ : ∀  (M1 : MM), Q1 M1 → Q2 M1 → Q3 M1) (h1 : W_Memory_forget  N M Q1) (h2 : W_Memory_forget  N M Q2) : W_Memory_forget  N M Q3 := by
  unfold W_Memory_forget at h1 h2 ⊢
  exact hQ _ h1 h2
theorem and_Outlook_foresee_3 {p1 : Int32} {p2 : Int32} {p3 : Int32} {p4 : Int32} {Q1 Q2 Q3 : MM → Prop} (hQ : ∀  (M1 : MM), Q1 M1 → Q2 M1 → Q3 M1) : ∀ (N : Nat) (v5 : Int32) (M : MM), W_Outlook_foresee_3 p1 p2 p3 p4 Q1 N v5 M → W_Outlook_foresee_3 p1 p2 p3 p4 Q2 N v5 M → W_Outlook_foresee_3 p1 p2 p3 p4 Q3 N v5 M := by
  intro N
  induction N with
  | zero => intros; trivial
  | succ N IH =>
    intro v5 M h1 h2
    replace h1 : B_Outlook_foresee_3 p1 p2 p3 p4 Q1 N (W_Outlook_foresee_3 p1 p2 p3 p4 Q1 N) v5 M := h1
    replace h2 : B_Outlook_foresee_3 p1 p2 p3 p4 Q2 N (W_Outlook_foresee_3 p1 p2 p3 p4 Q2 N) v5 M := h2
    show B_Outlook_foresee_3 p1 p2 p3 p4 Q3 N (W_Outlook_foresee_3 p1 p2 p3 p4 Q3 N) v5 M
    unfold B_Outlook_foresee_3 at h1 h2 ⊢
    refine ⟨fun hc => ?_, fun hc => ?_⟩
    · replace h1 := h1.1 hc
      replace h2 := h2.1 hc
      refine ⟨fun hc => ?_, fun hc => ?_⟩
      · replace h1 := h1.1 hc
        replace h2 := h2.1 hc
        refine and_Law_bearing (fun r3 h1 h2 => ?_) h1 h2
        exact IH _ _ h1 h2
      · replace h1 := h1.2 hc
        replace h2 := h2.2 hc
        exact hQ _ h1 h2
    · replace h1 := h1.2 hc
      replace h2 := h2.2 hc
      exact hQ _ h1 h2
theorem and_Outlook_foresee {p1 : Int32} {p2 : Int32} {p3 : Int32} {p4 : Int32} {N : Nat} {M : MM} {Q1 Q2 Q3 : MM → Prop} (hQ : ∀  (M1 : MM), Q1 M1 → Q2 M1 → Q3 M1) (h1 : W_Outlook_foresee p1 p2 p3 p4 N M Q1) (h2 : W_Outlook_foresee p1 p2 p3 p4 N M Q2) : W_Outlook_foresee p1 p2 p3 p4 N M Q3 := by
  unfold W_Outlook_foresee at h1 h2 ⊢
  refine and_Outlook_foresee_3  hQ N _ _ h1 h2
theorem and_Outlook_riskyDays_6 {p1 : Int32} {p2 : Int32} {p3 : Int32} {M : MM} {Q1 Q2 Q3 : Int32 → Prop} (hQ : ∀ (r : Int32), Q1 r → Q2 r → Q3 r) : ∀ (N : Nat) (v4 : Int32) (v5 : Int32), W_Outlook_riskyDays_6 p1 p2 p3 M Q1 N v4 v5 → W_Outlook_riskyDays_6 p1 p2 p3 M Q2 N v4 v5 → W_Outlook_riskyDays_6 p1 p2 p3 M Q3 N v4 v5 := by
  intro N
  induction N with
  | zero => intros; trivial
  | succ N IH =>
    intro v4 v5 h1 h2
    replace h1 : B_Outlook_riskyDays_6 p1 p2 p3 M Q1 N (W_Outlook_riskyDays_6 p1 p2 p3 M Q1 N) v4 v5 := h1
    replace h2 : B_Outlook_riskyDays_6 p1 p2 p3 M Q2 N (W_Outlook_riskyDays_6 p1 p2 p3 M Q2 N) v4 v5 := h2
    show B_Outlook_riskyDays_6 p1 p2 p3 M Q3 N (W_Outlook_riskyDays_6 p1 p2 p3 M Q3 N) v4 v5
    unfold B_Outlook_riskyDays_6 at h1 h2 ⊢
    refine ⟨fun hc => ?_, fun hc => ?_⟩
    · replace h1 := h1.1 hc
      replace h2 := h2.1 hc
      refine ⟨fun hc => ?_, fun hc => ?_⟩
      · replace h1 := h1.1 hc
        replace h2 := h2.1 hc
        refine ⟨fun hc => ?_, fun hc => ?_⟩
        · replace h1 := h1.1 hc
          replace h2 := h2.1 hc
          exact IH _ _ h1 h2
        · replace h1 := h1.2 hc
          replace h2 := h2.2 hc
          refine ⟨fun hc => ?_, fun hc => ?_⟩
          · replace h1 := h1.1 hc
            replace h2 := h2.1 hc
            exact IH _ _ h1 h2
          · replace h1 := h1.2 hc
            replace h2 := h2.2 hc
            exact IH _ _ h1 h2
      · replace h1 := h1.2 hc
        replace h2 := h2.2 hc
        exact hQ _ h1 h2
    · replace h1 := h1.2 hc
      replace h2 := h2.2 hc
      exact hQ _ h1 h2
theorem and_Outlook_riskyDays {p1 : Int32} {p2 : Int32} {p3 : Int32} {N : Nat} {M : MM} {Q1 Q2 Q3 : Int32 → Prop} (hQ : ∀ (r : Int32), Q1 r → Q2 r → Q3 r) (h1 : W_Outlook_riskyDays p1 p2 p3 N M Q1) (h2 : W_Outlook_riskyDays p1 p2 p3 N M Q2) : W_Outlook_riskyDays p1 p2 p3 N M Q3 := by
  unfold W_Outlook_riskyDays at h1 h2 ⊢
  refine and_Outlook_riskyDays_6  hQ N _ _ h1 h2
theorem and_Outlook_riskFrom {p1 : Int32} {p2 : Int32} {p3 : Int32} {N : Nat} {M : MM} {Q1 Q2 Q3 : Int32 → MM → Prop} (hQ : ∀ (r : Int32) (M1 : MM), Q1 r M1 → Q2 r M1 → Q3 r M1) (h1 : W_Outlook_riskFrom p1 p2 p3 N M Q1) (h2 : W_Outlook_riskFrom p1 p2 p3 N M Q2) : W_Outlook_riskFrom p1 p2 p3 N M Q3 := by
  unfold W_Outlook_riskFrom at h1 h2 ⊢
  refine and_Outlook_foresee (fun M2 h1 h2 => ?_) h1 h2
  refine and_World_inForce (fun r3 h1 h2 => ?_) h1 h2
  refine and_Outlook_riskyDays (fun r5 h1 h2 => ?_) h1 h2
  exact hQ _ _ h1 h2
theorem and_Outlook_bestStart_14 {p1 : Int32} {p2 : Int32} {Q1 Q2 Q3 : Int32 → MM → Prop} (hQ : ∀ (r : Int32) (M1 : MM), Q1 r M1 → Q2 r M1 → Q3 r M1) : ∀ (N : Nat) (v3 : Int32) (v4 : Int32) (v5 : Int32) (M : MM), W_Outlook_bestStart_14 p1 p2 Q1 N v3 v4 v5 M → W_Outlook_bestStart_14 p1 p2 Q2 N v3 v4 v5 M → W_Outlook_bestStart_14 p1 p2 Q3 N v3 v4 v5 M := by
  intro N
  induction N with
  | zero => intros; trivial
  | succ N IH =>
    intro v3 v4 v5 M h1 h2
    replace h1 : B_Outlook_bestStart_14 p1 p2 Q1 N (W_Outlook_bestStart_14 p1 p2 Q1 N) v3 v4 v5 M := h1
    replace h2 : B_Outlook_bestStart_14 p1 p2 Q2 N (W_Outlook_bestStart_14 p1 p2 Q2 N) v3 v4 v5 M := h2
    show B_Outlook_bestStart_14 p1 p2 Q3 N (W_Outlook_bestStart_14 p1 p2 Q3 N) v3 v4 v5 M
    unfold B_Outlook_bestStart_14 at h1 h2 ⊢
    refine ⟨fun hc => ?_, fun hc => ?_⟩
    · replace h1 := h1.1 hc
      replace h2 := h2.1 hc
      refine and_Outlook_riskFrom (fun r4 M5 h1 h2 => ?_) h1 h2
      refine ⟨fun hc => ?_, fun hc => ?_⟩
      · replace h1 := h1.1 hc
        replace h2 := h2.1 hc
        exact IH _ _ _ _ h1 h2
      · replace h1 := h1.2 hc
        replace h2 := h2.2 hc
        exact IH _ _ _ _ h1 h2
    · replace h1 := h1.2 hc
      replace h2 := h2.2 hc
      exact hQ _ _ h1 h2
theorem and_Outlook_bestStart {p1 : Int32} {p2 : Int32} {N : Nat} {M : MM} {Q1 Q2 Q3 : Int32 → MM → Prop} (hQ : ∀ (r : Int32) (M1 : MM), Q1 r M1 → Q2 r M1 → Q3 r M1) (h1 : W_Outlook_bestStart p1 p2 N M Q1) (h2 : W_Outlook_bestStart p1 p2 N M Q2) : W_Outlook_bestStart p1 p2 N M Q3 := by
  unfold W_Outlook_bestStart at h1 h2 ⊢
  refine and_Outlook_riskFrom (fun r1 M2 h1 h2 => ?_) h1 h2
  refine and_Outlook_bestStart_14  hQ N _ _ _ _ h1 h2
theorem and_Outlook_findTellingOf_40 {p1 : Int32} {p2 : Int32} {p3 : Int32} {u4 : Int32} {u5 : Int32} {Q1 Q2 Q3 : MM → Prop} (hQ : ∀  (M1 : MM), Q1 M1 → Q2 M1 → Q3 M1) : ∀ (N : Nat) (v6 : Int32) (M : MM), W_Outlook_findTellingOf_40 p1 p2 p3 u4 u5 Q1 N v6 M → W_Outlook_findTellingOf_40 p1 p2 p3 u4 u5 Q2 N v6 M → W_Outlook_findTellingOf_40 p1 p2 p3 u4 u5 Q3 N v6 M := by
  intro N
  induction N with
  | zero => intros; trivial
  | succ N IH =>
    intro v6 M h1 h2
    replace h1 : B_Outlook_findTellingOf_40 p1 p2 p3 u4 u5 Q1 N (W_Outlook_findTellingOf_40 p1 p2 p3 u4 u5 Q1 N) v6 M := h1
    replace h2 : B_Outlook_findTellingOf_40 p1 p2 p3 u4 u5 Q2 N (W_Outlook_findTellingOf_40 p1 p2 p3 u4 u5 Q2 N) v6 M := h2
    show B_Outlook_findTellingOf_40 p1 p2 p3 u4 u5 Q3 N (W_Outlook_findTellingOf_40 p1 p2 p3 u4 u5 Q3 N) v6 M
    unfold B_Outlook_findTellingOf_40 at h1 h2 ⊢
    refine ⟨fun hc => ?_, fun hc => ?_⟩
    · replace h1 := h1.1 hc
      replace h2 := h2.1 hc
      refine ⟨fun hc => ?_, fun hc => ?_⟩
      · replace h1 := h1.1 hc
        replace h2 := h2.1 hc
        refine and_Outlook_riskyDays (fun r7 h1 h2 => ?_) h1 h2
        refine ⟨fun hc => ?_, fun hc => ?_⟩
        · replace h1 := h1.1 hc
          replace h2 := h2.1 hc
          exact IH _ _ h1 h2
        · replace h1 := h1.2 hc
          replace h2 := h2.2 hc
          refine ⟨fun hc => ?_, fun hc => ?_⟩
          · replace h1 := h1.1 hc
            replace h2 := h2.1 hc
            exact IH _ _ h1 h2
          · replace h1 := h1.2 hc
            replace h2 := h2.2 hc
            exact IH _ _ h1 h2
      · replace h1 := h1.2 hc
        replace h2 := h2.2 hc
        exact IH _ _ h1 h2
    · replace h1 := h1.2 hc
      replace h2 := h2.2 hc
      exact hQ _ h1 h2
theorem and_Outlook_findTellingOf {p1 : Int32} {p2 : Int32} {p3 : Int32} {N : Nat} {M : MM} {Q1 Q2 Q3 : MM → Prop} (hQ : ∀  (M1 : MM), Q1 M1 → Q2 M1 → Q3 M1) (h1 : W_Outlook_findTellingOf p1 p2 p3 N M Q1) (h2 : W_Outlook_findTellingOf p1 p2 p3 N M Q2) : W_Outlook_findTellingOf p1 p2 p3 N M Q3 := by
  unfold W_Outlook_findTellingOf at h1 h2 ⊢
  refine and_Outlook_riskFrom (fun r1 M2 h1 h2 => ?_) h1 h2
  refine and_Outlook_foresee (fun M4 h1 h2 => ?_) h1 h2
  refine and_Outlook_findTellingOf_40  hQ N _ _ h1 h2
theorem and_Outlook_findTelling_20 {p1 : Int32} {u2 : Int32} {Q1 Q2 Q3 : MM → Prop} (hQ : ∀  (M1 : MM), Q1 M1 → Q2 M1 → Q3 M1) : ∀ (N : Nat) (v3 : Int32) (M : MM), W_Outlook_findTelling_20 p1 u2 Q1 N v3 M → W_Outlook_findTelling_20 p1 u2 Q2 N v3 M → W_Outlook_findTelling_20 p1 u2 Q3 N v3 M := by
  intro N
  induction N with
  | zero => intros; trivial
  | succ N IH =>
    intro v3 M h1 h2
    replace h1 : B_Outlook_findTelling_20 p1 u2 Q1 N (W_Outlook_findTelling_20 p1 u2 Q1 N) v3 M := h1
    replace h2 : B_Outlook_findTelling_20 p1 u2 Q2 N (W_Outlook_findTelling_20 p1 u2 Q2 N) v3 M := h2
    show B_Outlook_findTelling_20 p1 u2 Q3 N (W_Outlook_findTelling_20 p1 u2 Q3 N) v3 M
    unfold B_Outlook_findTelling_20 at h1 h2 ⊢
    refine ⟨fun hc => ?_, fun hc => ?_⟩
    · replace h1 := h1.1 hc
      replace h2 := h2.1 hc
      refine ⟨fun hc => ?_, fun hc => ?_⟩
      · replace h1 := h1.1 hc
        replace h2 := h2.1 hc
        exact IH _ _ h1 h2
      · replace h1 := h1.2 hc
        replace h2 := h2.2 hc
        refine and_Outlook_findTellingOf (fun M6 h1 h2 => ?_) h1 h2
        exact IH _ _ h1 h2
    · replace h1 := h1.2 hc
      replace h2 := h2.2 hc
      exact hQ _ h1 h2
theorem and_Outlook_findTelling {p1 : Int32} {N : Nat} {M : MM} {Q1 Q2 Q3 : MM → Prop} (hQ : ∀  (M1 : MM), Q1 M1 → Q2 M1 → Q3 M1) (h1 : W_Outlook_findTelling p1 N M Q1) (h2 : W_Outlook_findTelling p1 N M Q2) : W_Outlook_findTelling p1 N M Q3 := by
  unfold W_Outlook_findTelling at h1 h2 ⊢
  refine and_World_inForce (fun r1 h1 h2 => ?_) h1 h2
  refine and_Outlook_findTelling_20  hQ N _ _ h1 h2
theorem and_Reading_addNeed_2 {p1 : Int32} {M : MM} {k27a k27b k27c : Prop} {Q1 Q2 Q3 : MM → Prop} (hk27 : k27a  → k27b  → k27c ) (hQ : ∀  (M1 : MM), Q1 M1 → Q2 M1 → Q3 M1) : ∀ (N : Nat) (v2 : Int32), W_Reading_addNeed_2 p1 M k27a Q1 N v2 → W_Reading_addNeed_2 p1 M k27b Q2 N v2 → W_Reading_addNeed_2 p1 M k27c Q3 N v2 := by
  intro N
  induction N with
  | zero => intros; trivial
  | succ N IH =>
    intro v2 h1 h2
    replace h1 : B_Reading_addNeed_2 p1 M k27a Q1 N (W_Reading_addNeed_2 p1 M k27a Q1 N) v2 := h1
    replace h2 : B_Reading_addNeed_2 p1 M k27b Q2 N (W_Reading_addNeed_2 p1 M k27b Q2 N) v2 := h2
    show B_Reading_addNeed_2 p1 M k27c Q3 N (W_Reading_addNeed_2 p1 M k27c Q3 N) v2
    unfold B_Reading_addNeed_2 at h1 h2 ⊢
    refine ⟨fun hc => ?_, fun hc => ?_⟩
    · replace h1 := h1.1 hc
      replace h2 := h2.1 hc
      refine ⟨fun hc => ?_, fun hc => ?_⟩
      · replace h1 := h1.1 hc
        replace h2 := h2.1 hc
        exact hQ _ h1 h2
      · replace h1 := h1.2 hc
        replace h2 := h2.2 hc
        exact IH _ h1 h2
    · replace h1 := h1.2 hc
      replace h2 := h2.2 hc
      exact hk27  h1 h2
theorem and_Reading_addNeed {p1 : Int32} {N : Nat} {M : MM} {Q1 Q2 Q3 : MM → Prop} (hQ : ∀  (M1 : MM), Q1 M1 → Q2 M1 → Q3 M1) (h1 : W_Reading_addNeed p1 N M Q1) (h2 : W_Reading_addNeed p1 N M Q2) : W_Reading_addNeed p1 N M Q3 := by
  unfold W_Reading_addNeed at h1 h2 ⊢
  refine and_Reading_addNeed_2 (fun h1 h2 => ?_) hQ N _ h1 h2
  · refine ⟨fun hc => ?_, fun hc => ?_⟩
    · replace h1 := h1.1 hc
      replace h2 := h2.1 hc
      exact hQ _ h1 h2
    · replace h1 := h1.2 hc
      replace h2 := h2.2 hc
      exact hQ _ h1 h2
theorem and_Reading_takeRow {p1 : Int32} {p2 : Int32} {p3 : Int32} {N : Nat} {M : MM} {Q1 Q2 Q3 : Int32 → MM → Prop} (hQ : ∀ (r : Int32) (M1 : MM), Q1 r M1 → Q2 r M1 → Q3 r M1) (h1 : W_Reading_takeRow p1 p2 p3 N M Q1) (h2 : W_Reading_takeRow p1 p2 p3 N M Q2) : W_Reading_takeRow p1 p2 p3 N M Q3 := by
  unfold W_Reading_takeRow at h1 h2 ⊢
  refine ⟨fun hc => ?_, fun hc => ?_⟩
  · replace h1 := h1.1 hc
    replace h2 := h2.1 hc
    refine ⟨fun hc => ?_, fun hc => ?_⟩
    · replace h1 := h1.1 hc
      replace h2 := h2.1 hc
      exact hQ _ _ h1 h2
    · replace h1 := h1.2 hc
      replace h2 := h2.2 hc
      refine ⟨fun hc => ?_, fun hc => ?_⟩
      · replace h1 := h1.1 hc
        replace h2 := h2.1 hc
        refine ⟨fun hc => ?_, fun hc => ?_⟩
        · replace h1 := h1.1 hc
          replace h2 := h2.1 hc
          exact hQ _ _ h1 h2
        · replace h1 := h1.2 hc
          replace h2 := h2.2 hc
          refine and_Law_bearing (fun r5 h1 h2 => ?_) h1 h2
          refine ⟨fun hc => ?_, fun hc => ?_⟩
          · replace h1 := h1.1 hc
            replace h2 := h2.1 hc
            exact hQ _ _ h1 h2
          · replace h1 := h1.2 hc
            replace h2 := h2.2 hc
            refine and_Reading_addNeed (fun M9 h1 h2 => ?_) h1 h2
            exact hQ _ _ h1 h2
      · replace h1 := h1.2 hc
        replace h2 := h2.2 hc
        exact hQ _ _ h1 h2
  · replace h1 := h1.2 hc
    replace h2 := h2.2 hc
    exact hQ _ _ h1 h2
theorem and_Reading_takeRows_12  {Q1 Q2 Q3 : Int32 → MM → Prop} (hQ : ∀ (r : Int32) (M1 : MM), Q1 r M1 → Q2 r M1 → Q3 r M1) : ∀ (N : Nat) (v2 : Int32) (M : MM), W_Reading_takeRows_12 Q1 N v2 M → W_Reading_takeRows_12 Q2 N v2 M → W_Reading_takeRows_12 Q3 N v2 M := by
  intro N
  induction N with
  | zero => intros; trivial
  | succ N IH =>
    intro v2 M h1 h2
    replace h1 : B_Reading_takeRows_12 Q1 N (W_Reading_takeRows_12 Q1 N) v2 M := h1
    replace h2 : B_Reading_takeRows_12 Q2 N (W_Reading_takeRows_12 Q2 N) v2 M := h2
    show B_Reading_takeRows_12 Q3 N (W_Reading_takeRows_12 Q3 N) v2 M
    unfold B_Reading_takeRows_12 at h1 h2 ⊢
    refine ⟨fun hc => ?_, fun hc => ?_⟩
    · replace h1 := h1.1 hc
      replace h2 := h2.1 hc
      refine ⟨fun hc => ?_, fun hc => ?_⟩
      · replace h1 := h1.1 hc
        replace h2 := h2.1 hc
        exact hQ _ _ h1 h2
      · replace h1 := h1.2 hc
        replace h2 := h2.2 hc
        refine and_Reading_takeRow (fun r3 M4 h1 h2 => ?_) h1 h2
        refine ⟨fun hc => ?_, fun hc => ?_⟩
        · replace h1 := h1.1 hc
          replace h2 := h2.1 hc
          exact hQ _ _ h1 h2
        · replace h1 := h1.2 hc
          replace h2 := h2.2 hc
          exact IH _ _ h1 h2
    · replace h1 := h1.2 hc
      replace h2 := h2.2 hc
      exact hQ _ _ h1 h2
theorem and_Reading_takeRows  {N : Nat} {M : MM} {Q1 Q2 Q3 : Int32 → MM → Prop} (hQ : ∀ (r : Int32) (M1 : MM), Q1 r M1 → Q2 r M1 → Q3 r M1) (h1 : W_Reading_takeRows  N M Q1) (h2 : W_Reading_takeRows  N M Q2) : W_Reading_takeRows  N M Q3 := by
  unfold W_Reading_takeRows at h1 h2 ⊢
  refine and_Reading_takeRows_12  hQ N _ _ h1 h2
theorem and_Reading_meetsNeeds_2 {p1 : Int32} {M : MM} {Q1 Q2 Q3 : Int32 → Prop} (hQ : ∀ (r : Int32), Q1 r → Q2 r → Q3 r) : ∀ (N : Nat) (v2 : Int32), W_Reading_meetsNeeds_2 p1 M Q1 N v2 → W_Reading_meetsNeeds_2 p1 M Q2 N v2 → W_Reading_meetsNeeds_2 p1 M Q3 N v2 := by
  intro N
  induction N with
  | zero => intros; trivial
  | succ N IH =>
    intro v2 h1 h2
    replace h1 : B_Reading_meetsNeeds_2 p1 M Q1 N (W_Reading_meetsNeeds_2 p1 M Q1 N) v2 := h1
    replace h2 : B_Reading_meetsNeeds_2 p1 M Q2 N (W_Reading_meetsNeeds_2 p1 M Q2 N) v2 := h2
    show B_Reading_meetsNeeds_2 p1 M Q3 N (W_Reading_meetsNeeds_2 p1 M Q3 N) v2
    unfold B_Reading_meetsNeeds_2 at h1 h2 ⊢
    refine ⟨fun hc => ?_, fun hc => ?_⟩
    · replace h1 := h1.1 hc
      replace h2 := h2.1 hc
      refine ⟨fun hc => ?_, fun hc => ?_⟩
      · replace h1 := h1.1 hc
        replace h2 := h2.1 hc
        exact hQ _ h1 h2
      · replace h1 := h1.2 hc
        replace h2 := h2.2 hc
        exact IH _ h1 h2
    · replace h1 := h1.2 hc
      replace h2 := h2.2 hc
      exact hQ _ h1 h2
theorem and_Reading_meetsNeeds {p1 : Int32} {N : Nat} {M : MM} {Q1 Q2 Q3 : Int32 → Prop} (hQ : ∀ (r : Int32), Q1 r → Q2 r → Q3 r) (h1 : W_Reading_meetsNeeds p1 N M Q1) (h2 : W_Reading_meetsNeeds p1 N M Q2) : W_Reading_meetsNeeds p1 N M Q3 := by
  unfold W_Reading_meetsNeeds at h1 h2 ⊢
  refine and_Reading_meetsNeeds_2  hQ N _ h1 h2
theorem and_Reading_findCodes_42 {u1 : Int32} {u2 : Int32} {Q1 Q2 Q3 : MM → Prop} (hQ : ∀  (M1 : MM), Q1 M1 → Q2 M1 → Q3 M1) : ∀ (N : Nat) (v3 : Int32) (M : MM), W_Reading_findCodes_42 u1 u2 Q1 N v3 M → W_Reading_findCodes_42 u1 u2 Q2 N v3 M → W_Reading_findCodes_42 u1 u2 Q3 N v3 M := by
  intro N
  induction N with
  | zero => intros; trivial
  | succ N IH =>
    intro v3 M h1 h2
    replace h1 : B_Reading_findCodes_42 u1 u2 Q1 N (W_Reading_findCodes_42 u1 u2 Q1 N) v3 M := h1
    replace h2 : B_Reading_findCodes_42 u1 u2 Q2 N (W_Reading_findCodes_42 u1 u2 Q2 N) v3 M := h2
    show B_Reading_findCodes_42 u1 u2 Q3 N (W_Reading_findCodes_42 u1 u2 Q3 N) v3 M
    unfold B_Reading_findCodes_42 at h1 h2 ⊢
    refine ⟨fun hc => ?_, fun hc => ?_⟩
    · replace h1 := h1.1 hc
      replace h2 := h2.1 hc
      refine ⟨fun hc => ?_, fun hc => ?_⟩
      · replace h1 := h1.1 hc
        replace h2 := h2.1 hc
        refine and_Reading_meetsNeeds (fun r3 h1 h2 => ?_) h1 h2
        refine ⟨fun hc => ?_, fun hc => ?_⟩
        · replace h1 := h1.1 hc
          replace h2 := h2.1 hc
          exact IH _ _ h1 h2
        · replace h1 := h1.2 hc
          replace h2 := h2.2 hc
          exact IH _ _ h1 h2
      · replace h1 := h1.2 hc
        replace h2 := h2.2 hc
        exact IH _ _ h1 h2
    · replace h1 := h1.2 hc
      replace h2 := h2.2 hc
      refine ⟨fun hc => ?_, fun hc => ?_⟩
      · replace h1 := h1.1 hc
        replace h2 := h2.1 hc
        exact hQ _ h1 h2
      · replace h1 := h1.2 hc
        replace h2 := h2.2 hc
        exact hQ _ h1 h2
theorem and_Reading_findCodes  {N : Nat} {M : MM} {Q1 Q2 Q3 : MM → Prop} (hQ : ∀  (M1 : MM), Q1 M1 → Q2 M1 → Q3 M1) (h1 : W_Reading_findCodes  N M Q1) (h2 : W_Reading_findCodes  N M Q2) : W_Reading_findCodes  N M Q3 := by
  unfold W_Reading_findCodes at h1 h2 ⊢
  refine and_Reading_findCodes_42  hQ N _ _ h1 h2
theorem and_Reading_sumOverSubsets_19 {u1 : Int32} {u2 : Int32} {k53a k53b k53c : MM → Prop} {Q1 Q2 Q3 : MM → Prop} (hk53 : ∀  (M : MM), k53a M → k53b M → k53c M) (hQ : ∀  (M1 : MM), Q1 M1 → Q2 M1 → Q3 M1) : ∀ (N : Nat) (v3 : Int32) (M : MM), W_Reading_sumOverSubsets_19 u1 u2 k53a Q1 N v3 M → W_Reading_sumOverSubsets_19 u1 u2 k53b Q2 N v3 M → W_Reading_sumOverSubsets_19 u1 u2 k53c Q3 N v3 M := by
  intro N
  induction N with
  | zero => intros; trivial
  | succ N IH =>
    intro v3 M h1 h2
    replace h1 : B_Reading_sumOverSubsets_19 u1 u2 k53a Q1 N (W_Reading_sumOverSubsets_19 u1 u2 k53a Q1 N) v3 M := h1
    replace h2 : B_Reading_sumOverSubsets_19 u1 u2 k53b Q2 N (W_Reading_sumOverSubsets_19 u1 u2 k53b Q2 N) v3 M := h2
    show B_Reading_sumOverSubsets_19 u1 u2 k53c Q3 N (W_Reading_sumOverSubsets_19 u1 u2 k53c Q3 N) v3 M
    unfold B_Reading_sumOverSubsets_19 at h1 h2 ⊢
    refine ⟨fun hc => ?_, fun hc => ?_⟩
    · replace h1 := h1.1 hc
      replace h2 := h2.1 hc
      refine ⟨fun hc => ?_, fun hc => ?_⟩
      · replace h1 := h1.1 hc
        replace h2 := h2.1 hc
        exact IH _ _ h1 h2
      · replace h1 := h1.2 hc
        replace h2 := h2.2 hc
        exact IH _ _ h1 h2
    · replace h1 := h1.2 hc
      replace h2 := h2.2 hc
      exact hk53 _ h1 h2
theorem and_Reading_sumOverSubsets_12 {u1 : Int32} {Q1 Q2 Q3 : MM → Prop} (hQ : ∀  (M1 : MM), Q1 M1 → Q2 M1 → Q3 M1) : ∀ (N : Nat) (v2 : Int32) (M : MM), W_Reading_sumOverSubsets_12 u1 Q1 N v2 M → W_Reading_sumOverSubsets_12 u1 Q2 N v2 M → W_Reading_sumOverSubsets_12 u1 Q3 N v2 M := by
  intro N
  induction N with
  | zero => intros; trivial
  | succ N IH =>
    intro v2 M h1 h2
    replace h1 : B_Reading_sumOverSubsets_12 u1 Q1 N (W_Reading_sumOverSubsets_12 u1 Q1 N) v2 M := h1
    replace h2 : B_Reading_sumOverSubsets_12 u1 Q2 N (W_Reading_sumOverSubsets_12 u1 Q2 N) v2 M := h2
    show B_Reading_sumOverSubsets_12 u1 Q3 N (W_Reading_sumOverSubsets_12 u1 Q3 N) v2 M
    unfold B_Reading_sumOverSubsets_12 at h1 h2 ⊢
    refine ⟨fun hc => ?_, fun hc => ?_⟩
    · replace h1 := h1.1 hc
      replace h2 := h2.1 hc
      refine and_Reading_sumOverSubsets_19 (fun M4 h1 h2 => ?_) hQ N _ _ h1 h2
      · exact IH _ _ h1 h2
    · replace h1 := h1.2 hc
      replace h2 := h2.2 hc
      exact hQ _ h1 h2
theorem and_Reading_sumOverSubsets  {N : Nat} {M : MM} {Q1 Q2 Q3 : MM → Prop} (hQ : ∀  (M1 : MM), Q1 M1 → Q2 M1 → Q3 M1) (h1 : W_Reading_sumOverSubsets  N M Q1) (h2 : W_Reading_sumOverSubsets  N M Q2) : W_Reading_sumOverSubsets  N M Q3 := by
  unfold W_Reading_sumOverSubsets at h1 h2 ⊢
  refine and_Reading_sumOverSubsets_12  hQ N _ _ h1 h2
theorem and_Reading_bestSplit_24 {p1 : Int32} {u2 : Int32} {M : MM} {Q1 Q2 Q3 : Int32 → MM → Prop} (hQ : ∀ (r : Int32) (M1 : MM), Q1 r M1 → Q2 r M1 → Q3 r M1) : ∀ (N : Nat) (v3 : Int32) (v4 : Int32) (v5 : Int32), W_Reading_bestSplit_24 p1 u2 M Q1 N v3 v4 v5 → W_Reading_bestSplit_24 p1 u2 M Q2 N v3 v4 v5 → W_Reading_bestSplit_24 p1 u2 M Q3 N v3 v4 v5 := by
  intro N
  induction N with
  | zero => intros; trivial
  | succ N IH =>
    intro v3 v4 v5 h1 h2
    replace h1 : B_Reading_bestSplit_24 p1 u2 M Q1 N (W_Reading_bestSplit_24 p1 u2 M Q1 N) v3 v4 v5 := h1
    replace h2 : B_Reading_bestSplit_24 p1 u2 M Q2 N (W_Reading_bestSplit_24 p1 u2 M Q2 N) v3 v4 v5 := h2
    show B_Reading_bestSplit_24 p1 u2 M Q3 N (W_Reading_bestSplit_24 p1 u2 M Q3 N) v3 v4 v5
    unfold B_Reading_bestSplit_24 at h1 h2 ⊢
    refine ⟨fun hc => ?_, fun hc => ?_⟩
    · replace h1 := h1.1 hc
      replace h2 := h2.1 hc
      refine and_Law_bearing (fun r4 h1 h2 => ?_) h1 h2
      refine ⟨fun hc => ?_, fun hc => ?_⟩
      · replace h1 := h1.1 hc
        replace h2 := h2.1 hc
        exact IH _ _ _ h1 h2
      · replace h1 := h1.2 hc
        replace h2 := h2.2 hc
        refine ⟨fun hc => ?_, fun hc => ?_⟩
        · replace h1 := h1.1 hc
          replace h2 := h2.1 hc
          exact IH _ _ _ h1 h2
        · replace h1 := h1.2 hc
          replace h2 := h2.2 hc
          exact IH _ _ _ h1 h2
    · replace h1 := h1.2 hc
      replace h2 := h2.2 hc
      exact hQ _ _ h1 h2
theorem and_Reading_bestSplit {p1 : Int32} {N : Nat} {M : MM} {Q1 Q2 Q3 : Int32 → MM → Prop} (hQ : ∀ (r : Int32) (M1 : MM), Q1 r M1 → Q2 r M1 → Q3 r M1) (h1 : W_Reading_bestSplit p1 N M Q1) (h2 : W_Reading_bestSplit p1 N M Q2) : W_Reading_bestSplit p1 N M Q3 := by
  unfold W_Reading_bestSplit at h1 h2 ⊢
  refine and_Reading_sumOverSubsets (fun M2 h1 h2 => ?_) h1 h2
  refine and_Reading_bestSplit_24  hQ N _ _ _ h1 h2
theorem and_RepublicReader_readMatter  {N : Nat} {M : MM} {Q1 Q2 Q3 : Int32 → MM → Prop} (hQ : ∀ (r : Int32) (M1 : MM), Q1 r M1 → Q2 r M1 → Q3 r M1) (h1 : W_RepublicReader_readMatter  N M Q1) (h2 : W_RepublicReader_readMatter  N M Q2) : W_RepublicReader_readMatter  N M Q3 := by
  unfold W_RepublicReader_readMatter at h1 h2 ⊢
  refine ⟨fun hc => ?_, fun hc => ?_⟩
  · replace h1 := h1.1 hc
    replace h2 := h2.1 hc
    refine ⟨fun hc => ?_, fun hc => ?_⟩
    · replace h1 := h1.1 hc
      replace h2 := h2.1 hc
      refine ⟨fun hc => ?_, fun hc => ?_⟩
      · replace h1 := h1.1 hc
        replace h2 := h2.1 hc
        refine ⟨fun hc => ?_, fun hc => ?_⟩
        · replace h1 := h1.1 hc
          replace h2 := h2.1 hc
          refine and_Text_goOn (fun M6 h1 h2 => ?_) h1 h2
          exact hQ _ _ h1 h2
        · replace h1 := h1.2 hc
          replace h2 := h2.2 hc
          exact hQ _ _ h1 h2
      · replace h1 := h1.2 hc
        replace h2 := h2.2 hc
        exact hQ _ _ h1 h2
    · replace h1 := h1.2 hc
      replace h2 := h2.2 hc
      exact hQ _ _ h1 h2
  · replace h1 := h1.2 hc
    replace h2 := h2.2 hc
    exact hQ _ _ h1 h2
theorem and_World_addToHabit {a : Nat} {p1 : Int32} {p2 : Int32} {N : Nat} {M : MM} {Q1 Q2 Q3 : MM → Prop} (hQ : ∀  (M1 : MM), Q1 M1 → Q2 M1 → Q3 M1) (h1 : W_World_addToHabit a p1 p2 N M Q1) (h2 : W_World_addToHabit a p1 p2 N M Q2) : W_World_addToHabit a p1 p2 N M Q3 := by
  unfold W_World_addToHabit at h1 h2 ⊢
  refine ⟨fun hc => ?_, fun hc => ?_⟩
  · replace h1 := h1.1 hc
    replace h2 := h2.1 hc
    exact hQ _ h1 h2
  · replace h1 := h1.2 hc
    replace h2 := h2.2 hc
    exact hQ _ h1 h2
theorem and_RepublicReader_readHabit_2 {p1 : Int32} {Q1 Q2 Q3 : Int32 → MM → Prop} (hQ : ∀ (r : Int32) (M1 : MM), Q1 r M1 → Q2 r M1 → Q3 r M1) : ∀ (N : Nat) (v2 : Int32) (M : MM), W_RepublicReader_readHabit_2 p1 Q1 N v2 M → W_RepublicReader_readHabit_2 p1 Q2 N v2 M → W_RepublicReader_readHabit_2 p1 Q3 N v2 M := by
  intro N
  induction N with
  | zero => intros; trivial
  | succ N IH =>
    intro v2 M h1 h2
    replace h1 : B_RepublicReader_readHabit_2 p1 Q1 N (W_RepublicReader_readHabit_2 p1 Q1 N) v2 M := h1
    replace h2 : B_RepublicReader_readHabit_2 p1 Q2 N (W_RepublicReader_readHabit_2 p1 Q2 N) v2 M := h2
    show B_RepublicReader_readHabit_2 p1 Q3 N (W_RepublicReader_readHabit_2 p1 Q3 N) v2 M
    unfold B_RepublicReader_readHabit_2 at h1 h2 ⊢
    refine ⟨fun hc => ?_, fun hc => ?_⟩
    · replace h1 := h1.1 hc
      replace h2 := h2.1 hc
      refine and_RepublicReader_readMatter (fun r2 M3 h1 h2 => ?_) h1 h2
      refine ⟨fun hc => ?_, fun hc => ?_⟩
      · replace h1 := h1.1 hc
        replace h2 := h2.1 hc
        exact hQ _ _ h1 h2
      · replace h1 := h1.2 hc
        replace h2 := h2.2 hc
        refine and_World_addToHabit (fun M6 h1 h2 => ?_) h1 h2
        refine ⟨fun hc => ?_, fun hc => ?_⟩
        · replace h1 := h1.1 hc
          replace h2 := h2.1 hc
          exact IH _ _ h1 h2
        · replace h1 := h1.2 hc
          replace h2 := h2.2 hc
          exact hQ _ _ h1 h2
    · replace h1 := h1.2 hc
      replace h2 := h2.2 hc
      exact hQ _ _ h1 h2
theorem and_RepublicReader_readHabit {p1 : Int32} {N : Nat} {M : MM} {Q1 Q2 Q3 : Int32 → MM → Prop} (hQ : ∀ (r : Int32) (M1 : MM), Q1 r M1 → Q2 r M1 → Q3 r M1) (h1 : W_RepublicReader_readHabit p1 N M Q1) (h2 : W_RepublicReader_readHabit p1 N M Q2) : W_RepublicReader_readHabit p1 N M Q3 := by
  unfold W_RepublicReader_readHabit at h1 h2 ⊢
  refine and_RepublicReader_readHabit_2  hQ N _ _ h1 h2
theorem and_RepublicReader_readKnows_9 {p1 : Int32} {Q1 Q2 Q3 : Int32 → MM → Prop} (hQ : ∀ (r : Int32) (M1 : MM), Q1 r M1 → Q2 r M1 → Q3 r M1) : ∀ (N : Nat) (v2 : Int32) (M : MM), W_RepublicReader_readKnows_9 p1 Q1 N v2 M → W_RepublicReader_readKnows_9 p1 Q2 N v2 M → W_RepublicReader_readKnows_9 p1 Q3 N v2 M := by
  intro N
  induction N with
  | zero => intros; trivial
  | succ N IH =>
    intro v2 M h1 h2
    replace h1 : B_RepublicReader_readKnows_9 p1 Q1 N (W_RepublicReader_readKnows_9 p1 Q1 N) v2 M := h1
    replace h2 : B_RepublicReader_readKnows_9 p1 Q2 N (W_RepublicReader_readKnows_9 p1 Q2 N) v2 M := h2
    show B_RepublicReader_readKnows_9 p1 Q3 N (W_RepublicReader_readKnows_9 p1 Q3 N) v2 M
    unfold B_RepublicReader_readKnows_9 at h1 h2 ⊢
    refine ⟨fun hc => ?_, fun hc => ?_⟩
    · replace h1 := h1.1 hc
      replace h2 := h2.1 hc
      refine and_Text_numberWithin (fun r4 M5 h1 h2 => ?_) h1 h2
      refine ⟨fun hc => ?_, fun hc => ?_⟩
      · replace h1 := h1.1 hc
        replace h2 := h2.1 hc
        exact hQ _ _ h1 h2
      · replace h1 := h1.2 hc
        replace h2 := h2.2 hc
        refine ⟨fun hc => ?_, fun hc => ?_⟩
        · replace h1 := h1.1 hc
          replace h2 := h2.1 hc
          exact IH _ _ h1 h2
        · replace h1 := h1.2 hc
          replace h2 := h2.2 hc
          exact hQ _ _ h1 h2
    · replace h1 := h1.2 hc
      replace h2 := h2.2 hc
      exact hQ _ _ h1 h2
theorem and_RepublicReader_readKnows {p1 : Int32} {N : Nat} {M : MM} {Q1 Q2 Q3 : Int32 → MM → Prop} (hQ : ∀ (r : Int32) (M1 : MM), Q1 r M1 → Q2 r M1 → Q3 r M1) (h1 : W_RepublicReader_readKnows p1 N M Q1) (h2 : W_RepublicReader_readKnows p1 N M Q2) : W_RepublicReader_readKnows p1 N M Q3 := by
  unfold W_RepublicReader_readKnows at h1 h2 ⊢
  refine and_Text_goOn (fun M2 h1 h2 => ?_) h1 h2
  refine and_RepublicReader_readKnows_9  hQ N _ _ h1 h2
theorem and_World_addCitizen {a : Nat} {p1 : Int32} {N : Nat} {M : MM} {Q1 Q2 Q3 : Int32 → MM → Prop} (hQ : ∀ (r : Int32) (M1 : MM), Q1 r M1 → Q2 r M1 → Q3 r M1) (h1 : W_World_addCitizen a p1 N M Q1) (h2 : W_World_addCitizen a p1 N M Q2) : W_World_addCitizen a p1 N M Q3 := by
  unfold W_World_addCitizen at h1 h2 ⊢
  refine ⟨fun hc => ?_, fun hc => ?_⟩
  · replace h1 := h1.1 hc
    replace h2 := h2.1 hc
    exact hQ _ _ h1 h2
  · replace h1 := h1.2 hc
    replace h2 := h2.2 hc
    exact hQ _ _ h1 h2
theorem and_RepublicReader_readCitizen  {N : Nat} {M : MM} {Q1 Q2 Q3 : Int32 → MM → Prop} (hQ : ∀ (r : Int32) (M1 : MM), Q1 r M1 → Q2 r M1 → Q3 r M1) (h1 : W_RepublicReader_readCitizen  N M Q1) (h2 : W_RepublicReader_readCitizen  N M Q2) : W_RepublicReader_readCitizen  N M Q3 := by
  unfold W_RepublicReader_readCitizen at h1 h2 ⊢
  refine ⟨fun hc => ?_, fun hc => ?_⟩
  · replace h1 := h1.1 hc
    replace h2 := h2.1 hc
    refine and_Text_goOn (fun M3 h1 h2 => ?_) h1 h2
    refine and_Text_numberWithin (fun r4 M5 h1 h2 => ?_) h1 h2
    refine ⟨fun hc => ?_, fun hc => ?_⟩
    · replace h1 := h1.1 hc
      replace h2 := h2.1 hc
      exact hQ _ _ h1 h2
    · replace h1 := h1.2 hc
      replace h2 := h2.2 hc
      refine ⟨fun hc => ?_, fun hc => ?_⟩
      · replace h1 := h1.1 hc
        replace h2 := h2.1 hc
        refine and_Text_goOn (fun M9 h1 h2 => ?_) h1 h2
        refine and_World_addCitizen (fun r10 M11 h1 h2 => ?_) h1 h2
        refine ⟨fun hc => ?_, fun hc => ?_⟩
        · replace h1 := h1.1 hc
          replace h2 := h2.1 hc
          exact hQ _ _ h1 h2
        · replace h1 := h1.2 hc
          replace h2 := h2.2 hc
          refine and_RepublicReader_readHabit (fun r13 M14 h1 h2 => ?_) h1 h2
          refine ⟨fun hc => ?_, fun hc => ?_⟩
          · replace h1 := h1.1 hc
            replace h2 := h2.1 hc
            exact hQ _ _ h1 h2
          · replace h1 := h1.2 hc
            replace h2 := h2.2 hc
            refine ⟨fun hc => ?_, fun hc => ?_⟩
            · replace h1 := h1.1 hc
              replace h2 := h2.1 hc
              refine and_RepublicReader_readKnows (fun r17 M18 h1 h2 => ?_) h1 h2
              refine ⟨fun hc => ?_, fun hc => ?_⟩
              · replace h1 := h1.1 hc
                replace h2 := h2.1 hc
                exact hQ _ _ h1 h2
              · replace h1 := h1.2 hc
                replace h2 := h2.2 hc
                exact hQ _ _ h1 h2
            · replace h1 := h1.2 hc
              replace h2 := h2.2 hc
              exact hQ _ _ h1 h2
      · replace h1 := h1.2 hc
        replace h2 := h2.2 hc
        exact hQ _ _ h1 h2
  · replace h1 := h1.2 hc
    replace h2 := h2.2 hc
    exact hQ _ _ h1 h2
theorem and_RepublicReader_readWatch  {N : Nat} {M : MM} {Q1 Q2 Q3 : Int32 → MM → Prop} (hQ : ∀ (r : Int32) (M1 : MM), Q1 r M1 → Q2 r M1 → Q3 r M1) (h1 : W_RepublicReader_readWatch  N M Q1) (h2 : W_RepublicReader_readWatch  N M Q2) : W_RepublicReader_readWatch  N M Q3 := by
  unfold W_RepublicReader_readWatch at h1 h2 ⊢
  refine and_Text_numberWithin (fun r1 M2 h1 h2 => ?_) h1 h2
  refine ⟨fun hc => ?_, fun hc => ?_⟩
  · replace h1 := h1.1 hc
    replace h2 := h2.1 hc
    exact hQ _ _ h1 h2
  · replace h1 := h1.2 hc
    replace h2 := h2.2 hc
    exact hQ _ _ h1 h2
theorem and_RepublicReader_readTerm  {N : Nat} {M : MM} {Q1 Q2 Q3 : Int32 → MM → Prop} (hQ : ∀ (r : Int32) (M1 : MM), Q1 r M1 → Q2 r M1 → Q3 r M1) (h1 : W_RepublicReader_readTerm  N M Q1) (h2 : W_RepublicReader_readTerm  N M Q2) : W_RepublicReader_readTerm  N M Q3 := by
  unfold W_RepublicReader_readTerm at h1 h2 ⊢
  refine and_Text_numberWithin (fun r1 M2 h1 h2 => ?_) h1 h2
  refine ⟨fun hc => ?_, fun hc => ?_⟩
  · replace h1 := h1.1 hc
    replace h2 := h2.1 hc
    exact hQ _ _ h1 h2
  · replace h1 := h1.2 hc
    replace h2 := h2.2 hc
    exact hQ _ _ h1 h2
theorem and_RepublicReader_readHarm  {N : Nat} {M : MM} {Q1 Q2 Q3 : Int32 → MM → Prop} (hQ : ∀ (r : Int32) (M1 : MM), Q1 r M1 → Q2 r M1 → Q3 r M1) (h1 : W_RepublicReader_readHarm  N M Q1) (h2 : W_RepublicReader_readHarm  N M Q2) : W_RepublicReader_readHarm  N M Q3 := by
  unfold W_RepublicReader_readHarm at h1 h2 ⊢
  refine and_Text_numberWithin (fun r1 M2 h1 h2 => ?_) h1 h2
  refine ⟨fun hc => ?_, fun hc => ?_⟩
  · replace h1 := h1.1 hc
    replace h2 := h2.1 hc
    exact hQ _ _ h1 h2
  · replace h1 := h1.2 hc
    replace h2 := h2.2 hc
    refine and_Text_numberWithin (fun r4 M5 h1 h2 => ?_) h1 h2
    refine ⟨fun hc => ?_, fun hc => ?_⟩
    · replace h1 := h1.1 hc
      replace h2 := h2.1 hc
      exact hQ _ _ h1 h2
    · replace h1 := h1.2 hc
      replace h2 := h2.2 hc
      exact hQ _ _ h1 h2
theorem and_RepublicReader_readLiving {p1 : Int32} {p2 : Int32} {N : Nat} {M : MM} {Q1 Q2 Q3 : Int32 → MM → Prop} (hQ : ∀ (r : Int32) (M1 : MM), Q1 r M1 → Q2 r M1 → Q3 r M1) (h1 : W_RepublicReader_readLiving p1 p2 N M Q1) (h2 : W_RepublicReader_readLiving p1 p2 N M Q2) : W_RepublicReader_readLiving p1 p2 N M Q3 := by
  unfold W_RepublicReader_readLiving at h1 h2 ⊢
  refine ⟨fun hc => ?_, fun hc => ?_⟩
  · replace h1 := h1.1 hc
    replace h2 := h2.1 hc
    refine ⟨fun hc => ?_, fun hc => ?_⟩
    · replace h1 := h1.1 hc
      replace h2 := h2.1 hc
      refine ⟨fun hc => ?_, fun hc => ?_⟩
      · replace h1 := h1.1 hc
        replace h2 := h2.1 hc
        exact hQ _ _ h1 h2
      · replace h1 := h1.2 hc
        replace h2 := h2.2 hc
        refine ⟨fun hc => ?_, fun hc => ?_⟩
        · replace h1 := h1.1 hc
          replace h2 := h2.1 hc
          exact hQ _ _ h1 h2
        · replace h1 := h1.2 hc
          replace h2 := h2.2 hc
          refine ⟨fun hc => ?_, fun hc => ?_⟩
          · replace h1 := h1.1 hc
            replace h2 := h2.1 hc
            refine and_Text_goOn (fun M7 h1 h2 => ?_) h1 h2
            exact hQ _ _ h1 h2
          · replace h1 := h1.2 hc
            replace h2 := h2.2 hc
            refine ⟨fun hc => ?_, fun hc => ?_⟩
            · replace h1 := h1.1 hc
              replace h2 := h2.1 hc
              refine and_Text_goOn (fun M10 h1 h2 => ?_) h1 h2
              exact hQ _ _ h1 h2
            · replace h1 := h1.2 hc
              replace h2 := h2.2 hc
              exact hQ _ _ h1 h2
    · replace h1 := h1.2 hc
      replace h2 := h2.2 hc
      exact hQ _ _ h1 h2
  · replace h1 := h1.2 hc
    replace h2 := h2.2 hc
    exact hQ _ _ h1 h2
theorem and_World_marry {a : Nat} {p1 : Int32} {p2 : Int32} {N : Nat} {M : MM} {Q1 Q2 Q3 : MM → Prop} (hQ : ∀  (M1 : MM), Q1 M1 → Q2 M1 → Q3 M1) (h1 : W_World_marry a p1 p2 N M Q1) (h2 : W_World_marry a p1 p2 N M Q2) : W_World_marry a p1 p2 N M Q3 := by
  unfold W_World_marry at h1 h2 ⊢
  exact hQ _ h1 h2
theorem and_RepublicReader_readWed  {N : Nat} {M : MM} {Q1 Q2 Q3 : Int32 → MM → Prop} (hQ : ∀ (r : Int32) (M1 : MM), Q1 r M1 → Q2 r M1 → Q3 r M1) (h1 : W_RepublicReader_readWed  N M Q1) (h2 : W_RepublicReader_readWed  N M Q2) : W_RepublicReader_readWed  N M Q3 := by
  unfold W_RepublicReader_readWed at h1 h2 ⊢
  refine and_RepublicReader_readLiving (fun r1 M2 h1 h2 => ?_) h1 h2
  refine ⟨fun hc => ?_, fun hc => ?_⟩
  · replace h1 := h1.1 hc
    replace h2 := h2.1 hc
    exact hQ _ _ h1 h2
  · replace h1 := h1.2 hc
    replace h2 := h2.2 hc
    refine and_RepublicReader_readLiving (fun r4 M5 h1 h2 => ?_) h1 h2
    refine ⟨fun hc => ?_, fun hc => ?_⟩
    · replace h1 := h1.1 hc
      replace h2 := h2.1 hc
      exact hQ _ _ h1 h2
    · replace h1 := h1.2 hc
      replace h2 := h2.2 hc
      refine and_World_marry (fun M8 h1 h2 => ?_) h1 h2
      exact hQ _ _ h1 h2
theorem and_RepublicReader_readSeen  {N : Nat} {M : MM} {Q1 Q2 Q3 : Int32 → MM → Prop} (hQ : ∀ (r : Int32) (M1 : MM), Q1 r M1 → Q2 r M1 → Q3 r M1) (h1 : W_RepublicReader_readSeen  N M Q1) (h2 : W_RepublicReader_readSeen  N M Q2) : W_RepublicReader_readSeen  N M Q3 := by
  unfold W_RepublicReader_readSeen at h1 h2 ⊢
  refine and_RepublicReader_readLiving (fun r1 M2 h1 h2 => ?_) h1 h2
  refine ⟨fun hc => ?_, fun hc => ?_⟩
  · replace h1 := h1.1 hc
    replace h2 := h2.1 hc
    exact hQ _ _ h1 h2
  · replace h1 := h1.2 hc
    replace h2 := h2.2 hc
    refine and_RepublicReader_readMatter (fun r4 M5 h1 h2 => ?_) h1 h2
    refine ⟨fun hc => ?_, fun hc => ?_⟩
    · replace h1 := h1.1 hc
      replace h2 := h2.1 hc
      exact hQ _ _ h1 h2
    · replace h1 := h1.2 hc
      replace h2 := h2.2 hc
      exact hQ _ _ h1 h2
theorem and_RepublicReader_readLine  {N : Nat} {M : MM} {Q1 Q2 Q3 : Int32 → MM → Prop} (hQ : ∀ (r : Int32) (M1 : MM), Q1 r M1 → Q2 r M1 → Q3 r M1) (h1 : W_RepublicReader_readLine  N M Q1) (h2 : W_RepublicReader_readLine  N M Q2) : W_RepublicReader_readLine  N M Q3 := by
  unfold W_RepublicReader_readLine at h1 h2 ⊢
  refine ⟨fun hc => ?_, fun hc => ?_⟩
  · replace h1 := h1.1 hc
    replace h2 := h2.1 hc
    refine ⟨fun hc => ?_, fun hc => ?_⟩
    · replace h1 := h1.1 hc
      replace h2 := h2.1 hc
      refine ⟨fun hc => ?_, fun hc => ?_⟩
      · replace h1 := h1.1 hc
        replace h2 := h2.1 hc
        exact hQ _ _ h1 h2
      · replace h1 := h1.2 hc
        replace h2 := h2.2 hc
        refine ⟨fun hc => ?_, fun hc => ?_⟩
        · replace h1 := h1.1 hc
          replace h2 := h2.1 hc
          exact hQ _ _ h1 h2
        · replace h1 := h1.2 hc
          replace h2 := h2.2 hc
          refine ⟨fun hc => ?_, fun hc => ?_⟩
          · replace h1 := h1.1 hc
            replace h2 := h2.1 hc
            exact hQ _ _ h1 h2
          · replace h1 := h1.2 hc
            replace h2 := h2.2 hc
            refine ⟨fun hc => ?_, fun hc => ?_⟩
            · replace h1 := h1.1 hc
              replace h2 := h2.1 hc
              exact hQ _ _ h1 h2
            · replace h1 := h1.2 hc
              replace h2 := h2.2 hc
              refine ⟨fun hc => ?_, fun hc => ?_⟩
              · replace h1 := h1.1 hc
                replace h2 := h2.1 hc
                exact hQ _ _ h1 h2
              · replace h1 := h1.2 hc
                replace h2 := h2.2 hc
                refine and_Text_goOn (fun M9 h1 h2 => ?_) h1 h2
                refine ⟨?_, ?_, ?_, ?_, ?_, ?_⟩
                · intro hc
                  replace h1 := h1.1 hc
                  replace h2 := h2.1 hc
                  refine and_RepublicReader_readCitizen (fun r13 M14 h1 h2 => ?_) h1 h2
                  exact hQ _ _ h1 h2
                · intro hc
                  replace h1 := h1.2.1 hc
                  replace h2 := h2.2.1 hc
                  refine and_RepublicReader_readWatch (fun r15 M16 h1 h2 => ?_) h1 h2
                  exact hQ _ _ h1 h2
                · intro hc
                  replace h1 := h1.2.2.1 hc
                  replace h2 := h2.2.2.1 hc
                  refine and_RepublicReader_readTerm (fun r17 M18 h1 h2 => ?_) h1 h2
                  exact hQ _ _ h1 h2
                · intro hc
                  replace h1 := h1.2.2.2.1 hc
                  replace h2 := h2.2.2.2.1 hc
                  refine and_RepublicReader_readHarm (fun r19 M20 h1 h2 => ?_) h1 h2
                  exact hQ _ _ h1 h2
                · intro hc
                  replace h1 := h1.2.2.2.2.1 hc
                  replace h2 := h2.2.2.2.2.1 hc
                  refine and_RepublicReader_readWed (fun r21 M22 h1 h2 => ?_) h1 h2
                  exact hQ _ _ h1 h2
                · intro hc0 hc1 hc2 hc3 hc4
                  replace h1 := h1.2.2.2.2.2 hc0 hc1 hc2 hc3 hc4
                  replace h2 := h2.2.2.2.2.2 hc0 hc1 hc2 hc3 hc4
                  refine and_RepublicReader_readSeen (fun r11 M12 h1 h2 => ?_) h1 h2
                  exact hQ _ _ h1 h2
    · replace h1 := h1.2 hc
      replace h2 := h2.2 hc
      exact hQ _ _ h1 h2
  · replace h1 := h1.2 hc
    replace h2 := h2.2 hc
    refine ⟨fun hc => ?_, fun hc => ?_⟩
    · replace h1 := h1.1 hc
      replace h2 := h2.1 hc
      exact hQ _ _ h1 h2
    · replace h1 := h1.2 hc
      replace h2 := h2.2 hc
      refine ⟨fun hc => ?_, fun hc => ?_⟩
      · replace h1 := h1.1 hc
        replace h2 := h2.1 hc
        exact hQ _ _ h1 h2
      · replace h1 := h1.2 hc
        replace h2 := h2.2 hc
        refine ⟨fun hc => ?_, fun hc => ?_⟩
        · replace h1 := h1.1 hc
          replace h2 := h2.1 hc
          exact hQ _ _ h1 h2
        · replace h1 := h1.2 hc
          replace h2 := h2.2 hc
          refine ⟨fun hc => ?_, fun hc => ?_⟩
          · replace h1 := h1.1 hc
            replace h2 := h2.1 hc
            exact hQ _ _ h1 h2
          · replace h1 := h1.2 hc
            replace h2 := h2.2 hc
            refine ⟨fun hc => ?_, fun hc => ?_⟩
            · replace h1 := h1.1 hc
              replace h2 := h2.1 hc
              exact hQ _ _ h1 h2
            · replace h1 := h1.2 hc
              replace h2 := h2.2 hc
              refine and_Text_goOn (fun M29 h1 h2 => ?_) h1 h2
              refine ⟨?_, ?_, ?_, ?_, ?_, ?_⟩
              · intro hc
                replace h1 := h1.1 hc
                replace h2 := h2.1 hc
                refine and_RepublicReader_readCitizen (fun r33 M34 h1 h2 => ?_) h1 h2
                exact hQ _ _ h1 h2
              · intro hc
                replace h1 := h1.2.1 hc
                replace h2 := h2.2.1 hc
                refine and_RepublicReader_readWatch (fun r35 M36 h1 h2 => ?_) h1 h2
                exact hQ _ _ h1 h2
              · intro hc
                replace h1 := h1.2.2.1 hc
                replace h2 := h2.2.2.1 hc
                refine and_RepublicReader_readTerm (fun r37 M38 h1 h2 => ?_) h1 h2
                exact hQ _ _ h1 h2
              · intro hc
                replace h1 := h1.2.2.2.1 hc
                replace h2 := h2.2.2.2.1 hc
                refine and_RepublicReader_readHarm (fun r39 M40 h1 h2 => ?_) h1 h2
                exact hQ _ _ h1 h2
              · intro hc
                replace h1 := h1.2.2.2.2.1 hc
                replace h2 := h2.2.2.2.2.1 hc
                refine and_RepublicReader_readWed (fun r41 M42 h1 h2 => ?_) h1 h2
                exact hQ _ _ h1 h2
              · intro hc0 hc1 hc2 hc3 hc4
                replace h1 := h1.2.2.2.2.2 hc0 hc1 hc2 hc3 hc4
                replace h2 := h2.2.2.2.2.2 hc0 hc1 hc2 hc3 hc4
                refine and_RepublicReader_readSeen (fun r31 M32 h1 h2 => ?_) h1 h2
                exact hQ _ _ h1 h2
theorem and_RepublicReader_readAll_16  {Q1 Q2 Q3 : Int32 → MM → Prop} (hQ : ∀ (r : Int32) (M1 : MM), Q1 r M1 → Q2 r M1 → Q3 r M1) : ∀ (N : Nat) (v1 : Int32) (M : MM), W_RepublicReader_readAll_16 Q1 N v1 M → W_RepublicReader_readAll_16 Q2 N v1 M → W_RepublicReader_readAll_16 Q3 N v1 M := by
  intro N
  induction N with
  | zero => intros; trivial
  | succ N IH =>
    intro v1 M h1 h2
    replace h1 : B_RepublicReader_readAll_16 Q1 N (W_RepublicReader_readAll_16 Q1 N) v1 M := h1
    replace h2 : B_RepublicReader_readAll_16 Q2 N (W_RepublicReader_readAll_16 Q2 N) v1 M := h2
    show B_RepublicReader_readAll_16 Q3 N (W_RepublicReader_readAll_16 Q3 N) v1 M
    unfold B_RepublicReader_readAll_16 at h1 h2 ⊢
    refine ⟨fun hc => ?_, fun hc => ?_⟩
    · replace h1 := h1.1 hc
      replace h2 := h2.1 hc
      refine and_RepublicReader_readLine (fun r3 M4 h1 h2 => ?_) h1 h2
      refine ⟨fun hc => ?_, fun hc => ?_⟩
      · replace h1 := h1.1 hc
        replace h2 := h2.1 hc
        exact hQ _ _ h1 h2
      · replace h1 := h1.2 hc
        replace h2 := h2.2 hc
        refine ⟨fun hc => ?_, fun hc => ?_⟩
        · replace h1 := h1.1 hc
          replace h2 := h2.1 hc
          exact hQ _ _ h1 h2
        · replace h1 := h1.2 hc
          replace h2 := h2.2 hc
          refine ⟨fun hc => ?_, fun hc => ?_⟩
          · replace h1 := h1.1 hc
            replace h2 := h2.1 hc
            refine and_Text_goOn (fun M9 h1 h2 => ?_) h1 h2
            exact IH _ _ h1 h2
          · replace h1 := h1.2 hc
            replace h2 := h2.2 hc
            exact hQ _ _ h1 h2
    · replace h1 := h1.2 hc
      replace h2 := h2.2 hc
      exact hQ _ _ h1 h2
theorem and_RepublicReader_readAll  {N : Nat} {M : MM} {Q1 Q2 Q3 : Int32 → MM → Prop} (hQ : ∀ (r : Int32) (M1 : MM), Q1 r M1 → Q2 r M1 → Q3 r M1) (h1 : W_RepublicReader_readAll  N M Q1) (h2 : W_RepublicReader_readAll  N M Q2) : W_RepublicReader_readAll  N M Q3 := by
  unfold W_RepublicReader_readAll at h1 h2 ⊢
  refine ⟨fun hc => ?_, fun hc => ?_⟩
  · replace h1 := h1.1 hc
    replace h2 := h2.1 hc
    exact hQ _ _ h1 h2
  · replace h1 := h1.2 hc
    replace h2 := h2.2 hc
    refine and_RepublicReader_readAll_16  hQ N _ _ h1 h2
