/-! TWO ENDS AT ONCE (gw.py) -/
theorem and_Tape_add_18 {p1 : Int32} {Q1 Q2 Q3 : MM → Prop} (hQ : ∀  (M1 : MM), Q1 M1 → Q2 M1 → Q3 M1) : ∀ (N : Nat) (v2 : Int32) (M : MM), W_Tape_add_18 p1 Q1 N v2 M → W_Tape_add_18 p1 Q2 N v2 M → W_Tape_add_18 p1 Q3 N v2 M := by
  intro N
  induction N with
  | zero => intros; trivial
  | succ N IH =>
    intro v2 M h1 h2
    replace h1 : B_Tape_add_18 p1 Q1 N (W_Tape_add_18 p1 Q1 N) v2 M := h1
    replace h2 : B_Tape_add_18 p1 Q2 N (W_Tape_add_18 p1 Q2 N) v2 M := h2
    show B_Tape_add_18 p1 Q3 N (W_Tape_add_18 p1 Q3 N) v2 M
    unfold B_Tape_add_18 at h1 h2 ⊢
    refine ⟨fun hc => ?_, fun hc => ?_⟩
    · replace h1 := h1.1 hc
      replace h2 := h2.1 hc
      exact hQ _ h1 h2
    · replace h1 := h1.2 hc
      replace h2 := h2.2 hc
      exact IH _ _ h1 h2
theorem and_Tape_add {p1 : Int32} {N : Nat} {M : MM} {Q1 Q2 Q3 : MM → Prop} (hQ : ∀  (M1 : MM), Q1 M1 → Q2 M1 → Q3 M1) (h1 : W_Tape_add p1 N M Q1) (h2 : W_Tape_add p1 N M Q2) : W_Tape_add p1 N M Q3 := by
  unfold W_Tape_add at h1 h2 ⊢
  refine ⟨fun hc => ?_, fun hc => ?_⟩
  · replace h1 := h1.1 hc
    replace h2 := h2.1 hc
    exact hQ _ h1 h2
  · replace h1 := h1.2 hc
    replace h2 := h2.2 hc
    refine and_Tape_add_18  hQ N _ _ h1 h2
theorem and_Text_put {p1 : Int32} {p2 : Int32} {p3 : Int32} {p4 : Int32} {N : Nat} {M : MM} {Q1 Q2 Q3 : MM → Prop} (hQ : ∀  (M1 : MM), Q1 M1 → Q2 M1 → Q3 M1) (h1 : W_Text_put p1 p2 p3 p4 N M Q1) (h2 : W_Text_put p1 p2 p3 p4 N M Q2) : W_Text_put p1 p2 p3 p4 N M Q3 := by
  unfold W_Text_put at h1 h2 ⊢
  refine ⟨fun hc => ?_, fun hc => ?_⟩
  · replace h1 := h1.1 hc
    replace h2 := h2.1 hc
    exact hQ _ h1 h2
  · replace h1 := h1.2 hc
    replace h2 := h2.2 hc
    exact hQ _ h1 h2
theorem and_Text_endOfWord_4 {p1 : Int32} {M : MM} {Q1 Q2 Q3 : Int32 → Prop} (hQ : ∀ (r : Int32), Q1 r → Q2 r → Q3 r) : ∀ (N : Nat) (v2 : Int32), W_Text_endOfWord_4 p1 M Q1 N v2 → W_Text_endOfWord_4 p1 M Q2 N v2 → W_Text_endOfWord_4 p1 M Q3 N v2 := by
  intro N
  induction N with
  | zero => intros; trivial
  | succ N IH =>
    intro v2 h1 h2
    replace h1 : B_Text_endOfWord_4 p1 M Q1 N (W_Text_endOfWord_4 p1 M Q1 N) v2 := h1
    replace h2 : B_Text_endOfWord_4 p1 M Q2 N (W_Text_endOfWord_4 p1 M Q2 N) v2 := h2
    show B_Text_endOfWord_4 p1 M Q3 N (W_Text_endOfWord_4 p1 M Q3 N) v2
    unfold B_Text_endOfWord_4 at h1 h2 ⊢
    refine ⟨fun hc => ?_, fun hc => ?_⟩
    · replace h1 := h1.1 hc
      replace h2 := h2.1 hc
      refine ⟨fun hc => ?_, fun hc => ?_⟩
      · replace h1 := h1.1 hc
        replace h2 := h2.1 hc
        exact hQ _ h1 h2
      · replace h1 := h1.2 hc
        replace h2 := h2.2 hc
        exact IH _ h1 h2
    · replace h1 := h1.2 hc
      replace h2 := h2.2 hc
      exact hQ _ h1 h2
theorem and_Text_endOfWord {p1 : Int32} {N : Nat} {M : MM} {Q1 Q2 Q3 : Int32 → Prop} (hQ : ∀ (r : Int32), Q1 r → Q2 r → Q3 r) (h1 : W_Text_endOfWord p1 N M Q1) (h2 : W_Text_endOfWord p1 N M Q2) : W_Text_endOfWord p1 N M Q3 := by
  unfold W_Text_endOfWord at h1 h2 ⊢
  refine and_Text_endOfWord_4  hQ N _ h1 h2
theorem and_Text_endOfNumber_4 {p1 : Int32} {M : MM} {Q1 Q2 Q3 : Int32 → Prop} (hQ : ∀ (r : Int32), Q1 r → Q2 r → Q3 r) : ∀ (N : Nat) (v2 : Int32), W_Text_endOfNumber_4 p1 M Q1 N v2 → W_Text_endOfNumber_4 p1 M Q2 N v2 → W_Text_endOfNumber_4 p1 M Q3 N v2 := by
  intro N
  induction N with
  | zero => intros; trivial
  | succ N IH =>
    intro v2 h1 h2
    replace h1 : B_Text_endOfNumber_4 p1 M Q1 N (W_Text_endOfNumber_4 p1 M Q1 N) v2 := h1
    replace h2 : B_Text_endOfNumber_4 p1 M Q2 N (W_Text_endOfNumber_4 p1 M Q2 N) v2 := h2
    show B_Text_endOfNumber_4 p1 M Q3 N (W_Text_endOfNumber_4 p1 M Q3 N) v2
    unfold B_Text_endOfNumber_4 at h1 h2 ⊢
    refine ⟨fun hc => ?_, fun hc => ?_⟩
    · replace h1 := h1.1 hc
      replace h2 := h2.1 hc
      refine ⟨fun hc => ?_, fun hc => ?_⟩
      · replace h1 := h1.1 hc
        replace h2 := h2.1 hc
        exact hQ _ h1 h2
      · replace h1 := h1.2 hc
        replace h2 := h2.2 hc
        exact IH _ h1 h2
    · replace h1 := h1.2 hc
      replace h2 := h2.2 hc
      exact hQ _ h1 h2
theorem and_Text_endOfNumber {p1 : Int32} {N : Nat} {M : MM} {Q1 Q2 Q3 : Int32 → Prop} (hQ : ∀ (r : Int32), Q1 r → Q2 r → Q3 r) (h1 : W_Text_endOfNumber p1 N M Q1) (h2 : W_Text_endOfNumber p1 N M Q2) : W_Text_endOfNumber p1 N M Q3 := by
  unfold W_Text_endOfNumber at h1 h2 ⊢
  refine and_Text_endOfNumber_4  hQ N _ h1 h2
theorem and_Text_valueOf_16 {p1 : Int32} {p2 : Int32} {M : MM} {Q1 Q2 Q3 : Int32 → Prop} (hQ : ∀ (r : Int32), Q1 r → Q2 r → Q3 r) : ∀ (N : Nat) (v3 : Int32) (v4 : Int32), W_Text_valueOf_16 p1 p2 M Q1 N v3 v4 → W_Text_valueOf_16 p1 p2 M Q2 N v3 v4 → W_Text_valueOf_16 p1 p2 M Q3 N v3 v4 := by
  intro N
  induction N with
  | zero => intros; trivial
  | succ N IH =>
    intro v3 v4 h1 h2
    replace h1 : B_Text_valueOf_16 p1 p2 M Q1 N (W_Text_valueOf_16 p1 p2 M Q1 N) v3 v4 := h1
    replace h2 : B_Text_valueOf_16 p1 p2 M Q2 N (W_Text_valueOf_16 p1 p2 M Q2 N) v3 v4 := h2
    show B_Text_valueOf_16 p1 p2 M Q3 N (W_Text_valueOf_16 p1 p2 M Q3 N) v3 v4
    unfold B_Text_valueOf_16 at h1 h2 ⊢
    refine ⟨fun hc => ?_, fun hc => ?_⟩
    · replace h1 := h1.1 hc
      replace h2 := h2.1 hc
      exact IH _ _ h1 h2
    · replace h1 := h1.2 hc
      replace h2 := h2.2 hc
      exact hQ _ h1 h2
theorem and_Text_valueOf {p1 : Int32} {p2 : Int32} {N : Nat} {M : MM} {Q1 Q2 Q3 : Int32 → Prop} (hQ : ∀ (r : Int32), Q1 r → Q2 r → Q3 r) (h1 : W_Text_valueOf p1 p2 N M Q1) (h2 : W_Text_valueOf p1 p2 N M Q2) : W_Text_valueOf p1 p2 N M Q3 := by
  unfold W_Text_valueOf at h1 h2 ⊢
  refine ⟨fun hc => ?_, fun hc => ?_⟩
  · replace h1 := h1.1 hc
    replace h2 := h2.1 hc
    exact hQ _ h1 h2
  · replace h1 := h1.2 hc
    replace h2 := h2.2 hc
    refine and_Text_valueOf_16  hQ N _ _ h1 h2
theorem and_Text_wordNumber_11 {p1 : Int32} {p2 : Int32} {M : MM} {Q1 Q2 Q3 : Int32 → Prop} (hQ : ∀ (r : Int32), Q1 r → Q2 r → Q3 r) : ∀ (N : Nat) (v3 : Int32) (v4 : Int32) (v5 : Int32) (v6 : Int32), W_Text_wordNumber_11 p1 p2 M Q1 N v3 v4 v5 v6 → W_Text_wordNumber_11 p1 p2 M Q2 N v3 v4 v5 v6 → W_Text_wordNumber_11 p1 p2 M Q3 N v3 v4 v5 v6 := by
  intro N
  induction N with
  | zero => intros; trivial
  | succ N IH =>
    intro v3 v4 v5 v6 h1 h2
    replace h1 : B_Text_wordNumber_11 p1 p2 M Q1 N (W_Text_wordNumber_11 p1 p2 M Q1 N) v3 v4 v5 v6 := h1
    replace h2 : B_Text_wordNumber_11 p1 p2 M Q2 N (W_Text_wordNumber_11 p1 p2 M Q2 N) v3 v4 v5 v6 := h2
    show B_Text_wordNumber_11 p1 p2 M Q3 N (W_Text_wordNumber_11 p1 p2 M Q3 N) v3 v4 v5 v6
    unfold B_Text_wordNumber_11 at h1 h2 ⊢
    refine ⟨fun hc => ?_, fun hc => ?_⟩
    · replace h1 := h1.1 hc
      replace h2 := h2.1 hc
      refine ⟨fun hc => ?_, fun hc => ?_⟩
      · replace h1 := h1.1 hc
        replace h2 := h2.1 hc
        refine ⟨fun hc => ?_, fun hc => ?_⟩
        · replace h1 := h1.1 hc
          replace h2 := h2.1 hc
          exact IH _ _ _ _ h1 h2
        · replace h1 := h1.2 hc
          replace h2 := h2.2 hc
          refine ⟨fun hc => ?_, fun hc => ?_⟩
          · replace h1 := h1.1 hc
            replace h2 := h2.1 hc
            exact hQ _ h1 h2
          · replace h1 := h1.2 hc
            replace h2 := h2.2 hc
            exact IH _ _ _ _ h1 h2
      · replace h1 := h1.2 hc
        replace h2 := h2.2 hc
        refine ⟨fun hc => ?_, fun hc => ?_⟩
        · replace h1 := h1.1 hc
          replace h2 := h2.1 hc
          exact IH _ _ _ _ h1 h2
        · replace h1 := h1.2 hc
          replace h2 := h2.2 hc
          refine ⟨fun hc => ?_, fun hc => ?_⟩
          · replace h1 := h1.1 hc
            replace h2 := h2.1 hc
            refine ⟨fun hc => ?_, fun hc => ?_⟩
            · replace h1 := h1.1 hc
              replace h2 := h2.1 hc
              exact IH _ _ _ _ h1 h2
            · replace h1 := h1.2 hc
              replace h2 := h2.2 hc
              exact IH _ _ _ _ h1 h2
          · replace h1 := h1.2 hc
            replace h2 := h2.2 hc
            exact IH _ _ _ _ h1 h2
    · replace h1 := h1.2 hc
      replace h2 := h2.2 hc
      exact hQ _ h1 h2
theorem and_Text_wordNumber {p1 : Int32} {p2 : Int32} {N : Nat} {M : MM} {Q1 Q2 Q3 : Int32 → Prop} (hQ : ∀ (r : Int32), Q1 r → Q2 r → Q3 r) (h1 : W_Text_wordNumber p1 p2 N M Q1) (h2 : W_Text_wordNumber p1 p2 N M Q2) : W_Text_wordNumber p1 p2 N M Q3 := by
  unfold W_Text_wordNumber at h1 h2 ⊢
  refine and_Text_wordNumber_11  hQ N _ _ _ _ h1 h2
theorem and_Text_split_12  {Q1 Q2 Q3 : MM → Prop} (hQ : ∀  (M1 : MM), Q1 M1 → Q2 M1 → Q3 M1) : ∀ (N : Nat) (v2 : Int32) (M : MM), W_Text_split_12 Q1 N v2 M → W_Text_split_12 Q2 N v2 M → W_Text_split_12 Q3 N v2 M := by
  intro N
  induction N with
  | zero => intros; trivial
  | succ N IH =>
    intro v2 M h1 h2
    replace h1 : B_Text_split_12 Q1 N (W_Text_split_12 Q1 N) v2 M := h1
    replace h2 : B_Text_split_12 Q2 N (W_Text_split_12 Q2 N) v2 M := h2
    show B_Text_split_12 Q3 N (W_Text_split_12 Q3 N) v2 M
    unfold B_Text_split_12 at h1 h2 ⊢
    refine ⟨fun hc => ?_, fun hc => ?_⟩
    · replace h1 := h1.1 hc
      replace h2 := h2.1 hc
      refine ⟨fun hc => ?_, fun hc => ?_⟩
      · replace h1 := h1.1 hc
        replace h2 := h2.1 hc
        refine ⟨fun hc => ?_, fun hc => ?_⟩
        · replace h1 := h1.1 hc
          replace h2 := h2.1 hc
          refine ⟨fun hc => ?_, fun hc => ?_⟩
          · replace h1 := h1.1 hc
            replace h2 := h2.1 hc
            exact IH _ _ h1 h2
          · replace h1 := h1.2 hc
            replace h2 := h2.2 hc
            refine and_Text_put (fun M6 h1 h2 => ?_) h1 h2
            exact IH _ _ h1 h2
        · replace h1 := h1.2 hc
          replace h2 := h2.2 hc
          refine ⟨fun hc => ?_, fun hc => ?_⟩
          · replace h1 := h1.1 hc
            replace h2 := h2.1 hc
            refine and_Text_endOfNumber (fun r8 h1 h2 => ?_) h1 h2
            refine and_Text_valueOf (fun r10 h1 h2 => ?_) h1 h2
            refine and_Text_put (fun M13 h1 h2 => ?_) h1 h2
            exact IH _ _ h1 h2
          · replace h1 := h1.2 hc
            replace h2 := h2.2 hc
            exact IH _ _ h1 h2
      · replace h1 := h1.2 hc
        replace h2 := h2.2 hc
        refine ⟨fun hc => ?_, fun hc => ?_⟩
        · replace h1 := h1.1 hc
          replace h2 := h2.1 hc
          refine and_Text_endOfWord (fun r15 h1 h2 => ?_) h1 h2
          refine and_Text_wordNumber (fun r17 h1 h2 => ?_) h1 h2
          refine and_Text_put (fun M20 h1 h2 => ?_) h1 h2
          exact IH _ _ h1 h2
        · replace h1 := h1.2 hc
          replace h2 := h2.2 hc
          exact IH _ _ h1 h2
    · replace h1 := h1.2 hc
      replace h2 := h2.2 hc
      refine and_Text_put (fun M22 h1 h2 => ?_) h1 h2
      exact hQ _ h1 h2
theorem and_Text_split  {N : Nat} {M : MM} {Q1 Q2 Q3 : MM → Prop} (hQ : ∀  (M1 : MM), Q1 M1 → Q2 M1 → Q3 M1) (h1 : W_Text_split  N M Q1) (h2 : W_Text_split  N M Q2) : W_Text_split  N M Q3 := by
  unfold W_Text_split at h1 h2 ⊢
  refine and_Text_split_12  hQ N _ _ h1 h2
theorem and_World_bear_18 {a : Nat} {p1 : Int32} {u2 : Int32} {Q1 Q2 Q3 : Int32 → MM → Prop} (hQ : ∀ (r : Int32) (M1 : MM), Q1 r M1 → Q2 r M1 → Q3 r M1) : ∀ (N : Nat) (v3 : Int32) (M : MM), W_World_bear_18 a p1 u2 Q1 N v3 M → W_World_bear_18 a p1 u2 Q2 N v3 M → W_World_bear_18 a p1 u2 Q3 N v3 M := by
  intro N
  induction N with
  | zero => intros; trivial
  | succ N IH =>
    intro v3 M h1 h2
    replace h1 : B_World_bear_18 a p1 u2 Q1 N (W_World_bear_18 a p1 u2 Q1 N) v3 M := h1
    replace h2 : B_World_bear_18 a p1 u2 Q2 N (W_World_bear_18 a p1 u2 Q2 N) v3 M := h2
    show B_World_bear_18 a p1 u2 Q3 N (W_World_bear_18 a p1 u2 Q3 N) v3 M
    unfold B_World_bear_18 at h1 h2 ⊢
    refine ⟨fun hc => ?_, fun hc => ?_⟩
    · replace h1 := h1.1 hc
      replace h2 := h2.1 hc
      refine and_World_addToHabit (fun M6 h1 h2 => ?_) h1 h2
      exact IH _ _ h1 h2
    · replace h1 := h1.2 hc
      replace h2 := h2.2 hc
      exact hQ _ _ h1 h2
theorem and_World_bear {a : Nat} {p1 : Int32} {N : Nat} {M : MM} {Q1 Q2 Q3 : Int32 → MM → Prop} (hQ : ∀ (r : Int32) (M1 : MM), Q1 r M1 → Q2 r M1 → Q3 r M1) (h1 : W_World_bear a p1 N M Q1) (h2 : W_World_bear a p1 N M Q2) : W_World_bear a p1 N M Q3 := by
  unfold W_World_bear at h1 h2 ⊢
  refine and_World_addCitizen (fun r1 M2 h1 h2 => ?_) h1 h2
  refine ⟨fun hc => ?_, fun hc => ?_⟩
  · replace h1 := h1.1 hc
    replace h2 := h2.1 hc
    exact hQ _ _ h1 h2
  · replace h1 := h1.2 hc
    replace h2 := h2.2 hc
    refine and_World_bear_18  hQ N _ _ h1 h2
theorem and_World_bury {a : Nat} {p1 : Int32} {N : Nat} {M : MM} {Q1 Q2 Q3 : MM → Prop} (hQ : ∀  (M1 : MM), Q1 M1 → Q2 M1 → Q3 M1) (h1 : W_World_bury a p1 N M Q1) (h2 : W_World_bury a p1 N M Q2) : W_World_bury a p1 N M Q3 := by
  unfold W_World_bury at h1 h2 ⊢
  refine ⟨fun hc => ?_, fun hc => ?_⟩
  · replace h1 := h1.1 hc
    replace h2 := h2.1 hc
    exact hQ _ h1 h2
  · replace h1 := h1.2 hc
    replace h2 := h2.2 hc
    exact hQ _ h1 h2
theorem and_World_takenOnes_4 {a : Nat} {M : MM} {Q1 Q2 Q3 : Int32 → Prop} (hQ : ∀ (r : Int32), Q1 r → Q2 r → Q3 r) : ∀ (N : Nat) (v1 : Int32) (v2 : Int32), W_World_takenOnes_4 a M Q1 N v1 v2 → W_World_takenOnes_4 a M Q2 N v1 v2 → W_World_takenOnes_4 a M Q3 N v1 v2 := by
  intro N
  induction N with
  | zero => intros; trivial
  | succ N IH =>
    intro v1 v2 h1 h2
    replace h1 : B_World_takenOnes_4 a M Q1 N (W_World_takenOnes_4 a M Q1 N) v1 v2 := h1
    replace h2 : B_World_takenOnes_4 a M Q2 N (W_World_takenOnes_4 a M Q2 N) v1 v2 := h2
    show B_World_takenOnes_4 a M Q3 N (W_World_takenOnes_4 a M Q3 N) v1 v2
    unfold B_World_takenOnes_4 at h1 h2 ⊢
    refine ⟨fun hc => ?_, fun hc => ?_⟩
    · replace h1 := h1.1 hc
      replace h2 := h2.1 hc
      refine ⟨fun hc => ?_, fun hc => ?_⟩
      · replace h1 := h1.1 hc
        replace h2 := h2.1 hc
        exact IH _ _ h1 h2
      · replace h1 := h1.2 hc
        replace h2 := h2.2 hc
        exact IH _ _ h1 h2
    · replace h1 := h1.2 hc
      replace h2 := h2.2 hc
      exact hQ _ h1 h2
theorem and_World_takenOnes {a : Nat} {N : Nat} {M : MM} {Q1 Q2 Q3 : Int32 → Prop} (hQ : ∀ (r : Int32), Q1 r → Q2 r → Q3 r) (h1 : W_World_takenOnes a N M Q1) (h2 : W_World_takenOnes a N M Q2) : W_World_takenOnes a N M Q3 := by
  unfold W_World_takenOnes at h1 h2 ⊢
  refine and_World_takenOnes_4  hQ N _ _ h1 h2
theorem and_World_draw {a : Nat} {N : Nat} {M : MM} {Q1 Q2 Q3 : Int32 → MM → Prop} (hQ : ∀ (r : Int32) (M1 : MM), Q1 r M1 → Q2 r M1 → Q3 r M1) (h1 : W_World_draw a N M Q1) (h2 : W_World_draw a N M Q2) : W_World_draw a N M Q3 := by
  unfold W_World_draw at h1 h2 ⊢
  exact hQ _ _ h1 h2
theorem and_World_keepsFrom {a : Nat} {p2 : Int32} {N : Nat} {M : MM} {Q1 Q2 Q3 : Int32 → MM → Prop} (hQ : ∀ (r : Int32) (M1 : MM), Q1 r M1 → Q2 r M1 → Q3 r M1) (h1 : W_World_keepsFrom a p2 N M Q1) (h2 : W_World_keepsFrom a p2 N M Q2) : W_World_keepsFrom a p2 N M Q3 := by
  unfold W_World_keepsFrom at h1 h2 ⊢
  refine and_Law_bearing (fun r1 h1 h2 => ?_) h1 h2
  refine ⟨fun hc => ?_, fun hc => ?_⟩
  · replace h1 := h1.1 hc
    replace h2 := h2.1 hc
    refine ⟨fun hc => ?_, fun hc => ?_⟩
    · replace h1 := h1.1 hc
      replace h2 := h2.1 hc
      exact hQ _ _ h1 h2
    · replace h1 := h1.2 hc
      replace h2 := h2.2 hc
      refine and_World_draw (fun r5 M6 h1 h2 => ?_) h1 h2
      refine ⟨fun hc => ?_, fun hc => ?_⟩
      · replace h1 := h1.1 hc
        replace h2 := h2.1 hc
        exact hQ _ _ h1 h2
      · replace h1 := h1.2 hc
        replace h2 := h2.2 hc
        exact hQ _ _ h1 h2
  · replace h1 := h1.2 hc
    replace h2 := h2.2 hc
    exact hQ _ _ h1 h2
theorem and_World_pickDoers_5 {a : Nat} {p2 : Int32} {Q1 Q2 Q3 : Int32 → MM → Prop} (hQ : ∀ (r : Int32) (M1 : MM), Q1 r M1 → Q2 r M1 → Q3 r M1) : ∀ (N : Nat) (v3 : Int32) (v4 : Int32) (M : MM), W_World_pickDoers_5 a p2 Q1 N v3 v4 M → W_World_pickDoers_5 a p2 Q2 N v3 v4 M → W_World_pickDoers_5 a p2 Q3 N v3 v4 M := by
  intro N
  induction N with
  | zero => intros; trivial
  | succ N IH =>
    intro v3 v4 M h1 h2
    replace h1 : B_World_pickDoers_5 a p2 Q1 N (W_World_pickDoers_5 a p2 Q1 N) v3 v4 M := h1
    replace h2 : B_World_pickDoers_5 a p2 Q2 N (W_World_pickDoers_5 a p2 Q2 N) v3 v4 M := h2
    show B_World_pickDoers_5 a p2 Q3 N (W_World_pickDoers_5 a p2 Q3 N) v3 v4 M
    unfold B_World_pickDoers_5 at h1 h2 ⊢
    refine ⟨fun hc => ?_, fun hc => ?_⟩
    · replace h1 := h1.1 hc
      replace h2 := h2.1 hc
      refine ⟨fun hc => ?_, fun hc => ?_⟩
      · replace h1 := h1.1 hc
        replace h2 := h2.1 hc
        refine and_World_keepsFrom (fun r3 M4 h1 h2 => ?_) h1 h2
        refine ⟨fun hc => ?_, fun hc => ?_⟩
        · replace h1 := h1.1 hc
          replace h2 := h2.1 hc
          exact IH _ _ _ h1 h2
        · replace h1 := h1.2 hc
          replace h2 := h2.2 hc
          exact IH _ _ _ h1 h2
      · replace h1 := h1.2 hc
        replace h2 := h2.2 hc
        exact IH _ _ _ h1 h2
    · replace h1 := h1.2 hc
      replace h2 := h2.2 hc
      exact hQ _ _ h1 h2
theorem and_World_pickDoers {a : Nat} {p2 : Int32} {N : Nat} {M : MM} {Q1 Q2 Q3 : Int32 → MM → Prop} (hQ : ∀ (r : Int32) (M1 : MM), Q1 r M1 → Q2 r M1 → Q3 r M1) (h1 : W_World_pickDoers a p2 N M Q1) (h2 : W_World_pickDoers a p2 N M Q2) : W_World_pickDoers a p2 N M Q3 := by
  unfold W_World_pickDoers at h1 h2 ⊢
  refine and_World_pickDoers_5  hQ N _ _ _ h1 h2
theorem and_World_lowest_2 {p0 : Int32} {M : MM} {Q1 Q2 Q3 : Int32 → Prop} (hQ : ∀ (r : Int32), Q1 r → Q2 r → Q3 r) : ∀ (N : Nat) (v1 : Int32), W_World_lowest_2 p0 M Q1 N v1 → W_World_lowest_2 p0 M Q2 N v1 → W_World_lowest_2 p0 M Q3 N v1 := by
  intro N
  induction N with
  | zero => intros; trivial
  | succ N IH =>
    intro v1 h1 h2
    replace h1 : B_World_lowest_2 p0 M Q1 N (W_World_lowest_2 p0 M Q1 N) v1 := h1
    replace h2 : B_World_lowest_2 p0 M Q2 N (W_World_lowest_2 p0 M Q2 N) v1 := h2
    show B_World_lowest_2 p0 M Q3 N (W_World_lowest_2 p0 M Q3 N) v1
    unfold B_World_lowest_2 at h1 h2 ⊢
    refine ⟨fun hc => ?_, fun hc => ?_⟩
    · replace h1 := h1.1 hc
      replace h2 := h2.1 hc
      refine ⟨fun hc => ?_, fun hc => ?_⟩
      · replace h1 := h1.1 hc
        replace h2 := h2.1 hc
        exact hQ _ h1 h2
      · replace h1 := h1.2 hc
        replace h2 := h2.2 hc
        exact IH _ h1 h2
    · replace h1 := h1.2 hc
      replace h2 := h2.2 hc
      exact hQ _ h1 h2
theorem and_World_lowest {p0 : Int32} {N : Nat} {M : MM} {Q1 Q2 Q3 : Int32 → Prop} (hQ : ∀ (r : Int32), Q1 r → Q2 r → Q3 r) (h1 : W_World_lowest p0 N M Q1) (h2 : W_World_lowest p0 N M Q2) : W_World_lowest p0 N M Q3 := by
  unfold W_World_lowest at h1 h2 ⊢
  refine and_World_lowest_2  hQ N _ h1 h2
theorem and_World_judge_112 {a : Nat} {p2 : Int32} {p3 : Int32} {p4 : Int32} {u5 : Int32} {Q1 Q2 Q3 : MM → Prop} (hQ : ∀  (M1 : MM), Q1 M1 → Q2 M1 → Q3 M1) : ∀ (N : Nat) (v7 : Int32) (M : MM), W_World_judge_112 a p2 p3 p4 u5 Q1 N v7 M → W_World_judge_112 a p2 p3 p4 u5 Q2 N v7 M → W_World_judge_112 a p2 p3 p4 u5 Q3 N v7 M := by
  intro N
  induction N with
  | zero => intros; trivial
  | succ N IH =>
    intro v7 M h1 h2
    replace h1 : B_World_judge_112 a p2 p3 p4 u5 Q1 N (W_World_judge_112 a p2 p3 p4 u5 Q1 N) v7 M := h1
    replace h2 : B_World_judge_112 a p2 p3 p4 u5 Q2 N (W_World_judge_112 a p2 p3 p4 u5 Q2 N) v7 M := h2
    show B_World_judge_112 a p2 p3 p4 u5 Q3 N (W_World_judge_112 a p2 p3 p4 u5 Q3 N) v7 M
    unfold B_World_judge_112 at h1 h2 ⊢
    refine ⟨fun hc => ?_, fun hc => ?_⟩
    · replace h1 := h1.1 hc
      replace h2 := h2.1 hc
      refine ⟨fun hc => ?_, fun hc => ?_⟩
      · replace h1 := h1.1 hc
        replace h2 := h2.1 hc
        refine ⟨fun hc => ?_, fun hc => ?_⟩
        · replace h1 := h1.1 hc
          replace h2 := h2.1 hc
          exact IH _ _ h1 h2
        · replace h1 := h1.2 hc
          replace h2 := h2.2 hc
          exact IH _ _ h1 h2
      · replace h1 := h1.2 hc
        replace h2 := h2.2 hc
        exact IH _ _ h1 h2
    · replace h1 := h1.2 hc
      replace h2 := h2.2 hc
      exact hQ _ h1 h2
theorem and_World_judge {a : Nat} {p2 : Int32} {p3 : Int32} {p4 : Int32} {N : Nat} {M : MM} {Q1 Q2 Q3 : MM → Prop} (hQ : ∀  (M1 : MM), Q1 M1 → Q2 M1 → Q3 M1) (h1 : W_World_judge a p2 p3 p4 N M Q1) (h2 : W_World_judge a p2 p3 p4 N M Q2) : W_World_judge a p2 p3 p4 N M Q3 := by
  unfold W_World_judge at h1 h2 ⊢
  refine and_Law_bearing (fun r1 h1 h2 => ?_) h1 h2
  refine ⟨fun hc => ?_, fun hc => ?_⟩
  · replace h1 := h1.1 hc
    replace h2 := h2.1 hc
    exact hQ _ h1 h2
  · replace h1 := h1.2 hc
    replace h2 := h2.2 hc
    refine and_World_draw (fun r4 M5 h1 h2 => ?_) h1 h2
    refine ⟨fun hc => ?_, fun hc => ?_⟩
    · replace h1 := h1.1 hc
      replace h2 := h2.1 hc
      refine and_World_lowest (fun r7 h1 h2 => ?_) h1 h2
      refine and_Log_add (fun M10 h1 h2 => ?_) h1 h2
      refine and_World_judge_112  hQ N _ _ h1 h2
    · replace h1 := h1.2 hc
      replace h2 := h2.2 hc
      exact hQ _ h1 h2
theorem and_World_passDay_28 {a : Nat} {u2 : Int32} {u3 : Int32} {u4 : Int32} {k63a k63b k63c : MM → Prop} {Q1 Q2 Q3 : MM → Prop} (hk63 : ∀  (M : MM), k63a M → k63b M → k63c M) (hQ : ∀  (M1 : MM), Q1 M1 → Q2 M1 → Q3 M1) : ∀ (N : Nat) (v5 : Int32) (M : MM), W_World_passDay_28 a u2 u3 u4 k63a Q1 N v5 M → W_World_passDay_28 a u2 u3 u4 k63b Q2 N v5 M → W_World_passDay_28 a u2 u3 u4 k63c Q3 N v5 M := by
  intro N
  induction N with
  | zero => intros; trivial
  | succ N IH =>
    intro v5 M h1 h2
    replace h1 : B_World_passDay_28 a u2 u3 u4 k63a Q1 N (W_World_passDay_28 a u2 u3 u4 k63a Q1 N) v5 M := h1
    replace h2 : B_World_passDay_28 a u2 u3 u4 k63b Q2 N (W_World_passDay_28 a u2 u3 u4 k63b Q2 N) v5 M := h2
    show B_World_passDay_28 a u2 u3 u4 k63c Q3 N (W_World_passDay_28 a u2 u3 u4 k63c Q3 N) v5 M
    unfold B_World_passDay_28 at h1 h2 ⊢
    refine ⟨fun hc => ?_, fun hc => ?_⟩
    · replace h1 := h1.1 hc
      replace h2 := h2.1 hc
      refine ⟨fun hc => ?_, fun hc => ?_⟩
      · replace h1 := h1.1 hc
        replace h2 := h2.1 hc
        refine and_World_judge (fun M10 h1 h2 => ?_) h1 h2
        exact IH _ _ h1 h2
      · replace h1 := h1.2 hc
        replace h2 := h2.2 hc
        exact IH _ _ h1 h2
    · replace h1 := h1.2 hc
      replace h2 := h2.2 hc
      exact hk63 _ h1 h2
theorem and_World_passDay_66 {a : Nat} {u2 : Int32} {Q1 Q2 Q3 : MM → Prop} (hQ : ∀  (M1 : MM), Q1 M1 → Q2 M1 → Q3 M1) : ∀ (N : Nat) (v5 : Int32) (M : MM), W_World_passDay_66 a u2 Q1 N v5 M → W_World_passDay_66 a u2 Q2 N v5 M → W_World_passDay_66 a u2 Q3 N v5 M := by
  intro N
  induction N with
  | zero => intros; trivial
  | succ N IH =>
    intro v5 M h1 h2
    replace h1 : B_World_passDay_66 a u2 Q1 N (W_World_passDay_66 a u2 Q1 N) v5 M := h1
    replace h2 : B_World_passDay_66 a u2 Q2 N (W_World_passDay_66 a u2 Q2 N) v5 M := h2
    show B_World_passDay_66 a u2 Q3 N (W_World_passDay_66 a u2 Q3 N) v5 M
    unfold B_World_passDay_66 at h1 h2 ⊢
    refine ⟨fun hc => ?_, fun hc => ?_⟩
    · replace h1 := h1.1 hc
      replace h2 := h2.1 hc
      refine ⟨fun hc => ?_, fun hc => ?_⟩
      · replace h1 := h1.1 hc
        replace h2 := h2.1 hc
        refine ⟨fun hc => ?_, fun hc => ?_⟩
        · replace h1 := h1.1 hc
          replace h2 := h2.1 hc
          refine ⟨fun hc => ?_, fun hc => ?_⟩
          · replace h1 := h1.1 hc
            replace h2 := h2.1 hc
            exact IH _ _ h1 h2
          · replace h1 := h1.2 hc
            replace h2 := h2.2 hc
            exact IH _ _ h1 h2
        · replace h1 := h1.2 hc
          replace h2 := h2.2 hc
          refine ⟨fun hc => ?_, fun hc => ?_⟩
          · replace h1 := h1.1 hc
            replace h2 := h2.1 hc
            exact IH _ _ h1 h2
          · replace h1 := h1.2 hc
            replace h2 := h2.2 hc
            exact IH _ _ h1 h2
      · replace h1 := h1.2 hc
        replace h2 := h2.2 hc
        refine ⟨fun hc => ?_, fun hc => ?_⟩
        · replace h1 := h1.1 hc
          replace h2 := h2.1 hc
          exact IH _ _ h1 h2
        · replace h1 := h1.2 hc
          replace h2 := h2.2 hc
          exact IH _ _ h1 h2
    · replace h1 := h1.2 hc
      replace h2 := h2.2 hc
      exact hQ _ h1 h2
theorem and_World_passDay {a : Nat} {N : Nat} {M : MM} {Q1 Q2 Q3 : MM → Prop} (hQ : ∀  (M1 : MM), Q1 M1 → Q2 M1 → Q3 M1) (h1 : W_World_passDay a N M Q1) (h2 : W_World_passDay a N M Q2) : W_World_passDay a N M Q3 := by
  unfold W_World_passDay at h1 h2 ⊢
  refine and_World_takenOnes (fun r1 h1 h2 => ?_) h1 h2
  refine and_World_pickDoers (fun r3 M4 h1 h2 => ?_) h1 h2
  refine and_World_inForce (fun r5 h1 h2 => ?_) h1 h2
  refine and_World_passDay_28 (fun M11 h1 h2 => ?_) hQ N _ _ h1 h2
  · refine and_World_passDay_66  hQ N _ _ h1 h2
theorem and_World_seersOf_4 {a : Nat} {p1 : Int32} {M : MM} {Q1 Q2 Q3 : Int32 → Prop} (hQ : ∀ (r : Int32), Q1 r → Q2 r → Q3 r) : ∀ (N : Nat) (v2 : Int32) (v3 : Int32), W_World_seersOf_4 a p1 M Q1 N v2 v3 → W_World_seersOf_4 a p1 M Q2 N v2 v3 → W_World_seersOf_4 a p1 M Q3 N v2 v3 := by
  intro N
  induction N with
  | zero => intros; trivial
  | succ N IH =>
    intro v2 v3 h1 h2
    replace h1 : B_World_seersOf_4 a p1 M Q1 N (W_World_seersOf_4 a p1 M Q1 N) v2 v3 := h1
    replace h2 : B_World_seersOf_4 a p1 M Q2 N (W_World_seersOf_4 a p1 M Q2 N) v2 v3 := h2
    show B_World_seersOf_4 a p1 M Q3 N (W_World_seersOf_4 a p1 M Q3 N) v2 v3
    unfold B_World_seersOf_4 at h1 h2 ⊢
    refine ⟨fun hc => ?_, fun hc => ?_⟩
    · replace h1 := h1.1 hc
      replace h2 := h2.1 hc
      refine ⟨fun hc => ?_, fun hc => ?_⟩
      · replace h1 := h1.1 hc
        replace h2 := h2.1 hc
        exact IH _ _ h1 h2
      · replace h1 := h1.2 hc
        replace h2 := h2.2 hc
        refine ⟨fun hc => ?_, fun hc => ?_⟩
        · replace h1 := h1.1 hc
          replace h2 := h2.1 hc
          exact IH _ _ h1 h2
        · replace h1 := h1.2 hc
          replace h2 := h2.2 hc
          exact IH _ _ h1 h2
    · replace h1 := h1.2 hc
      replace h2 := h2.2 hc
      exact hQ _ h1 h2
theorem and_World_seersOf {a : Nat} {p1 : Int32} {N : Nat} {M : MM} {Q1 Q2 Q3 : Int32 → Prop} (hQ : ∀ (r : Int32), Q1 r → Q2 r → Q3 r) (h1 : W_World_seersOf a p1 N M Q1) (h2 : W_World_seersOf a p1 N M Q2) : W_World_seersOf a p1 N M Q3 := by
  unfold W_World_seersOf at h1 h2 ⊢
  refine and_World_seersOf_4  hQ N _ _ h1 h2
theorem and_World_letAllSee_4 {a : Nat} {p1 : Int32} {Q1 Q2 Q3 : Int32 → MM → Prop} (hQ : ∀ (r : Int32) (M1 : MM), Q1 r M1 → Q2 r M1 → Q3 r M1) : ∀ (N : Nat) (v2 : Int32) (v3 : Int32) (M : MM), W_World_letAllSee_4 a p1 Q1 N v2 v3 M → W_World_letAllSee_4 a p1 Q2 N v2 v3 M → W_World_letAllSee_4 a p1 Q3 N v2 v3 M := by
  intro N
  induction N with
  | zero => intros; trivial
  | succ N IH =>
    intro v2 v3 M h1 h2
    replace h1 : B_World_letAllSee_4 a p1 Q1 N (W_World_letAllSee_4 a p1 Q1 N) v2 v3 M := h1
    replace h2 : B_World_letAllSee_4 a p1 Q2 N (W_World_letAllSee_4 a p1 Q2 N) v2 v3 M := h2
    show B_World_letAllSee_4 a p1 Q3 N (W_World_letAllSee_4 a p1 Q3 N) v2 v3 M
    unfold B_World_letAllSee_4 at h1 h2 ⊢
    refine ⟨fun hc => ?_, fun hc => ?_⟩
    · replace h1 := h1.1 hc
      replace h2 := h2.1 hc
      refine ⟨fun hc => ?_, fun hc => ?_⟩
      · replace h1 := h1.1 hc
        replace h2 := h2.1 hc
        exact IH _ _ _ h1 h2
      · replace h1 := h1.2 hc
        replace h2 := h2.2 hc
        refine ⟨fun hc => ?_, fun hc => ?_⟩
        · replace h1 := h1.1 hc
          replace h2 := h2.1 hc
          exact IH _ _ _ h1 h2
        · replace h1 := h1.2 hc
          replace h2 := h2.2 hc
          exact IH _ _ _ h1 h2
    · replace h1 := h1.2 hc
      replace h2 := h2.2 hc
      exact hQ _ _ h1 h2
theorem and_World_letAllSee {a : Nat} {p1 : Int32} {N : Nat} {M : MM} {Q1 Q2 Q3 : Int32 → MM → Prop} (hQ : ∀ (r : Int32) (M1 : MM), Q1 r M1 → Q2 r M1 → Q3 r M1) (h1 : W_World_letAllSee a p1 N M Q1) (h2 : W_World_letAllSee a p1 N M Q2) : W_World_letAllSee a p1 N M Q3 := by
  unfold W_World_letAllSee at h1 h2 ⊢
  refine and_World_letAllSee_4  hQ N _ _ _ h1 h2
theorem and_World_spreadFear_14 {a : Nat} {u2 : Int32} {Q1 Q2 Q3 : Int32 → MM → Prop} (hQ : ∀ (r : Int32) (M1 : MM), Q1 r M1 → Q2 r M1 → Q3 r M1) : ∀ (N : Nat) (v1 : Int32) (v3 : Int32) (M : MM), W_World_spreadFear_14 a u2 Q1 N v1 v3 M → W_World_spreadFear_14 a u2 Q2 N v1 v3 M → W_World_spreadFear_14 a u2 Q3 N v1 v3 M := by
  intro N
  induction N with
  | zero => intros; trivial
  | succ N IH =>
    intro v1 v3 M h1 h2
    replace h1 : B_World_spreadFear_14 a u2 Q1 N (W_World_spreadFear_14 a u2 Q1 N) v1 v3 M := h1
    replace h2 : B_World_spreadFear_14 a u2 Q2 N (W_World_spreadFear_14 a u2 Q2 N) v1 v3 M := h2
    show B_World_spreadFear_14 a u2 Q3 N (W_World_spreadFear_14 a u2 Q3 N) v1 v3 M
    unfold B_World_spreadFear_14 at h1 h2 ⊢
    refine ⟨fun hc => ?_, fun hc => ?_⟩
    · replace h1 := h1.1 hc
      replace h2 := h2.1 hc
      refine and_World_seersOf (fun r2 h1 h2 => ?_) h1 h2
      refine ⟨fun hc => ?_, fun hc => ?_⟩
      · replace h1 := h1.1 hc
        replace h2 := h2.1 hc
        refine and_World_letAllSee (fun r5 M6 h1 h2 => ?_) h1 h2
        refine ⟨fun hc => ?_, fun hc => ?_⟩
        · replace h1 := h1.1 hc
          replace h2 := h2.1 hc
          exact IH _ _ _ h1 h2
        · replace h1 := h1.2 hc
          replace h2 := h2.2 hc
          exact IH _ _ _ h1 h2
      · replace h1 := h1.2 hc
        replace h2 := h2.2 hc
        exact IH _ _ _ h1 h2
    · replace h1 := h1.2 hc
      replace h2 := h2.2 hc
      exact hQ _ _ h1 h2
theorem and_World_spreadFear {a : Nat} {N : Nat} {M : MM} {Q1 Q2 Q3 : Int32 → MM → Prop} (hQ : ∀ (r : Int32) (M1 : MM), Q1 r M1 → Q2 r M1 → Q3 r M1) (h1 : W_World_spreadFear a N M Q1) (h2 : W_World_spreadFear a N M Q2) : W_World_spreadFear a N M Q3 := by
  unfold W_World_spreadFear at h1 h2 ⊢
  refine and_World_spreadFear_14  hQ N _ _ _ h1 h2
theorem and_World_seenInSum_4 {a : Nat} {M : MM} {Q1 Q2 Q3 : Int32 → Prop} (hQ : ∀ (r : Int32), Q1 r → Q2 r → Q3 r) : ∀ (N : Nat) (v1 : Int32) (v2 : Int32), W_World_seenInSum_4 a M Q1 N v1 v2 → W_World_seenInSum_4 a M Q2 N v1 v2 → W_World_seenInSum_4 a M Q3 N v1 v2 := by
  intro N
  induction N with
  | zero => intros; trivial
  | succ N IH =>
    intro v1 v2 h1 h2
    replace h1 : B_World_seenInSum_4 a M Q1 N (W_World_seenInSum_4 a M Q1 N) v1 v2 := h1
    replace h2 : B_World_seenInSum_4 a M Q2 N (W_World_seenInSum_4 a M Q2 N) v1 v2 := h2
    show B_World_seenInSum_4 a M Q3 N (W_World_seenInSum_4 a M Q3 N) v1 v2
    unfold B_World_seenInSum_4 at h1 h2 ⊢
    refine ⟨fun hc => ?_, fun hc => ?_⟩
    · replace h1 := h1.1 hc
      replace h2 := h2.1 hc
      exact IH _ _ h1 h2
    · replace h1 := h1.2 hc
      replace h2 := h2.2 hc
      exact hQ _ h1 h2
theorem and_World_seenInSum {a : Nat} {N : Nat} {M : MM} {Q1 Q2 Q3 : Int32 → Prop} (hQ : ∀ (r : Int32), Q1 r → Q2 r → Q3 r) (h1 : W_World_seenInSum a N M Q1) (h2 : W_World_seenInSum a N M Q2) : W_World_seenInSum a N M Q3 := by
  unfold W_World_seenInSum at h1 h2 ⊢
  refine and_World_seenInSum_4  hQ N _ _ h1 h2
theorem and_World_seenByAll_6 {a : Nat} {M : MM} {Q1 Q2 Q3 : Int64 → Prop} (hQ : ∀ (r : Int64), Q1 r → Q2 r → Q3 r) : ∀ (N : Nat) (v1 : Int64) (v3 : Int32), W_World_seenByAll_6 a M Q1 N v1 v3 → W_World_seenByAll_6 a M Q2 N v1 v3 → W_World_seenByAll_6 a M Q3 N v1 v3 := by
  intro N
  induction N with
  | zero => intros; trivial
  | succ N IH =>
    intro v1 v3 h1 h2
    replace h1 : B_World_seenByAll_6 a M Q1 N (W_World_seenByAll_6 a M Q1 N) v1 v3 := h1
    replace h2 : B_World_seenByAll_6 a M Q2 N (W_World_seenByAll_6 a M Q2 N) v1 v3 := h2
    show B_World_seenByAll_6 a M Q3 N (W_World_seenByAll_6 a M Q3 N) v1 v3
    unfold B_World_seenByAll_6 at h1 h2 ⊢
    refine ⟨fun hc => ?_, fun hc => ?_⟩
    · replace h1 := h1.1 hc
      replace h2 := h2.1 hc
      refine ⟨fun hc => ?_, fun hc => ?_⟩
      · replace h1 := h1.1 hc
        replace h2 := h2.1 hc
        exact IH _ _ h1 h2
      · replace h1 := h1.2 hc
        replace h2 := h2.2 hc
        exact IH _ _ h1 h2
    · replace h1 := h1.2 hc
      replace h2 := h2.2 hc
      exact hQ _ h1 h2
theorem and_World_seenByAll {a : Nat} {N : Nat} {M : MM} {Q1 Q2 Q3 : Int64 → Prop} (hQ : ∀ (r : Int64), Q1 r → Q2 r → Q3 r) (h1 : W_World_seenByAll a N M Q1) (h2 : W_World_seenByAll a N M Q2) : W_World_seenByAll a N M Q3 := by
  unfold W_World_seenByAll at h1 h2 ⊢
  refine and_World_seenByAll_6  hQ N _ _ h1 h2
theorem and_World_seenByAny_4 {a : Nat} {M : MM} {Q1 Q2 Q3 : Int64 → Prop} (hQ : ∀ (r : Int64), Q1 r → Q2 r → Q3 r) : ∀ (N : Nat) (v1 : Int64) (v3 : Int32), W_World_seenByAny_4 a M Q1 N v1 v3 → W_World_seenByAny_4 a M Q2 N v1 v3 → W_World_seenByAny_4 a M Q3 N v1 v3 := by
  intro N
  induction N with
  | zero => intros; trivial
  | succ N IH =>
    intro v1 v3 h1 h2
    replace h1 : B_World_seenByAny_4 a M Q1 N (W_World_seenByAny_4 a M Q1 N) v1 v3 := h1
    replace h2 : B_World_seenByAny_4 a M Q2 N (W_World_seenByAny_4 a M Q2 N) v1 v3 := h2
    show B_World_seenByAny_4 a M Q3 N (W_World_seenByAny_4 a M Q3 N) v1 v3
    unfold B_World_seenByAny_4 at h1 h2 ⊢
    refine ⟨fun hc => ?_, fun hc => ?_⟩
    · replace h1 := h1.1 hc
      replace h2 := h2.1 hc
      refine ⟨fun hc => ?_, fun hc => ?_⟩
      · replace h1 := h1.1 hc
        replace h2 := h2.1 hc
        exact IH _ _ h1 h2
      · replace h1 := h1.2 hc
        replace h2 := h2.2 hc
        exact IH _ _ h1 h2
    · replace h1 := h1.2 hc
      replace h2 := h2.2 hc
      exact hQ _ h1 h2
theorem and_World_seenByAny {a : Nat} {N : Nat} {M : MM} {Q1 Q2 Q3 : Int64 → Prop} (hQ : ∀ (r : Int64), Q1 r → Q2 r → Q3 r) (h1 : W_World_seenByAny a N M Q1) (h2 : W_World_seenByAny a N M Q2) : W_World_seenByAny a N M Q3 := by
  unfold W_World_seenByAny at h1 h2 ⊢
  refine and_World_seenByAny_4  hQ N _ _ h1 h2
theorem and_E_feed {p1 : Int32} {p2 : Int32} {p3 : Int32} {p4 : Int32} {p5 : Int32} {N : Nat} {M : MM} {Q1 Q2 Q3 : Int32 → MM → Prop} (hQ : ∀ (r : Int32) (M1 : MM), Q1 r M1 → Q2 r M1 → Q3 r M1) (h1 : W_E_feed p1 p2 p3 p4 p5 N M Q1) (h2 : W_E_feed p1 p2 p3 p4 p5 N M Q2) : W_E_feed p1 p2 p3 p4 p5 N M Q3 := by
  unfold W_E_feed at h1 h2 ⊢
  refine ⟨fun hc => ?_, fun hc => ?_⟩
  · replace h1 := h1.1 hc
    replace h2 := h2.1 hc
    exact hQ _ _ h1 h2
  · replace h1 := h1.2 hc
    replace h2 := h2.2 hc
    refine and_Tape_add (fun M3 h1 h2 => ?_) h1 h2
    refine and_Tape_add (fun M5 h1 h2 => ?_) h1 h2
    refine and_Tape_add (fun M7 h1 h2 => ?_) h1 h2
    refine and_Tape_add (fun M9 h1 h2 => ?_) h1 h2
    refine and_Tape_add (fun M11 h1 h2 => ?_) h1 h2
    exact hQ _ _ h1 h2
theorem and_E_end {p1 : Int32} {N : Nat} {M : MM} {Q1 Q2 Q3 : Int32 → MM → Prop} (hQ : ∀ (r : Int32) (M1 : MM), Q1 r M1 → Q2 r M1 → Q3 r M1) (h1 : W_E_end p1 N M Q1) (h2 : W_E_end p1 N M Q2) : W_E_end p1 N M Q3 := by
  unfold W_E_end at h1 h2 ⊢
  refine ⟨fun hc => ?_, fun hc => ?_⟩
  · replace h1 := h1.1 hc
    replace h2 := h2.1 hc
    exact hQ _ _ h1 h2
  · replace h1 := h1.2 hc
    replace h2 := h2.2 hc
    refine ⟨fun hc => ?_, fun hc => ?_⟩
    · replace h1 := h1.1 hc
      replace h2 := h2.1 hc
      exact hQ _ _ h1 h2
    · replace h1 := h1.2 hc
      replace h2 := h2.2 hc
      exact hQ _ _ h1 h2
theorem and_E_code  {N : Nat} {M : MM} {Q1 Q2 Q3 : Int32 → MM → Prop} {E1 E2 E3 : Nat → MM → Prop} (hQ : ∀ (r : Int32) (M1 : MM), Q1 r M1 → Q2 r M1 → Q3 r M1) (hE : ∀ (ce : Nat) (M1 : MM), E1 ce M1 → E2 ce M1 → E3 ce M1) (h1 : W_E_code  N M Q1 E1) (h2 : W_E_code  N M Q2 E2) : W_E_code  N M Q3 E3 := by
  unfold W_E_code at h1 h2 ⊢
  refine and_Text_split (fun M2 h1 h2 => ?_) h1 h2
  refine and_LawReader_readAll (fun r3 M4 h1 h2 => ?_) h1 h2
  refine ⟨fun hc => ?_, fun hc => ?_⟩
  · replace h1 := h1.1 hc
    replace h2 := h2.1 hc
    refine ⟨fun hc => ?_, fun hc => ?_⟩
    · replace h1 := h1.1 hc
      replace h2 := h2.1 hc
      refine ⟨fun hc => ?_, fun hc => ?_⟩
      · replace h1 := h1.1 hc
        replace h2 := h2.1 hc
        exact hE _ _ h1 h2
      · replace h1 := h1.2 hc
        replace h2 := h2.2 hc
        refine and_Law_become (fun M9 h1 h2 => ?_) h1 h2
        refine and_Memory_forget (fun M11 h1 h2 => ?_) h1 h2
        exact hQ _ _ h1 h2
    · replace h1 := h1.2 hc
      replace h2 := h2.2 hc
      exact hE _ _ h1 h2
  · replace h1 := h1.2 hc
    replace h2 := h2.2 hc
    exact hE _ _ h1 h2
theorem and_E_republic  {N : Nat} {M : MM} {Q1 Q2 Q3 : Int32 → MM → Prop} {E1 E2 E3 : Nat → MM → Prop} (hQ : ∀ (r : Int32) (M1 : MM), Q1 r M1 → Q2 r M1 → Q3 r M1) (hE : ∀ (ce : Nat) (M1 : MM), E1 ce M1 → E2 ce M1 → E3 ce M1) (h1 : W_E_republic  N M Q1 E1) (h2 : W_E_republic  N M Q2 E2) : W_E_republic  N M Q3 E3 := by
  unfold W_E_republic at h1 h2 ⊢
  refine and_Text_split (fun M2 h1 h2 => ?_) h1 h2
  refine and_World_become (fun M4 h1 h2 => ?_) h1 h2
  refine and_RepublicReader_readAll (fun r5 M6 h1 h2 => ?_) h1 h2
  refine ⟨fun hc => ?_, fun hc => ?_⟩
  · replace h1 := h1.1 hc
    replace h2 := h2.1 hc
    refine ⟨fun hc => ?_, fun hc => ?_⟩
    · replace h1 := h1.1 hc
      replace h2 := h2.1 hc
      refine and_World_become (fun M10 h1 h2 => ?_) h1 h2
      refine and_Memory_forget (fun M12 h1 h2 => ?_) h1 h2
      exact hQ _ _ h1 h2
    · replace h1 := h1.2 hc
      replace h2 := h2.2 hc
      exact hE _ _ h1 h2
  · replace h1 := h1.2 hc
    replace h2 := h2.2 hc
    exact hE _ _ h1 h2
theorem and_E_needIndex {p0 : Int32} {p1 : Int32} {N : Nat} {M : MM} {Q1 Q2 Q3 : Prop} {E1 E2 E3 : Nat → Prop} (hQ : Q1 → Q2 → Q3) (hE : ∀ (ce : Nat), E1 ce → E2 ce → E3 ce) (h1 : W_E_needIndex p0 p1 N M Q1 E1) (h2 : W_E_needIndex p0 p1 N M Q2 E2) : W_E_needIndex p0 p1 N M Q3 E3 := by
  unfold W_E_needIndex at h1 h2 ⊢
  refine ⟨fun hc => ?_, fun hc => ?_⟩
  · replace h1 := h1.1 hc
    replace h2 := h2.1 hc
    exact hE _ h1 h2
  · replace h1 := h1.2 hc
    replace h2 := h2.2 hc
    refine ⟨fun hc => ?_, fun hc => ?_⟩
    · replace h1 := h1.1 hc
      replace h2 := h2.1 hc
      exact hQ h1 h2
    · replace h1 := h1.2 hc
      replace h2 := h2.2 hc
      exact hE _ h1 h2
theorem and_E_needClause {p1 : Int32} {N : Nat} {M : MM} {Q1 Q2 Q3 : Prop} {E1 E2 E3 : Nat → Prop} (hQ : Q1 → Q2 → Q3) (hE : ∀ (ce : Nat), E1 ce → E2 ce → E3 ce) (h1 : W_E_needClause p1 N M Q1 E1) (h2 : W_E_needClause p1 N M Q2 E2) : W_E_needClause p1 N M Q3 E3 := by
  unfold W_E_needClause at h1 h2 ⊢
  refine and_E_needIndex (fun h1 h2 => ?_) (fun ce h1 h2 => hE ce h1 h2) h1 h2
  exact hQ h1 h2
theorem and_E_clause {p1 : Int32} {p2 : Int32} {N : Nat} {M : MM} {Q1 Q2 Q3 : Int32 → MM → Prop} {E1 E2 E3 : Nat → MM → Prop} (hQ : ∀ (r : Int32) (M1 : MM), Q1 r M1 → Q2 r M1 → Q3 r M1) (hE : ∀ (ce : Nat) (M1 : MM), E1 ce M1 → E2 ce M1 → E3 ce M1) (h1 : W_E_clause p1 p2 N M Q1 E1) (h2 : W_E_clause p1 p2 N M Q2 E2) : W_E_clause p1 p2 N M Q3 E3 := by
  unfold W_E_clause at h1 h2 ⊢
  refine and_E_needClause (fun h1 h2 => ?_) (fun ce h1 h2 => hE ce _ h1 h2) h1 h2
  refine ⟨?_, ?_, ?_, ?_, ?_, ?_⟩
  · intro hc
    replace h1 := h1.1 hc
    replace h2 := h2.1 hc
    exact hQ _ _ h1 h2
  · intro hc
    replace h1 := h1.2.1 hc
    replace h2 := h2.2.1 hc
    exact hQ _ _ h1 h2
  · intro hc
    replace h1 := h1.2.2.1 hc
    replace h2 := h2.2.2.1 hc
    refine and_World_inForce (fun r4 h1 h2 => ?_) h1 h2
    exact hQ _ _ h1 h2
  · intro hc
    replace h1 := h1.2.2.2.1 hc
    replace h2 := h2.2.2.2.1 hc
    refine and_World_knowersOf (fun r6 h1 h2 => ?_) h1 h2
    exact hQ _ _ h1 h2
  · intro hc
    replace h1 := h1.2.2.2.2.1 hc
    replace h2 := h2.2.2.2.2.1 hc
    refine and_Inquiry_contradicting (fun r8 M9 h1 h2 => ?_) h1 h2
    exact hQ _ _ h1 h2
  · intro hc0 hc1 hc2 hc3 hc4
    replace h1 := h1.2.2.2.2.2 hc0 hc1 hc2 hc3 hc4
    replace h2 := h2.2.2.2.2.2 hc0 hc1 hc2 hc3 hc4
    exact hE _ _ h1 h2
theorem and_E_needCitizen {p1 : Int32} {N : Nat} {M : MM} {Q1 Q2 Q3 : Prop} {E1 E2 E3 : Nat → Prop} (hQ : Q1 → Q2 → Q3) (hE : ∀ (ce : Nat), E1 ce → E2 ce → E3 ce) (h1 : W_E_needCitizen p1 N M Q1 E1) (h2 : W_E_needCitizen p1 N M Q2 E2) : W_E_needCitizen p1 N M Q3 E3 := by
  unfold W_E_needCitizen at h1 h2 ⊢
  refine and_E_needIndex (fun h1 h2 => ?_) (fun ce h1 h2 => hE ce h1 h2) h1 h2
  exact hQ h1 h2
theorem and_E_citizen {p1 : Int32} {p2 : Int32} {N : Nat} {M : MM} {Q1 Q2 Q3 : Int32 → Prop} {E1 E2 E3 : Nat → Prop} (hQ : ∀ (r : Int32), Q1 r → Q2 r → Q3 r) (hE : ∀ (ce : Nat), E1 ce → E2 ce → E3 ce) (h1 : W_E_citizen p1 p2 N M Q1 E1) (h2 : W_E_citizen p1 p2 N M Q2 E2) : W_E_citizen p1 p2 N M Q3 E3 := by
  unfold W_E_citizen at h1 h2 ⊢
  refine and_E_needCitizen (fun h1 h2 => ?_) (fun ce h1 h2 => hE ce h1 h2) h1 h2
  refine ⟨?_, ?_, ?_, ?_, ?_, ?_, ?_, ?_, ?_, ?_⟩
  · intro hc
    replace h1 := h1.1 hc
    replace h2 := h2.1 hc
    exact hQ _ h1 h2
  · intro hc
    replace h1 := h1.2.1 hc
    replace h2 := h2.2.1 hc
    exact hQ _ h1 h2
  · intro hc
    replace h1 := h1.2.2.1 hc
    replace h2 := h2.2.2.1 hc
    exact hQ _ h1 h2
  · intro hc
    replace h1 := h1.2.2.2.1 hc
    replace h2 := h2.2.2.2.1 hc
    exact hQ _ h1 h2
  · intro hc
    replace h1 := h1.2.2.2.2.1 hc
    replace h2 := h2.2.2.2.2.1 hc
    exact hQ _ h1 h2
  · intro hc
    replace h1 := h1.2.2.2.2.2.1 hc
    replace h2 := h2.2.2.2.2.2.1 hc
    exact hQ _ h1 h2
  · intro hc
    replace h1 := h1.2.2.2.2.2.2.1 hc
    replace h2 := h2.2.2.2.2.2.2.1 hc
    exact hQ _ h1 h2
  · intro hc
    replace h1 := h1.2.2.2.2.2.2.2.1 hc
    replace h2 := h2.2.2.2.2.2.2.2.1 hc
    exact hQ _ h1 h2
  · intro hc
    replace h1 := h1.2.2.2.2.2.2.2.2.1 hc
    replace h2 := h2.2.2.2.2.2.2.2.2.1 hc
    exact hQ _ h1 h2
  · intro hc0 hc1 hc2 hc3 hc4 hc5 hc6 hc7 hc8
    replace h1 := h1.2.2.2.2.2.2.2.2.2 hc0 hc1 hc2 hc3 hc4 hc5 hc6 hc7 hc8
    replace h2 := h2.2.2.2.2.2.2.2.2.2 hc0 hc1 hc2 hc3 hc4 hc5 hc6 hc7 hc8
    exact hE _ h1 h2
theorem and_E_seen {p1 : Int32} {N : Nat} {M : MM} {Q1 Q2 Q3 : Int64 → Prop} {E1 E2 E3 : Nat → Prop} (hQ : ∀ (r : Int64), Q1 r → Q2 r → Q3 r) (hE : ∀ (ce : Nat), E1 ce → E2 ce → E3 ce) (h1 : W_E_seen p1 N M Q1 E1) (h2 : W_E_seen p1 N M Q2 E2) : W_E_seen p1 N M Q3 E3 := by
  unfold W_E_seen at h1 h2 ⊢
  refine and_E_needCitizen (fun h1 h2 => ?_) (fun ce h1 h2 => hE ce h1 h2) h1 h2
  exact hQ _ h1 h2
theorem and_E_habit {p1 : Int32} {p2 : Int32} {N : Nat} {M : MM} {Q1 Q2 Q3 : Int32 → Prop} {E1 E2 E3 : Nat → Prop} (hQ : ∀ (r : Int32), Q1 r → Q2 r → Q3 r) (hE : ∀ (ce : Nat), E1 ce → E2 ce → E3 ce) (h1 : W_E_habit p1 p2 N M Q1 E1) (h2 : W_E_habit p1 p2 N M Q2 E2) : W_E_habit p1 p2 N M Q3 E3 := by
  unfold W_E_habit at h1 h2 ⊢
  refine and_E_needCitizen (fun h1 h2 => ?_) (fun ce h1 h2 => hE ce h1 h2) h1 h2
  refine ⟨fun hc => ?_, fun hc => ?_⟩
  · replace h1 := h1.1 hc
    replace h2 := h2.1 hc
    exact hQ _ h1 h2
  · replace h1 := h1.2 hc
    replace h2 := h2.2 hc
    refine ⟨fun hc => ?_, fun hc => ?_⟩
    · replace h1 := h1.1 hc
      replace h2 := h2.1 hc
      exact hQ _ h1 h2
    · replace h1 := h1.2 hc
      replace h2 := h2.2 hc
      exact hQ _ h1 h2
theorem and_E_needAlive {p1 : Int32} {N : Nat} {M : MM} {Q1 Q2 Q3 : Prop} {E1 E2 E3 : Nat → Prop} (hQ : Q1 → Q2 → Q3) (hE : ∀ (ce : Nat), E1 ce → E2 ce → E3 ce) (h1 : W_E_needAlive p1 N M Q1 E1) (h2 : W_E_needAlive p1 N M Q2 E2) : W_E_needAlive p1 N M Q3 E3 := by
  unfold W_E_needAlive at h1 h2 ⊢
  refine ⟨fun hc => ?_, fun hc => ?_⟩
  · replace h1 := h1.1 hc
    replace h2 := h2.1 hc
    exact hE _ h1 h2
  · replace h1 := h1.2 hc
    replace h2 := h2.2 hc
    exact hQ h1 h2
theorem and_E_matter {p1 : Int32} {p2 : Int32} {p3 : Int32} {N : Nat} {M : MM} {Q1 Q2 Q3 : Int32 → Prop} {E1 E2 E3 : Nat → Prop} (hQ : ∀ (r : Int32), Q1 r → Q2 r → Q3 r) (hE : ∀ (ce : Nat), E1 ce → E2 ce → E3 ce) (h1 : W_E_matter p1 p2 p3 N M Q1 E1) (h2 : W_E_matter p1 p2 p3 N M Q2 E2) : W_E_matter p1 p2 p3 N M Q3 E3 := by
  unfold W_E_matter at h1 h2 ⊢
  refine and_E_needIndex (fun h1 h2 => ?_) (fun ce h1 h2 => hE ce h1 h2) h1 h2
  refine and_E_needCitizen (fun h1 h2 => ?_) (fun ce h1 h2 => hE ce h1 h2) h1 h2
  refine and_E_needAlive (fun h1 h2 => ?_) (fun ce h1 h2 => hE ce h1 h2) h1 h2
  refine ⟨?_, ?_, ?_, ?_, ?_⟩
  · intro hc
    replace h1 := h1.1 hc
    replace h2 := h2.1 hc
    refine and_Inquiry_forbiddenTo (fun r8 h1 h2 => ?_) h1 h2
    exact hQ _ h1 h2
  · intro hc
    replace h1 := h1.2.1 hc
    replace h2 := h2.2.1 hc
    refine and_Inquiry_demandedOf (fun r10 h1 h2 => ?_) h1 h2
    exact hQ _ h1 h2
  · intro hc
    replace h1 := h1.2.2.1 hc
    replace h2 := h2.2.2.1 hc
    refine and_Inquiry_allows (fun r12 h1 h2 => ?_) h1 h2
    refine ⟨fun hc => ?_, fun hc => ?_⟩
    · replace h1 := h1.1 hc
      replace h2 := h2.1 hc
      exact hQ _ h1 h2
    · replace h1 := h1.2 hc
      replace h2 := h2.2 hc
      exact hQ _ h1 h2
  · intro hc
    replace h1 := h1.2.2.2.1 hc
    replace h2 := h2.2.2.2.1 hc
    refine and_Inquiry_allows (fun r15 h1 h2 => ?_) h1 h2
    refine ⟨fun hc => ?_, fun hc => ?_⟩
    · replace h1 := h1.1 hc
      replace h2 := h2.1 hc
      exact hQ _ h1 h2
    · replace h1 := h1.2 hc
      replace h2 := h2.2 hc
      refine ⟨fun hc => ?_, fun hc => ?_⟩
      · replace h1 := h1.1 hc
        replace h2 := h2.1 hc
        exact hQ _ h1 h2
      · replace h1 := h1.2 hc
        replace h2 := h2.2 hc
        exact hQ _ h1 h2
  · intro hc0 hc1 hc2 hc3
    replace h1 := h1.2.2.2.2 hc0 hc1 hc2 hc3
    replace h2 := h2.2.2.2.2 hc0 hc1 hc2 hc3
    exact hE _ h1 h2
theorem and_E_tell {p1 : Int32} {p2 : Int32} {N : Nat} {M : MM} {Q1 Q2 Q3 : Int32 → MM → Prop} {E1 E2 E3 : Nat → MM → Prop} (hQ : ∀ (r : Int32) (M1 : MM), Q1 r M1 → Q2 r M1 → Q3 r M1) (hE : ∀ (ce : Nat) (M1 : MM), E1 ce M1 → E2 ce M1 → E3 ce M1) (h1 : W_E_tell p1 p2 N M Q1 E1) (h2 : W_E_tell p1 p2 N M Q2 E2) : W_E_tell p1 p2 N M Q3 E3 := by
  unfold W_E_tell at h1 h2 ⊢
  refine and_E_needCitizen (fun h1 h2 => ?_) (fun ce h1 h2 => hE ce _ h1 h2) h1 h2
  refine and_E_needClause (fun h1 h2 => ?_) (fun ce h1 h2 => hE ce _ h1 h2) h1 h2
  refine and_E_needAlive (fun h1 h2 => ?_) (fun ce h1 h2 => hE ce _ h1 h2) h1 h2
  refine ⟨fun hc => ?_, fun hc => ?_⟩
  · replace h1 := h1.1 hc
    replace h2 := h2.1 hc
    exact hE _ _ h1 h2
  · replace h1 := h1.2 hc
    replace h2 := h2.2 hc
    refine and_Memory_remember (fun M9 h1 h2 => ?_) h1 h2
    exact hQ _ _ h1 h2
theorem and_E_die {p1 : Int32} {N : Nat} {M : MM} {Q1 Q2 Q3 : Int32 → MM → Prop} {E1 E2 E3 : Nat → MM → Prop} (hQ : ∀ (r : Int32) (M1 : MM), Q1 r M1 → Q2 r M1 → Q3 r M1) (hE : ∀ (ce : Nat) (M1 : MM), E1 ce M1 → E2 ce M1 → E3 ce M1) (h1 : W_E_die p1 N M Q1 E1) (h2 : W_E_die p1 N M Q2 E2) : W_E_die p1 N M Q3 E3 := by
  unfold W_E_die at h1 h2 ⊢
  refine and_E_needCitizen (fun h1 h2 => ?_) (fun ce h1 h2 => hE ce _ h1 h2) h1 h2
  refine and_E_needAlive (fun h1 h2 => ?_) (fun ce h1 h2 => hE ce _ h1 h2) h1 h2
  refine and_Memory_remember (fun M6 h1 h2 => ?_) h1 h2
  refine and_World_inForce (fun r7 h1 h2 => ?_) h1 h2
  refine and_World_bury (fun M10 h1 h2 => ?_) h1 h2
  refine and_World_inForce (fun r11 h1 h2 => ?_) h1 h2
  exact hQ _ _ h1 h2
theorem and_E_needTwo {p0 : Int32} {p1 : Int32} {N : Nat} {M : MM} {Q1 Q2 Q3 : Prop} {E1 E2 E3 : Nat → Prop} (hQ : Q1 → Q2 → Q3) (hE : ∀ (ce : Nat), E1 ce → E2 ce → E3 ce) (h1 : W_E_needTwo p0 p1 N M Q1 E1) (h2 : W_E_needTwo p0 p1 N M Q2 E2) : W_E_needTwo p0 p1 N M Q3 E3 := by
  unfold W_E_needTwo at h1 h2 ⊢
  refine ⟨fun hc => ?_, fun hc => ?_⟩
  · replace h1 := h1.1 hc
    replace h2 := h2.1 hc
    exact hE _ h1 h2
  · replace h1 := h1.2 hc
    replace h2 := h2.2 hc
    exact hQ h1 h2
theorem and_E_wed {p1 : Int32} {p2 : Int32} {N : Nat} {M : MM} {Q1 Q2 Q3 : Int32 → MM → Prop} {E1 E2 E3 : Nat → MM → Prop} (hQ : ∀ (r : Int32) (M1 : MM), Q1 r M1 → Q2 r M1 → Q3 r M1) (hE : ∀ (ce : Nat) (M1 : MM), E1 ce M1 → E2 ce M1 → E3 ce M1) (h1 : W_E_wed p1 p2 N M Q1 E1) (h2 : W_E_wed p1 p2 N M Q2 E2) : W_E_wed p1 p2 N M Q3 E3 := by
  unfold W_E_wed at h1 h2 ⊢
  refine and_E_needCitizen (fun h1 h2 => ?_) (fun ce h1 h2 => hE ce _ h1 h2) h1 h2
  refine and_E_needCitizen (fun h1 h2 => ?_) (fun ce h1 h2 => hE ce _ h1 h2) h1 h2
  refine and_E_needTwo (fun h1 h2 => ?_) (fun ce h1 h2 => hE ce _ h1 h2) h1 h2
  refine and_E_needAlive (fun h1 h2 => ?_) (fun ce h1 h2 => hE ce _ h1 h2) h1 h2
  refine and_E_needAlive (fun h1 h2 => ?_) (fun ce h1 h2 => hE ce _ h1 h2) h1 h2
  refine ⟨fun hc => ?_, fun hc => ?_⟩
  · replace h1 := h1.1 hc
    replace h2 := h2.1 hc
    refine ⟨fun hc => ?_, fun hc => ?_⟩
    · replace h1 := h1.1 hc
      replace h2 := h2.1 hc
      refine and_Memory_remember (fun M14 h1 h2 => ?_) h1 h2
      refine and_World_marry (fun M16 h1 h2 => ?_) h1 h2
      exact hQ _ _ h1 h2
    · replace h1 := h1.2 hc
      replace h2 := h2.2 hc
      exact hE _ _ h1 h2
  · replace h1 := h1.2 hc
    replace h2 := h2.2 hc
    exact hE _ _ h1 h2
theorem and_E_baby {p1 : Int32} {N : Nat} {M : MM} {Q1 Q2 Q3 : Int32 → MM → Prop} {E1 E2 E3 : Nat → MM → Prop} (hQ : ∀ (r : Int32) (M1 : MM), Q1 r M1 → Q2 r M1 → Q3 r M1) (hE : ∀ (ce : Nat) (M1 : MM), E1 ce M1 → E2 ce M1 → E3 ce M1) (h1 : W_E_baby p1 N M Q1 E1) (h2 : W_E_baby p1 N M Q2 E2) : W_E_baby p1 N M Q3 E3 := by
  unfold W_E_baby at h1 h2 ⊢
  refine and_E_needCitizen (fun h1 h2 => ?_) (fun ce h1 h2 => hE ce _ h1 h2) h1 h2
  refine and_E_needAlive (fun h1 h2 => ?_) (fun ce h1 h2 => hE ce _ h1 h2) h1 h2
  refine ⟨fun hc => ?_, fun hc => ?_⟩
  · replace h1 := h1.1 hc
    replace h2 := h2.1 hc
    refine and_Memory_remember (fun M7 h1 h2 => ?_) h1 h2
    refine and_World_bear (fun r8 M9 h1 h2 => ?_) h1 h2
    exact hQ _ _ h1 h2
  · replace h1 := h1.2 hc
    replace h2 := h2.2 hc
    exact hE _ _ h1 h2
theorem and_E_release {p1 : Int32} {N : Nat} {M : MM} {Q1 Q2 Q3 : Int32 → MM → Prop} {E1 E2 E3 : Nat → MM → Prop} (hQ : ∀ (r : Int32) (M1 : MM), Q1 r M1 → Q2 r M1 → Q3 r M1) (hE : ∀ (ce : Nat) (M1 : MM), E1 ce M1 → E2 ce M1 → E3 ce M1) (h1 : W_E_release p1 N M Q1 E1) (h2 : W_E_release p1 N M Q2 E2) : W_E_release p1 N M Q3 E3 := by
  unfold W_E_release at h1 h2 ⊢
  refine and_E_needCitizen (fun h1 h2 => ?_) (fun ce h1 h2 => hE ce _ h1 h2) h1 h2
  refine and_E_needAlive (fun h1 h2 => ?_) (fun ce h1 h2 => hE ce _ h1 h2) h1 h2
  refine ⟨fun hc => ?_, fun hc => ?_⟩
  · replace h1 := h1.1 hc
    replace h2 := h2.1 hc
    exact hE _ _ h1 h2
  · replace h1 := h1.2 hc
    replace h2 := h2.2 hc
    refine and_Memory_remember (fun M7 h1 h2 => ?_) h1 h2
    exact hQ _ _ h1 h2
theorem and_E_needNumber {p0 : Int32} {p1 : Int32} {p2 : Int32} {N : Nat} {M : MM} {Q1 Q2 Q3 : Prop} {E1 E2 E3 : Nat → Prop} (hQ : Q1 → Q2 → Q3) (hE : ∀ (ce : Nat), E1 ce → E2 ce → E3 ce) (h1 : W_E_needNumber p0 p1 p2 N M Q1 E1) (h2 : W_E_needNumber p0 p1 p2 N M Q2 E2) : W_E_needNumber p0 p1 p2 N M Q3 E3 := by
  unfold W_E_needNumber at h1 h2 ⊢
  refine ⟨fun hc => ?_, fun hc => ?_⟩
  · replace h1 := h1.1 hc
    replace h2 := h2.1 hc
    exact hE _ h1 h2
  · replace h1 := h1.2 hc
    replace h2 := h2.2 hc
    refine ⟨fun hc => ?_, fun hc => ?_⟩
    · replace h1 := h1.1 hc
      replace h2 := h2.1 hc
      exact hE _ h1 h2
    · replace h1 := h1.2 hc
      replace h2 := h2.2 hc
      exact hQ h1 h2
theorem and_E_days_28 {p1 : Int32} {u2 : Int32} {Q1 Q2 Q3 : Int32 → MM → Prop} {E1 E2 E3 : Nat → MM → Prop} (hQ : ∀ (r : Int32) (M1 : MM), Q1 r M1 → Q2 r M1 → Q3 r M1) (hE : ∀ (ce : Nat) (M1 : MM), E1 ce M1 → E2 ce M1 → E3 ce M1) : ∀ (N : Nat) (v3 : Int32) (M : MM), W_E_days_28 p1 u2 Q1 E1 N v3 M → W_E_days_28 p1 u2 Q2 E2 N v3 M → W_E_days_28 p1 u2 Q3 E3 N v3 M := by
  intro N
  induction N with
  | zero => intros; trivial
  | succ N IH =>
    intro v3 M h1 h2
    replace h1 : B_E_days_28 p1 u2 Q1 E1 N (W_E_days_28 p1 u2 Q1 E1 N) v3 M := h1
    replace h2 : B_E_days_28 p1 u2 Q2 E2 N (W_E_days_28 p1 u2 Q2 E2 N) v3 M := h2
    show B_E_days_28 p1 u2 Q3 E3 N (W_E_days_28 p1 u2 Q3 E3 N) v3 M
    unfold B_E_days_28 at h1 h2 ⊢
    refine ⟨fun hc => ?_, fun hc => ?_⟩
    · replace h1 := h1.1 hc
      replace h2 := h2.1 hc
      refine and_World_passDay (fun M7 h1 h2 => ?_) h1 h2
      exact IH _ _ h1 h2
    · replace h1 := h1.2 hc
      replace h2 := h2.2 hc
      exact hQ _ _ h1 h2
theorem and_E_days {p1 : Int32} {N : Nat} {M : MM} {Q1 Q2 Q3 : Int32 → MM → Prop} {E1 E2 E3 : Nat → MM → Prop} (hQ : ∀ (r : Int32) (M1 : MM), Q1 r M1 → Q2 r M1 → Q3 r M1) (hE : ∀ (ce : Nat) (M1 : MM), E1 ce M1 → E2 ce M1 → E3 ce M1) (h1 : W_E_days p1 N M Q1 E1) (h2 : W_E_days p1 N M Q2 E2) : W_E_days p1 N M Q3 E3 := by
  unfold W_E_days at h1 h2 ⊢
  refine and_E_needNumber (fun h1 h2 => ?_) (fun ce h1 h2 => hE ce _ h1 h2) h1 h2
  refine and_Memory_remember (fun M4 h1 h2 => ?_) h1 h2
  refine and_E_days_28  hQ hE N _ _ h1 h2
theorem and_E_nobody  {N : Nat} {M : MM} {Q1 Q2 Q3 : Int32 → Prop} (hQ : ∀ (r : Int32), Q1 r → Q2 r → Q3 r) (h1 : W_E_nobody  N M Q1) (h2 : W_E_nobody  N M Q2) : W_E_nobody  N M Q3 := by
  unfold W_E_nobody at h1 h2 ⊢
  refine and_Inquiry_forbiddenToAll (fun r1 h1 h2 => ?_) h1 h2
  exact hQ _ h1 h2
theorem and_E_relief  {N : Nat} {M : MM} {Q1 Q2 Q3 : Int32 → MM → Prop} (hQ : ∀ (r : Int32) (M1 : MM), Q1 r M1 → Q2 r M1 → Q3 r M1) (h1 : W_E_relief  N M Q1) (h2 : W_E_relief  N M Q2) : W_E_relief  N M Q3 := by
  unfold W_E_relief at h1 h2 ⊢
  refine and_Inquiry_fewestToDie (fun r1 M2 h1 h2 => ?_) h1 h2
  exact hQ _ _ h1 h2
theorem and_E_read {p1 : Int32} {N : Nat} {M : MM} {Q1 Q2 Q3 : Int32 → MM → Prop} {E1 E2 E3 : Nat → MM → Prop} (hQ : ∀ (r : Int32) (M1 : MM), Q1 r M1 → Q2 r M1 → Q3 r M1) (hE : ∀ (ce : Nat) (M1 : MM), E1 ce M1 → E2 ce M1 → E3 ce M1) (h1 : W_E_read p1 N M Q1 E1) (h2 : W_E_read p1 N M Q2 E2) : W_E_read p1 N M Q3 E3 := by
  unfold W_E_read at h1 h2 ⊢
  refine and_Reading_takeRows (fun r1 M2 h1 h2 => ?_) h1 h2
  refine ⟨fun hc => ?_, fun hc => ?_⟩
  · replace h1 := h1.1 hc
    replace h2 := h2.1 hc
    exact hE _ _ h1 h2
  · replace h1 := h1.2 hc
    replace h2 := h2.2 hc
    refine ⟨fun hc => ?_, fun hc => ?_⟩
    · replace h1 := h1.1 hc
      replace h2 := h2.1 hc
      exact hE _ _ h1 h2
    · replace h1 := h1.2 hc
      replace h2 := h2.2 hc
      refine ⟨fun hc => ?_, fun hc => ?_⟩
      · replace h1 := h1.1 hc
        replace h2 := h2.1 hc
        exact hE _ _ h1 h2
      · replace h1 := h1.2 hc
        replace h2 := h2.2 hc
        refine and_Reading_findCodes (fun M7 h1 h2 => ?_) h1 h2
        refine ⟨fun hc => ?_, fun hc => ?_⟩
        · replace h1 := h1.1 hc
          replace h2 := h2.1 hc
          exact hQ _ _ h1 h2
        · replace h1 := h1.2 hc
          replace h2 := h2.2 hc
          refine ⟨fun hc => ?_, fun hc => ?_⟩
          · replace h1 := h1.1 hc
            replace h2 := h2.1 hc
            exact hQ _ _ h1 h2
          · replace h1 := h1.2 hc
            replace h2 := h2.2 hc
            exact hQ _ _ h1 h2
theorem and_E_next {p1 : Int32} {N : Nat} {M : MM} {Q1 Q2 Q3 : Int32 → MM → Prop} {E1 E2 E3 : Nat → MM → Prop} (hQ : ∀ (r : Int32) (M1 : MM), Q1 r M1 → Q2 r M1 → Q3 r M1) (hE : ∀ (ce : Nat) (M1 : MM), E1 ce M1 → E2 ce M1 → E3 ce M1) (h1 : W_E_next p1 N M Q1 E1) (h2 : W_E_next p1 N M Q2 E2) : W_E_next p1 N M Q3 E3 := by
  unfold W_E_next at h1 h2 ⊢
  refine and_Reading_takeRows (fun r1 M2 h1 h2 => ?_) h1 h2
  refine and_E_needCitizen (fun h1 h2 => ?_) (fun ce h1 h2 => hE ce _ h1 h2) h1 h2
  refine ⟨fun hc => ?_, fun hc => ?_⟩
  · replace h1 := h1.1 hc
    replace h2 := h2.1 hc
    exact hE _ _ h1 h2
  · replace h1 := h1.2 hc
    replace h2 := h2.2 hc
    refine and_E_needAlive (fun h1 h2 => ?_) (fun ce h1 h2 => hE ce _ h1 h2) h1 h2
    refine and_Reading_findCodes (fun M9 h1 h2 => ?_) h1 h2
    refine ⟨fun hc => ?_, fun hc => ?_⟩
    · replace h1 := h1.1 hc
      replace h2 := h2.1 hc
      exact hQ _ _ h1 h2
    · replace h1 := h1.2 hc
      replace h2 := h2.2 hc
      refine and_Reading_bestSplit (fun r11 M12 h1 h2 => ?_) h1 h2
      exact hQ _ _ h1 h2
theorem and_E_cover  {N : Nat} {M : MM} {Q1 Q2 Q3 : Int32 → Prop} (hQ : ∀ (r : Int32), Q1 r → Q2 r → Q3 r) (h1 : W_E_cover  N M Q1) (h2 : W_E_cover  N M Q2) : W_E_cover  N M Q3 := by
  unfold W_E_cover at h1 h2 ⊢
  refine and_Inquiry_fewestKnowers (fun r1 h1 h2 => ?_) h1 h2
  exact hQ _ h1 h2
theorem and_E_dies {p1 : Int32} {N : Nat} {M : MM} {Q1 Q2 Q3 : Int32 → Prop} {E1 E2 E3 : Nat → Prop} (hQ : ∀ (r : Int32), Q1 r → Q2 r → Q3 r) (hE : ∀ (ce : Nat), E1 ce → E2 ce → E3 ce) (h1 : W_E_dies p1 N M Q1 E1) (h2 : W_E_dies p1 N M Q2 E2) : W_E_dies p1 N M Q3 E3 := by
  unfold W_E_dies at h1 h2 ⊢
  refine and_E_needCitizen (fun h1 h2 => ?_) (fun ce h1 h2 => hE ce h1 h2) h1 h2
  refine and_E_needAlive (fun h1 h2 => ?_) (fun ce h1 h2 => hE ce h1 h2) h1 h2
  refine and_Inquiry_knownByOnly (fun r5 h1 h2 => ?_) h1 h2
  exact hQ _ h1 h2
theorem and_E_heirs {p1 : Int32} {N : Nat} {M : MM} {Q1 Q2 Q3 : Int32 → Prop} {E1 E2 E3 : Nat → Prop} (hQ : ∀ (r : Int32), Q1 r → Q2 r → Q3 r) (hE : ∀ (ce : Nat), E1 ce → E2 ce → E3 ce) (h1 : W_E_heirs p1 N M Q1 E1) (h2 : W_E_heirs p1 N M Q2 E2) : W_E_heirs p1 N M Q3 E3 := by
  unfold W_E_heirs at h1 h2 ⊢
  refine and_E_needNumber (fun h1 h2 => ?_) (fun ce h1 h2 => hE ce h1 h2) h1 h2
  refine and_Inquiry_tellingsFor (fun r3 h1 h2 => ?_) h1 h2
  exact hQ _ h1 h2
theorem and_E_risk {p1 : Int32} {p2 : Int32} {N : Nat} {M : MM} {Q1 Q2 Q3 : Int32 → MM → Prop} {E1 E2 E3 : Nat → MM → Prop} (hQ : ∀ (r : Int32) (M1 : MM), Q1 r M1 → Q2 r M1 → Q3 r M1) (hE : ∀ (ce : Nat) (M1 : MM), E1 ce M1 → E2 ce M1 → E3 ce M1) (h1 : W_E_risk p1 p2 N M Q1 E1) (h2 : W_E_risk p1 p2 N M Q2 E2) : W_E_risk p1 p2 N M Q3 E3 := by
  unfold W_E_risk at h1 h2 ⊢
  refine and_E_needCitizen (fun h1 h2 => ?_) (fun ce h1 h2 => hE ce _ h1 h2) h1 h2
  refine and_E_needNumber (fun h1 h2 => ?_) (fun ce h1 h2 => hE ce _ h1 h2) h1 h2
  refine and_E_needAlive (fun h1 h2 => ?_) (fun ce h1 h2 => hE ce _ h1 h2) h1 h2
  refine and_Outlook_riskFrom (fun r7 M8 h1 h2 => ?_) h1 h2
  exact hQ _ _ h1 h2
theorem and_E_safe {p1 : Int32} {p2 : Int32} {N : Nat} {M : MM} {Q1 Q2 Q3 : Int32 → Prop} {E1 E2 E3 : Nat → Prop} (hQ : ∀ (r : Int32), Q1 r → Q2 r → Q3 r) (hE : ∀ (ce : Nat), E1 ce → E2 ce → E3 ce) (h1 : W_E_safe p1 p2 N M Q1 E1) (h2 : W_E_safe p1 p2 N M Q2 E2) : W_E_safe p1 p2 N M Q3 E3 := by
  unfold W_E_safe at h1 h2 ⊢
  refine and_E_needCitizen (fun h1 h2 => ?_) (fun ce h1 h2 => hE ce h1 h2) h1 h2
  refine and_E_needIndex (fun h1 h2 => ?_) (fun ce h1 h2 => hE ce h1 h2) h1 h2
  refine and_E_needAlive (fun h1 h2 => ?_) (fun ce h1 h2 => hE ce h1 h2) h1 h2
  refine and_Inquiry_firstFreePlace (fun r7 h1 h2 => ?_) h1 h2
  exact hQ _ h1 h2
theorem and_E_better {p1 : Int32} {p2 : Int32} {N : Nat} {M : MM} {Q1 Q2 Q3 : Int32 → MM → Prop} {E1 E2 E3 : Nat → MM → Prop} (hQ : ∀ (r : Int32) (M1 : MM), Q1 r M1 → Q2 r M1 → Q3 r M1) (hE : ∀ (ce : Nat) (M1 : MM), E1 ce M1 → E2 ce M1 → E3 ce M1) (h1 : W_E_better p1 p2 N M Q1 E1) (h2 : W_E_better p1 p2 N M Q2 E2) : W_E_better p1 p2 N M Q3 E3 := by
  unfold W_E_better at h1 h2 ⊢
  refine and_E_needCitizen (fun h1 h2 => ?_) (fun ce h1 h2 => hE ce _ h1 h2) h1 h2
  refine and_E_needNumber (fun h1 h2 => ?_) (fun ce h1 h2 => hE ce _ h1 h2) h1 h2
  refine and_E_needAlive (fun h1 h2 => ?_) (fun ce h1 h2 => hE ce _ h1 h2) h1 h2
  refine and_Outlook_bestStart (fun r7 M8 h1 h2 => ?_) h1 h2
  exact hQ _ _ h1 h2
theorem and_E_telling {p1 : Int32} {p2 : Int32} {N : Nat} {M : MM} {Q1 Q2 Q3 : Int32 → MM → Prop} {E1 E2 E3 : Nat → MM → Prop} (hQ : ∀ (r : Int32) (M1 : MM), Q1 r M1 → Q2 r M1 → Q3 r M1) (hE : ∀ (ce : Nat) (M1 : MM), E1 ce M1 → E2 ce M1 → E3 ce M1) (h1 : W_E_telling p1 p2 N M Q1 E1) (h2 : W_E_telling p1 p2 N M Q2 E2) : W_E_telling p1 p2 N M Q3 E3 := by
  unfold W_E_telling at h1 h2 ⊢
  refine and_E_needNumber (fun h1 h2 => ?_) (fun ce h1 h2 => hE ce _ h1 h2) h1 h2
  refine and_Outlook_findTelling (fun M4 h1 h2 => ?_) h1 h2
  refine ⟨fun hc => ?_, fun hc => ?_⟩
  · replace h1 := h1.1 hc
    replace h2 := h2.1 hc
    exact hQ _ _ h1 h2
  · replace h1 := h1.2 hc
    replace h2 := h2.2 hc
    exact hQ _ _ h1 h2
theorem and_E_deduced {p1 : Int32} {N : Nat} {M : MM} {Q1 Q2 Q3 : Int32 → Prop} {E1 E2 E3 : Nat → Prop} (hQ : ∀ (r : Int32), Q1 r → Q2 r → Q3 r) (hE : ∀ (ce : Nat), E1 ce → E2 ce → E3 ce) (h1 : W_E_deduced p1 N M Q1 E1) (h2 : W_E_deduced p1 N M Q2 E2) : W_E_deduced p1 N M Q3 E3 := by
  unfold W_E_deduced at h1 h2 ⊢
  refine and_E_needCitizen (fun h1 h2 => ?_) (fun ce h1 h2 => hE ce h1 h2) h1 h2
  refine and_E_needAlive (fun h1 h2 => ?_) (fun ce h1 h2 => hE ce h1 h2) h1 h2
  refine and_Inquiry_deducedBy (fun r5 h1 h2 => ?_) h1 h2
  exact hQ _ h1 h2
theorem and_E_hush {p1 : Int32} {N : Nat} {M : MM} {Q1 Q2 Q3 : Int32 → Prop} {E1 E2 E3 : Nat → Prop} (hQ : ∀ (r : Int32), Q1 r → Q2 r → Q3 r) (hE : ∀ (ce : Nat), E1 ce → E2 ce → E3 ce) (h1 : W_E_hush p1 N M Q1 E1) (h2 : W_E_hush p1 N M Q2 E2) : W_E_hush p1 N M Q3 E3 := by
  unfold W_E_hush at h1 h2 ⊢
  refine and_E_needIndex (fun h1 h2 => ?_) (fun ce h1 h2 => hE ce h1 h2) h1 h2
  refine and_Inquiry_hushedPlaces (fun r3 h1 h2 => ?_) h1 h2
  exact hQ _ h1 h2
theorem and_E_usual {p1 : Int32} {N : Nat} {M : MM} {Q1 Q2 Q3 : Int32 → Prop} {E1 E2 E3 : Nat → Prop} (hQ : ∀ (r : Int32), Q1 r → Q2 r → Q3 r) (hE : ∀ (ce : Nat), E1 ce → E2 ce → E3 ce) (h1 : W_E_usual p1 N M Q1 E1) (h2 : W_E_usual p1 N M Q2 E2) : W_E_usual p1 N M Q3 E3 := by
  unfold W_E_usual at h1 h2 ⊢
  refine and_E_needIndex (fun h1 h2 => ?_) (fun ce h1 h2 => hE ce h1 h2) h1 h2
  refine and_Inquiry_usualDeed (fun r3 h1 h2 => ?_) h1 h2
  exact hQ _ h1 h2
theorem and_E_feared {p1 : Int32} {N : Nat} {M : MM} {Q1 Q2 Q3 : Int64 → Prop} (hQ : ∀ (r : Int64), Q1 r → Q2 r → Q3 r) (h1 : W_E_feared p1 N M Q1) (h2 : W_E_feared p1 N M Q2) : W_E_feared p1 N M Q3 := by
  unfold W_E_feared at h1 h2 ⊢
  refine ⟨fun hc => ?_, fun hc => ?_⟩
  · replace h1 := h1.1 hc
    replace h2 := h2.1 hc
    exact hQ _ h1 h2
  · replace h1 := h1.2 hc
    replace h2 := h2.2 hc
    refine ⟨fun hc => ?_, fun hc => ?_⟩
    · replace h1 := h1.1 hc
      replace h2 := h2.1 hc
      refine and_World_seenByAny (fun r3 h1 h2 => ?_) h1 h2
      exact hQ _ h1 h2
    · replace h1 := h1.2 hc
      replace h2 := h2.2 hc
      refine and_World_seenByAll (fun r5 h1 h2 => ?_) h1 h2
      exact hQ _ h1 h2
theorem and_E_custom_22 {p1 : Int32} {Q1 Q2 Q3 : Int32 → MM → Prop} {E1 E2 E3 : Nat → MM → Prop} (hQ : ∀ (r : Int32) (M1 : MM), Q1 r M1 → Q2 r M1 → Q3 r M1) (hE : ∀ (ce : Nat) (M1 : MM), E1 ce M1 → E2 ce M1 → E3 ce M1) : ∀ (N : Nat) (v2 : Int32) (v3 : Int32) (M : MM), W_E_custom_22 p1 Q1 E1 N v2 v3 M → W_E_custom_22 p1 Q2 E2 N v2 v3 M → W_E_custom_22 p1 Q3 E3 N v2 v3 M := by
  intro N
  induction N with
  | zero => intros; trivial
  | succ N IH =>
    intro v2 v3 M h1 h2
    replace h1 : B_E_custom_22 p1 Q1 E1 N (W_E_custom_22 p1 Q1 E1 N) v2 v3 M := h1
    replace h2 : B_E_custom_22 p1 Q2 E2 N (W_E_custom_22 p1 Q2 E2 N) v2 v3 M := h2
    show B_E_custom_22 p1 Q3 E3 N (W_E_custom_22 p1 Q3 E3 N) v2 v3 M
    unfold B_E_custom_22 at h1 h2 ⊢
    refine ⟨fun hc => ?_, fun hc => ?_⟩
    · replace h1 := h1.1 hc
      replace h2 := h2.1 hc
      refine ⟨fun hc => ?_, fun hc => ?_⟩
      · replace h1 := h1.1 hc
        replace h2 := h2.1 hc
        refine and_World_seenInSum (fun r7 h1 h2 => ?_) h1 h2
        exact hQ _ _ h1 h2
      · replace h1 := h1.2 hc
        replace h2 := h2.2 hc
        refine and_World_spreadFear (fun r9 M10 h1 h2 => ?_) h1 h2
        exact IH _ _ _ h1 h2
    · replace h1 := h1.2 hc
      replace h2 := h2.2 hc
      refine and_World_seenInSum (fun r11 h1 h2 => ?_) h1 h2
      exact hQ _ _ h1 h2
theorem and_E_custom {p1 : Int32} {N : Nat} {M : MM} {Q1 Q2 Q3 : Int32 → MM → Prop} {E1 E2 E3 : Nat → MM → Prop} (hQ : ∀ (r : Int32) (M1 : MM), Q1 r M1 → Q2 r M1 → Q3 r M1) (hE : ∀ (ce : Nat) (M1 : MM), E1 ce M1 → E2 ce M1 → E3 ce M1) (h1 : W_E_custom p1 N M Q1 E1) (h2 : W_E_custom p1 N M Q2 E2) : W_E_custom p1 N M Q3 E3 := by
  unfold W_E_custom at h1 h2 ⊢
  refine and_E_needNumber (fun h1 h2 => ?_) (fun ce h1 h2 => hE ce _ h1 h2) h1 h2
  refine and_World_become (fun M4 h1 h2 => ?_) h1 h2
  refine and_E_custom_22  hQ hE N _ _ _ h1 h2
theorem and_E_settles_13  {Q1 Q2 Q3 : Int32 → MM → Prop} (hQ : ∀ (r : Int32) (M1 : MM), Q1 r M1 → Q2 r M1 → Q3 r M1) : ∀ (N : Nat) (v1 : Int32) (M : MM), W_E_settles_13 Q1 N v1 M → W_E_settles_13 Q2 N v1 M → W_E_settles_13 Q3 N v1 M := by
  intro N
  induction N with
  | zero => intros; trivial
  | succ N IH =>
    intro v1 M h1 h2
    replace h1 : B_E_settles_13 Q1 N (W_E_settles_13 Q1 N) v1 M := h1
    replace h2 : B_E_settles_13 Q2 N (W_E_settles_13 Q2 N) v1 M := h2
    show B_E_settles_13 Q3 N (W_E_settles_13 Q3 N) v1 M
    unfold B_E_settles_13 at h1 h2 ⊢
    refine ⟨fun hc => ?_, fun hc => ?_⟩
    · replace h1 := h1.1 hc
      replace h2 := h2.1 hc
      exact hQ _ _ h1 h2
    · replace h1 := h1.2 hc
      replace h2 := h2.2 hc
      refine and_World_spreadFear (fun r4 M5 h1 h2 => ?_) h1 h2
      refine ⟨fun hc => ?_, fun hc => ?_⟩
      · replace h1 := h1.1 hc
        replace h2 := h2.1 hc
        exact hQ _ _ h1 h2
      · replace h1 := h1.2 hc
        replace h2 := h2.2 hc
        exact IH _ _ h1 h2
theorem and_E_settles  {N : Nat} {M : MM} {Q1 Q2 Q3 : Int32 → MM → Prop} (hQ : ∀ (r : Int32) (M1 : MM), Q1 r M1 → Q2 r M1 → Q3 r M1) (h1 : W_E_settles  N M Q1) (h2 : W_E_settles  N M Q2) : W_E_settles  N M Q3 := by
  unfold W_E_settles at h1 h2 ⊢
  refine and_World_become (fun M2 h1 h2 => ?_) h1 h2
  refine and_E_settles_13  hQ N _ _ h1 h2
theorem and_E_provoked {p1 : Int32} {p2 : Int32} {N : Nat} {M : MM} {Q1 Q2 Q3 : Int32 → Prop} {E1 E2 E3 : Nat → Prop} (hQ : ∀ (r : Int32), Q1 r → Q2 r → Q3 r) (hE : ∀ (ce : Nat), E1 ce → E2 ce → E3 ce) (h1 : W_E_provoked p1 p2 N M Q1 E1) (h2 : W_E_provoked p1 p2 N M Q2 E2) : W_E_provoked p1 p2 N M Q3 E3 := by
  unfold W_E_provoked at h1 h2 ⊢
  refine and_E_needCitizen (fun h1 h2 => ?_) (fun ce h1 h2 => hE ce h1 h2) h1 h2
  refine and_E_needAlive (fun h1 h2 => ?_) (fun ce h1 h2 => hE ce h1 h2) h1 h2
  refine and_Inquiry_mostWorth (fun r5 h1 h2 => ?_) h1 h2
  refine ⟨fun hc => ?_, fun hc => ?_⟩
  · replace h1 := h1.1 hc
    replace h2 := h2.1 hc
    refine and_Inquiry_worthOf (fun r8 h1 h2 => ?_) h1 h2
    exact hQ _ h1 h2
  · replace h1 := h1.2 hc
    replace h2 := h2.2 hc
    refine and_Inquiry_mostWorth (fun r10 h1 h2 => ?_) h1 h2
    refine ⟨fun hc => ?_, fun hc => ?_⟩
    · replace h1 := h1.1 hc
      replace h2 := h2.1 hc
      exact hQ _ h1 h2
    · replace h1 := h1.2 hc
      replace h2 := h2.2 hc
      refine and_Inquiry_worthOf (fun r13 h1 h2 => ?_) h1 h2
      exact hQ _ h1 h2
theorem and_E_crowd {p1 : Int32} {p2 : Int32} {N : Nat} {M : MM} {Q1 Q2 Q3 : Int32 → Prop} {E1 E2 E3 : Nat → Prop} (hQ : ∀ (r : Int32), Q1 r → Q2 r → Q3 r) (hE : ∀ (ce : Nat), E1 ce → E2 ce → E3 ce) (h1 : W_E_crowd p1 p2 N M Q1 E1) (h2 : W_E_crowd p1 p2 N M Q2 E2) : W_E_crowd p1 p2 N M Q3 E3 := by
  unfold W_E_crowd at h1 h2 ⊢
  refine and_E_needIndex (fun h1 h2 => ?_) (fun ce h1 h2 => hE ce h1 h2) h1 h2
  refine and_E_needNumber (fun h1 h2 => ?_) (fun ce h1 h2 => hE ce h1 h2) h1 h2
  refine and_Inquiry_crowdAt (fun r5 h1 h2 => ?_) h1 h2
  exact hQ _ h1 h2
theorem and_E_witnesses {p1 : Int32} {p2 : Int32} {p3 : Int32} {N : Nat} {M : MM} {Q1 Q2 Q3 : Int32 → Prop} {E1 E2 E3 : Nat → Prop} (hQ : ∀ (r : Int32), Q1 r → Q2 r → Q3 r) (hE : ∀ (ce : Nat), E1 ce → E2 ce → E3 ce) (h1 : W_E_witnesses p1 p2 p3 N M Q1 E1) (h2 : W_E_witnesses p1 p2 p3 N M Q2 E2) : W_E_witnesses p1 p2 p3 N M Q3 E3 := by
  unfold W_E_witnesses at h1 h2 ⊢
  refine and_E_needCitizen (fun h1 h2 => ?_) (fun ce h1 h2 => hE ce h1 h2) h1 h2
  refine and_E_needCitizen (fun h1 h2 => ?_) (fun ce h1 h2 => hE ce h1 h2) h1 h2
  refine and_E_needTwo (fun h1 h2 => ?_) (fun ce h1 h2 => hE ce h1 h2) h1 h2
  refine and_E_needNumber (fun h1 h2 => ?_) (fun ce h1 h2 => hE ce h1 h2) h1 h2
  refine and_Inquiry_meetings (fun r9 h1 h2 => ?_) h1 h2
  exact hQ _ h1 h2
theorem and_E_tryDays_21 {p1 : Int32} {p2 : Int32} {Q1 Q2 Q3 : MM → Prop} (hQ : ∀  (M1 : MM), Q1 M1 → Q2 M1 → Q3 M1) : ∀ (N : Nat) (v3 : Int32) (M : MM), W_E_tryDays_21 p1 p2 Q1 N v3 M → W_E_tryDays_21 p1 p2 Q2 N v3 M → W_E_tryDays_21 p1 p2 Q3 N v3 M := by
  intro N
  induction N with
  | zero => intros; trivial
  | succ N IH =>
    intro v3 M h1 h2
    replace h1 : B_E_tryDays_21 p1 p2 Q1 N (W_E_tryDays_21 p1 p2 Q1 N) v3 M := h1
    replace h2 : B_E_tryDays_21 p1 p2 Q2 N (W_E_tryDays_21 p1 p2 Q2 N) v3 M := h2
    show B_E_tryDays_21 p1 p2 Q3 N (W_E_tryDays_21 p1 p2 Q3 N) v3 M
    unfold B_E_tryDays_21 at h1 h2 ⊢
    refine ⟨fun hc => ?_, fun hc => ?_⟩
    · replace h1 := h1.1 hc
      replace h2 := h2.1 hc
      refine and_World_passDay (fun M5 h1 h2 => ?_) h1 h2
      exact IH _ _ h1 h2
    · replace h1 := h1.2 hc
      replace h2 := h2.2 hc
      exact hQ _ h1 h2
theorem and_E_tryDays {p1 : Int32} {p2 : Int32} {N : Nat} {M : MM} {Q1 Q2 Q3 : MM → Prop} (hQ : ∀  (M1 : MM), Q1 M1 → Q2 M1 → Q3 M1) (h1 : W_E_tryDays p1 p2 N M Q1) (h2 : W_E_tryDays p1 p2 N M Q2) : W_E_tryDays p1 p2 N M Q3 := by
  unfold W_E_tryDays at h1 h2 ⊢
  refine and_World_become (fun M2 h1 h2 => ?_) h1 h2
  refine and_E_tryDays_21  hQ N _ _ h1 h2
theorem and_E_trial {p1 : Int32} {p2 : Int32} {N : Nat} {M : MM} {Q1 Q2 Q3 : Int32 → MM → Prop} {E1 E2 E3 : Nat → MM → Prop} (hQ : ∀ (r : Int32) (M1 : MM), Q1 r M1 → Q2 r M1 → Q3 r M1) (hE : ∀ (ce : Nat) (M1 : MM), E1 ce M1 → E2 ce M1 → E3 ce M1) (h1 : W_E_trial p1 p2 N M Q1 E1) (h2 : W_E_trial p1 p2 N M Q2 E2) : W_E_trial p1 p2 N M Q3 E3 := by
  unfold W_E_trial at h1 h2 ⊢
  refine and_E_needNumber (fun h1 h2 => ?_) (fun ce h1 h2 => hE ce _ h1 h2) h1 h2
  refine ⟨fun hc => ?_, fun hc => ?_⟩
  · replace h1 := h1.1 hc
    replace h2 := h2.1 hc
    exact hE _ _ h1 h2
  · replace h1 := h1.2 hc
    replace h2 := h2.2 hc
    refine ⟨fun hc => ?_, fun hc => ?_⟩
    · replace h1 := h1.1 hc
      replace h2 := h2.1 hc
      exact hE _ _ h1 h2
    · replace h1 := h1.2 hc
      replace h2 := h2.2 hc
      refine and_E_tryDays (fun M6 h1 h2 => ?_) h1 h2
      refine ⟨?_, ?_, ?_, ?_⟩
      · intro hc
        replace h1 := h1.1 hc
        replace h2 := h2.1 hc
        exact hQ _ _ h1 h2
      · intro hc
        replace h1 := h1.2.1 hc
        replace h2 := h2.2.1 hc
        exact hQ _ _ h1 h2
      · intro hc
        replace h1 := h1.2.2.1 hc
        replace h2 := h2.2.2.1 hc
        refine and_World_takenOnes (fun r10 h1 h2 => ?_) h1 h2
        exact hQ _ _ h1 h2
      · intro hc0 hc1 hc2
        replace h1 := h1.2.2.2 hc0 hc1 hc2
        replace h2 := h2.2.2.2 hc0 hc1 hc2
        refine and_World_seenInSum (fun r8 h1 h2 => ?_) h1 h2
        exact hQ _ _ h1 h2
theorem and_E_span_12 {p1 : Int32} {p2 : Int32} {Q1 Q2 Q3 : Int32 → MM → Prop} {E1 E2 E3 : Nat → MM → Prop} (hQ : ∀ (r : Int32) (M1 : MM), Q1 r M1 → Q2 r M1 → Q3 r M1) (hE : ∀ (ce : Nat) (M1 : MM), E1 ce M1 → E2 ce M1 → E3 ce M1) : ∀ (N : Nat) (v3 : Int32) (v4 : Int32) (M : MM), W_E_span_12 p1 p2 Q1 E1 N v3 v4 M → W_E_span_12 p1 p2 Q2 E2 N v3 v4 M → W_E_span_12 p1 p2 Q3 E3 N v3 v4 M := by
  intro N
  induction N with
  | zero => intros; trivial
  | succ N IH =>
    intro v3 v4 M h1 h2
    replace h1 : B_E_span_12 p1 p2 Q1 E1 N (W_E_span_12 p1 p2 Q1 E1 N) v3 v4 M := h1
    replace h2 : B_E_span_12 p1 p2 Q2 E2 N (W_E_span_12 p1 p2 Q2 E2 N) v3 v4 M := h2
    show B_E_span_12 p1 p2 Q3 E3 N (W_E_span_12 p1 p2 Q3 E3 N) v3 v4 M
    unfold B_E_span_12 at h1 h2 ⊢
    refine ⟨fun hc => ?_, fun hc => ?_⟩
    · replace h1 := h1.1 hc
      replace h2 := h2.1 hc
      exact hQ _ _ h1 h2
    · replace h1 := h1.2 hc
      replace h2 := h2.2 hc
      refine and_E_tryDays (fun M5 h1 h2 => ?_) h1 h2
      refine ⟨fun hc => ?_, fun hc => ?_⟩
      · replace h1 := h1.1 hc
        replace h2 := h2.1 hc
        exact IH _ _ _ h1 h2
      · replace h1 := h1.2 hc
        replace h2 := h2.2 hc
        refine ⟨fun hc => ?_, fun hc => ?_⟩
        · replace h1 := h1.1 hc
          replace h2 := h2.1 hc
          refine ⟨fun hc => ?_, fun hc => ?_⟩
          · replace h1 := h1.1 hc
            replace h2 := h2.1 hc
            exact IH _ _ _ h1 h2
          · replace h1 := h1.2 hc
            replace h2 := h2.2 hc
            exact IH _ _ _ h1 h2
        · replace h1 := h1.2 hc
          replace h2 := h2.2 hc
          refine ⟨fun hc => ?_, fun hc => ?_⟩
          · replace h1 := h1.1 hc
            replace h2 := h2.1 hc
            exact IH _ _ _ h1 h2
          · replace h1 := h1.2 hc
            replace h2 := h2.2 hc
            exact IH _ _ _ h1 h2
theorem and_E_span {p1 : Int32} {p2 : Int32} {N : Nat} {M : MM} {Q1 Q2 Q3 : Int32 → MM → Prop} {E1 E2 E3 : Nat → MM → Prop} (hQ : ∀ (r : Int32) (M1 : MM), Q1 r M1 → Q2 r M1 → Q3 r M1) (hE : ∀ (ce : Nat) (M1 : MM), E1 ce M1 → E2 ce M1 → E3 ce M1) (h1 : W_E_span p1 p2 N M Q1 E1) (h2 : W_E_span p1 p2 N M Q2 E2) : W_E_span p1 p2 N M Q3 E3 := by
  unfold W_E_span at h1 h2 ⊢
  refine and_E_needNumber (fun h1 h2 => ?_) (fun ce h1 h2 => hE ce _ h1 h2) h1 h2
  refine and_E_span_12  hQ hE N _ _ _ h1 h2
theorem and_E_first_13  {Q1 Q2 Q3 : Int32 → MM → Prop} (hQ : ∀ (r : Int32) (M1 : MM), Q1 r M1 → Q2 r M1 → Q3 r M1) : ∀ (N : Nat) (v1 : Int32) (M : MM), W_E_first_13 Q1 N v1 M → W_E_first_13 Q2 N v1 M → W_E_first_13 Q3 N v1 M := by
  intro N
  induction N with
  | zero => intros; trivial
  | succ N IH =>
    intro v1 M h1 h2
    replace h1 : B_E_first_13 Q1 N (W_E_first_13 Q1 N) v1 M := h1
    replace h2 : B_E_first_13 Q2 N (W_E_first_13 Q2 N) v1 M := h2
    show B_E_first_13 Q3 N (W_E_first_13 Q3 N) v1 M
    unfold B_E_first_13 at h1 h2 ⊢
    refine ⟨fun hc => ?_, fun hc => ?_⟩
    · replace h1 := h1.1 hc
      replace h2 := h2.1 hc
      exact hQ _ _ h1 h2
    · replace h1 := h1.2 hc
      replace h2 := h2.2 hc
      refine and_World_passDay (fun M5 h1 h2 => ?_) h1 h2
      refine ⟨fun hc => ?_, fun hc => ?_⟩
      · replace h1 := h1.1 hc
        replace h2 := h2.1 hc
        exact IH _ _ h1 h2
      · replace h1 := h1.2 hc
        replace h2 := h2.2 hc
        exact hQ _ _ h1 h2
theorem and_E_first  {N : Nat} {M : MM} {Q1 Q2 Q3 : Int32 → MM → Prop} (hQ : ∀ (r : Int32) (M1 : MM), Q1 r M1 → Q2 r M1 → Q3 r M1) (h1 : W_E_first  N M Q1) (h2 : W_E_first  N M Q2) : W_E_first  N M Q3 := by
  unfold W_E_first at h1 h2 ⊢
  refine and_World_become (fun M2 h1 h2 => ?_) h1 h2
  refine and_E_first_13  hQ N _ _ h1 h2
theorem and_E_led {p1 : Int32} {N : Nat} {M : MM} {Q1 Q2 Q3 : Int32 → Prop} {E1 E2 E3 : Nat → Prop} (hQ : ∀ (r : Int32), Q1 r → Q2 r → Q3 r) (hE : ∀ (ce : Nat), E1 ce → E2 ce → E3 ce) (h1 : W_E_led p1 N M Q1 E1) (h2 : W_E_led p1 N M Q2 E2) : W_E_led p1 N M Q3 E3 := by
  unfold W_E_led at h1 h2 ⊢
  refine ⟨fun hc => ?_, fun hc => ?_⟩
  · replace h1 := h1.1 hc
    replace h2 := h2.1 hc
    refine and_Log_clausesOf (fun r2 h1 h2 => ?_) h1 h2
    exact hQ _ h1 h2
  · replace h1 := h1.2 hc
    replace h2 := h2.2 hc
    refine and_E_needCitizen (fun h1 h2 => ?_) (fun ce h1 h2 => hE ce h1 h2) h1 h2
    refine and_Log_clausesOf (fun r6 h1 h2 => ?_) h1 h2
    exact hQ _ h1 h2
theorem and_E_worst  {N : Nat} {M : MM} {Q1 Q2 Q3 : Int32 → Prop} (hQ : ∀ (r : Int32), Q1 r → Q2 r → Q3 r) (h1 : W_E_worst  N M Q1) (h2 : W_E_worst  N M Q2) : W_E_worst  N M Q3 := by
  unfold W_E_worst at h1 h2 ⊢
  refine and_Log_mostFrequentClause (fun r1 h1 h2 => ?_) h1 h2
  exact hQ _ h1 h2
theorem and_E_log {p1 : Int32} {p2 : Int32} {N : Nat} {M : MM} {Q1 Q2 Q3 : Int32 → Prop} {E1 E2 E3 : Nat → Prop} (hQ : ∀ (r : Int32), Q1 r → Q2 r → Q3 r) (hE : ∀ (ce : Nat), E1 ce → E2 ce → E3 ce) (h1 : W_E_log p1 p2 N M Q1 E1) (h2 : W_E_log p1 p2 N M Q2 E2) : W_E_log p1 p2 N M Q3 E3 := by
  unfold W_E_log at h1 h2 ⊢
  refine ⟨fun hc => ?_, fun hc => ?_⟩
  · replace h1 := h1.1 hc
    replace h2 := h2.1 hc
    exact hE _ h1 h2
  · replace h1 := h1.2 hc
    replace h2 := h2.2 hc
    refine ⟨fun hc => ?_, fun hc => ?_⟩
    · replace h1 := h1.1 hc
      replace h2 := h2.1 hc
      exact hQ _ h1 h2
    · replace h1 := h1.2 hc
      replace h2 := h2.2 hc
      exact hE _ h1 h2
theorem and_E_seed {p1 : Int32} {N : Nat} {M : MM} {Q1 Q2 Q3 : Int32 → MM → Prop} (hQ : ∀ (r : Int32) (M1 : MM), Q1 r M1 → Q2 r M1 → Q3 r M1) (h1 : W_E_seed p1 N M Q1) (h2 : W_E_seed p1 N M Q2) : W_E_seed p1 N M Q3 := by
  unfold W_E_seed at h1 h2 ⊢
  exact hQ _ _ h1 h2
theorem and_E_undo  {N : Nat} {M : MM} {Q1 Q2 Q3 : Int32 → MM → Prop} (hQ : ∀ (r : Int32) (M1 : MM), Q1 r M1 → Q2 r M1 → Q3 r M1) (h1 : W_E_undo  N M Q1) (h2 : W_E_undo  N M Q2) : W_E_undo  N M Q3 := by
  unfold W_E_undo at h1 h2 ⊢
  refine and_Memory_takeBack (fun r1 M2 h1 h2 => ?_) h1 h2
  exact hQ _ _ h1 h2
theorem and_E_image  {N : Nat} {M : MM} {Q1 Q2 Q3 : MM → Prop} (hQ : ∀  (M1 : MM), Q1 M1 → Q2 M1 → Q3 M1) (h1 : W_E_image  N M Q1) (h2 : W_E_image  N M Q2) : W_E_image  N M Q3 := by
  unfold W_E_image at h1 h2 ⊢
  refine and_Law_become (fun M2 h1 h2 => ?_) h1 h2
  refine and_World_become (fun M4 h1 h2 => ?_) h1 h2
  exact hQ _ h1 h2
theorem and_E_back  {N : Nat} {M : MM} {Q1 Q2 Q3 : Int32 → MM → Prop} (hQ : ∀ (r : Int32) (M1 : MM), Q1 r M1 → Q2 r M1 → Q3 r M1) (h1 : W_E_back  N M Q1) (h2 : W_E_back  N M Q2) : W_E_back  N M Q3 := by
  unfold W_E_back at h1 h2 ⊢
  refine ⟨fun hc => ?_, fun hc => ?_⟩
  · replace h1 := h1.1 hc
    replace h2 := h2.1 hc
    exact hQ _ _ h1 h2
  · replace h1 := h1.2 hc
    replace h2 := h2.2 hc
    refine and_Law_become (fun M3 h1 h2 => ?_) h1 h2
    refine and_World_become (fun M5 h1 h2 => ?_) h1 h2
    refine and_Memory_forget (fun M7 h1 h2 => ?_) h1 h2
    exact hQ _ _ h1 h2
theorem and_E_count {p1 : Int32} {N : Nat} {M : MM} {Q1 Q2 Q3 : Int32 → Prop} (hQ : ∀ (r : Int32), Q1 r → Q2 r → Q3 r) (h1 : W_E_count p1 N M Q1) (h2 : W_E_count p1 N M Q2) : W_E_count p1 N M Q3 := by
  unfold W_E_count at h1 h2 ⊢
  refine ⟨?_, ?_, ?_, ?_, ?_, ?_, ?_, ?_, ?_, ?_, ?_, ?_, ?_, ?_, ?_⟩
  · intro hc
    replace h1 := h1.1 hc
    replace h2 := h2.1 hc
    refine ⟨fun hc => ?_, fun hc => ?_⟩
    · replace h1 := h1.1 hc
      replace h2 := h2.1 hc
      exact hQ _ h1 h2
    · replace h1 := h1.2 hc
      replace h2 := h2.2 hc
      exact hQ _ h1 h2
  · intro hc
    replace h1 := h1.2.1 hc
    replace h2 := h2.2.1 hc
    exact hQ _ h1 h2
  · intro hc
    replace h1 := h1.2.2.1 hc
    replace h2 := h2.2.2.1 hc
    exact hQ _ h1 h2
  · intro hc
    replace h1 := h1.2.2.2.1 hc
    replace h2 := h2.2.2.2.1 hc
    exact hQ _ h1 h2
  · intro hc
    replace h1 := h1.2.2.2.2.1 hc
    replace h2 := h2.2.2.2.2.1 hc
    exact hQ _ h1 h2
  · intro hc
    replace h1 := h1.2.2.2.2.2.1 hc
    replace h2 := h2.2.2.2.2.2.1 hc
    refine and_World_inForce (fun r3 h1 h2 => ?_) h1 h2
    exact hQ _ h1 h2
  · intro hc
    replace h1 := h1.2.2.2.2.2.2.1 hc
    replace h2 := h2.2.2.2.2.2.2.1 hc
    refine and_World_takenOnes (fun r5 h1 h2 => ?_) h1 h2
    exact hQ _ h1 h2
  · intro hc
    replace h1 := h1.2.2.2.2.2.2.2.1 hc
    replace h2 := h2.2.2.2.2.2.2.2.1 hc
    exact hQ _ h1 h2
  · intro hc
    replace h1 := h1.2.2.2.2.2.2.2.2.1 hc
    replace h2 := h2.2.2.2.2.2.2.2.2.1 hc
    exact hQ _ h1 h2
  · intro hc
    replace h1 := h1.2.2.2.2.2.2.2.2.2.1 hc
    replace h2 := h2.2.2.2.2.2.2.2.2.2.1 hc
    exact hQ _ h1 h2
  · intro hc
    replace h1 := h1.2.2.2.2.2.2.2.2.2.2.1 hc
    replace h2 := h2.2.2.2.2.2.2.2.2.2.2.1 hc
    exact hQ _ h1 h2
  · intro hc
    replace h1 := h1.2.2.2.2.2.2.2.2.2.2.2.1 hc
    replace h2 := h2.2.2.2.2.2.2.2.2.2.2.2.1 hc
    exact hQ _ h1 h2
  · intro hc
    replace h1 := h1.2.2.2.2.2.2.2.2.2.2.2.2.1 hc
    replace h2 := h2.2.2.2.2.2.2.2.2.2.2.2.2.1 hc
    exact hQ _ h1 h2
  · intro hc
    replace h1 := h1.2.2.2.2.2.2.2.2.2.2.2.2.2.1 hc
    replace h2 := h2.2.2.2.2.2.2.2.2.2.2.2.2.2.1 hc
    exact hQ _ h1 h2
  · intro hc0 hc1 hc2 hc3 hc4 hc5 hc6 hc7 hc8 hc9 hc10 hc11 hc12 hc13
    replace h1 := h1.2.2.2.2.2.2.2.2.2.2.2.2.2.2 hc0 hc1 hc2 hc3 hc4 hc5 hc6 hc7 hc8 hc9 hc10 hc11 hc12 hc13
    replace h2 := h2.2.2.2.2.2.2.2.2.2.2.2.2.2.2 hc0 hc1 hc2 hc3 hc4 hc5 hc6 hc7 hc8 hc9 hc10 hc11 hc12 hc13
    exact hQ _ h1 h2
theorem and_m_throwsIf {p1 : Int32} {p2 : Int32} {N : Nat} {M : MM} {Q1 Q2 Q3 : Int32 → MM → Prop} (hQ : ∀ (r : Int32) (M1 : MM), Q1 r M1 → Q2 r M1 → Q3 r M1) (h1 : W_m_throwsIf p1 p2 N M Q1) (h2 : W_m_throwsIf p1 p2 N M Q2) : W_m_throwsIf p1 p2 N M Q3 := by
  unfold W_m_throwsIf at h1 h2 ⊢
  refine ⟨fun hc => ?_, fun hc => ?_⟩
  · replace h1 := h1.1 hc
    replace h2 := h2.1 hc
    exact hQ _ _ h1 h2
  · replace h1 := h1.2 hc
    replace h2 := h2.2 hc
    exact hQ _ _ h1 h2
theorem and_m_likens_3 {a : Nat} {p1 : Int32} {b : Nat} {p3 : Int32} {Q1 Q2 Q3 : MM → Prop} (hQ : ∀  (M1 : MM), Q1 M1 → Q2 M1 → Q3 M1) : ∀ (N : Nat) (v4 : Int32) (M : MM), W_m_likens_3 a p1 b p3 Q1 N v4 M → W_m_likens_3 a p1 b p3 Q2 N v4 M → W_m_likens_3 a p1 b p3 Q3 N v4 M := by
  intro N
  induction N with
  | zero => intros; trivial
  | succ N IH =>
    intro v4 M h1 h2
    replace h1 : B_m_likens_3 a p1 b p3 Q1 N (W_m_likens_3 a p1 b p3 Q1 N) v4 M := h1
    replace h2 : B_m_likens_3 a p1 b p3 Q2 N (W_m_likens_3 a p1 b p3 Q2 N) v4 M := h2
    show B_m_likens_3 a p1 b p3 Q3 N (W_m_likens_3 a p1 b p3 Q3 N) v4 M
    unfold B_m_likens_3 at h1 h2 ⊢
    refine ⟨fun hc => ?_, fun hc => ?_⟩
    · replace h1 := h1.1 hc
      replace h2 := h2.1 hc
      exact IH _ _ h1 h2
    · replace h1 := h1.2 hc
      replace h2 := h2.2 hc
      exact hQ _ h1 h2
theorem and_m_likens {a : Nat} {p1 : Int32} {b : Nat} {p3 : Int32} {N : Nat} {M : MM} {Q1 Q2 Q3 : MM → Prop} (hQ : ∀  (M1 : MM), Q1 M1 → Q2 M1 → Q3 M1) (h1 : W_m_likens a p1 b p3 N M Q1) (h2 : W_m_likens a p1 b p3 N M Q2) : W_m_likens a p1 b p3 N M Q3 := by
  unfold W_m_likens at h1 h2 ⊢
  refine and_m_likens_3  hQ N _ _ h1 h2
theorem and_m_likensSeen_3 {a : Nat} {p1 : Int32} {b : Nat} {p3 : Int32} {Q1 Q2 Q3 : MM → Prop} (hQ : ∀  (M1 : MM), Q1 M1 → Q2 M1 → Q3 M1) : ∀ (N : Nat) (v4 : Int32) (M : MM), W_m_likensSeen_3 a p1 b p3 Q1 N v4 M → W_m_likensSeen_3 a p1 b p3 Q2 N v4 M → W_m_likensSeen_3 a p1 b p3 Q3 N v4 M := by
  intro N
  induction N with
  | zero => intros; trivial
  | succ N IH =>
    intro v4 M h1 h2
    replace h1 : B_m_likensSeen_3 a p1 b p3 Q1 N (W_m_likensSeen_3 a p1 b p3 Q1 N) v4 M := h1
    replace h2 : B_m_likensSeen_3 a p1 b p3 Q2 N (W_m_likensSeen_3 a p1 b p3 Q2 N) v4 M := h2
    show B_m_likensSeen_3 a p1 b p3 Q3 N (W_m_likensSeen_3 a p1 b p3 Q3 N) v4 M
    unfold B_m_likensSeen_3 at h1 h2 ⊢
    refine ⟨fun hc => ?_, fun hc => ?_⟩
    · replace h1 := h1.1 hc
      replace h2 := h2.1 hc
      exact IH _ _ h1 h2
    · replace h1 := h1.2 hc
      replace h2 := h2.2 hc
      exact hQ _ h1 h2
theorem and_m_likensSeen {a : Nat} {p1 : Int32} {b : Nat} {p3 : Int32} {N : Nat} {M : MM} {Q1 Q2 Q3 : MM → Prop} (hQ : ∀  (M1 : MM), Q1 M1 → Q2 M1 → Q3 M1) (h1 : W_m_likensSeen a p1 b p3 N M Q1) (h2 : W_m_likensSeen a p1 b p3 N M Q2) : W_m_likensSeen a p1 b p3 N M Q3 := by
  unfold W_m_likensSeen at h1 h2 ⊢
  refine and_m_likensSeen_3  hQ N _ _ h1 h2
theorem and_m_image  {N : Nat} {M : MM} {Q1 Q2 Q3 : MM → Prop} (hQ : ∀  (M1 : MM), Q1 M1 → Q2 M1 → Q3 M1) (h1 : W_m_image  N M Q1) (h2 : W_m_image  N M Q2) : W_m_image  N M Q3 := by
  unfold W_m_image at h1 h2 ⊢
  refine and_m_likens (fun M2 h1 h2 => ?_) h1 h2
  refine and_m_likensSeen (fun M4 h1 h2 => ?_) h1 h2
  exact hQ _ h1 h2
theorem and_m_back  {N : Nat} {M : MM} {Q1 Q2 Q3 : Int32 → MM → Prop} (hQ : ∀ (r : Int32) (M1 : MM), Q1 r M1 → Q2 r M1 → Q3 r M1) (h1 : W_m_back  N M Q1) (h2 : W_m_back  N M Q2) : W_m_back  N M Q3 := by
  unfold W_m_back at h1 h2 ⊢
  refine ⟨fun hc => ?_, fun hc => ?_⟩
  · replace h1 := h1.1 hc
    replace h2 := h2.1 hc
    exact hQ _ _ h1 h2
  · replace h1 := h1.2 hc
    replace h2 := h2.2 hc
    refine and_m_likens (fun M3 h1 h2 => ?_) h1 h2
    refine and_m_likensSeen (fun M5 h1 h2 => ?_) h1 h2
    exact hQ _ _ h1 h2
theorem and_m_remembers_2  {k67a k67b k67c : MM → Prop} {Q1 Q2 Q3 : MM → Prop} (hk67 : ∀  (M : MM), k67a M → k67b M → k67c M) (hQ : ∀  (M1 : MM), Q1 M1 → Q2 M1 → Q3 M1) : ∀ (N : Nat) (v1 : Int32) (M : MM), W_m_remembers_2 k67a Q1 N v1 M → W_m_remembers_2 k67b Q2 N v1 M → W_m_remembers_2 k67c Q3 N v1 M := by
  intro N
  induction N with
  | zero => intros; trivial
  | succ N IH =>
    intro v1 M h1 h2
    replace h1 : B_m_remembers_2 k67a Q1 N (W_m_remembers_2 k67a Q1 N) v1 M := h1
    replace h2 : B_m_remembers_2 k67b Q2 N (W_m_remembers_2 k67b Q2 N) v1 M := h2
    show B_m_remembers_2 k67c Q3 N (W_m_remembers_2 k67c Q3 N) v1 M
    unfold B_m_remembers_2 at h1 h2 ⊢
    refine ⟨fun hc => ?_, fun hc => ?_⟩
    · replace h1 := h1.1 hc
      replace h2 := h2.1 hc
      refine ⟨fun hc => ?_, fun hc => ?_⟩
      · replace h1 := h1.1 hc
        replace h2 := h2.1 hc
        refine and_m_likens (fun M4 h1 h2 => ?_) h1 h2
        refine and_m_likensSeen (fun M6 h1 h2 => ?_) h1 h2
        exact IH _ _ h1 h2
      · replace h1 := h1.2 hc
        replace h2 := h2.2 hc
        exact hk67 _ h1 h2
    · replace h1 := h1.2 hc
      replace h2 := h2.2 hc
      exact hk67 _ h1 h2
theorem and_m_remembers  {N : Nat} {M : MM} {Q1 Q2 Q3 : MM → Prop} (hQ : ∀  (M1 : MM), Q1 M1 → Q2 M1 → Q3 M1) (h1 : W_m_remembers  N M Q1) (h2 : W_m_remembers  N M Q2) : W_m_remembers  N M Q3 := by
  unfold W_m_remembers at h1 h2 ⊢
  refine and_m_remembers_2 (fun M7 h1 h2 => ?_) hQ N _ _ h1 h2
  · refine and_m_likens (fun M9 h1 h2 => ?_) h1 h2
    refine and_m_likensSeen (fun M11 h1 h2 => ?_) h1 h2
    exact hQ _ h1 h2
theorem and_m_undo  {N : Nat} {M : MM} {Q1 Q2 Q3 : Int32 → MM → Prop} (hQ : ∀ (r : Int32) (M1 : MM), Q1 r M1 → Q2 r M1 → Q3 r M1) (h1 : W_m_undo  N M Q1) (h2 : W_m_undo  N M Q2) : W_m_undo  N M Q3 := by
  unfold W_m_undo at h1 h2 ⊢
  refine ⟨fun hc => ?_, fun hc => ?_⟩
  · replace h1 := h1.1 hc
    replace h2 := h2.1 hc
    exact hQ _ _ h1 h2
  · replace h1 := h1.2 hc
    replace h2 := h2.2 hc
    refine and_m_likens (fun M3 h1 h2 => ?_) h1 h2
    refine and_m_likensSeen (fun M5 h1 h2 => ?_) h1 h2
    exact hQ _ _ h1 h2
theorem and_m_sets {p1 : Int32} {p2 : Int32} {p3 : Int32} {N : Nat} {M : MM} {Q1 Q2 Q3 : MM → Prop} (hQ : ∀  (M1 : MM), Q1 M1 → Q2 M1 → Q3 M1) (h1 : W_m_sets p1 p2 p3 N M Q1) (h2 : W_m_sets p1 p2 p3 N M Q2) : W_m_sets p1 p2 p3 N M Q3 := by
  unfold W_m_sets at h1 h2 ⊢
  exact hQ _ h1 h2
theorem and_m_draw {p1 : Int32} {N : Nat} {M : MM} {Q1 Q2 Q3 : Int32 → MM → Prop} (hQ : ∀ (r : Int32) (M1 : MM), Q1 r M1 → Q2 r M1 → Q3 r M1) (h1 : W_m_draw p1 N M Q1) (h2 : W_m_draw p1 N M Q2) : W_m_draw p1 N M Q3 := by
  unfold W_m_draw at h1 h2 ⊢
  exact hQ _ _ h1 h2
theorem and_m_feed_60 {p1 : Int32} {p2 : Int32} {p3 : Int32} {p4 : Int32} {p5 : Int32} {Q1 Q2 Q3 : Int32 → MM → Prop} (hQ : ∀ (r : Int32) (M1 : MM), Q1 r M1 → Q2 r M1 → Q3 r M1) : ∀ (N : Nat) (v6 : Int32) (M : MM), W_m_feed_60 p1 p2 p3 p4 p5 Q1 N v6 M → W_m_feed_60 p1 p2 p3 p4 p5 Q2 N v6 M → W_m_feed_60 p1 p2 p3 p4 p5 Q3 N v6 M := by
  intro N
  induction N with
  | zero => intros; trivial
  | succ N IH =>
    intro v6 M h1 h2
    replace h1 : B_m_feed_60 p1 p2 p3 p4 p5 Q1 N (W_m_feed_60 p1 p2 p3 p4 p5 Q1 N) v6 M := h1
    replace h2 : B_m_feed_60 p1 p2 p3 p4 p5 Q2 N (W_m_feed_60 p1 p2 p3 p4 p5 Q2 N) v6 M := h2
    show B_m_feed_60 p1 p2 p3 p4 p5 Q3 N (W_m_feed_60 p1 p2 p3 p4 p5 Q3 N) v6 M
    unfold B_m_feed_60 at h1 h2 ⊢
    refine ⟨fun hc => ?_, fun hc => ?_⟩
    · replace h1 := h1.1 hc
      replace h2 := h2.1 hc
      exact IH _ _ h1 h2
    · replace h1 := h1.2 hc
      replace h2 := h2.2 hc
      exact hQ _ _ h1 h2
theorem and_m_feed {p1 : Int32} {p2 : Int32} {p3 : Int32} {p4 : Int32} {p5 : Int32} {N : Nat} {M : MM} {Q1 Q2 Q3 : Int32 → MM → Prop} (hQ : ∀ (r : Int32) (M1 : MM), Q1 r M1 → Q2 r M1 → Q3 r M1) (h1 : W_m_feed p1 p2 p3 p4 p5 N M Q1) (h2 : W_m_feed p1 p2 p3 p4 p5 N M Q2) : W_m_feed p1 p2 p3 p4 p5 N M Q3 := by
  unfold W_m_feed at h1 h2 ⊢
  refine ⟨fun hc => ?_, fun hc => ?_⟩
  · replace h1 := h1.1 hc
    replace h2 := h2.1 hc
    exact hQ _ _ h1 h2
  · replace h1 := h1.2 hc
    replace h2 := h2.2 hc
    refine and_m_feed_60  hQ N _ _ h1 h2
theorem and_m_end {p1 : Int32} {N : Nat} {M : MM} {Q1 Q2 Q3 : Int32 → MM → Prop} (hQ : ∀ (r : Int32) (M1 : MM), Q1 r M1 → Q2 r M1 → Q3 r M1) (h1 : W_m_end p1 N M Q1) (h2 : W_m_end p1 N M Q2) : W_m_end p1 N M Q3 := by
  unfold W_m_end at h1 h2 ⊢
  refine ⟨fun hc => ?_, fun hc => ?_⟩
  · replace h1 := h1.1 hc
    replace h2 := h2.1 hc
    exact hQ _ _ h1 h2
  · replace h1 := h1.2 hc
    replace h2 := h2.2 hc
    refine ⟨fun hc => ?_, fun hc => ?_⟩
    · replace h1 := h1.1 hc
      replace h2 := h2.1 hc
      exact hQ _ _ h1 h2
    · replace h1 := h1.2 hc
      replace h2 := h2.2 hc
      exact hQ _ _ h1 h2
theorem and_m_blanks_0  {Q1 Q2 Q3 : MM → Prop} (hQ : ∀  (M1 : MM), Q1 M1 → Q2 M1 → Q3 M1) : ∀ (N : Nat) (M : MM), W_m_blanks_0 Q1 N M → W_m_blanks_0 Q2 N M → W_m_blanks_0 Q3 N M := by
  intro N
  induction N with
  | zero => intros; trivial
  | succ N IH =>
    intro M h1 h2
    replace h1 : B_m_blanks_0 Q1 N (W_m_blanks_0 Q1 N) M := h1
    replace h2 : B_m_blanks_0 Q2 N (W_m_blanks_0 Q2 N) M := h2
    show B_m_blanks_0 Q3 N (W_m_blanks_0 Q3 N) M
    unfold B_m_blanks_0 at h1 h2 ⊢
    refine ⟨fun hc => ?_, fun hc => ?_⟩
    · replace h1 := h1.1 hc
      replace h2 := h2.1 hc
      exact hQ _ h1 h2
    · replace h1 := h1.2 hc
      replace h2 := h2.2 hc
      exact IH _ h1 h2
theorem and_m_blanks  {N : Nat} {M : MM} {Q1 Q2 Q3 : MM → Prop} (hQ : ∀  (M1 : MM), Q1 M1 → Q2 M1 → Q3 M1) (h1 : W_m_blanks  N M Q1) (h2 : W_m_blanks  N M Q2) : W_m_blanks  N M Q3 := by
  unfold W_m_blanks at h1 h2 ⊢
  refine and_m_blanks_0  hQ N _ h1 h2
theorem and_m_letters_4  {Q1 Q2 Q3 : MM → Prop} (hQ : ∀  (M1 : MM), Q1 M1 → Q2 M1 → Q3 M1) : ∀ (N : Nat) (M : MM), W_m_letters_4 Q1 N M → W_m_letters_4 Q2 N M → W_m_letters_4 Q3 N M := by
  intro N
  induction N with
  | zero => intros; trivial
  | succ N IH =>
    intro M h1 h2
    replace h1 : B_m_letters_4 Q1 N (W_m_letters_4 Q1 N) M := h1
    replace h2 : B_m_letters_4 Q2 N (W_m_letters_4 Q2 N) M := h2
    show B_m_letters_4 Q3 N (W_m_letters_4 Q3 N) M
    unfold B_m_letters_4 at h1 h2 ⊢
    refine ⟨fun hc => ?_, fun hc => ?_⟩
    · replace h1 := h1.1 hc
      replace h2 := h2.1 hc
      exact hQ _ h1 h2
    · replace h1 := h1.2 hc
      replace h2 := h2.2 hc
      exact IH _ h1 h2
theorem and_m_letters  {N : Nat} {M : MM} {Q1 Q2 Q3 : MM → Prop} (hQ : ∀  (M1 : MM), Q1 M1 → Q2 M1 → Q3 M1) (h1 : W_m_letters  N M Q1) (h2 : W_m_letters  N M Q2) : W_m_letters  N M Q3 := by
  unfold W_m_letters at h1 h2 ⊢
  refine and_m_blanks (fun M2 h1 h2 => ?_) h1 h2
  refine and_m_letters_4  hQ N _ h1 h2
