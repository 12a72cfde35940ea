/-! TWO ENDS AT ONCE (gw.py) -/
theorem and_Law_holds_25 {a : Nat} {p1 : Int32} {p2 : Int32} {p3 : Int32} {p4 : Int32} {p5 : Int32} {M : MM} {Q1 Q2 Q3 : Int32 → Prop} (hQ : ∀ (r : Int32), Q1 r → Q2 r → Q3 r) : ∀ (N : Nat) (v7 : Int32) (v8 : Int32), W_Law_holds_25 a p1 p2 p3 p4 p5 M Q1 N v7 v8 → W_Law_holds_25 a p1 p2 p3 p4 p5 M Q2 N v7 v8 → W_Law_holds_25 a p1 p2 p3 p4 p5 M Q3 N v7 v8 := by
  intro N
  induction N with
  | zero => intros; trivial
  | succ N IH =>
    intro v7 v8 h1 h2
    replace h1 : B_Law_holds_25 a p1 p2 p3 p4 p5 M Q1 N (W_Law_holds_25 a p1 p2 p3 p4 p5 M Q1 N) v7 v8 := h1
    replace h2 : B_Law_holds_25 a p1 p2 p3 p4 p5 M Q2 N (W_Law_holds_25 a p1 p2 p3 p4 p5 M Q2 N) v7 v8 := h2
    show B_Law_holds_25 a p1 p2 p3 p4 p5 M Q3 N (W_Law_holds_25 a p1 p2 p3 p4 p5 M Q3 N) v7 v8
    unfold B_Law_holds_25 at h1 h2 ⊢
    refine ⟨fun hc => ?_, fun hc => ?_⟩
    · replace h1 := h1.1 hc
      replace h2 := h2.1 hc
      refine ⟨fun hc => ?_, fun hc => ?_⟩
      · replace h1 := h1.1 hc
        replace h2 := h2.1 hc
        refine ⟨fun hc => ?_, fun hc => ?_⟩
        · replace h1 := h1.1 hc
          replace h2 := h2.1 hc
          exact IH _ _ h1 h2
        · replace h1 := h1.2 hc
          replace h2 := h2.2 hc
          exact IH _ _ h1 h2
      · replace h1 := h1.2 hc
        replace h2 := h2.2 hc
        refine ⟨fun hc => ?_, fun hc => ?_⟩
        · replace h1 := h1.1 hc
          replace h2 := h2.1 hc
          exact IH _ _ h1 h2
        · replace h1 := h1.2 hc
          replace h2 := h2.2 hc
          refine ⟨fun hc => ?_, fun hc => ?_⟩
          · replace h1 := h1.1 hc
            replace h2 := h2.1 hc
            exact IH _ _ h1 h2
          · replace h1 := h1.2 hc
            replace h2 := h2.2 hc
            refine ⟨fun hc => ?_, fun hc => ?_⟩
            · replace h1 := h1.1 hc
              replace h2 := h2.1 hc
              exact IH _ _ h1 h2
            · replace h1 := h1.2 hc
              replace h2 := h2.2 hc
              refine ⟨fun hc => ?_, fun hc => ?_⟩
              · replace h1 := h1.1 hc
                replace h2 := h2.1 hc
                exact IH _ _ h1 h2
              · replace h1 := h1.2 hc
                replace h2 := h2.2 hc
                refine ⟨fun hc => ?_, fun hc => ?_⟩
                · replace h1 := h1.1 hc
                  replace h2 := h2.1 hc
                  exact IH _ _ h1 h2
                · replace h1 := h1.2 hc
                  replace h2 := h2.2 hc
                  refine ⟨fun hc => ?_, fun hc => ?_⟩
                  · replace h1 := h1.1 hc
                    replace h2 := h2.1 hc
                    exact IH _ _ h1 h2
                  · replace h1 := h1.2 hc
                    replace h2 := h2.2 hc
                    exact IH _ _ h1 h2
    · replace h1 := h1.2 hc
      replace h2 := h2.2 hc
      refine ⟨fun hc => ?_, fun hc => ?_⟩
      · replace h1 := h1.1 hc
        replace h2 := h2.1 hc
        exact hQ _ h1 h2
      · replace h1 := h1.2 hc
        replace h2 := h2.2 hc
        exact hQ _ h1 h2
theorem and_Law_holds {a : Nat} {p1 : Int32} {p2 : Int32} {p3 : Int32} {p4 : Int32} {p5 : Int32} {N : Nat} {M : MM} {Q1 Q2 Q3 : Int32 → Prop} (hQ : ∀ (r : Int32), Q1 r → Q2 r → Q3 r) (h1 : W_Law_holds a p1 p2 p3 p4 p5 N M Q1) (h2 : W_Law_holds a p1 p2 p3 p4 p5 N M Q2) : W_Law_holds a p1 p2 p3 p4 p5 N M Q3 := by
  unfold W_Law_holds at h1 h2 ⊢
  refine ⟨fun hc => ?_, fun hc => ?_⟩
  · replace h1 := h1.1 hc
    replace h2 := h2.1 hc
    refine and_Law_holds_25  hQ N _ _ h1 h2
  · replace h1 := h1.2 hc
    replace h2 := h2.2 hc
    refine and_Law_holds_25  hQ N _ _ h1 h2
theorem and_Law_bearing_23 {a : Nat} {p1 : Int32} {p2 : Int32} {p3 : Int32} {p4 : Int32} {p5 : Int32} {u7 : Int32} {u8 : Int32} {M : MM} {Q1 Q2 Q3 : Int32 → Prop} (hQ : ∀ (r : Int32), Q1 r → Q2 r → Q3 r) : ∀ (N : Nat) (v6 : Int32) (v9 : Int32), W_Law_bearing_23 a p1 p2 p3 p4 p5 u7 u8 M Q1 N v6 v9 → W_Law_bearing_23 a p1 p2 p3 p4 p5 u7 u8 M Q2 N v6 v9 → W_Law_bearing_23 a p1 p2 p3 p4 p5 u7 u8 M Q3 N v6 v9 := by
  intro N
  induction N with
  | zero => intros; trivial
  | succ N IH =>
    intro v6 v9 h1 h2
    replace h1 : B_Law_bearing_23 a p1 p2 p3 p4 p5 u7 u8 M Q1 N (W_Law_bearing_23 a p1 p2 p3 p4 p5 u7 u8 M Q1 N) v6 v9 := h1
    replace h2 : B_Law_bearing_23 a p1 p2 p3 p4 p5 u7 u8 M Q2 N (W_Law_bearing_23 a p1 p2 p3 p4 p5 u7 u8 M Q2 N) v6 v9 := h2
    show B_Law_bearing_23 a p1 p2 p3 p4 p5 u7 u8 M Q3 N (W_Law_bearing_23 a p1 p2 p3 p4 p5 u7 u8 M Q3 N) v6 v9
    unfold B_Law_bearing_23 at h1 h2 ⊢
    refine ⟨fun hc => ?_, fun hc => ?_⟩
    · replace h1 := h1.1 hc
      replace h2 := h2.1 hc
      refine ⟨fun hc => ?_, fun hc => ?_⟩
      · replace h1 := h1.1 hc
        replace h2 := h2.1 hc
        refine ⟨fun hc => ?_, fun hc => ?_⟩
        · replace h1 := h1.1 hc
          replace h2 := h2.1 hc
          refine and_Law_holds (fun r5 h1 h2 => ?_) h1 h2
          refine ⟨fun hc => ?_, fun hc => ?_⟩
          · replace h1 := h1.1 hc
            replace h2 := h2.1 hc
            exact IH _ _ h1 h2
          · replace h1 := h1.2 hc
            replace h2 := h2.2 hc
            exact IH _ _ h1 h2
        · replace h1 := h1.2 hc
          replace h2 := h2.2 hc
          exact IH _ _ h1 h2
      · replace h1 := h1.2 hc
        replace h2 := h2.2 hc
        exact IH _ _ h1 h2
    · replace h1 := h1.2 hc
      replace h2 := h2.2 hc
      exact hQ _ h1 h2
theorem and_Law_bearing {a : Nat} {p1 : Int32} {p2 : Int32} {p3 : Int32} {p4 : Int32} {p5 : Int32} {N : Nat} {M : MM} {Q1 Q2 Q3 : Int32 → Prop} (hQ : ∀ (r : Int32), Q1 r → Q2 r → Q3 r) (h1 : W_Law_bearing a p1 p2 p3 p4 p5 N M Q1) (h2 : W_Law_bearing a p1 p2 p3 p4 p5 N M Q2) : W_Law_bearing a p1 p2 p3 p4 p5 N M Q3 := by
  unfold W_Law_bearing at h1 h2 ⊢
  refine ⟨fun hc => ?_, fun hc => ?_⟩
  · replace h1 := h1.1 hc
    replace h2 := h2.1 hc
    refine and_Law_bearing_23  hQ N _ _ h1 h2
  · replace h1 := h1.2 hc
    replace h2 := h2.2 hc
    refine and_Law_bearing_23  hQ N _ _ h1 h2
theorem and_Inquiry_forbidding {p1 : Int32} {p2 : Int32} {N : Nat} {M : MM} {Q1 Q2 Q3 : Int32 → Prop} (hQ : ∀ (r : Int32), Q1 r → Q2 r → Q3 r) (h1 : W_Inquiry_forbidding p1 p2 N M Q1) (h2 : W_Inquiry_forbidding p1 p2 N M Q2) : W_Inquiry_forbidding p1 p2 N M Q3 := by
  unfold W_Inquiry_forbidding at h1 h2 ⊢
  refine and_Law_bearing (fun r1 h1 h2 => ?_) h1 h2
  exact hQ _ h1 h2
theorem and_Inquiry_demanding {p1 : Int32} {p2 : Int32} {N : Nat} {M : MM} {Q1 Q2 Q3 : Int32 → Prop} (hQ : ∀ (r : Int32), Q1 r → Q2 r → Q3 r) (h1 : W_Inquiry_demanding p1 p2 N M Q1) (h2 : W_Inquiry_demanding p1 p2 N M Q2) : W_Inquiry_demanding p1 p2 N M Q3 := by
  unfold W_Inquiry_demanding at h1 h2 ⊢
  refine and_Law_bearing (fun r1 h1 h2 => ?_) h1 h2
  exact hQ _ h1 h2
theorem and_World_inForce_4 {a : Nat} {M : MM} {Q1 Q2 Q3 : Int32 → Prop} (hQ : ∀ (r : Int32), Q1 r → Q2 r → Q3 r) : ∀ (N : Nat) (v1 : Int32) (v2 : Int32), W_World_inForce_4 a M Q1 N v1 v2 → W_World_inForce_4 a M Q2 N v1 v2 → W_World_inForce_4 a M Q3 N v1 v2 := by
  intro N
  induction N with
  | zero => intros; trivial
  | succ N IH =>
    intro v1 v2 h1 h2
    replace h1 : B_World_inForce_4 a M Q1 N (W_World_inForce_4 a M Q1 N) v1 v2 := h1
    replace h2 : B_World_inForce_4 a M Q2 N (W_World_inForce_4 a M Q2 N) v1 v2 := h2
    show B_World_inForce_4 a M Q3 N (W_World_inForce_4 a M Q3 N) v1 v2
    unfold B_World_inForce_4 at h1 h2 ⊢
    refine ⟨fun hc => ?_, fun hc => ?_⟩
    · replace h1 := h1.1 hc
      replace h2 := h2.1 hc
      refine ⟨fun hc => ?_, fun hc => ?_⟩
      · replace h1 := h1.1 hc
        replace h2 := h2.1 hc
        exact IH _ _ h1 h2
      · replace h1 := h1.2 hc
        replace h2 := h2.2 hc
        exact IH _ _ h1 h2
    · replace h1 := h1.2 hc
      replace h2 := h2.2 hc
      exact hQ _ h1 h2
theorem and_World_inForce {a : Nat} {N : Nat} {M : MM} {Q1 Q2 Q3 : Int32 → Prop} (hQ : ∀ (r : Int32), Q1 r → Q2 r → Q3 r) (h1 : W_World_inForce a N M Q1) (h2 : W_World_inForce a N M Q2) : W_World_inForce a N M Q3 := by
  unfold W_World_inForce at h1 h2 ⊢
  refine and_World_inForce_4  hQ N _ _ h1 h2
theorem and_Inquiry_forbiddenTo {p1 : Int32} {p2 : Int32} {N : Nat} {M : MM} {Q1 Q2 Q3 : Int32 → Prop} (hQ : ∀ (r : Int32), Q1 r → Q2 r → Q3 r) (h1 : W_Inquiry_forbiddenTo p1 p2 N M Q1) (h2 : W_Inquiry_forbiddenTo p1 p2 N M Q2) : W_Inquiry_forbiddenTo p1 p2 N M Q3 := by
  unfold W_Inquiry_forbiddenTo at h1 h2 ⊢
  refine and_Inquiry_forbidding (fun r1 h1 h2 => ?_) h1 h2
  refine and_World_inForce (fun r3 h1 h2 => ?_) h1 h2
  exact hQ _ h1 h2
theorem and_Inquiry_demandedOf {p1 : Int32} {p2 : Int32} {N : Nat} {M : MM} {Q1 Q2 Q3 : Int32 → Prop} (hQ : ∀ (r : Int32), Q1 r → Q2 r → Q3 r) (h1 : W_Inquiry_demandedOf p1 p2 N M Q1) (h2 : W_Inquiry_demandedOf p1 p2 N M Q2) : W_Inquiry_demandedOf p1 p2 N M Q3 := by
  unfold W_Inquiry_demandedOf at h1 h2 ⊢
  refine and_Inquiry_demanding (fun r1 h1 h2 => ?_) h1 h2
  refine and_World_inForce (fun r3 h1 h2 => ?_) h1 h2
  exact hQ _ h1 h2
theorem and_Inquiry_allows {p1 : Int32} {p2 : Int32} {N : Nat} {M : MM} {Q1 Q2 Q3 : Int32 → Prop} (hQ : ∀ (r : Int32), Q1 r → Q2 r → Q3 r) (h1 : W_Inquiry_allows p1 p2 N M Q1) (h2 : W_Inquiry_allows p1 p2 N M Q2) : W_Inquiry_allows p1 p2 N M Q3 := by
  unfold W_Inquiry_allows at h1 h2 ⊢
  refine and_Inquiry_forbidding (fun r1 h1 h2 => ?_) h1 h2
  refine ⟨fun hc => ?_, fun hc => ?_⟩
  · replace h1 := h1.1 hc
    replace h2 := h2.1 hc
    exact hQ _ h1 h2
  · replace h1 := h1.2 hc
    replace h2 := h2.2 hc
    exact hQ _ h1 h2
theorem and_Inquiry_isForbiddenToAll_16 {p1 : Int32} {p2 : Int32} {u3 : Int32} {M : MM} {k59a k59b k59c : Prop} {Q1 Q2 Q3 : Int32 → Prop} (hk59 : k59a  → k59b  → k59c ) (hQ : ∀ (r : Int32), Q1 r → Q2 r → Q3 r) : ∀ (N : Nat) (v4 : Int32), W_Inquiry_isForbiddenToAll_16 p1 p2 u3 M k59a Q1 N v4 → W_Inquiry_isForbiddenToAll_16 p1 p2 u3 M k59b Q2 N v4 → W_Inquiry_isForbiddenToAll_16 p1 p2 u3 M k59c Q3 N v4 := by
  intro N
  induction N with
  | zero => intros; trivial
  | succ N IH =>
    intro v4 h1 h2
    replace h1 : B_Inquiry_isForbiddenToAll_16 p1 p2 u3 M k59a Q1 N (W_Inquiry_isForbiddenToAll_16 p1 p2 u3 M k59a Q1 N) v4 := h1
    replace h2 : B_Inquiry_isForbiddenToAll_16 p1 p2 u3 M k59b Q2 N (W_Inquiry_isForbiddenToAll_16 p1 p2 u3 M k59b Q2 N) v4 := h2
    show B_Inquiry_isForbiddenToAll_16 p1 p2 u3 M k59c Q3 N (W_Inquiry_isForbiddenToAll_16 p1 p2 u3 M k59c Q3 N) v4
    unfold B_Inquiry_isForbiddenToAll_16 at h1 h2 ⊢
    refine ⟨fun hc => ?_, fun hc => ?_⟩
    · replace h1 := h1.1 hc
      replace h2 := h2.1 hc
      refine ⟨fun hc => ?_, fun hc => ?_⟩
      · replace h1 := h1.1 hc
        replace h2 := h2.1 hc
        exact hk59  h1 h2
      · replace h1 := h1.2 hc
        replace h2 := h2.2 hc
        refine and_Inquiry_forbidding (fun r4 h1 h2 => ?_) h1 h2
        refine ⟨fun hc => ?_, fun hc => ?_⟩
        · replace h1 := h1.1 hc
          replace h2 := h2.1 hc
          exact hQ _ h1 h2
        · replace h1 := h1.2 hc
          replace h2 := h2.2 hc
          exact IH _ h1 h2
    · replace h1 := h1.2 hc
      replace h2 := h2.2 hc
      exact hk59  h1 h2
theorem and_Inquiry_isForbiddenToAll_2 {p1 : Int32} {p2 : Int32} {M : MM} {Q1 Q2 Q3 : Int32 → Prop} (hQ : ∀ (r : Int32), Q1 r → Q2 r → Q3 r) : ∀ (N : Nat) (v3 : Int32), W_Inquiry_isForbiddenToAll_2 p1 p2 M Q1 N v3 → W_Inquiry_isForbiddenToAll_2 p1 p2 M Q2 N v3 → W_Inquiry_isForbiddenToAll_2 p1 p2 M Q3 N v3 := by
  intro N
  induction N with
  | zero => intros; trivial
  | succ N IH =>
    intro v3 h1 h2
    replace h1 : B_Inquiry_isForbiddenToAll_2 p1 p2 M Q1 N (W_Inquiry_isForbiddenToAll_2 p1 p2 M Q1 N) v3 := h1
    replace h2 : B_Inquiry_isForbiddenToAll_2 p1 p2 M Q2 N (W_Inquiry_isForbiddenToAll_2 p1 p2 M Q2 N) v3 := h2
    show B_Inquiry_isForbiddenToAll_2 p1 p2 M Q3 N (W_Inquiry_isForbiddenToAll_2 p1 p2 M Q3 N) v3
    unfold B_Inquiry_isForbiddenToAll_2 at h1 h2 ⊢
    refine ⟨fun hc => ?_, fun hc => ?_⟩
    · replace h1 := h1.1 hc
      replace h2 := h2.1 hc
      refine and_Inquiry_isForbiddenToAll_16 (fun h1 h2 => ?_) hQ N _ h1 h2
      · exact IH _ h1 h2
    · replace h1 := h1.2 hc
      replace h2 := h2.2 hc
      exact hQ _ h1 h2
theorem and_Inquiry_isForbiddenToAll {p1 : Int32} {p2 : Int32} {N : Nat} {M : MM} {Q1 Q2 Q3 : Int32 → Prop} (hQ : ∀ (r : Int32), Q1 r → Q2 r → Q3 r) (h1 : W_Inquiry_isForbiddenToAll p1 p2 N M Q1) (h2 : W_Inquiry_isForbiddenToAll p1 p2 N M Q2) : W_Inquiry_isForbiddenToAll p1 p2 N M Q3 := by
  unfold W_Inquiry_isForbiddenToAll at h1 h2 ⊢
  refine and_Inquiry_isForbiddenToAll_2  hQ N _ h1 h2
theorem and_Inquiry_forbiddenToAll_12 {u2 : Int32} {M : MM} {Q1 Q2 Q3 : Int32 → Prop} (hQ : ∀ (r : Int32), Q1 r → Q2 r → Q3 r) : ∀ (N : Nat) (v1 : Int32) (v3 : Int32), W_Inquiry_forbiddenToAll_12 u2 M Q1 N v1 v3 → W_Inquiry_forbiddenToAll_12 u2 M Q2 N v1 v3 → W_Inquiry_forbiddenToAll_12 u2 M Q3 N v1 v3 := by
  intro N
  induction N with
  | zero => intros; trivial
  | succ N IH =>
    intro v1 v3 h1 h2
    replace h1 : B_Inquiry_forbiddenToAll_12 u2 M Q1 N (W_Inquiry_forbiddenToAll_12 u2 M Q1 N) v1 v3 := h1
    replace h2 : B_Inquiry_forbiddenToAll_12 u2 M Q2 N (W_Inquiry_forbiddenToAll_12 u2 M Q2 N) v1 v3 := h2
    show B_Inquiry_forbiddenToAll_12 u2 M Q3 N (W_Inquiry_forbiddenToAll_12 u2 M Q3 N) v1 v3
    unfold B_Inquiry_forbiddenToAll_12 at h1 h2 ⊢
    refine ⟨fun hc => ?_, fun hc => ?_⟩
    · replace h1 := h1.1 hc
      replace h2 := h2.1 hc
      refine ⟨fun hc => ?_, fun hc => ?_⟩
      · replace h1 := h1.1 hc
        replace h2 := h2.1 hc
        exact hQ _ h1 h2
      · replace h1 := h1.2 hc
        replace h2 := h2.2 hc
        refine and_Inquiry_isForbiddenToAll (fun r5 h1 h2 => ?_) h1 h2
        refine ⟨fun hc => ?_, fun hc => ?_⟩
        · replace h1 := h1.1 hc
          replace h2 := h2.1 hc
          exact IH _ _ h1 h2
        · replace h1 := h1.2 hc
          replace h2 := h2.2 hc
          exact IH _ _ h1 h2
    · replace h1 := h1.2 hc
      replace h2 := h2.2 hc
      exact hQ _ h1 h2
theorem and_Inquiry_forbiddenToAll  {N : Nat} {M : MM} {Q1 Q2 Q3 : Int32 → Prop} (hQ : ∀ (r : Int32), Q1 r → Q2 r → Q3 r) (h1 : W_Inquiry_forbiddenToAll  N M Q1) (h2 : W_Inquiry_forbiddenToAll  N M Q2) : W_Inquiry_forbiddenToAll  N M Q3 := by
  unfold W_Inquiry_forbiddenToAll at h1 h2 ⊢
  refine and_World_inForce (fun r1 h1 h2 => ?_) h1 h2
  refine and_Inquiry_forbiddenToAll_12  hQ N _ _ h1 h2
theorem and_Inquiry_clearOthers_2  {Q1 Q2 Q3 : MM → Prop} (hQ : ∀  (M1 : MM), Q1 M1 → Q2 M1 → Q3 M1) : ∀ (N : Nat) (v1 : Int32) (M : MM), W_Inquiry_clearOthers_2 Q1 N v1 M → W_Inquiry_clearOthers_2 Q2 N v1 M → W_Inquiry_clearOthers_2 Q3 N v1 M := by
  intro N
  induction N with
  | zero => intros; trivial
  | succ N IH =>
    intro v1 M h1 h2
    replace h1 : B_Inquiry_clearOthers_2 Q1 N (W_Inquiry_clearOthers_2 Q1 N) v1 M := h1
    replace h2 : B_Inquiry_clearOthers_2 Q2 N (W_Inquiry_clearOthers_2 Q2 N) v1 M := h2
    show B_Inquiry_clearOthers_2 Q3 N (W_Inquiry_clearOthers_2 Q3 N) v1 M
    unfold B_Inquiry_clearOthers_2 at h1 h2 ⊢
    refine ⟨fun hc => ?_, fun hc => ?_⟩
    · replace h1 := h1.1 hc
      replace h2 := h2.1 hc
      exact IH _ _ h1 h2
    · replace h1 := h1.2 hc
      replace h2 := h2.2 hc
      exact hQ _ h1 h2
theorem and_Inquiry_clearOthers  {N : Nat} {M : MM} {Q1 Q2 Q3 : MM → Prop} (hQ : ∀  (M1 : MM), Q1 M1 → Q2 M1 → Q3 M1) (h1 : W_Inquiry_clearOthers  N M Q1) (h2 : W_Inquiry_clearOthers  N M Q2) : W_Inquiry_clearOthers  N M Q3 := by
  unfold W_Inquiry_clearOthers at h1 h2 ⊢
  refine and_Inquiry_clearOthers_2  hQ N _ _ h1 h2
theorem and_Inquiry_addOthers_2 {p1 : Int32} {p2 : Int32} {Q1 Q2 Q3 : MM → Prop} (hQ : ∀  (M1 : MM), Q1 M1 → Q2 M1 → Q3 M1) : ∀ (N : Nat) (v3 : Int32) (M : MM), W_Inquiry_addOthers_2 p1 p2 Q1 N v3 M → W_Inquiry_addOthers_2 p1 p2 Q2 N v3 M → W_Inquiry_addOthers_2 p1 p2 Q3 N v3 M := by
  intro N
  induction N with
  | zero => intros; trivial
  | succ N IH =>
    intro v3 M h1 h2
    replace h1 : B_Inquiry_addOthers_2 p1 p2 Q1 N (W_Inquiry_addOthers_2 p1 p2 Q1 N) v3 M := h1
    replace h2 : B_Inquiry_addOthers_2 p1 p2 Q2 N (W_Inquiry_addOthers_2 p1 p2 Q2 N) v3 M := h2
    show B_Inquiry_addOthers_2 p1 p2 Q3 N (W_Inquiry_addOthers_2 p1 p2 Q3 N) v3 M
    unfold B_Inquiry_addOthers_2 at h1 h2 ⊢
    refine ⟨fun hc => ?_, fun hc => ?_⟩
    · replace h1 := h1.1 hc
      replace h2 := h2.1 hc
      refine ⟨fun hc => ?_, fun hc => ?_⟩
      · replace h1 := h1.1 hc
        replace h2 := h2.1 hc
        exact IH _ _ h1 h2
      · replace h1 := h1.2 hc
        replace h2 := h2.2 hc
        refine ⟨fun hc => ?_, fun hc => ?_⟩
        · replace h1 := h1.1 hc
          replace h2 := h2.1 hc
          exact IH _ _ h1 h2
        · replace h1 := h1.2 hc
          replace h2 := h2.2 hc
          exact IH _ _ h1 h2
    · replace h1 := h1.2 hc
      replace h2 := h2.2 hc
      exact hQ _ h1 h2
theorem and_Inquiry_addOthers {p1 : Int32} {p2 : Int32} {N : Nat} {M : MM} {Q1 Q2 Q3 : MM → Prop} (hQ : ∀  (M1 : MM), Q1 M1 → Q2 M1 → Q3 M1) (h1 : W_Inquiry_addOthers p1 p2 N M Q1) (h2 : W_Inquiry_addOthers p1 p2 N M Q2) : W_Inquiry_addOthers p1 p2 N M Q3 := by
  unfold W_Inquiry_addOthers at h1 h2 ⊢
  refine and_Inquiry_addOthers_2  hQ N _ _ h1 h2
theorem and_Inquiry_findOthers_15 {p1 : Int32} {u2 : Int32} {k64a k64b k64c : MM → Prop} {Q1 Q2 Q3 : MM → Prop} (hk64 : ∀  (M : MM), k64a M → k64b M → k64c M) (hQ : ∀  (M1 : MM), Q1 M1 → Q2 M1 → Q3 M1) : ∀ (N : Nat) (v3 : Int32) (M : MM), W_Inquiry_findOthers_15 p1 u2 k64a Q1 N v3 M → W_Inquiry_findOthers_15 p1 u2 k64b Q2 N v3 M → W_Inquiry_findOthers_15 p1 u2 k64c Q3 N v3 M := by
  intro N
  induction N with
  | zero => intros; trivial
  | succ N IH =>
    intro v3 M h1 h2
    replace h1 : B_Inquiry_findOthers_15 p1 u2 k64a Q1 N (W_Inquiry_findOthers_15 p1 u2 k64a Q1 N) v3 M := h1
    replace h2 : B_Inquiry_findOthers_15 p1 u2 k64b Q2 N (W_Inquiry_findOthers_15 p1 u2 k64b Q2 N) v3 M := h2
    show B_Inquiry_findOthers_15 p1 u2 k64c Q3 N (W_Inquiry_findOthers_15 p1 u2 k64c Q3 N) v3 M
    unfold B_Inquiry_findOthers_15 at h1 h2 ⊢
    refine ⟨fun hc => ?_, fun hc => ?_⟩
    · replace h1 := h1.1 hc
      replace h2 := h2.1 hc
      refine ⟨fun hc => ?_, fun hc => ?_⟩
      · replace h1 := h1.1 hc
        replace h2 := h2.1 hc
        exact hk64 _ h1 h2
      · replace h1 := h1.2 hc
        replace h2 := h2.2 hc
        refine and_Inquiry_forbidding (fun r4 h1 h2 => ?_) h1 h2
        refine and_Inquiry_demanding (fun r6 h1 h2 => ?_) h1 h2
        refine and_Inquiry_addOthers (fun M9 h1 h2 => ?_) h1 h2
        exact IH _ _ h1 h2
    · replace h1 := h1.2 hc
      replace h2 := h2.2 hc
      exact hk64 _ h1 h2
theorem and_Inquiry_findOthers_2 {p1 : Int32} {Q1 Q2 Q3 : MM → Prop} (hQ : ∀  (M1 : MM), Q1 M1 → Q2 M1 → Q3 M1) : ∀ (N : Nat) (v2 : Int32) (M : MM), W_Inquiry_findOthers_2 p1 Q1 N v2 M → W_Inquiry_findOthers_2 p1 Q2 N v2 M → W_Inquiry_findOthers_2 p1 Q3 N v2 M := by
  intro N
  induction N with
  | zero => intros; trivial
  | succ N IH =>
    intro v2 M h1 h2
    replace h1 : B_Inquiry_findOthers_2 p1 Q1 N (W_Inquiry_findOthers_2 p1 Q1 N) v2 M := h1
    replace h2 : B_Inquiry_findOthers_2 p1 Q2 N (W_Inquiry_findOthers_2 p1 Q2 N) v2 M := h2
    show B_Inquiry_findOthers_2 p1 Q3 N (W_Inquiry_findOthers_2 p1 Q3 N) v2 M
    unfold B_Inquiry_findOthers_2 at h1 h2 ⊢
    refine ⟨fun hc => ?_, fun hc => ?_⟩
    · replace h1 := h1.1 hc
      replace h2 := h2.1 hc
      refine and_Inquiry_findOthers_15 (fun M10 h1 h2 => ?_) hQ N _ _ h1 h2
      · exact IH _ _ h1 h2
    · replace h1 := h1.2 hc
      replace h2 := h2.2 hc
      exact hQ _ h1 h2
theorem and_Inquiry_findOthers {p1 : Int32} {N : Nat} {M : MM} {Q1 Q2 Q3 : MM → Prop} (hQ : ∀  (M1 : MM), Q1 M1 → Q2 M1 → Q3 M1) (h1 : W_Inquiry_findOthers p1 N M Q1) (h2 : W_Inquiry_findOthers p1 N M Q2) : W_Inquiry_findOthers p1 N M Q3 := by
  unfold W_Inquiry_findOthers at h1 h2 ⊢
  refine and_Inquiry_findOthers_2  hQ N _ _ h1 h2
theorem and_Inquiry_contradicting {p1 : Int32} {N : Nat} {M : MM} {Q1 Q2 Q3 : Int32 → MM → Prop} (hQ : ∀ (r : Int32) (M1 : MM), Q1 r M1 → Q2 r M1 → Q3 r M1) (h1 : W_Inquiry_contradicting p1 N M Q1) (h2 : W_Inquiry_contradicting p1 N M Q2) : W_Inquiry_contradicting p1 N M Q3 := by
  unfold W_Inquiry_contradicting at h1 h2 ⊢
  refine and_Inquiry_clearOthers (fun M2 h1 h2 => ?_) h1 h2
  refine and_Inquiry_findOthers (fun M4 h1 h2 => ?_) h1 h2
  exact hQ _ _ h1 h2
theorem and_Inquiry_isRelief_2 {p1 : Int32} {M : MM} {Q1 Q2 Q3 : Int32 → Prop} (hQ : ∀ (r : Int32), Q1 r → Q2 r → Q3 r) : ∀ (N : Nat) (v2 : Int32), W_Inquiry_isRelief_2 p1 M Q1 N v2 → W_Inquiry_isRelief_2 p1 M Q2 N v2 → W_Inquiry_isRelief_2 p1 M Q3 N v2 := by
  intro N
  induction N with
  | zero => intros; trivial
  | succ N IH =>
    intro v2 h1 h2
    replace h1 : B_Inquiry_isRelief_2 p1 M Q1 N (W_Inquiry_isRelief_2 p1 M Q1 N) v2 := h1
    replace h2 : B_Inquiry_isRelief_2 p1 M Q2 N (W_Inquiry_isRelief_2 p1 M Q2 N) v2 := h2
    show B_Inquiry_isRelief_2 p1 M Q3 N (W_Inquiry_isRelief_2 p1 M Q3 N) v2
    unfold B_Inquiry_isRelief_2 at h1 h2 ⊢
    refine ⟨fun hc => ?_, fun hc => ?_⟩
    · replace h1 := h1.1 hc
      replace h2 := h2.1 hc
      refine ⟨fun hc => ?_, fun hc => ?_⟩
      · replace h1 := h1.1 hc
        replace h2 := h2.1 hc
        refine ⟨fun hc => ?_, fun hc => ?_⟩
        · replace h1 := h1.1 hc
          replace h2 := h2.1 hc
          exact IH _ h1 h2
        · replace h1 := h1.2 hc
          replace h2 := h2.2 hc
          exact hQ _ h1 h2
      · replace h1 := h1.2 hc
        replace h2 := h2.2 hc
        exact IH _ h1 h2
    · replace h1 := h1.2 hc
      replace h2 := h2.2 hc
      exact hQ _ h1 h2
theorem and_Inquiry_isRelief {p1 : Int32} {N : Nat} {M : MM} {Q1 Q2 Q3 : Int32 → Prop} (hQ : ∀ (r : Int32), Q1 r → Q2 r → Q3 r) (h1 : W_Inquiry_isRelief p1 N M Q1) (h2 : W_Inquiry_isRelief p1 N M Q2) : W_Inquiry_isRelief p1 N M Q3 := by
  unfold W_Inquiry_isRelief at h1 h2 ⊢
  refine and_Inquiry_isRelief_2  hQ N _ h1 h2
theorem and_Inquiry_fewestToDie_6  {k23a k23b k23c : MM → Prop} {Q1 Q2 Q3 : Int32 → MM → Prop} (hk23 : ∀  (M : MM), k23a M → k23b M → k23c M) (hQ : ∀ (r : Int32) (M1 : MM), Q1 r M1 → Q2 r M1 → Q3 r M1) : ∀ (N : Nat) (v1 : Int32) (M : MM), W_Inquiry_fewestToDie_6 k23a Q1 N v1 M → W_Inquiry_fewestToDie_6 k23b Q2 N v1 M → W_Inquiry_fewestToDie_6 k23c Q3 N v1 M := by
  intro N
  induction N with
  | zero => intros; trivial
  | succ N IH =>
    intro v1 M h1 h2
    replace h1 : B_Inquiry_fewestToDie_6 k23a Q1 N (W_Inquiry_fewestToDie_6 k23a Q1 N) v1 M := h1
    replace h2 : B_Inquiry_fewestToDie_6 k23b Q2 N (W_Inquiry_fewestToDie_6 k23b Q2 N) v1 M := h2
    show B_Inquiry_fewestToDie_6 k23c Q3 N (W_Inquiry_fewestToDie_6 k23c Q3 N) v1 M
    unfold B_Inquiry_fewestToDie_6 at h1 h2 ⊢
    refine ⟨fun hc => ?_, fun hc => ?_⟩
    · replace h1 := h1.1 hc
      replace h2 := h2.1 hc
      refine and_Inquiry_findOthers (fun M5 h1 h2 => ?_) h1 h2
      exact IH _ _ h1 h2
    · replace h1 := h1.2 hc
      replace h2 := h2.2 hc
      exact hk23 _ h1 h2
theorem and_Inquiry_fewestToDie_30 {M : MM} {Q1 Q2 Q3 : Int32 → MM → Prop} (hQ : ∀ (r : Int32) (M1 : MM), Q1 r M1 → Q2 r M1 → Q3 r M1) : ∀ (N : Nat) (v1 : Int32) (v2 : Int32) (v3 : Int32), W_Inquiry_fewestToDie_30 M Q1 N v1 v2 v3 → W_Inquiry_fewestToDie_30 M Q2 N v1 v2 v3 → W_Inquiry_fewestToDie_30 M Q3 N v1 v2 v3 := by
  intro N
  induction N with
  | zero => intros; trivial
  | succ N IH =>
    intro v1 v2 v3 h1 h2
    replace h1 : B_Inquiry_fewestToDie_30 M Q1 N (W_Inquiry_fewestToDie_30 M Q1 N) v1 v2 v3 := h1
    replace h2 : B_Inquiry_fewestToDie_30 M Q2 N (W_Inquiry_fewestToDie_30 M Q2 N) v1 v2 v3 := h2
    show B_Inquiry_fewestToDie_30 M Q3 N (W_Inquiry_fewestToDie_30 M Q3 N) v1 v2 v3
    unfold B_Inquiry_fewestToDie_30 at h1 h2 ⊢
    refine ⟨fun hc => ?_, fun hc => ?_⟩
    · replace h1 := h1.1 hc
      replace h2 := h2.1 hc
      refine ⟨fun hc => ?_, fun hc => ?_⟩
      · replace h1 := h1.1 hc
        replace h2 := h2.1 hc
        refine and_Inquiry_isRelief (fun r9 h1 h2 => ?_) h1 h2
        refine ⟨fun hc => ?_, fun hc => ?_⟩
        · replace h1 := h1.1 hc
          replace h2 := h2.1 hc
          exact IH _ _ _ h1 h2
        · replace h1 := h1.2 hc
          replace h2 := h2.2 hc
          exact IH _ _ _ h1 h2
      · replace h1 := h1.2 hc
        replace h2 := h2.2 hc
        exact IH _ _ _ h1 h2
    · replace h1 := h1.2 hc
      replace h2 := h2.2 hc
      exact hQ _ _ h1 h2
theorem and_Inquiry_fewestToDie  {N : Nat} {M : MM} {Q1 Q2 Q3 : Int32 → MM → Prop} (hQ : ∀ (r : Int32) (M1 : MM), Q1 r M1 → Q2 r M1 → Q3 r M1) (h1 : W_Inquiry_fewestToDie  N M Q1) (h2 : W_Inquiry_fewestToDie  N M Q2) : W_Inquiry_fewestToDie  N M Q3 := by
  unfold W_Inquiry_fewestToDie at h1 h2 ⊢
  refine and_Inquiry_clearOthers (fun M2 h1 h2 => ?_) h1 h2
  refine and_Inquiry_fewestToDie_6 (fun M6 h1 h2 => ?_) hQ N _ _ h1 h2
  · refine and_Inquiry_fewestToDie_30  hQ N _ _ _ h1 h2
theorem and_Inquiry_knownTogether_4 {p1 : Int32} {M : MM} {Q1 Q2 Q3 : Int32 → Prop} (hQ : ∀ (r : Int32), Q1 r → Q2 r → Q3 r) : ∀ (N : Nat) (v2 : Int32) (v3 : Int32), W_Inquiry_knownTogether_4 p1 M Q1 N v2 v3 → W_Inquiry_knownTogether_4 p1 M Q2 N v2 v3 → W_Inquiry_knownTogether_4 p1 M Q3 N v2 v3 := by
  intro N
  induction N with
  | zero => intros; trivial
  | succ N IH =>
    intro v2 v3 h1 h2
    replace h1 : B_Inquiry_knownTogether_4 p1 M Q1 N (W_Inquiry_knownTogether_4 p1 M Q1 N) v2 v3 := h1
    replace h2 : B_Inquiry_knownTogether_4 p1 M Q2 N (W_Inquiry_knownTogether_4 p1 M Q2 N) v2 v3 := h2
    show B_Inquiry_knownTogether_4 p1 M Q3 N (W_Inquiry_knownTogether_4 p1 M Q3 N) v2 v3
    unfold B_Inquiry_knownTogether_4 at h1 h2 ⊢
    refine ⟨fun hc => ?_, fun hc => ?_⟩
    · replace h1 := h1.1 hc
      replace h2 := h2.1 hc
      refine ⟨fun hc => ?_, fun hc => ?_⟩
      · replace h1 := h1.1 hc
        replace h2 := h2.1 hc
        exact IH _ _ h1 h2
      · replace h1 := h1.2 hc
        replace h2 := h2.2 hc
        exact IH _ _ h1 h2
    · replace h1 := h1.2 hc
      replace h2 := h2.2 hc
      exact hQ _ h1 h2
theorem and_Inquiry_knownTogether {p1 : Int32} {N : Nat} {M : MM} {Q1 Q2 Q3 : Int32 → Prop} (hQ : ∀ (r : Int32), Q1 r → Q2 r → Q3 r) (h1 : W_Inquiry_knownTogether p1 N M Q1) (h2 : W_Inquiry_knownTogether p1 N M Q2) : W_Inquiry_knownTogether p1 N M Q3 := by
  unfold W_Inquiry_knownTogether at h1 h2 ⊢
  refine and_Inquiry_knownTogether_4  hQ N _ _ h1 h2
theorem and_Inquiry_fewestKnowers_16 {u1 : Int32} {M : MM} {Q1 Q2 Q3 : Int32 → Prop} (hQ : ∀ (r : Int32), Q1 r → Q2 r → Q3 r) : ∀ (N : Nat) (v2 : Int32) (v3 : Int32) (v4 : Int32), W_Inquiry_fewestKnowers_16 u1 M Q1 N v2 v3 v4 → W_Inquiry_fewestKnowers_16 u1 M Q2 N v2 v3 v4 → W_Inquiry_fewestKnowers_16 u1 M Q3 N v2 v3 v4 := by
  intro N
  induction N with
  | zero => intros; trivial
  | succ N IH =>
    intro v2 v3 v4 h1 h2
    replace h1 : B_Inquiry_fewestKnowers_16 u1 M Q1 N (W_Inquiry_fewestKnowers_16 u1 M Q1 N) v2 v3 v4 := h1
    replace h2 : B_Inquiry_fewestKnowers_16 u1 M Q2 N (W_Inquiry_fewestKnowers_16 u1 M Q2 N) v2 v3 v4 := h2
    show B_Inquiry_fewestKnowers_16 u1 M Q3 N (W_Inquiry_fewestKnowers_16 u1 M Q3 N) v2 v3 v4
    unfold B_Inquiry_fewestKnowers_16 at h1 h2 ⊢
    refine ⟨fun hc => ?_, fun hc => ?_⟩
    · replace h1 := h1.1 hc
      replace h2 := h2.1 hc
      refine ⟨fun hc => ?_, fun hc => ?_⟩
      · replace h1 := h1.1 hc
        replace h2 := h2.1 hc
        refine ⟨fun hc => ?_, fun hc => ?_⟩
        · replace h1 := h1.1 hc
          replace h2 := h2.1 hc
          refine and_Inquiry_knownTogether (fun r6 h1 h2 => ?_) h1 h2
          refine ⟨fun hc => ?_, fun hc => ?_⟩
          · replace h1 := h1.1 hc
            replace h2 := h2.1 hc
            exact IH _ _ _ h1 h2
          · replace h1 := h1.2 hc
            replace h2 := h2.2 hc
            exact IH _ _ _ h1 h2
        · replace h1 := h1.2 hc
          replace h2 := h2.2 hc
          exact IH _ _ _ h1 h2
      · replace h1 := h1.2 hc
        replace h2 := h2.2 hc
        exact IH _ _ _ h1 h2
    · replace h1 := h1.2 hc
      replace h2 := h2.2 hc
      exact hQ _ h1 h2
theorem and_Inquiry_fewestKnowers  {N : Nat} {M : MM} {Q1 Q2 Q3 : Int32 → Prop} (hQ : ∀ (r : Int32), Q1 r → Q2 r → Q3 r) (h1 : W_Inquiry_fewestKnowers  N M Q1) (h2 : W_Inquiry_fewestKnowers  N M Q2) : W_Inquiry_fewestKnowers  N M Q3 := by
  unfold W_Inquiry_fewestKnowers at h1 h2 ⊢
  refine and_World_inForce (fun r1 h1 h2 => ?_) h1 h2
  refine and_Inquiry_fewestKnowers_16  hQ N _ _ _ h1 h2
theorem and_Inquiry_knownByOnly {p1 : Int32} {N : Nat} {M : MM} {Q1 Q2 Q3 : Int32 → Prop} (hQ : ∀ (r : Int32), Q1 r → Q2 r → Q3 r) (h1 : W_Inquiry_knownByOnly p1 N M Q1) (h2 : W_Inquiry_knownByOnly p1 N M Q2) : W_Inquiry_knownByOnly p1 N M Q3 := by
  unfold W_Inquiry_knownByOnly at h1 h2 ⊢
  refine and_Inquiry_knownTogether (fun r1 h1 h2 => ?_) h1 h2
  exact hQ _ h1 h2
theorem and_World_knowersOf_4 {a : Nat} {p1 : Int32} {M : MM} {Q1 Q2 Q3 : Int32 → Prop} (hQ : ∀ (r : Int32), Q1 r → Q2 r → Q3 r) : ∀ (N : Nat) (v2 : Int32) (v3 : Int32), W_World_knowersOf_4 a p1 M Q1 N v2 v3 → W_World_knowersOf_4 a p1 M Q2 N v2 v3 → W_World_knowersOf_4 a p1 M Q3 N v2 v3 := by
  intro N
  induction N with
  | zero => intros; trivial
  | succ N IH =>
    intro v2 v3 h1 h2
    replace h1 : B_World_knowersOf_4 a p1 M Q1 N (W_World_knowersOf_4 a p1 M Q1 N) v2 v3 := h1
    replace h2 : B_World_knowersOf_4 a p1 M Q2 N (W_World_knowersOf_4 a p1 M Q2 N) v2 v3 := h2
    show B_World_knowersOf_4 a p1 M Q3 N (W_World_knowersOf_4 a p1 M Q3 N) v2 v3
    unfold B_World_knowersOf_4 at h1 h2 ⊢
    refine ⟨fun hc => ?_, fun hc => ?_⟩
    · replace h1 := h1.1 hc
      replace h2 := h2.1 hc
      refine ⟨fun hc => ?_, fun hc => ?_⟩
      · replace h1 := h1.1 hc
        replace h2 := h2.1 hc
        exact IH _ _ h1 h2
      · replace h1 := h1.2 hc
        replace h2 := h2.2 hc
        refine ⟨fun hc => ?_, fun hc => ?_⟩
        · replace h1 := h1.1 hc
          replace h2 := h2.1 hc
          exact IH _ _ h1 h2
        · replace h1 := h1.2 hc
          replace h2 := h2.2 hc
          exact IH _ _ h1 h2
    · replace h1 := h1.2 hc
      replace h2 := h2.2 hc
      exact hQ _ h1 h2
theorem and_World_knowersOf {a : Nat} {p1 : Int32} {N : Nat} {M : MM} {Q1 Q2 Q3 : Int32 → Prop} (hQ : ∀ (r : Int32), Q1 r → Q2 r → Q3 r) (h1 : W_World_knowersOf a p1 N M Q1) (h2 : W_World_knowersOf a p1 N M Q2) : W_World_knowersOf a p1 N M Q3 := by
  unfold W_World_knowersOf at h1 h2 ⊢
  refine and_World_knowersOf_4  hQ N _ _ h1 h2
theorem and_Inquiry_tellingsFor_29 {p1 : Int32} {u2 : Int32} {M : MM} {Q1 Q2 Q3 : Int32 → Prop} (hQ : ∀ (r : Int32), Q1 r → Q2 r → Q3 r) : ∀ (N : Nat) (v3 : Int32) (v4 : Int32), W_Inquiry_tellingsFor_29 p1 u2 M Q1 N v3 v4 → W_Inquiry_tellingsFor_29 p1 u2 M Q2 N v3 v4 → W_Inquiry_tellingsFor_29 p1 u2 M Q3 N v3 v4 := by
  intro N
  induction N with
  | zero => intros; trivial
  | succ N IH =>
    intro v3 v4 h1 h2
    replace h1 : B_Inquiry_tellingsFor_29 p1 u2 M Q1 N (W_Inquiry_tellingsFor_29 p1 u2 M Q1 N) v3 v4 := h1
    replace h2 : B_Inquiry_tellingsFor_29 p1 u2 M Q2 N (W_Inquiry_tellingsFor_29 p1 u2 M Q2 N) v3 v4 := h2
    show B_Inquiry_tellingsFor_29 p1 u2 M Q3 N (W_Inquiry_tellingsFor_29 p1 u2 M Q3 N) v3 v4
    unfold B_Inquiry_tellingsFor_29 at h1 h2 ⊢
    refine ⟨fun hc => ?_, fun hc => ?_⟩
    · replace h1 := h1.1 hc
      replace h2 := h2.1 hc
      refine ⟨fun hc => ?_, fun hc => ?_⟩
      · replace h1 := h1.1 hc
        replace h2 := h2.1 hc
        refine and_World_knowersOf (fun r6 h1 h2 => ?_) h1 h2
        exact IH _ _ h1 h2
      · replace h1 := h1.2 hc
        replace h2 := h2.2 hc
        exact IH _ _ h1 h2
    · replace h1 := h1.2 hc
      replace h2 := h2.2 hc
      exact hQ _ h1 h2
theorem and_Inquiry_tellingsFor {p1 : Int32} {N : Nat} {M : MM} {Q1 Q2 Q3 : Int32 → Prop} (hQ : ∀ (r : Int32), Q1 r → Q2 r → Q3 r) (h1 : W_Inquiry_tellingsFor p1 N M Q1) (h2 : W_Inquiry_tellingsFor p1 N M Q2) : W_Inquiry_tellingsFor p1 N M Q3 := by
  unfold W_Inquiry_tellingsFor at h1 h2 ⊢
  refine ⟨fun hc => ?_, fun hc => ?_⟩
  · replace h1 := h1.1 hc
    replace h2 := h2.1 hc
    exact hQ _ h1 h2
  · replace h1 := h1.2 hc
    replace h2 := h2.2 hc
    refine and_World_inForce (fun r2 h1 h2 => ?_) h1 h2
    refine and_Inquiry_tellingsFor_29  hQ N _ _ h1 h2
theorem and_Inquiry_firstFreePlace_11 {p1 : Int32} {p2 : Int32} {u3 : Int32} {M : MM} {Q1 Q2 Q3 : Int32 → Prop} (hQ : ∀ (r : Int32), Q1 r → Q2 r → Q3 r) : ∀ (N : Nat) (v4 : Int32), W_Inquiry_firstFreePlace_11 p1 p2 u3 M Q1 N v4 → W_Inquiry_firstFreePlace_11 p1 p2 u3 M Q2 N v4 → W_Inquiry_firstFreePlace_11 p1 p2 u3 M Q3 N v4 := by
  intro N
  induction N with
  | zero => intros; trivial
  | succ N IH =>
    intro v4 h1 h2
    replace h1 : B_Inquiry_firstFreePlace_11 p1 p2 u3 M Q1 N (W_Inquiry_firstFreePlace_11 p1 p2 u3 M Q1 N) v4 := h1
    replace h2 : B_Inquiry_firstFreePlace_11 p1 p2 u3 M Q2 N (W_Inquiry_firstFreePlace_11 p1 p2 u3 M Q2 N) v4 := h2
    show B_Inquiry_firstFreePlace_11 p1 p2 u3 M Q3 N (W_Inquiry_firstFreePlace_11 p1 p2 u3 M Q3 N) v4
    unfold B_Inquiry_firstFreePlace_11 at h1 h2 ⊢
    refine ⟨fun hc => ?_, fun hc => ?_⟩
    · replace h1 := h1.1 hc
      replace h2 := h2.1 hc
      refine and_Inquiry_forbidding (fun r4 h1 h2 => ?_) h1 h2
      refine ⟨fun hc => ?_, fun hc => ?_⟩
      · replace h1 := h1.1 hc
        replace h2 := h2.1 hc
        exact hQ _ h1 h2
      · replace h1 := h1.2 hc
        replace h2 := h2.2 hc
        exact IH _ h1 h2
    · replace h1 := h1.2 hc
      replace h2 := h2.2 hc
      exact hQ _ h1 h2
theorem and_Inquiry_firstFreePlace {p1 : Int32} {p2 : Int32} {N : Nat} {M : MM} {Q1 Q2 Q3 : Int32 → Prop} (hQ : ∀ (r : Int32), Q1 r → Q2 r → Q3 r) (h1 : W_Inquiry_firstFreePlace p1 p2 N M Q1) (h2 : W_Inquiry_firstFreePlace p1 p2 N M Q2) : W_Inquiry_firstFreePlace p1 p2 N M Q3 := by
  unfold W_Inquiry_firstFreePlace at h1 h2 ⊢
  refine and_World_inForce (fun r1 h1 h2 => ?_) h1 h2
  refine and_Inquiry_firstFreePlace_11  hQ N _ h1 h2
theorem and_Inquiry_deducedBy_4 {p1 : Int32} {M : MM} {Q1 Q2 Q3 : Int32 → Prop} (hQ : ∀ (r : Int32), Q1 r → Q2 r → Q3 r) : ∀ (N : Nat) (v2 : Int32) (v3 : Int32), W_Inquiry_deducedBy_4 p1 M Q1 N v2 v3 → W_Inquiry_deducedBy_4 p1 M Q2 N v2 v3 → W_Inquiry_deducedBy_4 p1 M Q3 N v2 v3 := by
  intro N
  induction N with
  | zero => intros; trivial
  | succ N IH =>
    intro v2 v3 h1 h2
    replace h1 : B_Inquiry_deducedBy_4 p1 M Q1 N (W_Inquiry_deducedBy_4 p1 M Q1 N) v2 v3 := h1
    replace h2 : B_Inquiry_deducedBy_4 p1 M Q2 N (W_Inquiry_deducedBy_4 p1 M Q2 N) v2 v3 := h2
    show B_Inquiry_deducedBy_4 p1 M Q3 N (W_Inquiry_deducedBy_4 p1 M Q3 N) v2 v3
    unfold B_Inquiry_deducedBy_4 at h1 h2 ⊢
    refine ⟨fun hc => ?_, fun hc => ?_⟩
    · replace h1 := h1.1 hc
      replace h2 := h2.1 hc
      refine ⟨fun hc => ?_, fun hc => ?_⟩
      · replace h1 := h1.1 hc
        replace h2 := h2.1 hc
        exact IH _ _ h1 h2
      · replace h1 := h1.2 hc
        replace h2 := h2.2 hc
        refine and_Inquiry_forbidding (fun r3 h1 h2 => ?_) h1 h2
        exact IH _ _ h1 h2
    · replace h1 := h1.2 hc
      replace h2 := h2.2 hc
      refine and_World_inForce (fun r5 h1 h2 => ?_) h1 h2
      exact hQ _ h1 h2
theorem and_Inquiry_deducedBy {p1 : Int32} {N : Nat} {M : MM} {Q1 Q2 Q3 : Int32 → Prop} (hQ : ∀ (r : Int32), Q1 r → Q2 r → Q3 r) (h1 : W_Inquiry_deducedBy p1 N M Q1) (h2 : W_Inquiry_deducedBy p1 N M Q2) : W_Inquiry_deducedBy p1 N M Q3 := by
  unfold W_Inquiry_deducedBy at h1 h2 ⊢
  refine and_Inquiry_deducedBy_4  hQ N _ _ h1 h2
theorem and_Inquiry_isAllowedToAny_2 {p1 : Int32} {M : MM} {Q1 Q2 Q3 : Int32 → Prop} (hQ : ∀ (r : Int32), Q1 r → Q2 r → Q3 r) : ∀ (N : Nat) (v2 : Int32), W_Inquiry_isAllowedToAny_2 p1 M Q1 N v2 → W_Inquiry_isAllowedToAny_2 p1 M Q2 N v2 → W_Inquiry_isAllowedToAny_2 p1 M Q3 N v2 := by
  intro N
  induction N with
  | zero => intros; trivial
  | succ N IH =>
    intro v2 h1 h2
    replace h1 : B_Inquiry_isAllowedToAny_2 p1 M Q1 N (W_Inquiry_isAllowedToAny_2 p1 M Q1 N) v2 := h1
    replace h2 : B_Inquiry_isAllowedToAny_2 p1 M Q2 N (W_Inquiry_isAllowedToAny_2 p1 M Q2 N) v2 := h2
    show B_Inquiry_isAllowedToAny_2 p1 M Q3 N (W_Inquiry_isAllowedToAny_2 p1 M Q3 N) v2
    unfold B_Inquiry_isAllowedToAny_2 at h1 h2 ⊢
    refine ⟨fun hc => ?_, fun hc => ?_⟩
    · replace h1 := h1.1 hc
      replace h2 := h2.1 hc
      refine ⟨fun hc => ?_, fun hc => ?_⟩
      · replace h1 := h1.1 hc
        replace h2 := h2.1 hc
        exact IH _ h1 h2
      · replace h1 := h1.2 hc
        replace h2 := h2.2 hc
        refine and_Inquiry_allows (fun r3 h1 h2 => ?_) h1 h2
        refine ⟨fun hc => ?_, fun hc => ?_⟩
        · replace h1 := h1.1 hc
          replace h2 := h2.1 hc
          exact IH _ h1 h2
        · replace h1 := h1.2 hc
          replace h2 := h2.2 hc
          exact hQ _ h1 h2
    · replace h1 := h1.2 hc
      replace h2 := h2.2 hc
      exact hQ _ h1 h2
theorem and_Inquiry_isAllowedToAny {p1 : Int32} {N : Nat} {M : MM} {Q1 Q2 Q3 : Int32 → Prop} (hQ : ∀ (r : Int32), Q1 r → Q2 r → Q3 r) (h1 : W_Inquiry_isAllowedToAny p1 N M Q1) (h2 : W_Inquiry_isAllowedToAny p1 N M Q2) : W_Inquiry_isAllowedToAny p1 N M Q3 := by
  unfold W_Inquiry_isAllowedToAny at h1 h2 ⊢
  refine and_Inquiry_isAllowedToAny_2  hQ N _ h1 h2
theorem and_Inquiry_hushedPlaces_4 {p1 : Int32} {M : MM} {Q1 Q2 Q3 : Int32 → Prop} (hQ : ∀ (r : Int32), Q1 r → Q2 r → Q3 r) : ∀ (N : Nat) (v2 : Int32) (v3 : Int32), W_Inquiry_hushedPlaces_4 p1 M Q1 N v2 v3 → W_Inquiry_hushedPlaces_4 p1 M Q2 N v2 v3 → W_Inquiry_hushedPlaces_4 p1 M Q3 N v2 v3 := by
  intro N
  induction N with
  | zero => intros; trivial
  | succ N IH =>
    intro v2 v3 h1 h2
    replace h1 : B_Inquiry_hushedPlaces_4 p1 M Q1 N (W_Inquiry_hushedPlaces_4 p1 M Q1 N) v2 v3 := h1
    replace h2 : B_Inquiry_hushedPlaces_4 p1 M Q2 N (W_Inquiry_hushedPlaces_4 p1 M Q2 N) v2 v3 := h2
    show B_Inquiry_hushedPlaces_4 p1 M Q3 N (W_Inquiry_hushedPlaces_4 p1 M Q3 N) v2 v3
    unfold B_Inquiry_hushedPlaces_4 at h1 h2 ⊢
    refine ⟨fun hc => ?_, fun hc => ?_⟩
    · replace h1 := h1.1 hc
      replace h2 := h2.1 hc
      refine ⟨fun hc => ?_, fun hc => ?_⟩
      · replace h1 := h1.1 hc
        replace h2 := h2.1 hc
        exact hQ _ h1 h2
      · replace h1 := h1.2 hc
        replace h2 := h2.2 hc
        refine and_Inquiry_isAllowedToAny (fun r3 h1 h2 => ?_) h1 h2
        refine ⟨fun hc => ?_, fun hc => ?_⟩
        · replace h1 := h1.1 hc
          replace h2 := h2.1 hc
          exact IH _ _ h1 h2
        · replace h1 := h1.2 hc
          replace h2 := h2.2 hc
          exact IH _ _ h1 h2
    · replace h1 := h1.2 hc
      replace h2 := h2.2 hc
      exact hQ _ h1 h2
theorem and_Inquiry_hushedPlaces {p1 : Int32} {N : Nat} {M : MM} {Q1 Q2 Q3 : Int32 → Prop} (hQ : ∀ (r : Int32), Q1 r → Q2 r → Q3 r) (h1 : W_Inquiry_hushedPlaces p1 N M Q1) (h2 : W_Inquiry_hushedPlaces p1 N M Q2) : W_Inquiry_hushedPlaces p1 N M Q3 := by
  unfold W_Inquiry_hushedPlaces at h1 h2 ⊢
  refine and_Inquiry_hushedPlaces_4  hQ N _ _ h1 h2
theorem and_Inquiry_timesInHabits_18 {p1 : Int32} {u3 : Int32} {M : MM} {k66a k66b k66c : Int32 → Prop} {Q1 Q2 Q3 : Int32 → Prop} (hk66 : ∀ (v2 : Int32), k66a v2 → k66b v2 → k66c v2) (hQ : ∀ (r : Int32), Q1 r → Q2 r → Q3 r) : ∀ (N : Nat) (v2 : Int32) (v4 : Int32), W_Inquiry_timesInHabits_18 p1 u3 M k66a Q1 N v2 v4 → W_Inquiry_timesInHabits_18 p1 u3 M k66b Q2 N v2 v4 → W_Inquiry_timesInHabits_18 p1 u3 M k66c Q3 N v2 v4 := by
  intro N
  induction N with
  | zero => intros; trivial
  | succ N IH =>
    intro v2 v4 h1 h2
    replace h1 : B_Inquiry_timesInHabits_18 p1 u3 M k66a Q1 N (W_Inquiry_timesInHabits_18 p1 u3 M k66a Q1 N) v2 v4 := h1
    replace h2 : B_Inquiry_timesInHabits_18 p1 u3 M k66b Q2 N (W_Inquiry_timesInHabits_18 p1 u3 M k66b Q2 N) v2 v4 := h2
    show B_Inquiry_timesInHabits_18 p1 u3 M k66c Q3 N (W_Inquiry_timesInHabits_18 p1 u3 M k66c Q3 N) v2 v4
    unfold B_Inquiry_timesInHabits_18 at h1 h2 ⊢
    refine ⟨fun hc => ?_, fun hc => ?_⟩
    · replace h1 := h1.1 hc
      replace h2 := h2.1 hc
      refine ⟨fun hc => ?_, fun hc => ?_⟩
      · replace h1 := h1.1 hc
        replace h2 := h2.1 hc
        exact hk66 _ h1 h2
      · replace h1 := h1.2 hc
        replace h2 := h2.2 hc
        refine ⟨fun hc => ?_, fun hc => ?_⟩
        · replace h1 := h1.1 hc
          replace h2 := h2.1 hc
          exact IH _ _ h1 h2
        · replace h1 := h1.2 hc
          replace h2 := h2.2 hc
          exact IH _ _ h1 h2
    · replace h1 := h1.2 hc
      replace h2 := h2.2 hc
      exact hk66 _ h1 h2
theorem and_Inquiry_timesInHabits_4 {p1 : Int32} {M : MM} {Q1 Q2 Q3 : Int32 → Prop} (hQ : ∀ (r : Int32), Q1 r → Q2 r → Q3 r) : ∀ (N : Nat) (v2 : Int32) (v3 : Int32), W_Inquiry_timesInHabits_4 p1 M Q1 N v2 v3 → W_Inquiry_timesInHabits_4 p1 M Q2 N v2 v3 → W_Inquiry_timesInHabits_4 p1 M Q3 N v2 v3 := by
  intro N
  induction N with
  | zero => intros; trivial
  | succ N IH =>
    intro v2 v3 h1 h2
    replace h1 : B_Inquiry_timesInHabits_4 p1 M Q1 N (W_Inquiry_timesInHabits_4 p1 M Q1 N) v2 v3 := h1
    replace h2 : B_Inquiry_timesInHabits_4 p1 M Q2 N (W_Inquiry_timesInHabits_4 p1 M Q2 N) v2 v3 := h2
    show B_Inquiry_timesInHabits_4 p1 M Q3 N (W_Inquiry_timesInHabits_4 p1 M Q3 N) v2 v3
    unfold B_Inquiry_timesInHabits_4 at h1 h2 ⊢
    refine ⟨fun hc => ?_, fun hc => ?_⟩
    · replace h1 := h1.1 hc
      replace h2 := h2.1 hc
      refine and_Inquiry_timesInHabits_18 (fun x5 h1 h2 => ?_) hQ N _ _ h1 h2
      · exact IH _ _ h1 h2
    · replace h1 := h1.2 hc
      replace h2 := h2.2 hc
      exact hQ _ h1 h2
theorem and_Inquiry_timesInHabits {p1 : Int32} {N : Nat} {M : MM} {Q1 Q2 Q3 : Int32 → Prop} (hQ : ∀ (r : Int32), Q1 r → Q2 r → Q3 r) (h1 : W_Inquiry_timesInHabits p1 N M Q1) (h2 : W_Inquiry_timesInHabits p1 N M Q2) : W_Inquiry_timesInHabits p1 N M Q3 := by
  unfold W_Inquiry_timesInHabits at h1 h2 ⊢
  refine and_Inquiry_timesInHabits_4  hQ N _ _ h1 h2
theorem and_Inquiry_usualDeed_7 {p1 : Int32} {M : MM} {Q1 Q2 Q3 : Int32 → Prop} (hQ : ∀ (r : Int32), Q1 r → Q2 r → Q3 r) : ∀ (N : Nat) (v2 : Int32) (v3 : Int32) (v4 : Int32), W_Inquiry_usualDeed_7 p1 M Q1 N v2 v3 v4 → W_Inquiry_usualDeed_7 p1 M Q2 N v2 v3 v4 → W_Inquiry_usualDeed_7 p1 M Q3 N v2 v3 v4 := by
  intro N
  induction N with
  | zero => intros; trivial
  | succ N IH =>
    intro v2 v3 v4 h1 h2
    replace h1 : B_Inquiry_usualDeed_7 p1 M Q1 N (W_Inquiry_usualDeed_7 p1 M Q1 N) v2 v3 v4 := h1
    replace h2 : B_Inquiry_usualDeed_7 p1 M Q2 N (W_Inquiry_usualDeed_7 p1 M Q2 N) v2 v3 v4 := h2
    show B_Inquiry_usualDeed_7 p1 M Q3 N (W_Inquiry_usualDeed_7 p1 M Q3 N) v2 v3 v4
    unfold B_Inquiry_usualDeed_7 at h1 h2 ⊢
    refine ⟨fun hc => ?_, fun hc => ?_⟩
    · replace h1 := h1.1 hc
      replace h2 := h2.1 hc
      refine and_Inquiry_timesInHabits (fun r2 h1 h2 => ?_) h1 h2
      refine ⟨fun hc => ?_, fun hc => ?_⟩
      · replace h1 := h1.1 hc
        replace h2 := h2.1 hc
        exact IH _ _ _ h1 h2
      · replace h1 := h1.2 hc
        replace h2 := h2.2 hc
        exact IH _ _ _ h1 h2
    · replace h1 := h1.2 hc
      replace h2 := h2.2 hc
      exact hQ _ h1 h2
theorem and_Inquiry_usualDeed {p1 : Int32} {N : Nat} {M : MM} {Q1 Q2 Q3 : Int32 → Prop} (hQ : ∀ (r : Int32), Q1 r → Q2 r → Q3 r) (h1 : W_Inquiry_usualDeed p1 N M Q1) (h2 : W_Inquiry_usualDeed p1 N M Q2) : W_Inquiry_usualDeed p1 N M Q3 := by
  unfold W_Inquiry_usualDeed at h1 h2 ⊢
  refine and_Inquiry_usualDeed_7  hQ N _ _ _ h1 h2
theorem and_Inquiry_worthOf {p1 : Int32} {p2 : Int32} {N : Nat} {M : MM} {Q1 Q2 Q3 : Int32 → Prop} (hQ : ∀ (r : Int32), Q1 r → Q2 r → Q3 r) (h1 : W_Inquiry_worthOf p1 p2 N M Q1) (h2 : W_Inquiry_worthOf p1 p2 N M Q2) : W_Inquiry_worthOf p1 p2 N M Q3 := by
  unfold W_Inquiry_worthOf at h1 h2 ⊢
  refine ⟨fun hc => ?_, fun hc => ?_⟩
  · replace h1 := h1.1 hc
    replace h2 := h2.1 hc
    exact hQ _ h1 h2
  · replace h1 := h1.2 hc
    replace h2 := h2.2 hc
    refine ⟨fun hc => ?_, fun hc => ?_⟩
    · replace h1 := h1.1 hc
      replace h2 := h2.1 hc
      refine and_Inquiry_forbiddenTo (fun r3 h1 h2 => ?_) h1 h2
      refine ⟨fun hc => ?_, fun hc => ?_⟩
      · replace h1 := h1.1 hc
        replace h2 := h2.1 hc
        exact hQ _ h1 h2
      · replace h1 := h1.2 hc
        replace h2 := h2.2 hc
        exact hQ _ h1 h2
    · replace h1 := h1.2 hc
      replace h2 := h2.2 hc
      exact hQ _ h1 h2
theorem and_Inquiry_mostWorth_5 {p1 : Int32} {p2 : Int32} {M : MM} {Q1 Q2 Q3 : Int32 → Prop} (hQ : ∀ (r : Int32), Q1 r → Q2 r → Q3 r) : ∀ (N : Nat) (v3 : Int32) (v4 : Int32), W_Inquiry_mostWorth_5 p1 p2 M Q1 N v3 v4 → W_Inquiry_mostWorth_5 p1 p2 M Q2 N v3 v4 → W_Inquiry_mostWorth_5 p1 p2 M Q3 N v3 v4 := by
  intro N
  induction N with
  | zero => intros; trivial
  | succ N IH =>
    intro v3 v4 h1 h2
    replace h1 : B_Inquiry_mostWorth_5 p1 p2 M Q1 N (W_Inquiry_mostWorth_5 p1 p2 M Q1 N) v3 v4 := h1
    replace h2 : B_Inquiry_mostWorth_5 p1 p2 M Q2 N (W_Inquiry_mostWorth_5 p1 p2 M Q2 N) v3 v4 := h2
    show B_Inquiry_mostWorth_5 p1 p2 M Q3 N (W_Inquiry_mostWorth_5 p1 p2 M Q3 N) v3 v4
    unfold B_Inquiry_mostWorth_5 at h1 h2 ⊢
    refine ⟨fun hc => ?_, fun hc => ?_⟩
    · replace h1 := h1.1 hc
      replace h2 := h2.1 hc
      refine ⟨fun hc => ?_, fun hc => ?_⟩
      · replace h1 := h1.1 hc
        replace h2 := h2.1 hc
        exact IH _ _ h1 h2
      · replace h1 := h1.2 hc
        replace h2 := h2.2 hc
        refine ⟨fun hc => ?_, fun hc => ?_⟩
        · replace h1 := h1.1 hc
          replace h2 := h2.1 hc
          exact IH _ _ h1 h2
        · replace h1 := h1.2 hc
          replace h2 := h2.2 hc
          refine and_Inquiry_worthOf (fun r4 h1 h2 => ?_) h1 h2
          refine and_Inquiry_worthOf (fun r6 h1 h2 => ?_) h1 h2
          refine ⟨fun hc => ?_, fun hc => ?_⟩
          · replace h1 := h1.1 hc
            replace h2 := h2.1 hc
            exact IH _ _ h1 h2
          · replace h1 := h1.2 hc
            replace h2 := h2.2 hc
            exact IH _ _ h1 h2
    · replace h1 := h1.2 hc
      replace h2 := h2.2 hc
      exact hQ _ h1 h2
theorem and_Inquiry_mostWorth {p1 : Int32} {p2 : Int32} {N : Nat} {M : MM} {Q1 Q2 Q3 : Int32 → Prop} (hQ : ∀ (r : Int32), Q1 r → Q2 r → Q3 r) (h1 : W_Inquiry_mostWorth p1 p2 N M Q1) (h2 : W_Inquiry_mostWorth p1 p2 N M Q2) : W_Inquiry_mostWorth p1 p2 N M Q3 := by
  unfold W_Inquiry_mostWorth at h1 h2 ⊢
  refine and_Inquiry_mostWorth_5  hQ N _ _ h1 h2
theorem and_Inquiry_crowdAt_5 {p1 : Int32} {p2 : Int32} {M : MM} {Q1 Q2 Q3 : Int32 → Prop} (hQ : ∀ (r : Int32), Q1 r → Q2 r → Q3 r) : ∀ (N : Nat) (v3 : Int32) (v4 : Int32), W_Inquiry_crowdAt_5 p1 p2 M Q1 N v3 v4 → W_Inquiry_crowdAt_5 p1 p2 M Q2 N v3 v4 → W_Inquiry_crowdAt_5 p1 p2 M Q3 N v3 v4 := by
  intro N
  induction N with
  | zero => intros; trivial
  | succ N IH =>
    intro v3 v4 h1 h2
    replace h1 : B_Inquiry_crowdAt_5 p1 p2 M Q1 N (W_Inquiry_crowdAt_5 p1 p2 M Q1 N) v3 v4 := h1
    replace h2 : B_Inquiry_crowdAt_5 p1 p2 M Q2 N (W_Inquiry_crowdAt_5 p1 p2 M Q2 N) v3 v4 := h2
    show B_Inquiry_crowdAt_5 p1 p2 M Q3 N (W_Inquiry_crowdAt_5 p1 p2 M Q3 N) v3 v4
    unfold B_Inquiry_crowdAt_5 at h1 h2 ⊢
    refine ⟨fun hc => ?_, fun hc => ?_⟩
    · replace h1 := h1.1 hc
      replace h2 := h2.1 hc
      refine ⟨fun hc => ?_, fun hc => ?_⟩
      · replace h1 := h1.1 hc
        replace h2 := h2.1 hc
        exact IH _ _ h1 h2
      · replace h1 := h1.2 hc
        replace h2 := h2.2 hc
        refine ⟨fun hc => ?_, fun hc => ?_⟩
        · replace h1 := h1.1 hc
          replace h2 := h2.1 hc
          exact IH _ _ h1 h2
        · replace h1 := h1.2 hc
          replace h2 := h2.2 hc
          exact IH _ _ h1 h2
    · replace h1 := h1.2 hc
      replace h2 := h2.2 hc
      exact hQ _ h1 h2
theorem and_Inquiry_crowdAt {p1 : Int32} {p2 : Int32} {N : Nat} {M : MM} {Q1 Q2 Q3 : Int32 → Prop} (hQ : ∀ (r : Int32), Q1 r → Q2 r → Q3 r) (h1 : W_Inquiry_crowdAt p1 p2 N M Q1) (h2 : W_Inquiry_crowdAt p1 p2 N M Q2) : W_Inquiry_crowdAt p1 p2 N M Q3 := by
  unfold W_Inquiry_crowdAt at h1 h2 ⊢
  refine and_Inquiry_crowdAt_5  hQ N _ _ h1 h2
theorem and_Inquiry_meetings_6 {p1 : Int32} {p2 : Int32} {p3 : Int32} {M : MM} {Q1 Q2 Q3 : Int32 → Prop} (hQ : ∀ (r : Int32), Q1 r → Q2 r → Q3 r) : ∀ (N : Nat) (v4 : Int32) (v5 : Int32), W_Inquiry_meetings_6 p1 p2 p3 M Q1 N v4 v5 → W_Inquiry_meetings_6 p1 p2 p3 M Q2 N v4 v5 → W_Inquiry_meetings_6 p1 p2 p3 M Q3 N v4 v5 := by
  intro N
  induction N with
  | zero => intros; trivial
  | succ N IH =>
    intro v4 v5 h1 h2
    replace h1 : B_Inquiry_meetings_6 p1 p2 p3 M Q1 N (W_Inquiry_meetings_6 p1 p2 p3 M Q1 N) v4 v5 := h1
    replace h2 : B_Inquiry_meetings_6 p1 p2 p3 M Q2 N (W_Inquiry_meetings_6 p1 p2 p3 M Q2 N) v4 v5 := h2
    show B_Inquiry_meetings_6 p1 p2 p3 M Q3 N (W_Inquiry_meetings_6 p1 p2 p3 M Q3 N) v4 v5
    unfold B_Inquiry_meetings_6 at h1 h2 ⊢
    refine ⟨fun hc => ?_, fun hc => ?_⟩
    · replace h1 := h1.1 hc
      replace h2 := h2.1 hc
      refine ⟨fun hc => ?_, fun hc => ?_⟩
      · replace h1 := h1.1 hc
        replace h2 := h2.1 hc
        exact IH _ _ h1 h2
      · replace h1 := h1.2 hc
        replace h2 := h2.2 hc
        exact IH _ _ h1 h2
    · replace h1 := h1.2 hc
      replace h2 := h2.2 hc
      exact hQ _ h1 h2
theorem and_Inquiry_meetings {p1 : Int32} {p2 : Int32} {p3 : Int32} {N : Nat} {M : MM} {Q1 Q2 Q3 : Int32 → Prop} (hQ : ∀ (r : Int32), Q1 r → Q2 r → Q3 r) (h1 : W_Inquiry_meetings p1 p2 p3 N M Q1) (h2 : W_Inquiry_meetings p1 p2 p3 N M Q2) : W_Inquiry_meetings p1 p2 p3 N M Q3 := by
  unfold W_Inquiry_meetings at h1 h2 ⊢
  refine and_Inquiry_meetings_6  hQ N _ _ h1 h2
theorem and_Law_become {a : Nat} {b : Nat} {N : Nat} {M : MM} {Q1 Q2 Q3 : MM → Prop} (hQ : ∀  (M1 : MM), Q1 M1 → Q2 M1 → Q3 M1) (h1 : W_Law_become a b N M Q1) (h2 : W_Law_become a b N M Q2) : W_Law_become a b N M Q3 := by
  unfold W_Law_become at h1 h2 ⊢
  exact hQ _ h1 h2
theorem and_Law_clear {a : Nat} {N : Nat} {M : MM} {Q1 Q2 Q3 : MM → Prop} (hQ : ∀  (M1 : MM), Q1 M1 → Q2 M1 → Q3 M1) (h1 : W_Law_clear a N M Q1) (h2 : W_Law_clear a N M Q2) : W_Law_clear a N M Q3 := by
  unfold W_Law_clear at h1 h2 ⊢
  exact hQ _ h1 h2
theorem and_Law_addStep {a : Nat} {p1 : Int32} {N : Nat} {M : MM} {Q1 Q2 Q3 : MM → Prop} (hQ : ∀  (M1 : MM), Q1 M1 → Q2 M1 → Q3 M1) (h1 : W_Law_addStep a p1 N M Q1) (h2 : W_Law_addStep a p1 N M Q2) : W_Law_addStep a p1 N M Q3 := by
  unfold W_Law_addStep at h1 h2 ⊢
  refine ⟨fun hc => ?_, fun hc => ?_⟩
  · replace h1 := h1.1 hc
    replace h2 := h2.1 hc
    exact hQ _ h1 h2
  · replace h1 := h1.2 hc
    replace h2 := h2.2 hc
    exact hQ _ h1 h2
theorem and_Law_addTerms_20 {a : Nat} {u1 : Int32} {Q1 Q2 Q3 : Int32 → MM → Prop} (hQ : ∀ (r : Int32) (M1 : MM), Q1 r M1 → Q2 r M1 → Q3 r M1) : ∀ (N : Nat) (v2 : Int32) (M : MM), W_Law_addTerms_20 a u1 Q1 N v2 M → W_Law_addTerms_20 a u1 Q2 N v2 M → W_Law_addTerms_20 a u1 Q3 N v2 M := by
  intro N
  induction N with
  | zero => intros; trivial
  | succ N IH =>
    intro v2 M h1 h2
    replace h1 : B_Law_addTerms_20 a u1 Q1 N (W_Law_addTerms_20 a u1 Q1 N) v2 M := h1
    replace h2 : B_Law_addTerms_20 a u1 Q2 N (W_Law_addTerms_20 a u1 Q2 N) v2 M := h2
    show B_Law_addTerms_20 a u1 Q3 N (W_Law_addTerms_20 a u1 Q3 N) v2 M
    unfold B_Law_addTerms_20 at h1 h2 ⊢
    refine ⟨fun hc => ?_, fun hc => ?_⟩
    · replace h1 := h1.1 hc
      replace h2 := h2.1 hc
      exact IH _ _ h1 h2
    · replace h1 := h1.2 hc
      replace h2 := h2.2 hc
      exact hQ _ _ h1 h2
theorem and_Law_addTerms {a : Nat} {N : Nat} {M : MM} {Q1 Q2 Q3 : Int32 → MM → Prop} (hQ : ∀ (r : Int32) (M1 : MM), Q1 r M1 → Q2 r M1 → Q3 r M1) (h1 : W_Law_addTerms a N M Q1) (h2 : W_Law_addTerms a N M Q2) : W_Law_addTerms a N M Q3 := by
  unfold W_Law_addTerms at h1 h2 ⊢
  refine ⟨fun hc => ?_, fun hc => ?_⟩
  · replace h1 := h1.1 hc
    replace h2 := h2.1 hc
    exact hQ _ _ h1 h2
  · replace h1 := h1.2 hc
    replace h2 := h2.2 hc
    refine and_Law_addTerms_20  hQ N _ _ h1 h2
theorem and_Law_addClause {a : Nat} {p1 : Int32} {p2 : Int32} {N : Nat} {M : MM} {Q1 Q2 Q3 : MM → Prop} (hQ : ∀  (M1 : MM), Q1 M1 → Q2 M1 → Q3 M1) (h1 : W_Law_addClause a p1 p2 N M Q1) (h2 : W_Law_addClause a p1 p2 N M Q2) : W_Law_addClause a p1 p2 N M Q3 := by
  unfold W_Law_addClause at h1 h2 ⊢
  refine ⟨fun hc => ?_, fun hc => ?_⟩
  · replace h1 := h1.1 hc
    replace h2 := h2.1 hc
    refine ⟨fun hc => ?_, fun hc => ?_⟩
    · replace h1 := h1.1 hc
      replace h2 := h2.1 hc
      exact hQ _ h1 h2
    · replace h1 := h1.2 hc
      replace h2 := h2.2 hc
      exact hQ _ h1 h2
  · replace h1 := h1.2 hc
    replace h2 := h2.2 hc
    exact hQ _ h1 h2
theorem and_Text_goOn  {N : Nat} {M : MM} {Q1 Q2 Q3 : MM → Prop} (hQ : ∀  (M1 : MM), Q1 M1 → Q2 M1 → Q3 M1) (h1 : W_Text_goOn  N M Q1) (h2 : W_Text_goOn  N M Q2) : W_Text_goOn  N M Q3 := by
  unfold W_Text_goOn at h1 h2 ⊢
  exact hQ _ h1 h2
theorem and_LawReader_readSum_2 {p1 : Int32} {p2 : Int32} {Q1 Q2 Q3 : Int32 → MM → Prop} (hQ : ∀ (r : Int32) (M1 : MM), Q1 r M1 → Q2 r M1 → Q3 r M1) : ∀ (N : Nat) (v3 : Int32) (M : MM), W_LawReader_readSum_2 p1 p2 Q1 N v3 M → W_LawReader_readSum_2 p1 p2 Q2 N v3 M → W_LawReader_readSum_2 p1 p2 Q3 N v3 M := by
  intro N
  induction N with
  | zero => intros; trivial
  | succ N IH =>
    intro v3 M h1 h2
    replace h1 : B_LawReader_readSum_2 p1 p2 Q1 N (W_LawReader_readSum_2 p1 p2 Q1 N) v3 M := h1
    replace h2 : B_LawReader_readSum_2 p1 p2 Q2 N (W_LawReader_readSum_2 p1 p2 Q2 N) v3 M := h2
    show B_LawReader_readSum_2 p1 p2 Q3 N (W_LawReader_readSum_2 p1 p2 Q3 N) v3 M
    unfold B_LawReader_readSum_2 at h1 h2 ⊢
    refine ⟨fun hc => ?_, fun hc => ?_⟩
    · replace h1 := h1.1 hc
      replace h2 := h2.1 hc
      refine ⟨fun hc => ?_, fun hc => ?_⟩
      · replace h1 := h1.1 hc
        replace h2 := h2.1 hc
        refine ⟨fun hc => ?_, fun hc => ?_⟩
        · replace h1 := h1.1 hc
          replace h2 := h2.1 hc
          refine ⟨fun hc => ?_, fun hc => ?_⟩
          · replace h1 := h1.1 hc
            replace h2 := h2.1 hc
            refine and_Text_goOn (fun M6 h1 h2 => ?_) h1 h2
            refine ⟨fun hc => ?_, fun hc => ?_⟩
            · replace h1 := h1.1 hc
              replace h2 := h2.1 hc
              refine and_Text_goOn (fun M9 h1 h2 => ?_) h1 h2
              exact IH _ _ h1 h2
            · replace h1 := h1.2 hc
              replace h2 := h2.2 hc
              exact hQ _ _ h1 h2
          · replace h1 := h1.2 hc
            replace h2 := h2.2 hc
            refine ⟨fun hc => ?_, fun hc => ?_⟩
            · replace h1 := h1.1 hc
              replace h2 := h2.1 hc
              refine and_Text_goOn (fun M12 h1 h2 => ?_) h1 h2
              refine ⟨fun hc => ?_, fun hc => ?_⟩
              · replace h1 := h1.1 hc
                replace h2 := h2.1 hc
                refine and_Text_goOn (fun M15 h1 h2 => ?_) h1 h2
                exact IH _ _ h1 h2
              · replace h1 := h1.2 hc
                replace h2 := h2.2 hc
                exact hQ _ _ h1 h2
            · replace h1 := h1.2 hc
              replace h2 := h2.2 hc
              refine ⟨fun hc => ?_, fun hc => ?_⟩
              · replace h1 := h1.1 hc
                replace h2 := h2.1 hc
                refine and_Text_goOn (fun M18 h1 h2 => ?_) h1 h2
                refine ⟨fun hc => ?_, fun hc => ?_⟩
                · replace h1 := h1.1 hc
                  replace h2 := h2.1 hc
                  refine and_Text_goOn (fun M21 h1 h2 => ?_) h1 h2
                  exact IH _ _ h1 h2
                · replace h1 := h1.2 hc
                  replace h2 := h2.2 hc
                  exact hQ _ _ h1 h2
              · replace h1 := h1.2 hc
                replace h2 := h2.2 hc
                refine ⟨fun hc => ?_, fun hc => ?_⟩
                · replace h1 := h1.1 hc
                  replace h2 := h2.1 hc
                  refine and_Text_goOn (fun M24 h1 h2 => ?_) h1 h2
                  refine ⟨fun hc => ?_, fun hc => ?_⟩
                  · replace h1 := h1.1 hc
                    replace h2 := h2.1 hc
                    refine and_Text_goOn (fun M27 h1 h2 => ?_) h1 h2
                    exact IH _ _ h1 h2
                  · replace h1 := h1.2 hc
                    replace h2 := h2.2 hc
                    exact hQ _ _ h1 h2
                · replace h1 := h1.2 hc
                  replace h2 := h2.2 hc
                  exact hQ _ _ h1 h2
        · replace h1 := h1.2 hc
          replace h2 := h2.2 hc
          refine and_Text_goOn (fun M29 h1 h2 => ?_) h1 h2
          refine ⟨fun hc => ?_, fun hc => ?_⟩
          · replace h1 := h1.1 hc
            replace h2 := h2.1 hc
            refine and_Text_goOn (fun M32 h1 h2 => ?_) h1 h2
            exact IH _ _ h1 h2
          · replace h1 := h1.2 hc
            replace h2 := h2.2 hc
            exact hQ _ _ h1 h2
      · replace h1 := h1.2 hc
        replace h2 := h2.2 hc
        refine ⟨fun hc => ?_, fun hc => ?_⟩
        · replace h1 := h1.1 hc
          replace h2 := h2.1 hc
          refine and_Text_goOn (fun M35 h1 h2 => ?_) h1 h2
          refine ⟨fun hc => ?_, fun hc => ?_⟩
          · replace h1 := h1.1 hc
            replace h2 := h2.1 hc
            refine and_Text_goOn (fun M38 h1 h2 => ?_) h1 h2
            exact IH _ _ h1 h2
          · replace h1 := h1.2 hc
            replace h2 := h2.2 hc
            exact hQ _ _ h1 h2
        · replace h1 := h1.2 hc
          replace h2 := h2.2 hc
          refine ⟨fun hc => ?_, fun hc => ?_⟩
          · replace h1 := h1.1 hc
            replace h2 := h2.1 hc
            refine and_Text_goOn (fun M41 h1 h2 => ?_) h1 h2
            refine ⟨fun hc => ?_, fun hc => ?_⟩
            · replace h1 := h1.1 hc
              replace h2 := h2.1 hc
              refine and_Text_goOn (fun M44 h1 h2 => ?_) h1 h2
              exact IH _ _ h1 h2
            · replace h1 := h1.2 hc
              replace h2 := h2.2 hc
              exact hQ _ _ h1 h2
          · replace h1 := h1.2 hc
            replace h2 := h2.2 hc
            refine ⟨fun hc => ?_, fun hc => ?_⟩
            · replace h1 := h1.1 hc
              replace h2 := h2.1 hc
              refine and_Text_goOn (fun M47 h1 h2 => ?_) h1 h2
              refine ⟨fun hc => ?_, fun hc => ?_⟩
              · replace h1 := h1.1 hc
                replace h2 := h2.1 hc
                refine and_Text_goOn (fun M50 h1 h2 => ?_) h1 h2
                exact IH _ _ h1 h2
              · replace h1 := h1.2 hc
                replace h2 := h2.2 hc
                exact hQ _ _ h1 h2
            · replace h1 := h1.2 hc
              replace h2 := h2.2 hc
              refine ⟨fun hc => ?_, fun hc => ?_⟩
              · replace h1 := h1.1 hc
                replace h2 := h2.1 hc
                refine and_Text_goOn (fun M53 h1 h2 => ?_) h1 h2
                refine ⟨fun hc => ?_, fun hc => ?_⟩
                · replace h1 := h1.1 hc
                  replace h2 := h2.1 hc
                  refine and_Text_goOn (fun M56 h1 h2 => ?_) h1 h2
                  exact IH _ _ h1 h2
                · replace h1 := h1.2 hc
                  replace h2 := h2.2 hc
                  exact hQ _ _ h1 h2
              · replace h1 := h1.2 hc
                replace h2 := h2.2 hc
                exact hQ _ _ h1 h2
    · replace h1 := h1.2 hc
      replace h2 := h2.2 hc
      exact hQ _ _ h1 h2
theorem and_LawReader_readSum {p1 : Int32} {p2 : Int32} {N : Nat} {M : MM} {Q1 Q2 Q3 : Int32 → MM → Prop} (hQ : ∀ (r : Int32) (M1 : MM), Q1 r M1 → Q2 r M1 → Q3 r M1) (h1 : W_LawReader_readSum p1 p2 N M Q1) (h2 : W_LawReader_readSum p1 p2 N M Q2) : W_LawReader_readSum p1 p2 N M Q3 := by
  unfold W_LawReader_readSum at h1 h2 ⊢
  refine and_LawReader_readSum_2  hQ N _ _ h1 h2
theorem and_LawReader_readComparison_61 {u1 : Int32} {u2 : Int32} {k95a k95b k95c : MM → Prop} {Q1 Q2 Q3 : Int32 → MM → Prop} (hk95 : ∀  (M : MM), k95a M → k95b M → k95c M) (hQ : ∀ (r : Int32) (M1 : MM), Q1 r M1 → Q2 r M1 → Q3 r M1) : ∀ (N : Nat) (v3 : Int32) (M : MM), W_LawReader_readComparison_61 u1 u2 k95a Q1 N v3 M → W_LawReader_readComparison_61 u1 u2 k95b Q2 N v3 M → W_LawReader_readComparison_61 u1 u2 k95c Q3 N v3 M := by
  intro N
  induction N with
  | zero => intros; trivial
  | succ N IH =>
    intro v3 M h1 h2
    replace h1 : B_LawReader_readComparison_61 u1 u2 k95a Q1 N (W_LawReader_readComparison_61 u1 u2 k95a Q1 N) v3 M := h1
    replace h2 : B_LawReader_readComparison_61 u1 u2 k95b Q2 N (W_LawReader_readComparison_61 u1 u2 k95b Q2 N) v3 M := h2
    show B_LawReader_readComparison_61 u1 u2 k95c Q3 N (W_LawReader_readComparison_61 u1 u2 k95c Q3 N) v3 M
    unfold B_LawReader_readComparison_61 at h1 h2 ⊢
    refine ⟨fun hc => ?_, fun hc => ?_⟩
    · replace h1 := h1.1 hc
      replace h2 := h2.1 hc
      exact IH _ _ h1 h2
    · replace h1 := h1.2 hc
      replace h2 := h2.2 hc
      exact hk95 _ h1 h2
theorem and_LawReader_readComparison  {N : Nat} {M : MM} {Q1 Q2 Q3 : Int32 → MM → Prop} (hQ : ∀ (r : Int32) (M1 : MM), Q1 r M1 → Q2 r M1 → Q3 r M1) (h1 : W_LawReader_readComparison  N M Q1) (h2 : W_LawReader_readComparison  N M Q2) : W_LawReader_readComparison  N M Q3 := by
  unfold W_LawReader_readComparison at h1 h2 ⊢
  refine and_Law_addTerms (fun r1 M2 h1 h2 => ?_) h1 h2
  refine ⟨fun hc => ?_, fun hc => ?_⟩
  · replace h1 := h1.1 hc
    replace h2 := h2.1 hc
    exact hQ _ _ h1 h2
  · replace h1 := h1.2 hc
    replace h2 := h2.2 hc
    refine and_LawReader_readSum (fun r4 M5 h1 h2 => ?_) h1 h2
    refine ⟨fun hc => ?_, fun hc => ?_⟩
    · replace h1 := h1.1 hc
      replace h2 := h2.1 hc
      exact hQ _ _ h1 h2
    · replace h1 := h1.2 hc
      replace h2 := h2.2 hc
      refine ⟨fun hc => ?_, fun hc => ?_⟩
      · replace h1 := h1.1 hc
        replace h2 := h2.1 hc
        refine and_Text_goOn (fun M9 h1 h2 => ?_) h1 h2
        refine ⟨fun hc => ?_, fun hc => ?_⟩
        · replace h1 := h1.1 hc
          replace h2 := h2.1 hc
          refine and_LawReader_readComparison_61 (fun M12 h1 h2 => ?_) hQ N _ _ h1 h2
          · refine ⟨fun hc => ?_, fun hc => ?_⟩
            · replace h1 := h1.1 hc
              replace h2 := h2.1 hc
              refine and_LawReader_readSum (fun r14 M15 h1 h2 => ?_) h1 h2
              refine ⟨fun hc => ?_, fun hc => ?_⟩
              · replace h1 := h1.1 hc
                replace h2 := h2.1 hc
                exact hQ _ _ h1 h2
              · replace h1 := h1.2 hc
                replace h2 := h2.2 hc
                refine and_Law_addStep (fun M18 h1 h2 => ?_) h1 h2
                exact hQ _ _ h1 h2
            · replace h1 := h1.2 hc
              replace h2 := h2.2 hc
              refine and_LawReader_readSum (fun r19 M20 h1 h2 => ?_) h1 h2
              refine ⟨fun hc => ?_, fun hc => ?_⟩
              · replace h1 := h1.1 hc
                replace h2 := h2.1 hc
                exact hQ _ _ h1 h2
              · replace h1 := h1.2 hc
                replace h2 := h2.2 hc
                refine and_Law_addStep (fun M23 h1 h2 => ?_) h1 h2
                exact hQ _ _ h1 h2
        · replace h1 := h1.2 hc
          replace h2 := h2.2 hc
          refine ⟨fun hc => ?_, fun hc => ?_⟩
          · replace h1 := h1.1 hc
            replace h2 := h2.1 hc
            refine and_LawReader_readSum (fun r25 M26 h1 h2 => ?_) h1 h2
            refine ⟨fun hc => ?_, fun hc => ?_⟩
            · replace h1 := h1.1 hc
              replace h2 := h2.1 hc
              exact hQ _ _ h1 h2
            · replace h1 := h1.2 hc
              replace h2 := h2.2 hc
              refine and_Law_addStep (fun M29 h1 h2 => ?_) h1 h2
              exact hQ _ _ h1 h2
          · replace h1 := h1.2 hc
            replace h2 := h2.2 hc
            refine and_LawReader_readSum (fun r30 M31 h1 h2 => ?_) h1 h2
            refine ⟨fun hc => ?_, fun hc => ?_⟩
            · replace h1 := h1.1 hc
              replace h2 := h2.1 hc
              exact hQ _ _ h1 h2
            · replace h1 := h1.2 hc
              replace h2 := h2.2 hc
              refine and_Law_addStep (fun M34 h1 h2 => ?_) h1 h2
              exact hQ _ _ h1 h2
      · replace h1 := h1.2 hc
        replace h2 := h2.2 hc
        refine ⟨fun hc => ?_, fun hc => ?_⟩
        · replace h1 := h1.1 hc
          replace h2 := h2.1 hc
          refine and_Text_goOn (fun M37 h1 h2 => ?_) h1 h2
          refine ⟨fun hc => ?_, fun hc => ?_⟩
          · replace h1 := h1.1 hc
            replace h2 := h2.1 hc
            refine and_LawReader_readComparison_61 (fun M39 h1 h2 => ?_) hQ N _ _ h1 h2
            · refine ⟨fun hc => ?_, fun hc => ?_⟩
              · replace h1 := h1.1 hc
                replace h2 := h2.1 hc
                refine and_LawReader_readSum (fun r41 M42 h1 h2 => ?_) h1 h2
                refine ⟨fun hc => ?_, fun hc => ?_⟩
                · replace h1 := h1.1 hc
                  replace h2 := h2.1 hc
                  exact hQ _ _ h1 h2
                · replace h1 := h1.2 hc
                  replace h2 := h2.2 hc
                  refine and_Law_addStep (fun M45 h1 h2 => ?_) h1 h2
                  exact hQ _ _ h1 h2
              · replace h1 := h1.2 hc
                replace h2 := h2.2 hc
                refine and_LawReader_readSum (fun r46 M47 h1 h2 => ?_) h1 h2
                refine ⟨fun hc => ?_, fun hc => ?_⟩
                · replace h1 := h1.1 hc
                  replace h2 := h2.1 hc
                  exact hQ _ _ h1 h2
                · replace h1 := h1.2 hc
                  replace h2 := h2.2 hc
                  refine and_Law_addStep (fun M50 h1 h2 => ?_) h1 h2
                  exact hQ _ _ h1 h2
          · replace h1 := h1.2 hc
            replace h2 := h2.2 hc
            refine ⟨fun hc => ?_, fun hc => ?_⟩
            · replace h1 := h1.1 hc
              replace h2 := h2.1 hc
              refine and_LawReader_readSum (fun r52 M53 h1 h2 => ?_) h1 h2
              refine ⟨fun hc => ?_, fun hc => ?_⟩
              · replace h1 := h1.1 hc
                replace h2 := h2.1 hc
                exact hQ _ _ h1 h2
              · replace h1 := h1.2 hc
                replace h2 := h2.2 hc
                refine and_Law_addStep (fun M56 h1 h2 => ?_) h1 h2
                exact hQ _ _ h1 h2
            · replace h1 := h1.2 hc
              replace h2 := h2.2 hc
              refine and_LawReader_readSum (fun r57 M58 h1 h2 => ?_) h1 h2
              refine ⟨fun hc => ?_, fun hc => ?_⟩
              · replace h1 := h1.1 hc
                replace h2 := h2.1 hc
                exact hQ _ _ h1 h2
              · replace h1 := h1.2 hc
                replace h2 := h2.2 hc
                refine and_Law_addStep (fun M61 h1 h2 => ?_) h1 h2
                exact hQ _ _ h1 h2
        · replace h1 := h1.2 hc
          replace h2 := h2.2 hc
          exact hQ _ _ h1 h2
theorem and_LawReader_readAtom_369 {p1 : Int32} {N : Nat} {M : MM} {Q1 Q2 Q3 : Int32 → MM → Prop} (hQ : ∀ (r : Int32) (M1 : MM), Q1 r M1 → Q2 r M1 → Q3 r M1) (h1 : W_LawReader_readAtom_369 p1 N M Q1) (h2 : W_LawReader_readAtom_369 p1 N M Q2) : W_LawReader_readAtom_369 p1 N M Q3 := by
  unfold W_LawReader_readAtom_369 at h1 h2 ⊢
  refine ⟨fun hc => ?_, fun hc => ?_⟩
  · replace h1 := h1.1 hc
    replace h2 := h2.1 hc
    refine and_Text_goOn (fun M3 h1 h2 => ?_) h1 h2
    refine and_Law_addStep (fun M5 h1 h2 => ?_) h1 h2
    exact hQ _ _ h1 h2
  · replace h1 := h1.2 hc
    replace h2 := h2.2 hc
    refine ⟨fun hc => ?_, fun hc => ?_⟩
    · replace h1 := h1.1 hc
      replace h2 := h2.1 hc
      refine ⟨fun hc => ?_, fun hc => ?_⟩
      · replace h1 := h1.1 hc
        replace h2 := h2.1 hc
        refine and_Text_goOn (fun M9 h1 h2 => ?_) h1 h2
        refine ⟨fun hc => ?_, fun hc => ?_⟩
        · replace h1 := h1.1 hc
          replace h2 := h2.1 hc
          trivial
        · replace h1 := h1.2 hc
          replace h2 := h2.2 hc
          trivial
      · replace h1 := h1.2 hc
        replace h2 := h2.2 hc
        exact hQ _ _ h1 h2
    · replace h1 := h1.2 hc
      replace h2 := h2.2 hc
      refine ⟨fun hc => ?_, fun hc => ?_⟩
      · replace h1 := h1.1 hc
        replace h2 := h2.1 hc
        refine ⟨fun hc => ?_, fun hc => ?_⟩
        · replace h1 := h1.1 hc
          replace h2 := h2.1 hc
          refine and_Text_goOn (fun M14 h1 h2 => ?_) h1 h2
          refine ⟨fun hc => ?_, fun hc => ?_⟩
          · replace h1 := h1.1 hc
            replace h2 := h2.1 hc
            trivial
          · replace h1 := h1.2 hc
            replace h2 := h2.2 hc
            trivial
        · replace h1 := h1.2 hc
          replace h2 := h2.2 hc
          exact hQ _ _ h1 h2
      · replace h1 := h1.2 hc
        replace h2 := h2.2 hc
        refine and_LawReader_readComparison (fun r16 M17 h1 h2 => ?_) h1 h2
        exact hQ _ _ h1 h2
theorem and_LawReader_readCondition_368_7 {p1 : Int32} {Q1 Q2 Q3 : Int32 → MM → Prop} (hQ : ∀ (r : Int32) (M1 : MM), Q1 r M1 → Q2 r M1 → Q3 r M1) : ∀ (N : Nat) (v2 : Int32) (v3 : Int32) (v4 : Int32) (M : MM), W_LawReader_readCondition_368_7 p1 Q1 N v2 v3 v4 M → W_LawReader_readCondition_368_7 p1 Q2 N v2 v3 v4 M → W_LawReader_readCondition_368_7 p1 Q3 N v2 v3 v4 M := by
  intro N
  induction N with
  | zero => intros; trivial
  | succ N IH =>
    intro v2 v3 v4 M h1 h2
    replace h1 : B_LawReader_readCondition_368_7 p1 Q1 N (W_LawReader_readCondition_368_7 p1 Q1 N) v2 v3 v4 M := h1
    replace h2 : B_LawReader_readCondition_368_7 p1 Q2 N (W_LawReader_readCondition_368_7 p1 Q2 N) v2 v3 v4 M := h2
    show B_LawReader_readCondition_368_7 p1 Q3 N (W_LawReader_readCondition_368_7 p1 Q3 N) v2 v3 v4 M
    unfold B_LawReader_readCondition_368_7 at h1 h2 ⊢
    refine ⟨fun hc => ?_, fun hc => ?_⟩
    · replace h1 := h1.1 hc
      replace h2 := h2.1 hc
      refine and_LawReader_readAtom_369 (fun r2 M3 h1 h2 => ?_) h1 h2
      refine ⟨fun hc => ?_, fun hc => ?_⟩
      · replace h1 := h1.1 hc
        replace h2 := h2.1 hc
        exact hQ _ _ h1 h2
      · replace h1 := h1.2 hc
        replace h2 := h2.2 hc
        refine ⟨fun hc => ?_, fun hc => ?_⟩
        · replace h1 := h1.1 hc
          replace h2 := h2.1 hc
          refine ⟨fun hc => ?_, fun hc => ?_⟩
          · replace h1 := h1.1 hc
            replace h2 := h2.1 hc
            refine and_Text_goOn (fun M9 h1 h2 => ?_) h1 h2
            exact IH _ _ _ _ h1 h2
          · replace h1 := h1.2 hc
            replace h2 := h2.2 hc
            refine ⟨fun hc => ?_, fun hc => ?_⟩
            · replace h1 := h1.1 hc
              replace h2 := h2.1 hc
              refine ⟨fun hc => ?_, fun hc => ?_⟩
              · replace h1 := h1.1 hc
                replace h2 := h2.1 hc
                refine and_Text_goOn (fun M15 h1 h2 => ?_) h1 h2
                exact IH _ _ _ _ h1 h2
              · replace h1 := h1.2 hc
                replace h2 := h2.2 hc
                exact hQ _ _ h1 h2
            · replace h1 := h1.2 hc
              replace h2 := h2.2 hc
              refine and_Law_addStep (fun M18 h1 h2 => ?_) h1 h2
              refine ⟨fun hc => ?_, fun hc => ?_⟩
              · replace h1 := h1.1 hc
                replace h2 := h2.1 hc
                refine and_Text_goOn (fun M22 h1 h2 => ?_) h1 h2
                exact IH _ _ _ _ h1 h2
              · replace h1 := h1.2 hc
                replace h2 := h2.2 hc
                exact hQ _ _ h1 h2
        · replace h1 := h1.2 hc
          replace h2 := h2.2 hc
          refine and_Law_addStep (fun M25 h1 h2 => ?_) h1 h2
          refine ⟨fun hc => ?_, fun hc => ?_⟩
          · replace h1 := h1.1 hc
            replace h2 := h2.1 hc
            refine and_Text_goOn (fun M29 h1 h2 => ?_) h1 h2
            exact IH _ _ _ _ h1 h2
          · replace h1 := h1.2 hc
            replace h2 := h2.2 hc
            refine ⟨fun hc => ?_, fun hc => ?_⟩
            · replace h1 := h1.1 hc
              replace h2 := h2.1 hc
              refine ⟨fun hc => ?_, fun hc => ?_⟩
              · replace h1 := h1.1 hc
                replace h2 := h2.1 hc
                refine and_Text_goOn (fun M35 h1 h2 => ?_) h1 h2
                exact IH _ _ _ _ h1 h2
              · replace h1 := h1.2 hc
                replace h2 := h2.2 hc
                exact hQ _ _ h1 h2
            · replace h1 := h1.2 hc
              replace h2 := h2.2 hc
              refine and_Law_addStep (fun M38 h1 h2 => ?_) h1 h2
              refine ⟨fun hc => ?_, fun hc => ?_⟩
              · replace h1 := h1.1 hc
                replace h2 := h2.1 hc
                refine and_Text_goOn (fun M42 h1 h2 => ?_) h1 h2
                exact IH _ _ _ _ h1 h2
              · replace h1 := h1.2 hc
                replace h2 := h2.2 hc
                exact hQ _ _ h1 h2
    · replace h1 := h1.2 hc
      replace h2 := h2.2 hc
      exact hQ _ _ h1 h2
theorem and_LawReader_readCondition_368 {p1 : Int32} {N : Nat} {M : MM} {Q1 Q2 Q3 : Int32 → MM → Prop} (hQ : ∀ (r : Int32) (M1 : MM), Q1 r M1 → Q2 r M1 → Q3 r M1) (h1 : W_LawReader_readCondition_368 p1 N M Q1) (h2 : W_LawReader_readCondition_368 p1 N M Q2) : W_LawReader_readCondition_368 p1 N M Q3 := by
  unfold W_LawReader_readCondition_368 at h1 h2 ⊢
  refine and_LawReader_readCondition_368_7  hQ N _ _ _ _ h1 h2
theorem and_LawReader_readAtom_367 {p1 : Int32} {N : Nat} {M : MM} {Q1 Q2 Q3 : Int32 → MM → Prop} (hQ : ∀ (r : Int32) (M1 : MM), Q1 r M1 → Q2 r M1 → Q3 r M1) (h1 : W_LawReader_readAtom_367 p1 N M Q1) (h2 : W_LawReader_readAtom_367 p1 N M Q2) : W_LawReader_readAtom_367 p1 N M Q3 := by
  unfold W_LawReader_readAtom_367 at h1 h2 ⊢
  refine ⟨fun hc => ?_, fun hc => ?_⟩
  · replace h1 := h1.1 hc
    replace h2 := h2.1 hc
    refine and_Text_goOn (fun M3 h1 h2 => ?_) h1 h2
    refine and_Law_addStep (fun M5 h1 h2 => ?_) h1 h2
    exact hQ _ _ h1 h2
  · replace h1 := h1.2 hc
    replace h2 := h2.2 hc
    refine ⟨fun hc => ?_, fun hc => ?_⟩
    · replace h1 := h1.1 hc
      replace h2 := h2.1 hc
      refine ⟨fun hc => ?_, fun hc => ?_⟩
      · replace h1 := h1.1 hc
        replace h2 := h2.1 hc
        refine and_Text_goOn (fun M9 h1 h2 => ?_) h1 h2
        refine ⟨fun hc => ?_, fun hc => ?_⟩
        · replace h1 := h1.1 hc
          replace h2 := h2.1 hc
          refine and_LawReader_readAtom_369 (fun r11 M12 h1 h2 => ?_) h1 h2
          refine ⟨fun hc => ?_, fun hc => ?_⟩
          · replace h1 := h1.1 hc
            replace h2 := h2.1 hc
            exact hQ _ _ h1 h2
          · replace h1 := h1.2 hc
            replace h2 := h2.2 hc
            refine and_Law_addStep (fun M15 h1 h2 => ?_) h1 h2
            exact hQ _ _ h1 h2
        · replace h1 := h1.2 hc
          replace h2 := h2.2 hc
          refine and_LawReader_readCondition_368 (fun r16 M17 h1 h2 => ?_) h1 h2
          refine ⟨fun hc => ?_, fun hc => ?_⟩
          · replace h1 := h1.1 hc
            replace h2 := h2.1 hc
            exact hQ _ _ h1 h2
          · replace h1 := h1.2 hc
            replace h2 := h2.2 hc
            refine ⟨fun hc => ?_, fun hc => ?_⟩
            · replace h1 := h1.1 hc
              replace h2 := h2.1 hc
              refine and_Text_goOn (fun M21 h1 h2 => ?_) h1 h2
              exact hQ _ _ h1 h2
            · replace h1 := h1.2 hc
              replace h2 := h2.2 hc
              exact hQ _ _ h1 h2
      · replace h1 := h1.2 hc
        replace h2 := h2.2 hc
        exact hQ _ _ h1 h2
    · replace h1 := h1.2 hc
      replace h2 := h2.2 hc
      refine ⟨fun hc => ?_, fun hc => ?_⟩
      · replace h1 := h1.1 hc
        replace h2 := h2.1 hc
        refine ⟨fun hc => ?_, fun hc => ?_⟩
        · replace h1 := h1.1 hc
          replace h2 := h2.1 hc
          refine and_Text_goOn (fun M25 h1 h2 => ?_) h1 h2
          refine ⟨fun hc => ?_, fun hc => ?_⟩
          · replace h1 := h1.1 hc
            replace h2 := h2.1 hc
            refine and_LawReader_readAtom_369 (fun r27 M28 h1 h2 => ?_) h1 h2
            refine ⟨fun hc => ?_, fun hc => ?_⟩
            · replace h1 := h1.1 hc
              replace h2 := h2.1 hc
              exact hQ _ _ h1 h2
            · replace h1 := h1.2 hc
              replace h2 := h2.2 hc
              refine and_Law_addStep (fun M31 h1 h2 => ?_) h1 h2
              exact hQ _ _ h1 h2
          · replace h1 := h1.2 hc
            replace h2 := h2.2 hc
            refine and_LawReader_readCondition_368 (fun r32 M33 h1 h2 => ?_) h1 h2
            refine ⟨fun hc => ?_, fun hc => ?_⟩
            · replace h1 := h1.1 hc
              replace h2 := h2.1 hc
              exact hQ _ _ h1 h2
            · replace h1 := h1.2 hc
              replace h2 := h2.2 hc
              refine ⟨fun hc => ?_, fun hc => ?_⟩
              · replace h1 := h1.1 hc
                replace h2 := h2.1 hc
                refine and_Text_goOn (fun M37 h1 h2 => ?_) h1 h2
                exact hQ _ _ h1 h2
              · replace h1 := h1.2 hc
                replace h2 := h2.2 hc
                exact hQ _ _ h1 h2
        · replace h1 := h1.2 hc
          replace h2 := h2.2 hc
          exact hQ _ _ h1 h2
      · replace h1 := h1.2 hc
        replace h2 := h2.2 hc
        refine and_LawReader_readComparison (fun r38 M39 h1 h2 => ?_) h1 h2
        exact hQ _ _ h1 h2
theorem and_LawReader_readCondition_366_7 {p1 : Int32} {Q1 Q2 Q3 : Int32 → MM → Prop} (hQ : ∀ (r : Int32) (M1 : MM), Q1 r M1 → Q2 r M1 → Q3 r M1) : ∀ (N : Nat) (v2 : Int32) (v3 : Int32) (v4 : Int32) (M : MM), W_LawReader_readCondition_366_7 p1 Q1 N v2 v3 v4 M → W_LawReader_readCondition_366_7 p1 Q2 N v2 v3 v4 M → W_LawReader_readCondition_366_7 p1 Q3 N v2 v3 v4 M := by
  intro N
  induction N with
  | zero => intros; trivial
  | succ N IH =>
    intro v2 v3 v4 M h1 h2
    replace h1 : B_LawReader_readCondition_366_7 p1 Q1 N (W_LawReader_readCondition_366_7 p1 Q1 N) v2 v3 v4 M := h1
    replace h2 : B_LawReader_readCondition_366_7 p1 Q2 N (W_LawReader_readCondition_366_7 p1 Q2 N) v2 v3 v4 M := h2
    show B_LawReader_readCondition_366_7 p1 Q3 N (W_LawReader_readCondition_366_7 p1 Q3 N) v2 v3 v4 M
    unfold B_LawReader_readCondition_366_7 at h1 h2 ⊢
    refine ⟨fun hc => ?_, fun hc => ?_⟩
    · replace h1 := h1.1 hc
      replace h2 := h2.1 hc
      refine and_LawReader_readAtom_367 (fun r2 M3 h1 h2 => ?_) h1 h2
      refine ⟨fun hc => ?_, fun hc => ?_⟩
      · replace h1 := h1.1 hc
        replace h2 := h2.1 hc
        exact hQ _ _ h1 h2
      · replace h1 := h1.2 hc
        replace h2 := h2.2 hc
        refine ⟨fun hc => ?_, fun hc => ?_⟩
        · replace h1 := h1.1 hc
          replace h2 := h2.1 hc
          refine ⟨fun hc => ?_, fun hc => ?_⟩
          · replace h1 := h1.1 hc
            replace h2 := h2.1 hc
            refine and_Text_goOn (fun M9 h1 h2 => ?_) h1 h2
            exact IH _ _ _ _ h1 h2
          · replace h1 := h1.2 hc
            replace h2 := h2.2 hc
            refine ⟨fun hc => ?_, fun hc => ?_⟩
            · replace h1 := h1.1 hc
              replace h2 := h2.1 hc
              refine ⟨fun hc => ?_, fun hc => ?_⟩
              · replace h1 := h1.1 hc
                replace h2 := h2.1 hc
                refine and_Text_goOn (fun M15 h1 h2 => ?_) h1 h2
                exact IH _ _ _ _ h1 h2
              · replace h1 := h1.2 hc
                replace h2 := h2.2 hc
                exact hQ _ _ h1 h2
            · replace h1 := h1.2 hc
              replace h2 := h2.2 hc
              refine and_Law_addStep (fun M18 h1 h2 => ?_) h1 h2
              refine ⟨fun hc => ?_, fun hc => ?_⟩
              · replace h1 := h1.1 hc
                replace h2 := h2.1 hc
                refine and_Text_goOn (fun M22 h1 h2 => ?_) h1 h2
                exact IH _ _ _ _ h1 h2
              · replace h1 := h1.2 hc
                replace h2 := h2.2 hc
                exact hQ _ _ h1 h2
        · replace h1 := h1.2 hc
          replace h2 := h2.2 hc
          refine and_Law_addStep (fun M25 h1 h2 => ?_) h1 h2
          refine ⟨fun hc => ?_, fun hc => ?_⟩
          · replace h1 := h1.1 hc
            replace h2 := h2.1 hc
            refine and_Text_goOn (fun M29 h1 h2 => ?_) h1 h2
            exact IH _ _ _ _ h1 h2
          · replace h1 := h1.2 hc
            replace h2 := h2.2 hc
            refine ⟨fun hc => ?_, fun hc => ?_⟩
            · replace h1 := h1.1 hc
              replace h2 := h2.1 hc
              refine ⟨fun hc => ?_, fun hc => ?_⟩
              · replace h1 := h1.1 hc
                replace h2 := h2.1 hc
                refine and_Text_goOn (fun M35 h1 h2 => ?_) h1 h2
                exact IH _ _ _ _ h1 h2
              · replace h1 := h1.2 hc
                replace h2 := h2.2 hc
                exact hQ _ _ h1 h2
            · replace h1 := h1.2 hc
              replace h2 := h2.2 hc
              refine and_Law_addStep (fun M38 h1 h2 => ?_) h1 h2
              refine ⟨fun hc => ?_, fun hc => ?_⟩
              · replace h1 := h1.1 hc
                replace h2 := h2.1 hc
                refine and_Text_goOn (fun M42 h1 h2 => ?_) h1 h2
                exact IH _ _ _ _ h1 h2
              · replace h1 := h1.2 hc
                replace h2 := h2.2 hc
                exact hQ _ _ h1 h2
    · replace h1 := h1.2 hc
      replace h2 := h2.2 hc
      exact hQ _ _ h1 h2
theorem and_LawReader_readCondition_366 {p1 : Int32} {N : Nat} {M : MM} {Q1 Q2 Q3 : Int32 → MM → Prop} (hQ : ∀ (r : Int32) (M1 : MM), Q1 r M1 → Q2 r M1 → Q3 r M1) (h1 : W_LawReader_readCondition_366 p1 N M Q1) (h2 : W_LawReader_readCondition_366 p1 N M Q2) : W_LawReader_readCondition_366 p1 N M Q3 := by
  unfold W_LawReader_readCondition_366 at h1 h2 ⊢
  refine and_LawReader_readCondition_366_7  hQ N _ _ _ _ h1 h2
theorem and_LawReader_readAtom_365 {p1 : Int32} {N : Nat} {M : MM} {Q1 Q2 Q3 : Int32 → MM → Prop} (hQ : ∀ (r : Int32) (M1 : MM), Q1 r M1 → Q2 r M1 → Q3 r M1) (h1 : W_LawReader_readAtom_365 p1 N M Q1) (h2 : W_LawReader_readAtom_365 p1 N M Q2) : W_LawReader_readAtom_365 p1 N M Q3 := by
  unfold W_LawReader_readAtom_365 at h1 h2 ⊢
  refine ⟨fun hc => ?_, fun hc => ?_⟩
  · replace h1 := h1.1 hc
    replace h2 := h2.1 hc
    refine and_Text_goOn (fun M3 h1 h2 => ?_) h1 h2
    refine and_Law_addStep (fun M5 h1 h2 => ?_) h1 h2
    exact hQ _ _ h1 h2
  · replace h1 := h1.2 hc
    replace h2 := h2.2 hc
    refine ⟨fun hc => ?_, fun hc => ?_⟩
    · replace h1 := h1.1 hc
      replace h2 := h2.1 hc
      refine ⟨fun hc => ?_, fun hc => ?_⟩
      · replace h1 := h1.1 hc
        replace h2 := h2.1 hc
        refine and_Text_goOn (fun M9 h1 h2 => ?_) h1 h2
        refine ⟨fun hc => ?_, fun hc => ?_⟩
        · replace h1 := h1.1 hc
          replace h2 := h2.1 hc
          refine and_LawReader_readAtom_367 (fun r11 M12 h1 h2 => ?_) h1 h2
          refine ⟨fun hc => ?_, fun hc => ?_⟩
          · replace h1 := h1.1 hc
            replace h2 := h2.1 hc
            exact hQ _ _ h1 h2
          · replace h1 := h1.2 hc
            replace h2 := h2.2 hc
            refine and_Law_addStep (fun M15 h1 h2 => ?_) h1 h2
            exact hQ _ _ h1 h2
        · replace h1 := h1.2 hc
          replace h2 := h2.2 hc
          refine and_LawReader_readCondition_366 (fun r16 M17 h1 h2 => ?_) h1 h2
          refine ⟨fun hc => ?_, fun hc => ?_⟩
          · replace h1 := h1.1 hc
            replace h2 := h2.1 hc
            exact hQ _ _ h1 h2
          · replace h1 := h1.2 hc
            replace h2 := h2.2 hc
            refine ⟨fun hc => ?_, fun hc => ?_⟩
            · replace h1 := h1.1 hc
              replace h2 := h2.1 hc
              refine and_Text_goOn (fun M21 h1 h2 => ?_) h1 h2
              exact hQ _ _ h1 h2
            · replace h1 := h1.2 hc
              replace h2 := h2.2 hc
              exact hQ _ _ h1 h2
      · replace h1 := h1.2 hc
        replace h2 := h2.2 hc
        exact hQ _ _ h1 h2
    · replace h1 := h1.2 hc
      replace h2 := h2.2 hc
      refine ⟨fun hc => ?_, fun hc => ?_⟩
      · replace h1 := h1.1 hc
        replace h2 := h2.1 hc
        refine ⟨fun hc => ?_, fun hc => ?_⟩
        · replace h1 := h1.1 hc
          replace h2 := h2.1 hc
          refine and_Text_goOn (fun M25 h1 h2 => ?_) h1 h2
          refine ⟨fun hc => ?_, fun hc => ?_⟩
          · replace h1 := h1.1 hc
            replace h2 := h2.1 hc
            refine and_LawReader_readAtom_367 (fun r27 M28 h1 h2 => ?_) h1 h2
            refine ⟨fun hc => ?_, fun hc => ?_⟩
            · replace h1 := h1.1 hc
              replace h2 := h2.1 hc
              exact hQ _ _ h1 h2
            · replace h1 := h1.2 hc
              replace h2 := h2.2 hc
              refine and_Law_addStep (fun M31 h1 h2 => ?_) h1 h2
              exact hQ _ _ h1 h2
          · replace h1 := h1.2 hc
            replace h2 := h2.2 hc
            refine and_LawReader_readCondition_366 (fun r32 M33 h1 h2 => ?_) h1 h2
            refine ⟨fun hc => ?_, fun hc => ?_⟩
            · replace h1 := h1.1 hc
              replace h2 := h2.1 hc
              exact hQ _ _ h1 h2
            · replace h1 := h1.2 hc
              replace h2 := h2.2 hc
              refine ⟨fun hc => ?_, fun hc => ?_⟩
              · replace h1 := h1.1 hc
                replace h2 := h2.1 hc
                refine and_Text_goOn (fun M37 h1 h2 => ?_) h1 h2
                exact hQ _ _ h1 h2
              · replace h1 := h1.2 hc
                replace h2 := h2.2 hc
                exact hQ _ _ h1 h2
        · replace h1 := h1.2 hc
          replace h2 := h2.2 hc
          exact hQ _ _ h1 h2
      · replace h1 := h1.2 hc
        replace h2 := h2.2 hc
        refine and_LawReader_readComparison (fun r38 M39 h1 h2 => ?_) h1 h2
        exact hQ _ _ h1 h2
theorem and_LawReader_readCondition_364_7 {p1 : Int32} {Q1 Q2 Q3 : Int32 → MM → Prop} (hQ : ∀ (r : Int32) (M1 : MM), Q1 r M1 → Q2 r M1 → Q3 r M1) : ∀ (N : Nat) (v2 : Int32) (v3 : Int32) (v4 : Int32) (M : MM), W_LawReader_readCondition_364_7 p1 Q1 N v2 v3 v4 M → W_LawReader_readCondition_364_7 p1 Q2 N v2 v3 v4 M → W_LawReader_readCondition_364_7 p1 Q3 N v2 v3 v4 M := by
  intro N
  induction N with
  | zero => intros; trivial
  | succ N IH =>
    intro v2 v3 v4 M h1 h2
    replace h1 : B_LawReader_readCondition_364_7 p1 Q1 N (W_LawReader_readCondition_364_7 p1 Q1 N) v2 v3 v4 M := h1
    replace h2 : B_LawReader_readCondition_364_7 p1 Q2 N (W_LawReader_readCondition_364_7 p1 Q2 N) v2 v3 v4 M := h2
    show B_LawReader_readCondition_364_7 p1 Q3 N (W_LawReader_readCondition_364_7 p1 Q3 N) v2 v3 v4 M
    unfold B_LawReader_readCondition_364_7 at h1 h2 ⊢
    refine ⟨fun hc => ?_, fun hc => ?_⟩
    · replace h1 := h1.1 hc
      replace h2 := h2.1 hc
      refine and_LawReader_readAtom_365 (fun r2 M3 h1 h2 => ?_) h1 h2
      refine ⟨fun hc => ?_, fun hc => ?_⟩
      · replace h1 := h1.1 hc
        replace h2 := h2.1 hc
        exact hQ _ _ h1 h2
      · replace h1 := h1.2 hc
        replace h2 := h2.2 hc
        refine ⟨fun hc => ?_, fun hc => ?_⟩
        · replace h1 := h1.1 hc
          replace h2 := h2.1 hc
          refine ⟨fun hc => ?_, fun hc => ?_⟩
          · replace h1 := h1.1 hc
            replace h2 := h2.1 hc
            refine and_Text_goOn (fun M9 h1 h2 => ?_) h1 h2
            exact IH _ _ _ _ h1 h2
          · replace h1 := h1.2 hc
            replace h2 := h2.2 hc
            refine ⟨fun hc => ?_, fun hc => ?_⟩
            · replace h1 := h1.1 hc
              replace h2 := h2.1 hc
              refine ⟨fun hc => ?_, fun hc => ?_⟩
              · replace h1 := h1.1 hc
                replace h2 := h2.1 hc
                refine and_Text_goOn (fun M15 h1 h2 => ?_) h1 h2
                exact IH _ _ _ _ h1 h2
              · replace h1 := h1.2 hc
                replace h2 := h2.2 hc
                exact hQ _ _ h1 h2
            · replace h1 := h1.2 hc
              replace h2 := h2.2 hc
              refine and_Law_addStep (fun M18 h1 h2 => ?_) h1 h2
              refine ⟨fun hc => ?_, fun hc => ?_⟩
              · replace h1 := h1.1 hc
                replace h2 := h2.1 hc
                refine and_Text_goOn (fun M22 h1 h2 => ?_) h1 h2
                exact IH _ _ _ _ h1 h2
              · replace h1 := h1.2 hc
                replace h2 := h2.2 hc
                exact hQ _ _ h1 h2
        · replace h1 := h1.2 hc
          replace h2 := h2.2 hc
          refine and_Law_addStep (fun M25 h1 h2 => ?_) h1 h2
          refine ⟨fun hc => ?_, fun hc => ?_⟩
          · replace h1 := h1.1 hc
            replace h2 := h2.1 hc
            refine and_Text_goOn (fun M29 h1 h2 => ?_) h1 h2
            exact IH _ _ _ _ h1 h2
          · replace h1 := h1.2 hc
            replace h2 := h2.2 hc
            refine ⟨fun hc => ?_, fun hc => ?_⟩
            · replace h1 := h1.1 hc
              replace h2 := h2.1 hc
              refine ⟨fun hc => ?_, fun hc => ?_⟩
              · replace h1 := h1.1 hc
                replace h2 := h2.1 hc
                refine and_Text_goOn (fun M35 h1 h2 => ?_) h1 h2
                exact IH _ _ _ _ h1 h2
              · replace h1 := h1.2 hc
                replace h2 := h2.2 hc
                exact hQ _ _ h1 h2
            · replace h1 := h1.2 hc
              replace h2 := h2.2 hc
              refine and_Law_addStep (fun M38 h1 h2 => ?_) h1 h2
              refine ⟨fun hc => ?_, fun hc => ?_⟩
              · replace h1 := h1.1 hc
                replace h2 := h2.1 hc
                refine and_Text_goOn (fun M42 h1 h2 => ?_) h1 h2
                exact IH _ _ _ _ h1 h2
              · replace h1 := h1.2 hc
                replace h2 := h2.2 hc
                exact hQ _ _ h1 h2
    · replace h1 := h1.2 hc
      replace h2 := h2.2 hc
      exact hQ _ _ h1 h2
theorem and_LawReader_readCondition_364 {p1 : Int32} {N : Nat} {M : MM} {Q1 Q2 Q3 : Int32 → MM → Prop} (hQ : ∀ (r : Int32) (M1 : MM), Q1 r M1 → Q2 r M1 → Q3 r M1) (h1 : W_LawReader_readCondition_364 p1 N M Q1) (h2 : W_LawReader_readCondition_364 p1 N M Q2) : W_LawReader_readCondition_364 p1 N M Q3 := by
  unfold W_LawReader_readCondition_364 at h1 h2 ⊢
  refine and_LawReader_readCondition_364_7  hQ N _ _ _ _ h1 h2
