/-! TWO ENDS AT ONCE (gw.py) -/
theorem and_m_isWord_24 {s : Nat} {M : MM} {Q1 Q2 Q3 : Int32 → Prop} (hQ : ∀ (r : Int32), Q1 r → Q2 r → Q3 r) : ∀ (N : Nat) (v2 : Int32) (v3 : Int32), W_m_isWord_24 s M Q1 N v2 v3 → W_m_isWord_24 s M Q2 N v2 v3 → W_m_isWord_24 s M Q3 N v2 v3 := by
  intro N
  induction N with
  | zero => intros; trivial
  | succ N IH =>
    intro v2 v3 h1 h2
    replace h1 : B_m_isWord_24 s M Q1 N (W_m_isWord_24 s M Q1 N) v2 v3 := h1
    replace h2 : B_m_isWord_24 s M Q2 N (W_m_isWord_24 s M Q2 N) v2 v3 := h2
    show B_m_isWord_24 s M Q3 N (W_m_isWord_24 s M Q3 N) v2 v3
    unfold B_m_isWord_24 at h1 h2 ⊢
    refine ⟨fun hc => ?_, fun hc => ?_⟩
    · replace h1 := h1.1 hc
      replace h2 := h2.1 hc
      exact hQ _ h1 h2
    · replace h1 := h1.2 hc
      replace h2 := h2.2 hc
      refine ⟨fun hc => ?_, fun hc => ?_⟩
      · replace h1 := h1.1 hc
        replace h2 := h2.1 hc
        refine ⟨fun hc => ?_, fun hc => ?_⟩
        · replace h1 := h1.1 hc
          replace h2 := h2.1 hc
          exact IH _ _ h1 h2
        · replace h1 := h1.2 hc
          replace h2 := h2.2 hc
          exact IH _ _ h1 h2
      · replace h1 := h1.2 hc
        replace h2 := h2.2 hc
        exact hQ _ h1 h2
theorem and_m_isWord {s : Nat} {N : Nat} {M : MM} {Q1 Q2 Q3 : Int32 → Prop} (hQ : ∀ (r : Int32), Q1 r → Q2 r → Q3 r) (h1 : W_m_isWord s N M Q1) (h2 : W_m_isWord s N M Q2) : W_m_isWord s N M Q3 := by
  unfold W_m_isWord at h1 h2 ⊢
  refine ⟨fun hc => ?_, fun hc => ?_⟩
  · replace h1 := h1.1 hc
    replace h2 := h2.1 hc
    refine and_m_isWord_24  hQ N _ _ h1 h2
  · replace h1 := h1.2 hc
    replace h2 := h2.2 hc
    refine and_m_isWord_24  hQ N _ _ h1 h2
theorem and_m_passes {s : Nat} {N : Nat} {M : MM} {Q1 Q2 Q3 : Int32 → MM → Prop} (hQ : ∀ (r : Int32) (M1 : MM), Q1 r M1 → Q2 r M1 → Q3 r M1) (h1 : W_m_passes s N M Q1) (h2 : W_m_passes s N M Q2) : W_m_passes s N M Q3 := by
  unfold W_m_passes at h1 h2 ⊢
  refine and_m_letters (fun M2 h1 h2 => ?_) h1 h2
  refine and_m_isWord (fun r3 h1 h2 => ?_) h1 h2
  refine ⟨fun hc => ?_, fun hc => ?_⟩
  · replace h1 := h1.1 hc
    replace h2 := h2.1 hc
    exact hQ _ _ h1 h2
  · replace h1 := h1.2 hc
    replace h2 := h2.2 hc
    exact hQ _ _ h1 h2
theorem and_m_sign {p1 : Int32} {N : Nat} {M : MM} {Q1 Q2 Q3 : Int32 → MM → Prop} (hQ : ∀ (r : Int32) (M1 : MM), Q1 r M1 → Q2 r M1 → Q3 r M1) (h1 : W_m_sign p1 N M Q1) (h2 : W_m_sign p1 N M Q2) : W_m_sign p1 N M Q3 := by
  unfold W_m_sign at h1 h2 ⊢
  refine and_m_blanks (fun M2 h1 h2 => ?_) h1 h2
  refine ⟨fun hc => ?_, fun hc => ?_⟩
  · replace h1 := h1.1 hc
    replace h2 := h2.1 hc
    exact hQ _ _ h1 h2
  · replace h1 := h1.2 hc
    replace h2 := h2.2 hc
    exact hQ _ _ h1 h2
theorem and_m_number_6 {p1 : Int32} {p2 : Int32} {k65a k65b k65c : Int32 → MM → Prop} {Q1 Q2 Q3 : Int32 → MM → Prop} (hk65 : ∀ (v3 : Int32) (M : MM), k65a v3 M → k65b v3 M → k65c v3 M) (hQ : ∀ (r : Int32) (M1 : MM), Q1 r M1 → Q2 r M1 → Q3 r M1) : ∀ (N : Nat) (v3 : Int32) (M : MM), W_m_number_6 p1 p2 k65a Q1 N v3 M → W_m_number_6 p1 p2 k65b Q2 N v3 M → W_m_number_6 p1 p2 k65c Q3 N v3 M := by
  intro N
  induction N with
  | zero => intros; trivial
  | succ N IH =>
    intro v3 M h1 h2
    replace h1 : B_m_number_6 p1 p2 k65a Q1 N (W_m_number_6 p1 p2 k65a Q1 N) v3 M := h1
    replace h2 : B_m_number_6 p1 p2 k65b Q2 N (W_m_number_6 p1 p2 k65b Q2 N) v3 M := h2
    show B_m_number_6 p1 p2 k65c Q3 N (W_m_number_6 p1 p2 k65c Q3 N) v3 M
    unfold B_m_number_6 at h1 h2 ⊢
    refine ⟨fun hc => ?_, fun hc => ?_⟩
    · replace h1 := h1.1 hc
      replace h2 := h2.1 hc
      exact hk65 _ _ h1 h2
    · replace h1 := h1.2 hc
      replace h2 := h2.2 hc
      refine ⟨fun hc => ?_, fun hc => ?_⟩
      · replace h1 := h1.1 hc
        replace h2 := h2.1 hc
        exact IH _ _ h1 h2
      · replace h1 := h1.2 hc
        replace h2 := h2.2 hc
        exact IH _ _ h1 h2
theorem and_m_number {p1 : Int32} {p2 : Int32} {N : Nat} {M : MM} {Q1 Q2 Q3 : Int32 → MM → Prop} (hQ : ∀ (r : Int32) (M1 : MM), Q1 r M1 → Q2 r M1 → Q3 r M1) (h1 : W_m_number p1 p2 N M Q1) (h2 : W_m_number p1 p2 N M Q2) : W_m_number p1 p2 N M Q3 := by
  unfold W_m_number at h1 h2 ⊢
  refine and_m_blanks (fun M2 h1 h2 => ?_) h1 h2
  refine and_m_number_6 (fun x5 M6 h1 h2 => ?_) hQ N _ _ h1 h2
  · refine ⟨fun hc => ?_, fun hc => ?_⟩
    · replace h1 := h1.1 hc
      replace h2 := h2.1 hc
      exact hQ _ _ h1 h2
    · replace h1 := h1.2 hc
      replace h2 := h2.2 hc
      refine ⟨fun hc => ?_, fun hc => ?_⟩
      · replace h1 := h1.1 hc
        replace h2 := h2.1 hc
        exact hQ _ _ h1 h2
      · replace h1 := h1.2 hc
        replace h2 := h2.2 hc
        refine ⟨fun hc => ?_, fun hc => ?_⟩
        · replace h1 := h1.1 hc
          replace h2 := h2.1 hc
          exact hQ _ _ h1 h2
        · replace h1 := h1.2 hc
          replace h2 := h2.2 hc
          refine ⟨fun hc => ?_, fun hc => ?_⟩
          · replace h1 := h1.1 hc
            replace h2 := h2.1 hc
            exact hQ _ _ h1 h2
          · replace h1 := h1.2 hc
            replace h2 := h2.2 hc
            exact hQ _ _ h1 h2
theorem and_m_isFigure  {N : Nat} {M : MM} {Q1 Q2 Q3 : Int32 → MM → Prop} (hQ : ∀ (r : Int32) (M1 : MM), Q1 r M1 → Q2 r M1 → Q3 r M1) (h1 : W_m_isFigure  N M Q1) (h2 : W_m_isFigure  N M Q2) : W_m_isFigure  N M Q3 := by
  unfold W_m_isFigure at h1 h2 ⊢
  refine and_m_blanks (fun M2 h1 h2 => ?_) h1 h2
  exact hQ _ _ h1 h2
theorem and_m_matterTold_4  {k28a k28b k28c : MM → Prop} {Q1 Q2 Q3 : Int32 → MM → Prop} (hk28 : ∀  (M : MM), k28a M → k28b M → k28c M) (hQ : ∀ (r : Int32) (M1 : MM), Q1 r M1 → Q2 r M1 → Q3 r M1) : ∀ (N : Nat) (M : MM), W_m_matterTold_4 k28a Q1 N M → W_m_matterTold_4 k28b Q2 N M → W_m_matterTold_4 k28c Q3 N M := by
  intro N
  induction N with
  | zero => intros; trivial
  | succ N IH =>
    intro M h1 h2
    replace h1 : B_m_matterTold_4 k28a Q1 N (W_m_matterTold_4 k28a Q1 N) M := h1
    replace h2 : B_m_matterTold_4 k28b Q2 N (W_m_matterTold_4 k28b Q2 N) M := h2
    show B_m_matterTold_4 k28c Q3 N (W_m_matterTold_4 k28c Q3 N) M
    unfold B_m_matterTold_4 at h1 h2 ⊢
    refine ⟨fun hc => ?_, fun hc => ?_⟩
    · replace h1 := h1.1 hc
      replace h2 := h2.1 hc
      exact hk28 _ h1 h2
    · replace h1 := h1.2 hc
      replace h2 := h2.2 hc
      exact IH _ h1 h2
theorem and_m_matterTold  {N : Nat} {M : MM} {Q1 Q2 Q3 : Int32 → MM → Prop} (hQ : ∀ (r : Int32) (M1 : MM), Q1 r M1 → Q2 r M1 → Q3 r M1) (h1 : W_m_matterTold  N M Q1) (h2 : W_m_matterTold  N M Q2) : W_m_matterTold  N M Q3 := by
  unfold W_m_matterTold at h1 h2 ⊢
  refine and_m_blanks (fun M2 h1 h2 => ?_) h1 h2
  refine and_m_matterTold_4 (fun M4 h1 h2 => ?_) hQ N _ h1 h2
  · refine ⟨fun hc => ?_, fun hc => ?_⟩
    · replace h1 := h1.1 hc
      replace h2 := h2.1 hc
      refine ⟨fun hc => ?_, fun hc => ?_⟩
      · replace h1 := h1.1 hc
        replace h2 := h2.1 hc
        refine ⟨fun hc => ?_, fun hc => ?_⟩
        · replace h1 := h1.1 hc
          replace h2 := h2.1 hc
          exact hQ _ _ h1 h2
        · replace h1 := h1.2 hc
          replace h2 := h2.2 hc
          exact hQ _ _ h1 h2
      · replace h1 := h1.2 hc
        replace h2 := h2.2 hc
        exact hQ _ _ h1 h2
    · replace h1 := h1.2 hc
      replace h2 := h2.2 hc
      exact hQ _ _ h1 h2
theorem and_m_fault  {N : Nat} {M : MM} {Q1 Q2 Q3 : Int32 → MM → Prop} (hQ : ∀ (r : Int32) (M1 : MM), Q1 r M1 → Q2 r M1 → Q3 r M1) (h1 : W_m_fault  N M Q1) (h2 : W_m_fault  N M Q2) : W_m_fault  N M Q3 := by
  unfold W_m_fault at h1 h2 ⊢
  exact hQ _ _ h1 h2
theorem and_m_uses  {N : Nat} {M : MM} {Q1 Q2 Q3 : MM → Prop} (hQ : ∀  (M1 : MM), Q1 M1 → Q2 M1 → Q3 M1) (h1 : W_m_uses  N M Q1) (h2 : W_m_uses  N M Q2) : W_m_uses  N M Q3 := by
  unfold W_m_uses at h1 h2 ⊢
  exact hQ _ h1 h2
theorem and_m_emits {p1 : Int32} {p2 : Int32} {N : Nat} {M : MM} {Q1 Q2 Q3 : MM → Prop} (hQ : ∀  (M1 : MM), Q1 M1 → Q2 M1 → Q3 M1) (h1 : W_m_emits p1 p2 N M Q1) (h2 : W_m_emits p1 p2 N M Q2) : W_m_emits p1 p2 N M Q3 := by
  unfold W_m_emits at h1 h2 ⊢
  exact hQ _ h1 h2
theorem and_m_readPart  {N : Nat} {M : MM} {Q1 Q2 Q3 : Int32 → MM → Prop} (hQ : ∀ (r : Int32) (M1 : MM), Q1 r M1 → Q2 r M1 → Q3 r M1) (h1 : W_m_readPart  N M Q1) (h2 : W_m_readPart  N M Q2) : W_m_readPart  N M Q3 := by
  unfold W_m_readPart at h1 h2 ⊢
  refine and_m_letters (fun M2 h1 h2 => ?_) h1 h2
  refine ⟨fun hc => ?_, fun hc => ?_⟩
  · replace h1 := h1.1 hc
    replace h2 := h2.1 hc
    refine and_m_number (fun r4 M5 h1 h2 => ?_) h1 h2
    refine and_m_emits (fun M7 h1 h2 => ?_) h1 h2
    refine ⟨fun hc => ?_, fun hc => ?_⟩
    · replace h1 := h1.1 hc
      replace h2 := h2.1 hc
      exact hQ _ _ h1 h2
    · replace h1 := h1.2 hc
      replace h2 := h2.2 hc
      exact hQ _ _ h1 h2
  · replace h1 := h1.2 hc
    replace h2 := h2.2 hc
    refine and_m_isWord (fun r9 h1 h2 => ?_) h1 h2
    refine ⟨fun hc => ?_, fun hc => ?_⟩
    · replace h1 := h1.1 hc
      replace h2 := h2.1 hc
      refine and_m_isWord (fun r12 h1 h2 => ?_) h1 h2
      refine ⟨fun hc => ?_, fun hc => ?_⟩
      · replace h1 := h1.1 hc
        replace h2 := h2.1 hc
        refine and_m_isWord (fun r15 h1 h2 => ?_) h1 h2
        refine ⟨fun hc => ?_, fun hc => ?_⟩
        · replace h1 := h1.1 hc
          replace h2 := h2.1 hc
          refine and_m_isWord (fun r18 h1 h2 => ?_) h1 h2
          refine ⟨fun hc => ?_, fun hc => ?_⟩
          · replace h1 := h1.1 hc
            replace h2 := h2.1 hc
            refine and_m_emits (fun M22 h1 h2 => ?_) h1 h2
            exact hQ _ _ h1 h2
          · replace h1 := h1.2 hc
            replace h2 := h2.2 hc
            refine and_m_emits (fun M25 h1 h2 => ?_) h1 h2
            exact hQ _ _ h1 h2
        · replace h1 := h1.2 hc
          replace h2 := h2.2 hc
          refine and_m_emits (fun M28 h1 h2 => ?_) h1 h2
          exact hQ _ _ h1 h2
      · replace h1 := h1.2 hc
        replace h2 := h2.2 hc
        refine and_m_emits (fun M31 h1 h2 => ?_) h1 h2
        exact hQ _ _ h1 h2
    · replace h1 := h1.2 hc
      replace h2 := h2.2 hc
      refine and_m_emits (fun M34 h1 h2 => ?_) h1 h2
      exact hQ _ _ h1 h2
theorem and_m_readSum_9  {Q1 Q2 Q3 : Int32 → MM → Prop} (hQ : ∀ (r : Int32) (M1 : MM), Q1 r M1 → Q2 r M1 → Q3 r M1) : ∀ (N : Nat) (M : MM), W_m_readSum_9 Q1 N M → W_m_readSum_9 Q2 N M → W_m_readSum_9 Q3 N M := by
  intro N
  induction N with
  | zero => intros; trivial
  | succ N IH =>
    intro M h1 h2
    replace h1 : B_m_readSum_9 Q1 N (W_m_readSum_9 Q1 N) M := h1
    replace h2 : B_m_readSum_9 Q2 N (W_m_readSum_9 Q2 N) M := h2
    show B_m_readSum_9 Q3 N (W_m_readSum_9 Q3 N) M
    unfold B_m_readSum_9 at h1 h2 ⊢
    refine and_m_sign (fun r4 M5 h1 h2 => ?_) h1 h2
    refine ⟨fun hc => ?_, fun hc => ?_⟩
    · replace h1 := h1.1 hc
      replace h2 := h2.1 hc
      exact hQ _ _ h1 h2
    · replace h1 := h1.2 hc
      replace h2 := h2.2 hc
      refine and_m_readPart (fun r7 M8 h1 h2 => ?_) h1 h2
      refine ⟨fun hc => ?_, fun hc => ?_⟩
      · replace h1 := h1.1 hc
        replace h2 := h2.1 hc
        exact hQ _ _ h1 h2
      · replace h1 := h1.2 hc
        replace h2 := h2.2 hc
        refine and_m_emits (fun M11 h1 h2 => ?_) h1 h2
        exact IH _ h1 h2
theorem and_m_readSum  {N : Nat} {M : MM} {Q1 Q2 Q3 : Int32 → MM → Prop} (hQ : ∀ (r : Int32) (M1 : MM), Q1 r M1 → Q2 r M1 → Q3 r M1) (h1 : W_m_readSum  N M Q1) (h2 : W_m_readSum  N M Q2) : W_m_readSum  N M Q3 := by
  unfold W_m_readSum at h1 h2 ⊢
  refine and_m_readPart (fun r1 M2 h1 h2 => ?_) h1 h2
  refine ⟨fun hc => ?_, fun hc => ?_⟩
  · replace h1 := h1.1 hc
    replace h2 := h2.1 hc
    exact hQ _ _ h1 h2
  · replace h1 := h1.2 hc
    replace h2 := h2.2 hc
    refine and_m_readSum_9  hQ N _ h1 h2
theorem and_m_readAtom_387  {N : Nat} {M : MM} {Q1 Q2 Q3 : Int32 → MM → Prop} (hQ : ∀ (r : Int32) (M1 : MM), Q1 r M1 → Q2 r M1 → Q3 r M1) (h1 : W_m_readAtom_387  N M Q1) (h2 : W_m_readAtom_387  N M Q2) : W_m_readAtom_387  N M Q3 := by
  unfold W_m_readAtom_387 at h1 h2 ⊢
  refine and_m_sign (fun r1 M2 h1 h2 => ?_) h1 h2
  refine ⟨fun hc => ?_, fun hc => ?_⟩
  · replace h1 := h1.1 hc
    replace h2 := h2.1 hc
    refine and_m_passes (fun r4 M5 h1 h2 => ?_) h1 h2
    refine ⟨fun hc => ?_, fun hc => ?_⟩
    · replace h1 := h1.1 hc
      replace h2 := h2.1 hc
      refine and_m_passes (fun r7 M8 h1 h2 => ?_) h1 h2
      refine ⟨fun hc => ?_, fun hc => ?_⟩
      · replace h1 := h1.1 hc
        replace h2 := h2.1 hc
        refine and_m_readSum (fun r10 M11 h1 h2 => ?_) h1 h2
        refine ⟨fun hc => ?_, fun hc => ?_⟩
        · replace h1 := h1.1 hc
          replace h2 := h2.1 hc
          exact hQ _ _ h1 h2
        · replace h1 := h1.2 hc
          replace h2 := h2.2 hc
          refine and_m_sign (fun r13 M14 h1 h2 => ?_) h1 h2
          refine ⟨fun hc => ?_, fun hc => ?_⟩
          · replace h1 := h1.1 hc
            replace h2 := h2.1 hc
            refine and_m_sign (fun r16 M17 h1 h2 => ?_) h1 h2
            refine ⟨fun hc => ?_, fun hc => ?_⟩
            · replace h1 := h1.1 hc
              replace h2 := h2.1 hc
              exact hQ _ _ h1 h2
            · replace h1 := h1.2 hc
              replace h2 := h2.2 hc
              refine and_m_readSum (fun r19 M20 h1 h2 => ?_) h1 h2
              refine ⟨fun hc => ?_, fun hc => ?_⟩
              · replace h1 := h1.1 hc
                replace h2 := h2.1 hc
                exact hQ _ _ h1 h2
              · replace h1 := h1.2 hc
                replace h2 := h2.2 hc
                refine ⟨fun hc => ?_, fun hc => ?_⟩
                · replace h1 := h1.1 hc
                  replace h2 := h2.1 hc
                  refine and_m_emits (fun M24 h1 h2 => ?_) h1 h2
                  exact hQ _ _ h1 h2
                · replace h1 := h1.2 hc
                  replace h2 := h2.2 hc
                  refine and_m_emits (fun M26 h1 h2 => ?_) h1 h2
                  exact hQ _ _ h1 h2
          · replace h1 := h1.2 hc
            replace h2 := h2.2 hc
            refine and_m_readSum (fun r27 M28 h1 h2 => ?_) h1 h2
            refine ⟨fun hc => ?_, fun hc => ?_⟩
            · replace h1 := h1.1 hc
              replace h2 := h2.1 hc
              exact hQ _ _ h1 h2
            · replace h1 := h1.2 hc
              replace h2 := h2.2 hc
              refine ⟨fun hc => ?_, fun hc => ?_⟩
              · replace h1 := h1.1 hc
                replace h2 := h2.1 hc
                refine and_m_emits (fun M32 h1 h2 => ?_) h1 h2
                exact hQ _ _ h1 h2
              · replace h1 := h1.2 hc
                replace h2 := h2.2 hc
                refine and_m_emits (fun M34 h1 h2 => ?_) h1 h2
                exact hQ _ _ h1 h2
      · replace h1 := h1.2 hc
        replace h2 := h2.2 hc
        refine and_m_emits (fun M36 h1 h2 => ?_) h1 h2
        exact hQ _ _ h1 h2
    · replace h1 := h1.2 hc
      replace h2 := h2.2 hc
      refine ⟨fun hc => ?_, fun hc => ?_⟩
      · replace h1 := h1.1 hc
        replace h2 := h2.1 hc
        exact hQ _ _ h1 h2
      · replace h1 := h1.2 hc
        replace h2 := h2.2 hc
        trivial
  · replace h1 := h1.2 hc
    replace h2 := h2.2 hc
    refine ⟨fun hc => ?_, fun hc => ?_⟩
    · replace h1 := h1.1 hc
      replace h2 := h2.1 hc
      exact hQ _ _ h1 h2
    · replace h1 := h1.2 hc
      replace h2 := h2.2 hc
      trivial
theorem and_m_readAllOf_386_9  {Q1 Q2 Q3 : Int32 → MM → Prop} (hQ : ∀ (r : Int32) (M1 : MM), Q1 r M1 → Q2 r M1 → Q3 r M1) : ∀ (N : Nat) (M : MM), W_m_readAllOf_386_9 Q1 N M → W_m_readAllOf_386_9 Q2 N M → W_m_readAllOf_386_9 Q3 N M := by
  intro N
  induction N with
  | zero => intros; trivial
  | succ N IH =>
    intro M h1 h2
    replace h1 : B_m_readAllOf_386_9 Q1 N (W_m_readAllOf_386_9 Q1 N) M := h1
    replace h2 : B_m_readAllOf_386_9 Q2 N (W_m_readAllOf_386_9 Q2 N) M := h2
    show B_m_readAllOf_386_9 Q3 N (W_m_readAllOf_386_9 Q3 N) M
    unfold B_m_readAllOf_386_9 at h1 h2 ⊢
    refine and_m_passes (fun r4 M5 h1 h2 => ?_) h1 h2
    refine ⟨fun hc => ?_, fun hc => ?_⟩
    · replace h1 := h1.1 hc
      replace h2 := h2.1 hc
      exact hQ _ _ h1 h2
    · replace h1 := h1.2 hc
      replace h2 := h2.2 hc
      refine and_m_readAtom_387 (fun r7 M8 h1 h2 => ?_) h1 h2
      refine ⟨fun hc => ?_, fun hc => ?_⟩
      · replace h1 := h1.1 hc
        replace h2 := h2.1 hc
        exact hQ _ _ h1 h2
      · replace h1 := h1.2 hc
        replace h2 := h2.2 hc
        refine and_m_emits (fun M11 h1 h2 => ?_) h1 h2
        exact IH _ h1 h2
theorem and_m_readAllOf_386  {N : Nat} {M : MM} {Q1 Q2 Q3 : Int32 → MM → Prop} (hQ : ∀ (r : Int32) (M1 : MM), Q1 r M1 → Q2 r M1 → Q3 r M1) (h1 : W_m_readAllOf_386  N M Q1) (h2 : W_m_readAllOf_386  N M Q2) : W_m_readAllOf_386  N M Q3 := by
  unfold W_m_readAllOf_386 at h1 h2 ⊢
  refine and_m_readAtom_387 (fun r1 M2 h1 h2 => ?_) h1 h2
  refine ⟨fun hc => ?_, fun hc => ?_⟩
  · replace h1 := h1.1 hc
    replace h2 := h2.1 hc
    exact hQ _ _ h1 h2
  · replace h1 := h1.2 hc
    replace h2 := h2.2 hc
    refine and_m_readAllOf_386_9  hQ N _ h1 h2
theorem and_m_readCond_385_9  {Q1 Q2 Q3 : Int32 → MM → Prop} (hQ : ∀ (r : Int32) (M1 : MM), Q1 r M1 → Q2 r M1 → Q3 r M1) : ∀ (N : Nat) (M : MM), W_m_readCond_385_9 Q1 N M → W_m_readCond_385_9 Q2 N M → W_m_readCond_385_9 Q3 N M := by
  intro N
  induction N with
  | zero => intros; trivial
  | succ N IH =>
    intro M h1 h2
    replace h1 : B_m_readCond_385_9 Q1 N (W_m_readCond_385_9 Q1 N) M := h1
    replace h2 : B_m_readCond_385_9 Q2 N (W_m_readCond_385_9 Q2 N) M := h2
    show B_m_readCond_385_9 Q3 N (W_m_readCond_385_9 Q3 N) M
    unfold B_m_readCond_385_9 at h1 h2 ⊢
    refine and_m_passes (fun r4 M5 h1 h2 => ?_) h1 h2
    refine ⟨fun hc => ?_, fun hc => ?_⟩
    · replace h1 := h1.1 hc
      replace h2 := h2.1 hc
      exact hQ _ _ h1 h2
    · replace h1 := h1.2 hc
      replace h2 := h2.2 hc
      refine and_m_readAllOf_386 (fun r7 M8 h1 h2 => ?_) h1 h2
      refine ⟨fun hc => ?_, fun hc => ?_⟩
      · replace h1 := h1.1 hc
        replace h2 := h2.1 hc
        exact hQ _ _ h1 h2
      · replace h1 := h1.2 hc
        replace h2 := h2.2 hc
        refine and_m_emits (fun M11 h1 h2 => ?_) h1 h2
        exact IH _ h1 h2
theorem and_m_readCond_385  {N : Nat} {M : MM} {Q1 Q2 Q3 : Int32 → MM → Prop} (hQ : ∀ (r : Int32) (M1 : MM), Q1 r M1 → Q2 r M1 → Q3 r M1) (h1 : W_m_readCond_385  N M Q1) (h2 : W_m_readCond_385  N M Q2) : W_m_readCond_385  N M Q3 := by
  unfold W_m_readCond_385 at h1 h2 ⊢
  refine and_m_readAllOf_386 (fun r1 M2 h1 h2 => ?_) h1 h2
  refine ⟨fun hc => ?_, fun hc => ?_⟩
  · replace h1 := h1.1 hc
    replace h2 := h2.1 hc
    exact hQ _ _ h1 h2
  · replace h1 := h1.2 hc
    replace h2 := h2.2 hc
    refine and_m_readCond_385_9  hQ N _ h1 h2
theorem and_m_readAtom_384  {N : Nat} {M : MM} {Q1 Q2 Q3 : Int32 → MM → Prop} (hQ : ∀ (r : Int32) (M1 : MM), Q1 r M1 → Q2 r M1 → Q3 r M1) (h1 : W_m_readAtom_384  N M Q1) (h2 : W_m_readAtom_384  N M Q2) : W_m_readAtom_384  N M Q3 := by
  unfold W_m_readAtom_384 at h1 h2 ⊢
  refine and_m_sign (fun r1 M2 h1 h2 => ?_) h1 h2
  refine ⟨fun hc => ?_, fun hc => ?_⟩
  · replace h1 := h1.1 hc
    replace h2 := h2.1 hc
    refine and_m_passes (fun r4 M5 h1 h2 => ?_) h1 h2
    refine ⟨fun hc => ?_, fun hc => ?_⟩
    · replace h1 := h1.1 hc
      replace h2 := h2.1 hc
      refine and_m_passes (fun r7 M8 h1 h2 => ?_) h1 h2
      refine ⟨fun hc => ?_, fun hc => ?_⟩
      · replace h1 := h1.1 hc
        replace h2 := h2.1 hc
        refine and_m_readSum (fun r10 M11 h1 h2 => ?_) h1 h2
        refine ⟨fun hc => ?_, fun hc => ?_⟩
        · replace h1 := h1.1 hc
          replace h2 := h2.1 hc
          exact hQ _ _ h1 h2
        · replace h1 := h1.2 hc
          replace h2 := h2.2 hc
          refine and_m_sign (fun r13 M14 h1 h2 => ?_) h1 h2
          refine ⟨fun hc => ?_, fun hc => ?_⟩
          · replace h1 := h1.1 hc
            replace h2 := h2.1 hc
            refine and_m_sign (fun r16 M17 h1 h2 => ?_) h1 h2
            refine ⟨fun hc => ?_, fun hc => ?_⟩
            · replace h1 := h1.1 hc
              replace h2 := h2.1 hc
              exact hQ _ _ h1 h2
            · replace h1 := h1.2 hc
              replace h2 := h2.2 hc
              refine and_m_readSum (fun r19 M20 h1 h2 => ?_) h1 h2
              refine ⟨fun hc => ?_, fun hc => ?_⟩
              · replace h1 := h1.1 hc
                replace h2 := h2.1 hc
                exact hQ _ _ h1 h2
              · replace h1 := h1.2 hc
                replace h2 := h2.2 hc
                refine ⟨fun hc => ?_, fun hc => ?_⟩
                · replace h1 := h1.1 hc
                  replace h2 := h2.1 hc
                  refine and_m_emits (fun M24 h1 h2 => ?_) h1 h2
                  exact hQ _ _ h1 h2
                · replace h1 := h1.2 hc
                  replace h2 := h2.2 hc
                  refine and_m_emits (fun M26 h1 h2 => ?_) h1 h2
                  exact hQ _ _ h1 h2
          · replace h1 := h1.2 hc
            replace h2 := h2.2 hc
            refine and_m_readSum (fun r27 M28 h1 h2 => ?_) h1 h2
            refine ⟨fun hc => ?_, fun hc => ?_⟩
            · replace h1 := h1.1 hc
              replace h2 := h2.1 hc
              exact hQ _ _ h1 h2
            · replace h1 := h1.2 hc
              replace h2 := h2.2 hc
              refine ⟨fun hc => ?_, fun hc => ?_⟩
              · replace h1 := h1.1 hc
                replace h2 := h2.1 hc
                refine and_m_emits (fun M32 h1 h2 => ?_) h1 h2
                exact hQ _ _ h1 h2
              · replace h1 := h1.2 hc
                replace h2 := h2.2 hc
                refine and_m_emits (fun M34 h1 h2 => ?_) h1 h2
                exact hQ _ _ h1 h2
      · replace h1 := h1.2 hc
        replace h2 := h2.2 hc
        refine and_m_emits (fun M36 h1 h2 => ?_) h1 h2
        exact hQ _ _ h1 h2
    · replace h1 := h1.2 hc
      replace h2 := h2.2 hc
      refine ⟨fun hc => ?_, fun hc => ?_⟩
      · replace h1 := h1.1 hc
        replace h2 := h2.1 hc
        exact hQ _ _ h1 h2
      · replace h1 := h1.2 hc
        replace h2 := h2.2 hc
        refine and_m_readAtom_387 (fun r38 M39 h1 h2 => ?_) h1 h2
        refine ⟨fun hc => ?_, fun hc => ?_⟩
        · replace h1 := h1.1 hc
          replace h2 := h2.1 hc
          exact hQ _ _ h1 h2
        · replace h1 := h1.2 hc
          replace h2 := h2.2 hc
          refine and_m_emits (fun M42 h1 h2 => ?_) h1 h2
          exact hQ _ _ h1 h2
  · replace h1 := h1.2 hc
    replace h2 := h2.2 hc
    refine ⟨fun hc => ?_, fun hc => ?_⟩
    · replace h1 := h1.1 hc
      replace h2 := h2.1 hc
      exact hQ _ _ h1 h2
    · replace h1 := h1.2 hc
      replace h2 := h2.2 hc
      refine and_m_readCond_385 (fun r44 M45 h1 h2 => ?_) h1 h2
      refine ⟨fun hc => ?_, fun hc => ?_⟩
      · replace h1 := h1.1 hc
        replace h2 := h2.1 hc
        exact hQ _ _ h1 h2
      · replace h1 := h1.2 hc
        replace h2 := h2.2 hc
        refine and_m_sign (fun r47 M48 h1 h2 => ?_) h1 h2
        exact hQ _ _ h1 h2
theorem and_m_readAllOf_383_9  {Q1 Q2 Q3 : Int32 → MM → Prop} (hQ : ∀ (r : Int32) (M1 : MM), Q1 r M1 → Q2 r M1 → Q3 r M1) : ∀ (N : Nat) (M : MM), W_m_readAllOf_383_9 Q1 N M → W_m_readAllOf_383_9 Q2 N M → W_m_readAllOf_383_9 Q3 N M := by
  intro N
  induction N with
  | zero => intros; trivial
  | succ N IH =>
    intro M h1 h2
    replace h1 : B_m_readAllOf_383_9 Q1 N (W_m_readAllOf_383_9 Q1 N) M := h1
    replace h2 : B_m_readAllOf_383_9 Q2 N (W_m_readAllOf_383_9 Q2 N) M := h2
    show B_m_readAllOf_383_9 Q3 N (W_m_readAllOf_383_9 Q3 N) M
    unfold B_m_readAllOf_383_9 at h1 h2 ⊢
    refine and_m_passes (fun r4 M5 h1 h2 => ?_) h1 h2
    refine ⟨fun hc => ?_, fun hc => ?_⟩
    · replace h1 := h1.1 hc
      replace h2 := h2.1 hc
      exact hQ _ _ h1 h2
    · replace h1 := h1.2 hc
      replace h2 := h2.2 hc
      refine and_m_readAtom_384 (fun r7 M8 h1 h2 => ?_) h1 h2
      refine ⟨fun hc => ?_, fun hc => ?_⟩
      · replace h1 := h1.1 hc
        replace h2 := h2.1 hc
        exact hQ _ _ h1 h2
      · replace h1 := h1.2 hc
        replace h2 := h2.2 hc
        refine and_m_emits (fun M11 h1 h2 => ?_) h1 h2
        exact IH _ h1 h2
theorem and_m_readAllOf_383  {N : Nat} {M : MM} {Q1 Q2 Q3 : Int32 → MM → Prop} (hQ : ∀ (r : Int32) (M1 : MM), Q1 r M1 → Q2 r M1 → Q3 r M1) (h1 : W_m_readAllOf_383  N M Q1) (h2 : W_m_readAllOf_383  N M Q2) : W_m_readAllOf_383  N M Q3 := by
  unfold W_m_readAllOf_383 at h1 h2 ⊢
  refine and_m_readAtom_384 (fun r1 M2 h1 h2 => ?_) h1 h2
  refine ⟨fun hc => ?_, fun hc => ?_⟩
  · replace h1 := h1.1 hc
    replace h2 := h2.1 hc
    exact hQ _ _ h1 h2
  · replace h1 := h1.2 hc
    replace h2 := h2.2 hc
    refine and_m_readAllOf_383_9  hQ N _ h1 h2
theorem and_m_readCond_382_9  {Q1 Q2 Q3 : Int32 → MM → Prop} (hQ : ∀ (r : Int32) (M1 : MM), Q1 r M1 → Q2 r M1 → Q3 r M1) : ∀ (N : Nat) (M : MM), W_m_readCond_382_9 Q1 N M → W_m_readCond_382_9 Q2 N M → W_m_readCond_382_9 Q3 N M := by
  intro N
  induction N with
  | zero => intros; trivial
  | succ N IH =>
    intro M h1 h2
    replace h1 : B_m_readCond_382_9 Q1 N (W_m_readCond_382_9 Q1 N) M := h1
    replace h2 : B_m_readCond_382_9 Q2 N (W_m_readCond_382_9 Q2 N) M := h2
    show B_m_readCond_382_9 Q3 N (W_m_readCond_382_9 Q3 N) M
    unfold B_m_readCond_382_9 at h1 h2 ⊢
    refine and_m_passes (fun r4 M5 h1 h2 => ?_) h1 h2
    refine ⟨fun hc => ?_, fun hc => ?_⟩
    · replace h1 := h1.1 hc
      replace h2 := h2.1 hc
      exact hQ _ _ h1 h2
    · replace h1 := h1.2 hc
      replace h2 := h2.2 hc
      refine and_m_readAllOf_383 (fun r7 M8 h1 h2 => ?_) h1 h2
      refine ⟨fun hc => ?_, fun hc => ?_⟩
      · replace h1 := h1.1 hc
        replace h2 := h2.1 hc
        exact hQ _ _ h1 h2
      · replace h1 := h1.2 hc
        replace h2 := h2.2 hc
        refine and_m_emits (fun M11 h1 h2 => ?_) h1 h2
        exact IH _ h1 h2
theorem and_m_readCond_382  {N : Nat} {M : MM} {Q1 Q2 Q3 : Int32 → MM → Prop} (hQ : ∀ (r : Int32) (M1 : MM), Q1 r M1 → Q2 r M1 → Q3 r M1) (h1 : W_m_readCond_382  N M Q1) (h2 : W_m_readCond_382  N M Q2) : W_m_readCond_382  N M Q3 := by
  unfold W_m_readCond_382 at h1 h2 ⊢
  refine and_m_readAllOf_383 (fun r1 M2 h1 h2 => ?_) h1 h2
  refine ⟨fun hc => ?_, fun hc => ?_⟩
  · replace h1 := h1.1 hc
    replace h2 := h2.1 hc
    exact hQ _ _ h1 h2
  · replace h1 := h1.2 hc
    replace h2 := h2.2 hc
    refine and_m_readCond_382_9  hQ N _ h1 h2
theorem and_m_readAtom_381  {N : Nat} {M : MM} {Q1 Q2 Q3 : Int32 → MM → Prop} (hQ : ∀ (r : Int32) (M1 : MM), Q1 r M1 → Q2 r M1 → Q3 r M1) (h1 : W_m_readAtom_381  N M Q1) (h2 : W_m_readAtom_381  N M Q2) : W_m_readAtom_381  N M Q3 := by
  unfold W_m_readAtom_381 at h1 h2 ⊢
  refine and_m_sign (fun r1 M2 h1 h2 => ?_) h1 h2
  refine ⟨fun hc => ?_, fun hc => ?_⟩
  · replace h1 := h1.1 hc
    replace h2 := h2.1 hc
    refine and_m_passes (fun r4 M5 h1 h2 => ?_) h1 h2
    refine ⟨fun hc => ?_, fun hc => ?_⟩
    · replace h1 := h1.1 hc
      replace h2 := h2.1 hc
      refine and_m_passes (fun r7 M8 h1 h2 => ?_) h1 h2
      refine ⟨fun hc => ?_, fun hc => ?_⟩
      · replace h1 := h1.1 hc
        replace h2 := h2.1 hc
        refine and_m_readSum (fun r10 M11 h1 h2 => ?_) h1 h2
        refine ⟨fun hc => ?_, fun hc => ?_⟩
        · replace h1 := h1.1 hc
          replace h2 := h2.1 hc
          exact hQ _ _ h1 h2
        · replace h1 := h1.2 hc
          replace h2 := h2.2 hc
          refine and_m_sign (fun r13 M14 h1 h2 => ?_) h1 h2
          refine ⟨fun hc => ?_, fun hc => ?_⟩
          · replace h1 := h1.1 hc
            replace h2 := h2.1 hc
            refine and_m_sign (fun r16 M17 h1 h2 => ?_) h1 h2
            refine ⟨fun hc => ?_, fun hc => ?_⟩
            · replace h1 := h1.1 hc
              replace h2 := h2.1 hc
              exact hQ _ _ h1 h2
            · replace h1 := h1.2 hc
              replace h2 := h2.2 hc
              refine and_m_readSum (fun r19 M20 h1 h2 => ?_) h1 h2
              refine ⟨fun hc => ?_, fun hc => ?_⟩
              · replace h1 := h1.1 hc
                replace h2 := h2.1 hc
                exact hQ _ _ h1 h2
              · replace h1 := h1.2 hc
                replace h2 := h2.2 hc
                refine ⟨fun hc => ?_, fun hc => ?_⟩
                · replace h1 := h1.1 hc
                  replace h2 := h2.1 hc
                  refine and_m_emits (fun M24 h1 h2 => ?_) h1 h2
                  exact hQ _ _ h1 h2
                · replace h1 := h1.2 hc
                  replace h2 := h2.2 hc
                  refine and_m_emits (fun M26 h1 h2 => ?_) h1 h2
                  exact hQ _ _ h1 h2
          · replace h1 := h1.2 hc
            replace h2 := h2.2 hc
            refine and_m_readSum (fun r27 M28 h1 h2 => ?_) h1 h2
            refine ⟨fun hc => ?_, fun hc => ?_⟩
            · replace h1 := h1.1 hc
              replace h2 := h2.1 hc
              exact hQ _ _ h1 h2
            · replace h1 := h1.2 hc
              replace h2 := h2.2 hc
              refine ⟨fun hc => ?_, fun hc => ?_⟩
              · replace h1 := h1.1 hc
                replace h2 := h2.1 hc
                refine and_m_emits (fun M32 h1 h2 => ?_) h1 h2
                exact hQ _ _ h1 h2
              · replace h1 := h1.2 hc
                replace h2 := h2.2 hc
                refine and_m_emits (fun M34 h1 h2 => ?_) h1 h2
                exact hQ _ _ h1 h2
      · replace h1 := h1.2 hc
        replace h2 := h2.2 hc
        refine and_m_emits (fun M36 h1 h2 => ?_) h1 h2
        exact hQ _ _ h1 h2
    · replace h1 := h1.2 hc
      replace h2 := h2.2 hc
      refine ⟨fun hc => ?_, fun hc => ?_⟩
      · replace h1 := h1.1 hc
        replace h2 := h2.1 hc
        exact hQ _ _ h1 h2
      · replace h1 := h1.2 hc
        replace h2 := h2.2 hc
        refine and_m_readAtom_384 (fun r38 M39 h1 h2 => ?_) h1 h2
        refine ⟨fun hc => ?_, fun hc => ?_⟩
        · replace h1 := h1.1 hc
          replace h2 := h2.1 hc
          exact hQ _ _ h1 h2
        · replace h1 := h1.2 hc
          replace h2 := h2.2 hc
          refine and_m_emits (fun M42 h1 h2 => ?_) h1 h2
          exact hQ _ _ h1 h2
  · replace h1 := h1.2 hc
    replace h2 := h2.2 hc
    refine ⟨fun hc => ?_, fun hc => ?_⟩
    · replace h1 := h1.1 hc
      replace h2 := h2.1 hc
      exact hQ _ _ h1 h2
    · replace h1 := h1.2 hc
      replace h2 := h2.2 hc
      refine and_m_readCond_382 (fun r44 M45 h1 h2 => ?_) h1 h2
      refine ⟨fun hc => ?_, fun hc => ?_⟩
      · replace h1 := h1.1 hc
        replace h2 := h2.1 hc
        exact hQ _ _ h1 h2
      · replace h1 := h1.2 hc
        replace h2 := h2.2 hc
        refine and_m_sign (fun r47 M48 h1 h2 => ?_) h1 h2
        exact hQ _ _ h1 h2
theorem and_m_readAllOf_380_9  {Q1 Q2 Q3 : Int32 → MM → Prop} (hQ : ∀ (r : Int32) (M1 : MM), Q1 r M1 → Q2 r M1 → Q3 r M1) : ∀ (N : Nat) (M : MM), W_m_readAllOf_380_9 Q1 N M → W_m_readAllOf_380_9 Q2 N M → W_m_readAllOf_380_9 Q3 N M := by
  intro N
  induction N with
  | zero => intros; trivial
  | succ N IH =>
    intro M h1 h2
    replace h1 : B_m_readAllOf_380_9 Q1 N (W_m_readAllOf_380_9 Q1 N) M := h1
    replace h2 : B_m_readAllOf_380_9 Q2 N (W_m_readAllOf_380_9 Q2 N) M := h2
    show B_m_readAllOf_380_9 Q3 N (W_m_readAllOf_380_9 Q3 N) M
    unfold B_m_readAllOf_380_9 at h1 h2 ⊢
    refine and_m_passes (fun r4 M5 h1 h2 => ?_) h1 h2
    refine ⟨fun hc => ?_, fun hc => ?_⟩
    · replace h1 := h1.1 hc
      replace h2 := h2.1 hc
      exact hQ _ _ h1 h2
    · replace h1 := h1.2 hc
      replace h2 := h2.2 hc
      refine and_m_readAtom_381 (fun r7 M8 h1 h2 => ?_) h1 h2
      refine ⟨fun hc => ?_, fun hc => ?_⟩
      · replace h1 := h1.1 hc
        replace h2 := h2.1 hc
        exact hQ _ _ h1 h2
      · replace h1 := h1.2 hc
        replace h2 := h2.2 hc
        refine and_m_emits (fun M11 h1 h2 => ?_) h1 h2
        exact IH _ h1 h2
theorem and_m_readAllOf_380  {N : Nat} {M : MM} {Q1 Q2 Q3 : Int32 → MM → Prop} (hQ : ∀ (r : Int32) (M1 : MM), Q1 r M1 → Q2 r M1 → Q3 r M1) (h1 : W_m_readAllOf_380  N M Q1) (h2 : W_m_readAllOf_380  N M Q2) : W_m_readAllOf_380  N M Q3 := by
  unfold W_m_readAllOf_380 at h1 h2 ⊢
  refine and_m_readAtom_381 (fun r1 M2 h1 h2 => ?_) h1 h2
  refine ⟨fun hc => ?_, fun hc => ?_⟩
  · replace h1 := h1.1 hc
    replace h2 := h2.1 hc
    exact hQ _ _ h1 h2
  · replace h1 := h1.2 hc
    replace h2 := h2.2 hc
    refine and_m_readAllOf_380_9  hQ N _ h1 h2
theorem and_m_readCond_379_9  {Q1 Q2 Q3 : Int32 → MM → Prop} (hQ : ∀ (r : Int32) (M1 : MM), Q1 r M1 → Q2 r M1 → Q3 r M1) : ∀ (N : Nat) (M : MM), W_m_readCond_379_9 Q1 N M → W_m_readCond_379_9 Q2 N M → W_m_readCond_379_9 Q3 N M := by
  intro N
  induction N with
  | zero => intros; trivial
  | succ N IH =>
    intro M h1 h2
    replace h1 : B_m_readCond_379_9 Q1 N (W_m_readCond_379_9 Q1 N) M := h1
    replace h2 : B_m_readCond_379_9 Q2 N (W_m_readCond_379_9 Q2 N) M := h2
    show B_m_readCond_379_9 Q3 N (W_m_readCond_379_9 Q3 N) M
    unfold B_m_readCond_379_9 at h1 h2 ⊢
    refine and_m_passes (fun r4 M5 h1 h2 => ?_) h1 h2
    refine ⟨fun hc => ?_, fun hc => ?_⟩
    · replace h1 := h1.1 hc
      replace h2 := h2.1 hc
      exact hQ _ _ h1 h2
    · replace h1 := h1.2 hc
      replace h2 := h2.2 hc
      refine and_m_readAllOf_380 (fun r7 M8 h1 h2 => ?_) h1 h2
      refine ⟨fun hc => ?_, fun hc => ?_⟩
      · replace h1 := h1.1 hc
        replace h2 := h2.1 hc
        exact hQ _ _ h1 h2
      · replace h1 := h1.2 hc
        replace h2 := h2.2 hc
        refine and_m_emits (fun M11 h1 h2 => ?_) h1 h2
        exact IH _ h1 h2
theorem and_m_readCond_379  {N : Nat} {M : MM} {Q1 Q2 Q3 : Int32 → MM → Prop} (hQ : ∀ (r : Int32) (M1 : MM), Q1 r M1 → Q2 r M1 → Q3 r M1) (h1 : W_m_readCond_379  N M Q1) (h2 : W_m_readCond_379  N M Q2) : W_m_readCond_379  N M Q3 := by
  unfold W_m_readCond_379 at h1 h2 ⊢
  refine and_m_readAllOf_380 (fun r1 M2 h1 h2 => ?_) h1 h2
  refine ⟨fun hc => ?_, fun hc => ?_⟩
  · replace h1 := h1.1 hc
    replace h2 := h2.1 hc
    exact hQ _ _ h1 h2
  · replace h1 := h1.2 hc
    replace h2 := h2.2 hc
    refine and_m_readCond_379_9  hQ N _ h1 h2
theorem and_m_readAtom_378  {N : Nat} {M : MM} {Q1 Q2 Q3 : Int32 → MM → Prop} (hQ : ∀ (r : Int32) (M1 : MM), Q1 r M1 → Q2 r M1 → Q3 r M1) (h1 : W_m_readAtom_378  N M Q1) (h2 : W_m_readAtom_378  N M Q2) : W_m_readAtom_378  N M Q3 := by
  unfold W_m_readAtom_378 at h1 h2 ⊢
  refine and_m_sign (fun r1 M2 h1 h2 => ?_) h1 h2
  refine ⟨fun hc => ?_, fun hc => ?_⟩
  · replace h1 := h1.1 hc
    replace h2 := h2.1 hc
    refine and_m_passes (fun r4 M5 h1 h2 => ?_) h1 h2
    refine ⟨fun hc => ?_, fun hc => ?_⟩
    · replace h1 := h1.1 hc
      replace h2 := h2.1 hc
      refine and_m_passes (fun r7 M8 h1 h2 => ?_) h1 h2
      refine ⟨fun hc => ?_, fun hc => ?_⟩
      · replace h1 := h1.1 hc
        replace h2 := h2.1 hc
        refine and_m_readSum (fun r10 M11 h1 h2 => ?_) h1 h2
        refine ⟨fun hc => ?_, fun hc => ?_⟩
        · replace h1 := h1.1 hc
          replace h2 := h2.1 hc
          exact hQ _ _ h1 h2
        · replace h1 := h1.2 hc
          replace h2 := h2.2 hc
          refine and_m_sign (fun r13 M14 h1 h2 => ?_) h1 h2
          refine ⟨fun hc => ?_, fun hc => ?_⟩
          · replace h1 := h1.1 hc
            replace h2 := h2.1 hc
            refine and_m_sign (fun r16 M17 h1 h2 => ?_) h1 h2
            refine ⟨fun hc => ?_, fun hc => ?_⟩
            · replace h1 := h1.1 hc
              replace h2 := h2.1 hc
              exact hQ _ _ h1 h2
            · replace h1 := h1.2 hc
              replace h2 := h2.2 hc
              refine and_m_readSum (fun r19 M20 h1 h2 => ?_) h1 h2
              refine ⟨fun hc => ?_, fun hc => ?_⟩
              · replace h1 := h1.1 hc
                replace h2 := h2.1 hc
                exact hQ _ _ h1 h2
              · replace h1 := h1.2 hc
                replace h2 := h2.2 hc
                refine ⟨fun hc => ?_, fun hc => ?_⟩
                · replace h1 := h1.1 hc
                  replace h2 := h2.1 hc
                  refine and_m_emits (fun M24 h1 h2 => ?_) h1 h2
                  exact hQ _ _ h1 h2
                · replace h1 := h1.2 hc
                  replace h2 := h2.2 hc
                  refine and_m_emits (fun M26 h1 h2 => ?_) h1 h2
                  exact hQ _ _ h1 h2
          · replace h1 := h1.2 hc
            replace h2 := h2.2 hc
            refine and_m_readSum (fun r27 M28 h1 h2 => ?_) h1 h2
            refine ⟨fun hc => ?_, fun hc => ?_⟩
            · replace h1 := h1.1 hc
              replace h2 := h2.1 hc
              exact hQ _ _ h1 h2
            · replace h1 := h1.2 hc
              replace h2 := h2.2 hc
              refine ⟨fun hc => ?_, fun hc => ?_⟩
              · replace h1 := h1.1 hc
                replace h2 := h2.1 hc
                refine and_m_emits (fun M32 h1 h2 => ?_) h1 h2
                exact hQ _ _ h1 h2
              · replace h1 := h1.2 hc
                replace h2 := h2.2 hc
                refine and_m_emits (fun M34 h1 h2 => ?_) h1 h2
                exact hQ _ _ h1 h2
      · replace h1 := h1.2 hc
        replace h2 := h2.2 hc
        refine and_m_emits (fun M36 h1 h2 => ?_) h1 h2
        exact hQ _ _ h1 h2
    · replace h1 := h1.2 hc
      replace h2 := h2.2 hc
      refine ⟨fun hc => ?_, fun hc => ?_⟩
      · replace h1 := h1.1 hc
        replace h2 := h2.1 hc
        exact hQ _ _ h1 h2
      · replace h1 := h1.2 hc
        replace h2 := h2.2 hc
        refine and_m_readAtom_381 (fun r38 M39 h1 h2 => ?_) h1 h2
        refine ⟨fun hc => ?_, fun hc => ?_⟩
        · replace h1 := h1.1 hc
          replace h2 := h2.1 hc
          exact hQ _ _ h1 h2
        · replace h1 := h1.2 hc
          replace h2 := h2.2 hc
          refine and_m_emits (fun M42 h1 h2 => ?_) h1 h2
          exact hQ _ _ h1 h2
  · replace h1 := h1.2 hc
    replace h2 := h2.2 hc
    refine ⟨fun hc => ?_, fun hc => ?_⟩
    · replace h1 := h1.1 hc
      replace h2 := h2.1 hc
      exact hQ _ _ h1 h2
    · replace h1 := h1.2 hc
      replace h2 := h2.2 hc
      refine and_m_readCond_379 (fun r44 M45 h1 h2 => ?_) h1 h2
      refine ⟨fun hc => ?_, fun hc => ?_⟩
      · replace h1 := h1.1 hc
        replace h2 := h2.1 hc
        exact hQ _ _ h1 h2
      · replace h1 := h1.2 hc
        replace h2 := h2.2 hc
        refine and_m_sign (fun r47 M48 h1 h2 => ?_) h1 h2
        exact hQ _ _ h1 h2
theorem and_m_readAllOf_377_9  {Q1 Q2 Q3 : Int32 → MM → Prop} (hQ : ∀ (r : Int32) (M1 : MM), Q1 r M1 → Q2 r M1 → Q3 r M1) : ∀ (N : Nat) (M : MM), W_m_readAllOf_377_9 Q1 N M → W_m_readAllOf_377_9 Q2 N M → W_m_readAllOf_377_9 Q3 N M := by
  intro N
  induction N with
  | zero => intros; trivial
  | succ N IH =>
    intro M h1 h2
    replace h1 : B_m_readAllOf_377_9 Q1 N (W_m_readAllOf_377_9 Q1 N) M := h1
    replace h2 : B_m_readAllOf_377_9 Q2 N (W_m_readAllOf_377_9 Q2 N) M := h2
    show B_m_readAllOf_377_9 Q3 N (W_m_readAllOf_377_9 Q3 N) M
    unfold B_m_readAllOf_377_9 at h1 h2 ⊢
    refine and_m_passes (fun r4 M5 h1 h2 => ?_) h1 h2
    refine ⟨fun hc => ?_, fun hc => ?_⟩
    · replace h1 := h1.1 hc
      replace h2 := h2.1 hc
      exact hQ _ _ h1 h2
    · replace h1 := h1.2 hc
      replace h2 := h2.2 hc
      refine and_m_readAtom_378 (fun r7 M8 h1 h2 => ?_) h1 h2
      refine ⟨fun hc => ?_, fun hc => ?_⟩
      · replace h1 := h1.1 hc
        replace h2 := h2.1 hc
        exact hQ _ _ h1 h2
      · replace h1 := h1.2 hc
        replace h2 := h2.2 hc
        refine and_m_emits (fun M11 h1 h2 => ?_) h1 h2
        exact IH _ h1 h2
theorem and_m_readAllOf_377  {N : Nat} {M : MM} {Q1 Q2 Q3 : Int32 → MM → Prop} (hQ : ∀ (r : Int32) (M1 : MM), Q1 r M1 → Q2 r M1 → Q3 r M1) (h1 : W_m_readAllOf_377  N M Q1) (h2 : W_m_readAllOf_377  N M Q2) : W_m_readAllOf_377  N M Q3 := by
  unfold W_m_readAllOf_377 at h1 h2 ⊢
  refine and_m_readAtom_378 (fun r1 M2 h1 h2 => ?_) h1 h2
  refine ⟨fun hc => ?_, fun hc => ?_⟩
  · replace h1 := h1.1 hc
    replace h2 := h2.1 hc
    exact hQ _ _ h1 h2
  · replace h1 := h1.2 hc
    replace h2 := h2.2 hc
    refine and_m_readAllOf_377_9  hQ N _ h1 h2
theorem and_m_readCond_376_9  {Q1 Q2 Q3 : Int32 → MM → Prop} (hQ : ∀ (r : Int32) (M1 : MM), Q1 r M1 → Q2 r M1 → Q3 r M1) : ∀ (N : Nat) (M : MM), W_m_readCond_376_9 Q1 N M → W_m_readCond_376_9 Q2 N M → W_m_readCond_376_9 Q3 N M := by
  intro N
  induction N with
  | zero => intros; trivial
  | succ N IH =>
    intro M h1 h2
    replace h1 : B_m_readCond_376_9 Q1 N (W_m_readCond_376_9 Q1 N) M := h1
    replace h2 : B_m_readCond_376_9 Q2 N (W_m_readCond_376_9 Q2 N) M := h2
    show B_m_readCond_376_9 Q3 N (W_m_readCond_376_9 Q3 N) M
    unfold B_m_readCond_376_9 at h1 h2 ⊢
    refine and_m_passes (fun r4 M5 h1 h2 => ?_) h1 h2
    refine ⟨fun hc => ?_, fun hc => ?_⟩
    · replace h1 := h1.1 hc
      replace h2 := h2.1 hc
      exact hQ _ _ h1 h2
    · replace h1 := h1.2 hc
      replace h2 := h2.2 hc
      refine and_m_readAllOf_377 (fun r7 M8 h1 h2 => ?_) h1 h2
      refine ⟨fun hc => ?_, fun hc => ?_⟩
      · replace h1 := h1.1 hc
        replace h2 := h2.1 hc
        exact hQ _ _ h1 h2
      · replace h1 := h1.2 hc
        replace h2 := h2.2 hc
        refine and_m_emits (fun M11 h1 h2 => ?_) h1 h2
        exact IH _ h1 h2
theorem and_m_readCond_376  {N : Nat} {M : MM} {Q1 Q2 Q3 : Int32 → MM → Prop} (hQ : ∀ (r : Int32) (M1 : MM), Q1 r M1 → Q2 r M1 → Q3 r M1) (h1 : W_m_readCond_376  N M Q1) (h2 : W_m_readCond_376  N M Q2) : W_m_readCond_376  N M Q3 := by
  unfold W_m_readCond_376 at h1 h2 ⊢
  refine and_m_readAllOf_377 (fun r1 M2 h1 h2 => ?_) h1 h2
  refine ⟨fun hc => ?_, fun hc => ?_⟩
  · replace h1 := h1.1 hc
    replace h2 := h2.1 hc
    exact hQ _ _ h1 h2
  · replace h1 := h1.2 hc
    replace h2 := h2.2 hc
    refine and_m_readCond_376_9  hQ N _ h1 h2
theorem and_m_readAtom_375  {N : Nat} {M : MM} {Q1 Q2 Q3 : Int32 → MM → Prop} (hQ : ∀ (r : Int32) (M1 : MM), Q1 r M1 → Q2 r M1 → Q3 r M1) (h1 : W_m_readAtom_375  N M Q1) (h2 : W_m_readAtom_375  N M Q2) : W_m_readAtom_375  N M Q3 := by
  unfold W_m_readAtom_375 at h1 h2 ⊢
  refine and_m_sign (fun r1 M2 h1 h2 => ?_) h1 h2
  refine ⟨fun hc => ?_, fun hc => ?_⟩
  · replace h1 := h1.1 hc
    replace h2 := h2.1 hc
    refine and_m_passes (fun r4 M5 h1 h2 => ?_) h1 h2
    refine ⟨fun hc => ?_, fun hc => ?_⟩
    · replace h1 := h1.1 hc
      replace h2 := h2.1 hc
      refine and_m_passes (fun r7 M8 h1 h2 => ?_) h1 h2
      refine ⟨fun hc => ?_, fun hc => ?_⟩
      · replace h1 := h1.1 hc
        replace h2 := h2.1 hc
        refine and_m_readSum (fun r10 M11 h1 h2 => ?_) h1 h2
        refine ⟨fun hc => ?_, fun hc => ?_⟩
        · replace h1 := h1.1 hc
          replace h2 := h2.1 hc
          exact hQ _ _ h1 h2
        · replace h1 := h1.2 hc
          replace h2 := h2.2 hc
          refine and_m_sign (fun r13 M14 h1 h2 => ?_) h1 h2
          refine ⟨fun hc => ?_, fun hc => ?_⟩
          · replace h1 := h1.1 hc
            replace h2 := h2.1 hc
            refine and_m_sign (fun r16 M17 h1 h2 => ?_) h1 h2
            refine ⟨fun hc => ?_, fun hc => ?_⟩
            · replace h1 := h1.1 hc
              replace h2 := h2.1 hc
              exact hQ _ _ h1 h2
            · replace h1 := h1.2 hc
              replace h2 := h2.2 hc
              refine and_m_readSum (fun r19 M20 h1 h2 => ?_) h1 h2
              refine ⟨fun hc => ?_, fun hc => ?_⟩
              · replace h1 := h1.1 hc
                replace h2 := h2.1 hc
                exact hQ _ _ h1 h2
              · replace h1 := h1.2 hc
                replace h2 := h2.2 hc
                refine ⟨fun hc => ?_, fun hc => ?_⟩
                · replace h1 := h1.1 hc
                  replace h2 := h2.1 hc
                  refine and_m_emits (fun M24 h1 h2 => ?_) h1 h2
                  exact hQ _ _ h1 h2
                · replace h1 := h1.2 hc
                  replace h2 := h2.2 hc
                  refine and_m_emits (fun M26 h1 h2 => ?_) h1 h2
                  exact hQ _ _ h1 h2
          · replace h1 := h1.2 hc
            replace h2 := h2.2 hc
            refine and_m_readSum (fun r27 M28 h1 h2 => ?_) h1 h2
            refine ⟨fun hc => ?_, fun hc => ?_⟩
            · replace h1 := h1.1 hc
              replace h2 := h2.1 hc
              exact hQ _ _ h1 h2
            · replace h1 := h1.2 hc
              replace h2 := h2.2 hc
              refine ⟨fun hc => ?_, fun hc => ?_⟩
              · replace h1 := h1.1 hc
                replace h2 := h2.1 hc
                refine and_m_emits (fun M32 h1 h2 => ?_) h1 h2
                exact hQ _ _ h1 h2
              · replace h1 := h1.2 hc
                replace h2 := h2.2 hc
                refine and_m_emits (fun M34 h1 h2 => ?_) h1 h2
                exact hQ _ _ h1 h2
      · replace h1 := h1.2 hc
        replace h2 := h2.2 hc
        refine and_m_emits (fun M36 h1 h2 => ?_) h1 h2
        exact hQ _ _ h1 h2
    · replace h1 := h1.2 hc
      replace h2 := h2.2 hc
      refine ⟨fun hc => ?_, fun hc => ?_⟩
      · replace h1 := h1.1 hc
        replace h2 := h2.1 hc
        exact hQ _ _ h1 h2
      · replace h1 := h1.2 hc
        replace h2 := h2.2 hc
        refine and_m_readAtom_378 (fun r38 M39 h1 h2 => ?_) h1 h2
        refine ⟨fun hc => ?_, fun hc => ?_⟩
        · replace h1 := h1.1 hc
          replace h2 := h2.1 hc
          exact hQ _ _ h1 h2
        · replace h1 := h1.2 hc
          replace h2 := h2.2 hc
          refine and_m_emits (fun M42 h1 h2 => ?_) h1 h2
          exact hQ _ _ h1 h2
  · replace h1 := h1.2 hc
    replace h2 := h2.2 hc
    refine ⟨fun hc => ?_, fun hc => ?_⟩
    · replace h1 := h1.1 hc
      replace h2 := h2.1 hc
      exact hQ _ _ h1 h2
    · replace h1 := h1.2 hc
      replace h2 := h2.2 hc
      refine and_m_readCond_376 (fun r44 M45 h1 h2 => ?_) h1 h2
      refine ⟨fun hc => ?_, fun hc => ?_⟩
      · replace h1 := h1.1 hc
        replace h2 := h2.1 hc
        exact hQ _ _ h1 h2
      · replace h1 := h1.2 hc
        replace h2 := h2.2 hc
        refine and_m_sign (fun r47 M48 h1 h2 => ?_) h1 h2
        exact hQ _ _ h1 h2
theorem and_m_readAllOf_374_9  {Q1 Q2 Q3 : Int32 → MM → Prop} (hQ : ∀ (r : Int32) (M1 : MM), Q1 r M1 → Q2 r M1 → Q3 r M1) : ∀ (N : Nat) (M : MM), W_m_readAllOf_374_9 Q1 N M → W_m_readAllOf_374_9 Q2 N M → W_m_readAllOf_374_9 Q3 N M := by
  intro N
  induction N with
  | zero => intros; trivial
  | succ N IH =>
    intro M h1 h2
    replace h1 : B_m_readAllOf_374_9 Q1 N (W_m_readAllOf_374_9 Q1 N) M := h1
    replace h2 : B_m_readAllOf_374_9 Q2 N (W_m_readAllOf_374_9 Q2 N) M := h2
    show B_m_readAllOf_374_9 Q3 N (W_m_readAllOf_374_9 Q3 N) M
    unfold B_m_readAllOf_374_9 at h1 h2 ⊢
    refine and_m_passes (fun r4 M5 h1 h2 => ?_) h1 h2
    refine ⟨fun hc => ?_, fun hc => ?_⟩
    · replace h1 := h1.1 hc
      replace h2 := h2.1 hc
      exact hQ _ _ h1 h2
    · replace h1 := h1.2 hc
      replace h2 := h2.2 hc
      refine and_m_readAtom_375 (fun r7 M8 h1 h2 => ?_) h1 h2
      refine ⟨fun hc => ?_, fun hc => ?_⟩
      · replace h1 := h1.1 hc
        replace h2 := h2.1 hc
        exact hQ _ _ h1 h2
      · replace h1 := h1.2 hc
        replace h2 := h2.2 hc
        refine and_m_emits (fun M11 h1 h2 => ?_) h1 h2
        exact IH _ h1 h2
theorem and_m_readAllOf_374  {N : Nat} {M : MM} {Q1 Q2 Q3 : Int32 → MM → Prop} (hQ : ∀ (r : Int32) (M1 : MM), Q1 r M1 → Q2 r M1 → Q3 r M1) (h1 : W_m_readAllOf_374  N M Q1) (h2 : W_m_readAllOf_374  N M Q2) : W_m_readAllOf_374  N M Q3 := by
  unfold W_m_readAllOf_374 at h1 h2 ⊢
  refine and_m_readAtom_375 (fun r1 M2 h1 h2 => ?_) h1 h2
  refine ⟨fun hc => ?_, fun hc => ?_⟩
  · replace h1 := h1.1 hc
    replace h2 := h2.1 hc
    exact hQ _ _ h1 h2
  · replace h1 := h1.2 hc
    replace h2 := h2.2 hc
    refine and_m_readAllOf_374_9  hQ N _ h1 h2
theorem and_m_readCond_373_9  {Q1 Q2 Q3 : Int32 → MM → Prop} (hQ : ∀ (r : Int32) (M1 : MM), Q1 r M1 → Q2 r M1 → Q3 r M1) : ∀ (N : Nat) (M : MM), W_m_readCond_373_9 Q1 N M → W_m_readCond_373_9 Q2 N M → W_m_readCond_373_9 Q3 N M := by
  intro N
  induction N with
  | zero => intros; trivial
  | succ N IH =>
    intro M h1 h2
    replace h1 : B_m_readCond_373_9 Q1 N (W_m_readCond_373_9 Q1 N) M := h1
    replace h2 : B_m_readCond_373_9 Q2 N (W_m_readCond_373_9 Q2 N) M := h2
    show B_m_readCond_373_9 Q3 N (W_m_readCond_373_9 Q3 N) M
    unfold B_m_readCond_373_9 at h1 h2 ⊢
    refine and_m_passes (fun r4 M5 h1 h2 => ?_) h1 h2
    refine ⟨fun hc => ?_, fun hc => ?_⟩
    · replace h1 := h1.1 hc
      replace h2 := h2.1 hc
      exact hQ _ _ h1 h2
    · replace h1 := h1.2 hc
      replace h2 := h2.2 hc
      refine and_m_readAllOf_374 (fun r7 M8 h1 h2 => ?_) h1 h2
      refine ⟨fun hc => ?_, fun hc => ?_⟩
      · replace h1 := h1.1 hc
        replace h2 := h2.1 hc
        exact hQ _ _ h1 h2
      · replace h1 := h1.2 hc
        replace h2 := h2.2 hc
        refine and_m_emits (fun M11 h1 h2 => ?_) h1 h2
        exact IH _ h1 h2
theorem and_m_readCond_373  {N : Nat} {M : MM} {Q1 Q2 Q3 : Int32 → MM → Prop} (hQ : ∀ (r : Int32) (M1 : MM), Q1 r M1 → Q2 r M1 → Q3 r M1) (h1 : W_m_readCond_373  N M Q1) (h2 : W_m_readCond_373  N M Q2) : W_m_readCond_373  N M Q3 := by
  unfold W_m_readCond_373 at h1 h2 ⊢
  refine and_m_readAllOf_374 (fun r1 M2 h1 h2 => ?_) h1 h2
  refine ⟨fun hc => ?_, fun hc => ?_⟩
  · replace h1 := h1.1 hc
    replace h2 := h2.1 hc
    exact hQ _ _ h1 h2
  · replace h1 := h1.2 hc
    replace h2 := h2.2 hc
    refine and_m_readCond_373_9  hQ N _ h1 h2
theorem and_m_readAtom_372  {N : Nat} {M : MM} {Q1 Q2 Q3 : Int32 → MM → Prop} (hQ : ∀ (r : Int32) (M1 : MM), Q1 r M1 → Q2 r M1 → Q3 r M1) (h1 : W_m_readAtom_372  N M Q1) (h2 : W_m_readAtom_372  N M Q2) : W_m_readAtom_372  N M Q3 := by
  unfold W_m_readAtom_372 at h1 h2 ⊢
  refine and_m_sign (fun r1 M2 h1 h2 => ?_) h1 h2
  refine ⟨fun hc => ?_, fun hc => ?_⟩
  · replace h1 := h1.1 hc
    replace h2 := h2.1 hc
    refine and_m_passes (fun r4 M5 h1 h2 => ?_) h1 h2
    refine ⟨fun hc => ?_, fun hc => ?_⟩
    · replace h1 := h1.1 hc
      replace h2 := h2.1 hc
      refine and_m_passes (fun r7 M8 h1 h2 => ?_) h1 h2
      refine ⟨fun hc => ?_, fun hc => ?_⟩
      · replace h1 := h1.1 hc
        replace h2 := h2.1 hc
        refine and_m_readSum (fun r10 M11 h1 h2 => ?_) h1 h2
        refine ⟨fun hc => ?_, fun hc => ?_⟩
        · replace h1 := h1.1 hc
          replace h2 := h2.1 hc
          exact hQ _ _ h1 h2
        · replace h1 := h1.2 hc
          replace h2 := h2.2 hc
          refine and_m_sign (fun r13 M14 h1 h2 => ?_) h1 h2
          refine ⟨fun hc => ?_, fun hc => ?_⟩
          · replace h1 := h1.1 hc
            replace h2 := h2.1 hc
            refine and_m_sign (fun r16 M17 h1 h2 => ?_) h1 h2
            refine ⟨fun hc => ?_, fun hc => ?_⟩
            · replace h1 := h1.1 hc
              replace h2 := h2.1 hc
              exact hQ _ _ h1 h2
            · replace h1 := h1.2 hc
              replace h2 := h2.2 hc
              refine and_m_readSum (fun r19 M20 h1 h2 => ?_) h1 h2
              refine ⟨fun hc => ?_, fun hc => ?_⟩
              · replace h1 := h1.1 hc
                replace h2 := h2.1 hc
                exact hQ _ _ h1 h2
              · replace h1 := h1.2 hc
                replace h2 := h2.2 hc
                refine ⟨fun hc => ?_, fun hc => ?_⟩
                · replace h1 := h1.1 hc
                  replace h2 := h2.1 hc
                  refine and_m_emits (fun M24 h1 h2 => ?_) h1 h2
                  exact hQ _ _ h1 h2
                · replace h1 := h1.2 hc
                  replace h2 := h2.2 hc
                  refine and_m_emits (fun M26 h1 h2 => ?_) h1 h2
                  exact hQ _ _ h1 h2
          · replace h1 := h1.2 hc
            replace h2 := h2.2 hc
            refine and_m_readSum (fun r27 M28 h1 h2 => ?_) h1 h2
            refine ⟨fun hc => ?_, fun hc => ?_⟩
            · replace h1 := h1.1 hc
              replace h2 := h2.1 hc
              exact hQ _ _ h1 h2
            · replace h1 := h1.2 hc
              replace h2 := h2.2 hc
              refine ⟨fun hc => ?_, fun hc => ?_⟩
              · replace h1 := h1.1 hc
                replace h2 := h2.1 hc
                refine and_m_emits (fun M32 h1 h2 => ?_) h1 h2
                exact hQ _ _ h1 h2
              · replace h1 := h1.2 hc
                replace h2 := h2.2 hc
                refine and_m_emits (fun M34 h1 h2 => ?_) h1 h2
                exact hQ _ _ h1 h2
      · replace h1 := h1.2 hc
        replace h2 := h2.2 hc
        refine and_m_emits (fun M36 h1 h2 => ?_) h1 h2
        exact hQ _ _ h1 h2
    · replace h1 := h1.2 hc
      replace h2 := h2.2 hc
      refine ⟨fun hc => ?_, fun hc => ?_⟩
      · replace h1 := h1.1 hc
        replace h2 := h2.1 hc
        exact hQ _ _ h1 h2
      · replace h1 := h1.2 hc
        replace h2 := h2.2 hc
        refine and_m_readAtom_375 (fun r38 M39 h1 h2 => ?_) h1 h2
        refine ⟨fun hc => ?_, fun hc => ?_⟩
        · replace h1 := h1.1 hc
          replace h2 := h2.1 hc
          exact hQ _ _ h1 h2
        · replace h1 := h1.2 hc
          replace h2 := h2.2 hc
          refine and_m_emits (fun M42 h1 h2 => ?_) h1 h2
          exact hQ _ _ h1 h2
  · replace h1 := h1.2 hc
    replace h2 := h2.2 hc
    refine ⟨fun hc => ?_, fun hc => ?_⟩
    · replace h1 := h1.1 hc
      replace h2 := h2.1 hc
      exact hQ _ _ h1 h2
    · replace h1 := h1.2 hc
      replace h2 := h2.2 hc
      refine and_m_readCond_373 (fun r44 M45 h1 h2 => ?_) h1 h2
      refine ⟨fun hc => ?_, fun hc => ?_⟩
      · replace h1 := h1.1 hc
        replace h2 := h2.1 hc
        exact hQ _ _ h1 h2
      · replace h1 := h1.2 hc
        replace h2 := h2.2 hc
        refine and_m_sign (fun r47 M48 h1 h2 => ?_) h1 h2
        exact hQ _ _ h1 h2
theorem and_m_readAllOf_371_9  {Q1 Q2 Q3 : Int32 → MM → Prop} (hQ : ∀ (r : Int32) (M1 : MM), Q1 r M1 → Q2 r M1 → Q3 r M1) : ∀ (N : Nat) (M : MM), W_m_readAllOf_371_9 Q1 N M → W_m_readAllOf_371_9 Q2 N M → W_m_readAllOf_371_9 Q3 N M := by
  intro N
  induction N with
  | zero => intros; trivial
  | succ N IH =>
    intro M h1 h2
    replace h1 : B_m_readAllOf_371_9 Q1 N (W_m_readAllOf_371_9 Q1 N) M := h1
    replace h2 : B_m_readAllOf_371_9 Q2 N (W_m_readAllOf_371_9 Q2 N) M := h2
    show B_m_readAllOf_371_9 Q3 N (W_m_readAllOf_371_9 Q3 N) M
    unfold B_m_readAllOf_371_9 at h1 h2 ⊢
    refine and_m_passes (fun r4 M5 h1 h2 => ?_) h1 h2
    refine ⟨fun hc => ?_, fun hc => ?_⟩
    · replace h1 := h1.1 hc
      replace h2 := h2.1 hc
      exact hQ _ _ h1 h2
    · replace h1 := h1.2 hc
      replace h2 := h2.2 hc
      refine and_m_readAtom_372 (fun r7 M8 h1 h2 => ?_) h1 h2
      refine ⟨fun hc => ?_, fun hc => ?_⟩
      · replace h1 := h1.1 hc
        replace h2 := h2.1 hc
        exact hQ _ _ h1 h2
      · replace h1 := h1.2 hc
        replace h2 := h2.2 hc
        refine and_m_emits (fun M11 h1 h2 => ?_) h1 h2
        exact IH _ h1 h2
theorem and_m_readAllOf_371  {N : Nat} {M : MM} {Q1 Q2 Q3 : Int32 → MM → Prop} (hQ : ∀ (r : Int32) (M1 : MM), Q1 r M1 → Q2 r M1 → Q3 r M1) (h1 : W_m_readAllOf_371  N M Q1) (h2 : W_m_readAllOf_371  N M Q2) : W_m_readAllOf_371  N M Q3 := by
  unfold W_m_readAllOf_371 at h1 h2 ⊢
  refine and_m_readAtom_372 (fun r1 M2 h1 h2 => ?_) h1 h2
  refine ⟨fun hc => ?_, fun hc => ?_⟩
  · replace h1 := h1.1 hc
    replace h2 := h2.1 hc
    exact hQ _ _ h1 h2
  · replace h1 := h1.2 hc
    replace h2 := h2.2 hc
    refine and_m_readAllOf_371_9  hQ N _ h1 h2
theorem and_m_readCond_370_9  {Q1 Q2 Q3 : Int32 → MM → Prop} (hQ : ∀ (r : Int32) (M1 : MM), Q1 r M1 → Q2 r M1 → Q3 r M1) : ∀ (N : Nat) (M : MM), W_m_readCond_370_9 Q1 N M → W_m_readCond_370_9 Q2 N M → W_m_readCond_370_9 Q3 N M := by
  intro N
  induction N with
  | zero => intros; trivial
  | succ N IH =>
    intro M h1 h2
    replace h1 : B_m_readCond_370_9 Q1 N (W_m_readCond_370_9 Q1 N) M := h1
    replace h2 : B_m_readCond_370_9 Q2 N (W_m_readCond_370_9 Q2 N) M := h2
    show B_m_readCond_370_9 Q3 N (W_m_readCond_370_9 Q3 N) M
    unfold B_m_readCond_370_9 at h1 h2 ⊢
    refine and_m_passes (fun r4 M5 h1 h2 => ?_) h1 h2
    refine ⟨fun hc => ?_, fun hc => ?_⟩
    · replace h1 := h1.1 hc
      replace h2 := h2.1 hc
      exact hQ _ _ h1 h2
    · replace h1 := h1.2 hc
      replace h2 := h2.2 hc
      refine and_m_readAllOf_371 (fun r7 M8 h1 h2 => ?_) h1 h2
      refine ⟨fun hc => ?_, fun hc => ?_⟩
      · replace h1 := h1.1 hc
        replace h2 := h2.1 hc
        exact hQ _ _ h1 h2
      · replace h1 := h1.2 hc
        replace h2 := h2.2 hc
        refine and_m_emits (fun M11 h1 h2 => ?_) h1 h2
        exact IH _ h1 h2
theorem and_m_readCond_370  {N : Nat} {M : MM} {Q1 Q2 Q3 : Int32 → MM → Prop} (hQ : ∀ (r : Int32) (M1 : MM), Q1 r M1 → Q2 r M1 → Q3 r M1) (h1 : W_m_readCond_370  N M Q1) (h2 : W_m_readCond_370  N M Q2) : W_m_readCond_370  N M Q3 := by
  unfold W_m_readCond_370 at h1 h2 ⊢
  refine and_m_readAllOf_371 (fun r1 M2 h1 h2 => ?_) h1 h2
  refine ⟨fun hc => ?_, fun hc => ?_⟩
  · replace h1 := h1.1 hc
    replace h2 := h2.1 hc
    exact hQ _ _ h1 h2
  · replace h1 := h1.2 hc
    replace h2 := h2.2 hc
    refine and_m_readCond_370_9  hQ N _ h1 h2
theorem and_m_readAtom  {N : Nat} {M : MM} {Q1 Q2 Q3 : Int32 → MM → Prop} (hQ : ∀ (r : Int32) (M1 : MM), Q1 r M1 → Q2 r M1 → Q3 r M1) (h1 : W_m_readAtom  N M Q1) (h2 : W_m_readAtom  N M Q2) : W_m_readAtom  N M Q3 := by
  unfold W_m_readAtom at h1 h2 ⊢
  refine and_m_sign (fun r1 M2 h1 h2 => ?_) h1 h2
  refine ⟨fun hc => ?_, fun hc => ?_⟩
  · replace h1 := h1.1 hc
    replace h2 := h2.1 hc
    refine and_m_passes (fun r4 M5 h1 h2 => ?_) h1 h2
    refine ⟨fun hc => ?_, fun hc => ?_⟩
    · replace h1 := h1.1 hc
      replace h2 := h2.1 hc
      refine and_m_passes (fun r7 M8 h1 h2 => ?_) h1 h2
      refine ⟨fun hc => ?_, fun hc => ?_⟩
      · replace h1 := h1.1 hc
        replace h2 := h2.1 hc
        refine and_m_readSum (fun r10 M11 h1 h2 => ?_) h1 h2
        refine ⟨fun hc => ?_, fun hc => ?_⟩
        · replace h1 := h1.1 hc
          replace h2 := h2.1 hc
          exact hQ _ _ h1 h2
        · replace h1 := h1.2 hc
          replace h2 := h2.2 hc
          refine and_m_sign (fun r13 M14 h1 h2 => ?_) h1 h2
          refine ⟨fun hc => ?_, fun hc => ?_⟩
          · replace h1 := h1.1 hc
            replace h2 := h2.1 hc
            refine and_m_sign (fun r16 M17 h1 h2 => ?_) h1 h2
            refine ⟨fun hc => ?_, fun hc => ?_⟩
            · replace h1 := h1.1 hc
              replace h2 := h2.1 hc
              exact hQ _ _ h1 h2
            · replace h1 := h1.2 hc
              replace h2 := h2.2 hc
              refine and_m_readSum (fun r19 M20 h1 h2 => ?_) h1 h2
              refine ⟨fun hc => ?_, fun hc => ?_⟩
              · replace h1 := h1.1 hc
                replace h2 := h2.1 hc
                exact hQ _ _ h1 h2
              · replace h1 := h1.2 hc
                replace h2 := h2.2 hc
                refine ⟨fun hc => ?_, fun hc => ?_⟩
                · replace h1 := h1.1 hc
                  replace h2 := h2.1 hc
                  refine and_m_emits (fun M24 h1 h2 => ?_) h1 h2
                  exact hQ _ _ h1 h2
                · replace h1 := h1.2 hc
                  replace h2 := h2.2 hc
                  refine and_m_emits (fun M26 h1 h2 => ?_) h1 h2
                  exact hQ _ _ h1 h2
          · replace h1 := h1.2 hc
            replace h2 := h2.2 hc
            refine and_m_readSum (fun r27 M28 h1 h2 => ?_) h1 h2
            refine ⟨fun hc => ?_, fun hc => ?_⟩
            · replace h1 := h1.1 hc
              replace h2 := h2.1 hc
              exact hQ _ _ h1 h2
            · replace h1 := h1.2 hc
              replace h2 := h2.2 hc
              refine ⟨fun hc => ?_, fun hc => ?_⟩
              · replace h1 := h1.1 hc
                replace h2 := h2.1 hc
                refine and_m_emits (fun M32 h1 h2 => ?_) h1 h2
                exact hQ _ _ h1 h2
              · replace h1 := h1.2 hc
                replace h2 := h2.2 hc
                refine and_m_emits (fun M34 h1 h2 => ?_) h1 h2
                exact hQ _ _ h1 h2
      · replace h1 := h1.2 hc
        replace h2 := h2.2 hc
        refine and_m_emits (fun M36 h1 h2 => ?_) h1 h2
        exact hQ _ _ h1 h2
    · replace h1 := h1.2 hc
      replace h2 := h2.2 hc
      refine ⟨fun hc => ?_, fun hc => ?_⟩
      · replace h1 := h1.1 hc
        replace h2 := h2.1 hc
        exact hQ _ _ h1 h2
      · replace h1 := h1.2 hc
        replace h2 := h2.2 hc
        refine and_m_readAtom_372 (fun r38 M39 h1 h2 => ?_) h1 h2
        refine ⟨fun hc => ?_, fun hc => ?_⟩
        · replace h1 := h1.1 hc
          replace h2 := h2.1 hc
          exact hQ _ _ h1 h2
        · replace h1 := h1.2 hc
          replace h2 := h2.2 hc
          refine and_m_emits (fun M42 h1 h2 => ?_) h1 h2
          exact hQ _ _ h1 h2
  · replace h1 := h1.2 hc
    replace h2 := h2.2 hc
    refine ⟨fun hc => ?_, fun hc => ?_⟩
    · replace h1 := h1.1 hc
      replace h2 := h2.1 hc
      exact hQ _ _ h1 h2
    · replace h1 := h1.2 hc
      replace h2 := h2.2 hc
      refine and_m_readCond_370 (fun r44 M45 h1 h2 => ?_) h1 h2
      refine ⟨fun hc => ?_, fun hc => ?_⟩
      · replace h1 := h1.1 hc
        replace h2 := h2.1 hc
        exact hQ _ _ h1 h2
      · replace h1 := h1.2 hc
        replace h2 := h2.2 hc
        refine and_m_sign (fun r47 M48 h1 h2 => ?_) h1 h2
        exact hQ _ _ h1 h2
theorem and_m_readAllOf_9  {Q1 Q2 Q3 : Int32 → MM → Prop} (hQ : ∀ (r : Int32) (M1 : MM), Q1 r M1 → Q2 r M1 → Q3 r M1) : ∀ (N : Nat) (M : MM), W_m_readAllOf_9 Q1 N M → W_m_readAllOf_9 Q2 N M → W_m_readAllOf_9 Q3 N M := by
  intro N
  induction N with
  | zero => intros; trivial
  | succ N IH =>
    intro M h1 h2
    replace h1 : B_m_readAllOf_9 Q1 N (W_m_readAllOf_9 Q1 N) M := h1
    replace h2 : B_m_readAllOf_9 Q2 N (W_m_readAllOf_9 Q2 N) M := h2
    show B_m_readAllOf_9 Q3 N (W_m_readAllOf_9 Q3 N) M
    unfold B_m_readAllOf_9 at h1 h2 ⊢
    refine and_m_passes (fun r4 M5 h1 h2 => ?_) h1 h2
    refine ⟨fun hc => ?_, fun hc => ?_⟩
    · replace h1 := h1.1 hc
      replace h2 := h2.1 hc
      exact hQ _ _ h1 h2
    · replace h1 := h1.2 hc
      replace h2 := h2.2 hc
      refine and_m_readAtom (fun r7 M8 h1 h2 => ?_) h1 h2
      refine ⟨fun hc => ?_, fun hc => ?_⟩
      · replace h1 := h1.1 hc
        replace h2 := h2.1 hc
        exact hQ _ _ h1 h2
      · replace h1 := h1.2 hc
        replace h2 := h2.2 hc
        refine and_m_emits (fun M11 h1 h2 => ?_) h1 h2
        exact IH _ h1 h2
theorem and_m_readAllOf  {N : Nat} {M : MM} {Q1 Q2 Q3 : Int32 → MM → Prop} (hQ : ∀ (r : Int32) (M1 : MM), Q1 r M1 → Q2 r M1 → Q3 r M1) (h1 : W_m_readAllOf  N M Q1) (h2 : W_m_readAllOf  N M Q2) : W_m_readAllOf  N M Q3 := by
  unfold W_m_readAllOf at h1 h2 ⊢
  refine and_m_readAtom (fun r1 M2 h1 h2 => ?_) h1 h2
  refine ⟨fun hc => ?_, fun hc => ?_⟩
  · replace h1 := h1.1 hc
    replace h2 := h2.1 hc
    exact hQ _ _ h1 h2
  · replace h1 := h1.2 hc
    replace h2 := h2.2 hc
    refine and_m_readAllOf_9  hQ N _ h1 h2
theorem and_m_readCond_9  {Q1 Q2 Q3 : Int32 → MM → Prop} (hQ : ∀ (r : Int32) (M1 : MM), Q1 r M1 → Q2 r M1 → Q3 r M1) : ∀ (N : Nat) (M : MM), W_m_readCond_9 Q1 N M → W_m_readCond_9 Q2 N M → W_m_readCond_9 Q3 N M := by
  intro N
  induction N with
  | zero => intros; trivial
  | succ N IH =>
    intro M h1 h2
    replace h1 : B_m_readCond_9 Q1 N (W_m_readCond_9 Q1 N) M := h1
    replace h2 : B_m_readCond_9 Q2 N (W_m_readCond_9 Q2 N) M := h2
    show B_m_readCond_9 Q3 N (W_m_readCond_9 Q3 N) M
    unfold B_m_readCond_9 at h1 h2 ⊢
    refine and_m_passes (fun r4 M5 h1 h2 => ?_) h1 h2
    refine ⟨fun hc => ?_, fun hc => ?_⟩
    · replace h1 := h1.1 hc
      replace h2 := h2.1 hc
      exact hQ _ _ h1 h2
    · replace h1 := h1.2 hc
      replace h2 := h2.2 hc
      refine and_m_readAllOf (fun r7 M8 h1 h2 => ?_) h1 h2
      refine ⟨fun hc => ?_, fun hc => ?_⟩
      · replace h1 := h1.1 hc
        replace h2 := h2.1 hc
        exact hQ _ _ h1 h2
      · replace h1 := h1.2 hc
        replace h2 := h2.2 hc
        refine and_m_emits (fun M11 h1 h2 => ?_) h1 h2
        exact IH _ h1 h2
theorem and_m_readCond  {N : Nat} {M : MM} {Q1 Q2 Q3 : Int32 → MM → Prop} (hQ : ∀ (r : Int32) (M1 : MM), Q1 r M1 → Q2 r M1 → Q3 r M1) (h1 : W_m_readCond  N M Q1) (h2 : W_m_readCond  N M Q2) : W_m_readCond  N M Q3 := by
  unfold W_m_readCond at h1 h2 ⊢
  refine and_m_readAllOf (fun r1 M2 h1 h2 => ?_) h1 h2
  refine ⟨fun hc => ?_, fun hc => ?_⟩
  · replace h1 := h1.1 hc
    replace h2 := h2.1 hc
    exact hQ _ _ h1 h2
  · replace h1 := h1.2 hc
    replace h2 := h2.2 hc
    refine and_m_readCond_9  hQ N _ h1 h2
theorem and_m_readClause {p1 : Int32} {N : Nat} {M : MM} {Q1 Q2 Q3 : Int32 → MM → Prop} (hQ : ∀ (r : Int32) (M1 : MM), Q1 r M1 → Q2 r M1 → Q3 r M1) (h1 : W_m_readClause p1 N M Q1) (h2 : W_m_readClause p1 N M Q2) : W_m_readClause p1 N M Q3 := by
  unfold W_m_readClause at h1 h2 ⊢
  refine ⟨fun hc => ?_, fun hc => ?_⟩
  · replace h1 := h1.1 hc
    replace h2 := h2.1 hc
    exact hQ _ _ h1 h2
  · replace h1 := h1.2 hc
    replace h2 := h2.2 hc
    refine and_m_isWord (fun r2 h1 h2 => ?_) h1 h2
    refine ⟨fun hc => ?_, fun hc => ?_⟩
    · replace h1 := h1.1 hc
      replace h2 := h2.1 hc
      refine and_m_isWord (fun r5 h1 h2 => ?_) h1 h2
      refine ⟨fun hc => ?_, fun hc => ?_⟩
      · replace h1 := h1.1 hc
        replace h2 := h2.1 hc
        exact hQ _ _ h1 h2
      · replace h1 := h1.2 hc
        replace h2 := h2.2 hc
        refine ⟨fun hc => ?_, fun hc => ?_⟩
        · replace h1 := h1.1 hc
          replace h2 := h2.1 hc
          refine and_m_number (fun r9 M10 h1 h2 => ?_) h1 h2
          refine ⟨fun hc => ?_, fun hc => ?_⟩
          · replace h1 := h1.1 hc
            replace h2 := h2.1 hc
            exact hQ _ _ h1 h2
          · replace h1 := h1.2 hc
            replace h2 := h2.2 hc
            refine and_m_passes (fun r12 M13 h1 h2 => ?_) h1 h2
            refine ⟨fun hc => ?_, fun hc => ?_⟩
            · replace h1 := h1.1 hc
              replace h2 := h2.1 hc
              exact hQ _ _ h1 h2
            · replace h1 := h1.2 hc
              replace h2 := h2.2 hc
              refine and_m_readCond (fun r15 M16 h1 h2 => ?_) h1 h2
              refine ⟨fun hc => ?_, fun hc => ?_⟩
              · replace h1 := h1.1 hc
                replace h2 := h2.1 hc
                exact hQ _ _ h1 h2
              · replace h1 := h1.2 hc
                replace h2 := h2.2 hc
                exact hQ _ _ h1 h2
        · replace h1 := h1.2 hc
          replace h2 := h2.2 hc
          refine and_m_number (fun r18 M19 h1 h2 => ?_) h1 h2
          refine ⟨fun hc => ?_, fun hc => ?_⟩
          · replace h1 := h1.1 hc
            replace h2 := h2.1 hc
            exact hQ _ _ h1 h2
          · replace h1 := h1.2 hc
            replace h2 := h2.2 hc
            refine and_m_passes (fun r21 M22 h1 h2 => ?_) h1 h2
            refine ⟨fun hc => ?_, fun hc => ?_⟩
            · replace h1 := h1.1 hc
              replace h2 := h2.1 hc
              exact hQ _ _ h1 h2
            · replace h1 := h1.2 hc
              replace h2 := h2.2 hc
              refine and_m_readCond (fun r24 M25 h1 h2 => ?_) h1 h2
              refine ⟨fun hc => ?_, fun hc => ?_⟩
              · replace h1 := h1.1 hc
                replace h2 := h2.1 hc
                exact hQ _ _ h1 h2
              · replace h1 := h1.2 hc
                replace h2 := h2.2 hc
                exact hQ _ _ h1 h2
    · replace h1 := h1.2 hc
      replace h2 := h2.2 hc
      refine ⟨fun hc => ?_, fun hc => ?_⟩
      · replace h1 := h1.1 hc
        replace h2 := h2.1 hc
        refine and_m_number (fun r28 M29 h1 h2 => ?_) h1 h2
        refine ⟨fun hc => ?_, fun hc => ?_⟩
        · replace h1 := h1.1 hc
          replace h2 := h2.1 hc
          exact hQ _ _ h1 h2
        · replace h1 := h1.2 hc
          replace h2 := h2.2 hc
          refine and_m_passes (fun r31 M32 h1 h2 => ?_) h1 h2
          refine ⟨fun hc => ?_, fun hc => ?_⟩
          · replace h1 := h1.1 hc
            replace h2 := h2.1 hc
            exact hQ _ _ h1 h2
          · replace h1 := h1.2 hc
            replace h2 := h2.2 hc
            refine and_m_readCond (fun r34 M35 h1 h2 => ?_) h1 h2
            refine ⟨fun hc => ?_, fun hc => ?_⟩
            · replace h1 := h1.1 hc
              replace h2 := h2.1 hc
              exact hQ _ _ h1 h2
            · replace h1 := h1.2 hc
              replace h2 := h2.2 hc
              exact hQ _ _ h1 h2
      · replace h1 := h1.2 hc
        replace h2 := h2.2 hc
        refine and_m_number (fun r37 M38 h1 h2 => ?_) h1 h2
        refine ⟨fun hc => ?_, fun hc => ?_⟩
        · replace h1 := h1.1 hc
          replace h2 := h2.1 hc
          exact hQ _ _ h1 h2
        · replace h1 := h1.2 hc
          replace h2 := h2.2 hc
          refine and_m_passes (fun r40 M41 h1 h2 => ?_) h1 h2
          refine ⟨fun hc => ?_, fun hc => ?_⟩
          · replace h1 := h1.1 hc
            replace h2 := h2.1 hc
            exact hQ _ _ h1 h2
          · replace h1 := h1.2 hc
            replace h2 := h2.2 hc
            refine and_m_readCond (fun r43 M44 h1 h2 => ?_) h1 h2
            refine ⟨fun hc => ?_, fun hc => ?_⟩
            · replace h1 := h1.1 hc
              replace h2 := h2.1 hc
              exact hQ _ _ h1 h2
            · replace h1 := h1.2 hc
              replace h2 := h2.2 hc
              exact hQ _ _ h1 h2
theorem and_m_readHabit_2 {p1 : Int32} {Q1 Q2 Q3 : Int32 → MM → Prop} (hQ : ∀ (r : Int32) (M1 : MM), Q1 r M1 → Q2 r M1 → Q3 r M1) : ∀ (N : Nat) (v2 : Int32) (M : MM), W_m_readHabit_2 p1 Q1 N v2 M → W_m_readHabit_2 p1 Q2 N v2 M → W_m_readHabit_2 p1 Q3 N v2 M := by
  intro N
  induction N with
  | zero => intros; trivial
  | succ N IH =>
    intro v2 M h1 h2
    replace h1 : B_m_readHabit_2 p1 Q1 N (W_m_readHabit_2 p1 Q1 N) v2 M := h1
    replace h2 : B_m_readHabit_2 p1 Q2 N (W_m_readHabit_2 p1 Q2 N) v2 M := h2
    show B_m_readHabit_2 p1 Q3 N (W_m_readHabit_2 p1 Q3 N) v2 M
    unfold B_m_readHabit_2 at h1 h2 ⊢
    refine ⟨fun hc => ?_, fun hc => ?_⟩
    · replace h1 := h1.1 hc
      replace h2 := h2.1 hc
      exact hQ _ _ h1 h2
    · replace h1 := h1.2 hc
      replace h2 := h2.2 hc
      refine and_m_matterTold (fun r3 M4 h1 h2 => ?_) h1 h2
      refine ⟨fun hc => ?_, fun hc => ?_⟩
      · replace h1 := h1.1 hc
        replace h2 := h2.1 hc
        exact hQ _ _ h1 h2
      · replace h1 := h1.2 hc
        replace h2 := h2.2 hc
        refine and_m_sets (fun M7 h1 h2 => ?_) h1 h2
        refine and_m_isFigure (fun r8 M9 h1 h2 => ?_) h1 h2
        refine ⟨fun hc => ?_, fun hc => ?_⟩
        · replace h1 := h1.1 hc
          replace h2 := h2.1 hc
          refine and_m_sets (fun M12 h1 h2 => ?_) h1 h2
          exact hQ _ _ h1 h2
        · replace h1 := h1.2 hc
          replace h2 := h2.2 hc
          exact IH _ _ h1 h2
theorem and_m_readHabit {p1 : Int32} {N : Nat} {M : MM} {Q1 Q2 Q3 : Int32 → MM → Prop} (hQ : ∀ (r : Int32) (M1 : MM), Q1 r M1 → Q2 r M1 → Q3 r M1) (h1 : W_m_readHabit p1 N M Q1) (h2 : W_m_readHabit p1 N M Q2) : W_m_readHabit p1 N M Q3 := by
  unfold W_m_readHabit at h1 h2 ⊢
  refine and_m_readHabit_2  hQ N _ _ h1 h2
theorem and_m_readKnows_0 {p1 : Int32} {Q1 Q2 Q3 : Int32 → MM → Prop} (hQ : ∀ (r : Int32) (M1 : MM), Q1 r M1 → Q2 r M1 → Q3 r M1) : ∀ (N : Nat) (M : MM), W_m_readKnows_0 p1 Q1 N M → W_m_readKnows_0 p1 Q2 N M → W_m_readKnows_0 p1 Q3 N M := by
  intro N
  induction N with
  | zero => intros; trivial
  | succ N IH =>
    intro M h1 h2
    replace h1 : B_m_readKnows_0 p1 Q1 N (W_m_readKnows_0 p1 Q1 N) M := h1
    replace h2 : B_m_readKnows_0 p1 Q2 N (W_m_readKnows_0 p1 Q2 N) M := h2
    show B_m_readKnows_0 p1 Q3 N (W_m_readKnows_0 p1 Q3 N) M
    unfold B_m_readKnows_0 at h1 h2 ⊢
    refine and_m_number (fun r1 M2 h1 h2 => ?_) h1 h2
    refine ⟨fun hc => ?_, fun hc => ?_⟩
    · replace h1 := h1.1 hc
      replace h2 := h2.1 hc
      exact hQ _ _ h1 h2
    · replace h1 := h1.2 hc
      replace h2 := h2.2 hc
      refine and_m_sets (fun M5 h1 h2 => ?_) h1 h2
      refine and_m_isFigure (fun r6 M7 h1 h2 => ?_) h1 h2
      refine ⟨fun hc => ?_, fun hc => ?_⟩
      · replace h1 := h1.1 hc
        replace h2 := h2.1 hc
        exact hQ _ _ h1 h2
      · replace h1 := h1.2 hc
        replace h2 := h2.2 hc
        exact IH _ h1 h2
theorem and_m_readKnows {p1 : Int32} {N : Nat} {M : MM} {Q1 Q2 Q3 : Int32 → MM → Prop} (hQ : ∀ (r : Int32) (M1 : MM), Q1 r M1 → Q2 r M1 → Q3 r M1) (h1 : W_m_readKnows p1 N M Q1) (h2 : W_m_readKnows p1 N M Q2) : W_m_readKnows p1 N M Q3 := by
  unfold W_m_readKnows at h1 h2 ⊢
  refine and_m_readKnows_0  hQ N _ h1 h2
theorem and_m_readCitizen_15 {u1 : Int32} {k34a k34b k34c : MM → Prop} {Q1 Q2 Q3 : Int32 → MM → Prop} (hk34 : ∀  (M : MM), k34a M → k34b M → k34c M) (hQ : ∀ (r : Int32) (M1 : MM), Q1 r M1 → Q2 r M1 → Q3 r M1) : ∀ (N : Nat) (v2 : Int32) (M : MM), W_m_readCitizen_15 u1 k34a Q1 N v2 M → W_m_readCitizen_15 u1 k34b Q2 N v2 M → W_m_readCitizen_15 u1 k34c Q3 N v2 M := by
  intro N
  induction N with
  | zero => intros; trivial
  | succ N IH =>
    intro v2 M h1 h2
    replace h1 : B_m_readCitizen_15 u1 k34a Q1 N (W_m_readCitizen_15 u1 k34a Q1 N) v2 M := h1
    replace h2 : B_m_readCitizen_15 u1 k34b Q2 N (W_m_readCitizen_15 u1 k34b Q2 N) v2 M := h2
    show B_m_readCitizen_15 u1 k34c Q3 N (W_m_readCitizen_15 u1 k34c Q3 N) v2 M
    unfold B_m_readCitizen_15 at h1 h2 ⊢
    refine ⟨fun hc => ?_, fun hc => ?_⟩
    · replace h1 := h1.1 hc
      replace h2 := h2.1 hc
      refine and_m_sets (fun M4 h1 h2 => ?_) h1 h2
      exact IH _ _ h1 h2
    · replace h1 := h1.2 hc
      replace h2 := h2.2 hc
      exact hk34 _ h1 h2
theorem and_m_readCitizen  {N : Nat} {M : MM} {Q1 Q2 Q3 : Int32 → MM → Prop} (hQ : ∀ (r : Int32) (M1 : MM), Q1 r M1 → Q2 r M1 → Q3 r M1) (h1 : W_m_readCitizen  N M Q1) (h2 : W_m_readCitizen  N M Q2) : W_m_readCitizen  N M Q3 := by
  unfold W_m_readCitizen at h1 h2 ⊢
  refine ⟨fun hc => ?_, fun hc => ?_⟩
  · replace h1 := h1.1 hc
    replace h2 := h2.1 hc
    exact hQ _ _ h1 h2
  · replace h1 := h1.2 hc
    replace h2 := h2.2 hc
    refine and_m_readCitizen_15 (fun M5 h1 h2 => ?_) hQ N _ _ h1 h2
    · refine and_m_sets (fun M7 h1 h2 => ?_) h1 h2
      refine and_m_sets (fun M9 h1 h2 => ?_) h1 h2
      refine and_m_letters (fun M11 h1 h2 => ?_) h1 h2
      refine and_m_isWord (fun r12 h1 h2 => ?_) h1 h2
      refine ⟨fun hc => ?_, fun hc => ?_⟩
      · replace h1 := h1.1 hc
        replace h2 := h2.1 hc
        exact hQ _ _ h1 h2
      · replace h1 := h1.2 hc
        replace h2 := h2.2 hc
        refine and_m_number (fun r15 M16 h1 h2 => ?_) h1 h2
        refine and_m_sets (fun M18 h1 h2 => ?_) h1 h2
        refine ⟨fun hc => ?_, fun hc => ?_⟩
        · replace h1 := h1.1 hc
          replace h2 := h2.1 hc
          exact hQ _ _ h1 h2
        · replace h1 := h1.2 hc
          replace h2 := h2.2 hc
          refine and_m_letters (fun M21 h1 h2 => ?_) h1 h2
          refine and_m_isWord (fun r22 h1 h2 => ?_) h1 h2
          refine ⟨fun hc => ?_, fun hc => ?_⟩
          · replace h1 := h1.1 hc
            replace h2 := h2.1 hc
            exact hQ _ _ h1 h2
          · replace h1 := h1.2 hc
            replace h2 := h2.2 hc
            refine and_m_readHabit (fun r25 M26 h1 h2 => ?_) h1 h2
            refine ⟨fun hc => ?_, fun hc => ?_⟩
            · replace h1 := h1.1 hc
              replace h2 := h2.1 hc
              exact hQ _ _ h1 h2
            · replace h1 := h1.2 hc
              replace h2 := h2.2 hc
              refine and_m_passes (fun r28 M29 h1 h2 => ?_) h1 h2
              refine ⟨fun hc => ?_, fun hc => ?_⟩
              · replace h1 := h1.1 hc
                replace h2 := h2.1 hc
                exact hQ _ _ h1 h2
              · replace h1 := h1.2 hc
                replace h2 := h2.2 hc
                refine and_m_readKnows (fun r31 M32 h1 h2 => ?_) h1 h2
                refine ⟨fun hc => ?_, fun hc => ?_⟩
                · replace h1 := h1.1 hc
                  replace h2 := h2.1 hc
                  exact hQ _ _ h1 h2
                · replace h1 := h1.2 hc
                  replace h2 := h2.2 hc
                  exact hQ _ _ h1 h2
theorem and_m_citizenTold  {N : Nat} {M : MM} {Q1 Q2 Q3 : Int32 → MM → Prop} (hQ : ∀ (r : Int32) (M1 : MM), Q1 r M1 → Q2 r M1 → Q3 r M1) (h1 : W_m_citizenTold  N M Q1) (h2 : W_m_citizenTold  N M Q2) : W_m_citizenTold  N M Q3 := by
  unfold W_m_citizenTold at h1 h2 ⊢
  refine and_m_number (fun r1 M2 h1 h2 => ?_) h1 h2
  refine ⟨fun hc => ?_, fun hc => ?_⟩
  · replace h1 := h1.1 hc
    replace h2 := h2.1 hc
    exact hQ _ _ h1 h2
  · replace h1 := h1.2 hc
    replace h2 := h2.2 hc
    refine ⟨fun hc => ?_, fun hc => ?_⟩
    · replace h1 := h1.1 hc
      replace h2 := h2.1 hc
      exact hQ _ _ h1 h2
    · replace h1 := h1.2 hc
      replace h2 := h2.2 hc
      exact hQ _ _ h1 h2
theorem and_m_weds {p1 : Int32} {p2 : Int32} {N : Nat} {M : MM} {Q1 Q2 Q3 : MM → Prop} (hQ : ∀  (M1 : MM), Q1 M1 → Q2 M1 → Q3 M1) (h1 : W_m_weds p1 p2 N M Q1) (h2 : W_m_weds p1 p2 N M Q2) : W_m_weds p1 p2 N M Q3 := by
  unfold W_m_weds at h1 h2 ⊢
  refine and_m_sets (fun M2 h1 h2 => ?_) h1 h2
  refine and_m_sets (fun M4 h1 h2 => ?_) h1 h2
  refine and_m_sets (fun M6 h1 h2 => ?_) h1 h2
  refine and_m_sets (fun M8 h1 h2 => ?_) h1 h2
  exact hQ _ h1 h2
theorem and_m_readWed  {N : Nat} {M : MM} {Q1 Q2 Q3 : Int32 → MM → Prop} (hQ : ∀ (r : Int32) (M1 : MM), Q1 r M1 → Q2 r M1 → Q3 r M1) (h1 : W_m_readWed  N M Q1) (h2 : W_m_readWed  N M Q2) : W_m_readWed  N M Q3 := by
  unfold W_m_readWed at h1 h2 ⊢
  refine and_m_citizenTold (fun r1 M2 h1 h2 => ?_) h1 h2
  refine ⟨fun hc => ?_, fun hc => ?_⟩
  · replace h1 := h1.1 hc
    replace h2 := h2.1 hc
    exact hQ _ _ h1 h2
  · replace h1 := h1.2 hc
    replace h2 := h2.2 hc
    refine and_m_citizenTold (fun r4 M5 h1 h2 => ?_) h1 h2
    refine ⟨fun hc => ?_, fun hc => ?_⟩
    · replace h1 := h1.1 hc
      replace h2 := h2.1 hc
      exact hQ _ _ h1 h2
    · replace h1 := h1.2 hc
      replace h2 := h2.2 hc
      refine ⟨fun hc => ?_, fun hc => ?_⟩
      · replace h1 := h1.1 hc
        replace h2 := h2.1 hc
        exact hQ _ _ h1 h2
      · replace h1 := h1.2 hc
        replace h2 := h2.2 hc
        refine and_m_weds (fun M9 h1 h2 => ?_) h1 h2
        exact hQ _ _ h1 h2
theorem and_m_readSeen  {N : Nat} {M : MM} {Q1 Q2 Q3 : Int32 → MM → Prop} (hQ : ∀ (r : Int32) (M1 : MM), Q1 r M1 → Q2 r M1 → Q3 r M1) (h1 : W_m_readSeen  N M Q1) (h2 : W_m_readSeen  N M Q2) : W_m_readSeen  N M Q3 := by
  unfold W_m_readSeen at h1 h2 ⊢
  refine and_m_citizenTold (fun r1 M2 h1 h2 => ?_) h1 h2
  refine ⟨fun hc => ?_, fun hc => ?_⟩
  · replace h1 := h1.1 hc
    replace h2 := h2.1 hc
    exact hQ _ _ h1 h2
  · replace h1 := h1.2 hc
    replace h2 := h2.2 hc
    refine and_m_matterTold (fun r6 M7 h1 h2 => ?_) h1 h2
    refine ⟨fun hc => ?_, fun hc => ?_⟩
    · replace h1 := h1.1 hc
      replace h2 := h2.1 hc
      refine ⟨fun hc => ?_, fun hc => ?_⟩
      · replace h1 := h1.1 hc
        replace h2 := h2.1 hc
        exact hQ _ _ h1 h2
      · replace h1 := h1.2 hc
        replace h2 := h2.2 hc
        exact hQ _ _ h1 h2
    · replace h1 := h1.2 hc
      replace h2 := h2.2 hc
      refine ⟨fun hc => ?_, fun hc => ?_⟩
      · replace h1 := h1.1 hc
        replace h2 := h2.1 hc
        exact hQ _ _ h1 h2
      · replace h1 := h1.2 hc
        replace h2 := h2.2 hc
        exact hQ _ _ h1 h2
theorem and_m_readNumber {p1 : Int32} {p2 : Int32} {p3 : Int32} {N : Nat} {M : MM} {Q1 Q2 Q3 : Int32 → MM → Prop} (hQ : ∀ (r : Int32) (M1 : MM), Q1 r M1 → Q2 r M1 → Q3 r M1) (h1 : W_m_readNumber p1 p2 p3 N M Q1) (h2 : W_m_readNumber p1 p2 p3 N M Q2) : W_m_readNumber p1 p2 p3 N M Q3 := by
  unfold W_m_readNumber at h1 h2 ⊢
  refine and_m_number (fun r1 M2 h1 h2 => ?_) h1 h2
  refine ⟨fun hc => ?_, fun hc => ?_⟩
  · replace h1 := h1.1 hc
    replace h2 := h2.1 hc
    exact hQ _ _ h1 h2
  · replace h1 := h1.2 hc
    replace h2 := h2.2 hc
    exact hQ _ _ h1 h2
theorem and_m_readRepublicLine {p1 : Int32} {N : Nat} {M : MM} {Q1 Q2 Q3 : Int32 → MM → Prop} (hQ : ∀ (r : Int32) (M1 : MM), Q1 r M1 → Q2 r M1 → Q3 r M1) (h1 : W_m_readRepublicLine p1 N M Q1) (h2 : W_m_readRepublicLine p1 N M Q2) : W_m_readRepublicLine p1 N M Q3 := by
  unfold W_m_readRepublicLine at h1 h2 ⊢
  refine ⟨fun hc => ?_, fun hc => ?_⟩
  · replace h1 := h1.1 hc
    replace h2 := h2.1 hc
    exact hQ _ _ h1 h2
  · replace h1 := h1.2 hc
    replace h2 := h2.2 hc
    refine and_m_isWord (fun r2 h1 h2 => ?_) h1 h2
    refine ⟨fun hc => ?_, fun hc => ?_⟩
    · replace h1 := h1.1 hc
      replace h2 := h2.1 hc
      refine and_m_isWord (fun r5 h1 h2 => ?_) h1 h2
      refine ⟨fun hc => ?_, fun hc => ?_⟩
      · replace h1 := h1.1 hc
        replace h2 := h2.1 hc
        refine and_m_isWord (fun r8 h1 h2 => ?_) h1 h2
        refine ⟨fun hc => ?_, fun hc => ?_⟩
        · replace h1 := h1.1 hc
          replace h2 := h2.1 hc
          refine and_m_isWord (fun r11 h1 h2 => ?_) h1 h2
          refine ⟨fun hc => ?_, fun hc => ?_⟩
          · replace h1 := h1.1 hc
            replace h2 := h2.1 hc
            refine and_m_isWord (fun r14 h1 h2 => ?_) h1 h2
            refine ⟨fun hc => ?_, fun hc => ?_⟩
            · replace h1 := h1.1 hc
              replace h2 := h2.1 hc
              refine and_m_isWord (fun r17 h1 h2 => ?_) h1 h2
              refine ⟨fun hc => ?_, fun hc => ?_⟩
              · replace h1 := h1.1 hc
                replace h2 := h2.1 hc
                exact hQ _ _ h1 h2
              · replace h1 := h1.2 hc
                replace h2 := h2.2 hc
                refine and_m_number (fun r20 M21 h1 h2 => ?_) h1 h2
                refine ⟨fun hc => ?_, fun hc => ?_⟩
                · replace h1 := h1.1 hc
                  replace h2 := h2.1 hc
                  exact hQ _ _ h1 h2
                · replace h1 := h1.2 hc
                  replace h2 := h2.2 hc
                  refine and_m_readNumber (fun r23 M24 h1 h2 => ?_) h1 h2
                  refine ⟨fun hc => ?_, fun hc => ?_⟩
                  · replace h1 := h1.1 hc
                    replace h2 := h2.1 hc
                    exact hQ _ _ h1 h2
                  · replace h1 := h1.2 hc
                    replace h2 := h2.2 hc
                    exact hQ _ _ h1 h2
            · replace h1 := h1.2 hc
              replace h2 := h2.2 hc
              refine and_m_readSeen (fun r26 M27 h1 h2 => ?_) h1 h2
              exact hQ _ _ h1 h2
          · replace h1 := h1.2 hc
            replace h2 := h2.2 hc
            refine and_m_readWed (fun r28 M29 h1 h2 => ?_) h1 h2
            exact hQ _ _ h1 h2
        · replace h1 := h1.2 hc
          replace h2 := h2.2 hc
          refine and_m_readNumber (fun r30 M31 h1 h2 => ?_) h1 h2
          exact hQ _ _ h1 h2
      · replace h1 := h1.2 hc
        replace h2 := h2.2 hc
        refine and_m_readNumber (fun r32 M33 h1 h2 => ?_) h1 h2
        exact hQ _ _ h1 h2
    · replace h1 := h1.2 hc
      replace h2 := h2.2 hc
      refine and_m_readCitizen (fun r34 M35 h1 h2 => ?_) h1 h2
      exact hQ _ _ h1 h2
theorem and_m_readLine {p1 : Int32} {p2 : Int32} {N : Nat} {M : MM} {Q1 Q2 Q3 : Int32 → MM → Prop} (hQ : ∀ (r : Int32) (M1 : MM), Q1 r M1 → Q2 r M1 → Q3 r M1) (h1 : W_m_readLine p1 p2 N M Q1) (h2 : W_m_readLine p1 p2 N M Q2) : W_m_readLine p1 p2 N M Q3 := by
  unfold W_m_readLine at h1 h2 ⊢
  refine and_m_letters (fun M2 h1 h2 => ?_) h1 h2
  refine ⟨fun hc => ?_, fun hc => ?_⟩
  · replace h1 := h1.1 hc
    replace h2 := h2.1 hc
    refine and_m_readRepublicLine (fun r4 M5 h1 h2 => ?_) h1 h2
    exact hQ _ _ h1 h2
  · replace h1 := h1.2 hc
    replace h2 := h2.2 hc
    refine and_m_readClause (fun r6 M7 h1 h2 => ?_) h1 h2
    exact hQ _ _ h1 h2
theorem and_m_readAll_28 {p1 : Int32} {Q1 Q2 Q3 : Int32 → MM → Prop} (hQ : ∀ (r : Int32) (M1 : MM), Q1 r M1 → Q2 r M1 → Q3 r M1) : ∀ (N : Nat) (v2 : Int32) (M : MM), W_m_readAll_28 p1 Q1 N v2 M → W_m_readAll_28 p1 Q2 N v2 M → W_m_readAll_28 p1 Q3 N v2 M := by
  intro N
  induction N with
  | zero => intros; trivial
  | succ N IH =>
    intro v2 M h1 h2
    replace h1 : B_m_readAll_28 p1 Q1 N (W_m_readAll_28 p1 Q1 N) v2 M := h1
    replace h2 : B_m_readAll_28 p1 Q2 N (W_m_readAll_28 p1 Q2 N) v2 M := h2
    show B_m_readAll_28 p1 Q3 N (W_m_readAll_28 p1 Q3 N) v2 M
    unfold B_m_readAll_28 at h1 h2 ⊢
    refine and_m_readLine (fun r6 M7 h1 h2 => ?_) h1 h2
    refine ⟨fun hc => ?_, fun hc => ?_⟩
    · replace h1 := h1.1 hc
      replace h2 := h2.1 hc
      exact hQ _ _ h1 h2
    · replace h1 := h1.2 hc
      replace h2 := h2.2 hc
      refine and_m_blanks (fun M10 h1 h2 => ?_) h1 h2
      refine ⟨fun hc => ?_, fun hc => ?_⟩
      · replace h1 := h1.1 hc
        replace h2 := h2.1 hc
        exact hQ _ _ h1 h2
      · replace h1 := h1.2 hc
        replace h2 := h2.2 hc
        refine ⟨fun hc => ?_, fun hc => ?_⟩
        · replace h1 := h1.1 hc
          replace h2 := h2.1 hc
          exact hQ _ _ h1 h2
        · replace h1 := h1.2 hc
          replace h2 := h2.2 hc
          exact IH _ _ h1 h2
theorem and_m_readAll {p1 : Int32} {N : Nat} {M : MM} {Q1 Q2 Q3 : Int32 → MM → Prop} (hQ : ∀ (r : Int32) (M1 : MM), Q1 r M1 → Q2 r M1 → Q3 r M1) (h1 : W_m_readAll p1 N M Q1) (h2 : W_m_readAll p1 N M Q2) : W_m_readAll p1 N M Q3 := by
  unfold W_m_readAll at h1 h2 ⊢
  refine and_m_uses (fun M2 h1 h2 => ?_) h1 h2
  refine and_m_blanks (fun M4 h1 h2 => ?_) h1 h2
  refine ⟨fun hc => ?_, fun hc => ?_⟩
  · replace h1 := h1.1 hc
    replace h2 := h2.1 hc
    exact hQ _ _ h1 h2
  · replace h1 := h1.2 hc
    replace h2 := h2.2 hc
    refine and_m_readAll_28  hQ N _ _ h1 h2
