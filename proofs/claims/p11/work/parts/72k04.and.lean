/-! TWO ENDS AT ONCE (gw.py) -/
theorem and_m_code_2  {k29a k29b k29c : MM → Prop} {Q1 Q2 Q3 : Int32 → MM → Prop} (hk29 : ∀  (M : MM), k29a M → k29b M → k29c M) (hQ : ∀ (r : Int32) (M1 : MM), Q1 r M1 → Q2 r M1 → Q3 r M1) : ∀ (N : Nat) (v1 : Int32) (M : MM), W_m_code_2 k29a Q1 N v1 M → W_m_code_2 k29b Q2 N v1 M → W_m_code_2 k29c Q3 N v1 M := by
  intro N
  induction N with
  | zero => intros; trivial
  | succ N IH =>
    intro v1 M h1 h2
    replace h1 : B_m_code_2 k29a Q1 N (W_m_code_2 k29a Q1 N) v1 M := h1
    replace h2 : B_m_code_2 k29b Q2 N (W_m_code_2 k29b Q2 N) v1 M := h2
    show B_m_code_2 k29c Q3 N (W_m_code_2 k29c Q3 N) v1 M
    unfold B_m_code_2 at h1 h2 ⊢
    refine ⟨fun hc => ?_, fun hc => ?_⟩
    · replace h1 := h1.1 hc
      replace h2 := h2.1 hc
      exact IH _ _ h1 h2
    · replace h1 := h1.2 hc
      replace h2 := h2.2 hc
      exact hk29 _ h1 h2
theorem and_m_code_31  {k58a k58b k58c : MM → Prop} {Q1 Q2 Q3 : Int32 → MM → Prop} (hk58 : ∀  (M : MM), k58a M → k58b M → k58c M) (hQ : ∀ (r : Int32) (M1 : MM), Q1 r M1 → Q2 r M1 → Q3 r M1) : ∀ (N : Nat) (v1 : Int32) (M : MM), W_m_code_31 k58a Q1 N v1 M → W_m_code_31 k58b Q2 N v1 M → W_m_code_31 k58c Q3 N v1 M := by
  intro N
  induction N with
  | zero => intros; trivial
  | succ N IH =>
    intro v1 M h1 h2
    replace h1 : B_m_code_31 k58a Q1 N (W_m_code_31 k58a Q1 N) v1 M := h1
    replace h2 : B_m_code_31 k58b Q2 N (W_m_code_31 k58b Q2 N) v1 M := h2
    show B_m_code_31 k58c Q3 N (W_m_code_31 k58c Q3 N) v1 M
    unfold B_m_code_31 at h1 h2 ⊢
    refine ⟨fun hc => ?_, fun hc => ?_⟩
    · replace h1 := h1.1 hc
      replace h2 := h2.1 hc
      exact IH _ _ h1 h2
    · replace h1 := h1.2 hc
      replace h2 := h2.2 hc
      exact hk58 _ h1 h2
theorem and_m_code_126  {k153a k153b k153c : MM → Prop} {Q1 Q2 Q3 : Int32 → MM → Prop} (hk153 : ∀  (M : MM), k153a M → k153b M → k153c M) (hQ : ∀ (r : Int32) (M1 : MM), Q1 r M1 → Q2 r M1 → Q3 r M1) : ∀ (N : Nat) (v2 : Int32) (M : MM), W_m_code_126 k153a Q1 N v2 M → W_m_code_126 k153b Q2 N v2 M → W_m_code_126 k153c Q3 N v2 M := by
  intro N
  induction N with
  | zero => intros; trivial
  | succ N IH =>
    intro v2 M h1 h2
    replace h1 : B_m_code_126 k153a Q1 N (W_m_code_126 k153a Q1 N) v2 M := h1
    replace h2 : B_m_code_126 k153b Q2 N (W_m_code_126 k153b Q2 N) v2 M := h2
    show B_m_code_126 k153c Q3 N (W_m_code_126 k153c Q3 N) v2 M
    unfold B_m_code_126 at h1 h2 ⊢
    refine ⟨fun hc => ?_, fun hc => ?_⟩
    · replace h1 := h1.1 hc
      replace h2 := h2.1 hc
      exact IH _ _ h1 h2
    · replace h1 := h1.2 hc
      replace h2 := h2.2 hc
      exact hk153 _ h1 h2
theorem and_m_code_155  {Q1 Q2 Q3 : Int32 → MM → Prop} (hQ : ∀ (r : Int32) (M1 : MM), Q1 r M1 → Q2 r M1 → Q3 r M1) : ∀ (N : Nat) (v2 : Int32) (M : MM), W_m_code_155 Q1 N v2 M → W_m_code_155 Q2 N v2 M → W_m_code_155 Q3 N v2 M := by
  intro N
  induction N with
  | zero => intros; trivial
  | succ N IH =>
    intro v2 M h1 h2
    replace h1 : B_m_code_155 Q1 N (W_m_code_155 Q1 N) v2 M := h1
    replace h2 : B_m_code_155 Q2 N (W_m_code_155 Q2 N) v2 M := h2
    show B_m_code_155 Q3 N (W_m_code_155 Q3 N) v2 M
    unfold B_m_code_155 at h1 h2 ⊢
    refine ⟨fun hc => ?_, fun hc => ?_⟩
    · replace h1 := h1.1 hc
      replace h2 := h2.1 hc
      exact IH _ _ h1 h2
    · replace h1 := h1.2 hc
      replace h2 := h2.2 hc
      exact hQ _ _ h1 h2
theorem and_m_code  {N : Nat} {M : MM} {Q1 Q2 Q3 : Int32 → MM → Prop} (hQ : ∀ (r : Int32) (M1 : MM), Q1 r M1 → Q2 r M1 → Q3 r M1) (h1 : W_m_code  N M Q1) (h2 : W_m_code  N M Q2) : W_m_code  N M Q3 := by
  unfold W_m_code at h1 h2 ⊢
  refine and_m_code_2 (fun M2 h1 h2 => ?_) hQ N _ _ h1 h2
  · refine and_m_code_31 (fun M4 h1 h2 => ?_) hQ N _ _ h1 h2
    · refine and_m_readAll (fun r5 M6 h1 h2 => ?_) h1 h2
      refine ⟨fun hc => ?_, fun hc => ?_⟩
      · replace h1 := h1.1 hc
        replace h2 := h2.1 hc
        refine ⟨fun hc => ?_, fun hc => ?_⟩
        · replace h1 := h1.1 hc
          replace h2 := h2.1 hc
          refine and_m_throwsIf (fun r9 M10 h1 h2 => ?_) h1 h2
          refine ⟨fun hc => ?_, fun hc => ?_⟩
          · replace h1 := h1.1 hc
            replace h2 := h2.1 hc
            refine ⟨fun hc => ?_, fun hc => ?_⟩
            · replace h1 := h1.1 hc
              replace h2 := h2.1 hc
              refine ⟨fun hc => ?_, fun hc => ?_⟩
              · replace h1 := h1.1 hc
                replace h2 := h2.1 hc
                refine and_m_throwsIf (fun r14 M15 h1 h2 => ?_) h1 h2
                refine ⟨fun hc => ?_, fun hc => ?_⟩
                · replace h1 := h1.1 hc
                  replace h2 := h2.1 hc
                  exact hQ _ _ h1 h2
                · replace h1 := h1.2 hc
                  replace h2 := h2.2 hc
                  refine and_m_code_126 (fun M18 h1 h2 => ?_) hQ N _ _ h1 h2
                  · refine and_m_code_155  hQ N _ _ h1 h2
              · replace h1 := h1.2 hc
                replace h2 := h2.2 hc
                refine and_m_throwsIf (fun r20 M21 h1 h2 => ?_) h1 h2
                refine ⟨fun hc => ?_, fun hc => ?_⟩
                · replace h1 := h1.1 hc
                  replace h2 := h2.1 hc
                  exact hQ _ _ h1 h2
                · replace h1 := h1.2 hc
                  replace h2 := h2.2 hc
                  refine and_m_code_126 (fun M23 h1 h2 => ?_) hQ N _ _ h1 h2
                  · refine and_m_code_155  hQ N _ _ h1 h2
            · replace h1 := h1.2 hc
              replace h2 := h2.2 hc
              refine and_m_throwsIf (fun r24 M25 h1 h2 => ?_) h1 h2
              refine ⟨fun hc => ?_, fun hc => ?_⟩
              · replace h1 := h1.1 hc
                replace h2 := h2.1 hc
                exact hQ _ _ h1 h2
              · replace h1 := h1.2 hc
                replace h2 := h2.2 hc
                refine and_m_code_126 (fun M27 h1 h2 => ?_) hQ N _ _ h1 h2
                · refine and_m_code_155  hQ N _ _ h1 h2
          · replace h1 := h1.2 hc
            replace h2 := h2.2 hc
            refine and_m_code_126 (fun M28 h1 h2 => ?_) hQ N _ _ h1 h2
            · refine and_m_code_155  hQ N _ _ h1 h2
        · replace h1 := h1.2 hc
          replace h2 := h2.2 hc
          refine and_m_throwsIf (fun r29 M30 h1 h2 => ?_) h1 h2
          refine ⟨fun hc => ?_, fun hc => ?_⟩
          · replace h1 := h1.1 hc
            replace h2 := h2.1 hc
            refine ⟨fun hc => ?_, fun hc => ?_⟩
            · replace h1 := h1.1 hc
              replace h2 := h2.1 hc
              refine ⟨fun hc => ?_, fun hc => ?_⟩
              · replace h1 := h1.1 hc
                replace h2 := h2.1 hc
                refine and_m_throwsIf (fun r34 M35 h1 h2 => ?_) h1 h2
                refine ⟨fun hc => ?_, fun hc => ?_⟩
                · replace h1 := h1.1 hc
                  replace h2 := h2.1 hc
                  exact hQ _ _ h1 h2
                · replace h1 := h1.2 hc
                  replace h2 := h2.2 hc
                  refine and_m_code_126 (fun M37 h1 h2 => ?_) hQ N _ _ h1 h2
                  · refine and_m_code_155  hQ N _ _ h1 h2
              · replace h1 := h1.2 hc
                replace h2 := h2.2 hc
                refine and_m_throwsIf (fun r38 M39 h1 h2 => ?_) h1 h2
                refine ⟨fun hc => ?_, fun hc => ?_⟩
                · replace h1 := h1.1 hc
                  replace h2 := h2.1 hc
                  exact hQ _ _ h1 h2
                · replace h1 := h1.2 hc
                  replace h2 := h2.2 hc
                  refine and_m_code_126 (fun M41 h1 h2 => ?_) hQ N _ _ h1 h2
                  · refine and_m_code_155  hQ N _ _ h1 h2
            · replace h1 := h1.2 hc
              replace h2 := h2.2 hc
              refine and_m_throwsIf (fun r42 M43 h1 h2 => ?_) h1 h2
              refine ⟨fun hc => ?_, fun hc => ?_⟩
              · replace h1 := h1.1 hc
                replace h2 := h2.1 hc
                exact hQ _ _ h1 h2
              · replace h1 := h1.2 hc
                replace h2 := h2.2 hc
                refine and_m_code_126 (fun M45 h1 h2 => ?_) hQ N _ _ h1 h2
                · refine and_m_code_155  hQ N _ _ h1 h2
          · replace h1 := h1.2 hc
            replace h2 := h2.2 hc
            refine and_m_code_126 (fun M46 h1 h2 => ?_) hQ N _ _ h1 h2
            · refine and_m_code_155  hQ N _ _ h1 h2
      · replace h1 := h1.2 hc
        replace h2 := h2.2 hc
        refine ⟨fun hc => ?_, fun hc => ?_⟩
        · replace h1 := h1.1 hc
          replace h2 := h2.1 hc
          refine and_m_throwsIf (fun r48 M49 h1 h2 => ?_) h1 h2
          refine ⟨fun hc => ?_, fun hc => ?_⟩
          · replace h1 := h1.1 hc
            replace h2 := h2.1 hc
            refine ⟨fun hc => ?_, fun hc => ?_⟩
            · replace h1 := h1.1 hc
              replace h2 := h2.1 hc
              refine ⟨fun hc => ?_, fun hc => ?_⟩
              · replace h1 := h1.1 hc
                replace h2 := h2.1 hc
                refine and_m_throwsIf (fun r53 M54 h1 h2 => ?_) h1 h2
                refine ⟨fun hc => ?_, fun hc => ?_⟩
                · replace h1 := h1.1 hc
                  replace h2 := h2.1 hc
                  exact hQ _ _ h1 h2
                · replace h1 := h1.2 hc
                  replace h2 := h2.2 hc
                  refine and_m_code_126 (fun M56 h1 h2 => ?_) hQ N _ _ h1 h2
                  · refine and_m_code_155  hQ N _ _ h1 h2
              · replace h1 := h1.2 hc
                replace h2 := h2.2 hc
                refine and_m_throwsIf (fun r57 M58 h1 h2 => ?_) h1 h2
                refine ⟨fun hc => ?_, fun hc => ?_⟩
                · replace h1 := h1.1 hc
                  replace h2 := h2.1 hc
                  exact hQ _ _ h1 h2
                · replace h1 := h1.2 hc
                  replace h2 := h2.2 hc
                  refine and_m_code_126 (fun M60 h1 h2 => ?_) hQ N _ _ h1 h2
                  · refine and_m_code_155  hQ N _ _ h1 h2
            · replace h1 := h1.2 hc
              replace h2 := h2.2 hc
              refine and_m_throwsIf (fun r61 M62 h1 h2 => ?_) h1 h2
              refine ⟨fun hc => ?_, fun hc => ?_⟩
              · replace h1 := h1.1 hc
                replace h2 := h2.1 hc
                exact hQ _ _ h1 h2
              · replace h1 := h1.2 hc
                replace h2 := h2.2 hc
                refine and_m_code_126 (fun M64 h1 h2 => ?_) hQ N _ _ h1 h2
                · refine and_m_code_155  hQ N _ _ h1 h2
          · replace h1 := h1.2 hc
            replace h2 := h2.2 hc
            refine and_m_code_126 (fun M65 h1 h2 => ?_) hQ N _ _ h1 h2
            · refine and_m_code_155  hQ N _ _ h1 h2
        · replace h1 := h1.2 hc
          replace h2 := h2.2 hc
          refine and_m_throwsIf (fun r66 M67 h1 h2 => ?_) h1 h2
          refine ⟨fun hc => ?_, fun hc => ?_⟩
          · replace h1 := h1.1 hc
            replace h2 := h2.1 hc
            refine ⟨fun hc => ?_, fun hc => ?_⟩
            · replace h1 := h1.1 hc
              replace h2 := h2.1 hc
              refine ⟨fun hc => ?_, fun hc => ?_⟩
              · replace h1 := h1.1 hc
                replace h2 := h2.1 hc
                refine and_m_throwsIf (fun r71 M72 h1 h2 => ?_) h1 h2
                refine ⟨fun hc => ?_, fun hc => ?_⟩
                · replace h1 := h1.1 hc
                  replace h2 := h2.1 hc
                  exact hQ _ _ h1 h2
                · replace h1 := h1.2 hc
                  replace h2 := h2.2 hc
                  refine and_m_code_126 (fun M74 h1 h2 => ?_) hQ N _ _ h1 h2
                  · refine and_m_code_155  hQ N _ _ h1 h2
              · replace h1 := h1.2 hc
                replace h2 := h2.2 hc
                refine and_m_throwsIf (fun r75 M76 h1 h2 => ?_) h1 h2
                refine ⟨fun hc => ?_, fun hc => ?_⟩
                · replace h1 := h1.1 hc
                  replace h2 := h2.1 hc
                  exact hQ _ _ h1 h2
                · replace h1 := h1.2 hc
                  replace h2 := h2.2 hc
                  refine and_m_code_126 (fun M78 h1 h2 => ?_) hQ N _ _ h1 h2
                  · refine and_m_code_155  hQ N _ _ h1 h2
            · replace h1 := h1.2 hc
              replace h2 := h2.2 hc
              refine and_m_throwsIf (fun r79 M80 h1 h2 => ?_) h1 h2
              refine ⟨fun hc => ?_, fun hc => ?_⟩
              · replace h1 := h1.1 hc
                replace h2 := h2.1 hc
                exact hQ _ _ h1 h2
              · replace h1 := h1.2 hc
                replace h2 := h2.2 hc
                refine and_m_code_126 (fun M82 h1 h2 => ?_) hQ N _ _ h1 h2
                · refine and_m_code_155  hQ N _ _ h1 h2
          · replace h1 := h1.2 hc
            replace h2 := h2.2 hc
            refine and_m_code_126 (fun M83 h1 h2 => ?_) hQ N _ _ h1 h2
            · refine and_m_code_155  hQ N _ _ h1 h2
theorem and_m_republic  {N : Nat} {M : MM} {Q1 Q2 Q3 : Int32 → MM → Prop} (hQ : ∀ (r : Int32) (M1 : MM), Q1 r M1 → Q2 r M1 → Q3 r M1) (h1 : W_m_republic  N M Q1) (h2 : W_m_republic  N M Q2) : W_m_republic  N M Q3 := by
  unfold W_m_republic at h1 h2 ⊢
  refine and_m_likens (fun M2 h1 h2 => ?_) h1 h2
  refine and_m_likensSeen (fun M4 h1 h2 => ?_) h1 h2
  refine and_m_readAll (fun r5 M6 h1 h2 => ?_) h1 h2
  refine ⟨fun hc => ?_, fun hc => ?_⟩
  · replace h1 := h1.1 hc
    replace h2 := h2.1 hc
    refine ⟨fun hc => ?_, fun hc => ?_⟩
    · replace h1 := h1.1 hc
      replace h2 := h2.1 hc
      refine and_m_throwsIf (fun r9 M10 h1 h2 => ?_) h1 h2
      refine ⟨fun hc => ?_, fun hc => ?_⟩
      · replace h1 := h1.1 hc
        replace h2 := h2.1 hc
        refine ⟨fun hc => ?_, fun hc => ?_⟩
        · replace h1 := h1.1 hc
          replace h2 := h2.1 hc
          refine and_m_throwsIf (fun r13 M14 h1 h2 => ?_) h1 h2
          refine ⟨fun hc => ?_, fun hc => ?_⟩
          · replace h1 := h1.1 hc
            replace h2 := h2.1 hc
            exact hQ _ _ h1 h2
          · replace h1 := h1.2 hc
            replace h2 := h2.2 hc
            refine and_m_likens (fun M17 h1 h2 => ?_) h1 h2
            refine and_m_likensSeen (fun M19 h1 h2 => ?_) h1 h2
            exact hQ _ _ h1 h2
        · replace h1 := h1.2 hc
          replace h2 := h2.2 hc
          refine and_m_throwsIf (fun r20 M21 h1 h2 => ?_) h1 h2
          refine ⟨fun hc => ?_, fun hc => ?_⟩
          · replace h1 := h1.1 hc
            replace h2 := h2.1 hc
            exact hQ _ _ h1 h2
          · replace h1 := h1.2 hc
            replace h2 := h2.2 hc
            refine and_m_likens (fun M24 h1 h2 => ?_) h1 h2
            refine and_m_likensSeen (fun M26 h1 h2 => ?_) h1 h2
            exact hQ _ _ h1 h2
      · replace h1 := h1.2 hc
        replace h2 := h2.2 hc
        refine and_m_likens (fun M28 h1 h2 => ?_) h1 h2
        refine and_m_likensSeen (fun M30 h1 h2 => ?_) h1 h2
        exact hQ _ _ h1 h2
    · replace h1 := h1.2 hc
      replace h2 := h2.2 hc
      refine and_m_throwsIf (fun r31 M32 h1 h2 => ?_) h1 h2
      refine ⟨fun hc => ?_, fun hc => ?_⟩
      · replace h1 := h1.1 hc
        replace h2 := h2.1 hc
        refine ⟨fun hc => ?_, fun hc => ?_⟩
        · replace h1 := h1.1 hc
          replace h2 := h2.1 hc
          refine and_m_throwsIf (fun r35 M36 h1 h2 => ?_) h1 h2
          refine ⟨fun hc => ?_, fun hc => ?_⟩
          · replace h1 := h1.1 hc
            replace h2 := h2.1 hc
            exact hQ _ _ h1 h2
          · replace h1 := h1.2 hc
            replace h2 := h2.2 hc
            refine and_m_likens (fun M39 h1 h2 => ?_) h1 h2
            refine and_m_likensSeen (fun M41 h1 h2 => ?_) h1 h2
            exact hQ _ _ h1 h2
        · replace h1 := h1.2 hc
          replace h2 := h2.2 hc
          refine and_m_throwsIf (fun r42 M43 h1 h2 => ?_) h1 h2
          refine ⟨fun hc => ?_, fun hc => ?_⟩
          · replace h1 := h1.1 hc
            replace h2 := h2.1 hc
            exact hQ _ _ h1 h2
          · replace h1 := h1.2 hc
            replace h2 := h2.2 hc
            refine and_m_likens (fun M46 h1 h2 => ?_) h1 h2
            refine and_m_likensSeen (fun M48 h1 h2 => ?_) h1 h2
            exact hQ _ _ h1 h2
      · replace h1 := h1.2 hc
        replace h2 := h2.2 hc
        refine and_m_likens (fun M50 h1 h2 => ?_) h1 h2
        refine and_m_likensSeen (fun M52 h1 h2 => ?_) h1 h2
        exact hQ _ _ h1 h2
  · replace h1 := h1.2 hc
    replace h2 := h2.2 hc
    refine ⟨fun hc => ?_, fun hc => ?_⟩
    · replace h1 := h1.1 hc
      replace h2 := h2.1 hc
      refine and_m_throwsIf (fun r54 M55 h1 h2 => ?_) h1 h2
      refine ⟨fun hc => ?_, fun hc => ?_⟩
      · replace h1 := h1.1 hc
        replace h2 := h2.1 hc
        refine ⟨fun hc => ?_, fun hc => ?_⟩
        · replace h1 := h1.1 hc
          replace h2 := h2.1 hc
          refine and_m_throwsIf (fun r58 M59 h1 h2 => ?_) h1 h2
          refine ⟨fun hc => ?_, fun hc => ?_⟩
          · replace h1 := h1.1 hc
            replace h2 := h2.1 hc
            exact hQ _ _ h1 h2
          · replace h1 := h1.2 hc
            replace h2 := h2.2 hc
            refine and_m_likens (fun M62 h1 h2 => ?_) h1 h2
            refine and_m_likensSeen (fun M64 h1 h2 => ?_) h1 h2
            exact hQ _ _ h1 h2
        · replace h1 := h1.2 hc
          replace h2 := h2.2 hc
          refine and_m_throwsIf (fun r65 M66 h1 h2 => ?_) h1 h2
          refine ⟨fun hc => ?_, fun hc => ?_⟩
          · replace h1 := h1.1 hc
            replace h2 := h2.1 hc
            exact hQ _ _ h1 h2
          · replace h1 := h1.2 hc
            replace h2 := h2.2 hc
            refine and_m_likens (fun M69 h1 h2 => ?_) h1 h2
            refine and_m_likensSeen (fun M71 h1 h2 => ?_) h1 h2
            exact hQ _ _ h1 h2
      · replace h1 := h1.2 hc
        replace h2 := h2.2 hc
        refine and_m_likens (fun M73 h1 h2 => ?_) h1 h2
        refine and_m_likensSeen (fun M75 h1 h2 => ?_) h1 h2
        exact hQ _ _ h1 h2
    · replace h1 := h1.2 hc
      replace h2 := h2.2 hc
      refine and_m_throwsIf (fun r76 M77 h1 h2 => ?_) h1 h2
      refine ⟨fun hc => ?_, fun hc => ?_⟩
      · replace h1 := h1.1 hc
        replace h2 := h2.1 hc
        refine ⟨fun hc => ?_, fun hc => ?_⟩
        · replace h1 := h1.1 hc
          replace h2 := h2.1 hc
          refine and_m_throwsIf (fun r80 M81 h1 h2 => ?_) h1 h2
          refine ⟨fun hc => ?_, fun hc => ?_⟩
          · replace h1 := h1.1 hc
            replace h2 := h2.1 hc
            exact hQ _ _ h1 h2
          · replace h1 := h1.2 hc
            replace h2 := h2.2 hc
            refine and_m_likens (fun M84 h1 h2 => ?_) h1 h2
            refine and_m_likensSeen (fun M86 h1 h2 => ?_) h1 h2
            exact hQ _ _ h1 h2
        · replace h1 := h1.2 hc
          replace h2 := h2.2 hc
          refine and_m_throwsIf (fun r87 M88 h1 h2 => ?_) h1 h2
          refine ⟨fun hc => ?_, fun hc => ?_⟩
          · replace h1 := h1.1 hc
            replace h2 := h2.1 hc
            exact hQ _ _ h1 h2
          · replace h1 := h1.2 hc
            replace h2 := h2.2 hc
            refine and_m_likens (fun M91 h1 h2 => ?_) h1 h2
            refine and_m_likensSeen (fun M93 h1 h2 => ?_) h1 h2
            exact hQ _ _ h1 h2
      · replace h1 := h1.2 hc
        replace h2 := h2.2 hc
        refine and_m_likens (fun M95 h1 h2 => ?_) h1 h2
        refine and_m_likensSeen (fun M97 h1 h2 => ?_) h1 h2
        exact hQ _ _ h1 h2
theorem and_m_isOf_29 {p1 : Int32} {p2 : Int32} {p3 : Int32} {p4 : Int32} {Q1 Q2 Q3 : Int32 → MM → Prop} (hQ : ∀ (r : Int32) (M1 : MM), Q1 r M1 → Q2 r M1 → Q3 r M1) : ∀ (N : Nat) (v5 : Int32) (v6 : Int32) (M : MM), W_m_isOf_29 p1 p2 p3 p4 Q1 N v5 v6 M → W_m_isOf_29 p1 p2 p3 p4 Q2 N v5 v6 M → W_m_isOf_29 p1 p2 p3 p4 Q3 N v5 v6 M := by
  intro N
  induction N with
  | zero => intros; trivial
  | succ N IH =>
    intro v5 v6 M h1 h2
    replace h1 : B_m_isOf_29 p1 p2 p3 p4 Q1 N (W_m_isOf_29 p1 p2 p3 p4 Q1 N) v5 v6 M := h1
    replace h2 : B_m_isOf_29 p1 p2 p3 p4 Q2 N (W_m_isOf_29 p1 p2 p3 p4 Q2 N) v5 v6 M := h2
    show B_m_isOf_29 p1 p2 p3 p4 Q3 N (W_m_isOf_29 p1 p2 p3 p4 Q3 N) v5 v6 M
    unfold B_m_isOf_29 at h1 h2 ⊢
    refine ⟨fun hc => ?_, fun hc => ?_⟩
    · replace h1 := h1.1 hc
      replace h2 := h2.1 hc
      refine ⟨fun hc => ?_, fun hc => ?_⟩
      · replace h1 := h1.1 hc
        replace h2 := h2.1 hc
        refine ⟨fun hc => ?_, fun hc => ?_⟩
        · replace h1 := h1.1 hc
          replace h2 := h2.1 hc
          exact IH _ _ _ h1 h2
        · replace h1 := h1.2 hc
          replace h2 := h2.2 hc
          refine ⟨fun hc => ?_, fun hc => ?_⟩
          · replace h1 := h1.1 hc
            replace h2 := h2.1 hc
            refine ⟨fun hc => ?_, fun hc => ?_⟩
            · replace h1 := h1.1 hc
              replace h2 := h2.1 hc
              refine ⟨fun hc => ?_, fun hc => ?_⟩
              · replace h1 := h1.1 hc
                replace h2 := h2.1 hc
                exact IH _ _ _ h1 h2
              · replace h1 := h1.2 hc
                replace h2 := h2.2 hc
                exact IH _ _ _ h1 h2
            · replace h1 := h1.2 hc
              replace h2 := h2.2 hc
              refine ⟨fun hc => ?_, fun hc => ?_⟩
              · replace h1 := h1.1 hc
                replace h2 := h2.1 hc
                exact IH _ _ _ h1 h2
              · replace h1 := h1.2 hc
                replace h2 := h2.2 hc
                exact IH _ _ _ h1 h2
          · replace h1 := h1.2 hc
            replace h2 := h2.2 hc
            refine ⟨fun hc => ?_, fun hc => ?_⟩
            · replace h1 := h1.1 hc
              replace h2 := h2.1 hc
              refine ⟨fun hc => ?_, fun hc => ?_⟩
              · replace h1 := h1.1 hc
                replace h2 := h2.1 hc
                refine ⟨fun hc => ?_, fun hc => ?_⟩
                · replace h1 := h1.1 hc
                  replace h2 := h2.1 hc
                  exact IH _ _ _ h1 h2
                · replace h1 := h1.2 hc
                  replace h2 := h2.2 hc
                  exact IH _ _ _ h1 h2
              · replace h1 := h1.2 hc
                replace h2 := h2.2 hc
                refine ⟨fun hc => ?_, fun hc => ?_⟩
                · replace h1 := h1.1 hc
                  replace h2 := h2.1 hc
                  exact IH _ _ _ h1 h2
                · replace h1 := h1.2 hc
                  replace h2 := h2.2 hc
                  exact IH _ _ _ h1 h2
            · replace h1 := h1.2 hc
              replace h2 := h2.2 hc
              refine ⟨fun hc => ?_, fun hc => ?_⟩
              · replace h1 := h1.1 hc
                replace h2 := h2.1 hc
                refine ⟨fun hc => ?_, fun hc => ?_⟩
                · replace h1 := h1.1 hc
                  replace h2 := h2.1 hc
                  refine ⟨fun hc => ?_, fun hc => ?_⟩
                  · replace h1 := h1.1 hc
                    replace h2 := h2.1 hc
                    exact IH _ _ _ h1 h2
                  · replace h1 := h1.2 hc
                    replace h2 := h2.2 hc
                    exact IH _ _ _ h1 h2
                · replace h1 := h1.2 hc
                  replace h2 := h2.2 hc
                  refine ⟨fun hc => ?_, fun hc => ?_⟩
                  · replace h1 := h1.1 hc
                    replace h2 := h2.1 hc
                    exact IH _ _ _ h1 h2
                  · replace h1 := h1.2 hc
                    replace h2 := h2.2 hc
                    exact IH _ _ _ h1 h2
              · replace h1 := h1.2 hc
                replace h2 := h2.2 hc
                refine ⟨fun hc => ?_, fun hc => ?_⟩
                · replace h1 := h1.1 hc
                  replace h2 := h2.1 hc
                  refine ⟨fun hc => ?_, fun hc => ?_⟩
                  · replace h1 := h1.1 hc
                    replace h2 := h2.1 hc
                    exact IH _ _ _ h1 h2
                  · replace h1 := h1.2 hc
                    replace h2 := h2.2 hc
                    exact IH _ _ _ h1 h2
                · replace h1 := h1.2 hc
                  replace h2 := h2.2 hc
                  refine ⟨fun hc => ?_, fun hc => ?_⟩
                  · replace h1 := h1.1 hc
                    replace h2 := h2.1 hc
                    exact IH _ _ _ h1 h2
                  · replace h1 := h1.2 hc
                    replace h2 := h2.2 hc
                    exact IH _ _ _ h1 h2
      · replace h1 := h1.2 hc
        replace h2 := h2.2 hc
        exact IH _ _ _ h1 h2
    · replace h1 := h1.2 hc
      replace h2 := h2.2 hc
      refine ⟨fun hc => ?_, fun hc => ?_⟩
      · replace h1 := h1.1 hc
        replace h2 := h2.1 hc
        exact hQ _ _ h1 h2
      · replace h1 := h1.2 hc
        replace h2 := h2.2 hc
        refine ⟨fun hc => ?_, fun hc => ?_⟩
        · replace h1 := h1.1 hc
          replace h2 := h2.1 hc
          exact hQ _ _ h1 h2
        · replace h1 := h1.2 hc
          replace h2 := h2.2 hc
          exact hQ _ _ h1 h2
theorem and_m_isOf {p1 : Int32} {p2 : Int32} {p3 : Int32} {p4 : Int32} {N : Nat} {M : MM} {Q1 Q2 Q3 : Int32 → MM → Prop} (hQ : ∀ (r : Int32) (M1 : MM), Q1 r M1 → Q2 r M1 → Q3 r M1) (h1 : W_m_isOf p1 p2 p3 p4 N M Q1) (h2 : W_m_isOf p1 p2 p3 p4 N M Q2) : W_m_isOf p1 p2 p3 p4 N M Q3 := by
  unfold W_m_isOf at h1 h2 ⊢
  refine ⟨fun hc => ?_, fun hc => ?_⟩
  · replace h1 := h1.1 hc
    replace h2 := h2.1 hc
    refine and_m_isOf_29  hQ N _ _ _ h1 h2
  · replace h1 := h1.2 hc
    replace h2 := h2.2 hc
    exact hQ _ _ h1 h2
theorem and_m_inForce_4 {M : MM} {Q1 Q2 Q3 : Int32 → Prop} (hQ : ∀ (r : Int32), Q1 r → Q2 r → Q3 r) : ∀ (N : Nat) (v1 : Int32) (v2 : Int32), W_m_inForce_4 M Q1 N v1 v2 → W_m_inForce_4 M Q2 N v1 v2 → W_m_inForce_4 M Q3 N v1 v2 := by
  intro N
  induction N with
  | zero => intros; trivial
  | succ N IH =>
    intro v1 v2 h1 h2
    replace h1 : B_m_inForce_4 M Q1 N (W_m_inForce_4 M Q1 N) v1 v2 := h1
    replace h2 : B_m_inForce_4 M Q2 N (W_m_inForce_4 M Q2 N) v1 v2 := h2
    show B_m_inForce_4 M Q3 N (W_m_inForce_4 M Q3 N) v1 v2
    unfold B_m_inForce_4 at h1 h2 ⊢
    refine ⟨fun hc => ?_, fun hc => ?_⟩
    · replace h1 := h1.1 hc
      replace h2 := h2.1 hc
      refine ⟨fun hc => ?_, fun hc => ?_⟩
      · replace h1 := h1.1 hc
        replace h2 := h2.1 hc
        exact IH _ _ h1 h2
      · replace h1 := h1.2 hc
        replace h2 := h2.2 hc
        exact IH _ _ h1 h2
    · replace h1 := h1.2 hc
      replace h2 := h2.2 hc
      exact hQ _ h1 h2
theorem and_m_inForce  {N : Nat} {M : MM} {Q1 Q2 Q3 : Int32 → Prop} (hQ : ∀ (r : Int32), Q1 r → Q2 r → Q3 r) (h1 : W_m_inForce  N M Q1) (h2 : W_m_inForce  N M Q2) : W_m_inForce  N M Q3 := by
  unfold W_m_inForce at h1 h2 ⊢
  refine and_m_inForce_4  hQ N _ _ h1 h2
theorem and_m_saying_6 {p1 : Int32} {p2 : Int32} {p3 : Int32} {p4 : Int32} {p5 : Int32} {Q1 Q2 Q3 : Int32 → MM → Prop} (hQ : ∀ (r : Int32) (M1 : MM), Q1 r M1 → Q2 r M1 → Q3 r M1) : ∀ (N : Nat) (v6 : Int32) (v7 : Int32) (M : MM), W_m_saying_6 p1 p2 p3 p4 p5 Q1 N v6 v7 M → W_m_saying_6 p1 p2 p3 p4 p5 Q2 N v6 v7 M → W_m_saying_6 p1 p2 p3 p4 p5 Q3 N v6 v7 M := by
  intro N
  induction N with
  | zero => intros; trivial
  | succ N IH =>
    intro v6 v7 M h1 h2
    replace h1 : B_m_saying_6 p1 p2 p3 p4 p5 Q1 N (W_m_saying_6 p1 p2 p3 p4 p5 Q1 N) v6 v7 M := h1
    replace h2 : B_m_saying_6 p1 p2 p3 p4 p5 Q2 N (W_m_saying_6 p1 p2 p3 p4 p5 Q2 N) v6 v7 M := h2
    show B_m_saying_6 p1 p2 p3 p4 p5 Q3 N (W_m_saying_6 p1 p2 p3 p4 p5 Q3 N) v6 v7 M
    unfold B_m_saying_6 at h1 h2 ⊢
    refine ⟨fun hc => ?_, fun hc => ?_⟩
    · replace h1 := h1.1 hc
      replace h2 := h2.1 hc
      refine ⟨fun hc => ?_, fun hc => ?_⟩
      · replace h1 := h1.1 hc
        replace h2 := h2.1 hc
        exact IH _ _ _ h1 h2
      · replace h1 := h1.2 hc
        replace h2 := h2.2 hc
        refine ⟨fun hc => ?_, fun hc => ?_⟩
        · replace h1 := h1.1 hc
          replace h2 := h2.1 hc
          refine and_m_isOf (fun r4 M5 h1 h2 => ?_) h1 h2
          refine ⟨fun hc => ?_, fun hc => ?_⟩
          · replace h1 := h1.1 hc
            replace h2 := h2.1 hc
            exact IH _ _ _ h1 h2
          · replace h1 := h1.2 hc
            replace h2 := h2.2 hc
            exact IH _ _ _ h1 h2
        · replace h1 := h1.2 hc
          replace h2 := h2.2 hc
          exact IH _ _ _ h1 h2
    · replace h1 := h1.2 hc
      replace h2 := h2.2 hc
      exact hQ _ _ h1 h2
theorem and_m_saying {p1 : Int32} {p2 : Int32} {p3 : Int32} {p4 : Int32} {p5 : Int32} {N : Nat} {M : MM} {Q1 Q2 Q3 : Int32 → MM → Prop} (hQ : ∀ (r : Int32) (M1 : MM), Q1 r M1 → Q2 r M1 → Q3 r M1) (h1 : W_m_saying p1 p2 p3 p4 p5 N M Q1) (h2 : W_m_saying p1 p2 p3 p4 p5 N M Q2) : W_m_saying p1 p2 p3 p4 p5 N M Q3 := by
  unfold W_m_saying at h1 h2 ⊢
  refine and_m_saying_6  hQ N _ _ _ h1 h2
theorem and_m_forbidding {p1 : Int32} {p2 : Int32} {p3 : Int32} {p4 : Int32} {N : Nat} {M : MM} {Q1 Q2 Q3 : Int32 → MM → Prop} (hQ : ∀ (r : Int32) (M1 : MM), Q1 r M1 → Q2 r M1 → Q3 r M1) (h1 : W_m_forbidding p1 p2 p3 p4 N M Q1) (h2 : W_m_forbidding p1 p2 p3 p4 N M Q2) : W_m_forbidding p1 p2 p3 p4 N M Q3 := by
  unfold W_m_forbidding at h1 h2 ⊢
  refine and_m_saying (fun r1 M2 h1 h2 => ?_) h1 h2
  exact hQ _ _ h1 h2
theorem and_m_forbidsNow {p1 : Int32} {p2 : Int32} {p3 : Int32} {N : Nat} {M : MM} {Q1 Q2 Q3 : Int32 → MM → Prop} (hQ : ∀ (r : Int32) (M1 : MM), Q1 r M1 → Q2 r M1 → Q3 r M1) (h1 : W_m_forbidsNow p1 p2 p3 N M Q1) (h2 : W_m_forbidsNow p1 p2 p3 N M Q2) : W_m_forbidsNow p1 p2 p3 N M Q3 := by
  unfold W_m_forbidsNow at h1 h2 ⊢
  refine and_m_forbidding (fun r1 M2 h1 h2 => ?_) h1 h2
  exact hQ _ _ h1 h2
theorem and_m_knowers_4 {p1 : Int32} {M : MM} {Q1 Q2 Q3 : Int32 → Prop} (hQ : ∀ (r : Int32), Q1 r → Q2 r → Q3 r) : ∀ (N : Nat) (v2 : Int32) (v3 : Int32), W_m_knowers_4 p1 M Q1 N v2 v3 → W_m_knowers_4 p1 M Q2 N v2 v3 → W_m_knowers_4 p1 M Q3 N v2 v3 := by
  intro N
  induction N with
  | zero => intros; trivial
  | succ N IH =>
    intro v2 v3 h1 h2
    replace h1 : B_m_knowers_4 p1 M Q1 N (W_m_knowers_4 p1 M Q1 N) v2 v3 := h1
    replace h2 : B_m_knowers_4 p1 M Q2 N (W_m_knowers_4 p1 M Q2 N) v2 v3 := h2
    show B_m_knowers_4 p1 M Q3 N (W_m_knowers_4 p1 M Q3 N) v2 v3
    unfold B_m_knowers_4 at h1 h2 ⊢
    refine ⟨fun hc => ?_, fun hc => ?_⟩
    · replace h1 := h1.1 hc
      replace h2 := h2.1 hc
      refine ⟨fun hc => ?_, fun hc => ?_⟩
      · replace h1 := h1.1 hc
        replace h2 := h2.1 hc
        exact IH _ _ h1 h2
      · replace h1 := h1.2 hc
        replace h2 := h2.2 hc
        refine ⟨fun hc => ?_, fun hc => ?_⟩
        · replace h1 := h1.1 hc
          replace h2 := h2.1 hc
          exact IH _ _ h1 h2
        · replace h1 := h1.2 hc
          replace h2 := h2.2 hc
          exact IH _ _ h1 h2
    · replace h1 := h1.2 hc
      replace h2 := h2.2 hc
      exact hQ _ h1 h2
theorem and_m_knowers {p1 : Int32} {N : Nat} {M : MM} {Q1 Q2 Q3 : Int32 → Prop} (hQ : ∀ (r : Int32), Q1 r → Q2 r → Q3 r) (h1 : W_m_knowers p1 N M Q1) (h2 : W_m_knowers p1 N M Q2) : W_m_knowers p1 N M Q3 := by
  unfold W_m_knowers at h1 h2 ⊢
  refine and_m_knowers_4  hQ N _ _ h1 h2
theorem and_m_alive_4 {M : MM} {Q1 Q2 Q3 : Int32 → Prop} (hQ : ∀ (r : Int32), Q1 r → Q2 r → Q3 r) : ∀ (N : Nat) (v1 : Int32) (v2 : Int32), W_m_alive_4 M Q1 N v1 v2 → W_m_alive_4 M Q2 N v1 v2 → W_m_alive_4 M Q3 N v1 v2 := by
  intro N
  induction N with
  | zero => intros; trivial
  | succ N IH =>
    intro v1 v2 h1 h2
    replace h1 : B_m_alive_4 M Q1 N (W_m_alive_4 M Q1 N) v1 v2 := h1
    replace h2 : B_m_alive_4 M Q2 N (W_m_alive_4 M Q2 N) v1 v2 := h2
    show B_m_alive_4 M Q3 N (W_m_alive_4 M Q3 N) v1 v2
    unfold B_m_alive_4 at h1 h2 ⊢
    refine ⟨fun hc => ?_, fun hc => ?_⟩
    · replace h1 := h1.1 hc
      replace h2 := h2.1 hc
      refine ⟨fun hc => ?_, fun hc => ?_⟩
      · replace h1 := h1.1 hc
        replace h2 := h2.1 hc
        exact IH _ _ h1 h2
      · replace h1 := h1.2 hc
        replace h2 := h2.2 hc
        exact IH _ _ h1 h2
    · replace h1 := h1.2 hc
      replace h2 := h2.2 hc
      exact hQ _ h1 h2
theorem and_m_alive  {N : Nat} {M : MM} {Q1 Q2 Q3 : Int32 → Prop} (hQ : ∀ (r : Int32), Q1 r → Q2 r → Q3 r) (h1 : W_m_alive  N M Q1) (h2 : W_m_alive  N M Q2) : W_m_alive  N M Q3 := by
  unfold W_m_alive at h1 h2 ⊢
  refine and_m_alive_4  hQ N _ _ h1 h2
theorem and_m_contradict_45 {p1 : Int32} {p2 : Int32} {u4 : Int32} {k128a k128b k128c : Int32 → MM → Prop} {Q1 Q2 Q3 : Int32 → MM → Prop} (hk128 : ∀ (v3 : Int32) (M : MM), k128a v3 M → k128b v3 M → k128c v3 M) (hQ : ∀ (r : Int32) (M1 : MM), Q1 r M1 → Q2 r M1 → Q3 r M1) : ∀ (N : Nat) (v3 : Int32) (v5 : Int32) (M : MM), W_m_contradict_45 p1 p2 u4 k128a Q1 N v3 v5 M → W_m_contradict_45 p1 p2 u4 k128b Q2 N v3 v5 M → W_m_contradict_45 p1 p2 u4 k128c Q3 N v3 v5 M := by
  intro N
  induction N with
  | zero => intros; trivial
  | succ N IH =>
    intro v3 v5 M h1 h2
    replace h1 : B_m_contradict_45 p1 p2 u4 k128a Q1 N (W_m_contradict_45 p1 p2 u4 k128a Q1 N) v3 v5 M := h1
    replace h2 : B_m_contradict_45 p1 p2 u4 k128b Q2 N (W_m_contradict_45 p1 p2 u4 k128b Q2 N) v3 v5 M := h2
    show B_m_contradict_45 p1 p2 u4 k128c Q3 N (W_m_contradict_45 p1 p2 u4 k128c Q3 N) v3 v5 M
    unfold B_m_contradict_45 at h1 h2 ⊢
    refine ⟨fun hc => ?_, fun hc => ?_⟩
    · replace h1 := h1.1 hc
      replace h2 := h2.1 hc
      refine ⟨fun hc => ?_, fun hc => ?_⟩
      · replace h1 := h1.1 hc
        replace h2 := h2.1 hc
        refine ⟨fun hc => ?_, fun hc => ?_⟩
        · replace h1 := h1.1 hc
          replace h2 := h2.1 hc
          exact IH _ _ _ h1 h2
        · replace h1 := h1.2 hc
          replace h2 := h2.2 hc
          refine and_m_isOf (fun r8 M9 h1 h2 => ?_) h1 h2
          refine ⟨fun hc => ?_, fun hc => ?_⟩
          · replace h1 := h1.1 hc
            replace h2 := h2.1 hc
            exact IH _ _ _ h1 h2
          · replace h1 := h1.2 hc
            replace h2 := h2.2 hc
            refine and_m_isOf (fun r11 M12 h1 h2 => ?_) h1 h2
            refine ⟨fun hc => ?_, fun hc => ?_⟩
            · replace h1 := h1.1 hc
              replace h2 := h2.1 hc
              exact IH _ _ _ h1 h2
            · replace h1 := h1.2 hc
              replace h2 := h2.2 hc
              exact IH _ _ _ h1 h2
      · replace h1 := h1.2 hc
        replace h2 := h2.2 hc
        exact IH _ _ _ h1 h2
    · replace h1 := h1.2 hc
      replace h2 := h2.2 hc
      exact hk128 _ _ h1 h2
theorem and_m_contradict_5 {p1 : Int32} {p2 : Int32} {Q1 Q2 Q3 : Int32 → MM → Prop} (hQ : ∀ (r : Int32) (M1 : MM), Q1 r M1 → Q2 r M1 → Q3 r M1) : ∀ (N : Nat) (v3 : Int32) (v4 : Int32) (M : MM), W_m_contradict_5 p1 p2 Q1 N v3 v4 M → W_m_contradict_5 p1 p2 Q2 N v3 v4 M → W_m_contradict_5 p1 p2 Q3 N v3 v4 M := by
  intro N
  induction N with
  | zero => intros; trivial
  | succ N IH =>
    intro v3 v4 M h1 h2
    replace h1 : B_m_contradict_5 p1 p2 Q1 N (W_m_contradict_5 p1 p2 Q1 N) v3 v4 M := h1
    replace h2 : B_m_contradict_5 p1 p2 Q2 N (W_m_contradict_5 p1 p2 Q2 N) v3 v4 M := h2
    show B_m_contradict_5 p1 p2 Q3 N (W_m_contradict_5 p1 p2 Q3 N) v3 v4 M
    unfold B_m_contradict_5 at h1 h2 ⊢
    refine ⟨fun hc => ?_, fun hc => ?_⟩
    · replace h1 := h1.1 hc
      replace h2 := h2.1 hc
      refine ⟨fun hc => ?_, fun hc => ?_⟩
      · replace h1 := h1.1 hc
        replace h2 := h2.1 hc
        refine ⟨fun hc => ?_, fun hc => ?_⟩
        · replace h1 := h1.1 hc
          replace h2 := h2.1 hc
          exact hQ _ _ h1 h2
        · replace h1 := h1.2 hc
          replace h2 := h2.2 hc
          refine ⟨fun hc => ?_, fun hc => ?_⟩
          · replace h1 := h1.1 hc
            replace h2 := h2.1 hc
            refine and_m_contradict_45 (fun x14 M15 h1 h2 => ?_) hQ N _ _ _ h1 h2
            · exact IH _ _ _ h1 h2
          · replace h1 := h1.2 hc
            replace h2 := h2.2 hc
            exact hQ _ _ h1 h2
      · replace h1 := h1.2 hc
        replace h2 := h2.2 hc
        exact hQ _ _ h1 h2
    · replace h1 := h1.2 hc
      replace h2 := h2.2 hc
      exact hQ _ _ h1 h2
theorem and_m_contradict {p1 : Int32} {p2 : Int32} {N : Nat} {M : MM} {Q1 Q2 Q3 : Int32 → MM → Prop} (hQ : ∀ (r : Int32) (M1 : MM), Q1 r M1 → Q2 r M1 → Q3 r M1) (h1 : W_m_contradict p1 p2 N M Q1) (h2 : W_m_contradict p1 p2 N M Q2) : W_m_contradict p1 p2 N M Q3 := by
  unfold W_m_contradict at h1 h2 ⊢
  refine and_m_contradict_5  hQ N _ _ _ h1 h2
theorem and_m_contradicting_4 {p1 : Int32} {Q1 Q2 Q3 : Int32 → MM → Prop} (hQ : ∀ (r : Int32) (M1 : MM), Q1 r M1 → Q2 r M1 → Q3 r M1) : ∀ (N : Nat) (v2 : Int32) (v3 : Int32) (M : MM), W_m_contradicting_4 p1 Q1 N v2 v3 M → W_m_contradicting_4 p1 Q2 N v2 v3 M → W_m_contradicting_4 p1 Q3 N v2 v3 M := by
  intro N
  induction N with
  | zero => intros; trivial
  | succ N IH =>
    intro v2 v3 M h1 h2
    replace h1 : B_m_contradicting_4 p1 Q1 N (W_m_contradicting_4 p1 Q1 N) v2 v3 M := h1
    replace h2 : B_m_contradicting_4 p1 Q2 N (W_m_contradicting_4 p1 Q2 N) v2 v3 M := h2
    show B_m_contradicting_4 p1 Q3 N (W_m_contradicting_4 p1 Q3 N) v2 v3 M
    unfold B_m_contradicting_4 at h1 h2 ⊢
    refine ⟨fun hc => ?_, fun hc => ?_⟩
    · replace h1 := h1.1 hc
      replace h2 := h2.1 hc
      refine and_m_contradict (fun r2 M3 h1 h2 => ?_) h1 h2
      refine ⟨fun hc => ?_, fun hc => ?_⟩
      · replace h1 := h1.1 hc
        replace h2 := h2.1 hc
        exact IH _ _ _ h1 h2
      · replace h1 := h1.2 hc
        replace h2 := h2.2 hc
        exact IH _ _ _ h1 h2
    · replace h1 := h1.2 hc
      replace h2 := h2.2 hc
      exact hQ _ _ h1 h2
theorem and_m_contradicting {p1 : Int32} {N : Nat} {M : MM} {Q1 Q2 Q3 : Int32 → MM → Prop} (hQ : ∀ (r : Int32) (M1 : MM), Q1 r M1 → Q2 r M1 → Q3 r M1) (h1 : W_m_contradicting p1 N M Q1) (h2 : W_m_contradicting p1 N M Q2) : W_m_contradicting p1 N M Q3 := by
  unfold W_m_contradicting at h1 h2 ⊢
  refine and_m_contradicting_4  hQ N _ _ _ h1 h2
theorem and_m_clause {p1 : Int32} {p2 : Int32} {N : Nat} {M : MM} {Q1 Q2 Q3 : Int32 → MM → Prop} (hQ : ∀ (r : Int32) (M1 : MM), Q1 r M1 → Q2 r M1 → Q3 r M1) (h1 : W_m_clause p1 p2 N M Q1) (h2 : W_m_clause p1 p2 N M Q2) : W_m_clause p1 p2 N M Q3 := by
  unfold W_m_clause at h1 h2 ⊢
  refine and_m_throwsIf (fun r1 M2 h1 h2 => ?_) h1 h2
  refine ⟨fun hc => ?_, fun hc => ?_⟩
  · replace h1 := h1.1 hc
    replace h2 := h2.1 hc
    refine ⟨fun hc => ?_, fun hc => ?_⟩
    · replace h1 := h1.1 hc
      replace h2 := h2.1 hc
      refine and_m_throwsIf (fun r5 M6 h1 h2 => ?_) h1 h2
      refine ⟨fun hc => ?_, fun hc => ?_⟩
      · replace h1 := h1.1 hc
        replace h2 := h2.1 hc
        refine ⟨?_, ?_, ?_, ?_, ?_⟩
        · intro hc
          replace h1 := h1.1 hc
          replace h2 := h2.1 hc
          refine ⟨fun hc => ?_, fun hc => ?_⟩
          · replace h1 := h1.1 hc
            replace h2 := h2.1 hc
            exact hQ _ _ h1 h2
          · replace h1 := h1.2 hc
            replace h2 := h2.2 hc
            exact hQ _ _ h1 h2
        · intro hc
          replace h1 := h1.2.1 hc
          replace h2 := h2.2.1 hc
          exact hQ _ _ h1 h2
        · intro hc
          replace h1 := h1.2.2.1 hc
          replace h2 := h2.2.2.1 hc
          refine and_m_inForce (fun r12 h1 h2 => ?_) h1 h2
          exact hQ _ _ h1 h2
        · intro hc
          replace h1 := h1.2.2.2.1 hc
          replace h2 := h2.2.2.2.1 hc
          refine and_m_knowers (fun r14 h1 h2 => ?_) h1 h2
          exact hQ _ _ h1 h2
        · intro hc0 hc1 hc2 hc3
          replace h1 := h1.2.2.2.2 hc0 hc1 hc2 hc3
          replace h2 := h2.2.2.2.2 hc0 hc1 hc2 hc3
          refine and_m_contradicting (fun r9 M10 h1 h2 => ?_) h1 h2
          exact hQ _ _ h1 h2
      · replace h1 := h1.2 hc
        replace h2 := h2.2 hc
        exact hQ _ _ h1 h2
    · replace h1 := h1.2 hc
      replace h2 := h2.2 hc
      refine and_m_throwsIf (fun r16 M17 h1 h2 => ?_) h1 h2
      refine ⟨fun hc => ?_, fun hc => ?_⟩
      · replace h1 := h1.1 hc
        replace h2 := h2.1 hc
        refine ⟨?_, ?_, ?_, ?_, ?_⟩
        · intro hc
          replace h1 := h1.1 hc
          replace h2 := h2.1 hc
          refine ⟨fun hc => ?_, fun hc => ?_⟩
          · replace h1 := h1.1 hc
            replace h2 := h2.1 hc
            exact hQ _ _ h1 h2
          · replace h1 := h1.2 hc
            replace h2 := h2.2 hc
            exact hQ _ _ h1 h2
        · intro hc
          replace h1 := h1.2.1 hc
          replace h2 := h2.2.1 hc
          exact hQ _ _ h1 h2
        · intro hc
          replace h1 := h1.2.2.1 hc
          replace h2 := h2.2.2.1 hc
          refine and_m_inForce (fun r23 h1 h2 => ?_) h1 h2
          exact hQ _ _ h1 h2
        · intro hc
          replace h1 := h1.2.2.2.1 hc
          replace h2 := h2.2.2.2.1 hc
          refine and_m_knowers (fun r25 h1 h2 => ?_) h1 h2
          exact hQ _ _ h1 h2
        · intro hc0 hc1 hc2 hc3
          replace h1 := h1.2.2.2.2 hc0 hc1 hc2 hc3
          replace h2 := h2.2.2.2.2 hc0 hc1 hc2 hc3
          refine and_m_contradicting (fun r20 M21 h1 h2 => ?_) h1 h2
          exact hQ _ _ h1 h2
      · replace h1 := h1.2 hc
        replace h2 := h2.2 hc
        exact hQ _ _ h1 h2
  · replace h1 := h1.2 hc
    replace h2 := h2.2 hc
    exact hQ _ _ h1 h2
theorem and_m_citizen {p1 : Int32} {p2 : Int32} {N : Nat} {M : MM} {Q1 Q2 Q3 : Int32 → MM → Prop} (hQ : ∀ (r : Int32) (M1 : MM), Q1 r M1 → Q2 r M1 → Q3 r M1) (h1 : W_m_citizen p1 p2 N M Q1) (h2 : W_m_citizen p1 p2 N M Q2) : W_m_citizen p1 p2 N M Q3 := by
  unfold W_m_citizen at h1 h2 ⊢
  refine and_m_throwsIf (fun r1 M2 h1 h2 => ?_) h1 h2
  refine ⟨fun hc => ?_, fun hc => ?_⟩
  · replace h1 := h1.1 hc
    replace h2 := h2.1 hc
    refine ⟨fun hc => ?_, fun hc => ?_⟩
    · replace h1 := h1.1 hc
      replace h2 := h2.1 hc
      refine and_m_throwsIf (fun r5 M6 h1 h2 => ?_) h1 h2
      refine ⟨fun hc => ?_, fun hc => ?_⟩
      · replace h1 := h1.1 hc
        replace h2 := h2.1 hc
        refine ⟨?_, ?_, ?_, ?_⟩
        · intro hc
          replace h1 := h1.1 hc
          replace h2 := h2.1 hc
          exact hQ _ _ h1 h2
        · intro hc
          replace h1 := h1.2.1 hc
          replace h2 := h2.2.1 hc
          exact hQ _ _ h1 h2
        · intro hc
          replace h1 := h1.2.2.1 hc
          replace h2 := h2.2.2.1 hc
          exact hQ _ _ h1 h2
        · intro hc0 hc1 hc2
          replace h1 := h1.2.2.2 hc0 hc1 hc2
          replace h2 := h2.2.2.2 hc0 hc1 hc2
          exact hQ _ _ h1 h2
      · replace h1 := h1.2 hc
        replace h2 := h2.2 hc
        exact hQ _ _ h1 h2
    · replace h1 := h1.2 hc
      replace h2 := h2.2 hc
      refine and_m_throwsIf (fun r9 M10 h1 h2 => ?_) h1 h2
      refine ⟨fun hc => ?_, fun hc => ?_⟩
      · replace h1 := h1.1 hc
        replace h2 := h2.1 hc
        refine ⟨?_, ?_, ?_, ?_⟩
        · intro hc
          replace h1 := h1.1 hc
          replace h2 := h2.1 hc
          exact hQ _ _ h1 h2
        · intro hc
          replace h1 := h1.2.1 hc
          replace h2 := h2.2.1 hc
          exact hQ _ _ h1 h2
        · intro hc
          replace h1 := h1.2.2.1 hc
          replace h2 := h2.2.2.1 hc
          exact hQ _ _ h1 h2
        · intro hc0 hc1 hc2
          replace h1 := h1.2.2.2 hc0 hc1 hc2
          replace h2 := h2.2.2.2 hc0 hc1 hc2
          exact hQ _ _ h1 h2
      · replace h1 := h1.2 hc
        replace h2 := h2.2 hc
        exact hQ _ _ h1 h2
  · replace h1 := h1.2 hc
    replace h2 := h2.2 hc
    exact hQ _ _ h1 h2
theorem and_m_seen {p1 : Int32} {N : Nat} {M : MM} {Q1 Q2 Q3 : Int64 → MM → Prop} (hQ : ∀ (r : Int64) (M1 : MM), Q1 r M1 → Q2 r M1 → Q3 r M1) (h1 : W_m_seen p1 N M Q1) (h2 : W_m_seen p1 N M Q2) : W_m_seen p1 N M Q3 := by
  unfold W_m_seen at h1 h2 ⊢
  refine and_m_throwsIf (fun r1 M2 h1 h2 => ?_) h1 h2
  refine ⟨fun hc => ?_, fun hc => ?_⟩
  · replace h1 := h1.1 hc
    replace h2 := h2.1 hc
    exact hQ _ _ h1 h2
  · replace h1 := h1.2 hc
    replace h2 := h2.2 hc
    exact hQ _ _ h1 h2
theorem and_m_habit {p1 : Int32} {p2 : Int32} {N : Nat} {M : MM} {Q1 Q2 Q3 : Int32 → MM → Prop} (hQ : ∀ (r : Int32) (M1 : MM), Q1 r M1 → Q2 r M1 → Q3 r M1) (h1 : W_m_habit p1 p2 N M Q1) (h2 : W_m_habit p1 p2 N M Q2) : W_m_habit p1 p2 N M Q3 := by
  unfold W_m_habit at h1 h2 ⊢
  refine and_m_throwsIf (fun r1 M2 h1 h2 => ?_) h1 h2
  refine ⟨fun hc => ?_, fun hc => ?_⟩
  · replace h1 := h1.1 hc
    replace h2 := h2.1 hc
    refine ⟨fun hc => ?_, fun hc => ?_⟩
    · replace h1 := h1.1 hc
      replace h2 := h2.1 hc
      exact hQ _ _ h1 h2
    · replace h1 := h1.2 hc
      replace h2 := h2.2 hc
      exact hQ _ _ h1 h2
  · replace h1 := h1.2 hc
    replace h2 := h2.2 hc
    exact hQ _ _ h1 h2
theorem and_m_may {p1 : Int32} {p2 : Int32} {N : Nat} {M : MM} {Q1 Q2 Q3 : Int32 → MM → Prop} (hQ : ∀ (r : Int32) (M1 : MM), Q1 r M1 → Q2 r M1 → Q3 r M1) (h1 : W_m_may p1 p2 N M Q1) (h2 : W_m_may p1 p2 N M Q2) : W_m_may p1 p2 N M Q3 := by
  unfold W_m_may at h1 h2 ⊢
  refine and_m_forbidsNow (fun r1 M2 h1 h2 => ?_) h1 h2
  refine ⟨fun hc => ?_, fun hc => ?_⟩
  · replace h1 := h1.1 hc
    replace h2 := h2.1 hc
    exact hQ _ _ h1 h2
  · replace h1 := h1.2 hc
    replace h2 := h2.2 hc
    exact hQ _ _ h1 h2
theorem and_m_matter {p1 : Int32} {p2 : Int32} {p3 : Int32} {N : Nat} {M : MM} {Q1 Q2 Q3 : Int32 → MM → Prop} (hQ : ∀ (r : Int32) (M1 : MM), Q1 r M1 → Q2 r M1 → Q3 r M1) (h1 : W_m_matter p1 p2 p3 N M Q1) (h2 : W_m_matter p1 p2 p3 N M Q2) : W_m_matter p1 p2 p3 N M Q3 := by
  unfold W_m_matter at h1 h2 ⊢
  refine ⟨fun hc => ?_, fun hc => ?_⟩
  · replace h1 := h1.1 hc
    replace h2 := h2.1 hc
    refine ⟨fun hc => ?_, fun hc => ?_⟩
    · replace h1 := h1.1 hc
      replace h2 := h2.1 hc
      refine and_m_throwsIf (fun r3 M4 h1 h2 => ?_) h1 h2
      refine ⟨fun hc => ?_, fun hc => ?_⟩
      · replace h1 := h1.1 hc
        replace h2 := h2.1 hc
        refine ⟨fun hc => ?_, fun hc => ?_⟩
        · replace h1 := h1.1 hc
          replace h2 := h2.1 hc
          refine and_m_throwsIf (fun r7 M8 h1 h2 => ?_) h1 h2
          refine ⟨fun hc => ?_, fun hc => ?_⟩
          · replace h1 := h1.1 hc
            replace h2 := h2.1 hc
            refine ⟨fun hc => ?_, fun hc => ?_⟩
            · replace h1 := h1.1 hc
              replace h2 := h2.1 hc
              refine and_m_throwsIf (fun r11 M12 h1 h2 => ?_) h1 h2
              refine ⟨fun hc => ?_, fun hc => ?_⟩
              · replace h1 := h1.1 hc
                replace h2 := h2.1 hc
                refine ⟨fun hc => ?_, fun hc => ?_⟩
                · replace h1 := h1.1 hc
                  replace h2 := h2.1 hc
                  refine and_m_inForce (fun r15 h1 h2 => ?_) h1 h2
                  refine ⟨fun hc => ?_, fun hc => ?_⟩
                  · replace h1 := h1.1 hc
                    replace h2 := h2.1 hc
                    refine and_m_saying (fun r18 M19 h1 h2 => ?_) h1 h2
                    exact hQ _ _ h1 h2
                  · replace h1 := h1.2 hc
                    replace h2 := h2.2 hc
                    refine and_m_saying (fun r20 M21 h1 h2 => ?_) h1 h2
                    exact hQ _ _ h1 h2
                · replace h1 := h1.2 hc
                  replace h2 := h2.2 hc
                  refine and_m_may (fun r22 M23 h1 h2 => ?_) h1 h2
                  refine ⟨fun hc => ?_, fun hc => ?_⟩
                  · replace h1 := h1.1 hc
                    replace h2 := h2.1 hc
                    exact hQ _ _ h1 h2
                  · replace h1 := h1.2 hc
                    replace h2 := h2.2 hc
                    refine ⟨fun hc => ?_, fun hc => ?_⟩
                    · replace h1 := h1.1 hc
                      replace h2 := h2.1 hc
                      exact hQ _ _ h1 h2
                    · replace h1 := h1.2 hc
                      replace h2 := h2.2 hc
                      refine ⟨fun hc => ?_, fun hc => ?_⟩
                      · replace h1 := h1.1 hc
                        replace h2 := h2.1 hc
                        exact hQ _ _ h1 h2
                      · replace h1 := h1.2 hc
                        replace h2 := h2.2 hc
                        exact hQ _ _ h1 h2
              · replace h1 := h1.2 hc
                replace h2 := h2.2 hc
                exact hQ _ _ h1 h2
            · replace h1 := h1.2 hc
              replace h2 := h2.2 hc
              refine and_m_throwsIf (fun r27 M28 h1 h2 => ?_) h1 h2
              refine ⟨fun hc => ?_, fun hc => ?_⟩
              · replace h1 := h1.1 hc
                replace h2 := h2.1 hc
                refine ⟨fun hc => ?_, fun hc => ?_⟩
                · replace h1 := h1.1 hc
                  replace h2 := h2.1 hc
                  refine and_m_inForce (fun r31 h1 h2 => ?_) h1 h2
                  refine ⟨fun hc => ?_, fun hc => ?_⟩
                  · replace h1 := h1.1 hc
                    replace h2 := h2.1 hc
                    refine and_m_saying (fun r34 M35 h1 h2 => ?_) h1 h2
                    exact hQ _ _ h1 h2
                  · replace h1 := h1.2 hc
                    replace h2 := h2.2 hc
                    refine and_m_saying (fun r36 M37 h1 h2 => ?_) h1 h2
                    exact hQ _ _ h1 h2
                · replace h1 := h1.2 hc
                  replace h2 := h2.2 hc
                  refine and_m_may (fun r38 M39 h1 h2 => ?_) h1 h2
                  refine ⟨fun hc => ?_, fun hc => ?_⟩
                  · replace h1 := h1.1 hc
                    replace h2 := h2.1 hc
                    exact hQ _ _ h1 h2
                  · replace h1 := h1.2 hc
                    replace h2 := h2.2 hc
                    refine ⟨fun hc => ?_, fun hc => ?_⟩
                    · replace h1 := h1.1 hc
                      replace h2 := h2.1 hc
                      exact hQ _ _ h1 h2
                    · replace h1 := h1.2 hc
                      replace h2 := h2.2 hc
                      refine ⟨fun hc => ?_, fun hc => ?_⟩
                      · replace h1 := h1.1 hc
                        replace h2 := h2.1 hc
                        exact hQ _ _ h1 h2
                      · replace h1 := h1.2 hc
                        replace h2 := h2.2 hc
                        exact hQ _ _ h1 h2
              · replace h1 := h1.2 hc
                replace h2 := h2.2 hc
                exact hQ _ _ h1 h2
          · replace h1 := h1.2 hc
            replace h2 := h2.2 hc
            exact hQ _ _ h1 h2
        · replace h1 := h1.2 hc
          replace h2 := h2.2 hc
          refine and_m_throwsIf (fun r43 M44 h1 h2 => ?_) h1 h2
          refine ⟨fun hc => ?_, fun hc => ?_⟩
          · replace h1 := h1.1 hc
            replace h2 := h2.1 hc
            refine ⟨fun hc => ?_, fun hc => ?_⟩
            · replace h1 := h1.1 hc
              replace h2 := h2.1 hc
              refine and_m_throwsIf (fun r47 M48 h1 h2 => ?_) h1 h2
              refine ⟨fun hc => ?_, fun hc => ?_⟩
              · replace h1 := h1.1 hc
                replace h2 := h2.1 hc
                refine ⟨fun hc => ?_, fun hc => ?_⟩
                · replace h1 := h1.1 hc
                  replace h2 := h2.1 hc
                  refine and_m_inForce (fun r51 h1 h2 => ?_) h1 h2
                  refine ⟨fun hc => ?_, fun hc => ?_⟩
                  · replace h1 := h1.1 hc
                    replace h2 := h2.1 hc
                    refine and_m_saying (fun r54 M55 h1 h2 => ?_) h1 h2
                    exact hQ _ _ h1 h2
                  · replace h1 := h1.2 hc
                    replace h2 := h2.2 hc
                    refine and_m_saying (fun r56 M57 h1 h2 => ?_) h1 h2
                    exact hQ _ _ h1 h2
                · replace h1 := h1.2 hc
                  replace h2 := h2.2 hc
                  refine and_m_may (fun r58 M59 h1 h2 => ?_) h1 h2
                  refine ⟨fun hc => ?_, fun hc => ?_⟩
                  · replace h1 := h1.1 hc
                    replace h2 := h2.1 hc
                    exact hQ _ _ h1 h2
                  · replace h1 := h1.2 hc
                    replace h2 := h2.2 hc
                    refine ⟨fun hc => ?_, fun hc => ?_⟩
                    · replace h1 := h1.1 hc
                      replace h2 := h2.1 hc
                      exact hQ _ _ h1 h2
                    · replace h1 := h1.2 hc
                      replace h2 := h2.2 hc
                      refine ⟨fun hc => ?_, fun hc => ?_⟩
                      · replace h1 := h1.1 hc
                        replace h2 := h2.1 hc
                        exact hQ _ _ h1 h2
                      · replace h1 := h1.2 hc
                        replace h2 := h2.2 hc
                        exact hQ _ _ h1 h2
              · replace h1 := h1.2 hc
                replace h2 := h2.2 hc
                exact hQ _ _ h1 h2
            · replace h1 := h1.2 hc
              replace h2 := h2.2 hc
              refine and_m_throwsIf (fun r63 M64 h1 h2 => ?_) h1 h2
              refine ⟨fun hc => ?_, fun hc => ?_⟩
              · replace h1 := h1.1 hc
                replace h2 := h2.1 hc
                refine ⟨fun hc => ?_, fun hc => ?_⟩
                · replace h1 := h1.1 hc
                  replace h2 := h2.1 hc
                  refine and_m_inForce (fun r67 h1 h2 => ?_) h1 h2
                  refine ⟨fun hc => ?_, fun hc => ?_⟩
                  · replace h1 := h1.1 hc
                    replace h2 := h2.1 hc
                    refine and_m_saying (fun r70 M71 h1 h2 => ?_) h1 h2
                    exact hQ _ _ h1 h2
                  · replace h1 := h1.2 hc
                    replace h2 := h2.2 hc
                    refine and_m_saying (fun r72 M73 h1 h2 => ?_) h1 h2
                    exact hQ _ _ h1 h2
                · replace h1 := h1.2 hc
                  replace h2 := h2.2 hc
                  refine and_m_may (fun r74 M75 h1 h2 => ?_) h1 h2
                  refine ⟨fun hc => ?_, fun hc => ?_⟩
                  · replace h1 := h1.1 hc
                    replace h2 := h2.1 hc
                    exact hQ _ _ h1 h2
                  · replace h1 := h1.2 hc
                    replace h2 := h2.2 hc
                    refine ⟨fun hc => ?_, fun hc => ?_⟩
                    · replace h1 := h1.1 hc
                      replace h2 := h2.1 hc
                      exact hQ _ _ h1 h2
                    · replace h1 := h1.2 hc
                      replace h2 := h2.2 hc
                      refine ⟨fun hc => ?_, fun hc => ?_⟩
                      · replace h1 := h1.1 hc
                        replace h2 := h2.1 hc
                        exact hQ _ _ h1 h2
                      · replace h1 := h1.2 hc
                        replace h2 := h2.2 hc
                        exact hQ _ _ h1 h2
              · replace h1 := h1.2 hc
                replace h2 := h2.2 hc
                exact hQ _ _ h1 h2
          · replace h1 := h1.2 hc
            replace h2 := h2.2 hc
            exact hQ _ _ h1 h2
      · replace h1 := h1.2 hc
        replace h2 := h2.2 hc
        exact hQ _ _ h1 h2
    · replace h1 := h1.2 hc
      replace h2 := h2.2 hc
      refine and_m_throwsIf (fun r79 M80 h1 h2 => ?_) h1 h2
      refine ⟨fun hc => ?_, fun hc => ?_⟩
      · replace h1 := h1.1 hc
        replace h2 := h2.1 hc
        refine ⟨fun hc => ?_, fun hc => ?_⟩
        · replace h1 := h1.1 hc
          replace h2 := h2.1 hc
          refine and_m_throwsIf (fun r83 M84 h1 h2 => ?_) h1 h2
          refine ⟨fun hc => ?_, fun hc => ?_⟩
          · replace h1 := h1.1 hc
            replace h2 := h2.1 hc
            refine ⟨fun hc => ?_, fun hc => ?_⟩
            · replace h1 := h1.1 hc
              replace h2 := h2.1 hc
              refine and_m_throwsIf (fun r87 M88 h1 h2 => ?_) h1 h2
              refine ⟨fun hc => ?_, fun hc => ?_⟩
              · replace h1 := h1.1 hc
                replace h2 := h2.1 hc
                refine ⟨fun hc => ?_, fun hc => ?_⟩
                · replace h1 := h1.1 hc
                  replace h2 := h2.1 hc
                  refine and_m_inForce (fun r91 h1 h2 => ?_) h1 h2
                  refine ⟨fun hc => ?_, fun hc => ?_⟩
                  · replace h1 := h1.1 hc
                    replace h2 := h2.1 hc
                    refine and_m_saying (fun r94 M95 h1 h2 => ?_) h1 h2
                    exact hQ _ _ h1 h2
                  · replace h1 := h1.2 hc
                    replace h2 := h2.2 hc
                    refine and_m_saying (fun r96 M97 h1 h2 => ?_) h1 h2
                    exact hQ _ _ h1 h2
                · replace h1 := h1.2 hc
                  replace h2 := h2.2 hc
                  refine and_m_may (fun r98 M99 h1 h2 => ?_) h1 h2
                  refine ⟨fun hc => ?_, fun hc => ?_⟩
                  · replace h1 := h1.1 hc
                    replace h2 := h2.1 hc
                    exact hQ _ _ h1 h2
                  · replace h1 := h1.2 hc
                    replace h2 := h2.2 hc
                    refine ⟨fun hc => ?_, fun hc => ?_⟩
                    · replace h1 := h1.1 hc
                      replace h2 := h2.1 hc
                      exact hQ _ _ h1 h2
                    · replace h1 := h1.2 hc
                      replace h2 := h2.2 hc
                      refine ⟨fun hc => ?_, fun hc => ?_⟩
                      · replace h1 := h1.1 hc
                        replace h2 := h2.1 hc
                        exact hQ _ _ h1 h2
                      · replace h1 := h1.2 hc
                        replace h2 := h2.2 hc
                        exact hQ _ _ h1 h2
              · replace h1 := h1.2 hc
                replace h2 := h2.2 hc
                exact hQ _ _ h1 h2
            · replace h1 := h1.2 hc
              replace h2 := h2.2 hc
              refine and_m_throwsIf (fun r103 M104 h1 h2 => ?_) h1 h2
              refine ⟨fun hc => ?_, fun hc => ?_⟩
              · replace h1 := h1.1 hc
                replace h2 := h2.1 hc
                refine ⟨fun hc => ?_, fun hc => ?_⟩
                · replace h1 := h1.1 hc
                  replace h2 := h2.1 hc
                  refine and_m_inForce (fun r107 h1 h2 => ?_) h1 h2
                  refine ⟨fun hc => ?_, fun hc => ?_⟩
                  · replace h1 := h1.1 hc
                    replace h2 := h2.1 hc
                    refine and_m_saying (fun r110 M111 h1 h2 => ?_) h1 h2
                    exact hQ _ _ h1 h2
                  · replace h1 := h1.2 hc
                    replace h2 := h2.2 hc
                    refine and_m_saying (fun r112 M113 h1 h2 => ?_) h1 h2
                    exact hQ _ _ h1 h2
                · replace h1 := h1.2 hc
                  replace h2 := h2.2 hc
                  refine and_m_may (fun r114 M115 h1 h2 => ?_) h1 h2
                  refine ⟨fun hc => ?_, fun hc => ?_⟩
                  · replace h1 := h1.1 hc
                    replace h2 := h2.1 hc
                    exact hQ _ _ h1 h2
                  · replace h1 := h1.2 hc
                    replace h2 := h2.2 hc
                    refine ⟨fun hc => ?_, fun hc => ?_⟩
                    · replace h1 := h1.1 hc
                      replace h2 := h2.1 hc
                      exact hQ _ _ h1 h2
                    · replace h1 := h1.2 hc
                      replace h2 := h2.2 hc
                      refine ⟨fun hc => ?_, fun hc => ?_⟩
                      · replace h1 := h1.1 hc
                        replace h2 := h2.1 hc
                        exact hQ _ _ h1 h2
                      · replace h1 := h1.2 hc
                        replace h2 := h2.2 hc
                        exact hQ _ _ h1 h2
              · replace h1 := h1.2 hc
                replace h2 := h2.2 hc
                exact hQ _ _ h1 h2
          · replace h1 := h1.2 hc
            replace h2 := h2.2 hc
            exact hQ _ _ h1 h2
        · replace h1 := h1.2 hc
          replace h2 := h2.2 hc
          refine and_m_throwsIf (fun r119 M120 h1 h2 => ?_) h1 h2
          refine ⟨fun hc => ?_, fun hc => ?_⟩
          · replace h1 := h1.1 hc
            replace h2 := h2.1 hc
            refine ⟨fun hc => ?_, fun hc => ?_⟩
            · replace h1 := h1.1 hc
              replace h2 := h2.1 hc
              refine and_m_throwsIf (fun r123 M124 h1 h2 => ?_) h1 h2
              refine ⟨fun hc => ?_, fun hc => ?_⟩
              · replace h1 := h1.1 hc
                replace h2 := h2.1 hc
                refine ⟨fun hc => ?_, fun hc => ?_⟩
                · replace h1 := h1.1 hc
                  replace h2 := h2.1 hc
                  refine and_m_inForce (fun r127 h1 h2 => ?_) h1 h2
                  refine ⟨fun hc => ?_, fun hc => ?_⟩
                  · replace h1 := h1.1 hc
                    replace h2 := h2.1 hc
                    refine and_m_saying (fun r130 M131 h1 h2 => ?_) h1 h2
                    exact hQ _ _ h1 h2
                  · replace h1 := h1.2 hc
                    replace h2 := h2.2 hc
                    refine and_m_saying (fun r132 M133 h1 h2 => ?_) h1 h2
                    exact hQ _ _ h1 h2
                · replace h1 := h1.2 hc
                  replace h2 := h2.2 hc
                  refine and_m_may (fun r134 M135 h1 h2 => ?_) h1 h2
                  refine ⟨fun hc => ?_, fun hc => ?_⟩
                  · replace h1 := h1.1 hc
                    replace h2 := h2.1 hc
                    exact hQ _ _ h1 h2
                  · replace h1 := h1.2 hc
                    replace h2 := h2.2 hc
                    refine ⟨fun hc => ?_, fun hc => ?_⟩
                    · replace h1 := h1.1 hc
                      replace h2 := h2.1 hc
                      exact hQ _ _ h1 h2
                    · replace h1 := h1.2 hc
                      replace h2 := h2.2 hc
                      refine ⟨fun hc => ?_, fun hc => ?_⟩
                      · replace h1 := h1.1 hc
                        replace h2 := h2.1 hc
                        exact hQ _ _ h1 h2
                      · replace h1 := h1.2 hc
                        replace h2 := h2.2 hc
                        exact hQ _ _ h1 h2
              · replace h1 := h1.2 hc
                replace h2 := h2.2 hc
                exact hQ _ _ h1 h2
            · replace h1 := h1.2 hc
              replace h2 := h2.2 hc
              refine and_m_throwsIf (fun r139 M140 h1 h2 => ?_) h1 h2
              refine ⟨fun hc => ?_, fun hc => ?_⟩
              · replace h1 := h1.1 hc
                replace h2 := h2.1 hc
                refine ⟨fun hc => ?_, fun hc => ?_⟩
                · replace h1 := h1.1 hc
                  replace h2 := h2.1 hc
                  refine and_m_inForce (fun r143 h1 h2 => ?_) h1 h2
                  refine ⟨fun hc => ?_, fun hc => ?_⟩
                  · replace h1 := h1.1 hc
                    replace h2 := h2.1 hc
                    refine and_m_saying (fun r146 M147 h1 h2 => ?_) h1 h2
                    exact hQ _ _ h1 h2
                  · replace h1 := h1.2 hc
                    replace h2 := h2.2 hc
                    refine and_m_saying (fun r148 M149 h1 h2 => ?_) h1 h2
                    exact hQ _ _ h1 h2
                · replace h1 := h1.2 hc
                  replace h2 := h2.2 hc
                  refine and_m_may (fun r150 M151 h1 h2 => ?_) h1 h2
                  refine ⟨fun hc => ?_, fun hc => ?_⟩
                  · replace h1 := h1.1 hc
                    replace h2 := h2.1 hc
                    exact hQ _ _ h1 h2
                  · replace h1 := h1.2 hc
                    replace h2 := h2.2 hc
                    refine ⟨fun hc => ?_, fun hc => ?_⟩
                    · replace h1 := h1.1 hc
                      replace h2 := h2.1 hc
                      exact hQ _ _ h1 h2
                    · replace h1 := h1.2 hc
                      replace h2 := h2.2 hc
                      refine ⟨fun hc => ?_, fun hc => ?_⟩
                      · replace h1 := h1.1 hc
                        replace h2 := h2.1 hc
                        exact hQ _ _ h1 h2
                      · replace h1 := h1.2 hc
                        replace h2 := h2.2 hc
                        exact hQ _ _ h1 h2
              · replace h1 := h1.2 hc
                replace h2 := h2.2 hc
                exact hQ _ _ h1 h2
          · replace h1 := h1.2 hc
            replace h2 := h2.2 hc
            exact hQ _ _ h1 h2
      · replace h1 := h1.2 hc
        replace h2 := h2.2 hc
        exact hQ _ _ h1 h2
  · replace h1 := h1.2 hc
    replace h2 := h2.2 hc
    refine and_m_throwsIf (fun r155 M156 h1 h2 => ?_) h1 h2
    refine ⟨fun hc => ?_, fun hc => ?_⟩
    · replace h1 := h1.1 hc
      replace h2 := h2.1 hc
      refine ⟨fun hc => ?_, fun hc => ?_⟩
      · replace h1 := h1.1 hc
        replace h2 := h2.1 hc
        refine and_m_throwsIf (fun r159 M160 h1 h2 => ?_) h1 h2
        refine ⟨fun hc => ?_, fun hc => ?_⟩
        · replace h1 := h1.1 hc
          replace h2 := h2.1 hc
          refine ⟨fun hc => ?_, fun hc => ?_⟩
          · replace h1 := h1.1 hc
            replace h2 := h2.1 hc
            refine and_m_throwsIf (fun r163 M164 h1 h2 => ?_) h1 h2
            refine ⟨fun hc => ?_, fun hc => ?_⟩
            · replace h1 := h1.1 hc
              replace h2 := h2.1 hc
              refine ⟨fun hc => ?_, fun hc => ?_⟩
              · replace h1 := h1.1 hc
                replace h2 := h2.1 hc
                refine and_m_inForce (fun r167 h1 h2 => ?_) h1 h2
                refine ⟨fun hc => ?_, fun hc => ?_⟩
                · replace h1 := h1.1 hc
                  replace h2 := h2.1 hc
                  refine and_m_saying (fun r170 M171 h1 h2 => ?_) h1 h2
                  exact hQ _ _ h1 h2
                · replace h1 := h1.2 hc
                  replace h2 := h2.2 hc
                  refine and_m_saying (fun r172 M173 h1 h2 => ?_) h1 h2
                  exact hQ _ _ h1 h2
              · replace h1 := h1.2 hc
                replace h2 := h2.2 hc
                refine and_m_may (fun r174 M175 h1 h2 => ?_) h1 h2
                refine ⟨fun hc => ?_, fun hc => ?_⟩
                · replace h1 := h1.1 hc
                  replace h2 := h2.1 hc
                  exact hQ _ _ h1 h2
                · replace h1 := h1.2 hc
                  replace h2 := h2.2 hc
                  refine ⟨fun hc => ?_, fun hc => ?_⟩
                  · replace h1 := h1.1 hc
                    replace h2 := h2.1 hc
                    exact hQ _ _ h1 h2
                  · replace h1 := h1.2 hc
                    replace h2 := h2.2 hc
                    refine ⟨fun hc => ?_, fun hc => ?_⟩
                    · replace h1 := h1.1 hc
                      replace h2 := h2.1 hc
                      exact hQ _ _ h1 h2
                    · replace h1 := h1.2 hc
                      replace h2 := h2.2 hc
                      exact hQ _ _ h1 h2
            · replace h1 := h1.2 hc
              replace h2 := h2.2 hc
              exact hQ _ _ h1 h2
          · replace h1 := h1.2 hc
            replace h2 := h2.2 hc
            refine and_m_throwsIf (fun r179 M180 h1 h2 => ?_) h1 h2
            refine ⟨fun hc => ?_, fun hc => ?_⟩
            · replace h1 := h1.1 hc
              replace h2 := h2.1 hc
              refine ⟨fun hc => ?_, fun hc => ?_⟩
              · replace h1 := h1.1 hc
                replace h2 := h2.1 hc
                refine and_m_inForce (fun r183 h1 h2 => ?_) h1 h2
                refine ⟨fun hc => ?_, fun hc => ?_⟩
                · replace h1 := h1.1 hc
                  replace h2 := h2.1 hc
                  refine and_m_saying (fun r186 M187 h1 h2 => ?_) h1 h2
                  exact hQ _ _ h1 h2
                · replace h1 := h1.2 hc
                  replace h2 := h2.2 hc
                  refine and_m_saying (fun r188 M189 h1 h2 => ?_) h1 h2
                  exact hQ _ _ h1 h2
              · replace h1 := h1.2 hc
                replace h2 := h2.2 hc
                refine and_m_may (fun r190 M191 h1 h2 => ?_) h1 h2
                refine ⟨fun hc => ?_, fun hc => ?_⟩
                · replace h1 := h1.1 hc
                  replace h2 := h2.1 hc
                  exact hQ _ _ h1 h2
                · replace h1 := h1.2 hc
                  replace h2 := h2.2 hc
                  refine ⟨fun hc => ?_, fun hc => ?_⟩
                  · replace h1 := h1.1 hc
                    replace h2 := h2.1 hc
                    exact hQ _ _ h1 h2
                  · replace h1 := h1.2 hc
                    replace h2 := h2.2 hc
                    refine ⟨fun hc => ?_, fun hc => ?_⟩
                    · replace h1 := h1.1 hc
                      replace h2 := h2.1 hc
                      exact hQ _ _ h1 h2
                    · replace h1 := h1.2 hc
                      replace h2 := h2.2 hc
                      exact hQ _ _ h1 h2
            · replace h1 := h1.2 hc
              replace h2 := h2.2 hc
              exact hQ _ _ h1 h2
        · replace h1 := h1.2 hc
          replace h2 := h2.2 hc
          exact hQ _ _ h1 h2
      · replace h1 := h1.2 hc
        replace h2 := h2.2 hc
        refine and_m_throwsIf (fun r195 M196 h1 h2 => ?_) h1 h2
        refine ⟨fun hc => ?_, fun hc => ?_⟩
        · replace h1 := h1.1 hc
          replace h2 := h2.1 hc
          refine ⟨fun hc => ?_, fun hc => ?_⟩
          · replace h1 := h1.1 hc
            replace h2 := h2.1 hc
            refine and_m_throwsIf (fun r199 M200 h1 h2 => ?_) h1 h2
            refine ⟨fun hc => ?_, fun hc => ?_⟩
            · replace h1 := h1.1 hc
              replace h2 := h2.1 hc
              refine ⟨fun hc => ?_, fun hc => ?_⟩
              · replace h1 := h1.1 hc
                replace h2 := h2.1 hc
                refine and_m_inForce (fun r203 h1 h2 => ?_) h1 h2
                refine ⟨fun hc => ?_, fun hc => ?_⟩
                · replace h1 := h1.1 hc
                  replace h2 := h2.1 hc
                  refine and_m_saying (fun r206 M207 h1 h2 => ?_) h1 h2
                  exact hQ _ _ h1 h2
                · replace h1 := h1.2 hc
                  replace h2 := h2.2 hc
                  refine and_m_saying (fun r208 M209 h1 h2 => ?_) h1 h2
                  exact hQ _ _ h1 h2
              · replace h1 := h1.2 hc
                replace h2 := h2.2 hc
                refine and_m_may (fun r210 M211 h1 h2 => ?_) h1 h2
                refine ⟨fun hc => ?_, fun hc => ?_⟩
                · replace h1 := h1.1 hc
                  replace h2 := h2.1 hc
                  exact hQ _ _ h1 h2
                · replace h1 := h1.2 hc
                  replace h2 := h2.2 hc
                  refine ⟨fun hc => ?_, fun hc => ?_⟩
                  · replace h1 := h1.1 hc
                    replace h2 := h2.1 hc
                    exact hQ _ _ h1 h2
                  · replace h1 := h1.2 hc
                    replace h2 := h2.2 hc
                    refine ⟨fun hc => ?_, fun hc => ?_⟩
                    · replace h1 := h1.1 hc
                      replace h2 := h2.1 hc
                      exact hQ _ _ h1 h2
                    · replace h1 := h1.2 hc
                      replace h2 := h2.2 hc
                      exact hQ _ _ h1 h2
            · replace h1 := h1.2 hc
              replace h2 := h2.2 hc
              exact hQ _ _ h1 h2
          · replace h1 := h1.2 hc
            replace h2 := h2.2 hc
            refine and_m_throwsIf (fun r215 M216 h1 h2 => ?_) h1 h2
            refine ⟨fun hc => ?_, fun hc => ?_⟩
            · replace h1 := h1.1 hc
              replace h2 := h2.1 hc
              refine ⟨fun hc => ?_, fun hc => ?_⟩
              · replace h1 := h1.1 hc
                replace h2 := h2.1 hc
                refine and_m_inForce (fun r219 h1 h2 => ?_) h1 h2
                refine ⟨fun hc => ?_, fun hc => ?_⟩
                · replace h1 := h1.1 hc
                  replace h2 := h2.1 hc
                  refine and_m_saying (fun r222 M223 h1 h2 => ?_) h1 h2
                  exact hQ _ _ h1 h2
                · replace h1 := h1.2 hc
                  replace h2 := h2.2 hc
                  refine and_m_saying (fun r224 M225 h1 h2 => ?_) h1 h2
                  exact hQ _ _ h1 h2
              · replace h1 := h1.2 hc
                replace h2 := h2.2 hc
                refine and_m_may (fun r226 M227 h1 h2 => ?_) h1 h2
                refine ⟨fun hc => ?_, fun hc => ?_⟩
                · replace h1 := h1.1 hc
                  replace h2 := h2.1 hc
                  exact hQ _ _ h1 h2
                · replace h1 := h1.2 hc
                  replace h2 := h2.2 hc
                  refine ⟨fun hc => ?_, fun hc => ?_⟩
                  · replace h1 := h1.1 hc
                    replace h2 := h2.1 hc
                    exact hQ _ _ h1 h2
                  · replace h1 := h1.2 hc
                    replace h2 := h2.2 hc
                    refine ⟨fun hc => ?_, fun hc => ?_⟩
                    · replace h1 := h1.1 hc
                      replace h2 := h2.1 hc
                      exact hQ _ _ h1 h2
                    · replace h1 := h1.2 hc
                      replace h2 := h2.2 hc
                      exact hQ _ _ h1 h2
            · replace h1 := h1.2 hc
              replace h2 := h2.2 hc
              exact hQ _ _ h1 h2
        · replace h1 := h1.2 hc
          replace h2 := h2.2 hc
          exact hQ _ _ h1 h2
    · replace h1 := h1.2 hc
      replace h2 := h2.2 hc
      exact hQ _ _ h1 h2
theorem and_m_tell {p1 : Int32} {p2 : Int32} {N : Nat} {M : MM} {Q1 Q2 Q3 : Int32 → MM → Prop} (hQ : ∀ (r : Int32) (M1 : MM), Q1 r M1 → Q2 r M1 → Q3 r M1) (h1 : W_m_tell p1 p2 N M Q1) (h2 : W_m_tell p1 p2 N M Q2) : W_m_tell p1 p2 N M Q3 := by
  unfold W_m_tell at h1 h2 ⊢
  refine ⟨fun hc => ?_, fun hc => ?_⟩
  · replace h1 := h1.1 hc
    replace h2 := h2.1 hc
    refine ⟨fun hc => ?_, fun hc => ?_⟩
    · replace h1 := h1.1 hc
      replace h2 := h2.1 hc
      refine and_m_throwsIf (fun r3 M4 h1 h2 => ?_) h1 h2
      refine ⟨fun hc => ?_, fun hc => ?_⟩
      · replace h1 := h1.1 hc
        replace h2 := h2.1 hc
        refine ⟨fun hc => ?_, fun hc => ?_⟩
        · replace h1 := h1.1 hc
          replace h2 := h2.1 hc
          refine and_m_throwsIf (fun r7 M8 h1 h2 => ?_) h1 h2
          refine ⟨fun hc => ?_, fun hc => ?_⟩
          · replace h1 := h1.1 hc
            replace h2 := h2.1 hc
            refine and_m_remembers (fun M11 h1 h2 => ?_) h1 h2
            refine and_m_sets (fun M13 h1 h2 => ?_) h1 h2
            exact hQ _ _ h1 h2
          · replace h1 := h1.2 hc
            replace h2 := h2.2 hc
            exact hQ _ _ h1 h2
        · replace h1 := h1.2 hc
          replace h2 := h2.2 hc
          refine ⟨fun hc => ?_, fun hc => ?_⟩
          · replace h1 := h1.1 hc
            replace h2 := h2.1 hc
            refine and_m_throwsIf (fun r15 M16 h1 h2 => ?_) h1 h2
            refine ⟨fun hc => ?_, fun hc => ?_⟩
            · replace h1 := h1.1 hc
              replace h2 := h2.1 hc
              refine and_m_remembers (fun M19 h1 h2 => ?_) h1 h2
              refine and_m_sets (fun M21 h1 h2 => ?_) h1 h2
              exact hQ _ _ h1 h2
            · replace h1 := h1.2 hc
              replace h2 := h2.2 hc
              exact hQ _ _ h1 h2
          · replace h1 := h1.2 hc
            replace h2 := h2.2 hc
            refine and_m_throwsIf (fun r22 M23 h1 h2 => ?_) h1 h2
            refine ⟨fun hc => ?_, fun hc => ?_⟩
            · replace h1 := h1.1 hc
              replace h2 := h2.1 hc
              refine and_m_remembers (fun M26 h1 h2 => ?_) h1 h2
              refine and_m_sets (fun M28 h1 h2 => ?_) h1 h2
              exact hQ _ _ h1 h2
            · replace h1 := h1.2 hc
              replace h2 := h2.2 hc
              exact hQ _ _ h1 h2
      · replace h1 := h1.2 hc
        replace h2 := h2.2 hc
        exact hQ _ _ h1 h2
    · replace h1 := h1.2 hc
      replace h2 := h2.2 hc
      refine and_m_throwsIf (fun r29 M30 h1 h2 => ?_) h1 h2
      refine ⟨fun hc => ?_, fun hc => ?_⟩
      · replace h1 := h1.1 hc
        replace h2 := h2.1 hc
        refine ⟨fun hc => ?_, fun hc => ?_⟩
        · replace h1 := h1.1 hc
          replace h2 := h2.1 hc
          refine and_m_throwsIf (fun r33 M34 h1 h2 => ?_) h1 h2
          refine ⟨fun hc => ?_, fun hc => ?_⟩
          · replace h1 := h1.1 hc
            replace h2 := h2.1 hc
            refine and_m_remembers (fun M37 h1 h2 => ?_) h1 h2
            refine and_m_sets (fun M39 h1 h2 => ?_) h1 h2
            exact hQ _ _ h1 h2
          · replace h1 := h1.2 hc
            replace h2 := h2.2 hc
            exact hQ _ _ h1 h2
        · replace h1 := h1.2 hc
          replace h2 := h2.2 hc
          refine ⟨fun hc => ?_, fun hc => ?_⟩
          · replace h1 := h1.1 hc
            replace h2 := h2.1 hc
            refine and_m_throwsIf (fun r41 M42 h1 h2 => ?_) h1 h2
            refine ⟨fun hc => ?_, fun hc => ?_⟩
            · replace h1 := h1.1 hc
              replace h2 := h2.1 hc
              refine and_m_remembers (fun M45 h1 h2 => ?_) h1 h2
              refine and_m_sets (fun M47 h1 h2 => ?_) h1 h2
              exact hQ _ _ h1 h2
            · replace h1 := h1.2 hc
              replace h2 := h2.2 hc
              exact hQ _ _ h1 h2
          · replace h1 := h1.2 hc
            replace h2 := h2.2 hc
            refine and_m_throwsIf (fun r48 M49 h1 h2 => ?_) h1 h2
            refine ⟨fun hc => ?_, fun hc => ?_⟩
            · replace h1 := h1.1 hc
              replace h2 := h2.1 hc
              refine and_m_remembers (fun M52 h1 h2 => ?_) h1 h2
              refine and_m_sets (fun M54 h1 h2 => ?_) h1 h2
              exact hQ _ _ h1 h2
            · replace h1 := h1.2 hc
              replace h2 := h2.2 hc
              exact hQ _ _ h1 h2
      · replace h1 := h1.2 hc
        replace h2 := h2.2 hc
        exact hQ _ _ h1 h2
  · replace h1 := h1.2 hc
    replace h2 := h2.2 hc
    refine and_m_throwsIf (fun r55 M56 h1 h2 => ?_) h1 h2
    refine ⟨fun hc => ?_, fun hc => ?_⟩
    · replace h1 := h1.1 hc
      replace h2 := h2.1 hc
      refine ⟨fun hc => ?_, fun hc => ?_⟩
      · replace h1 := h1.1 hc
        replace h2 := h2.1 hc
        refine and_m_throwsIf (fun r59 M60 h1 h2 => ?_) h1 h2
        refine ⟨fun hc => ?_, fun hc => ?_⟩
        · replace h1 := h1.1 hc
          replace h2 := h2.1 hc
          refine and_m_remembers (fun M63 h1 h2 => ?_) h1 h2
          refine and_m_sets (fun M65 h1 h2 => ?_) h1 h2
          exact hQ _ _ h1 h2
        · replace h1 := h1.2 hc
          replace h2 := h2.2 hc
          exact hQ _ _ h1 h2
      · replace h1 := h1.2 hc
        replace h2 := h2.2 hc
        refine ⟨fun hc => ?_, fun hc => ?_⟩
        · replace h1 := h1.1 hc
          replace h2 := h2.1 hc
          refine and_m_throwsIf (fun r67 M68 h1 h2 => ?_) h1 h2
          refine ⟨fun hc => ?_, fun hc => ?_⟩
          · replace h1 := h1.1 hc
            replace h2 := h2.1 hc
            refine and_m_remembers (fun M71 h1 h2 => ?_) h1 h2
            refine and_m_sets (fun M73 h1 h2 => ?_) h1 h2
            exact hQ _ _ h1 h2
          · replace h1 := h1.2 hc
            replace h2 := h2.2 hc
            exact hQ _ _ h1 h2
        · replace h1 := h1.2 hc
          replace h2 := h2.2 hc
          refine and_m_throwsIf (fun r74 M75 h1 h2 => ?_) h1 h2
          refine ⟨fun hc => ?_, fun hc => ?_⟩
          · replace h1 := h1.1 hc
            replace h2 := h2.1 hc
            refine and_m_remembers (fun M78 h1 h2 => ?_) h1 h2
            refine and_m_sets (fun M80 h1 h2 => ?_) h1 h2
            exact hQ _ _ h1 h2
          · replace h1 := h1.2 hc
            replace h2 := h2.2 hc
            exact hQ _ _ h1 h2
    · replace h1 := h1.2 hc
      replace h2 := h2.2 hc
      exact hQ _ _ h1 h2
theorem and_m_die {p1 : Int32} {N : Nat} {M : MM} {Q1 Q2 Q3 : Int32 → MM → Prop} (hQ : ∀ (r : Int32) (M1 : MM), Q1 r M1 → Q2 r M1 → Q3 r M1) (h1 : W_m_die p1 N M Q1) (h2 : W_m_die p1 N M Q2) : W_m_die p1 N M Q3 := by
  unfold W_m_die at h1 h2 ⊢
  refine and_m_throwsIf (fun r1 M2 h1 h2 => ?_) h1 h2
  refine ⟨fun hc => ?_, fun hc => ?_⟩
  · replace h1 := h1.1 hc
    replace h2 := h2.1 hc
    refine ⟨fun hc => ?_, fun hc => ?_⟩
    · replace h1 := h1.1 hc
      replace h2 := h2.1 hc
      refine and_m_throwsIf (fun r5 M6 h1 h2 => ?_) h1 h2
      refine ⟨fun hc => ?_, fun hc => ?_⟩
      · replace h1 := h1.1 hc
        replace h2 := h2.1 hc
        refine and_m_remembers (fun M9 h1 h2 => ?_) h1 h2
        refine and_m_inForce (fun r10 h1 h2 => ?_) h1 h2
        refine ⟨fun hc => ?_, fun hc => ?_⟩
        · replace h1 := h1.1 hc
          replace h2 := h2.1 hc
          refine and_m_sets (fun M14 h1 h2 => ?_) h1 h2
          refine and_m_sets (fun M16 h1 h2 => ?_) h1 h2
          refine and_m_sets (fun M18 h1 h2 => ?_) h1 h2
          refine and_m_inForce (fun r19 h1 h2 => ?_) h1 h2
          exact hQ _ _ h1 h2
        · replace h1 := h1.2 hc
          replace h2 := h2.2 hc
          refine and_m_sets (fun M22 h1 h2 => ?_) h1 h2
          refine and_m_sets (fun M24 h1 h2 => ?_) h1 h2
          refine and_m_sets (fun M26 h1 h2 => ?_) h1 h2
          refine and_m_sets (fun M28 h1 h2 => ?_) h1 h2
          refine and_m_inForce (fun r29 h1 h2 => ?_) h1 h2
          exact hQ _ _ h1 h2
      · replace h1 := h1.2 hc
        replace h2 := h2.2 hc
        exact hQ _ _ h1 h2
    · replace h1 := h1.2 hc
      replace h2 := h2.2 hc
      refine and_m_throwsIf (fun r31 M32 h1 h2 => ?_) h1 h2
      refine ⟨fun hc => ?_, fun hc => ?_⟩
      · replace h1 := h1.1 hc
        replace h2 := h2.1 hc
        refine and_m_remembers (fun M35 h1 h2 => ?_) h1 h2
        refine and_m_inForce (fun r36 h1 h2 => ?_) h1 h2
        refine ⟨fun hc => ?_, fun hc => ?_⟩
        · replace h1 := h1.1 hc
          replace h2 := h2.1 hc
          refine and_m_sets (fun M40 h1 h2 => ?_) h1 h2
          refine and_m_sets (fun M42 h1 h2 => ?_) h1 h2
          refine and_m_sets (fun M44 h1 h2 => ?_) h1 h2
          refine and_m_inForce (fun r45 h1 h2 => ?_) h1 h2
          exact hQ _ _ h1 h2
        · replace h1 := h1.2 hc
          replace h2 := h2.2 hc
          refine and_m_sets (fun M48 h1 h2 => ?_) h1 h2
          refine and_m_sets (fun M50 h1 h2 => ?_) h1 h2
          refine and_m_sets (fun M52 h1 h2 => ?_) h1 h2
          refine and_m_sets (fun M54 h1 h2 => ?_) h1 h2
          refine and_m_inForce (fun r55 h1 h2 => ?_) h1 h2
          exact hQ _ _ h1 h2
      · replace h1 := h1.2 hc
        replace h2 := h2.2 hc
        exact hQ _ _ h1 h2
  · replace h1 := h1.2 hc
    replace h2 := h2.2 hc
    exact hQ _ _ h1 h2
