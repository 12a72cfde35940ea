section
/-! TWO ENDS AT ONCE (gw.py) -/
theorem and_m_telling_76 {p1 : Int32} {p2 : Int32} {u3 : Int32} {u6 : Int32} {u7 : Int32} {u8 : Int32} {k178a k178b k178c : Int32 → Int32 → MM → Prop} {Q1 Q2 Q3 : Int32 → MM → Prop} (hk178 : ∀ (v4 : Int32) (v5 : Int32) (M : MM), k178a v4 v5 M → k178b v4 v5 M → k178c v4 v5 M) (hQ : ∀ (r : Int32) (M1 : MM), Q1 r M1 → Q2 r M1 → Q3 r M1) : ∀ (N : Nat) (v4 : Int32) (v5 : Int32) (v9 : Int32) (M : MM), W_m_telling_76 p1 p2 u3 u6 u7 u8 k178a Q1 N v4 v5 v9 M → W_m_telling_76 p1 p2 u3 u6 u7 u8 k178b Q2 N v4 v5 v9 M → W_m_telling_76 p1 p2 u3 u6 u7 u8 k178c Q3 N v4 v5 v9 M := by
  intro N
  induction N with
  | zero => intros; trivial
  | succ N IH =>
    intro v4 v5 v9 M h1 h2
    replace h1 : B_m_telling_76 p1 p2 u3 u6 u7 u8 k178a Q1 N (W_m_telling_76 p1 p2 u3 u6 u7 u8 k178a Q1 N) v4 v5 v9 M := h1
    replace h2 : B_m_telling_76 p1 p2 u3 u6 u7 u8 k178b Q2 N (W_m_telling_76 p1 p2 u3 u6 u7 u8 k178b Q2 N) v4 v5 v9 M := h2
    show B_m_telling_76 p1 p2 u3 u6 u7 u8 k178c Q3 N (W_m_telling_76 p1 p2 u3 u6 u7 u8 k178c Q3 N) v4 v5 v9 M
    unfold B_m_telling_76 at h1 h2 ⊢
    refine ⟨fun hc => ?_, fun hc => ?_⟩
    · replace h1 := h1.1 hc
      replace h2 := h2.1 hc
      refine ⟨fun hc => ?_, fun hc => ?_⟩
      · replace h1 := h1.1 hc
        replace h2 := h2.1 hc
        refine ⟨fun hc => ?_, fun hc => ?_⟩
        · replace h1 := h1.1 hc
          replace h2 := h2.1 hc
          exact IH _ _ _ _ h1 h2
        · replace h1 := h1.2 hc
          replace h2 := h2.2 hc
          refine and_m_sets (fun M14 h1 h2 => ?_) h1 h2
          refine and_m_riskOf (fun r15 M16 h1 h2 => ?_) h1 h2
          refine and_m_sets (fun M18 h1 h2 => ?_) h1 h2
          refine ⟨fun hc => ?_, fun hc => ?_⟩
          · replace h1 := h1.1 hc
            replace h2 := h2.1 hc
            exact IH _ _ _ _ h1 h2
          · replace h1 := h1.2 hc
            replace h2 := h2.2 hc
            refine ⟨fun hc => ?_, fun hc => ?_⟩
            · replace h1 := h1.1 hc
              replace h2 := h2.1 hc
              exact IH _ _ _ _ h1 h2
            · replace h1 := h1.2 hc
              replace h2 := h2.2 hc
              exact IH _ _ _ _ h1 h2
      · replace h1 := h1.2 hc
        replace h2 := h2.2 hc
        exact IH _ _ _ _ h1 h2
    · replace h1 := h1.2 hc
      replace h2 := h2.2 hc
      exact hk178 _ _ _ h1 h2
theorem and_m_telling_33 {p1 : Int32} {p2 : Int32} {u3 : Int32} {Q1 Q2 Q3 : Int32 → MM → Prop} (hQ : ∀ (r : Int32) (M1 : MM), Q1 r M1 → Q2 r M1 → Q3 r M1) : ∀ (N : Nat) (v4 : Int32) (v5 : Int32) (v6 : Int32) (M : MM), W_m_telling_33 p1 p2 u3 Q1 N v4 v5 v6 M → W_m_telling_33 p1 p2 u3 Q2 N v4 v5 v6 M → W_m_telling_33 p1 p2 u3 Q3 N v4 v5 v6 M := by
  intro N
  induction N with
  | zero => intros; trivial
  | succ N IH =>
    intro v4 v5 v6 M h1 h2
    replace h1 : B_m_telling_33 p1 p2 u3 Q1 N (W_m_telling_33 p1 p2 u3 Q1 N) v4 v5 v6 M := h1
    replace h2 : B_m_telling_33 p1 p2 u3 Q2 N (W_m_telling_33 p1 p2 u3 Q2 N) v4 v5 v6 M := h2
    show B_m_telling_33 p1 p2 u3 Q3 N (W_m_telling_33 p1 p2 u3 Q3 N) v4 v5 v6 M
    unfold B_m_telling_33 at h1 h2 ⊢
    refine ⟨fun hc => ?_, fun hc => ?_⟩
    · replace h1 := h1.1 hc
      replace h2 := h2.1 hc
      refine ⟨fun hc => ?_, fun hc => ?_⟩
      · replace h1 := h1.1 hc
        replace h2 := h2.1 hc
        exact IH _ _ _ _ h1 h2
      · replace h1 := h1.2 hc
        replace h2 := h2.2 hc
        refine and_m_riskOf (fun r8 M9 h1 h2 => ?_) h1 h2
        refine and_m_telling_76 (fun x21 x22 M23 h1 h2 => ?_) hQ N _ _ _ _ h1 h2
        · exact IH _ _ _ _ h1 h2
    · replace h1 := h1.2 hc
      replace h2 := h2.2 hc
      refine ⟨fun hc => ?_, fun hc => ?_⟩
      · replace h1 := h1.1 hc
        replace h2 := h2.1 hc
        exact hQ _ _ h1 h2
      · replace h1 := h1.2 hc
        replace h2 := h2.2 hc
        exact hQ _ _ h1 h2
theorem and_m_telling {p1 : Int32} {p2 : Int32} {N : Nat} {M : MM} {Q1 Q2 Q3 : Int32 → MM → Prop} (hQ : ∀ (r : Int32) (M1 : MM), Q1 r M1 → Q2 r M1 → Q3 r M1) (h1 : W_m_telling p1 p2 N M Q1) (h2 : W_m_telling p1 p2 N M Q2) : W_m_telling p1 p2 N M Q3 := by
  unfold W_m_telling at h1 h2 ⊢
  refine and_m_throwsIf (fun r1 M2 h1 h2 => ?_) h1 h2
  refine ⟨fun hc => ?_, fun hc => ?_⟩
  · replace h1 := h1.1 hc
    replace h2 := h2.1 hc
    refine and_m_inForce (fun r4 h1 h2 => ?_) h1 h2
    refine and_m_telling_33  hQ N _ _ _ _ h1 h2
  · replace h1 := h1.2 hc
    replace h2 := h2.2 hc
    exact hQ _ _ h1 h2
theorem and_m_deduced_45 {p1 : Int32} {Q1 Q2 Q3 : Int32 → MM → Prop} (hQ : ∀ (r : Int32) (M1 : MM), Q1 r M1 → Q2 r M1 → Q3 r M1) : ∀ (N : Nat) (v2 : Int32) (v3 : Int32) (M : MM), W_m_deduced_45 p1 Q1 N v2 v3 M → W_m_deduced_45 p1 Q2 N v2 v3 M → W_m_deduced_45 p1 Q3 N v2 v3 M := by
  intro N
  induction N with
  | zero => intros; trivial
  | succ N IH =>
    intro v2 v3 M h1 h2
    replace h1 : B_m_deduced_45 p1 Q1 N (W_m_deduced_45 p1 Q1 N) v2 v3 M := h1
    replace h2 : B_m_deduced_45 p1 Q2 N (W_m_deduced_45 p1 Q2 N) v2 v3 M := h2
    show B_m_deduced_45 p1 Q3 N (W_m_deduced_45 p1 Q3 N) v2 v3 M
    unfold B_m_deduced_45 at h1 h2 ⊢
    refine ⟨fun hc => ?_, fun hc => ?_⟩
    · replace h1 := h1.1 hc
      replace h2 := h2.1 hc
      refine ⟨fun hc => ?_, fun hc => ?_⟩
      · replace h1 := h1.1 hc
        replace h2 := h2.1 hc
        exact IH _ _ _ h1 h2
      · replace h1 := h1.2 hc
        replace h2 := h2.2 hc
        refine and_m_inForce (fun r10 h1 h2 => ?_) h1 h2
        refine and_m_forbidsNow (fun r12 M13 h1 h2 => ?_) h1 h2
        exact IH _ _ _ h1 h2
    · replace h1 := h1.2 hc
      replace h2 := h2.2 hc
      exact hQ _ _ h1 h2
theorem and_m_deduced {p1 : Int32} {N : Nat} {M : MM} {Q1 Q2 Q3 : Int32 → MM → Prop} (hQ : ∀ (r : Int32) (M1 : MM), Q1 r M1 → Q2 r M1 → Q3 r M1) (h1 : W_m_deduced p1 N M Q1) (h2 : W_m_deduced p1 N M Q2) : W_m_deduced p1 N M Q3 := by
  unfold W_m_deduced at h1 h2 ⊢
  refine and_m_throwsIf (fun r1 M2 h1 h2 => ?_) h1 h2
  refine ⟨fun hc => ?_, fun hc => ?_⟩
  · replace h1 := h1.1 hc
    replace h2 := h2.1 hc
    refine ⟨fun hc => ?_, fun hc => ?_⟩
    · replace h1 := h1.1 hc
      replace h2 := h2.1 hc
      refine and_m_throwsIf (fun r5 M6 h1 h2 => ?_) h1 h2
      refine ⟨fun hc => ?_, fun hc => ?_⟩
      · replace h1 := h1.1 hc
        replace h2 := h2.1 hc
        refine and_m_deduced_45  hQ N _ _ _ h1 h2
      · replace h1 := h1.2 hc
        replace h2 := h2.2 hc
        exact hQ _ _ h1 h2
    · replace h1 := h1.2 hc
      replace h2 := h2.2 hc
      refine and_m_throwsIf (fun r14 M15 h1 h2 => ?_) h1 h2
      refine ⟨fun hc => ?_, fun hc => ?_⟩
      · replace h1 := h1.1 hc
        replace h2 := h2.1 hc
        refine and_m_deduced_45  hQ N _ _ _ h1 h2
      · replace h1 := h1.2 hc
        replace h2 := h2.2 hc
        exact hQ _ _ h1 h2
  · replace h1 := h1.2 hc
    replace h2 := h2.2 hc
    exact hQ _ _ h1 h2
theorem and_m_hush_45 {p1 : Int32} {u3 : Int32} {k92a k92b k92c : Int32 → MM → Prop} {Q1 Q2 Q3 : Int32 → MM → Prop} (hk92 : ∀ (v2 : Int32) (M : MM), k92a v2 M → k92b v2 M → k92c v2 M) (hQ : ∀ (r : Int32) (M1 : MM), Q1 r M1 → Q2 r M1 → Q3 r M1) : ∀ (N : Nat) (v2 : Int32) (v4 : Int32) (M : MM), W_m_hush_45 p1 u3 k92a Q1 N v2 v4 M → W_m_hush_45 p1 u3 k92b Q2 N v2 v4 M → W_m_hush_45 p1 u3 k92c Q3 N v2 v4 M := by
  intro N
  induction N with
  | zero => intros; trivial
  | succ N IH =>
    intro v2 v4 M h1 h2
    replace h1 : B_m_hush_45 p1 u3 k92a Q1 N (W_m_hush_45 p1 u3 k92a Q1 N) v2 v4 M := h1
    replace h2 : B_m_hush_45 p1 u3 k92b Q2 N (W_m_hush_45 p1 u3 k92b Q2 N) v2 v4 M := h2
    show B_m_hush_45 p1 u3 k92c Q3 N (W_m_hush_45 p1 u3 k92c Q3 N) v2 v4 M
    unfold B_m_hush_45 at h1 h2 ⊢
    refine ⟨fun hc => ?_, fun hc => ?_⟩
    · replace h1 := h1.1 hc
      replace h2 := h2.1 hc
      refine ⟨fun hc => ?_, fun hc => ?_⟩
      · replace h1 := h1.1 hc
        replace h2 := h2.1 hc
        exact IH _ _ _ h1 h2
      · replace h1 := h1.2 hc
        replace h2 := h2.2 hc
        refine and_m_may (fun r10 M11 h1 h2 => ?_) h1 h2
        refine ⟨fun hc => ?_, fun hc => ?_⟩
        · replace h1 := h1.1 hc
          replace h2 := h2.1 hc
          exact IH _ _ _ h1 h2
        · replace h1 := h1.2 hc
          replace h2 := h2.2 hc
          exact IH _ _ _ h1 h2
    · replace h1 := h1.2 hc
      replace h2 := h2.2 hc
      exact hk92 _ _ h1 h2
theorem and_m_hush_36 {p1 : Int32} {Q1 Q2 Q3 : Int32 → MM → Prop} (hQ : ∀ (r : Int32) (M1 : MM), Q1 r M1 → Q2 r M1 → Q3 r M1) : ∀ (N : Nat) (v2 : Int32) (v3 : Int32) (M : MM), W_m_hush_36 p1 Q1 N v2 v3 M → W_m_hush_36 p1 Q2 N v2 v3 M → W_m_hush_36 p1 Q3 N v2 v3 M := by
  intro N
  induction N with
  | zero => intros; trivial
  | succ N IH =>
    intro v2 v3 M h1 h2
    replace h1 : B_m_hush_36 p1 Q1 N (W_m_hush_36 p1 Q1 N) v2 v3 M := h1
    replace h2 : B_m_hush_36 p1 Q2 N (W_m_hush_36 p1 Q2 N) v2 v3 M := h2
    show B_m_hush_36 p1 Q3 N (W_m_hush_36 p1 Q3 N) v2 v3 M
    unfold B_m_hush_36 at h1 h2 ⊢
    refine ⟨fun hc => ?_, fun hc => ?_⟩
    · replace h1 := h1.1 hc
      replace h2 := h2.1 hc
      refine and_m_hush_45 (fun x13 M14 h1 h2 => ?_) hQ N _ _ _ h1 h2
      · exact IH _ _ _ h1 h2
    · replace h1 := h1.2 hc
      replace h2 := h2.2 hc
      exact hQ _ _ h1 h2
theorem and_m_hush {p1 : Int32} {N : Nat} {M : MM} {Q1 Q2 Q3 : Int32 → MM → Prop} (hQ : ∀ (r : Int32) (M1 : MM), Q1 r M1 → Q2 r M1 → Q3 r M1) (h1 : W_m_hush p1 N M Q1) (h2 : W_m_hush p1 N M Q2) : W_m_hush p1 N M Q3 := by
  unfold W_m_hush at h1 h2 ⊢
  refine and_m_throwsIf (fun r1 M2 h1 h2 => ?_) h1 h2
  refine ⟨fun hc => ?_, fun hc => ?_⟩
  · replace h1 := h1.1 hc
    replace h2 := h2.1 hc
    refine and_m_alive (fun r4 h1 h2 => ?_) h1 h2
    refine ⟨fun hc => ?_, fun hc => ?_⟩
    · replace h1 := h1.1 hc
      replace h2 := h2.1 hc
      refine and_m_hush_36  hQ N _ _ _ h1 h2
    · replace h1 := h1.2 hc
      replace h2 := h2.2 hc
      refine and_m_hush_36  hQ N _ _ _ h1 h2
  · replace h1 := h1.2 hc
    replace h2 := h2.2 hc
    exact hQ _ _ h1 h2
theorem and_m_usual_21 {p1 : Int32} {k40a k40b k40c : MM → Prop} {Q1 Q2 Q3 : Int32 → MM → Prop} (hk40 : ∀  (M : MM), k40a M → k40b M → k40c M) (hQ : ∀ (r : Int32) (M1 : MM), Q1 r M1 → Q2 r M1 → Q3 r M1) : ∀ (N : Nat) (v2 : Int32) (M : MM), W_m_usual_21 p1 k40a Q1 N v2 M → W_m_usual_21 p1 k40b Q2 N v2 M → W_m_usual_21 p1 k40c Q3 N v2 M := by
  intro N
  induction N with
  | zero => intros; trivial
  | succ N IH =>
    intro v2 M h1 h2
    replace h1 : B_m_usual_21 p1 k40a Q1 N (W_m_usual_21 p1 k40a Q1 N) v2 M := h1
    replace h2 : B_m_usual_21 p1 k40b Q2 N (W_m_usual_21 p1 k40b Q2 N) v2 M := h2
    show B_m_usual_21 p1 k40c Q3 N (W_m_usual_21 p1 k40c Q3 N) v2 M
    unfold B_m_usual_21 at h1 h2 ⊢
    refine ⟨fun hc => ?_, fun hc => ?_⟩
    · replace h1 := h1.1 hc
      replace h2 := h2.1 hc
      exact IH _ _ h1 h2
    · replace h1 := h1.2 hc
      replace h2 := h2.2 hc
      exact hk40 _ h1 h2
theorem and_m_usual_52 {p1 : Int32} {u2 : Int32} {k113a k113b k113c : MM → Prop} {Q1 Q2 Q3 : Int32 → MM → Prop} (hk113 : ∀  (M : MM), k113a M → k113b M → k113c M) (hQ : ∀ (r : Int32) (M1 : MM), Q1 r M1 → Q2 r M1 → Q3 r M1) : ∀ (N : Nat) (v3 : Int32) (M : MM), W_m_usual_52 p1 u2 k113a Q1 N v3 M → W_m_usual_52 p1 u2 k113b Q2 N v3 M → W_m_usual_52 p1 u2 k113c Q3 N v3 M := by
  intro N
  induction N with
  | zero => intros; trivial
  | succ N IH =>
    intro v3 M h1 h2
    replace h1 : B_m_usual_52 p1 u2 k113a Q1 N (W_m_usual_52 p1 u2 k113a Q1 N) v3 M := h1
    replace h2 : B_m_usual_52 p1 u2 k113b Q2 N (W_m_usual_52 p1 u2 k113b Q2 N) v3 M := h2
    show B_m_usual_52 p1 u2 k113c Q3 N (W_m_usual_52 p1 u2 k113c Q3 N) v3 M
    unfold B_m_usual_52 at h1 h2 ⊢
    refine ⟨fun hc => ?_, fun hc => ?_⟩
    · replace h1 := h1.1 hc
      replace h2 := h2.1 hc
      exact hk113 _ h1 h2
    · replace h1 := h1.2 hc
      replace h2 := h2.2 hc
      refine ⟨fun hc => ?_, fun hc => ?_⟩
      · replace h1 := h1.1 hc
        replace h2 := h2.1 hc
        refine ⟨fun hc => ?_, fun hc => ?_⟩
        · replace h1 := h1.1 hc
          replace h2 := h2.1 hc
          exact IH _ _ h1 h2
        · replace h1 := h1.2 hc
          replace h2 := h2.2 hc
          exact IH _ _ h1 h2
      · replace h1 := h1.2 hc
        replace h2 := h2.2 hc
        exact hk113 _ h1 h2
theorem and_m_usual_42 {p1 : Int32} {k119a k119b k119c : MM → Prop} {Q1 Q2 Q3 : Int32 → MM → Prop} (hk119 : ∀  (M : MM), k119a M → k119b M → k119c M) (hQ : ∀ (r : Int32) (M1 : MM), Q1 r M1 → Q2 r M1 → Q3 r M1) : ∀ (N : Nat) (v2 : Int32) (M : MM), W_m_usual_42 p1 k119a Q1 N v2 M → W_m_usual_42 p1 k119b Q2 N v2 M → W_m_usual_42 p1 k119c Q3 N v2 M := by
  intro N
  induction N with
  | zero => intros; trivial
  | succ N IH =>
    intro v2 M h1 h2
    replace h1 : B_m_usual_42 p1 k119a Q1 N (W_m_usual_42 p1 k119a Q1 N) v2 M := h1
    replace h2 : B_m_usual_42 p1 k119b Q2 N (W_m_usual_42 p1 k119b Q2 N) v2 M := h2
    show B_m_usual_42 p1 k119c Q3 N (W_m_usual_42 p1 k119c Q3 N) v2 M
    unfold B_m_usual_42 at h1 h2 ⊢
    refine ⟨fun hc => ?_, fun hc => ?_⟩
    · replace h1 := h1.1 hc
      replace h2 := h2.1 hc
      refine and_m_usual_52 (fun M10 h1 h2 => ?_) hQ N _ _ h1 h2
      · exact IH _ _ h1 h2
    · replace h1 := h1.2 hc
      replace h2 := h2.2 hc
      exact hk119 _ h1 h2
theorem and_m_usual_123 {p1 : Int32} {M : MM} {Q1 Q2 Q3 : Int32 → MM → Prop} (hQ : ∀ (r : Int32) (M1 : MM), Q1 r M1 → Q2 r M1 → Q3 r M1) : ∀ (N : Nat) (v2 : Int32) (v3 : Int32), W_m_usual_123 p1 M Q1 N v2 v3 → W_m_usual_123 p1 M Q2 N v2 v3 → W_m_usual_123 p1 M Q3 N v2 v3 := by
  intro N
  induction N with
  | zero => intros; trivial
  | succ N IH =>
    intro v2 v3 h1 h2
    replace h1 : B_m_usual_123 p1 M Q1 N (W_m_usual_123 p1 M Q1 N) v2 v3 := h1
    replace h2 : B_m_usual_123 p1 M Q2 N (W_m_usual_123 p1 M Q2 N) v2 v3 := h2
    show B_m_usual_123 p1 M Q3 N (W_m_usual_123 p1 M Q3 N) v2 v3
    unfold B_m_usual_123 at h1 h2 ⊢
    refine ⟨fun hc => ?_, fun hc => ?_⟩
    · replace h1 := h1.1 hc
      replace h2 := h2.1 hc
      refine ⟨fun hc => ?_, fun hc => ?_⟩
      · replace h1 := h1.1 hc
        replace h2 := h2.1 hc
        refine ⟨fun hc => ?_, fun hc => ?_⟩
        · replace h1 := h1.1 hc
          replace h2 := h2.1 hc
          exact IH _ _ h1 h2
        · replace h1 := h1.2 hc
          replace h2 := h2.2 hc
          refine ⟨fun hc => ?_, fun hc => ?_⟩
          · replace h1 := h1.1 hc
            replace h2 := h2.1 hc
            exact IH _ _ h1 h2
          · replace h1 := h1.2 hc
            replace h2 := h2.2 hc
            exact IH _ _ h1 h2
      · replace h1 := h1.2 hc
        replace h2 := h2.2 hc
        exact IH _ _ h1 h2
    · replace h1 := h1.2 hc
      replace h2 := h2.2 hc
      exact hQ _ _ h1 h2
theorem and_m_usual {p1 : Int32} {N : Nat} {M : MM} {Q1 Q2 Q3 : Int32 → MM → Prop} (hQ : ∀ (r : Int32) (M1 : MM), Q1 r M1 → Q2 r M1 → Q3 r M1) (h1 : W_m_usual p1 N M Q1) (h2 : W_m_usual p1 N M Q2) : W_m_usual p1 N M Q3 := by
  unfold W_m_usual at h1 h2 ⊢
  refine and_m_throwsIf (fun r1 M2 h1 h2 => ?_) h1 h2
  refine ⟨fun hc => ?_, fun hc => ?_⟩
  · replace h1 := h1.1 hc
    replace h2 := h2.1 hc
    refine and_m_usual_21 (fun M5 h1 h2 => ?_) hQ N _ _ h1 h2
    · refine and_m_usual_42 (fun M11 h1 h2 => ?_) hQ N _ _ h1 h2
      · refine and_m_usual_123  hQ N _ _ h1 h2
  · replace h1 := h1.2 hc
    replace h2 := h2.2 hc
    exact hQ _ _ h1 h2
theorem and_m_feared_15 {p1 : Int32} {M : MM} {Q1 Q2 Q3 : Int64 → MM → Prop} (hQ : ∀ (r : Int64) (M1 : MM), Q1 r M1 → Q2 r M1 → Q3 r M1) : ∀ (N : Nat) (v2 : Int64) (v4 : Int64) (v6 : Int32), W_m_feared_15 p1 M Q1 N v2 v4 v6 → W_m_feared_15 p1 M Q2 N v2 v4 v6 → W_m_feared_15 p1 M Q3 N v2 v4 v6 := by
  intro N
  induction N with
  | zero => intros; trivial
  | succ N IH =>
    intro v2 v4 v6 h1 h2
    replace h1 : B_m_feared_15 p1 M Q1 N (W_m_feared_15 p1 M Q1 N) v2 v4 v6 := h1
    replace h2 : B_m_feared_15 p1 M Q2 N (W_m_feared_15 p1 M Q2 N) v2 v4 v6 := h2
    show B_m_feared_15 p1 M Q3 N (W_m_feared_15 p1 M Q3 N) v2 v4 v6
    unfold B_m_feared_15 at h1 h2 ⊢
    refine ⟨fun hc => ?_, fun hc => ?_⟩
    · replace h1 := h1.1 hc
      replace h2 := h2.1 hc
      refine ⟨fun hc => ?_, fun hc => ?_⟩
      · replace h1 := h1.1 hc
        replace h2 := h2.1 hc
        exact IH _ _ _ h1 h2
      · replace h1 := h1.2 hc
        replace h2 := h2.2 hc
        exact IH _ _ _ h1 h2
    · replace h1 := h1.2 hc
      replace h2 := h2.2 hc
      refine and_m_alive (fun r3 h1 h2 => ?_) h1 h2
      refine ⟨fun hc => ?_, fun hc => ?_⟩
      · replace h1 := h1.1 hc
        replace h2 := h2.1 hc
        exact hQ _ _ h1 h2
      · replace h1 := h1.2 hc
        replace h2 := h2.2 hc
        refine ⟨fun hc => ?_, fun hc => ?_⟩
        · replace h1 := h1.1 hc
          replace h2 := h2.1 hc
          exact hQ _ _ h1 h2
        · replace h1 := h1.2 hc
          replace h2 := h2.2 hc
          exact hQ _ _ h1 h2
theorem and_m_feared {p1 : Int32} {N : Nat} {M : MM} {Q1 Q2 Q3 : Int64 → MM → Prop} (hQ : ∀ (r : Int64) (M1 : MM), Q1 r M1 → Q2 r M1 → Q3 r M1) (h1 : W_m_feared p1 N M Q1) (h2 : W_m_feared p1 N M Q2) : W_m_feared p1 N M Q3 := by
  unfold W_m_feared at h1 h2 ⊢
  refine and_m_feared_15  hQ N _ _ _ h1 h2
theorem and_m_halfOfOthers_28 {p1 : Int32} {u2 : Int32} {u3 : Int64} {u5 : Int32} {M : MM} {k83a k83b k83c : Int32 → Prop} {Q1 Q2 Q3 : Int64 → Prop} (hk83 : ∀ (v6 : Int32), k83a v6 → k83b v6 → k83c v6) (hQ : ∀ (r : Int64), Q1 r → Q2 r → Q3 r) : ∀ (N : Nat) (v6 : Int32) (v7 : Int32), W_m_halfOfOthers_28 p1 u2 u3 u5 M k83a Q1 N v6 v7 → W_m_halfOfOthers_28 p1 u2 u3 u5 M k83b Q2 N v6 v7 → W_m_halfOfOthers_28 p1 u2 u3 u5 M k83c Q3 N v6 v7 := by
  intro N
  induction N with
  | zero => intros; trivial
  | succ N IH =>
    intro v6 v7 h1 h2
    replace h1 : B_m_halfOfOthers_28 p1 u2 u3 u5 M k83a Q1 N (W_m_halfOfOthers_28 p1 u2 u3 u5 M k83a Q1 N) v6 v7 := h1
    replace h2 : B_m_halfOfOthers_28 p1 u2 u3 u5 M k83b Q2 N (W_m_halfOfOthers_28 p1 u2 u3 u5 M k83b Q2 N) v6 v7 := h2
    show B_m_halfOfOthers_28 p1 u2 u3 u5 M k83c Q3 N (W_m_halfOfOthers_28 p1 u2 u3 u5 M k83c Q3 N) v6 v7
    unfold B_m_halfOfOthers_28 at h1 h2 ⊢
    refine ⟨fun hc => ?_, fun hc => ?_⟩
    · replace h1 := h1.1 hc
      replace h2 := h2.1 hc
      refine ⟨fun hc => ?_, fun hc => ?_⟩
      · replace h1 := h1.1 hc
        replace h2 := h2.1 hc
        exact IH _ _ h1 h2
      · replace h1 := h1.2 hc
        replace h2 := h2.2 hc
        refine ⟨fun hc => ?_, fun hc => ?_⟩
        · replace h1 := h1.1 hc
          replace h2 := h2.1 hc
          exact IH _ _ h1 h2
        · replace h1 := h1.2 hc
          replace h2 := h2.2 hc
          refine ⟨fun hc => ?_, fun hc => ?_⟩
          · replace h1 := h1.1 hc
            replace h2 := h2.1 hc
            exact IH _ _ h1 h2
          · replace h1 := h1.2 hc
            replace h2 := h2.2 hc
            exact IH _ _ h1 h2
    · replace h1 := h1.2 hc
      replace h2 := h2.2 hc
      exact hk83 _ h1 h2
theorem and_m_halfOfOthers_15 {p1 : Int32} {u2 : Int32} {M : MM} {Q1 Q2 Q3 : Int64 → Prop} (hQ : ∀ (r : Int64), Q1 r → Q2 r → Q3 r) : ∀ (N : Nat) (v3 : Int64) (v5 : Int32), W_m_halfOfOthers_15 p1 u2 M Q1 N v3 v5 → W_m_halfOfOthers_15 p1 u2 M Q2 N v3 v5 → W_m_halfOfOthers_15 p1 u2 M Q3 N v3 v5 := by
  intro N
  induction N with
  | zero => intros; trivial
  | succ N IH =>
    intro v3 v5 h1 h2
    replace h1 : B_m_halfOfOthers_15 p1 u2 M Q1 N (W_m_halfOfOthers_15 p1 u2 M Q1 N) v3 v5 := h1
    replace h2 : B_m_halfOfOthers_15 p1 u2 M Q2 N (W_m_halfOfOthers_15 p1 u2 M Q2 N) v3 v5 := h2
    show B_m_halfOfOthers_15 p1 u2 M Q3 N (W_m_halfOfOthers_15 p1 u2 M Q3 N) v3 v5
    unfold B_m_halfOfOthers_15 at h1 h2 ⊢
    refine ⟨fun hc => ?_, fun hc => ?_⟩
    · replace h1 := h1.1 hc
      replace h2 := h2.1 hc
      refine and_m_halfOfOthers_28 (fun x8 h1 h2 => ?_) hQ N _ _ h1 h2
      · refine ⟨fun hc => ?_, fun hc => ?_⟩
        · replace h1 := h1.1 hc
          replace h2 := h2.1 hc
          exact IH _ _ h1 h2
        · replace h1 := h1.2 hc
          replace h2 := h2.2 hc
          exact IH _ _ h1 h2
    · replace h1 := h1.2 hc
      replace h2 := h2.2 hc
      exact hQ _ h1 h2
theorem and_m_halfOfOthers {p1 : Int32} {N : Nat} {M : MM} {Q1 Q2 Q3 : Int64 → Prop} (hQ : ∀ (r : Int64), Q1 r → Q2 r → Q3 r) (h1 : W_m_halfOfOthers p1 N M Q1) (h2 : W_m_halfOfOthers p1 N M Q2) : W_m_halfOfOthers p1 N M Q3 := by
  unfold W_m_halfOfOthers at h1 h2 ⊢
  refine and_m_alive (fun r1 h1 h2 => ?_) h1 h2
  refine and_m_halfOfOthers_15  hQ N _ _ h1 h2
theorem and_m_goesRound_4  {Q1 Q2 Q3 : Int32 → MM → Prop} (hQ : ∀ (r : Int32) (M1 : MM), Q1 r M1 → Q2 r M1 → Q3 r M1) : ∀ (N : Nat) (v1 : Int32) (v2 : Int32) (M : MM), W_m_goesRound_4 Q1 N v1 v2 M → W_m_goesRound_4 Q2 N v1 v2 M → W_m_goesRound_4 Q3 N v1 v2 M := by
  intro N
  induction N with
  | zero => intros; trivial
  | succ N IH =>
    intro v1 v2 M h1 h2
    replace h1 : B_m_goesRound_4 Q1 N (W_m_goesRound_4 Q1 N) v1 v2 M := h1
    replace h2 : B_m_goesRound_4 Q2 N (W_m_goesRound_4 Q2 N) v1 v2 M := h2
    show B_m_goesRound_4 Q3 N (W_m_goesRound_4 Q3 N) v1 v2 M
    unfold B_m_goesRound_4 at h1 h2 ⊢
    refine ⟨fun hc => ?_, fun hc => ?_⟩
    · replace h1 := h1.1 hc
      replace h2 := h2.1 hc
      refine ⟨fun hc => ?_, fun hc => ?_⟩
      · replace h1 := h1.1 hc
        replace h2 := h2.1 hc
        refine ⟨fun hc => ?_, fun hc => ?_⟩
        · replace h1 := h1.1 hc
          replace h2 := h2.1 hc
          refine ⟨fun hc => ?_, fun hc => ?_⟩
          · replace h1 := h1.1 hc
            replace h2 := h2.1 hc
            exact IH _ _ _ h1 h2
          · replace h1 := h1.2 hc
            replace h2 := h2.2 hc
            exact IH _ _ _ h1 h2
        · replace h1 := h1.2 hc
          replace h2 := h2.2 hc
          exact IH _ _ _ h1 h2
      · replace h1 := h1.2 hc
        replace h2 := h2.2 hc
        refine and_m_halfOfOthers (fun r5 h1 h2 => ?_) h1 h2
        refine ⟨fun hc => ?_, fun hc => ?_⟩
        · replace h1 := h1.1 hc
          replace h2 := h2.1 hc
          refine ⟨fun hc => ?_, fun hc => ?_⟩
          · replace h1 := h1.1 hc
            replace h2 := h2.1 hc
            exact IH _ _ _ h1 h2
          · replace h1 := h1.2 hc
            replace h2 := h2.2 hc
            exact IH _ _ _ h1 h2
        · replace h1 := h1.2 hc
          replace h2 := h2.2 hc
          exact IH _ _ _ h1 h2
    · replace h1 := h1.2 hc
      replace h2 := h2.2 hc
      refine and_m_likensSeen (fun M10 h1 h2 => ?_) h1 h2
      exact hQ _ _ h1 h2
theorem and_m_goesRound  {N : Nat} {M : MM} {Q1 Q2 Q3 : Int32 → MM → Prop} (hQ : ∀ (r : Int32) (M1 : MM), Q1 r M1 → Q2 r M1 → Q3 r M1) (h1 : W_m_goesRound  N M Q1) (h2 : W_m_goesRound  N M Q2) : W_m_goesRound  N M Q3 := by
  unfold W_m_goesRound at h1 h2 ⊢
  refine and_m_goesRound_4  hQ N _ _ _ h1 h2
theorem and_m_sumOf_4 {a : Nat} {M : MM} {Q1 Q2 Q3 : Int32 → Prop} (hQ : ∀ (r : Int32), Q1 r → Q2 r → Q3 r) : ∀ (N : Nat) (v2 : Int32) (v3 : Int32), W_m_sumOf_4 a M Q1 N v2 v3 → W_m_sumOf_4 a M Q2 N v2 v3 → W_m_sumOf_4 a M Q3 N v2 v3 := by
  intro N
  induction N with
  | zero => intros; trivial
  | succ N IH =>
    intro v2 v3 h1 h2
    replace h1 : B_m_sumOf_4 a M Q1 N (W_m_sumOf_4 a M Q1 N) v2 v3 := h1
    replace h2 : B_m_sumOf_4 a M Q2 N (W_m_sumOf_4 a M Q2 N) v2 v3 := h2
    show B_m_sumOf_4 a M Q3 N (W_m_sumOf_4 a M Q3 N) v2 v3
    unfold B_m_sumOf_4 at h1 h2 ⊢
    refine ⟨fun hc => ?_, fun hc => ?_⟩
    · replace h1 := h1.1 hc
      replace h2 := h2.1 hc
      refine ⟨fun hc => ?_, fun hc => ?_⟩
      · replace h1 := h1.1 hc
        replace h2 := h2.1 hc
        exact IH _ _ h1 h2
      · replace h1 := h1.2 hc
        replace h2 := h2.2 hc
        exact IH _ _ h1 h2
    · replace h1 := h1.2 hc
      replace h2 := h2.2 hc
      exact hQ _ h1 h2
theorem and_m_sumOf {a : Nat} {N : Nat} {M : MM} {Q1 Q2 Q3 : Int32 → Prop} (hQ : ∀ (r : Int32), Q1 r → Q2 r → Q3 r) (h1 : W_m_sumOf a N M Q1) (h2 : W_m_sumOf a N M Q2) : W_m_sumOf a N M Q3 := by
  unfold W_m_sumOf at h1 h2 ⊢
  refine and_m_sumOf_4  hQ N _ _ h1 h2
theorem and_m_custom_45 {p1 : Int32} {Q1 Q2 Q3 : Int32 → MM → Prop} (hQ : ∀ (r : Int32) (M1 : MM), Q1 r M1 → Q2 r M1 → Q3 r M1) : ∀ (N : Nat) (v2 : Int32) (M : MM), W_m_custom_45 p1 Q1 N v2 M → W_m_custom_45 p1 Q2 N v2 M → W_m_custom_45 p1 Q3 N v2 M := by
  intro N
  induction N with
  | zero => intros; trivial
  | succ N IH =>
    intro v2 M h1 h2
    replace h1 : B_m_custom_45 p1 Q1 N (W_m_custom_45 p1 Q1 N) v2 M := h1
    replace h2 : B_m_custom_45 p1 Q2 N (W_m_custom_45 p1 Q2 N) v2 M := h2
    show B_m_custom_45 p1 Q3 N (W_m_custom_45 p1 Q3 N) v2 M
    unfold B_m_custom_45 at h1 h2 ⊢
    refine ⟨fun hc => ?_, fun hc => ?_⟩
    · replace h1 := h1.1 hc
      replace h2 := h2.1 hc
      refine and_m_goesRound (fun r8 M9 h1 h2 => ?_) h1 h2
      exact IH _ _ h1 h2
    · replace h1 := h1.2 hc
      replace h2 := h2.2 hc
      refine and_m_sumOf (fun r10 h1 h2 => ?_) h1 h2
      exact hQ _ _ h1 h2
theorem and_m_custom {p1 : Int32} {N : Nat} {M : MM} {Q1 Q2 Q3 : Int32 → MM → Prop} (hQ : ∀ (r : Int32) (M1 : MM), Q1 r M1 → Q2 r M1 → Q3 r M1) (h1 : W_m_custom p1 N M Q1) (h2 : W_m_custom p1 N M Q2) : W_m_custom p1 N M Q3 := by
  unfold W_m_custom at h1 h2 ⊢
  refine ⟨fun hc => ?_, fun hc => ?_⟩
  · replace h1 := h1.1 hc
    replace h2 := h2.1 hc
    refine and_m_throwsIf (fun r2 M3 h1 h2 => ?_) h1 h2
    refine ⟨fun hc => ?_, fun hc => ?_⟩
    · replace h1 := h1.1 hc
      replace h2 := h2.1 hc
      refine and_m_likensSeen (fun M6 h1 h2 => ?_) h1 h2
      refine and_m_custom_45  hQ N _ _ h1 h2
    · replace h1 := h1.2 hc
      replace h2 := h2.2 hc
      exact hQ _ _ h1 h2
  · replace h1 := h1.2 hc
    replace h2 := h2.2 hc
    refine and_m_throwsIf (fun r12 M13 h1 h2 => ?_) h1 h2
    refine ⟨fun hc => ?_, fun hc => ?_⟩
    · replace h1 := h1.1 hc
      replace h2 := h2.1 hc
      refine and_m_likensSeen (fun M16 h1 h2 => ?_) h1 h2
      refine and_m_custom_45  hQ N _ _ h1 h2
    · replace h1 := h1.2 hc
      replace h2 := h2.2 hc
      exact hQ _ _ h1 h2
theorem and_m_settles_20  {Q1 Q2 Q3 : Int32 → MM → Prop} (hQ : ∀ (r : Int32) (M1 : MM), Q1 r M1 → Q2 r M1 → Q3 r M1) : ∀ (N : Nat) (v1 : Int32) (M : MM), W_m_settles_20 Q1 N v1 M → W_m_settles_20 Q2 N v1 M → W_m_settles_20 Q3 N v1 M := by
  intro N
  induction N with
  | zero => intros; trivial
  | succ N IH =>
    intro v1 M h1 h2
    replace h1 : B_m_settles_20 Q1 N (W_m_settles_20 Q1 N) v1 M := h1
    replace h2 : B_m_settles_20 Q2 N (W_m_settles_20 Q2 N) v1 M := h2
    show B_m_settles_20 Q3 N (W_m_settles_20 Q3 N) v1 M
    unfold B_m_settles_20 at h1 h2 ⊢
    refine ⟨fun hc => ?_, fun hc => ?_⟩
    · replace h1 := h1.1 hc
      replace h2 := h2.1 hc
      exact hQ _ _ h1 h2
    · replace h1 := h1.2 hc
      replace h2 := h2.2 hc
      refine and_m_goesRound (fun r4 M5 h1 h2 => ?_) h1 h2
      refine ⟨fun hc => ?_, fun hc => ?_⟩
      · replace h1 := h1.1 hc
        replace h2 := h2.1 hc
        exact hQ _ _ h1 h2
      · replace h1 := h1.2 hc
        replace h2 := h2.2 hc
        exact IH _ _ h1 h2
theorem and_m_settles  {N : Nat} {M : MM} {Q1 Q2 Q3 : Int32 → MM → Prop} (hQ : ∀ (r : Int32) (M1 : MM), Q1 r M1 → Q2 r M1 → Q3 r M1) (h1 : W_m_settles  N M Q1) (h2 : W_m_settles  N M Q2) : W_m_settles  N M Q3 := by
  unfold W_m_settles at h1 h2 ⊢
  refine and_m_likensSeen (fun M2 h1 h2 => ?_) h1 h2
  refine and_m_settles_20  hQ N _ _ h1 h2
theorem and_m_worthOf {p1 : Int32} {p2 : Int32} {N : Nat} {M : MM} {Q1 Q2 Q3 : Int32 → MM → Prop} (hQ : ∀ (r : Int32) (M1 : MM), Q1 r M1 → Q2 r M1 → Q3 r M1) (h1 : W_m_worthOf p1 p2 N M Q1) (h2 : W_m_worthOf p1 p2 N M Q2) : W_m_worthOf p1 p2 N M Q3 := by
  unfold W_m_worthOf at h1 h2 ⊢
  refine and_m_inForce (fun r1 h1 h2 => ?_) h1 h2
  refine and_m_forbidsNow (fun r3 M4 h1 h2 => ?_) h1 h2
  refine ⟨fun hc => ?_, fun hc => ?_⟩
  · replace h1 := h1.1 hc
    replace h2 := h2.1 hc
    exact hQ _ _ h1 h2
  · replace h1 := h1.2 hc
    replace h2 := h2.2 hc
    exact hQ _ _ h1 h2
theorem and_m_worthiest_5 {p1 : Int32} {p2 : Int32} {Q1 Q2 Q3 : Int32 → MM → Prop} (hQ : ∀ (r : Int32) (M1 : MM), Q1 r M1 → Q2 r M1 → Q3 r M1) : ∀ (N : Nat) (v3 : Int32) (v4 : Int32) (M : MM), W_m_worthiest_5 p1 p2 Q1 N v3 v4 M → W_m_worthiest_5 p1 p2 Q2 N v3 v4 M → W_m_worthiest_5 p1 p2 Q3 N v3 v4 M := by
  intro N
  induction N with
  | zero => intros; trivial
  | succ N IH =>
    intro v3 v4 M h1 h2
    replace h1 : B_m_worthiest_5 p1 p2 Q1 N (W_m_worthiest_5 p1 p2 Q1 N) v3 v4 M := h1
    replace h2 : B_m_worthiest_5 p1 p2 Q2 N (W_m_worthiest_5 p1 p2 Q2 N) v3 v4 M := h2
    show B_m_worthiest_5 p1 p2 Q3 N (W_m_worthiest_5 p1 p2 Q3 N) v3 v4 M
    unfold B_m_worthiest_5 at h1 h2 ⊢
    refine ⟨fun hc => ?_, fun hc => ?_⟩
    · replace h1 := h1.1 hc
      replace h2 := h2.1 hc
      refine ⟨fun hc => ?_, fun hc => ?_⟩
      · replace h1 := h1.1 hc
        replace h2 := h2.1 hc
        exact IH _ _ _ h1 h2
      · replace h1 := h1.2 hc
        replace h2 := h2.2 hc
        refine ⟨fun hc => ?_, fun hc => ?_⟩
        · replace h1 := h1.1 hc
          replace h2 := h2.1 hc
          exact IH _ _ _ h1 h2
        · replace h1 := h1.2 hc
          replace h2 := h2.2 hc
          refine and_m_worthOf (fun r4 M5 h1 h2 => ?_) h1 h2
          refine and_m_worthOf (fun r6 M7 h1 h2 => ?_) h1 h2
          refine ⟨fun hc => ?_, fun hc => ?_⟩
          · replace h1 := h1.1 hc
            replace h2 := h2.1 hc
            exact IH _ _ _ h1 h2
          · replace h1 := h1.2 hc
            replace h2 := h2.2 hc
            exact IH _ _ _ h1 h2
    · replace h1 := h1.2 hc
      replace h2 := h2.2 hc
      exact hQ _ _ h1 h2
theorem and_m_worthiest {p1 : Int32} {p2 : Int32} {N : Nat} {M : MM} {Q1 Q2 Q3 : Int32 → MM → Prop} (hQ : ∀ (r : Int32) (M1 : MM), Q1 r M1 → Q2 r M1 → Q3 r M1) (h1 : W_m_worthiest p1 p2 N M Q1) (h2 : W_m_worthiest p1 p2 N M Q2) : W_m_worthiest p1 p2 N M Q3 := by
  unfold W_m_worthiest at h1 h2 ⊢
  refine and_m_worthiest_5  hQ N _ _ _ h1 h2
theorem and_m_provoked {p1 : Int32} {p2 : Int32} {N : Nat} {M : MM} {Q1 Q2 Q3 : Int32 → MM → Prop} (hQ : ∀ (r : Int32) (M1 : MM), Q1 r M1 → Q2 r M1 → Q3 r M1) (h1 : W_m_provoked p1 p2 N M Q1) (h2 : W_m_provoked p1 p2 N M Q2) : W_m_provoked p1 p2 N M Q3 := by
  unfold W_m_provoked at h1 h2 ⊢
  refine and_m_throwsIf (fun r1 M2 h1 h2 => ?_) h1 h2
  refine ⟨fun hc => ?_, fun hc => ?_⟩
  · replace h1 := h1.1 hc
    replace h2 := h2.1 hc
    refine ⟨fun hc => ?_, fun hc => ?_⟩
    · replace h1 := h1.1 hc
      replace h2 := h2.1 hc
      refine and_m_throwsIf (fun r5 M6 h1 h2 => ?_) h1 h2
      refine ⟨fun hc => ?_, fun hc => ?_⟩
      · replace h1 := h1.1 hc
        replace h2 := h2.1 hc
        refine and_m_worthiest (fun r8 M9 h1 h2 => ?_) h1 h2
        refine ⟨fun hc => ?_, fun hc => ?_⟩
        · replace h1 := h1.1 hc
          replace h2 := h2.1 hc
          refine ⟨fun hc => ?_, fun hc => ?_⟩
          · replace h1 := h1.1 hc
            replace h2 := h2.1 hc
            exact hQ _ _ h1 h2
          · replace h1 := h1.2 hc
            replace h2 := h2.2 hc
            refine and_m_worthOf (fun r12 M13 h1 h2 => ?_) h1 h2
            exact hQ _ _ h1 h2
        · replace h1 := h1.2 hc
          replace h2 := h2.2 hc
          refine and_m_worthiest (fun r14 M15 h1 h2 => ?_) h1 h2
          refine ⟨fun hc => ?_, fun hc => ?_⟩
          · replace h1 := h1.1 hc
            replace h2 := h2.1 hc
            exact hQ _ _ h1 h2
          · replace h1 := h1.2 hc
            replace h2 := h2.2 hc
            refine and_m_worthOf (fun r17 M18 h1 h2 => ?_) h1 h2
            exact hQ _ _ h1 h2
      · replace h1 := h1.2 hc
        replace h2 := h2.2 hc
        exact hQ _ _ h1 h2
    · replace h1 := h1.2 hc
      replace h2 := h2.2 hc
      refine and_m_throwsIf (fun r19 M20 h1 h2 => ?_) h1 h2
      refine ⟨fun hc => ?_, fun hc => ?_⟩
      · replace h1 := h1.1 hc
        replace h2 := h2.1 hc
        refine and_m_worthiest (fun r22 M23 h1 h2 => ?_) h1 h2
        refine ⟨fun hc => ?_, fun hc => ?_⟩
        · replace h1 := h1.1 hc
          replace h2 := h2.1 hc
          refine ⟨fun hc => ?_, fun hc => ?_⟩
          · replace h1 := h1.1 hc
            replace h2 := h2.1 hc
            exact hQ _ _ h1 h2
          · replace h1 := h1.2 hc
            replace h2 := h2.2 hc
            refine and_m_worthOf (fun r26 M27 h1 h2 => ?_) h1 h2
            exact hQ _ _ h1 h2
        · replace h1 := h1.2 hc
          replace h2 := h2.2 hc
          refine and_m_worthiest (fun r28 M29 h1 h2 => ?_) h1 h2
          refine ⟨fun hc => ?_, fun hc => ?_⟩
          · replace h1 := h1.1 hc
            replace h2 := h2.1 hc
            exact hQ _ _ h1 h2
          · replace h1 := h1.2 hc
            replace h2 := h2.2 hc
            refine and_m_worthOf (fun r31 M32 h1 h2 => ?_) h1 h2
            exact hQ _ _ h1 h2
      · replace h1 := h1.2 hc
        replace h2 := h2.2 hc
        exact hQ _ _ h1 h2
  · replace h1 := h1.2 hc
    replace h2 := h2.2 hc
    exact hQ _ _ h1 h2
theorem and_m_crowd_47 {p1 : Int32} {p2 : Int32} {M : MM} {Q1 Q2 Q3 : Int32 → MM → Prop} (hQ : ∀ (r : Int32) (M1 : MM), Q1 r M1 → Q2 r M1 → Q3 r M1) : ∀ (N : Nat) (v3 : Int32) (v4 : Int32), W_m_crowd_47 p1 p2 M Q1 N v3 v4 → W_m_crowd_47 p1 p2 M Q2 N v3 v4 → W_m_crowd_47 p1 p2 M Q3 N v3 v4 := by
  intro N
  induction N with
  | zero => intros; trivial
  | succ N IH =>
    intro v3 v4 h1 h2
    replace h1 : B_m_crowd_47 p1 p2 M Q1 N (W_m_crowd_47 p1 p2 M Q1 N) v3 v4 := h1
    replace h2 : B_m_crowd_47 p1 p2 M Q2 N (W_m_crowd_47 p1 p2 M Q2 N) v3 v4 := h2
    show B_m_crowd_47 p1 p2 M Q3 N (W_m_crowd_47 p1 p2 M Q3 N) v3 v4
    unfold B_m_crowd_47 at h1 h2 ⊢
    refine ⟨fun hc => ?_, fun hc => ?_⟩
    · replace h1 := h1.1 hc
      replace h2 := h2.1 hc
      refine ⟨fun hc => ?_, fun hc => ?_⟩
      · replace h1 := h1.1 hc
        replace h2 := h2.1 hc
        exact IH _ _ h1 h2
      · replace h1 := h1.2 hc
        replace h2 := h2.2 hc
        refine ⟨fun hc => ?_, fun hc => ?_⟩
        · replace h1 := h1.1 hc
          replace h2 := h2.1 hc
          exact IH _ _ h1 h2
        · replace h1 := h1.2 hc
          replace h2 := h2.2 hc
          exact IH _ _ h1 h2
    · replace h1 := h1.2 hc
      replace h2 := h2.2 hc
      exact hQ _ _ h1 h2
theorem and_m_crowd {p1 : Int32} {p2 : Int32} {N : Nat} {M : MM} {Q1 Q2 Q3 : Int32 → MM → Prop} (hQ : ∀ (r : Int32) (M1 : MM), Q1 r M1 → Q2 r M1 → Q3 r M1) (h1 : W_m_crowd p1 p2 N M Q1) (h2 : W_m_crowd p1 p2 N M Q2) : W_m_crowd p1 p2 N M Q3 := by
  unfold W_m_crowd at h1 h2 ⊢
  refine and_m_throwsIf (fun r1 M2 h1 h2 => ?_) h1 h2
  refine ⟨fun hc => ?_, fun hc => ?_⟩
  · replace h1 := h1.1 hc
    replace h2 := h2.1 hc
    refine ⟨fun hc => ?_, fun hc => ?_⟩
    · replace h1 := h1.1 hc
      replace h2 := h2.1 hc
      refine and_m_throwsIf (fun r5 M6 h1 h2 => ?_) h1 h2
      refine ⟨fun hc => ?_, fun hc => ?_⟩
      · replace h1 := h1.1 hc
        replace h2 := h2.1 hc
        refine and_m_crowd_47  hQ N _ _ h1 h2
      · replace h1 := h1.2 hc
        replace h2 := h2.2 hc
        exact hQ _ _ h1 h2
    · replace h1 := h1.2 hc
      replace h2 := h2.2 hc
      refine and_m_throwsIf (fun r11 M12 h1 h2 => ?_) h1 h2
      refine ⟨fun hc => ?_, fun hc => ?_⟩
      · replace h1 := h1.1 hc
        replace h2 := h2.1 hc
        refine and_m_crowd_47  hQ N _ _ h1 h2
      · replace h1 := h1.2 hc
        replace h2 := h2.2 hc
        exact hQ _ _ h1 h2
  · replace h1 := h1.2 hc
    replace h2 := h2.2 hc
    exact hQ _ _ h1 h2
theorem and_m_witnesses_67 {p1 : Int32} {p2 : Int32} {p3 : Int32} {M : MM} {Q1 Q2 Q3 : Int32 → MM → Prop} (hQ : ∀ (r : Int32) (M1 : MM), Q1 r M1 → Q2 r M1 → Q3 r M1) : ∀ (N : Nat) (v4 : Int32) (v5 : Int32), W_m_witnesses_67 p1 p2 p3 M Q1 N v4 v5 → W_m_witnesses_67 p1 p2 p3 M Q2 N v4 v5 → W_m_witnesses_67 p1 p2 p3 M Q3 N v4 v5 := by
  intro N
  induction N with
  | zero => intros; trivial
  | succ N IH =>
    intro v4 v5 h1 h2
    replace h1 : B_m_witnesses_67 p1 p2 p3 M Q1 N (W_m_witnesses_67 p1 p2 p3 M Q1 N) v4 v5 := h1
    replace h2 : B_m_witnesses_67 p1 p2 p3 M Q2 N (W_m_witnesses_67 p1 p2 p3 M Q2 N) v4 v5 := h2
    show B_m_witnesses_67 p1 p2 p3 M Q3 N (W_m_witnesses_67 p1 p2 p3 M Q3 N) v4 v5
    unfold B_m_witnesses_67 at h1 h2 ⊢
    refine ⟨fun hc => ?_, fun hc => ?_⟩
    · replace h1 := h1.1 hc
      replace h2 := h2.1 hc
      refine ⟨fun hc => ?_, fun hc => ?_⟩
      · replace h1 := h1.1 hc
        replace h2 := h2.1 hc
        exact IH _ _ h1 h2
      · replace h1 := h1.2 hc
        replace h2 := h2.2 hc
        exact IH _ _ h1 h2
    · replace h1 := h1.2 hc
      replace h2 := h2.2 hc
      exact hQ _ _ h1 h2
theorem and_m_witnesses {p1 : Int32} {p2 : Int32} {p3 : Int32} {N : Nat} {M : MM} {Q1 Q2 Q3 : Int32 → MM → Prop} (hQ : ∀ (r : Int32) (M1 : MM), Q1 r M1 → Q2 r M1 → Q3 r M1) (h1 : W_m_witnesses p1 p2 p3 N M Q1) (h2 : W_m_witnesses p1 p2 p3 N M Q2) : W_m_witnesses p1 p2 p3 N M Q3 := by
  unfold W_m_witnesses at h1 h2 ⊢
  refine ⟨fun hc => ?_, fun hc => ?_⟩
  · replace h1 := h1.1 hc
    replace h2 := h2.1 hc
    refine ⟨fun hc => ?_, fun hc => ?_⟩
    · replace h1 := h1.1 hc
      replace h2 := h2.1 hc
      refine and_m_throwsIf (fun r3 M4 h1 h2 => ?_) h1 h2
      refine ⟨fun hc => ?_, fun hc => ?_⟩
      · replace h1 := h1.1 hc
        replace h2 := h2.1 hc
        refine ⟨fun hc => ?_, fun hc => ?_⟩
        · replace h1 := h1.1 hc
          replace h2 := h2.1 hc
          refine and_m_throwsIf (fun r7 M8 h1 h2 => ?_) h1 h2
          refine ⟨fun hc => ?_, fun hc => ?_⟩
          · replace h1 := h1.1 hc
            replace h2 := h2.1 hc
            refine and_m_witnesses_67  hQ N _ _ h1 h2
          · replace h1 := h1.2 hc
            replace h2 := h2.2 hc
            exact hQ _ _ h1 h2
        · replace h1 := h1.2 hc
          replace h2 := h2.2 hc
          refine ⟨fun hc => ?_, fun hc => ?_⟩
          · replace h1 := h1.1 hc
            replace h2 := h2.1 hc
            refine and_m_throwsIf (fun r13 M14 h1 h2 => ?_) h1 h2
            refine ⟨fun hc => ?_, fun hc => ?_⟩
            · replace h1 := h1.1 hc
              replace h2 := h2.1 hc
              refine and_m_witnesses_67  hQ N _ _ h1 h2
            · replace h1 := h1.2 hc
              replace h2 := h2.2 hc
              exact hQ _ _ h1 h2
          · replace h1 := h1.2 hc
            replace h2 := h2.2 hc
            refine and_m_throwsIf (fun r16 M17 h1 h2 => ?_) h1 h2
            refine ⟨fun hc => ?_, fun hc => ?_⟩
            · replace h1 := h1.1 hc
              replace h2 := h2.1 hc
              refine and_m_witnesses_67  hQ N _ _ h1 h2
            · replace h1 := h1.2 hc
              replace h2 := h2.2 hc
              exact hQ _ _ h1 h2
      · replace h1 := h1.2 hc
        replace h2 := h2.2 hc
        exact hQ _ _ h1 h2
    · replace h1 := h1.2 hc
      replace h2 := h2.2 hc
      refine and_m_throwsIf (fun r19 M20 h1 h2 => ?_) h1 h2
      refine ⟨fun hc => ?_, fun hc => ?_⟩
      · replace h1 := h1.1 hc
        replace h2 := h2.1 hc
        refine ⟨fun hc => ?_, fun hc => ?_⟩
        · replace h1 := h1.1 hc
          replace h2 := h2.1 hc
          refine and_m_throwsIf (fun r23 M24 h1 h2 => ?_) h1 h2
          refine ⟨fun hc => ?_, fun hc => ?_⟩
          · replace h1 := h1.1 hc
            replace h2 := h2.1 hc
            refine and_m_witnesses_67  hQ N _ _ h1 h2
          · replace h1 := h1.2 hc
            replace h2 := h2.2 hc
            exact hQ _ _ h1 h2
        · replace h1 := h1.2 hc
          replace h2 := h2.2 hc
          refine ⟨fun hc => ?_, fun hc => ?_⟩
          · replace h1 := h1.1 hc
            replace h2 := h2.1 hc
            refine and_m_throwsIf (fun r27 M28 h1 h2 => ?_) h1 h2
            refine ⟨fun hc => ?_, fun hc => ?_⟩
            · replace h1 := h1.1 hc
              replace h2 := h2.1 hc
              refine and_m_witnesses_67  hQ N _ _ h1 h2
            · replace h1 := h1.2 hc
              replace h2 := h2.2 hc
              exact hQ _ _ h1 h2
          · replace h1 := h1.2 hc
            replace h2 := h2.2 hc
            refine and_m_throwsIf (fun r30 M31 h1 h2 => ?_) h1 h2
            refine ⟨fun hc => ?_, fun hc => ?_⟩
            · replace h1 := h1.1 hc
              replace h2 := h2.1 hc
              refine and_m_witnesses_67  hQ N _ _ h1 h2
            · replace h1 := h1.2 hc
              replace h2 := h2.2 hc
              exact hQ _ _ h1 h2
      · replace h1 := h1.2 hc
        replace h2 := h2.2 hc
        exact hQ _ _ h1 h2
  · replace h1 := h1.2 hc
    replace h2 := h2.2 hc
    refine and_m_throwsIf (fun r33 M34 h1 h2 => ?_) h1 h2
    refine ⟨fun hc => ?_, fun hc => ?_⟩
    · replace h1 := h1.1 hc
      replace h2 := h2.1 hc
      refine ⟨fun hc => ?_, fun hc => ?_⟩
      · replace h1 := h1.1 hc
        replace h2 := h2.1 hc
        refine and_m_throwsIf (fun r37 M38 h1 h2 => ?_) h1 h2
        refine ⟨fun hc => ?_, fun hc => ?_⟩
        · replace h1 := h1.1 hc
          replace h2 := h2.1 hc
          refine and_m_witnesses_67  hQ N _ _ h1 h2
        · replace h1 := h1.2 hc
          replace h2 := h2.2 hc
          exact hQ _ _ h1 h2
      · replace h1 := h1.2 hc
        replace h2 := h2.2 hc
        refine ⟨fun hc => ?_, fun hc => ?_⟩
        · replace h1 := h1.1 hc
          replace h2 := h2.1 hc
          refine and_m_throwsIf (fun r41 M42 h1 h2 => ?_) h1 h2
          refine ⟨fun hc => ?_, fun hc => ?_⟩
          · replace h1 := h1.1 hc
            replace h2 := h2.1 hc
            refine and_m_witnesses_67  hQ N _ _ h1 h2
          · replace h1 := h1.2 hc
            replace h2 := h2.2 hc
            exact hQ _ _ h1 h2
        · replace h1 := h1.2 hc
          replace h2 := h2.2 hc
          refine and_m_throwsIf (fun r44 M45 h1 h2 => ?_) h1 h2
          refine ⟨fun hc => ?_, fun hc => ?_⟩
          · replace h1 := h1.1 hc
            replace h2 := h2.1 hc
            refine and_m_witnesses_67  hQ N _ _ h1 h2
          · replace h1 := h1.2 hc
            replace h2 := h2.2 hc
            exact hQ _ _ h1 h2
    · replace h1 := h1.2 hc
      replace h2 := h2.2 hc
      exact hQ _ _ h1 h2
theorem and_m_keepsAll  {N : Nat} {M : MM} {Q1 Q2 Q3 : MM → Prop} (hQ : ∀  (M1 : MM), Q1 M1 → Q2 M1 → Q3 M1) (h1 : W_m_keepsAll  N M Q1) (h2 : W_m_keepsAll  N M Q2) : W_m_keepsAll  N M Q3 := by
  unfold W_m_keepsAll at h1 h2 ⊢
  refine and_m_likens (fun M2 h1 h2 => ?_) h1 h2
  refine and_m_likensSeen (fun M4 h1 h2 => ?_) h1 h2
  exact hQ _ h1 h2
theorem and_m_bringsBack  {N : Nat} {M : MM} {Q1 Q2 Q3 : MM → Prop} (hQ : ∀  (M1 : MM), Q1 M1 → Q2 M1 → Q3 M1) (h1 : W_m_bringsBack  N M Q1) (h2 : W_m_bringsBack  N M Q2) : W_m_bringsBack  N M Q3 := by
  unfold W_m_bringsBack at h1 h2 ⊢
  refine and_m_likens (fun M2 h1 h2 => ?_) h1 h2
  refine and_m_likensSeen (fun M4 h1 h2 => ?_) h1 h2
  exact hQ _ h1 h2
theorem and_m_takenNow_4 {M : MM} {Q1 Q2 Q3 : Int32 → Prop} (hQ : ∀ (r : Int32), Q1 r → Q2 r → Q3 r) : ∀ (N : Nat) (v1 : Int32) (v2 : Int32), W_m_takenNow_4 M Q1 N v1 v2 → W_m_takenNow_4 M Q2 N v1 v2 → W_m_takenNow_4 M Q3 N v1 v2 := by
  intro N
  induction N with
  | zero => intros; trivial
  | succ N IH =>
    intro v1 v2 h1 h2
    replace h1 : B_m_takenNow_4 M Q1 N (W_m_takenNow_4 M Q1 N) v1 v2 := h1
    replace h2 : B_m_takenNow_4 M Q2 N (W_m_takenNow_4 M Q2 N) v1 v2 := h2
    show B_m_takenNow_4 M Q3 N (W_m_takenNow_4 M Q3 N) v1 v2
    unfold B_m_takenNow_4 at h1 h2 ⊢
    refine ⟨fun hc => ?_, fun hc => ?_⟩
    · replace h1 := h1.1 hc
      replace h2 := h2.1 hc
      refine ⟨fun hc => ?_, fun hc => ?_⟩
      · replace h1 := h1.1 hc
        replace h2 := h2.1 hc
        exact IH _ _ h1 h2
      · replace h1 := h1.2 hc
        replace h2 := h2.2 hc
        exact IH _ _ h1 h2
    · replace h1 := h1.2 hc
      replace h2 := h2.2 hc
      exact hQ _ h1 h2
theorem and_m_takenNow  {N : Nat} {M : MM} {Q1 Q2 Q3 : Int32 → Prop} (hQ : ∀ (r : Int32), Q1 r → Q2 r → Q3 r) (h1 : W_m_takenNow  N M Q1) (h2 : W_m_takenNow  N M Q2) : W_m_takenNow  N M Q3 := by
  unfold W_m_takenNow at h1 h2 ⊢
  refine and_m_takenNow_4  hQ N _ _ h1 h2
theorem and_m_trial_58 {p1 : Int32} {p2 : Int32} {k73a k73b k73c : MM → Prop} {Q1 Q2 Q3 : Int32 → MM → Prop} (hk73 : ∀  (M : MM), k73a M → k73b M → k73c M) (hQ : ∀ (r : Int32) (M1 : MM), Q1 r M1 → Q2 r M1 → Q3 r M1) : ∀ (N : Nat) (v3 : Int32) (M : MM), W_m_trial_58 p1 p2 k73a Q1 N v3 M → W_m_trial_58 p1 p2 k73b Q2 N v3 M → W_m_trial_58 p1 p2 k73c Q3 N v3 M := by
  intro N
  induction N with
  | zero => intros; trivial
  | succ N IH =>
    intro v3 M h1 h2
    replace h1 : B_m_trial_58 p1 p2 k73a Q1 N (W_m_trial_58 p1 p2 k73a Q1 N) v3 M := h1
    replace h2 : B_m_trial_58 p1 p2 k73b Q2 N (W_m_trial_58 p1 p2 k73b Q2 N) v3 M := h2
    show B_m_trial_58 p1 p2 k73c Q3 N (W_m_trial_58 p1 p2 k73c Q3 N) v3 M
    unfold B_m_trial_58 at h1 h2 ⊢
    refine ⟨fun hc => ?_, fun hc => ?_⟩
    · replace h1 := h1.1 hc
      replace h2 := h2.1 hc
      refine and_m_oneDay (fun M13 h1 h2 => ?_) h1 h2
      exact IH _ _ h1 h2
    · replace h1 := h1.2 hc
      replace h2 := h2.2 hc
      exact hk73 _ h1 h2
theorem and_m_trial {p1 : Int32} {p2 : Int32} {N : Nat} {M : MM} {Q1 Q2 Q3 : Int32 → MM → Prop} (hQ : ∀ (r : Int32) (M1 : MM), Q1 r M1 → Q2 r M1 → Q3 r M1) (h1 : W_m_trial p1 p2 N M Q1) (h2 : W_m_trial p1 p2 N M Q2) : W_m_trial p1 p2 N M Q3 := by
  unfold W_m_trial at h1 h2 ⊢
  refine ⟨fun hc => ?_, fun hc => ?_⟩
  · replace h1 := h1.1 hc
    replace h2 := h2.1 hc
    refine and_m_throwsIf (fun r2 M3 h1 h2 => ?_) h1 h2
    refine ⟨fun hc => ?_, fun hc => ?_⟩
    · replace h1 := h1.1 hc
      replace h2 := h2.1 hc
      refine ⟨fun hc => ?_, fun hc => ?_⟩
      · replace h1 := h1.1 hc
        replace h2 := h2.1 hc
        refine and_m_throwsIf (fun r6 M7 h1 h2 => ?_) h1 h2
        refine ⟨fun hc => ?_, fun hc => ?_⟩
        · replace h1 := h1.1 hc
          replace h2 := h2.1 hc
          refine and_m_keepsAll (fun M10 h1 h2 => ?_) h1 h2
          refine and_m_trial_58 (fun M14 h1 h2 => ?_) hQ N _ _ h1 h2
          · refine ⟨fun hc => ?_, fun hc => ?_⟩
            · replace h1 := h1.1 hc
              replace h2 := h2.1 hc
              refine and_m_bringsBack (fun M17 h1 h2 => ?_) h1 h2
              exact hQ _ _ h1 h2
            · replace h1 := h1.2 hc
              replace h2 := h2.2 hc
              refine ⟨fun hc => ?_, fun hc => ?_⟩
              · replace h1 := h1.1 hc
                replace h2 := h2.1 hc
                refine and_m_bringsBack (fun M20 h1 h2 => ?_) h1 h2
                exact hQ _ _ h1 h2
              · replace h1 := h1.2 hc
                replace h2 := h2.2 hc
                refine ⟨fun hc => ?_, fun hc => ?_⟩
                · replace h1 := h1.1 hc
                  replace h2 := h2.1 hc
                  refine and_m_takenNow (fun r22 h1 h2 => ?_) h1 h2
                  refine and_m_bringsBack (fun M25 h1 h2 => ?_) h1 h2
                  exact hQ _ _ h1 h2
                · replace h1 := h1.2 hc
                  replace h2 := h2.2 hc
                  refine and_m_sumOf (fun r26 h1 h2 => ?_) h1 h2
                  refine and_m_bringsBack (fun M29 h1 h2 => ?_) h1 h2
                  exact hQ _ _ h1 h2
        · replace h1 := h1.2 hc
          replace h2 := h2.2 hc
          exact hQ _ _ h1 h2
      · replace h1 := h1.2 hc
        replace h2 := h2.2 hc
        refine and_m_throwsIf (fun r30 M31 h1 h2 => ?_) h1 h2
        refine ⟨fun hc => ?_, fun hc => ?_⟩
        · replace h1 := h1.1 hc
          replace h2 := h2.1 hc
          refine and_m_keepsAll (fun M34 h1 h2 => ?_) h1 h2
          refine and_m_trial_58 (fun M35 h1 h2 => ?_) hQ N _ _ h1 h2
          · refine ⟨fun hc => ?_, fun hc => ?_⟩
            · replace h1 := h1.1 hc
              replace h2 := h2.1 hc
              refine and_m_bringsBack (fun M38 h1 h2 => ?_) h1 h2
              exact hQ _ _ h1 h2
            · replace h1 := h1.2 hc
              replace h2 := h2.2 hc
              refine ⟨fun hc => ?_, fun hc => ?_⟩
              · replace h1 := h1.1 hc
                replace h2 := h2.1 hc
                refine and_m_bringsBack (fun M41 h1 h2 => ?_) h1 h2
                exact hQ _ _ h1 h2
              · replace h1 := h1.2 hc
                replace h2 := h2.2 hc
                refine ⟨fun hc => ?_, fun hc => ?_⟩
                · replace h1 := h1.1 hc
                  replace h2 := h2.1 hc
                  refine and_m_takenNow (fun r43 h1 h2 => ?_) h1 h2
                  refine and_m_bringsBack (fun M46 h1 h2 => ?_) h1 h2
                  exact hQ _ _ h1 h2
                · replace h1 := h1.2 hc
                  replace h2 := h2.2 hc
                  refine and_m_sumOf (fun r47 h1 h2 => ?_) h1 h2
                  refine and_m_bringsBack (fun M50 h1 h2 => ?_) h1 h2
                  exact hQ _ _ h1 h2
        · replace h1 := h1.2 hc
          replace h2 := h2.2 hc
          exact hQ _ _ h1 h2
    · replace h1 := h1.2 hc
      replace h2 := h2.2 hc
      exact hQ _ _ h1 h2
  · replace h1 := h1.2 hc
    replace h2 := h2.2 hc
    refine and_m_throwsIf (fun r51 M52 h1 h2 => ?_) h1 h2
    refine ⟨fun hc => ?_, fun hc => ?_⟩
    · replace h1 := h1.1 hc
      replace h2 := h2.1 hc
      refine ⟨fun hc => ?_, fun hc => ?_⟩
      · replace h1 := h1.1 hc
        replace h2 := h2.1 hc
        refine and_m_throwsIf (fun r55 M56 h1 h2 => ?_) h1 h2
        refine ⟨fun hc => ?_, fun hc => ?_⟩
        · replace h1 := h1.1 hc
          replace h2 := h2.1 hc
          refine and_m_keepsAll (fun M59 h1 h2 => ?_) h1 h2
          refine and_m_trial_58 (fun M60 h1 h2 => ?_) hQ N _ _ h1 h2
          · refine ⟨fun hc => ?_, fun hc => ?_⟩
            · replace h1 := h1.1 hc
              replace h2 := h2.1 hc
              refine and_m_bringsBack (fun M63 h1 h2 => ?_) h1 h2
              exact hQ _ _ h1 h2
            · replace h1 := h1.2 hc
              replace h2 := h2.2 hc
              refine ⟨fun hc => ?_, fun hc => ?_⟩
              · replace h1 := h1.1 hc
                replace h2 := h2.1 hc
                refine and_m_bringsBack (fun M66 h1 h2 => ?_) h1 h2
                exact hQ _ _ h1 h2
              · replace h1 := h1.2 hc
                replace h2 := h2.2 hc
                refine ⟨fun hc => ?_, fun hc => ?_⟩
                · replace h1 := h1.1 hc
                  replace h2 := h2.1 hc
                  refine and_m_takenNow (fun r68 h1 h2 => ?_) h1 h2
                  refine and_m_bringsBack (fun M71 h1 h2 => ?_) h1 h2
                  exact hQ _ _ h1 h2
                · replace h1 := h1.2 hc
                  replace h2 := h2.2 hc
                  refine and_m_sumOf (fun r72 h1 h2 => ?_) h1 h2
                  refine and_m_bringsBack (fun M75 h1 h2 => ?_) h1 h2
                  exact hQ _ _ h1 h2
        · replace h1 := h1.2 hc
          replace h2 := h2.2 hc
          exact hQ _ _ h1 h2
      · replace h1 := h1.2 hc
        replace h2 := h2.2 hc
        refine and_m_throwsIf (fun r76 M77 h1 h2 => ?_) h1 h2
        refine ⟨fun hc => ?_, fun hc => ?_⟩
        · replace h1 := h1.1 hc
          replace h2 := h2.1 hc
          refine and_m_keepsAll (fun M80 h1 h2 => ?_) h1 h2
          refine and_m_trial_58 (fun M81 h1 h2 => ?_) hQ N _ _ h1 h2
          · refine ⟨fun hc => ?_, fun hc => ?_⟩
            · replace h1 := h1.1 hc
              replace h2 := h2.1 hc
              refine and_m_bringsBack (fun M84 h1 h2 => ?_) h1 h2
              exact hQ _ _ h1 h2
            · replace h1 := h1.2 hc
              replace h2 := h2.2 hc
              refine ⟨fun hc => ?_, fun hc => ?_⟩
              · replace h1 := h1.1 hc
                replace h2 := h2.1 hc
                refine and_m_bringsBack (fun M87 h1 h2 => ?_) h1 h2
                exact hQ _ _ h1 h2
              · replace h1 := h1.2 hc
                replace h2 := h2.2 hc
                refine ⟨fun hc => ?_, fun hc => ?_⟩
                · replace h1 := h1.1 hc
                  replace h2 := h2.1 hc
                  refine and_m_takenNow (fun r89 h1 h2 => ?_) h1 h2
                  refine and_m_bringsBack (fun M92 h1 h2 => ?_) h1 h2
                  exact hQ _ _ h1 h2
                · replace h1 := h1.2 hc
                  replace h2 := h2.2 hc
                  refine and_m_sumOf (fun r93 h1 h2 => ?_) h1 h2
                  refine and_m_bringsBack (fun M96 h1 h2 => ?_) h1 h2
                  exact hQ _ _ h1 h2
        · replace h1 := h1.2 hc
          replace h2 := h2.2 hc
          exact hQ _ _ h1 h2
    · replace h1 := h1.2 hc
      replace h2 := h2.2 hc
      exact hQ _ _ h1 h2
theorem and_m_span_58 {p1 : Int32} {p2 : Int32} {u3 : Int32} {u4 : Int32} {k74a k74b k74c : MM → Prop} {Q1 Q2 Q3 : Int32 → MM → Prop} (hk74 : ∀  (M : MM), k74a M → k74b M → k74c M) (hQ : ∀ (r : Int32) (M1 : MM), Q1 r M1 → Q2 r M1 → Q3 r M1) : ∀ (N : Nat) (v5 : Int32) (M : MM), W_m_span_58 p1 p2 u3 u4 k74a Q1 N v5 M → W_m_span_58 p1 p2 u3 u4 k74b Q2 N v5 M → W_m_span_58 p1 p2 u3 u4 k74c Q3 N v5 M := by
  intro N
  induction N with
  | zero => intros; trivial
  | succ N IH =>
    intro v5 M h1 h2
    replace h1 : B_m_span_58 p1 p2 u3 u4 k74a Q1 N (W_m_span_58 p1 p2 u3 u4 k74a Q1 N) v5 M := h1
    replace h2 : B_m_span_58 p1 p2 u3 u4 k74b Q2 N (W_m_span_58 p1 p2 u3 u4 k74b Q2 N) v5 M := h2
    show B_m_span_58 p1 p2 u3 u4 k74c Q3 N (W_m_span_58 p1 p2 u3 u4 k74c Q3 N) v5 M
    unfold B_m_span_58 at h1 h2 ⊢
    refine ⟨fun hc => ?_, fun hc => ?_⟩
    · replace h1 := h1.1 hc
      replace h2 := h2.1 hc
      refine and_m_oneDay (fun M10 h1 h2 => ?_) h1 h2
      exact IH _ _ h1 h2
    · replace h1 := h1.2 hc
      replace h2 := h2.2 hc
      exact hk74 _ h1 h2
theorem and_m_span_39 {p1 : Int32} {p2 : Int32} {Q1 Q2 Q3 : Int32 → MM → Prop} (hQ : ∀ (r : Int32) (M1 : MM), Q1 r M1 → Q2 r M1 → Q3 r M1) : ∀ (N : Nat) (v3 : Int32) (v4 : Int32) (M : MM), W_m_span_39 p1 p2 Q1 N v3 v4 M → W_m_span_39 p1 p2 Q2 N v3 v4 M → W_m_span_39 p1 p2 Q3 N v3 v4 M := by
  intro N
  induction N with
  | zero => intros; trivial
  | succ N IH =>
    intro v3 v4 M h1 h2
    replace h1 : B_m_span_39 p1 p2 Q1 N (W_m_span_39 p1 p2 Q1 N) v3 v4 M := h1
    replace h2 : B_m_span_39 p1 p2 Q2 N (W_m_span_39 p1 p2 Q2 N) v3 v4 M := h2
    show B_m_span_39 p1 p2 Q3 N (W_m_span_39 p1 p2 Q3 N) v3 v4 M
    unfold B_m_span_39 at h1 h2 ⊢
    refine ⟨fun hc => ?_, fun hc => ?_⟩
    · replace h1 := h1.1 hc
      replace h2 := h2.1 hc
      exact hQ _ _ h1 h2
    · replace h1 := h1.2 hc
      replace h2 := h2.2 hc
      refine and_m_span_58 (fun M11 h1 h2 => ?_) hQ N _ _ h1 h2
      · refine and_m_bringsBack (fun M13 h1 h2 => ?_) h1 h2
        refine ⟨fun hc => ?_, fun hc => ?_⟩
        · replace h1 := h1.1 hc
          replace h2 := h2.1 hc
          exact IH _ _ _ h1 h2
        · replace h1 := h1.2 hc
          replace h2 := h2.2 hc
          refine ⟨fun hc => ?_, fun hc => ?_⟩
          · replace h1 := h1.1 hc
            replace h2 := h2.1 hc
            exact IH _ _ _ h1 h2
          · replace h1 := h1.2 hc
            replace h2 := h2.2 hc
            exact IH _ _ _ h1 h2
theorem and_m_span {p1 : Int32} {p2 : Int32} {N : Nat} {M : MM} {Q1 Q2 Q3 : Int32 → MM → Prop} (hQ : ∀ (r : Int32) (M1 : MM), Q1 r M1 → Q2 r M1 → Q3 r M1) (h1 : W_m_span p1 p2 N M Q1) (h2 : W_m_span p1 p2 N M Q2) : W_m_span p1 p2 N M Q3 := by
  unfold W_m_span at h1 h2 ⊢
  refine ⟨fun hc => ?_, fun hc => ?_⟩
  · replace h1 := h1.1 hc
    replace h2 := h2.1 hc
    refine and_m_throwsIf (fun r2 M3 h1 h2 => ?_) h1 h2
    refine ⟨fun hc => ?_, fun hc => ?_⟩
    · replace h1 := h1.1 hc
      replace h2 := h2.1 hc
      refine and_m_keepsAll (fun M6 h1 h2 => ?_) h1 h2
      refine and_m_span_39  hQ N _ _ _ h1 h2
    · replace h1 := h1.2 hc
      replace h2 := h2.2 hc
      exact hQ _ _ h1 h2
  · replace h1 := h1.2 hc
    replace h2 := h2.2 hc
    refine and_m_throwsIf (fun r16 M17 h1 h2 => ?_) h1 h2
    refine ⟨fun hc => ?_, fun hc => ?_⟩
    · replace h1 := h1.1 hc
      replace h2 := h2.1 hc
      refine and_m_keepsAll (fun M20 h1 h2 => ?_) h1 h2
      refine and_m_span_39  hQ N _ _ _ h1 h2
    · replace h1 := h1.2 hc
      replace h2 := h2.2 hc
      exact hQ _ _ h1 h2
theorem and_m_first_11  {k42a k42b k42c : Int32 → MM → Prop} {Q1 Q2 Q3 : Int32 → MM → Prop} (hk42 : ∀ (v1 : Int32) (M : MM), k42a v1 M → k42b v1 M → k42c v1 M) (hQ : ∀ (r : Int32) (M1 : MM), Q1 r M1 → Q2 r M1 → Q3 r M1) : ∀ (N : Nat) (v1 : Int32) (M : MM), W_m_first_11 k42a Q1 N v1 M → W_m_first_11 k42b Q2 N v1 M → W_m_first_11 k42c Q3 N v1 M := by
  intro N
  induction N with
  | zero => intros; trivial
  | succ N IH =>
    intro v1 M h1 h2
    replace h1 : B_m_first_11 k42a Q1 N (W_m_first_11 k42a Q1 N) v1 M := h1
    replace h2 : B_m_first_11 k42b Q2 N (W_m_first_11 k42b Q2 N) v1 M := h2
    show B_m_first_11 k42c Q3 N (W_m_first_11 k42c Q3 N) v1 M
    unfold B_m_first_11 at h1 h2 ⊢
    refine ⟨fun hc => ?_, fun hc => ?_⟩
    · replace h1 := h1.1 hc
      replace h2 := h2.1 hc
      refine ⟨fun hc => ?_, fun hc => ?_⟩
      · replace h1 := h1.1 hc
        replace h2 := h2.1 hc
        refine and_m_oneDay (fun M6 h1 h2 => ?_) h1 h2
        exact IH _ _ h1 h2
      · replace h1 := h1.2 hc
        replace h2 := h2.2 hc
        exact hk42 _ _ h1 h2
    · replace h1 := h1.2 hc
      replace h2 := h2.2 hc
      exact hk42 _ _ h1 h2
theorem and_m_first  {N : Nat} {M : MM} {Q1 Q2 Q3 : Int32 → MM → Prop} (hQ : ∀ (r : Int32) (M1 : MM), Q1 r M1 → Q2 r M1 → Q3 r M1) (h1 : W_m_first  N M Q1) (h2 : W_m_first  N M Q2) : W_m_first  N M Q3 := by
  unfold W_m_first at h1 h2 ⊢
  refine and_m_keepsAll (fun M2 h1 h2 => ?_) h1 h2
  refine and_m_first_11 (fun x7 M8 h1 h2 => ?_) hQ N _ _ h1 h2
  · refine ⟨fun hc => ?_, fun hc => ?_⟩
    · replace h1 := h1.1 hc
      replace h2 := h2.1 hc
      refine and_m_bringsBack (fun M11 h1 h2 => ?_) h1 h2
      exact hQ _ _ h1 h2
    · replace h1 := h1.2 hc
      replace h2 := h2.2 hc
      refine and_m_bringsBack (fun M14 h1 h2 => ?_) h1 h2
      exact hQ _ _ h1 h2
theorem and_m_led_37 {p1 : Int32} {M : MM} {Q1 Q2 Q3 : Int32 → MM → Prop} (hQ : ∀ (r : Int32) (M1 : MM), Q1 r M1 → Q2 r M1 → Q3 r M1) : ∀ (N : Nat) (v2 : Int32) (v3 : Int32), W_m_led_37 p1 M Q1 N v2 v3 → W_m_led_37 p1 M Q2 N v2 v3 → W_m_led_37 p1 M Q3 N v2 v3 := by
  intro N
  induction N with
  | zero => intros; trivial
  | succ N IH =>
    intro v2 v3 h1 h2
    replace h1 : B_m_led_37 p1 M Q1 N (W_m_led_37 p1 M Q1 N) v2 v3 := h1
    replace h2 : B_m_led_37 p1 M Q2 N (W_m_led_37 p1 M Q2 N) v2 v3 := h2
    show B_m_led_37 p1 M Q3 N (W_m_led_37 p1 M Q3 N) v2 v3
    unfold B_m_led_37 at h1 h2 ⊢
    refine ⟨fun hc => ?_, fun hc => ?_⟩
    · replace h1 := h1.1 hc
      replace h2 := h2.1 hc
      refine ⟨fun hc => ?_, fun hc => ?_⟩
      · replace h1 := h1.1 hc
        replace h2 := h2.1 hc
        exact IH _ _ h1 h2
      · replace h1 := h1.2 hc
        replace h2 := h2.2 hc
        refine ⟨fun hc => ?_, fun hc => ?_⟩
        · replace h1 := h1.1 hc
          replace h2 := h2.1 hc
          exact IH _ _ h1 h2
        · replace h1 := h1.2 hc
          replace h2 := h2.2 hc
          exact IH _ _ h1 h2
    · replace h1 := h1.2 hc
      replace h2 := h2.2 hc
      exact hQ _ _ h1 h2
theorem and_m_led {p1 : Int32} {N : Nat} {M : MM} {Q1 Q2 Q3 : Int32 → MM → Prop} (hQ : ∀ (r : Int32) (M1 : MM), Q1 r M1 → Q2 r M1 → Q3 r M1) (h1 : W_m_led p1 N M Q1) (h2 : W_m_led p1 N M Q2) : W_m_led p1 N M Q3 := by
  unfold W_m_led at h1 h2 ⊢
  refine ⟨fun hc => ?_, fun hc => ?_⟩
  · replace h1 := h1.1 hc
    replace h2 := h2.1 hc
    refine and_m_throwsIf (fun r2 M3 h1 h2 => ?_) h1 h2
    refine ⟨fun hc => ?_, fun hc => ?_⟩
    · replace h1 := h1.1 hc
      replace h2 := h2.1 hc
      refine and_m_led_37  hQ N _ _ h1 h2
    · replace h1 := h1.2 hc
      replace h2 := h2.2 hc
      exact hQ _ _ h1 h2
  · replace h1 := h1.2 hc
    replace h2 := h2.2 hc
    refine ⟨fun hc => ?_, fun hc => ?_⟩
    · replace h1 := h1.1 hc
      replace h2 := h2.1 hc
      refine and_m_throwsIf (fun r9 M10 h1 h2 => ?_) h1 h2
      refine ⟨fun hc => ?_, fun hc => ?_⟩
      · replace h1 := h1.1 hc
        replace h2 := h2.1 hc
        refine and_m_led_37  hQ N _ _ h1 h2
      · replace h1 := h1.2 hc
        replace h2 := h2.2 hc
        exact hQ _ _ h1 h2
    · replace h1 := h1.2 hc
      replace h2 := h2.2 hc
      refine and_m_throwsIf (fun r12 M13 h1 h2 => ?_) h1 h2
      refine ⟨fun hc => ?_, fun hc => ?_⟩
      · replace h1 := h1.1 hc
        replace h2 := h2.1 hc
        refine and_m_led_37  hQ N _ _ h1 h2
      · replace h1 := h1.2 hc
        replace h2 := h2.2 hc
        exact hQ _ _ h1 h2
theorem and_m_takenFor_4 {p1 : Int32} {M : MM} {Q1 Q2 Q3 : Int32 → Prop} (hQ : ∀ (r : Int32), Q1 r → Q2 r → Q3 r) : ∀ (N : Nat) (v2 : Int32) (v3 : Int32), W_m_takenFor_4 p1 M Q1 N v2 v3 → W_m_takenFor_4 p1 M Q2 N v2 v3 → W_m_takenFor_4 p1 M Q3 N v2 v3 := by
  intro N
  induction N with
  | zero => intros; trivial
  | succ N IH =>
    intro v2 v3 h1 h2
    replace h1 : B_m_takenFor_4 p1 M Q1 N (W_m_takenFor_4 p1 M Q1 N) v2 v3 := h1
    replace h2 : B_m_takenFor_4 p1 M Q2 N (W_m_takenFor_4 p1 M Q2 N) v2 v3 := h2
    show B_m_takenFor_4 p1 M Q3 N (W_m_takenFor_4 p1 M Q3 N) v2 v3
    unfold B_m_takenFor_4 at h1 h2 ⊢
    refine ⟨fun hc => ?_, fun hc => ?_⟩
    · replace h1 := h1.1 hc
      replace h2 := h2.1 hc
      refine ⟨fun hc => ?_, fun hc => ?_⟩
      · replace h1 := h1.1 hc
        replace h2 := h2.1 hc
        exact IH _ _ h1 h2
      · replace h1 := h1.2 hc
        replace h2 := h2.2 hc
        exact IH _ _ h1 h2
    · replace h1 := h1.2 hc
      replace h2 := h2.2 hc
      exact hQ _ h1 h2
theorem and_m_takenFor {p1 : Int32} {N : Nat} {M : MM} {Q1 Q2 Q3 : Int32 → Prop} (hQ : ∀ (r : Int32), Q1 r → Q2 r → Q3 r) (h1 : W_m_takenFor p1 N M Q1) (h2 : W_m_takenFor p1 N M Q2) : W_m_takenFor p1 N M Q3 := by
  unfold W_m_takenFor at h1 h2 ⊢
  refine and_m_takenFor_4  hQ N _ _ h1 h2
theorem and_m_worst_9 {M : MM} {Q1 Q2 Q3 : Int32 → MM → Prop} (hQ : ∀ (r : Int32) (M1 : MM), Q1 r M1 → Q2 r M1 → Q3 r M1) : ∀ (N : Nat) (v1 : Int32) (v2 : Int32), W_m_worst_9 M Q1 N v1 v2 → W_m_worst_9 M Q2 N v1 v2 → W_m_worst_9 M Q3 N v1 v2 := by
  intro N
  induction N with
  | zero => intros; trivial
  | succ N IH =>
    intro v1 v2 h1 h2
    replace h1 : B_m_worst_9 M Q1 N (W_m_worst_9 M Q1 N) v1 v2 := h1
    replace h2 : B_m_worst_9 M Q2 N (W_m_worst_9 M Q2 N) v1 v2 := h2
    show B_m_worst_9 M Q3 N (W_m_worst_9 M Q3 N) v1 v2
    unfold B_m_worst_9 at h1 h2 ⊢
    refine ⟨fun hc => ?_, fun hc => ?_⟩
    · replace h1 := h1.1 hc
      replace h2 := h2.1 hc
      refine and_m_takenFor (fun r2 h1 h2 => ?_) h1 h2
      refine ⟨fun hc => ?_, fun hc => ?_⟩
      · replace h1 := h1.1 hc
        replace h2 := h2.1 hc
        refine ⟨fun hc => ?_, fun hc => ?_⟩
        · replace h1 := h1.1 hc
          replace h2 := h2.1 hc
          exact IH _ _ h1 h2
        · replace h1 := h1.2 hc
          replace h2 := h2.2 hc
          refine and_m_takenFor (fun r6 h1 h2 => ?_) h1 h2
          refine and_m_takenFor (fun r8 h1 h2 => ?_) h1 h2
          refine ⟨fun hc => ?_, fun hc => ?_⟩
          · replace h1 := h1.1 hc
            replace h2 := h2.1 hc
            exact IH _ _ h1 h2
          · replace h1 := h1.2 hc
            replace h2 := h2.2 hc
            exact IH _ _ h1 h2
      · replace h1 := h1.2 hc
        replace h2 := h2.2 hc
        exact IH _ _ h1 h2
    · replace h1 := h1.2 hc
      replace h2 := h2.2 hc
      exact hQ _ _ h1 h2
theorem and_m_worst  {N : Nat} {M : MM} {Q1 Q2 Q3 : Int32 → MM → Prop} (hQ : ∀ (r : Int32) (M1 : MM), Q1 r M1 → Q2 r M1 → Q3 r M1) (h1 : W_m_worst  N M Q1) (h2 : W_m_worst  N M Q2) : W_m_worst  N M Q3 := by
  unfold W_m_worst at h1 h2 ⊢
  refine and_m_worst_9  hQ N _ _ h1 h2
theorem and_m_log {p1 : Int32} {p2 : Int32} {N : Nat} {M : MM} {Q1 Q2 Q3 : Int32 → MM → Prop} (hQ : ∀ (r : Int32) (M1 : MM), Q1 r M1 → Q2 r M1 → Q3 r M1) (h1 : W_m_log p1 p2 N M Q1) (h2 : W_m_log p1 p2 N M Q2) : W_m_log p1 p2 N M Q3 := by
  unfold W_m_log at h1 h2 ⊢
  refine ⟨fun hc => ?_, fun hc => ?_⟩
  · replace h1 := h1.1 hc
    replace h2 := h2.1 hc
    refine and_m_throwsIf (fun r2 M3 h1 h2 => ?_) h1 h2
    refine ⟨fun hc => ?_, fun hc => ?_⟩
    · replace h1 := h1.1 hc
      replace h2 := h2.1 hc
      refine ⟨fun hc => ?_, fun hc => ?_⟩
      · replace h1 := h1.1 hc
        replace h2 := h2.1 hc
        exact hQ _ _ h1 h2
      · replace h1 := h1.2 hc
        replace h2 := h2.2 hc
        exact hQ _ _ h1 h2
    · replace h1 := h1.2 hc
      replace h2 := h2.2 hc
      exact hQ _ _ h1 h2
  · replace h1 := h1.2 hc
    replace h2 := h2.2 hc
    refine and_m_throwsIf (fun r6 M7 h1 h2 => ?_) h1 h2
    refine ⟨fun hc => ?_, fun hc => ?_⟩
    · replace h1 := h1.1 hc
      replace h2 := h2.1 hc
      refine ⟨fun hc => ?_, fun hc => ?_⟩
      · replace h1 := h1.1 hc
        replace h2 := h2.1 hc
        exact hQ _ _ h1 h2
      · replace h1 := h1.2 hc
        replace h2 := h2.2 hc
        exact hQ _ _ h1 h2
    · replace h1 := h1.2 hc
      replace h2 := h2.2 hc
      exact hQ _ _ h1 h2
theorem and_m_seed {p1 : Int32} {N : Nat} {M : MM} {Q1 Q2 Q3 : Int32 → MM → Prop} (hQ : ∀ (r : Int32) (M1 : MM), Q1 r M1 → Q2 r M1 → Q3 r M1) (h1 : W_m_seed p1 N M Q1) (h2 : W_m_seed p1 N M Q2) : W_m_seed p1 N M Q3 := by
  unfold W_m_seed at h1 h2 ⊢
  exact hQ _ _ h1 h2
theorem and_m_count {p1 : Int32} {N : Nat} {M : MM} {Q1 Q2 Q3 : Int32 → MM → Prop} (hQ : ∀ (r : Int32) (M1 : MM), Q1 r M1 → Q2 r M1 → Q3 r M1) (h1 : W_m_count p1 N M Q1) (h2 : W_m_count p1 N M Q2) : W_m_count p1 N M Q3 := by
  unfold W_m_count at h1 h2 ⊢
  refine ⟨?_, ?_, ?_, ?_, ?_, ?_, ?_, ?_, ?_, ?_, ?_, ?_, ?_, ?_, ?_⟩
  · intro hc
    replace h1 := h1.1 hc
    replace h2 := h2.1 hc
    exact hQ _ _ h1 h2
  · intro hc
    replace h1 := h1.2.1 hc
    replace h2 := h2.2.1 hc
    exact hQ _ _ h1 h2
  · intro hc
    replace h1 := h1.2.2.1 hc
    replace h2 := h2.2.2.1 hc
    refine and_m_alive (fun r2 h1 h2 => ?_) h1 h2
    exact hQ _ _ h1 h2
  · intro hc
    replace h1 := h1.2.2.2.1 hc
    replace h2 := h2.2.2.2.1 hc
    exact hQ _ _ h1 h2
  · intro hc
    replace h1 := h1.2.2.2.2.1 hc
    replace h2 := h2.2.2.2.2.1 hc
    exact hQ _ _ h1 h2
  · intro hc
    replace h1 := h1.2.2.2.2.2.1 hc
    replace h2 := h2.2.2.2.2.2.1 hc
    refine and_m_inForce (fun r4 h1 h2 => ?_) h1 h2
    exact hQ _ _ h1 h2
  · intro hc
    replace h1 := h1.2.2.2.2.2.2.1 hc
    replace h2 := h2.2.2.2.2.2.2.1 hc
    refine and_m_takenNow (fun r6 h1 h2 => ?_) h1 h2
    exact hQ _ _ h1 h2
  · intro hc
    replace h1 := h1.2.2.2.2.2.2.2.1 hc
    replace h2 := h2.2.2.2.2.2.2.2.1 hc
    exact hQ _ _ h1 h2
  · intro hc
    replace h1 := h1.2.2.2.2.2.2.2.2.1 hc
    replace h2 := h2.2.2.2.2.2.2.2.2.1 hc
    exact hQ _ _ h1 h2
  · intro hc
    replace h1 := h1.2.2.2.2.2.2.2.2.2.1 hc
    replace h2 := h2.2.2.2.2.2.2.2.2.2.1 hc
    exact hQ _ _ h1 h2
  · intro hc
    replace h1 := h1.2.2.2.2.2.2.2.2.2.2.1 hc
    replace h2 := h2.2.2.2.2.2.2.2.2.2.2.1 hc
    exact hQ _ _ h1 h2
  · intro hc
    replace h1 := h1.2.2.2.2.2.2.2.2.2.2.2.1 hc
    replace h2 := h2.2.2.2.2.2.2.2.2.2.2.2.1 hc
    exact hQ _ _ h1 h2
  · intro hc
    replace h1 := h1.2.2.2.2.2.2.2.2.2.2.2.2.1 hc
    replace h2 := h2.2.2.2.2.2.2.2.2.2.2.2.2.1 hc
    exact hQ _ _ h1 h2
  · intro hc
    replace h1 := h1.2.2.2.2.2.2.2.2.2.2.2.2.2.1 hc
    replace h2 := h2.2.2.2.2.2.2.2.2.2.2.2.2.2.1 hc
    exact hQ _ _ h1 h2
  · intro hc0 hc1 hc2 hc3 hc4 hc5 hc6 hc7 hc8 hc9 hc10 hc11 hc12 hc13
    replace h1 := h1.2.2.2.2.2.2.2.2.2.2.2.2.2.2 hc0 hc1 hc2 hc3 hc4 hc5 hc6 hc7 hc8 hc9 hc10 hc11 hc12 hc13
    replace h2 := h2.2.2.2.2.2.2.2.2.2.2.2.2.2.2 hc0 hc1 hc2 hc3 hc4 hc5 hc6 hc7 hc8 hc9 hc10 hc11 hc12 hc13
    exact hQ _ _ h1 h2
end
section
/-! THE STATE OF THE REPUBLIC, as a row of the reference, and how a World of the class says the same -/
section MEMR
variable {M : MM} {a b c j k : Nat} {x : Int32} {y : Int64}
theorem wi_1n (h : ¬ (c = a ∧ j = k)) : (wi M a k x).1 c j = M.1 c j := up_n h
theorem wi_1e : (wi M a k x).1 a k = x := up_s
theorem wi_2 : (wi M a k x).2 = M.2 := rfl
theorem wj_1 : (wj M a k y).1 = M.1 := rfl
theorem wj_2n (h : ¬ (c = a ∧ j = k)) : (wj M a k y).2 c j = M.2 c j := up_n h
theorem wj_2e : (wj M a k y).2 a k = y := up_s
theorem cp0_1n (h : ¬ c = b) : (cpM M 0 a b).1 c j = M.1 c j := if_neg h
theorem cp0_1e : (cpM M 0 a b).1 b j = M.1 a j := if_pos rfl
theorem cp0_2 : (cpM M 0 a b).2 = M.2 := rfl
theorem cp1_1 : (cpM M 1 a b).1 = M.1 := rfl
theorem cp1_2n (h : ¬ c = b) : (cpM M 1 a b).2 c j = M.2 c j := if_neg h
theorem cp1_2e : (cpM M 1 a b).2 b j = M.2 a j := if_pos rfl
end MEMR
abbrev RW : Type := Nat → Int32
abbrev RS : Type := Nat → Int64
def nC (w : RW) : Nat := ni (w 0)
def cl (w : RW) (c i : Nat) : Int32 := w (18 + 13 * c + i)
def alv (w : RW) (c : Nat) : Bool := decide (cl w c 0 = 1)
def WFc (w : RW) (c : Nat) : Prop := (cl w c 0 = 0 ∨ cl w c 0 = 1) ∧ 0 ≤ (cl w c 3).toInt ∧ (cl w c 4 = -1 ∨ (0 ≤ (cl w c 4).toInt ∧ (cl w c 4).toInt < (w 0).toInt)) ∧ (1 ≤ (cl w c 5).toInt ∧ (cl w c 5).toInt ≤ 6) ∧ (0 ≤ (cl w c 6).toInt ∧ (cl w c 6).toInt < (cl w c 5).toInt) ∧ ∀ k : Nat, k < 6 → (k : Int) < (cl w c 5).toInt → 0 ≤ (cl w c (7 + k)).toInt ∧ (cl w c (7 + k)).toInt ≤ 63
def WF (w : RW) : Prop := (0 ≤ (w 0).toInt ∧ (w 0).toInt ≤ 10) ∧ (0 ≤ (w 6).toInt ∧ (w 6).toInt ≤ 60) ∧ 0 ≤ (w 8).toInt ∧ ∀ c, c < nC w → WFc w c
def CWs (M : MM) (a : Nat) (w : RW) : Prop := M.1 a 0 = w 0 ∧ M.1 a 15 = w 1 ∧ M.1 a 13 = w 2 ∧ M.1 a 16 = w 3 ∧ M.1 a 17 = w 4 ∧ M.1 a 18 = w 5 ∧ M.1 a 11 = w 7 ∧ M.1 a 12 = w 8 ∧ M.1 a 14 = w 9
def CWc (M : MM) (a : Nat) (w : RW) (s : RS) (c : Nat) : Prop := M.1 (a + 1) c = cl w c 1 ∧ M.1 (a + 2) c = cl w c 2 ∧ M.1 (a + 3) c = cl w c 3 ∧ M.1 (a + 4) c = cl w c 4 ∧ M.1 (a + 6) c = cl w c 5 ∧ M.1 (a + 7) c = cl w c 6 ∧ (∀ k : Nat, k < 6 → (k : Int) < (cl w c 5).toInt → M.1 (a + 5) (6 * c + k) = cl w c (7 + k)) ∧ M.2 (a + 8) c = s c
def CWl (M : MM) (a : Nat) (w : RW) : Prop := M.1 (a + 10) 1 = w 6 ∧ (0 ≤ (M.1 (a + 10) 2).toInt ∧ (M.1 (a + 10) 2).toInt < 60) ∧ ∀ k q : Nat, k < 60 → (k : Int) < (w 6).toInt → q < 4 → M.1 (a + 10 + 1) (((ni (M.1 (a + 10) 2) + 59 - k) % 60) * 4 + q) = w (148 + 4 * k + q)
def CW (M : MM) (a : Nat) (w : RW) (s : RS) : Prop := CWs M a w ∧ (∀ d, d < 8 → M.1 (a + 9) d = w (10 + d)) ∧ M.1 a 1 = bs (alv w) (nC w) ∧ (∀ c, c < nC w → CWc M a w s c) ∧ CWl M a w
theorem nC_i {w : RW} (h : WF w) : (w 0).toInt = (nC w : Int) ∧ nC w ≤ 10 ∧ w 0 = i32 (nC w) := by
  obtain ⟨⟨h1, h2⟩, -⟩ := h
  have e : (w 0).toInt = (nC w : Int) := by unfold nC ni; omega
  exact ⟨e, by omega, i32_of e⟩
/-- the same cells -/
theorem CW_cp {M M' : MM} {a b : Nat} {w : RW} {s : RS} (h : CW M b w s) (h0 : ∀ k, (k = 0 ∨ k = 1 ∨ (11 ≤ k ∧ k ≤ 18)) → M'.1 a k = M.1 b k) (h1 : ∀ i, 1 ≤ i → i ≤ 9 → ∀ j, i ≠ 8 → M'.1 (a + i) j = M.1 (b + i) j) (h8 : ∀ j, M'.2 (a + 8) j = M.2 (b + 8) j) (h10 : M'.1 (a + 10) 1 = M.1 (b + 10) 1 ∧ M'.1 (a + 10) 2 = M.1 (b + 10) 2) (h11 : ∀ j, M'.1 (a + 10 + 1) j = M.1 (b + 10 + 1) j) : CW M' a w s := by
  obtain ⟨⟨a0, a1, a2, a3, a4, a5, a6, a7, a8⟩, b1, b2, b3, b4, b5, b6⟩ := h
  refine ⟨⟨?_, ?_, ?_, ?_, ?_, ?_, ?_, ?_, ?_⟩, fun d hd => ?_, ?_, fun c hc => ?_, ?_, ?_, fun k q hk hl hq => ?_⟩
  · rw [h0 0 (by omega)]; exact a0
  · rw [h0 15 (by omega)]; exact a1
  · rw [h0 13 (by omega)]; exact a2
  · rw [h0 16 (by omega)]; exact a3
  · rw [h0 17 (by omega)]; exact a4
  · rw [h0 18 (by omega)]; exact a5
  · rw [h0 11 (by omega)]; exact a6
  · rw [h0 12 (by omega)]; exact a7
  · rw [h0 14 (by omega)]; exact a8
  · rw [h1 9 (by omega) (by omega) _ (by omega)]; exact b1 d hd
  · rw [h0 1 (by omega)]; exact b2
  · obtain ⟨c1, c2, c3, c4, c5, c6, c7, c8⟩ := b3 c hc
    refine ⟨?_, ?_, ?_, ?_, ?_, ?_, fun k hk hl => ?_, ?_⟩
    · rw [h1 1 (by omega) (by omega) _ (by omega)]; exact c1
    · rw [h1 2 (by omega) (by omega) _ (by omega)]; exact c2
    · rw [h1 3 (by omega) (by omega) _ (by omega)]; exact c3
    · rw [h1 4 (by omega) (by omega) _ (by omega)]; exact c4
    · rw [h1 6 (by omega) (by omega) _ (by omega)]; exact c5
    · rw [h1 7 (by omega) (by omega) _ (by omega)]; exact c6
    · rw [h1 5 (by omega) (by omega) _ (by omega)]; exact c7 k hk hl
    · rw [h8]; exact c8
  · rw [h10.1]; exact b4
  · rw [h10.2]; exact b5
  · rw [h10.2, h11]; exact b6 k q hk hl hq
theorem CW_fr {M M' : MM} {a : Nat} {w : RW} {s : RS} (h : CW M a w s) (hf : ∀ b j, a ≤ b → b ≤ a + 11 → M'.1 b j = M.1 b j ∧ M'.2 b j = M.2 b j) : CW M' a w s :=
  CW_cp h (fun k _ => (hf a k (by omega) (by omega)).1) (fun i _ _ j _ => (hf (a + i) j (by omega) (by omega)).1) (fun j => (hf (a + 8) j (by omega) (by omega)).2) ⟨(hf (a + 10) 1 (by omega) (by omega)).1, (hf (a + 10) 2 (by omega) (by omega)).1⟩ (fun j => (hf (a + 10 + 1) j (by omega) (by omega)).1)
/-- another row that says the same -/
theorem CW_w {M : MM} {a : Nat} {w w' : RW} {s s' : RS} (h : CW M a w s) (hn : nC w ≤ 10) (h6 : (w 6).toInt ≤ 60) (hw : ∀ k, k < 388 → w' k = w k) (hs : ∀ c, c < 10 → s' c = s c) : CW M a w' s' := by
  obtain ⟨⟨a0, a1, a2, a3, a4, a5, a6, a7, a8⟩, b1, b2, b3, b4, b5, b6⟩ := h
  have en : nC w' = nC w := by unfold nC; rw [hw 0 (by omega)]
  have ec : ∀ c i, c < 10 → i < 13 → cl w' c i = cl w c i := fun c i hc hi => hw _ (by omega)
  refine ⟨⟨?_, ?_, ?_, ?_, ?_, ?_, ?_, ?_, ?_⟩, fun d hd => ?_, ?_, fun c hc => ?_, ?_, b5, fun k q hk hl hq => ?_⟩
  · rw [hw _ (by omega)]; exact a0
  · rw [hw _ (by omega)]; exact a1
  · rw [hw _ (by omega)]; exact a2
  · rw [hw _ (by omega)]; exact a3
  · rw [hw _ (by omega)]; exact a4
  · rw [hw _ (by omega)]; exact a5
  · rw [hw _ (by omega)]; exact a6
  · rw [hw _ (by omega)]; exact a7
  · rw [hw _ (by omega)]; exact a8
  · rw [hw _ (by omega)]; exact b1 d hd
  · rw [en, b2]
    exact bs_congr (fun k hk => by unfold alv; rw [ec k 0 (by omega) (by omega)])
  · rw [en] at hc
    obtain ⟨c1, c2, c3, c4, c5, c6, c7, c8⟩ := b3 c hc
    have hc10 : c < 10 := by omega
    refine ⟨?_, ?_, ?_, ?_, ?_, ?_, fun k hk hl => ?_, ?_⟩
    · rw [ec c 1 hc10 (by omega)]; exact c1
    · rw [ec c 2 hc10 (by omega)]; exact c2
    · rw [ec c 3 hc10 (by omega)]; exact c3
    · rw [ec c 4 hc10 (by omega)]; exact c4
    · rw [ec c 5 hc10 (by omega)]; exact c5
    · rw [ec c 6 hc10 (by omega)]; exact c6
    · rw [ec c 5 hc10 (by omega)] at hl
      rw [ec c (7 + k) hc10 (by omega)]; exact c7 k hk hl
    · rw [hs c hc10]; exact c8
  · rw [hw _ (by omega)]; exact b4
  · rw [hw 6 (by omega)] at hl
    rw [hw _ (by omega)]; exact b6 k q hk hl hq
theorem WF_w {w w' : RW} (h : WF w) (hw : ∀ k, k < 388 → w' k = w k) : WF w' := by
  obtain ⟨hn1, hn2, -⟩ := nC_i h
  obtain ⟨h0, h6, h8, hc⟩ := h
  have en : nC w' = nC w := by unfold nC; rw [hw 0 (by omega)]
  have ec : ∀ c i, c < 10 → i < 13 → cl w' c i = cl w c i := fun c i hc hi => hw _ (by omega)
  refine ⟨by rw [hw 0 (by omega)]; exact h0, by rw [hw 6 (by omega)]; exact h6, by rw [hw 8 (by omega)]; exact h8, fun c hcn => ?_⟩
  rw [en] at hcn
  obtain ⟨c1, c2, c3, c4, c5, c6⟩ := hc c hcn
  have hc10 : c < 10 := by omega
  refine ⟨by rw [ec c 0 hc10 (by omega)]; exact c1, by rw [ec c 3 hc10 (by omega)]; exact c2, by rw [ec c 4 hc10 (by omega), hw 0 (by omega)]; exact c3, by rw [ec c 5 hc10 (by omega)]; exact c4, by rw [ec c 5 hc10 (by omega), ec c 6 hc10 (by omega)]; exact c5, fun k hk hl => ?_⟩
  rw [ec c 5 hc10 (by omega)] at hl
  rw [ec c (7 + k) hc10 (by omega)]
  exact c6 k hk hl
/-- a World becomes another -/
theorem sp_become {a b N : Nat} {M : MM} {w : RW} {s : RS} {Q : MM → Prop} (hab : a + 12 ≤ b ∨ b + 12 ≤ a) (h : CW M b w s) (hQ : ∀ M', CW M' a w s → Eqo (fp_World_become a b) M M' → Q M') : W_World_become a b N M Q := by
  refine and_World_become (Q1 := fun M' => CW M' a w s) (fun M' h1 h2 => hQ M' h1 h2) ?_ (an_World_become (Q := fun M' => Eqo (fp_World_become a b) M M') (fun M1 h => h))
  unfold W_World_become W_Log_become
  refine CW_cp h (fun k hk => ?_) (fun i h1 h2 j h8 => ?_) (fun j => ?_) ⟨?_, ?_⟩ (fun j => ?_)
  · have : k = 0 ∨ k = 1 ∨ k = 11 ∨ k = 12 ∨ k = 13 ∨ k = 14 ∨ k = 15 ∨ k = 16 ∨ k = 17 ∨ k = 18 := by omega
    rcases this with rfl | rfl | rfl | rfl | rfl | rfl | rfl | rfl | rfl | rfl <;> simp (disch := omega) only [wi_1n, wi_1e, cp0_1n, cp1_1]
  · have : i = 1 ∨ i = 2 ∨ i = 3 ∨ i = 4 ∨ i = 5 ∨ i = 6 ∨ i = 7 ∨ i = 9 := by omega
    rcases this with rfl | rfl | rfl | rfl | rfl | rfl | rfl | rfl <;> simp (disch := omega) only [wi_1n, cp0_1n, cp0_1e, cp1_1]
  · simp (disch := omega) only [wi_2, cp0_2, cp1_2e, cp1_2n]
  · simp (disch := omega) only [wi_1n, wi_1e, cp0_1n, cp1_1]
  · simp (disch := omega) only [wi_1n, wi_1e, cp0_1n, cp1_1]
  · simp (disch := omega) only [wi_1n, cp0_1n, cp0_1e, cp1_1]
end
section
/-! WHAT A CLAUSE SAYS: the class's steps, the reference's steps -/
def lin (tm : Nat → Int32) (pl wh kn dy st : Int32) : Int32 := ((((tm (ni st)) + ((tm (ni (st + 1))) * pl)) + ((tm (ni (st + 2))) * dy)) + ((tm (ni (st + 3))) * wh)) + ((tm (ni (st + 4))) * kn)
def b32 (b : Bool) : Int32 := if b = true then 1 else 0
def cst (tm : Nat → Int32) (pl wh kn dy st t : Int32) : Int32 :=
  if st = -1 then sl t 1 ||| b32 (decide (rm dy 7 = 0))
  else if st = -2 then t ^^^ 1
  else if st = -3 then (sr t 1) &&& ((t &&& 1) ||| (-2))
  else if st = -4 then (sr t 1) ||| (t &&& 1)
  else if st < 0 then t
  else if 665 < st + 5 then t
  else sl t 1 ||| b32 (decide (0 < lin tm pl wh kn dy st))
def crun (sp tm : Nat → Int32) (pl wh kn dy : Int32) : Nat → Nat → Int32 → Int32
  | _, 0, t => t
  | i, n + 1, t => crun sp tm pl wh kn dy (i + 1) n (cst tm pl wh kn dy (sp i) t)
theorem crun_0 {sp tm : Nat → Int32} {pl wh kn dy t : Int32} {i : Nat} : crun sp tm pl wh kn dy i 0 t = t := rfl
theorem crun_s {sp tm : Nat → Int32} {pl wh kn dy t : Int32} {i n : Nat} : crun sp tm pl wh kn dy i (n + 1) t = crun sp tm pl wh kn dy (i + 1) n (cst tm pl wh kn dy (sp i) t) := rfl
def cfrom (M : MM) (a k : Nat) : Nat := if k = 0 then 0 else ni (M.1 (a + 2) (k - 1))
def cT (M : MM) (a k : Nat) (pl wh kn dy : Int32) : Bool := decide ((crun (M.1 (a + 3)) (M.1 (a + 4)) pl wh kn dy (cfrom M a k) (ni (M.1 (a + 2) k) - cfrom M a k) 1) &&& 1 = 1)
theorem b32_1 : b32 true = 1 := rfl
theorem b32_0 : b32 false = 0 := rfl
theorem ni_lt {x y : Int32} (hx : 0 ≤ x.toInt) : x < y ↔ ni x < ni y := by
  rw [Int32.lt_iff_toInt_lt]
  unfold ni
  omega
theorem ni_ge (x : Int32) : ni x < 2147483648 := by
  have := Int32.toInt_lt x
  unfold ni
  omega
theorem i32_ni {x : Int32} (h : 0 ≤ x.toInt) : x = i32 (ni x) := i32_of (by unfold ni; omega)
theorem i32_0 : (0 : Int32) = i32 0 := rfl
theorem sp_holds {a k N : Nat} {M : MM} {pl wh kn dy : Int32} {Q : Int32 → Prop} (hk : k < 12) (he : ∀ j, j < k → 0 ≤ (M.1 (a + 2) j).toInt) (hQ : Q (b32 (cT M a k pl wh kn dy))) : W_Law_holds a (i32 k) pl wh kn dy N M Q := by
  have key : ∀ j0, j0 < 2147483648 → crun (M.1 (a + 3)) (M.1 (a + 4)) pl wh kn dy j0 (ni (M.1 (a + 2) k) - j0) 1 = crun (M.1 (a + 3)) (M.1 (a + 4)) pl wh kn dy (cfrom M a k) (ni (M.1 (a + 2) k) - cfrom M a k) 1 → W_Law_holds_25 a (i32 k) pl wh kn dy M Q N 1 (i32 j0) := by
    intro j0 hj0 e0
    have hb := ni_ge (M.1 (a + 2) k)
    refine I_Law_holds_25 a _ _ _ _ _ M Q (fun t v => ∃ j, j < 2147483648 ∧ v = i32 j ∧ crun (M.1 (a + 3)) (M.1 (a + 4)) pl wh kn dy j (ni (M.1 (a + 2) k) - j) t = crun (M.1 (a + 3)) (M.1 (a + 4)) pl wh kn dy (cfrom M a k) (ni (M.1 (a + 2) k) - cfrom M a k) 1) (fun N ih t v hih hv => ?_) N _ _ ⟨j0, hj0, rfl, e0⟩
    obtain ⟨j, hj, rfl, e⟩ := hv
    unfold B_Law_holds_25
    rw [ni_i (show k < 2147483648 by omega), ni_i hj]
    refine ⟨fun hlt => ?_, fun hlt => ?_⟩
    · rw [ni_lt (by rw [i32_i hj]; omega), ni_i hj] at hlt
      have e1 : ni (M.1 (a + 2) k) - j = (ni (M.1 (a + 2) k) - (j + 1)) + 1 := by omega
      rw [e1, crun_s] at e
      have nx : ∀ t', cst (M.1 (a + 4)) pl wh kn dy (M.1 (a + 3) j) t = t' → ih t' (i32 j + 1) := fun t' ht => hih _ _ ⟨j + 1, by omega, i32_s j, by rw [← ht]; exact e⟩
      unfold cst at nx
      refine ⟨fun h1 => ?_, fun h1 => ⟨fun h2 => ?_, fun h2 => ⟨fun h3 => ?_, fun h3 => ⟨fun h4 => ?_, fun h4 => ⟨fun h5 => ?_, fun h5 => ⟨fun h6 => ?_, fun h6 => ?_⟩⟩⟩⟩⟩⟩
      · simp only [h1, if_true] at nx
        refine ⟨fun h7 => nx _ ?_, fun h7 => nx _ ?_⟩
        · rw [decide_eq_true h7]; rfl
        · rw [decide_eq_false h7]; rfl
      · simp only [h1, h2, if_true, if_false] at nx
        exact nx _ rfl
      · simp only [h1, h2, h3, if_true, if_false] at nx
        exact nx _ rfl
      · simp only [h1, h2, h3, h4, if_true, if_false] at nx
        exact nx _ rfl
      · simp only [h1, h2, h3, h4, h5, if_true, if_false] at nx
        exact nx _ rfl
      · simp only [h1, h2, h3, h4, h5, h6, if_true, if_false] at nx
        exact nx _ rfl
      · simp only [h1, h2, h3, h4, h5, h6, if_true, if_false] at nx
        refine ⟨fun h7 => nx _ ?_, fun h7 => nx _ ?_⟩
        · rw [show decide (0 < lin (M.1 (a + 4)) pl wh kn dy (M.1 (a + 3) j)) = true from decide_eq_true h7]; rfl
        · rw [show decide (0 < lin (M.1 (a + 4)) pl wh kn dy (M.1 (a + 3) j)) = false from decide_eq_false h7]; rfl
    · rw [ni_lt (by rw [i32_i hj]; omega), ni_i hj] at hlt
      have e1 : ni (M.1 (a + 2) k) - j = 0 := by omega
      rw [e1, crun_0] at e
      unfold cT at hQ
      rw [← e] at hQ
      refine ⟨fun h1 => ?_, fun h1 => ?_⟩
      · rw [decide_eq_true h1] at hQ; exact hQ
      · rw [decide_eq_false h1] at hQ; exact hQ
  unfold W_Law_holds
  refine ⟨fun h => ?_, fun h => ?_⟩
  · refine key 0 (by omega) ?_
    have : k = 0 := (i32_inj (by omega) (by omega)).mp (h.trans i32_0)
    subst this
    rfl
  · have hk0 : k ≠ 0 := fun e => h (by rw [e]; rfl)
    obtain ⟨k', rfl⟩ : ∃ k', k = k' + 1 := ⟨k - 1, by omega⟩
    have e1 : i32 (k' + 1) - 1 = i32 k' := by
      rw [← i32_s]
      exact Int32.add_sub_cancel _ _
    rw [e1, ni_i (by omega), i32_ni (he k' (by omega))]
    refine key _ (ni_ge _) ?_
    unfold cfrom
    rw [if_neg hk0]
    rfl
/-- what the class's law tells: how many clauses; of each: does it demand, the deed, the truth -/
abbrev LWT : Type := Nat × (Nat → Int32) × (Nat → Int32) × (Nat → Int32 → Int32 → Int32 → Int32 → Bool)
def rng (pl wh kn dy : Int32) : Prop := (0 ≤ pl.toInt ∧ pl.toInt < 8) ∧ (0 ≤ wh.toInt ∧ wh.toInt < 10) ∧ (0 ≤ kn.toInt ∧ kn.toInt ≤ 64) ∧ (0 ≤ dy.toInt ∧ dy.toInt ≤ 30000)
def LawC (M : MM) (a : Nat) (L : LWT) : Prop := M.1 a 1 = i32 L.1 ∧ L.1 ≤ 12 ∧ (∀ j, j < L.1 → 0 ≤ (M.1 (a + 2) j).toInt) ∧ ∀ k, k < L.1 → (sr (M.1 a 2) (i32 k) &&& 1) = L.2.1 k ∧ M.1 (a + 1) k = L.2.2.1 k ∧ ∀ pl wh kn dy, rng pl wh kn dy → cT M a k pl wh kn dy = L.2.2.2 k pl wh kn dy
/-- the clauses that bear so -/
def bear (L : LWT) (dem m wh kn dy : Int32) (k : Nat) : Bool := decide (L.2.2.1 k = m / 8) && (decide (L.2.1 k = dem) && L.2.2.2 k (rm m 8) wh kn dy)
theorem bs_s {P : Nat → Bool} {n : Nat} : bs P (n + 1) = if P n = true then bs P n ||| sl 1 (i32 n) else bs P n := rfl
theorem sp_bearing {a N : Nat} {M : MM} {L : LWT} {d m wh kn dy : Int32} {Q : Int32 → Prop} (hL : LawC M a L) (hd : d = 0 ∨ d = 1) (hr : rng (rm m 8) wh kn dy) (hQ : Q (bs (bear L d m wh kn dy) L.1)) : W_Law_bearing a d m wh kn dy N M Q := by
  obtain ⟨l1, l2, l3, l4⟩ := hL
  have key : W_Law_bearing_23 a d m wh kn dy (m / 8) d M Q N 0 (i32 0) := by
    refine I_Law_bearing_23 a _ _ _ _ _ _ _ M Q (fun acc v => ∃ j, j ≤ L.1 ∧ v = i32 j ∧ acc = bs (bear L d m wh kn dy) j) (fun N ih acc v hih hv => ?_) N _ _ ⟨0, by omega, rfl, rfl⟩
    obtain ⟨j, hj, rfl, rfl⟩ := hv
    unfold B_Law_bearing_23
    rw [l1, i32_lt (by omega) (by omega), ni_i (by omega)]
    refine ⟨fun hlt => ?_, fun hlt => ?_⟩
    · obtain ⟨m1, m2, m3⟩ := l4 j hlt
      have nx : ih (bs (bear L d m wh kn dy) (j + 1)) (i32 j + 1) := hih _ _ ⟨j + 1, by omega, i32_s j, rfl⟩
      rw [bs_s] at nx
      unfold bear at nx
      rw [m2]
      unfold V_E_bit
      rw [m1]
      refine ⟨fun h1 => ⟨fun h2 => ?_, fun h2 => ?_⟩, fun h1 => ?_⟩
      · refine sp_holds (by omega) (fun j2 hj2 => l3 j2 (by omega)) ?_
        rw [m3 _ _ _ _ hr]
        simp only [h1, h2, decide_true, Bool.true_and] at nx
        cases hT : L.2.2.2 j (rm m 8) wh kn dy with
        | true =>
          rw [hT] at nx
          simp only [if_true] at nx
          exact ⟨fun h => absurd h (by decide), fun _ => nx⟩
        | false =>
          rw [hT] at nx
          simp only [Bool.false_eq_true, if_false] at nx
          exact ⟨fun _ => nx, fun h => absurd rfl h⟩
      · simp only [h2, decide_false, Bool.false_and, Bool.and_false, Bool.false_eq_true, if_false] at nx
        exact nx
      · simp only [h1, decide_false, Bool.false_and, Bool.false_eq_true, if_false] at nx
        exact nx
    · obtain rfl : j = L.1 := by omega
      exact hQ
  unfold W_Law_bearing
  rcases hd with rfl | rfl
  · exact ⟨fun _ => key, fun h => absurd rfl h⟩
  · exact ⟨fun h => absurd h (by decide), fun _ => key⟩
/-! the reference's steps: a stack of values -/
abbrev RV : Type := Int32 × (Nat → Int32)
def up1 (f : Nat → Int32) (k : Nat) (x : Int32) : Nat → Int32 := fun j => if j = k then x else f j
def rfact (op n pl wh kn dy : Int32) : Int32 := if op = 0 then pl else if op = 1 then dy else if op = 2 then wh else if op = 3 then kn else if op = 4 then (if rm dy 7 = 0 then 1 else 0) else n
def rop (op x y : Int32) : Int32 := if op = 6 then x + y else b32 (if op = 7 then decide (x < y) else if op = 8 then decide (y < x) else if op = 10 then decide (x + y = 2) else decide (0 < x + y))
def rst (pl wh kn dy op n : Int32) (v : RV) : RV :=
  if 5 < op then
    (if op = 9 then (v.1, up1 v.2 (ni (v.1 - 1)) (1 - v.2 (ni (v.1 - 1))))
     else (v.1 + (-1), up1 v.2 (ni ((v.1 + (-1)) - 1)) (rop op (v.2 (ni ((v.1 + (-1)) - 1))) (v.2 (ni (v.1 + (-1)))))))
  else (v.1 + 1, up1 v.2 (ni v.1) (rfact op n pl wh kn dy))
def rrun (td : Nat → Int32) (pl wh kn dy : Int32) : Nat → Nat → RV → RV
  | _, 0, v => v
  | i, n + 1, v => rrun td pl wh kn dy (i + 1) n (rst pl wh kn dy (td (2 * i)) (td (2 * i + 1)) v)
def rfin (v : RV) : Bool := decide (v.1 = 0) || decide (v.2 0 = 1)
def rT (M : MM) (k : Nat) (pl wh kn dy : Int32) (val : Nat → Int32) : Bool := rfin (rrun (M.1 202) pl wh kn dy (ni (M.1 201 (4 * k + 2))) (ni (M.1 201 (4 * k + 3)) - ni (M.1 201 (4 * k + 2))) (0, val))
def svM (M : MM) (val : Nat → Int32) : MM := (fun c j => if c = 207 then val j else M.1 c j, M.2)
theorem svM_n {M : MM} {val : Nat → Int32} {c j : Nat} (h : c ≠ 207) : (svM M val).1 c j = M.1 c j := if_neg h
theorem svM_e {M : MM} {val : Nat → Int32} {j : Nat} : (svM M val).1 207 j = val j := by
  show (if (207 : Nat) = 207 then val j else M.1 207 j) = val j
  exact if_pos rfl
theorem svM_2 {M : MM} {val : Nat → Int32} : (svM M val).2 = M.2 := rfl
theorem svM_w {M : MM} {val : Nat → Int32} {k : Nat} {x : Int32} : wi (svM M val) 207 k x = svM M (up1 val k x) := by
  unfold wi svM
  congr 1
  funext c j
  unfold up up1
  by_cases hc : c = 207
  · subst hc
    by_cases hj : j = k
    · simp [hj]
    · simp [hj]
  · simp [hc]
theorem svM_s {M : MM} {v v' : Nat → Int32} : svM (svM M v) v' = svM M v' := by
  unfold svM
  congr 1
  funext c j
  by_cases hc : c = 207 <;> simp [hc]
theorem svM_id {M : MM} : svM M (M.1 207) = M := by
  unfold svM
  have : (fun c j => if c = 207 then M.1 207 j else M.1 c j) = M.1 := by
    funext c j
    by_cases hc : c = 207
    · subst hc; simp
    · simp [hc]
  rw [this]
def LawR (M : MM) (L : LWT) : Prop := L.1 ≤ 12 ∧ ∀ k, k < L.1 → (if M.1 201 (4 * k) = 1 then (1 : Int32) else 0) = L.2.1 k ∧ M.1 201 (4 * k + 1) = L.2.2.1 k ∧ 0 ≤ (M.1 201 (4 * k + 2)).toInt ∧ ni (M.1 201 (4 * k + 3)) ≤ 400 ∧ ∀ pl wh kn dy val, rng pl wh kn dy → rT M k pl wh kn dy val = L.2.2.2 k pl wh kn dy
end
section
/-! WHAT THE REFERENCE'S CLAUSES SAY -/
theorem i32_a (a b : Nat) : i32 a + i32 b = i32 (a + b) := by
  unfold i32
  rw [Int32.ofNat_add]
theorem i32_m (a b : Nat) : i32 a * i32 b = i32 (a * b) := by
  unfold i32
  rw [Int32.ofNat_mul]
theorem rrun_0 {td : Nat → Int32} {pl wh kn dy : Int32} {i : Nat} {v : RV} : rrun td pl wh kn dy i 0 v = v := rfl
theorem rrun_s {td : Nat → Int32} {pl wh kn dy : Int32} {i n : Nat} {v : RV} : rrun td pl wh kn dy i (n + 1) v = rrun td pl wh kn dy (i + 1) n (rst pl wh kn dy (td (2 * i)) (td (2 * i + 1)) v) := rfl
/-- how many clauses one knows -/
def knw (M : MM) (c : Int32) : Int32 := V_Int_bitCount (V_m_of c 1 M) M
theorem sp_isOf {k N : Nat} {M : MM} {L : LWT} {m c dy : Int32} {Q : Int32 → MM → Prop} (hL : LawR M L) (hk : k < L.1) (hr : rng (rm m 8) c (knw M c) dy) (hQ : ∀ val, Q (b32 (decide (L.2.2.1 k = m / 8) && L.2.2.2 k (rm m 8) c (knw M c) dy)) (svM M val)) : W_m_isOf (i32 k) m c dy N M Q := by
  obtain ⟨l0, l1⟩ := hL
  obtain ⟨m1, m2, m3, m4, m5⟩ := l1 k hk
  have q1 : ni (4 * i32 k + 1) = 4 * k + 1 := by
    rw [show (4 : Int32) * i32 k = i32 (4 * k) from i32_m 4 k, i32_s, ni_i (by omega)]
  have q2 : ni (4 * i32 k + 2) = 4 * k + 2 := by
    rw [show (4 : Int32) * i32 k = i32 (4 * k) from i32_m 4 k, show i32 (4 * k) + 2 = i32 (4 * k + 2) from i32_a (4 * k) 2, ni_i (by omega)]
  have q3 : ni (4 * i32 k + 3) = 4 * k + 3 := by
    rw [show (4 : Int32) * i32 k = i32 (4 * k) from i32_m 4 k, show i32 (4 * k) + 3 = i32 (4 * k + 3) from i32_a (4 * k) 3, ni_i (by omega)]
  unfold W_m_isOf V_m_deedOf
  rw [q1, m2, q2]
  refine ⟨fun hd => ?_, fun hd => ?_⟩
  · rw [decide_eq_true hd, Bool.true_and] at hQ
    have hi0 : ni (M.1 201 (4 * k + 2)) < 2147483648 := ni_ge _
    rw [i32_ni m3]
    refine I_m_isOf_29 _ _ _ _ Q (fun v5 v6 M' => ∃ i val, i < 2147483648 ∧ v6 = i32 i ∧ M' = svM M val ∧ rfin (rrun (M.1 202) (rm m 8) c (knw M c) dy i (ni (M.1 201 (4 * k + 3)) - i) (v5, val)) = L.2.2.2 k (rm m 8) c (knw M c) dy) (fun N ih v5 v6 M' hih hv => ?_) N _ _ _ ⟨ni (M.1 201 (4 * k + 2)), M.1 207, hi0, rfl, svM_id.symm, m5 _ _ _ _ _ hr⟩
    obtain ⟨i, val, hi, rfl, rfl, e⟩ := hv
    unfold B_m_isOf_29
    rw [q3]
    rw [show (svM M val).1 201 (4 * k + 3) = M.1 201 (4 * k + 3) from svM_n (by decide)]
    refine ⟨fun hlt => ?_, fun hlt => ?_⟩
    · rw [ni_lt (by rw [i32_i hi]; omega), ni_i hi] at hlt
      have e1 : ni (M.1 201 (4 * k + 3)) - i = (ni (M.1 201 (4 * k + 3)) - (i + 1)) + 1 := by omega
      rw [e1, rrun_s] at e
      have p1 : ni (2 * i32 i) = 2 * i := by
        rw [show (2 : Int32) * i32 i = i32 (2 * i) from i32_m 2 i, ni_i (by omega)]
      have p2 : ni (2 * i32 i + 1) = 2 * i + 1 := by
        rw [show (2 : Int32) * i32 i = i32 (2 * i) from i32_m 2 i, i32_s, ni_i (by omega)]
      rw [p1, p2]
      simp only [show ∀ j, (svM M val).1 202 j = M.1 202 j from fun j => svM_n (by decide), show ∀ j, (svM M val).1 207 j = val j from fun j => svM_e]
      have nx : ∀ v' : RV, rst (rm m 8) c (knw M c) dy (M.1 202 (2 * i)) (M.1 202 (2 * i + 1)) (v5, val) = v' → ih v'.1 (i32 i + 1) (svM M v'.2) := fun v' hv' => hih _ _ _ ⟨i + 1, v'.2, by omega, i32_s i, rfl, by rw [← hv']; exact e⟩
      generalize M.1 202 (2 * i) = op at nx ⊢
      generalize M.1 202 (2 * i + 1) = n at nx ⊢
      unfold rst at nx
      refine ⟨fun h5 => ⟨fun h9 => ?_, fun h9 => ?_⟩, fun h5 => ?_⟩
      · rw [if_pos h5, if_pos h9] at nx
        have := nx _ rfl
        rw [svM_w]
        exact this
      · rw [if_pos h5, if_neg h9] at nx
        have nx2 : ∀ x, rop op (val (ni ((v5 + (-1)) - 1))) (val (ni (v5 + (-1)))) = x → ih (v5 + (-1)) (i32 i + 1) (wi (svM M val) 207 (ni ((v5 + (-1)) - 1)) x) := fun x hx => by
          rw [svM_w, ← hx]
          have h3 := nx _ rfl
          dsimp only at h3
          exact h3
        clear nx
        generalize val (ni ((v5 + (-1)) - 1)) = x at nx2 ⊢
        generalize val (ni (v5 + (-1))) = y at nx2 ⊢
        unfold rop at nx2
        have c6 : ∀ z : Int32, (op = 6 → ih (v5 + (-1)) (i32 i + 1) (wi (svM M val) 207 (ni ((v5 + (-1)) - 1)) (x + y))) := fun z h6 => nx2 _ (if_pos h6)
        refine ⟨fun h7 => ⟨fun hc => ⟨c6 0, fun h6 => ?_⟩, fun hc => ⟨c6 0, fun h6 => ?_⟩⟩, fun h7 => ⟨fun h8 => ⟨fun hc => ⟨c6 0, fun h6 => ?_⟩, fun hc => ⟨c6 0, fun h6 => ?_⟩⟩, fun h8 => ⟨fun h10 => ⟨fun hc => ⟨c6 0, fun h6 => ?_⟩, fun hc => ⟨c6 0, fun h6 => ?_⟩⟩, fun h10 => ⟨fun hc => ⟨c6 0, fun h6 => ?_⟩, fun hc => ⟨c6 0, fun h6 => ?_⟩⟩⟩⟩⟩
        · exact nx2 1 (by rw [if_neg h6, if_pos h7, decide_eq_true hc]; rfl)
        · exact nx2 0 (by rw [if_neg h6, if_pos h7, decide_eq_false hc]; rfl)
        · exact nx2 1 (by rw [if_neg h6, if_neg h7, if_pos h8, decide_eq_true hc]; rfl)
        · exact nx2 0 (by rw [if_neg h6, if_neg h7, if_pos h8, decide_eq_false hc]; rfl)
        · exact nx2 1 (by rw [if_neg h6, if_neg h7, if_neg h8, if_pos h10, decide_eq_true hc]; rfl)
        · exact nx2 0 (by rw [if_neg h6, if_neg h7, if_neg h8, if_pos h10, decide_eq_false hc]; rfl)
        · exact nx2 1 (by rw [if_neg h6, if_neg h7, if_neg h8, if_neg h10, decide_eq_true hc]; rfl)
        · exact nx2 0 (by rw [if_neg h6, if_neg h7, if_neg h8, if_neg h10, decide_eq_false hc]; rfl)
      · rw [if_neg h5] at nx
        have := nx _ rfl
        rw [svM_w]
        exact this
    · rw [ni_lt (by rw [i32_i hi]; omega), ni_i hi] at hlt
      have e1 : ni (M.1 201 (4 * k + 3)) - i = 0 := by omega
      rw [e1, rrun_0] at e
      have hQ' := hQ val
      rw [← e] at hQ'
      unfold rfin at hQ'
      dsimp only at hQ'
      refine ⟨fun h1 => ?_, fun h1 => ⟨fun h2 => ?_, fun h2 => ?_⟩⟩
      · rw [decide_eq_true h1, Bool.true_or] at hQ'; exact hQ'
      · rw [show (svM M val).1 207 (ni 0) = val 0 from svM_e] at h2
        rw [decide_eq_true h2, Bool.or_true] at hQ'; exact hQ'
      · rw [show (svM M val).1 207 (ni 0) = val 0 from svM_e] at h2
        rw [decide_eq_false h1, decide_eq_false h2] at hQ'; exact hQ'
  · rw [decide_eq_false hd, Bool.false_and] at hQ
    have := hQ (M.1 207)
    rw [svM_id] at this
    exact this
theorem LawR_sv {M : MM} {L : LWT} (h : LawR M L) (val : Nat → Int32) : LawR (svM M val) L := h
theorem sp_saying {N : Nat} {M : MM} {L : LWT} {set d m c dy : Int32} {Q : Int32 → MM → Prop} (hL : LawR M L) (hn : V_m_clauses M = i32 L.1) (hr : rng (rm m 8) c (knw M c) dy) (hQ : ∀ val, Q (bs (fun k => tb set k && bear L d m c (knw M c) dy k) L.1) (svM M val)) : W_m_saying set d m c dy N M Q := by
  have l0 := hL.1
  unfold W_m_saying
  refine I_m_saying_6 _ _ _ _ _ Q (fun acc v M' => ∃ j val, j ≤ L.1 ∧ v = i32 j ∧ M' = svM M val ∧ acc = bs (fun k => tb set k && bear L d m c (knw M c) dy k) j) (fun N ih acc v M' hih hv => ?_) N _ _ _ ⟨0, M.1 207, by omega, rfl, svM_id.symm, rfl⟩
  obtain ⟨j, val, hj, rfl, rfl, rfl⟩ := hv
  unfold B_m_saying_6
  rw [show V_m_clauses (svM M val) = i32 L.1 from hn, i32_lt (by omega) (by omega)]
  refine ⟨fun hlt => ?_, fun hlt => ?_⟩
  · have nx : ∀ val', ih (bs (fun k => tb set k && bear L d m c (knw M c) dy k) (j + 1)) (i32 j + 1) (svM M val') := fun val' => hih _ _ _ ⟨j + 1, val', by omega, i32_s j, rfl, rfl⟩
    rw [bs_s] at nx
    unfold bear at nx
    obtain ⟨m1, m2, m3, m4⟩ := hL.2 j hlt
    have q0 : ni (4 * i32 j) = 4 * j := by
      rw [show (4 : Int32) * i32 j = i32 (4 * j) from i32_m 4 j, ni_i (by omega)]
    unfold V_m_has V_m_demands
    rw [q0, show (svM M val).1 201 (4 * j) = M.1 201 (4 * j) from svM_n (by decide), m1, Int32.or_zero]
    by_cases hs : tb set j = true
    · rw [if_pos ((bt_1 (by omega)).mpr hs)]
      refine ⟨fun h => absurd h (by decide), fun _ => ⟨fun hd => ?_, fun hd => ?_⟩⟩
      · refine sp_isOf (L := L) (LawR_sv hL val) hlt hr (fun val' => ?_)
        rw [svM_s]
        have nx' := nx val'
        rw [hs, decide_eq_true hd] at nx'
        simp only [Bool.true_and] at nx'
        rw [show knw (svM M val) c = knw M c from rfl]
        cases hT : (decide (L.2.2.1 j = m / 8) && L.2.2.2 j (rm m 8) c (knw M c) dy) with
        | true =>
          rw [hT] at nx'
          exact ⟨fun h => absurd h (by decide), fun _ => nx'⟩
        | false =>
          rw [hT] at nx'
          exact ⟨fun _ => nx', fun h => absurd rfl h⟩
      · have nx' := nx val
        rw [decide_eq_false hd] at nx'
        simp only [Bool.false_and, Bool.and_false, Bool.false_eq_true, if_false] at nx'
        exact nx'
    · rw [if_neg (fun h => hs ((bt_1 (by omega)).mp h))]
      have nx' := nx val
      simp only [hs, Bool.false_and, Bool.false_eq_true, if_false] at nx'
      exact ⟨fun _ => nx', fun h => absurd rfl h⟩
  · obtain rfl : j = L.1 := by omega
    exact hQ val
end
section
/-! KIT: longs' bits, remainders, what is read of a citizen -/
def sb (x : Int64) (k : Nat) : Bool := x.toBitVec.getLsbD k
theorem sb_ext {x y : Int64} (h : ∀ k, k < 64 → sb x k = sb y k) : x = y := by
  rw [← Int64.toBitVec_inj]
  exact BitVec.eq_of_getLsbD_eq h
theorem sb_or (x y : Int64) (k : Nat) : sb (x ||| y) k = (sb x k || sb y k) := by
  unfold sb
  rw [Int64.toBitVec_or, BitVec.getLsbD_or]
theorem sb_and (x y : Int64) (k : Nat) : sb (x &&& y) k = (sb x k && sb y k) := by
  unfold sb
  rw [Int64.toBitVec_and, BitVec.getLsbD_and]
theorem sb_1 (k : Nat) : sb (Int64.ofNat 1) k = decide (k = 0) := by
  unfold sb
  show (1#64).getLsbD k = _
  rw [BitVec.getLsbD_one]
  simp
theorem lh_a : ∀ j : Fin 64, (((i32 j).toInt64 &&& 63).toBitVec.smod 64).toNat = (j : Nat) := by decide
theorem lh_b : ∀ j : Fin 64, (((i32 j).toInt64.toUInt64 &&& Int64.toUInt64 63).toBitVec % 64).toNat = (j : Nat) := by decide
theorem sb_lr {x : Int64} {j : Nat} (hj : j < 64) : sb (lr x (i32 j)) 0 = sb x j := by
  unfold sb lr
  rw [Int64.toBitVec_shiftRight]
  simp only [BitVec.sshiftRight_eq', BitVec.getLsbD_sshiftRight]
  rw [lh_a ⟨j, hj⟩]
  simp [hj]
theorem sb_lu {x : Int64} {j : Nat} (hj : j < 64) : sb (lu x (i32 j)) 0 = sb x j := by
  unfold sb lu
  rw [UInt64.toBitVec_toInt64, UInt64.toBitVec_shiftRight]
  simp only [BitVec.ushiftRight_eq', BitVec.getLsbD_ushiftRight]
  rw [lh_b ⟨j, hj⟩]
  simp
theorem sb_bit {x : Int64} : (x &&& Int64.ofNat 1) = if sb x 0 then Int64.ofNat 1 else 0 := by
  apply sb_ext
  intro k hk
  rw [sb_and, sb_1]
  by_cases h : k = 0
  · subst h
    cases sb x 0 <;> simp [sb_1, sb]
  · cases sb x 0 <;> simp [sb_1, h, sb]
theorem lg_1 (b : Bool) : lg_cmp (if b then Int64.ofNat 1 else 0) (Int64.ofNat 1) = 0 ↔ b = true := by
  cases b
  · exact ⟨fun h => absurd h (by decide), fun h => absurd h (by decide)⟩
  · exact ⟨fun _ => rfl, fun _ => by decide⟩
theorem v_hasM {x : Int64} {j : Nat} {M : MM} (hj : j < 64) : V_m_hasMatter x (i32 j) M = b32 (sb x j) := by
  unfold V_m_hasMatter
  rw [sb_bit, sb_lr hj]
  by_cases h : sb x j = true
  · rw [if_pos ((lg_1 _).mpr h), h]; rfl
  · rw [if_neg (fun e => h ((lg_1 _).mp e))]
    simp only [Bool.not_eq_true] at h
    rw [h]; rfl
theorem v_hasS {a c j : Nat} {M : MM} (hc : c < 2147483648) (hj : j < 64) : V_World_hasSeen a (i32 c) (i32 j) M = b32 (sb (M.2 (a + 8) c) j) := by
  unfold V_World_hasSeen
  rw [ni_i hc, sb_bit, sb_lu hj]
  by_cases h : sb (M.2 (a + 8) c) j = true
  · rw [if_pos ((lg_1 _).mpr h), h]; rfl
  · rw [if_neg (fun e => h ((lg_1 _).mp e))]
    simp only [Bool.not_eq_true] at h
    rw [h]; rfl
theorem i32_d {x y : Nat} (hx : x < 2147483648) (hy : y < 2147483648) : i32 x / i32 y = i32 (x / y) := i32_of (iv_div_nn (i32_i hx) (i32_i hy))
theorem rm_n {x y : Nat} (hx : x < 2147483648) (hy : y < 2147483648) : rm (i32 x) (i32 y) = i32 (x % y) := i32_of (iv_rem_nn (i32_i hx) (i32_i hy))
theorem b32_eq0 {b : Bool} : b32 b = 0 ↔ b = false := by cases b <;> simp [b32]
theorem b32_ne0 {b : Bool} : ¬ b32 b = 0 ↔ b = true := by cases b <;> simp [b32]
theorem if_b32 {p : Prop} [Decidable p] : (if p then (1 : Int32) else 0) = b32 (decide p) := by
  by_cases h : p
  · rw [if_pos h, decide_eq_true h]; rfl
  · rw [if_neg h, decide_eq_false h]; rfl
/-- a citizen's place in a row -/
theorem ofs {c i : Nat} (hc : c < 1000) (hi : i < 1000) : ni ((18 + (13 * i32 c)) + i32 i) = 18 + 13 * c + i := by
  rw [show (13 : Int32) * i32 c = i32 (13 * c) from i32_m 13 c, show (18 : Int32) + i32 (13 * c) = i32 (18 + 13 * c) from i32_a 18 _, i32_a, ni_i (by omega)]
theorem v_of {c i : Nat} {M : MM} (hc : c < 1000) (hi : i < 1000) : V_m_of (i32 c) (i32 i) M = cl (M.1 191) c i := by
  unfold V_m_of cl
  rw [ofs hc hi]
theorem v_alive {c : Nat} {M : MM} (hc : c < 1000) : V_m_isAlive (i32 c) M = b32 (alv (M.1 191) c) := by
  unfold V_m_isAlive alv
  rw [show V_m_of (i32 c) 0 M = cl (M.1 191) c 0 from v_of (i := 0) hc (by omega), if_b32]
/-- the matter that is so far ahead -/
def md (w : RW) (c k : Nat) : Int32 := cl w c (7 + (ni (cl w c 6) + k) % ni (cl w c 5))
theorem v_does {c k : Nat} {M : MM} (hc : c < 1000) (h : WFc (M.1 191) c) (hk : k < 1000000) : V_m_doesIn (i32 c) (i32 k) M = md (M.1 191) c k := by
  obtain ⟨-, -, -, ⟨h1, h2⟩, ⟨h3, h4⟩, -⟩ := h
  unfold V_m_doesIn md
  rw [show V_m_of (i32 c) 6 M = cl (M.1 191) c 6 from v_of (i := 6) hc (by omega), show V_m_of (i32 c) 5 M = cl (M.1 191) c 5 from v_of (i := 5) hc (by omega)]
  have e6 := i32_ni h3
  have e5 := i32_ni (x := cl (M.1 191) c 5) (by omega)
  have b5 : ni (cl (M.1 191) c 5) ≤ 6 := by unfold ni; omega
  have b5' : 1 ≤ ni (cl (M.1 191) c 5) := by unfold ni; omega
  have b6 : ni (cl (M.1 191) c 6) < 6 := by unfold ni; omega
  generalize ni (cl (M.1 191) c 6) = x at *
  generalize ni (cl (M.1 191) c 5) = y at *
  rw [e6, e5, i32_a, rm_n (by omega) (by omega), show (7 : Int32) + i32 ((x + k) % y) = i32 (7 + (x + k) % y) from i32_a 7 _]
  have := Nat.mod_lt (x + k) (y := y) (by omega)
  exact v_of hc (by omega)
section CLS
variable {a c : Nat} {M : MM} {w : RW} {s : RS}
theorem c_alive (h : CW M a w s) (hw : WF w) (hc : c < nC w) : V_World_isAlive a (i32 c) M = b32 (alv w c) := by
  have := (nC_i hw).2.1
  unfold V_World_isAlive V_E_bit
  rw [h.2.2.1, bt_b (by omega), tb_bs _ _ (by omega) _ (by omega), decide_eq_true hc, Bool.true_and]
  cases alv w c
  · rfl
  · rfl
theorem c_ahead (h : CW M a w s) (hw : WF w) (hc : c < nC w) {k : Nat} (hk : k < 1000000) : V_World_matterAhead a (i32 c) (i32 k) M = md w c k := by
  have hn := (nC_i hw).2.1
  obtain ⟨-, -, -, ⟨h1, h2⟩, ⟨h3, h4⟩, -⟩ := hw.2.2.2 c hc
  obtain ⟨c1, c2, c3, c4, c5, c6, c7, c8⟩ := h.2.2.2.1 c hc
  unfold V_World_matterAhead V_World_matterAt md
  rw [ni_i (show c < 2147483648 by omega), c5, c6]
  have e6 := i32_ni h3
  have e5 := i32_ni (x := cl w c 5) (by omega)
  have b5 : ni (cl w c 5) ≤ 6 := by unfold ni; omega
  have b5' : 1 ≤ ni (cl w c 5) := by unfold ni; omega
  have b6 : ni (cl w c 6) < 6 := by unfold ni; omega
  rw [if_neg (by rw [Int32.lt_iff_toInt_lt, show (1 : Int32).toInt = 1 from rfl]; omega)]
  have hm := Nat.mod_lt (ni (cl w c 6) + k) (y := ni (cl w c 5)) (by omega)
  have key : ∀ x y : Nat, x < 6 → 1 ≤ y → y ≤ 6 → (i32 c * 6 + rm (i32 x + i32 k) (i32 y)) = i32 (6 * c + (x + k) % y) := fun x y hx hy1 hy2 => by
    rw [i32_a, rm_n (by omega) (by omega), show i32 c * 6 = i32 (c * 6) from i32_m c 6, i32_a, Nat.mul_comm]
  have key2 := key _ _ b6 b5' b5
  rw [← e6, ← e5] at key2
  rw [key2, ni_i (by omega)]
  have e7 : ((ni (cl w c 5) : Nat) : Int) = (cl w c 5).toInt := by unfold ni; omega
  exact c7 _ (by omega) (by omega)
theorem c_known (h : CW M a w s) (hc : c < nC w) (hw : WF w) : V_World_knownBy a (i32 c) M = V_Int_bitCount (cl w c 1) M := by
  have := (nC_i hw).2.1
  unfold V_World_knownBy
  rw [ni_i (show c < 2147483648 by omega), (h.2.2.2.1 c hc).1]
end CLS
end
