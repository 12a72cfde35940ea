/-! TWO ENDS AT ONCE (gw.py) -/
theorem and_m_telling_76 {p1 : Int32} {p2 : Int32} {u3 : Int32} {u6 : Int32} {u7 : Int32} {u8 : Int32} {k178a k178b k178c : Int32 → Int32 → MM → Prop} {Q1 Q2 Q3 : Int32 → MM → Prop} (hk178 : ∀ (v4 : Int32) (v5 : Int32) (M : MM), k178a v4 v5 M → k178b v4 v5 M → k178c v4 v5 M) (hQ : ∀ (r : Int32) (M1 : MM), Q1 r M1 → Q2 r M1 → Q3 r M1) : ∀ (N : Nat) (v4 : Int32) (v5 : Int32) (v9 : Int32) (M : MM), W_m_telling_76 p1 p2 u3 u6 u7 u8 k178a Q1 N v4 v5 v9 M → W_m_telling_76 p1 p2 u3 u6 u7 u8 k178b Q2 N v4 v5 v9 M → W_m_telling_76 p1 p2 u3 u6 u7 u8 k178c Q3 N v4 v5 v9 M := by
  intro N
  induction N with
  | zero => intros; trivial
  | succ N IH =>
    intro v4 v5 v9 M h1 h2
    replace h1 : B_m_telling_76 p1 p2 u3 u6 u7 u8 k178a Q1 N (W_m_telling_76 p1 p2 u3 u6 u7 u8 k178a Q1 N) v4 v5 v9 M := h1
    replace h2 : B_m_telling_76 p1 p2 u3 u6 u7 u8 k178b Q2 N (W_m_telling_76 p1 p2 u3 u6 u7 u8 k178b Q2 N) v4 v5 v9 M := h2
    show B_m_telling_76 p1 p2 u3 u6 u7 u8 k178c Q3 N (W_m_telling_76 p1 p2 u3 u6 u7 u8 k178c Q3 N) v4 v5 v9 M
    unfold B_m_telling_76 at h1 h2 ⊢
    refine ⟨fun hc => ?_, fun hc => ?_⟩
    · replace h1 := h1.1 hc
      replace h2 := h2.1 hc
      refine ⟨fun hc => ?_, fun hc => ?_⟩
      · replace h1 := h1.1 hc
        replace h2 := h2.1 hc
        refine ⟨fun hc => ?_, fun hc => ?_⟩
        · replace h1 := h1.1 hc
          replace h2 := h2.1 hc
          exact IH _ _ _ _ h1 h2
        · replace h1 := h1.2 hc
          replace h2 := h2.2 hc
          refine and_m_sets (fun M14 h1 h2 => ?_) h1 h2
          refine and_m_riskOf (fun r15 M16 h1 h2 => ?_) h1 h2
          refine and_m_sets (fun M18 h1 h2 => ?_) h1 h2
          refine ⟨fun hc => ?_, fun hc => ?_⟩
          · replace h1 := h1.1 hc
            replace h2 := h2.1 hc
            exact IH _ _ _ _ h1 h2
          · replace h1 := h1.2 hc
            replace h2 := h2.2 hc
            refine ⟨fun hc => ?_, fun hc => ?_⟩
            · replace h1 := h1.1 hc
              replace h2 := h2.1 hc
              exact IH _ _ _ _ h1 h2
            · replace h1 := h1.2 hc
              replace h2 := h2.2 hc
              exact IH _ _ _ _ h1 h2
      · replace h1 := h1.2 hc
        replace h2 := h2.2 hc
        exact IH _ _ _ _ h1 h2
    · replace h1 := h1.2 hc
      replace h2 := h2.2 hc
      exact hk178 _ _ _ h1 h2
theorem and_m_telling_33 {p1 : Int32} {p2 : Int32} {u3 : Int32} {Q1 Q2 Q3 : Int32 → MM → Prop} (hQ : ∀ (r : Int32) (M1 : MM), Q1 r M1 → Q2 r M1 → Q3 r M1) : ∀ (N : Nat) (v4 : Int32) (v5 : Int32) (v6 : Int32) (M : MM), W_m_telling_33 p1 p2 u3 Q1 N v4 v5 v6 M → W_m_telling_33 p1 p2 u3 Q2 N v4 v5 v6 M → W_m_telling_33 p1 p2 u3 Q3 N v4 v5 v6 M := by
  intro N
  induction N with
  | zero => intros; trivial
  | succ N IH =>
    intro v4 v5 v6 M h1 h2
    replace h1 : B_m_telling_33 p1 p2 u3 Q1 N (W_m_telling_33 p1 p2 u3 Q1 N) v4 v5 v6 M := h1
    replace h2 : B_m_telling_33 p1 p2 u3 Q2 N (W_m_telling_33 p1 p2 u3 Q2 N) v4 v5 v6 M := h2
    show B_m_telling_33 p1 p2 u3 Q3 N (W_m_telling_33 p1 p2 u3 Q3 N) v4 v5 v6 M
    unfold B_m_telling_33 at h1 h2 ⊢
    refine ⟨fun hc => ?_, fun hc => ?_⟩
    · replace h1 := h1.1 hc
      replace h2 := h2.1 hc
      refine ⟨fun hc => ?_, fun hc => ?_⟩
      · replace h1 := h1.1 hc
        replace h2 := h2.1 hc
        exact IH _ _ _ _ h1 h2
      · replace h1 := h1.2 hc
        replace h2 := h2.2 hc
        refine and_m_riskOf (fun r8 M9 h1 h2 => ?_) h1 h2
        refine and_m_telling_76 (fun x21 x22 M23 h1 h2 => ?_) hQ N _ _ _ _ h1 h2
        · exact IH _ _ _ _ h1 h2
    · replace h1 := h1.2 hc
      replace h2 := h2.2 hc
      refine ⟨fun hc => ?_, fun hc => ?_⟩
      · replace h1 := h1.1 hc
        replace h2 := h2.1 hc
        exact hQ _ _ h1 h2
      · replace h1 := h1.2 hc
        replace h2 := h2.2 hc
        exact hQ _ _ h1 h2
theorem and_m_telling {p1 : Int32} {p2 : Int32} {N : Nat} {M : MM} {Q1 Q2 Q3 : Int32 → MM → Prop} (hQ : ∀ (r : Int32) (M1 : MM), Q1 r M1 → Q2 r M1 → Q3 r M1) (h1 : W_m_telling p1 p2 N M Q1) (h2 : W_m_telling p1 p2 N M Q2) : W_m_telling p1 p2 N M Q3 := by
  unfold W_m_telling at h1 h2 ⊢
  refine and_m_throwsIf (fun r1 M2 h1 h2 => ?_) h1 h2
  refine ⟨fun hc => ?_, fun hc => ?_⟩
  · replace h1 := h1.1 hc
    replace h2 := h2.1 hc
    refine and_m_inForce (fun r4 h1 h2 => ?_) h1 h2
    refine and_m_telling_33  hQ N _ _ _ _ h1 h2
  · replace h1 := h1.2 hc
    replace h2 := h2.2 hc
    exact hQ _ _ h1 h2
theorem and_m_deduced_45 {p1 : Int32} {Q1 Q2 Q3 : Int32 → MM → Prop} (hQ : ∀ (r : Int32) (M1 : MM), Q1 r M1 → Q2 r M1 → Q3 r M1) : ∀ (N : Nat) (v2 : Int32) (v3 : Int32) (M : MM), W_m_deduced_45 p1 Q1 N v2 v3 M → W_m_deduced_45 p1 Q2 N v2 v3 M → W_m_deduced_45 p1 Q3 N v2 v3 M := by
  intro N
  induction N with
  | zero => intros; trivial
  | succ N IH =>
    intro v2 v3 M h1 h2
    replace h1 : B_m_deduced_45 p1 Q1 N (W_m_deduced_45 p1 Q1 N) v2 v3 M := h1
    replace h2 : B_m_deduced_45 p1 Q2 N (W_m_deduced_45 p1 Q2 N) v2 v3 M := h2
    show B_m_deduced_45 p1 Q3 N (W_m_deduced_45 p1 Q3 N) v2 v3 M
    unfold B_m_deduced_45 at h1 h2 ⊢
    refine ⟨fun hc => ?_, fun hc => ?_⟩
    · replace h1 := h1.1 hc
      replace h2 := h2.1 hc
      refine ⟨fun hc => ?_, fun hc => ?_⟩
      · replace h1 := h1.1 hc
        replace h2 := h2.1 hc
        exact IH _ _ _ h1 h2
      · replace h1 := h1.2 hc
        replace h2 := h2.2 hc
        refine and_m_inForce (fun r10 h1 h2 => ?_) h1 h2
        refine and_m_forbidsNow (fun r12 M13 h1 h2 => ?_) h1 h2
        exact IH _ _ _ h1 h2
    · replace h1 := h1.2 hc
      replace h2 := h2.2 hc
      exact hQ _ _ h1 h2
theorem and_m_deduced {p1 : Int32} {N : Nat} {M : MM} {Q1 Q2 Q3 : Int32 → MM → Prop} (hQ : ∀ (r : Int32) (M1 : MM), Q1 r M1 → Q2 r M1 → Q3 r M1) (h1 : W_m_deduced p1 N M Q1) (h2 : W_m_deduced p1 N M Q2) : W_m_deduced p1 N M Q3 := by
  unfold W_m_deduced at h1 h2 ⊢
  refine and_m_throwsIf (fun r1 M2 h1 h2 => ?_) h1 h2
  refine ⟨fun hc => ?_, fun hc => ?_⟩
  · replace h1 := h1.1 hc
    replace h2 := h2.1 hc
    refine ⟨fun hc => ?_, fun hc => ?_⟩
    · replace h1 := h1.1 hc
      replace h2 := h2.1 hc
      refine and_m_throwsIf (fun r5 M6 h1 h2 => ?_) h1 h2
      refine ⟨fun hc => ?_, fun hc => ?_⟩
      · replace h1 := h1.1 hc
        replace h2 := h2.1 hc
        refine and_m_deduced_45  hQ N _ _ _ h1 h2
      · replace h1 := h1.2 hc
        replace h2 := h2.2 hc
        exact hQ _ _ h1 h2
    · replace h1 := h1.2 hc
      replace h2 := h2.2 hc
      refine and_m_throwsIf (fun r14 M15 h1 h2 => ?_) h1 h2
      refine ⟨fun hc => ?_, fun hc => ?_⟩
      · replace h1 := h1.1 hc
        replace h2 := h2.1 hc
        refine and_m_deduced_45  hQ N _ _ _ h1 h2
      · replace h1 := h1.2 hc
        replace h2 := h2.2 hc
        exact hQ _ _ h1 h2
  · replace h1 := h1.2 hc
    replace h2 := h2.2 hc
    exact hQ _ _ h1 h2
theorem and_m_hush_45 {p1 : Int32} {u3 : Int32} {k92a k92b k92c : Int32 → MM → Prop} {Q1 Q2 Q3 : Int32 → MM → Prop} (hk92 : ∀ (v2 : Int32) (M : MM), k92a v2 M → k92b v2 M → k92c v2 M) (hQ : ∀ (r : Int32) (M1 : MM), Q1 r M1 → Q2 r M1 → Q3 r M1) : ∀ (N : Nat) (v2 : Int32) (v4 : Int32) (M : MM), W_m_hush_45 p1 u3 k92a Q1 N v2 v4 M → W_m_hush_45 p1 u3 k92b Q2 N v2 v4 M → W_m_hush_45 p1 u3 k92c Q3 N v2 v4 M := by
  intro N
  induction N with
  | zero => intros; trivial
  | succ N IH =>
    intro v2 v4 M h1 h2
    replace h1 : B_m_hush_45 p1 u3 k92a Q1 N (W_m_hush_45 p1 u3 k92a Q1 N) v2 v4 M := h1
    replace h2 : B_m_hush_45 p1 u3 k92b Q2 N (W_m_hush_45 p1 u3 k92b Q2 N) v2 v4 M := h2
    show B_m_hush_45 p1 u3 k92c Q3 N (W_m_hush_45 p1 u3 k92c Q3 N) v2 v4 M
    unfold B_m_hush_45 at h1 h2 ⊢
    refine ⟨fun hc => ?_, fun hc => ?_⟩
    · replace h1 := h1.1 hc
      replace h2 := h2.1 hc
      refine ⟨fun hc => ?_, fun hc => ?_⟩
      · replace h1 := h1.1 hc
        replace h2 := h2.1 hc
        exact IH _ _ _ h1 h2
      · replace h1 := h1.2 hc
        replace h2 := h2.2 hc
        refine and_m_may (fun r10 M11 h1 h2 => ?_) h1 h2
        refine ⟨fun hc => ?_, fun hc => ?_⟩
        · replace h1 := h1.1 hc
          replace h2 := h2.1 hc
          exact IH _ _ _ h1 h2
        · replace h1 := h1.2 hc
          replace h2 := h2.2 hc
          exact IH _ _ _ h1 h2
    · replace h1 := h1.2 hc
      replace h2 := h2.2 hc
      exact hk92 _ _ h1 h2
theorem and_m_hush_36 {p1 : Int32} {Q1 Q2 Q3 : Int32 → MM → Prop} (hQ : ∀ (r : Int32) (M1 : MM), Q1 r M1 → Q2 r M1 → Q3 r M1) : ∀ (N : Nat) (v2 : Int32) (v3 : Int32) (M : MM), W_m_hush_36 p1 Q1 N v2 v3 M → W_m_hush_36 p1 Q2 N v2 v3 M → W_m_hush_36 p1 Q3 N v2 v3 M := by
  intro N
  induction N with
  | zero => intros; trivial
  | succ N IH =>
    intro v2 v3 M h1 h2
    replace h1 : B_m_hush_36 p1 Q1 N (W_m_hush_36 p1 Q1 N) v2 v3 M := h1
    replace h2 : B_m_hush_36 p1 Q2 N (W_m_hush_36 p1 Q2 N) v2 v3 M := h2
    show B_m_hush_36 p1 Q3 N (W_m_hush_36 p1 Q3 N) v2 v3 M
    unfold B_m_hush_36 at h1 h2 ⊢
    refine ⟨fun hc => ?_, fun hc => ?_⟩
    · replace h1 := h1.1 hc
      replace h2 := h2.1 hc
      refine and_m_hush_45 (fun x13 M14 h1 h2 => ?_) hQ N _ _ _ h1 h2
      · exact IH _ _ _ h1 h2
    · replace h1 := h1.2 hc
      replace h2 := h2.2 hc
      exact hQ _ _ h1 h2
theorem and_m_hush {p1 : Int32} {N : Nat} {M : MM} {Q1 Q2 Q3 : Int32 → MM → Prop} (hQ : ∀ (r : Int32) (M1 : MM), Q1 r M1 → Q2 r M1 → Q3 r M1) (h1 : W_m_hush p1 N M Q1) (h2 : W_m_hush p1 N M Q2) : W_m_hush p1 N M Q3 := by
  unfold W_m_hush at h1 h2 ⊢
  refine and_m_throwsIf (fun r1 M2 h1 h2 => ?_) h1 h2
  refine ⟨fun hc => ?_, fun hc => ?_⟩
  · replace h1 := h1.1 hc
    replace h2 := h2.1 hc
    refine and_m_alive (fun r4 h1 h2 => ?_) h1 h2
    refine ⟨fun hc => ?_, fun hc => ?_⟩
    · replace h1 := h1.1 hc
      replace h2 := h2.1 hc
      refine and_m_hush_36  hQ N _ _ _ h1 h2
    · replace h1 := h1.2 hc
      replace h2 := h2.2 hc
      refine and_m_hush_36  hQ N _ _ _ h1 h2
  · replace h1 := h1.2 hc
    replace h2 := h2.2 hc
    exact hQ _ _ h1 h2
theorem and_m_usual_21 {p1 : Int32} {k40a k40b k40c : MM → Prop} {Q1 Q2 Q3 : Int32 → MM → Prop} (hk40 : ∀  (M : MM), k40a M → k40b M → k40c M) (hQ : ∀ (r : Int32) (M1 : MM), Q1 r M1 → Q2 r M1 → Q3 r M1) : ∀ (N : Nat) (v2 : Int32) (M : MM), W_m_usual_21 p1 k40a Q1 N v2 M → W_m_usual_21 p1 k40b Q2 N v2 M → W_m_usual_21 p1 k40c Q3 N v2 M := by
  intro N
  induction N with
  | zero => intros; trivial
  | succ N IH =>
    intro v2 M h1 h2
    replace h1 : B_m_usual_21 p1 k40a Q1 N (W_m_usual_21 p1 k40a Q1 N) v2 M := h1
    replace h2 : B_m_usual_21 p1 k40b Q2 N (W_m_usual_21 p1 k40b Q2 N) v2 M := h2
    show B_m_usual_21 p1 k40c Q3 N (W_m_usual_21 p1 k40c Q3 N) v2 M
    unfold B_m_usual_21 at h1 h2 ⊢
    refine ⟨fun hc => ?_, fun hc => ?_⟩
    · replace h1 := h1.1 hc
      replace h2 := h2.1 hc
      exact IH _ _ h1 h2
    · replace h1 := h1.2 hc
      replace h2 := h2.2 hc
      exact hk40 _ h1 h2
theorem and_m_usual_52 {p1 : Int32} {u2 : Int32} {k113a k113b k113c : MM → Prop} {Q1 Q2 Q3 : Int32 → MM → Prop} (hk113 : ∀  (M : MM), k113a M → k113b M → k113c M) (hQ : ∀ (r : Int32) (M1 : MM), Q1 r M1 → Q2 r M1 → Q3 r M1) : ∀ (N : Nat) (v3 : Int32) (M : MM), W_m_usual_52 p1 u2 k113a Q1 N v3 M → W_m_usual_52 p1 u2 k113b Q2 N v3 M → W_m_usual_52 p1 u2 k113c Q3 N v3 M := by
  intro N
  induction N with
  | zero => intros; trivial
  | succ N IH =>
    intro v3 M h1 h2
    replace h1 : B_m_usual_52 p1 u2 k113a Q1 N (W_m_usual_52 p1 u2 k113a Q1 N) v3 M := h1
    replace h2 : B_m_usual_52 p1 u2 k113b Q2 N (W_m_usual_52 p1 u2 k113b Q2 N) v3 M := h2
    show B_m_usual_52 p1 u2 k113c Q3 N (W_m_usual_52 p1 u2 k113c Q3 N) v3 M
    unfold B_m_usual_52 at h1 h2 ⊢
    refine ⟨fun hc => ?_, fun hc => ?_⟩
    · replace h1 := h1.1 hc
      replace h2 := h2.1 hc
      exact hk113 _ h1 h2
    · replace h1 := h1.2 hc
      replace h2 := h2.2 hc
      refine ⟨fun hc => ?_, fun hc => ?_⟩
      · replace h1 := h1.1 hc
        replace h2 := h2.1 hc
        refine ⟨fun hc => ?_, fun hc => ?_⟩
        · replace h1 := h1.1 hc
          replace h2 := h2.1 hc
          exact IH _ _ h1 h2
        · replace h1 := h1.2 hc
          replace h2 := h2.2 hc
          exact IH _ _ h1 h2
      · replace h1 := h1.2 hc
        replace h2 := h2.2 hc
        exact hk113 _ h1 h2
theorem and_m_usual_42 {p1 : Int32} {k119a k119b k119c : MM → Prop} {Q1 Q2 Q3 : Int32 → MM → Prop} (hk119 : ∀  (M : MM), k119a M → k119b M → k119c M) (hQ : ∀ (r : Int32) (M1 : MM), Q1 r M1 → Q2 r M1 → Q3 r M1) : ∀ (N : Nat) (v2 : Int32) (M : MM), W_m_usual_42 p1 k119a Q1 N v2 M → W_m_usual_42 p1 k119b Q2 N v2 M → W_m_usual_42 p1 k119c Q3 N v2 M := by
  intro N
  induction N with
  | zero => intros; trivial
  | succ N IH =>
    intro v2 M h1 h2
    replace h1 : B_m_usual_42 p1 k119a Q1 N (W_m_usual_42 p1 k119a Q1 N) v2 M := h1
    replace h2 : B_m_usual_42 p1 k119b Q2 N (W_m_usual_42 p1 k119b Q2 N) v2 M := h2
    show B_m_usual_42 p1 k119c Q3 N (W_m_usual_42 p1 k119c Q3 N) v2 M
    unfold B_m_usual_42 at h1 h2 ⊢
    refine ⟨fun hc => ?_, fun hc => ?_⟩
    · replace h1 := h1.1 hc
      replace h2 := h2.1 hc
      refine and_m_usual_52 (fun M10 h1 h2 => ?_) hQ N _ _ h1 h2
      · exact IH _ _ h1 h2
    · replace h1 := h1.2 hc
      replace h2 := h2.2 hc
      exact hk119 _ h1 h2
theorem and_m_usual_123 {p1 : Int32} {M : MM} {Q1 Q2 Q3 : Int32 → MM → Prop} (hQ : ∀ (r : Int32) (M1 : MM), Q1 r M1 → Q2 r M1 → Q3 r M1) : ∀ (N : Nat) (v2 : Int32) (v3 : Int32), W_m_usual_123 p1 M Q1 N v2 v3 → W_m_usual_123 p1 M Q2 N v2 v3 → W_m_usual_123 p1 M Q3 N v2 v3 := by
  intro N
  induction N with
  | zero => intros; trivial
  | succ N IH =>
    intro v2 v3 h1 h2
    replace h1 : B_m_usual_123 p1 M Q1 N (W_m_usual_123 p1 M Q1 N) v2 v3 := h1
    replace h2 : B_m_usual_123 p1 M Q2 N (W_m_usual_123 p1 M Q2 N) v2 v3 := h2
    show B_m_usual_123 p1 M Q3 N (W_m_usual_123 p1 M Q3 N) v2 v3
    unfold B_m_usual_123 at h1 h2 ⊢
    refine ⟨fun hc => ?_, fun hc => ?_⟩
    · replace h1 := h1.1 hc
      replace h2 := h2.1 hc
      refine ⟨fun hc => ?_, fun hc => ?_⟩
      · replace h1 := h1.1 hc
        replace h2 := h2.1 hc
        refine ⟨fun hc => ?_, fun hc => ?_⟩
        · replace h1 := h1.1 hc
          replace h2 := h2.1 hc
          exact IH _ _ h1 h2
        · replace h1 := h1.2 hc
          replace h2 := h2.2 hc
          refine ⟨fun hc => ?_, fun hc => ?_⟩
          · replace h1 := h1.1 hc
            replace h2 := h2.1 hc
            exact IH _ _ h1 h2
          · replace h1 := h1.2 hc
            replace h2 := h2.2 hc
            exact IH _ _ h1 h2
      · replace h1 := h1.2 hc
        replace h2 := h2.2 hc
        exact IH _ _ h1 h2
    · replace h1 := h1.2 hc
      replace h2 := h2.2 hc
      exact hQ _ _ h1 h2
theorem and_m_usual {p1 : Int32} {N : Nat} {M : MM} {Q1 Q2 Q3 : Int32 → MM → Prop} (hQ : ∀ (r : Int32) (M1 : MM), Q1 r M1 → Q2 r M1 → Q3 r M1) (h1 : W_m_usual p1 N M Q1) (h2 : W_m_usual p1 N M Q2) : W_m_usual p1 N M Q3 := by
  unfold W_m_usual at h1 h2 ⊢
  refine and_m_throwsIf (fun r1 M2 h1 h2 => ?_) h1 h2
  refine ⟨fun hc => ?_, fun hc => ?_⟩
  · replace h1 := h1.1 hc
    replace h2 := h2.1 hc
    refine and_m_usual_21 (fun M5 h1 h2 => ?_) hQ N _ _ h1 h2
    · refine and_m_usual_42 (fun M11 h1 h2 => ?_) hQ N _ _ h1 h2
      · refine and_m_usual_123  hQ N _ _ h1 h2
  · replace h1 := h1.2 hc
    replace h2 := h2.2 hc
    exact hQ _ _ h1 h2
theorem and_m_feared_15 {p1 : Int32} {M : MM} {Q1 Q2 Q3 : Int64 → MM → Prop} (hQ : ∀ (r : Int64) (M1 : MM), Q1 r M1 → Q2 r M1 → Q3 r M1) : ∀ (N : Nat) (v2 : Int64) (v4 : Int64) (v6 : Int32), W_m_feared_15 p1 M Q1 N v2 v4 v6 → W_m_feared_15 p1 M Q2 N v2 v4 v6 → W_m_feared_15 p1 M Q3 N v2 v4 v6 := by
  intro N
  induction N with
  | zero => intros; trivial
  | succ N IH =>
    intro v2 v4 v6 h1 h2
    replace h1 : B_m_feared_15 p1 M Q1 N (W_m_feared_15 p1 M Q1 N) v2 v4 v6 := h1
    replace h2 : B_m_feared_15 p1 M Q2 N (W_m_feared_15 p1 M Q2 N) v2 v4 v6 := h2
    show B_m_feared_15 p1 M Q3 N (W_m_feared_15 p1 M Q3 N) v2 v4 v6
    unfold B_m_feared_15 at h1 h2 ⊢
    refine ⟨fun hc => ?_, fun hc => ?_⟩
    · replace h1 := h1.1 hc
      replace h2 := h2.1 hc
      refine ⟨fun hc => ?_, fun hc => ?_⟩
      · replace h1 := h1.1 hc
        replace h2 := h2.1 hc
        exact IH _ _ _ h1 h2
      · replace h1 := h1.2 hc
        replace h2 := h2.2 hc
        exact IH _ _ _ h1 h2
    · replace h1 := h1.2 hc
      replace h2 := h2.2 hc
      refine and_m_alive (fun r3 h1 h2 => ?_) h1 h2
      refine ⟨fun hc => ?_, fun hc => ?_⟩
      · replace h1 := h1.1 hc
        replace h2 := h2.1 hc
        exact hQ _ _ h1 h2
      · replace h1 := h1.2 hc
        replace h2 := h2.2 hc
        refine ⟨fun hc => ?_, fun hc => ?_⟩
        · replace h1 := h1.1 hc
          replace h2 := h2.1 hc
          exact hQ _ _ h1 h2
        · replace h1 := h1.2 hc
          replace h2 := h2.2 hc
          exact hQ _ _ h1 h2
theorem and_m_feared {p1 : Int32} {N : Nat} {M : MM} {Q1 Q2 Q3 : Int64 → MM → Prop} (hQ : ∀ (r : Int64) (M1 : MM), Q1 r M1 → Q2 r M1 → Q3 r M1) (h1 : W_m_feared p1 N M Q1) (h2 : W_m_feared p1 N M Q2) : W_m_feared p1 N M Q3 := by
  unfold W_m_feared at h1 h2 ⊢
  refine and_m_feared_15  hQ N _ _ _ h1 h2
theorem and_m_halfOfOthers_28 {p1 : Int32} {u2 : Int32} {u3 : Int64} {u5 : Int32} {M : MM} {k83a k83b k83c : Int32 → Prop} {Q1 Q2 Q3 : Int64 → Prop} (hk83 : ∀ (v6 : Int32), k83a v6 → k83b v6 → k83c v6) (hQ : ∀ (r : Int64), Q1 r → Q2 r → Q3 r) : ∀ (N : Nat) (v6 : Int32) (v7 : Int32), W_m_halfOfOthers_28 p1 u2 u3 u5 M k83a Q1 N v6 v7 → W_m_halfOfOthers_28 p1 u2 u3 u5 M k83b Q2 N v6 v7 → W_m_halfOfOthers_28 p1 u2 u3 u5 M k83c Q3 N v6 v7 := by
  intro N
  induction N with
  | zero => intros; trivial
  | succ N IH =>
    intro v6 v7 h1 h2
    replace h1 : B_m_halfOfOthers_28 p1 u2 u3 u5 M k83a Q1 N (W_m_halfOfOthers_28 p1 u2 u3 u5 M k83a Q1 N) v6 v7 := h1
    replace h2 : B_m_halfOfOthers_28 p1 u2 u3 u5 M k83b Q2 N (W_m_halfOfOthers_28 p1 u2 u3 u5 M k83b Q2 N) v6 v7 := h2
    show B_m_halfOfOthers_28 p1 u2 u3 u5 M k83c Q3 N (W_m_halfOfOthers_28 p1 u2 u3 u5 M k83c Q3 N) v6 v7
    unfold B_m_halfOfOthers_28 at h1 h2 ⊢
    refine ⟨fun hc => ?_, fun hc => ?_⟩
    · replace h1 := h1.1 hc
      replace h2 := h2.1 hc
      refine ⟨fun hc => ?_, fun hc => ?_⟩
      · replace h1 := h1.1 hc
        replace h2 := h2.1 hc
        exact IH _ _ h1 h2
      · replace h1 := h1.2 hc
        replace h2 := h2.2 hc
        refine ⟨fun hc => ?_, fun hc => ?_⟩
        · replace h1 := h1.1 hc
          replace h2 := h2.1 hc
          exact IH _ _ h1 h2
        · replace h1 := h1.2 hc
          replace h2 := h2.2 hc
          refine ⟨fun hc => ?_, fun hc => ?_⟩
          · replace h1 := h1.1 hc
            replace h2 := h2.1 hc
            exact IH _ _ h1 h2
          · replace h1 := h1.2 hc
            replace h2 := h2.2 hc
            exact IH _ _ h1 h2
    · replace h1 := h1.2 hc
      replace h2 := h2.2 hc
      exact hk83 _ h1 h2
theorem and_m_halfOfOthers_15 {p1 : Int32} {u2 : Int32} {M : MM} {Q1 Q2 Q3 : Int64 → Prop} (hQ : ∀ (r : Int64), Q1 r → Q2 r → Q3 r) : ∀ (N : Nat) (v3 : Int64) (v5 : Int32), W_m_halfOfOthers_15 p1 u2 M Q1 N v3 v5 → W_m_halfOfOthers_15 p1 u2 M Q2 N v3 v5 → W_m_halfOfOthers_15 p1 u2 M Q3 N v3 v5 := by
  intro N
  induction N with
  | zero => intros; trivial
  | succ N IH =>
    intro v3 v5 h1 h2
    replace h1 : B_m_halfOfOthers_15 p1 u2 M Q1 N (W_m_halfOfOthers_15 p1 u2 M Q1 N) v3 v5 := h1
    replace h2 : B_m_halfOfOthers_15 p1 u2 M Q2 N (W_m_halfOfOthers_15 p1 u2 M Q2 N) v3 v5 := h2
    show B_m_halfOfOthers_15 p1 u2 M Q3 N (W_m_halfOfOthers_15 p1 u2 M Q3 N) v3 v5
    unfold B_m_halfOfOthers_15 at h1 h2 ⊢
    refine ⟨fun hc => ?_, fun hc => ?_⟩
    · replace h1 := h1.1 hc
      replace h2 := h2.1 hc
      refine and_m_halfOfOthers_28 (fun x8 h1 h2 => ?_) hQ N _ _ h1 h2
      · refine ⟨fun hc => ?_, fun hc => ?_⟩
        · replace h1 := h1.1 hc
          replace h2 := h2.1 hc
          exact IH _ _ h1 h2
        · replace h1 := h1.2 hc
          replace h2 := h2.2 hc
          exact IH _ _ h1 h2
    · replace h1 := h1.2 hc
      replace h2 := h2.2 hc
      exact hQ _ h1 h2
theorem and_m_halfOfOthers {p1 : Int32} {N : Nat} {M : MM} {Q1 Q2 Q3 : Int64 → Prop} (hQ : ∀ (r : Int64), Q1 r → Q2 r → Q3 r) (h1 : W_m_halfOfOthers p1 N M Q1) (h2 : W_m_halfOfOthers p1 N M Q2) : W_m_halfOfOthers p1 N M Q3 := by
  unfold W_m_halfOfOthers at h1 h2 ⊢
  refine and_m_alive (fun r1 h1 h2 => ?_) h1 h2
  refine and_m_halfOfOthers_15  hQ N _ _ h1 h2
theorem and_m_goesRound_4  {Q1 Q2 Q3 : Int32 → MM → Prop} (hQ : ∀ (r : Int32) (M1 : MM), Q1 r M1 → Q2 r M1 → Q3 r M1) : ∀ (N : Nat) (v1 : Int32) (v2 : Int32) (M : MM), W_m_goesRound_4 Q1 N v1 v2 M → W_m_goesRound_4 Q2 N v1 v2 M → W_m_goesRound_4 Q3 N v1 v2 M := by
  intro N
  induction N with
  | zero => intros; trivial
  | succ N IH =>
    intro v1 v2 M h1 h2
    replace h1 : B_m_goesRound_4 Q1 N (W_m_goesRound_4 Q1 N) v1 v2 M := h1
    replace h2 : B_m_goesRound_4 Q2 N (W_m_goesRound_4 Q2 N) v1 v2 M := h2
    show B_m_goesRound_4 Q3 N (W_m_goesRound_4 Q3 N) v1 v2 M
    unfold B_m_goesRound_4 at h1 h2 ⊢
    refine ⟨fun hc => ?_, fun hc => ?_⟩
    · replace h1 := h1.1 hc
      replace h2 := h2.1 hc
      refine ⟨fun hc => ?_, fun hc => ?_⟩
      · replace h1 := h1.1 hc
        replace h2 := h2.1 hc
        refine ⟨fun hc => ?_, fun hc => ?_⟩
        · replace h1 := h1.1 hc
          replace h2 := h2.1 hc
          refine ⟨fun hc => ?_, fun hc => ?_⟩
          · replace h1 := h1.1 hc
            replace h2 := h2.1 hc
            exact IH _ _ _ h1 h2
          · replace h1 := h1.2 hc
            replace h2 := h2.2 hc
            exact IH _ _ _ h1 h2
        · replace h1 := h1.2 hc
          replace h2 := h2.2 hc
          exact IH _ _ _ h1 h2
      · replace h1 := h1.2 hc
        replace h2 := h2.2 hc
        refine and_m_halfOfOthers (fun r5 h1 h2 => ?_) h1 h2
        refine ⟨fun hc => ?_, fun hc => ?_⟩
        · replace h1 := h1.1 hc
          replace h2 := h2.1 hc
          refine ⟨fun hc => ?_, fun hc => ?_⟩
          · replace h1 := h1.1 hc
            replace h2 := h2.1 hc
            exact IH _ _ _ h1 h2
          · replace h1 := h1.2 hc
            replace h2 := h2.2 hc
            exact IH _ _ _ h1 h2
        · replace h1 := h1.2 hc
          replace h2 := h2.2 hc
          exact IH _ _ _ h1 h2
    · replace h1 := h1.2 hc
      replace h2 := h2.2 hc
      refine and_m_likensSeen (fun M10 h1 h2 => ?_) h1 h2
      exact hQ _ _ h1 h2
theorem and_m_goesRound  {N : Nat} {M : MM} {Q1 Q2 Q3 : Int32 → MM → Prop} (hQ : ∀ (r : Int32) (M1 : MM), Q1 r M1 → Q2 r M1 → Q3 r M1) (h1 : W_m_goesRound  N M Q1) (h2 : W_m_goesRound  N M Q2) : W_m_goesRound  N M Q3 := by
  unfold W_m_goesRound at h1 h2 ⊢
  refine and_m_goesRound_4  hQ N _ _ _ h1 h2
theorem and_m_sumOf_4 {a : Nat} {M : MM} {Q1 Q2 Q3 : Int32 → Prop} (hQ : ∀ (r : Int32), Q1 r → Q2 r → Q3 r) : ∀ (N : Nat) (v2 : Int32) (v3 : Int32), W_m_sumOf_4 a M Q1 N v2 v3 → W_m_sumOf_4 a M Q2 N v2 v3 → W_m_sumOf_4 a M Q3 N v2 v3 := by
  intro N
  induction N with
  | zero => intros; trivial
  | succ N IH =>
    intro v2 v3 h1 h2
    replace h1 : B_m_sumOf_4 a M Q1 N (W_m_sumOf_4 a M Q1 N) v2 v3 := h1
    replace h2 : B_m_sumOf_4 a M Q2 N (W_m_sumOf_4 a M Q2 N) v2 v3 := h2
    show B_m_sumOf_4 a M Q3 N (W_m_sumOf_4 a M Q3 N) v2 v3
    unfold B_m_sumOf_4 at h1 h2 ⊢
    refine ⟨fun hc => ?_, fun hc => ?_⟩
    · replace h1 := h1.1 hc
      replace h2 := h2.1 hc
      refine ⟨fun hc => ?_, fun hc => ?_⟩
      · replace h1 := h1.1 hc
        replace h2 := h2.1 hc
        exact IH _ _ h1 h2
      · replace h1 := h1.2 hc
        replace h2 := h2.2 hc
        exact IH _ _ h1 h2
    · replace h1 := h1.2 hc
      replace h2 := h2.2 hc
      exact hQ _ h1 h2
theorem and_m_sumOf {a : Nat} {N : Nat} {M : MM} {Q1 Q2 Q3 : Int32 → Prop} (hQ : ∀ (r : Int32), Q1 r → Q2 r → Q3 r) (h1 : W_m_sumOf a N M Q1) (h2 : W_m_sumOf a N M Q2) : W_m_sumOf a N M Q3 := by
  unfold W_m_sumOf at h1 h2 ⊢
  refine and_m_sumOf_4  hQ N _ _ h1 h2
theorem and_m_custom_45 {p1 : Int32} {Q1 Q2 Q3 : Int32 → MM → Prop} (hQ : ∀ (r : Int32) (M1 : MM), Q1 r M1 → Q2 r M1 → Q3 r M1) : ∀ (N : Nat) (v2 : Int32) (M : MM), W_m_custom_45 p1 Q1 N v2 M → W_m_custom_45 p1 Q2 N v2 M → W_m_custom_45 p1 Q3 N v2 M := by
  intro N
  induction N with
  | zero => intros; trivial
  | succ N IH =>
    intro v2 M h1 h2
    replace h1 : B_m_custom_45 p1 Q1 N (W_m_custom_45 p1 Q1 N) v2 M := h1
    replace h2 : B_m_custom_45 p1 Q2 N (W_m_custom_45 p1 Q2 N) v2 M := h2
    show B_m_custom_45 p1 Q3 N (W_m_custom_45 p1 Q3 N) v2 M
    unfold B_m_custom_45 at h1 h2 ⊢
    refine ⟨fun hc => ?_, fun hc => ?_⟩
    · replace h1 := h1.1 hc
      replace h2 := h2.1 hc
      refine and_m_goesRound (fun r8 M9 h1 h2 => ?_) h1 h2
      exact IH _ _ h1 h2
    · replace h1 := h1.2 hc
      replace h2 := h2.2 hc
      refine and_m_sumOf (fun r10 h1 h2 => ?_) h1 h2
      exact hQ _ _ h1 h2
theorem and_m_custom {p1 : Int32} {N : Nat} {M : MM} {Q1 Q2 Q3 : Int32 → MM → Prop} (hQ : ∀ (r : Int32) (M1 : MM), Q1 r M1 → Q2 r M1 → Q3 r M1) (h1 : W_m_custom p1 N M Q1) (h2 : W_m_custom p1 N M Q2) : W_m_custom p1 N M Q3 := by
  unfold W_m_custom at h1 h2 ⊢
  refine ⟨fun hc => ?_, fun hc => ?_⟩
  · replace h1 := h1.1 hc
    replace h2 := h2.1 hc
    refine and_m_throwsIf (fun r2 M3 h1 h2 => ?_) h1 h2
    refine ⟨fun hc => ?_, fun hc => ?_⟩
    · replace h1 := h1.1 hc
      replace h2 := h2.1 hc
      refine and_m_likensSeen (fun M6 h1 h2 => ?_) h1 h2
      refine and_m_custom_45  hQ N _ _ h1 h2
    · replace h1 := h1.2 hc
      replace h2 := h2.2 hc
      exact hQ _ _ h1 h2
  · replace h1 := h1.2 hc
    replace h2 := h2.2 hc
    refine and_m_throwsIf (fun r12 M13 h1 h2 => ?_) h1 h2
    refine ⟨fun hc => ?_, fun hc => ?_⟩
    · replace h1 := h1.1 hc
      replace h2 := h2.1 hc
      refine and_m_likensSeen (fun M16 h1 h2 => ?_) h1 h2
      refine and_m_custom_45  hQ N _ _ h1 h2
    · replace h1 := h1.2 hc
      replace h2 := h2.2 hc
      exact hQ _ _ h1 h2
theorem and_m_settles_20  {Q1 Q2 Q3 : Int32 → MM → Prop} (hQ : ∀ (r : Int32) (M1 : MM), Q1 r M1 → Q2 r M1 → Q3 r M1) : ∀ (N : Nat) (v1 : Int32) (M : MM), W_m_settles_20 Q1 N v1 M → W_m_settles_20 Q2 N v1 M → W_m_settles_20 Q3 N v1 M := by
  intro N
  induction N with
  | zero => intros; trivial
  | succ N IH =>
    intro v1 M h1 h2
    replace h1 : B_m_settles_20 Q1 N (W_m_settles_20 Q1 N) v1 M := h1
    replace h2 : B_m_settles_20 Q2 N (W_m_settles_20 Q2 N) v1 M := h2
    show B_m_settles_20 Q3 N (W_m_settles_20 Q3 N) v1 M
    unfold B_m_settles_20 at h1 h2 ⊢
    refine ⟨fun hc => ?_, fun hc => ?_⟩
    · replace h1 := h1.1 hc
      replace h2 := h2.1 hc
      exact hQ _ _ h1 h2
    · replace h1 := h1.2 hc
      replace h2 := h2.2 hc
      refine and_m_goesRound (fun r4 M5 h1 h2 => ?_) h1 h2
      refine ⟨fun hc => ?_, fun hc => ?_⟩
      · replace h1 := h1.1 hc
        replace h2 := h2.1 hc
        exact hQ _ _ h1 h2
      · replace h1 := h1.2 hc
        replace h2 := h2.2 hc
        exact IH _ _ h1 h2
theorem and_m_settles  {N : Nat} {M : MM} {Q1 Q2 Q3 : Int32 → MM → Prop} (hQ : ∀ (r : Int32) (M1 : MM), Q1 r M1 → Q2 r M1 → Q3 r M1) (h1 : W_m_settles  N M Q1) (h2 : W_m_settles  N M Q2) : W_m_settles  N M Q3 := by
  unfold W_m_settles at h1 h2 ⊢
  refine and_m_likensSeen (fun M2 h1 h2 => ?_) h1 h2
  refine and_m_settles_20  hQ N _ _ h1 h2
theorem and_m_worthOf {p1 : Int32} {p2 : Int32} {N : Nat} {M : MM} {Q1 Q2 Q3 : Int32 → MM → Prop} (hQ : ∀ (r : Int32) (M1 : MM), Q1 r M1 → Q2 r M1 → Q3 r M1) (h1 : W_m_worthOf p1 p2 N M Q1) (h2 : W_m_worthOf p1 p2 N M Q2) : W_m_worthOf p1 p2 N M Q3 := by
  unfold W_m_worthOf at h1 h2 ⊢
  refine and_m_inForce (fun r1 h1 h2 => ?_) h1 h2
  refine and_m_forbidsNow (fun r3 M4 h1 h2 => ?_) h1 h2
  refine ⟨fun hc => ?_, fun hc => ?_⟩
  · replace h1 := h1.1 hc
    replace h2 := h2.1 hc
    exact hQ _ _ h1 h2
  · replace h1 := h1.2 hc
    replace h2 := h2.2 hc
    exact hQ _ _ h1 h2
theorem and_m_worthiest_5 {p1 : Int32} {p2 : Int32} {Q1 Q2 Q3 : Int32 → MM → Prop} (hQ : ∀ (r : Int32) (M1 : MM), Q1 r M1 → Q2 r M1 → Q3 r M1) : ∀ (N : Nat) (v3 : Int32) (v4 : Int32) (M : MM), W_m_worthiest_5 p1 p2 Q1 N v3 v4 M → W_m_worthiest_5 p1 p2 Q2 N v3 v4 M → W_m_worthiest_5 p1 p2 Q3 N v3 v4 M := by
  intro N
  induction N with
  | zero => intros; trivial
  | succ N IH =>
    intro v3 v4 M h1 h2
    replace h1 : B_m_worthiest_5 p1 p2 Q1 N (W_m_worthiest_5 p1 p2 Q1 N) v3 v4 M := h1
    replace h2 : B_m_worthiest_5 p1 p2 Q2 N (W_m_worthiest_5 p1 p2 Q2 N) v3 v4 M := h2
    show B_m_worthiest_5 p1 p2 Q3 N (W_m_worthiest_5 p1 p2 Q3 N) v3 v4 M
    unfold B_m_worthiest_5 at h1 h2 ⊢
    refine ⟨fun hc => ?_, fun hc => ?_⟩
    · replace h1 := h1.1 hc
      replace h2 := h2.1 hc
      refine ⟨fun hc => ?_, fun hc => ?_⟩
      · replace h1 := h1.1 hc
        replace h2 := h2.1 hc
        exact IH _ _ _ h1 h2
      · replace h1 := h1.2 hc
        replace h2 := h2.2 hc
        refine ⟨fun hc => ?_, fun hc => ?_⟩
        · replace h1 := h1.1 hc
          replace h2 := h2.1 hc
          exact IH _ _ _ h1 h2
        · replace h1 := h1.2 hc
          replace h2 := h2.2 hc
          refine and_m_worthOf (fun r4 M5 h1 h2 => ?_) h1 h2
          refine and_m_worthOf (fun r6 M7 h1 h2 => ?_) h1 h2
          refine ⟨fun hc => ?_, fun hc => ?_⟩
          · replace h1 := h1.1 hc
            replace h2 := h2.1 hc
            exact IH _ _ _ h1 h2
          · replace h1 := h1.2 hc
            replace h2 := h2.2 hc
            exact IH _ _ _ h1 h2
    · replace h1 := h1.2 hc
      replace h2 := h2.2 hc
      exact hQ _ _ h1 h2
theorem and_m_worthiest {p1 : Int32} {p2 : Int32} {N : Nat} {M : MM} {Q1 Q2 Q3 : Int32 → MM → Prop} (hQ : ∀ (r : Int32) (M1 : MM), Q1 r M1 → Q2 r M1 → Q3 r M1) (h1 : W_m_worthiest p1 p2 N M Q1) (h2 : W_m_worthiest p1 p2 N M Q2) : W_m_worthiest p1 p2 N M Q3 := by
  unfold W_m_worthiest at h1 h2 ⊢
  refine and_m_worthiest_5  hQ N _ _ _ h1 h2
theorem and_m_provoked {p1 : Int32} {p2 : Int32} {N : Nat} {M : MM} {Q1 Q2 Q3 : Int32 → MM → Prop} (hQ : ∀ (r : Int32) (M1 : MM), Q1 r M1 → Q2 r M1 → Q3 r M1) (h1 : W_m_provoked p1 p2 N M Q1) (h2 : W_m_provoked p1 p2 N M Q2) : W_m_provoked p1 p2 N M Q3 := by
  unfold W_m_provoked at h1 h2 ⊢
  refine and_m_throwsIf (fun r1 M2 h1 h2 => ?_) h1 h2
  refine ⟨fun hc => ?_, fun hc => ?_⟩
  · replace h1 := h1.1 hc
    replace h2 := h2.1 hc
    refine ⟨fun hc => ?_, fun hc => ?_⟩
    · replace h1 := h1.1 hc
      replace h2 := h2.1 hc
      refine and_m_throwsIf (fun r5 M6 h1 h2 => ?_) h1 h2
      refine ⟨fun hc => ?_, fun hc => ?_⟩
      · replace h1 := h1.1 hc
        replace h2 := h2.1 hc
        refine and_m_worthiest (fun r8 M9 h1 h2 => ?_) h1 h2
        refine ⟨fun hc => ?_, fun hc => ?_⟩
        · replace h1 := h1.1 hc
          replace h2 := h2.1 hc
          refine ⟨fun hc => ?_, fun hc => ?_⟩
          · replace h1 := h1.1 hc
            replace h2 := h2.1 hc
            exact hQ _ _ h1 h2
          · replace h1 := h1.2 hc
            replace h2 := h2.2 hc
            refine and_m_worthOf (fun r12 M13 h1 h2 => ?_) h1 h2
            exact hQ _ _ h1 h2
        · replace h1 := h1.2 hc
          replace h2 := h2.2 hc
          refine and_m_worthiest (fun r14 M15 h1 h2 => ?_) h1 h2
          refine ⟨fun hc => ?_, fun hc => ?_⟩
          · replace h1 := h1.1 hc
            replace h2 := h2.1 hc
            exact hQ _ _ h1 h2
          · replace h1 := h1.2 hc
            replace h2 := h2.2 hc
            refine and_m_worthOf (fun r17 M18 h1 h2 => ?_) h1 h2
            exact hQ _ _ h1 h2
      · replace h1 := h1.2 hc
        replace h2 := h2.2 hc
        exact hQ _ _ h1 h2
    · replace h1 := h1.2 hc
      replace h2 := h2.2 hc
      refine and_m_throwsIf (fun r19 M20 h1 h2 => ?_) h1 h2
      refine ⟨fun hc => ?_, fun hc => ?_⟩
      · replace h1 := h1.1 hc
        replace h2 := h2.1 hc
        refine and_m_worthiest (fun r22 M23 h1 h2 => ?_) h1 h2
        refine ⟨fun hc => ?_, fun hc => ?_⟩
        · replace h1 := h1.1 hc
          replace h2 := h2.1 hc
          refine ⟨fun hc => ?_, fun hc => ?_⟩
          · replace h1 := h1.1 hc
            replace h2 := h2.1 hc
            exact hQ _ _ h1 h2
          · replace h1 := h1.2 hc
            replace h2 := h2.2 hc
            refine and_m_worthOf (fun r26 M27 h1 h2 => ?_) h1 h2
            exact hQ _ _ h1 h2
        · replace h1 := h1.2 hc
          replace h2 := h2.2 hc
          refine and_m_worthiest (fun r28 M29 h1 h2 => ?_) h1 h2
          refine ⟨fun hc => ?_, fun hc => ?_⟩
          · replace h1 := h1.1 hc
            replace h2 := h2.1 hc
            exact hQ _ _ h1 h2
          · replace h1 := h1.2 hc
            replace h2 := h2.2 hc
            refine and_m_worthOf (fun r31 M32 h1 h2 => ?_) h1 h2
            exact hQ _ _ h1 h2
      · replace h1 := h1.2 hc
        replace h2 := h2.2 hc
        exact hQ _ _ h1 h2
  · replace h1 := h1.2 hc
    replace h2 := h2.2 hc
    exact hQ _ _ h1 h2
theorem and_m_crowd_47 {p1 : Int32} {p2 : Int32} {M : MM} {Q1 Q2 Q3 : Int32 → MM → Prop} (hQ : ∀ (r : Int32) (M1 : MM), Q1 r M1 → Q2 r M1 → Q3 r M1) : ∀ (N : Nat) (v3 : Int32) (v4 : Int32), W_m_crowd_47 p1 p2 M Q1 N v3 v4 → W_m_crowd_47 p1 p2 M Q2 N v3 v4 → W_m_crowd_47 p1 p2 M Q3 N v3 v4 := by
  intro N
  induction N with
  | zero => intros; trivial
  | succ N IH =>
    intro v3 v4 h1 h2
    replace h1 : B_m_crowd_47 p1 p2 M Q1 N (W_m_crowd_47 p1 p2 M Q1 N) v3 v4 := h1
    replace h2 : B_m_crowd_47 p1 p2 M Q2 N (W_m_crowd_47 p1 p2 M Q2 N) v3 v4 := h2
    show B_m_crowd_47 p1 p2 M Q3 N (W_m_crowd_47 p1 p2 M Q3 N) v3 v4
    unfold B_m_crowd_47 at h1 h2 ⊢
    refine ⟨fun hc => ?_, fun hc => ?_⟩
    · replace h1 := h1.1 hc
      replace h2 := h2.1 hc
      refine ⟨fun hc => ?_, fun hc => ?_⟩
      · replace h1 := h1.1 hc
        replace h2 := h2.1 hc
        exact IH _ _ h1 h2
      · replace h1 := h1.2 hc
        replace h2 := h2.2 hc
        refine ⟨fun hc => ?_, fun hc => ?_⟩
        · replace h1 := h1.1 hc
          replace h2 := h2.1 hc
          exact IH _ _ h1 h2
        · replace h1 := h1.2 hc
          replace h2 := h2.2 hc
          exact IH _ _ h1 h2
    · replace h1 := h1.2 hc
      replace h2 := h2.2 hc
      exact hQ _ _ h1 h2
theorem and_m_crowd {p1 : Int32} {p2 : Int32} {N : Nat} {M : MM} {Q1 Q2 Q3 : Int32 → MM → Prop} (hQ : ∀ (r : Int32) (M1 : MM), Q1 r M1 → Q2 r M1 → Q3 r M1) (h1 : W_m_crowd p1 p2 N M Q1) (h2 : W_m_crowd p1 p2 N M Q2) : W_m_crowd p1 p2 N M Q3 := by
  unfold W_m_crowd at h1 h2 ⊢
  refine and_m_throwsIf (fun r1 M2 h1 h2 => ?_) h1 h2
  refine ⟨fun hc => ?_, fun hc => ?_⟩
  · replace h1 := h1.1 hc
    replace h2 := h2.1 hc
    refine ⟨fun hc => ?_, fun hc => ?_⟩
    · replace h1 := h1.1 hc
      replace h2 := h2.1 hc
      refine and_m_throwsIf (fun r5 M6 h1 h2 => ?_) h1 h2
      refine ⟨fun hc => ?_, fun hc => ?_⟩
      · replace h1 := h1.1 hc
        replace h2 := h2.1 hc
        refine and_m_crowd_47  hQ N _ _ h1 h2
      · replace h1 := h1.2 hc
        replace h2 := h2.2 hc
        exact hQ _ _ h1 h2
    · replace h1 := h1.2 hc
      replace h2 := h2.2 hc
      refine and_m_throwsIf (fun r11 M12 h1 h2 => ?_) h1 h2
      refine ⟨fun hc => ?_, fun hc => ?_⟩
      · replace h1 := h1.1 hc
        replace h2 := h2.1 hc
        refine and_m_crowd_47  hQ N _ _ h1 h2
      · replace h1 := h1.2 hc
        replace h2 := h2.2 hc
        exact hQ _ _ h1 h2
  · replace h1 := h1.2 hc
    replace h2 := h2.2 hc
    exact hQ _ _ h1 h2
theorem and_m_witnesses_67 {p1 : Int32} {p2 : Int32} {p3 : Int32} {M : MM} {Q1 Q2 Q3 : Int32 → MM → Prop} (hQ : ∀ (r : Int32) (M1 : MM), Q1 r M1 → Q2 r M1 → Q3 r M1) : ∀ (N : Nat) (v4 : Int32) (v5 : Int32), W_m_witnesses_67 p1 p2 p3 M Q1 N v4 v5 → W_m_witnesses_67 p1 p2 p3 M Q2 N v4 v5 → W_m_witnesses_67 p1 p2 p3 M Q3 N v4 v5 := by
  intro N
  induction N with
  | zero => intros; trivial
  | succ N IH =>
    intro v4 v5 h1 h2
    replace h1 : B_m_witnesses_67 p1 p2 p3 M Q1 N (W_m_witnesses_67 p1 p2 p3 M Q1 N) v4 v5 := h1
    replace h2 : B_m_witnesses_67 p1 p2 p3 M Q2 N (W_m_witnesses_67 p1 p2 p3 M Q2 N) v4 v5 := h2
    show B_m_witnesses_67 p1 p2 p3 M Q3 N (W_m_witnesses_67 p1 p2 p3 M Q3 N) v4 v5
    unfold B_m_witnesses_67 at h1 h2 ⊢
    refine ⟨fun hc => ?_, fun hc => ?_⟩
    · replace h1 := h1.1 hc
      replace h2 := h2.1 hc
      refine ⟨fun hc => ?_, fun hc => ?_⟩
      · replace h1 := h1.1 hc
        replace h2 := h2.1 hc
        exact IH _ _ h1 h2
      · replace h1 := h1.2 hc
        replace h2 := h2.2 hc
        exact IH _ _ h1 h2
    · replace h1 := h1.2 hc
      replace h2 := h2.2 hc
      exact hQ _ _ h1 h2
theorem and_m_witnesses {p1 : Int32} {p2 : Int32} {p3 : Int32} {N : Nat} {M : MM} {Q1 Q2 Q3 : Int32 → MM → Prop} (hQ : ∀ (r : Int32) (M1 : MM), Q1 r M1 → Q2 r M1 → Q3 r M1) (h1 : W_m_witnesses p1 p2 p3 N M Q1) (h2 : W_m_witnesses p1 p2 p3 N M Q2) : W_m_witnesses p1 p2 p3 N M Q3 := by
  unfold W_m_witnesses at h1 h2 ⊢
  refine ⟨fun hc => ?_, fun hc => ?_⟩
  · replace h1 := h1.1 hc
    replace h2 := h2.1 hc
    refine ⟨fun hc => ?_, fun hc => ?_⟩
    · replace h1 := h1.1 hc
      replace h2 := h2.1 hc
      refine and_m_throwsIf (fun r3 M4 h1 h2 => ?_) h1 h2
      refine ⟨fun hc => ?_, fun hc => ?_⟩
      · replace h1 := h1.1 hc
        replace h2 := h2.1 hc
        refine ⟨fun hc => ?_, fun hc => ?_⟩
        · replace h1 := h1.1 hc
          replace h2 := h2.1 hc
          refine and_m_throwsIf (fun r7 M8 h1 h2 => ?_) h1 h2
          refine ⟨fun hc => ?_, fun hc => ?_⟩
          · replace h1 := h1.1 hc
            replace h2 := h2.1 hc
            refine and_m_witnesses_67  hQ N _ _ h1 h2
          · replace h1 := h1.2 hc
            replace h2 := h2.2 hc
            exact hQ _ _ h1 h2
        · replace h1 := h1.2 hc
          replace h2 := h2.2 hc
          refine ⟨fun hc => ?_, fun hc => ?_⟩
          · replace h1 := h1.1 hc
            replace h2 := h2.1 hc
            refine and_m_throwsIf (fun r13 M14 h1 h2 => ?_) h1 h2
            refine ⟨fun hc => ?_, fun hc => ?_⟩
            · replace h1 := h1.1 hc
              replace h2 := h2.1 hc
              refine and_m_witnesses_67  hQ N _ _ h1 h2
            · replace h1 := h1.2 hc
              replace h2 := h2.2 hc
              exact hQ _ _ h1 h2
          · replace h1 := h1.2 hc
            replace h2 := h2.2 hc
            refine and_m_throwsIf (fun r16 M17 h1 h2 => ?_) h1 h2
            refine ⟨fun hc => ?_, fun hc => ?_⟩
            · replace h1 := h1.1 hc
              replace h2 := h2.1 hc
              refine and_m_witnesses_67  hQ N _ _ h1 h2
            · replace h1 := h1.2 hc
              replace h2 := h2.2 hc
              exact hQ _ _ h1 h2
      · replace h1 := h1.2 hc
        replace h2 := h2.2 hc
        exact hQ _ _ h1 h2
    · replace h1 := h1.2 hc
      replace h2 := h2.2 hc
      refine and_m_throwsIf (fun r19 M20 h1 h2 => ?_) h1 h2
      refine ⟨fun hc => ?_, fun hc => ?_⟩
      · replace h1 := h1.1 hc
        replace h2 := h2.1 hc
        refine ⟨fun hc => ?_, fun hc => ?_⟩
        · replace h1 := h1.1 hc
          replace h2 := h2.1 hc
          refine and_m_throwsIf (fun r23 M24 h1 h2 => ?_) h1 h2
          refine ⟨fun hc => ?_, fun hc => ?_⟩
          · replace h1 := h1.1 hc
            replace h2 := h2.1 hc
            refine and_m_witnesses_67  hQ N _ _ h1 h2
          · replace h1 := h1.2 hc
            replace h2 := h2.2 hc
            exact hQ _ _ h1 h2
        · replace h1 := h1.2 hc
          replace h2 := h2.2 hc
          refine ⟨fun hc => ?_, fun hc => ?_⟩
          · replace h1 := h1.1 hc
            replace h2 := h2.1 hc
            refine and_m_throwsIf (fun r27 M28 h1 h2 => ?_) h1 h2
            refine ⟨fun hc => ?_, fun hc => ?_⟩
            · replace h1 := h1.1 hc
              replace h2 := h2.1 hc
              refine and_m_witnesses_67  hQ N _ _ h1 h2
            · replace h1 := h1.2 hc
              replace h2 := h2.2 hc
              exact hQ _ _ h1 h2
          · replace h1 := h1.2 hc
            replace h2 := h2.2 hc
            refine and_m_throwsIf (fun r30 M31 h1 h2 => ?_) h1 h2
            refine ⟨fun hc => ?_, fun hc => ?_⟩
            · replace h1 := h1.1 hc
              replace h2 := h2.1 hc
              refine and_m_witnesses_67  hQ N _ _ h1 h2
            · replace h1 := h1.2 hc
              replace h2 := h2.2 hc
              exact hQ _ _ h1 h2
      · replace h1 := h1.2 hc
        replace h2 := h2.2 hc
        exact hQ _ _ h1 h2
  · replace h1 := h1.2 hc
    replace h2 := h2.2 hc
    refine and_m_throwsIf (fun r33 M34 h1 h2 => ?_) h1 h2
    refine ⟨fun hc => ?_, fun hc => ?_⟩
    · replace h1 := h1.1 hc
      replace h2 := h2.1 hc
      refine ⟨fun hc => ?_, fun hc => ?_⟩
      · replace h1 := h1.1 hc
        replace h2 := h2.1 hc
        refine and_m_throwsIf (fun r37 M38 h1 h2 => ?_) h1 h2
        refine ⟨fun hc => ?_, fun hc => ?_⟩
        · replace h1 := h1.1 hc
          replace h2 := h2.1 hc
          refine and_m_witnesses_67  hQ N _ _ h1 h2
        · replace h1 := h1.2 hc
          replace h2 := h2.2 hc
          exact hQ _ _ h1 h2
      · replace h1 := h1.2 hc
        replace h2 := h2.2 hc
        refine ⟨fun hc => ?_, fun hc => ?_⟩
        · replace h1 := h1.1 hc
          replace h2 := h2.1 hc
          refine and_m_throwsIf (fun r41 M42 h1 h2 => ?_) h1 h2
          refine ⟨fun hc => ?_, fun hc => ?_⟩
          · replace h1 := h1.1 hc
            replace h2 := h2.1 hc
            refine and_m_witnesses_67  hQ N _ _ h1 h2
          · replace h1 := h1.2 hc
            replace h2 := h2.2 hc
            exact hQ _ _ h1 h2
        · replace h1 := h1.2 hc
          replace h2 := h2.2 hc
          refine and_m_throwsIf (fun r44 M45 h1 h2 => ?_) h1 h2
          refine ⟨fun hc => ?_, fun hc => ?_⟩
          · replace h1 := h1.1 hc
            replace h2 := h2.1 hc
            refine and_m_witnesses_67  hQ N _ _ h1 h2
          · replace h1 := h1.2 hc
            replace h2 := h2.2 hc
            exact hQ _ _ h1 h2
    · replace h1 := h1.2 hc
      replace h2 := h2.2 hc
      exact hQ _ _ h1 h2
theorem and_m_keepsAll  {N : Nat} {M : MM} {Q1 Q2 Q3 : MM → Prop} (hQ : ∀  (M1 : MM), Q1 M1 → Q2 M1 → Q3 M1) (h1 : W_m_keepsAll  N M Q1) (h2 : W_m_keepsAll  N M Q2) : W_m_keepsAll  N M Q3 := by
  unfold W_m_keepsAll at h1 h2 ⊢
  refine and_m_likens (fun M2 h1 h2 => ?_) h1 h2
  refine and_m_likensSeen (fun M4 h1 h2 => ?_) h1 h2
  exact hQ _ h1 h2
theorem and_m_bringsBack  {N : Nat} {M : MM} {Q1 Q2 Q3 : MM → Prop} (hQ : ∀  (M1 : MM), Q1 M1 → Q2 M1 → Q3 M1) (h1 : W_m_bringsBack  N M Q1) (h2 : W_m_bringsBack  N M Q2) : W_m_bringsBack  N M Q3 := by
  unfold W_m_bringsBack at h1 h2 ⊢
  refine and_m_likens (fun M2 h1 h2 => ?_) h1 h2
  refine and_m_likensSeen (fun M4 h1 h2 => ?_) h1 h2
  exact hQ _ h1 h2
theorem and_m_takenNow_4 {M : MM} {Q1 Q2 Q3 : Int32 → Prop} (hQ : ∀ (r : Int32), Q1 r → Q2 r → Q3 r) : ∀ (N : Nat) (v1 : Int32) (v2 : Int32), W_m_takenNow_4 M Q1 N v1 v2 → W_m_takenNow_4 M Q2 N v1 v2 → W_m_takenNow_4 M Q3 N v1 v2 := by
  intro N
  induction N with
  | zero => intros; trivial
  | succ N IH =>
    intro v1 v2 h1 h2
    replace h1 : B_m_takenNow_4 M Q1 N (W_m_takenNow_4 M Q1 N) v1 v2 := h1
    replace h2 : B_m_takenNow_4 M Q2 N (W_m_takenNow_4 M Q2 N) v1 v2 := h2
    show B_m_takenNow_4 M Q3 N (W_m_takenNow_4 M Q3 N) v1 v2
    unfold B_m_takenNow_4 at h1 h2 ⊢
    refine ⟨fun hc => ?_, fun hc => ?_⟩
    · replace h1 := h1.1 hc
      replace h2 := h2.1 hc
      refine ⟨fun hc => ?_, fun hc => ?_⟩
      · replace h1 := h1.1 hc
        replace h2 := h2.1 hc
        exact IH _ _ h1 h2
      · replace h1 := h1.2 hc
        replace h2 := h2.2 hc
        exact IH _ _ h1 h2
    · replace h1 := h1.2 hc
      replace h2 := h2.2 hc
      exact hQ _ h1 h2
theorem and_m_takenNow  {N : Nat} {M : MM} {Q1 Q2 Q3 : Int32 → Prop} (hQ : ∀ (r : Int32), Q1 r → Q2 r → Q3 r) (h1 : W_m_takenNow  N M Q1) (h2 : W_m_takenNow  N M Q2) : W_m_takenNow  N M Q3 := by
  unfold W_m_takenNow at h1 h2 ⊢
  refine and_m_takenNow_4  hQ N _ _ h1 h2
theorem and_m_trial_58 {p1 : Int32} {p2 : Int32} {k73a k73b k73c : MM → Prop} {Q1 Q2 Q3 : Int32 → MM → Prop} (hk73 : ∀  (M : MM), k73a M → k73b M → k73c M) (hQ : ∀ (r : Int32) (M1 : MM), Q1 r M1 → Q2 r M1 → Q3 r M1) : ∀ (N : Nat) (v3 : Int32) (M : MM), W_m_trial_58 p1 p2 k73a Q1 N v3 M → W_m_trial_58 p1 p2 k73b Q2 N v3 M → W_m_trial_58 p1 p2 k73c Q3 N v3 M := by
  intro N
  induction N with
  | zero => intros; trivial
  | succ N IH =>
    intro v3 M h1 h2
    replace h1 : B_m_trial_58 p1 p2 k73a Q1 N (W_m_trial_58 p1 p2 k73a Q1 N) v3 M := h1
    replace h2 : B_m_trial_58 p1 p2 k73b Q2 N (W_m_trial_58 p1 p2 k73b Q2 N) v3 M := h2
    show B_m_trial_58 p1 p2 k73c Q3 N (W_m_trial_58 p1 p2 k73c Q3 N) v3 M
    unfold B_m_trial_58 at h1 h2 ⊢
    refine ⟨fun hc => ?_, fun hc => ?_⟩
    · replace h1 := h1.1 hc
      replace h2 := h2.1 hc
      refine and_m_oneDay (fun M13 h1 h2 => ?_) h1 h2
      exact IH _ _ h1 h2
    · replace h1 := h1.2 hc
      replace h2 := h2.2 hc
      exact hk73 _ h1 h2
theorem and_m_trial {p1 : Int32} {p2 : Int32} {N : Nat} {M : MM} {Q1 Q2 Q3 : Int32 → MM → Prop} (hQ : ∀ (r : Int32) (M1 : MM), Q1 r M1 → Q2 r M1 → Q3 r M1) (h1 : W_m_trial p1 p2 N M Q1) (h2 : W_m_trial p1 p2 N M Q2) : W_m_trial p1 p2 N M Q3 := by
  unfold W_m_trial at h1 h2 ⊢
  refine ⟨fun hc => ?_, fun hc => ?_⟩
  · replace h1 := h1.1 hc
    replace h2 := h2.1 hc
    refine and_m_throwsIf (fun r2 M3 h1 h2 => ?_) h1 h2
    refine ⟨fun hc => ?_, fun hc => ?_⟩
    · replace h1 := h1.1 hc
      replace h2 := h2.1 hc
      refine ⟨fun hc => ?_, fun hc => ?_⟩
      · replace h1 := h1.1 hc
        replace h2 := h2.1 hc
        refine and_m_throwsIf (fun r6 M7 h1 h2 => ?_) h1 h2
        refine ⟨fun hc => ?_, fun hc => ?_⟩
        · replace h1 := h1.1 hc
          replace h2 := h2.1 hc
          refine and_m_keepsAll (fun M10 h1 h2 => ?_) h1 h2
          refine and_m_trial_58 (fun M14 h1 h2 => ?_) hQ N _ _ h1 h2
          · refine ⟨fun hc => ?_, fun hc => ?_⟩
            · replace h1 := h1.1 hc
              replace h2 := h2.1 hc
              refine and_m_bringsBack (fun M17 h1 h2 => ?_) h1 h2
              exact hQ _ _ h1 h2
            · replace h1 := h1.2 hc
              replace h2 := h2.2 hc
              refine ⟨fun hc => ?_, fun hc => ?_⟩
              · replace h1 := h1.1 hc
                replace h2 := h2.1 hc
                refine and_m_bringsBack (fun M20 h1 h2 => ?_) h1 h2
                exact hQ _ _ h1 h2
              · replace h1 := h1.2 hc
                replace h2 := h2.2 hc
                refine ⟨fun hc => ?_, fun hc => ?_⟩
                · replace h1 := h1.1 hc
                  replace h2 := h2.1 hc
                  refine and_m_takenNow (fun r22 h1 h2 => ?_) h1 h2
                  refine and_m_bringsBack (fun M25 h1 h2 => ?_) h1 h2
                  exact hQ _ _ h1 h2
                · replace h1 := h1.2 hc
                  replace h2 := h2.2 hc
                  refine and_m_sumOf (fun r26 h1 h2 => ?_) h1 h2
                  refine and_m_bringsBack (fun M29 h1 h2 => ?_) h1 h2
                  exact hQ _ _ h1 h2
        · replace h1 := h1.2 hc
          replace h2 := h2.2 hc
          exact hQ _ _ h1 h2
      · replace h1 := h1.2 hc
        replace h2 := h2.2 hc
        refine and_m_throwsIf (fun r30 M31 h1 h2 => ?_) h1 h2
        refine ⟨fun hc => ?_, fun hc => ?_⟩
        · replace h1 := h1.1 hc
          replace h2 := h2.1 hc
          refine and_m_keepsAll (fun M34 h1 h2 => ?_) h1 h2
          refine and_m_trial_58 (fun M35 h1 h2 => ?_) hQ N _ _ h1 h2
          · refine ⟨fun hc => ?_, fun hc => ?_⟩
            · replace h1 := h1.1 hc
              replace h2 := h2.1 hc
              refine and_m_bringsBack (fun M38 h1 h2 => ?_) h1 h2
              exact hQ _ _ h1 h2
            · replace h1 := h1.2 hc
              replace h2 := h2.2 hc
              refine ⟨fun hc => ?_, fun hc => ?_⟩
              · replace h1 := h1.1 hc
                replace h2 := h2.1 hc
                refine and_m_bringsBack (fun M41 h1 h2 => ?_) h1 h2
                exact hQ _ _ h1 h2
              · replace h1 := h1.2 hc
                replace h2 := h2.2 hc
                refine ⟨fun hc => ?_, fun hc => ?_⟩
                · replace h1 := h1.1 hc
                  replace h2 := h2.1 hc
                  refine and_m_takenNow (fun r43 h1 h2 => ?_) h1 h2
                  refine and_m_bringsBack (fun M46 h1 h2 => ?_) h1 h2
                  exact hQ _ _ h1 h2
                · replace h1 := h1.2 hc
                  replace h2 := h2.2 hc
                  refine and_m_sumOf (fun r47 h1 h2 => ?_) h1 h2
                  refine and_m_bringsBack (fun M50 h1 h2 => ?_) h1 h2
                  exact hQ _ _ h1 h2
        · replace h1 := h1.2 hc
          replace h2 := h2.2 hc
          exact hQ _ _ h1 h2
    · replace h1 := h1.2 hc
      replace h2 := h2.2 hc
      exact hQ _ _ h1 h2
  · replace h1 := h1.2 hc
    replace h2 := h2.2 hc
    refine and_m_throwsIf (fun r51 M52 h1 h2 => ?_) h1 h2
    refine ⟨fun hc => ?_, fun hc => ?_⟩
    · replace h1 := h1.1 hc
      replace h2 := h2.1 hc
      refine ⟨fun hc => ?_, fun hc => ?_⟩
      · replace h1 := h1.1 hc
        replace h2 := h2.1 hc
        refine and_m_throwsIf (fun r55 M56 h1 h2 => ?_) h1 h2
        refine ⟨fun hc => ?_, fun hc => ?_⟩
        · replace h1 := h1.1 hc
          replace h2 := h2.1 hc
          refine and_m_keepsAll (fun M59 h1 h2 => ?_) h1 h2
          refine and_m_trial_58 (fun M60 h1 h2 => ?_) hQ N _ _ h1 h2
          · refine ⟨fun hc => ?_, fun hc => ?_⟩
            · replace h1 := h1.1 hc
              replace h2 := h2.1 hc
              refine and_m_bringsBack (fun M63 h1 h2 => ?_) h1 h2
              exact hQ _ _ h1 h2
            · replace h1 := h1.2 hc
              replace h2 := h2.2 hc
              refine ⟨fun hc => ?_, fun hc => ?_⟩
              · replace h1 := h1.1 hc
                replace h2 := h2.1 hc
                refine and_m_bringsBack (fun M66 h1 h2 => ?_) h1 h2
                exact hQ _ _ h1 h2
              · replace h1 := h1.2 hc
                replace h2 := h2.2 hc
                refine ⟨fun hc => ?_, fun hc => ?_⟩
                · replace h1 := h1.1 hc
                  replace h2 := h2.1 hc
                  refine and_m_takenNow (fun r68 h1 h2 => ?_) h1 h2
                  refine and_m_bringsBack (fun M71 h1 h2 => ?_) h1 h2
                  exact hQ _ _ h1 h2
                · replace h1 := h1.2 hc
                  replace h2 := h2.2 hc
                  refine and_m_sumOf (fun r72 h1 h2 => ?_) h1 h2
                  refine and_m_bringsBack (fun M75 h1 h2 => ?_) h1 h2
                  exact hQ _ _ h1 h2
        · replace h1 := h1.2 hc
          replace h2 := h2.2 hc
          exact hQ _ _ h1 h2
      · replace h1 := h1.2 hc
        replace h2 := h2.2 hc
        refine and_m_throwsIf (fun r76 M77 h1 h2 => ?_) h1 h2
        refine ⟨fun hc => ?_, fun hc => ?_⟩
        · replace h1 := h1.1 hc
          replace h2 := h2.1 hc
          refine and_m_keepsAll (fun M80 h1 h2 => ?_) h1 h2
          refine and_m_trial_58 (fun M81 h1 h2 => ?_) hQ N _ _ h1 h2
          · refine ⟨fun hc => ?_, fun hc => ?_⟩
            · replace h1 := h1.1 hc
              replace h2 := h2.1 hc
              refine and_m_bringsBack (fun M84 h1 h2 => ?_) h1 h2
              exact hQ _ _ h1 h2
            · replace h1 := h1.2 hc
              replace h2 := h2.2 hc
              refine ⟨fun hc => ?_, fun hc => ?_⟩
              · replace h1 := h1.1 hc
                replace h2 := h2.1 hc
                refine and_m_bringsBack (fun M87 h1 h2 => ?_) h1 h2
                exact hQ _ _ h1 h2
              · replace h1 := h1.2 hc
                replace h2 := h2.2 hc
                refine ⟨fun hc => ?_, fun hc => ?_⟩
                · replace h1 := h1.1 hc
                  replace h2 := h2.1 hc
                  refine and_m_takenNow (fun r89 h1 h2 => ?_) h1 h2
                  refine and_m_bringsBack (fun M92 h1 h2 => ?_) h1 h2
                  exact hQ _ _ h1 h2
                · replace h1 := h1.2 hc
                  replace h2 := h2.2 hc
                  refine and_m_sumOf (fun r93 h1 h2 => ?_) h1 h2
                  refine and_m_bringsBack (fun M96 h1 h2 => ?_) h1 h2
                  exact hQ _ _ h1 h2
        · replace h1 := h1.2 hc
          replace h2 := h2.2 hc
          exact hQ _ _ h1 h2
    · replace h1 := h1.2 hc
      replace h2 := h2.2 hc
      exact hQ _ _ h1 h2
theorem and_m_span_58 {p1 : Int32} {p2 : Int32} {u3 : Int32} {u4 : Int32} {k74a k74b k74c : MM → Prop} {Q1 Q2 Q3 : Int32 → MM → Prop} (hk74 : ∀  (M : MM), k74a M → k74b M → k74c M) (hQ : ∀ (r : Int32) (M1 : MM), Q1 r M1 → Q2 r M1 → Q3 r M1) : ∀ (N : Nat) (v5 : Int32) (M : MM), W_m_span_58 p1 p2 u3 u4 k74a Q1 N v5 M → W_m_span_58 p1 p2 u3 u4 k74b Q2 N v5 M → W_m_span_58 p1 p2 u3 u4 k74c Q3 N v5 M := by
  intro N
  induction N with
  | zero => intros; trivial
  | succ N IH =>
    intro v5 M h1 h2
    replace h1 : B_m_span_58 p1 p2 u3 u4 k74a Q1 N (W_m_span_58 p1 p2 u3 u4 k74a Q1 N) v5 M := h1
    replace h2 : B_m_span_58 p1 p2 u3 u4 k74b Q2 N (W_m_span_58 p1 p2 u3 u4 k74b Q2 N) v5 M := h2
    show B_m_span_58 p1 p2 u3 u4 k74c Q3 N (W_m_span_58 p1 p2 u3 u4 k74c Q3 N) v5 M
    unfold B_m_span_58 at h1 h2 ⊢
    refine ⟨fun hc => ?_, fun hc => ?_⟩
    · replace h1 := h1.1 hc
      replace h2 := h2.1 hc
      refine and_m_oneDay (fun M10 h1 h2 => ?_) h1 h2
      exact IH _ _ h1 h2
    · replace h1 := h1.2 hc
      replace h2 := h2.2 hc
      exact hk74 _ h1 h2
theorem and_m_span_39 {p1 : Int32} {p2 : Int32} {Q1 Q2 Q3 : Int32 → MM → Prop} (hQ : ∀ (r : Int32) (M1 : MM), Q1 r M1 → Q2 r M1 → Q3 r M1) : ∀ (N : Nat) (v3 : Int32) (v4 : Int32) (M : MM), W_m_span_39 p1 p2 Q1 N v3 v4 M → W_m_span_39 p1 p2 Q2 N v3 v4 M → W_m_span_39 p1 p2 Q3 N v3 v4 M := by
  intro N
  induction N with
  | zero => intros; trivial
  | succ N IH =>
    intro v3 v4 M h1 h2
    replace h1 : B_m_span_39 p1 p2 Q1 N (W_m_span_39 p1 p2 Q1 N) v3 v4 M := h1
    replace h2 : B_m_span_39 p1 p2 Q2 N (W_m_span_39 p1 p2 Q2 N) v3 v4 M := h2
    show B_m_span_39 p1 p2 Q3 N (W_m_span_39 p1 p2 Q3 N) v3 v4 M
    unfold B_m_span_39 at h1 h2 ⊢
    refine ⟨fun hc => ?_, fun hc => ?_⟩
    · replace h1 := h1.1 hc
      replace h2 := h2.1 hc
      exact hQ _ _ h1 h2
    · replace h1 := h1.2 hc
      replace h2 := h2.2 hc
      refine and_m_span_58 (fun M11 h1 h2 => ?_) hQ N _ _ h1 h2
      · refine and_m_bringsBack (fun M13 h1 h2 => ?_) h1 h2
        refine ⟨fun hc => ?_, fun hc => ?_⟩
        · replace h1 := h1.1 hc
          replace h2 := h2.1 hc
          exact IH _ _ _ h1 h2
        · replace h1 := h1.2 hc
          replace h2 := h2.2 hc
          refine ⟨fun hc => ?_, fun hc => ?_⟩
          · replace h1 := h1.1 hc
            replace h2 := h2.1 hc
            exact IH _ _ _ h1 h2
          · replace h1 := h1.2 hc
            replace h2 := h2.2 hc
            exact IH _ _ _ h1 h2
theorem and_m_span {p1 : Int32} {p2 : Int32} {N : Nat} {M : MM} {Q1 Q2 Q3 : Int32 → MM → Prop} (hQ : ∀ (r : Int32) (M1 : MM), Q1 r M1 → Q2 r M1 → Q3 r M1) (h1 : W_m_span p1 p2 N M Q1) (h2 : W_m_span p1 p2 N M Q2) : W_m_span p1 p2 N M Q3 := by
  unfold W_m_span at h1 h2 ⊢
  refine ⟨fun hc => ?_, fun hc => ?_⟩
  · replace h1 := h1.1 hc
    replace h2 := h2.1 hc
    refine and_m_throwsIf (fun r2 M3 h1 h2 => ?_) h1 h2
    refine ⟨fun hc => ?_, fun hc => ?_⟩
    · replace h1 := h1.1 hc
      replace h2 := h2.1 hc
      refine and_m_keepsAll (fun M6 h1 h2 => ?_) h1 h2
      refine and_m_span_39  hQ N _ _ _ h1 h2
    · replace h1 := h1.2 hc
      replace h2 := h2.2 hc
      exact hQ _ _ h1 h2
  · replace h1 := h1.2 hc
    replace h2 := h2.2 hc
    refine and_m_throwsIf (fun r16 M17 h1 h2 => ?_) h1 h2
    refine ⟨fun hc => ?_, fun hc => ?_⟩
    · replace h1 := h1.1 hc
      replace h2 := h2.1 hc
      refine and_m_keepsAll (fun M20 h1 h2 => ?_) h1 h2
      refine and_m_span_39  hQ N _ _ _ h1 h2
    · replace h1 := h1.2 hc
      replace h2 := h2.2 hc
      exact hQ _ _ h1 h2
theorem and_m_first_11  {k42a k42b k42c : Int32 → MM → Prop} {Q1 Q2 Q3 : Int32 → MM → Prop} (hk42 : ∀ (v1 : Int32) (M : MM), k42a v1 M → k42b v1 M → k42c v1 M) (hQ : ∀ (r : Int32) (M1 : MM), Q1 r M1 → Q2 r M1 → Q3 r M1) : ∀ (N : Nat) (v1 : Int32) (M : MM), W_m_first_11 k42a Q1 N v1 M → W_m_first_11 k42b Q2 N v1 M → W_m_first_11 k42c Q3 N v1 M := by
  intro N
  induction N with
  | zero => intros; trivial
  | succ N IH =>
    intro v1 M h1 h2
    replace h1 : B_m_first_11 k42a Q1 N (W_m_first_11 k42a Q1 N) v1 M := h1
    replace h2 : B_m_first_11 k42b Q2 N (W_m_first_11 k42b Q2 N) v1 M := h2
    show B_m_first_11 k42c Q3 N (W_m_first_11 k42c Q3 N) v1 M
    unfold B_m_first_11 at h1 h2 ⊢
    refine ⟨fun hc => ?_, fun hc => ?_⟩
    · replace h1 := h1.1 hc
      replace h2 := h2.1 hc
      refine ⟨fun hc => ?_, fun hc => ?_⟩
      · replace h1 := h1.1 hc
        replace h2 := h2.1 hc
        refine and_m_oneDay (fun M6 h1 h2 => ?_) h1 h2
        exact IH _ _ h1 h2
      · replace h1 := h1.2 hc
        replace h2 := h2.2 hc
        exact hk42 _ _ h1 h2
    · replace h1 := h1.2 hc
      replace h2 := h2.2 hc
      exact hk42 _ _ h1 h2
theorem and_m_first  {N : Nat} {M : MM} {Q1 Q2 Q3 : Int32 → MM → Prop} (hQ : ∀ (r : Int32) (M1 : MM), Q1 r M1 → Q2 r M1 → Q3 r M1) (h1 : W_m_first  N M Q1) (h2 : W_m_first  N M Q2) : W_m_first  N M Q3 := by
  unfold W_m_first at h1 h2 ⊢
  refine and_m_keepsAll (fun M2 h1 h2 => ?_) h1 h2
  refine and_m_first_11 (fun x7 M8 h1 h2 => ?_) hQ N _ _ h1 h2
  · refine ⟨fun hc => ?_, fun hc => ?_⟩
    · replace h1 := h1.1 hc
      replace h2 := h2.1 hc
      refine and_m_bringsBack (fun M11 h1 h2 => ?_) h1 h2
      exact hQ _ _ h1 h2
    · replace h1 := h1.2 hc
      replace h2 := h2.2 hc
      refine and_m_bringsBack (fun M14 h1 h2 => ?_) h1 h2
      exact hQ _ _ h1 h2
theorem and_m_led_37 {p1 : Int32} {M : MM} {Q1 Q2 Q3 : Int32 → MM → Prop} (hQ : ∀ (r : Int32) (M1 : MM), Q1 r M1 → Q2 r M1 → Q3 r M1) : ∀ (N : Nat) (v2 : Int32) (v3 : Int32), W_m_led_37 p1 M Q1 N v2 v3 → W_m_led_37 p1 M Q2 N v2 v3 → W_m_led_37 p1 M Q3 N v2 v3 := by
  intro N
  induction N with
  | zero => intros; trivial
  | succ N IH =>
    intro v2 v3 h1 h2
    replace h1 : B_m_led_37 p1 M Q1 N (W_m_led_37 p1 M Q1 N) v2 v3 := h1
    replace h2 : B_m_led_37 p1 M Q2 N (W_m_led_37 p1 M Q2 N) v2 v3 := h2
    show B_m_led_37 p1 M Q3 N (W_m_led_37 p1 M Q3 N) v2 v3
    unfold B_m_led_37 at h1 h2 ⊢
    refine ⟨fun hc => ?_, fun hc => ?_⟩
    · replace h1 := h1.1 hc
      replace h2 := h2.1 hc
      refine ⟨fun hc => ?_, fun hc => ?_⟩
      · replace h1 := h1.1 hc
        replace h2 := h2.1 hc
        exact IH _ _ h1 h2
      · replace h1 := h1.2 hc
        replace h2 := h2.2 hc
        refine ⟨fun hc => ?_, fun hc => ?_⟩
        · replace h1 := h1.1 hc
          replace h2 := h2.1 hc
          exact IH _ _ h1 h2
        · replace h1 := h1.2 hc
          replace h2 := h2.2 hc
          exact IH _ _ h1 h2
    · replace h1 := h1.2 hc
      replace h2 := h2.2 hc
      exact hQ _ _ h1 h2
theorem and_m_led {p1 : Int32} {N : Nat} {M : MM} {Q1 Q2 Q3 : Int32 → MM → Prop} (hQ : ∀ (r : Int32) (M1 : MM), Q1 r M1 → Q2 r M1 → Q3 r M1) (h1 : W_m_led p1 N M Q1) (h2 : W_m_led p1 N M Q2) : W_m_led p1 N M Q3 := by
  unfold W_m_led at h1 h2 ⊢
  refine ⟨fun hc => ?_, fun hc => ?_⟩
  · replace h1 := h1.1 hc
    replace h2 := h2.1 hc
    refine and_m_throwsIf (fun r2 M3 h1 h2 => ?_) h1 h2
    refine ⟨fun hc => ?_, fun hc => ?_⟩
    · replace h1 := h1.1 hc
      replace h2 := h2.1 hc
      refine and_m_led_37  hQ N _ _ h1 h2
    · replace h1 := h1.2 hc
      replace h2 := h2.2 hc
      exact hQ _ _ h1 h2
  · replace h1 := h1.2 hc
    replace h2 := h2.2 hc
    refine ⟨fun hc => ?_, fun hc => ?_⟩
    · replace h1 := h1.1 hc
      replace h2 := h2.1 hc
      refine and_m_throwsIf (fun r9 M10 h1 h2 => ?_) h1 h2
      refine ⟨fun hc => ?_, fun hc => ?_⟩
      · replace h1 := h1.1 hc
        replace h2 := h2.1 hc
        refine and_m_led_37  hQ N _ _ h1 h2
      · replace h1 := h1.2 hc
        replace h2 := h2.2 hc
        exact hQ _ _ h1 h2
    · replace h1 := h1.2 hc
      replace h2 := h2.2 hc
      refine and_m_throwsIf (fun r12 M13 h1 h2 => ?_) h1 h2
      refine ⟨fun hc => ?_, fun hc => ?_⟩
      · replace h1 := h1.1 hc
        replace h2 := h2.1 hc
        refine and_m_led_37  hQ N _ _ h1 h2
      · replace h1 := h1.2 hc
        replace h2 := h2.2 hc
        exact hQ _ _ h1 h2
theorem and_m_takenFor_4 {p1 : Int32} {M : MM} {Q1 Q2 Q3 : Int32 → Prop} (hQ : ∀ (r : Int32), Q1 r → Q2 r → Q3 r) : ∀ (N : Nat) (v2 : Int32) (v3 : Int32), W_m_takenFor_4 p1 M Q1 N v2 v3 → W_m_takenFor_4 p1 M Q2 N v2 v3 → W_m_takenFor_4 p1 M Q3 N v2 v3 := by
  intro N
  induction N with
  | zero => intros; trivial
  | succ N IH =>
    intro v2 v3 h1 h2
    replace h1 : B_m_takenFor_4 p1 M Q1 N (W_m_takenFor_4 p1 M Q1 N) v2 v3 := h1
    replace h2 : B_m_takenFor_4 p1 M Q2 N (W_m_takenFor_4 p1 M Q2 N) v2 v3 := h2
    show B_m_takenFor_4 p1 M Q3 N (W_m_takenFor_4 p1 M Q3 N) v2 v3
    unfold B_m_takenFor_4 at h1 h2 ⊢
    refine ⟨fun hc => ?_, fun hc => ?_⟩
    · replace h1 := h1.1 hc
      replace h2 := h2.1 hc
      refine ⟨fun hc => ?_, fun hc => ?_⟩
      · replace h1 := h1.1 hc
        replace h2 := h2.1 hc
        exact IH _ _ h1 h2
      · replace h1 := h1.2 hc
        replace h2 := h2.2 hc
        exact IH _ _ h1 h2
    · replace h1 := h1.2 hc
      replace h2 := h2.2 hc
      exact hQ _ h1 h2
theorem and_m_takenFor {p1 : Int32} {N : Nat} {M : MM} {Q1 Q2 Q3 : Int32 → Prop} (hQ : ∀ (r : Int32), Q1 r → Q2 r → Q3 r) (h1 : W_m_takenFor p1 N M Q1) (h2 : W_m_takenFor p1 N M Q2) : W_m_takenFor p1 N M Q3 := by
  unfold W_m_takenFor at h1 h2 ⊢
  refine and_m_takenFor_4  hQ N _ _ h1 h2
theorem and_m_worst_9 {M : MM} {Q1 Q2 Q3 : Int32 → MM → Prop} (hQ : ∀ (r : Int32) (M1 : MM), Q1 r M1 → Q2 r M1 → Q3 r M1) : ∀ (N : Nat) (v1 : Int32) (v2 : Int32), W_m_worst_9 M Q1 N v1 v2 → W_m_worst_9 M Q2 N v1 v2 → W_m_worst_9 M Q3 N v1 v2 := by
  intro N
  induction N with
  | zero => intros; trivial
  | succ N IH =>
    intro v1 v2 h1 h2
    replace h1 : B_m_worst_9 M Q1 N (W_m_worst_9 M Q1 N) v1 v2 := h1
    replace h2 : B_m_worst_9 M Q2 N (W_m_worst_9 M Q2 N) v1 v2 := h2
    show B_m_worst_9 M Q3 N (W_m_worst_9 M Q3 N) v1 v2
    unfold B_m_worst_9 at h1 h2 ⊢
    refine ⟨fun hc => ?_, fun hc => ?_⟩
    · replace h1 := h1.1 hc
      replace h2 := h2.1 hc
      refine and_m_takenFor (fun r2 h1 h2 => ?_) h1 h2
      refine ⟨fun hc => ?_, fun hc => ?_⟩
      · replace h1 := h1.1 hc
        replace h2 := h2.1 hc
        refine ⟨fun hc => ?_, fun hc => ?_⟩
        · replace h1 := h1.1 hc
          replace h2 := h2.1 hc
          exact IH _ _ h1 h2
        · replace h1 := h1.2 hc
          replace h2 := h2.2 hc
          refine and_m_takenFor (fun r6 h1 h2 => ?_) h1 h2
          refine and_m_takenFor (fun r8 h1 h2 => ?_) h1 h2
          refine ⟨fun hc => ?_, fun hc => ?_⟩
          · replace h1 := h1.1 hc
            replace h2 := h2.1 hc
            exact IH _ _ h1 h2
          · replace h1 := h1.2 hc
            replace h2 := h2.2 hc
            exact IH _ _ h1 h2
      · replace h1 := h1.2 hc
        replace h2 := h2.2 hc
        exact IH _ _ h1 h2
    · replace h1 := h1.2 hc
      replace h2 := h2.2 hc
      exact hQ _ _ h1 h2
theorem and_m_worst  {N : Nat} {M : MM} {Q1 Q2 Q3 : Int32 → MM → Prop} (hQ : ∀ (r : Int32) (M1 : MM), Q1 r M1 → Q2 r M1 → Q3 r M1) (h1 : W_m_worst  N M Q1) (h2 : W_m_worst  N M Q2) : W_m_worst  N M Q3 := by
  unfold W_m_worst at h1 h2 ⊢
  refine and_m_worst_9  hQ N _ _ h1 h2
theorem and_m_log {p1 : Int32} {p2 : Int32} {N : Nat} {M : MM} {Q1 Q2 Q3 : Int32 → MM → Prop} (hQ : ∀ (r : Int32) (M1 : MM), Q1 r M1 → Q2 r M1 → Q3 r M1) (h1 : W_m_log p1 p2 N M Q1) (h2 : W_m_log p1 p2 N M Q2) : W_m_log p1 p2 N M Q3 := by
  unfold W_m_log at h1 h2 ⊢
  refine ⟨fun hc => ?_, fun hc => ?_⟩
  · replace h1 := h1.1 hc
    replace h2 := h2.1 hc
    refine and_m_throwsIf (fun r2 M3 h1 h2 => ?_) h1 h2
    refine ⟨fun hc => ?_, fun hc => ?_⟩
    · replace h1 := h1.1 hc
      replace h2 := h2.1 hc
      refine ⟨fun hc => ?_, fun hc => ?_⟩
      · replace h1 := h1.1 hc
        replace h2 := h2.1 hc
        exact hQ _ _ h1 h2
      · replace h1 := h1.2 hc
        replace h2 := h2.2 hc
        exact hQ _ _ h1 h2
    · replace h1 := h1.2 hc
      replace h2 := h2.2 hc
      exact hQ _ _ h1 h2
  · replace h1 := h1.2 hc
    replace h2 := h2.2 hc
    refine and_m_throwsIf (fun r6 M7 h1 h2 => ?_) h1 h2
    refine ⟨fun hc => ?_, fun hc => ?_⟩
    · replace h1 := h1.1 hc
      replace h2 := h2.1 hc
      refine ⟨fun hc => ?_, fun hc => ?_⟩
      · replace h1 := h1.1 hc
        replace h2 := h2.1 hc
        exact hQ _ _ h1 h2
      · replace h1 := h1.2 hc
        replace h2 := h2.2 hc
        exact hQ _ _ h1 h2
    · replace h1 := h1.2 hc
      replace h2 := h2.2 hc
      exact hQ _ _ h1 h2
theorem and_m_seed {p1 : Int32} {N : Nat} {M : MM} {Q1 Q2 Q3 : Int32 → MM → Prop} (hQ : ∀ (r : Int32) (M1 : MM), Q1 r M1 → Q2 r M1 → Q3 r M1) (h1 : W_m_seed p1 N M Q1) (h2 : W_m_seed p1 N M Q2) : W_m_seed p1 N M Q3 := by
  unfold W_m_seed at h1 h2 ⊢
  exact hQ _ _ h1 h2
theorem and_m_count {p1 : Int32} {N : Nat} {M : MM} {Q1 Q2 Q3 : Int32 → MM → Prop} (hQ : ∀ (r : Int32) (M1 : MM), Q1 r M1 → Q2 r M1 → Q3 r M1) (h1 : W_m_count p1 N M Q1) (h2 : W_m_count p1 N M Q2) : W_m_count p1 N M Q3 := by
  unfold W_m_count at h1 h2 ⊢
  refine ⟨?_, ?_, ?_, ?_, ?_, ?_, ?_, ?_, ?_, ?_, ?_, ?_, ?_, ?_, ?_⟩
  · intro hc
    replace h1 := h1.1 hc
    replace h2 := h2.1 hc
    exact hQ _ _ h1 h2
  · intro hc
    replace h1 := h1.2.1 hc
    replace h2 := h2.2.1 hc
    exact hQ _ _ h1 h2
  · intro hc
    replace h1 := h1.2.2.1 hc
    replace h2 := h2.2.2.1 hc
    refine and_m_alive (fun r2 h1 h2 => ?_) h1 h2
    exact hQ _ _ h1 h2
  · intro hc
    replace h1 := h1.2.2.2.1 hc
    replace h2 := h2.2.2.2.1 hc
    exact hQ _ _ h1 h2
  · intro hc
    replace h1 := h1.2.2.2.2.1 hc
    replace h2 := h2.2.2.2.2.1 hc
    exact hQ _ _ h1 h2
  · intro hc
    replace h1 := h1.2.2.2.2.2.1 hc
    replace h2 := h2.2.2.2.2.2.1 hc
    refine and_m_inForce (fun r4 h1 h2 => ?_) h1 h2
    exact hQ _ _ h1 h2
  · intro hc
    replace h1 := h1.2.2.2.2.2.2.1 hc
    replace h2 := h2.2.2.2.2.2.2.1 hc
    refine and_m_takenNow (fun r6 h1 h2 => ?_) h1 h2
    exact hQ _ _ h1 h2
  · intro hc
    replace h1 := h1.2.2.2.2.2.2.2.1 hc
    replace h2 := h2.2.2.2.2.2.2.2.1 hc
    exact hQ _ _ h1 h2
  · intro hc
    replace h1 := h1.2.2.2.2.2.2.2.2.1 hc
    replace h2 := h2.2.2.2.2.2.2.2.2.1 hc
    exact hQ _ _ h1 h2
  · intro hc
    replace h1 := h1.2.2.2.2.2.2.2.2.2.1 hc
    replace h2 := h2.2.2.2.2.2.2.2.2.2.1 hc
    exact hQ _ _ h1 h2
  · intro hc
    replace h1 := h1.2.2.2.2.2.2.2.2.2.2.1 hc
    replace h2 := h2.2.2.2.2.2.2.2.2.2.2.1 hc
    exact hQ _ _ h1 h2
  · intro hc
    replace h1 := h1.2.2.2.2.2.2.2.2.2.2.2.1 hc
    replace h2 := h2.2.2.2.2.2.2.2.2.2.2.2.1 hc
    exact hQ _ _ h1 h2
  · intro hc
    replace h1 := h1.2.2.2.2.2.2.2.2.2.2.2.2.1 hc
    replace h2 := h2.2.2.2.2.2.2.2.2.2.2.2.2.1 hc
    exact hQ _ _ h1 h2
  · intro hc
    replace h1 := h1.2.2.2.2.2.2.2.2.2.2.2.2.2.1 hc
    replace h2 := h2.2.2.2.2.2.2.2.2.2.2.2.2.2.1 hc
    exact hQ _ _ h1 h2
  · intro hc0 hc1 hc2 hc3 hc4 hc5 hc6 hc7 hc8 hc9 hc10 hc11 hc12 hc13
    replace h1 := h1.2.2.2.2.2.2.2.2.2.2.2.2.2.2 hc0 hc1 hc2 hc3 hc4 hc5 hc6 hc7 hc8 hc9 hc10 hc11 hc12 hc13
    replace h2 := h2.2.2.2.2.2.2.2.2.2.2.2.2.2.2 hc0 hc1 hc2 hc3 hc4 hc5 hc6 hc7 hc8 hc9 hc10 hc11 hc12 hc13
    exact hQ _ _ h1 h2
