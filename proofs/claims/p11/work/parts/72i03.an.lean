/-! WHAT EACH METHOD WRITES (gw.py) -/
def fp_m_readCond_385  : List (Nat × Nat × Option Nat) := [(190, 190, some 21), (190, 190, some 19), (202, 202, none), (190, 190, some 25), (190, 190, some 22)]
theorem an_m_readCond_385_9 {M0 : MM} {Q : Int32 → MM → Prop} (hQ : ∀ (r : Int32) (M1 : MM), Eqo fp_m_readCond_385 M0 M1 → Q r M1) : ∀ (N : Nat) (M : MM), Eqo fp_m_readCond_385 M0 M → W_m_readCond_385_9 Q N M := by
  refine I_m_readCond_385_9 Q (fun M => Eqo fp_m_readCond_385 M0 M) (fun N ih M hih hM => ?_)
  unfold B_m_readCond_385_9
  refine an_m_passes (fun r4 M5 hM5 => ?_)
  refine ⟨fun _ => ?_, fun _ => ?_⟩
  · exact hQ _ _ (eqo_tr hM (fps_cons (i := 0) rfl (fps_cons (i := 1) rfl fps_nil)) hM5)
  · refine an_m_readAllOf_386 (fun r7 M8 hM8 => ?_)
    refine ⟨fun _ => ?_, fun _ => ?_⟩
    · exact hQ _ _ (eqo_tr (eqo_tr hM (fps_cons (i := 0) rfl (fps_cons (i := 1) rfl fps_nil)) hM5) (fps_cons (i := 0) rfl (fps_cons (i := 1) rfl (fps_cons (i := 2) rfl (fps_cons (i := 3) rfl (fps_cons (i := 4) rfl fps_nil))))) hM8)
    · refine an_m_emits (fun M11 hM11 => ?_)
      exact hih _ (eqo_tr (eqo_tr (eqo_tr hM (fps_cons (i := 0) rfl (fps_cons (i := 1) rfl fps_nil)) hM5) (fps_cons (i := 0) rfl (fps_cons (i := 1) rfl (fps_cons (i := 2) rfl (fps_cons (i := 3) rfl (fps_cons (i := 4) rfl fps_nil))))) hM8) (fps_cons (i := 2) rfl (fps_cons (i := 3) rfl fps_nil)) hM11)
theorem an_m_readCond_385  {N : Nat} {M : MM} {Q : Int32 → MM → Prop} (hQ : ∀ (r : Int32) (M1 : MM), Eqo fp_m_readCond_385 M M1 → Q r M1) : W_m_readCond_385  N M Q := by
  unfold W_m_readCond_385
  refine an_m_readAllOf_386 (fun r1 M2 hM2 => ?_)
  refine ⟨fun _ => ?_, fun _ => ?_⟩
  · exact hQ _ _ (eqo_tr (eqo_rf _) (fps_cons (i := 0) rfl (fps_cons (i := 1) rfl (fps_cons (i := 2) rfl (fps_cons (i := 3) rfl (fps_cons (i := 4) rfl fps_nil))))) hM2)
  · refine an_m_readCond_385_9   hQ N _ (eqo_tr (eqo_rf _) (fps_cons (i := 0) rfl (fps_cons (i := 1) rfl (fps_cons (i := 2) rfl (fps_cons (i := 3) rfl (fps_cons (i := 4) rfl fps_nil))))) hM2)
def fp_m_readAtom_384  : List (Nat × Nat × Option Nat) := [(190, 190, some 21), (190, 190, some 19), (202, 202, none), (190, 190, some 25), (190, 190, some 22)]
theorem an_m_readAtom_384  {N : Nat} {M : MM} {Q : Int32 → MM → Prop} (hQ : ∀ (r : Int32) (M1 : MM), Eqo fp_m_readAtom_384 M M1 → Q r M1) : W_m_readAtom_384  N M Q := by
  unfold W_m_readAtom_384
  refine an_m_sign (fun r1 M2 hM2 => ?_)
  refine ⟨fun _ => ?_, fun _ => ?_⟩
  · refine an_m_passes (fun r4 M5 hM5 => ?_)
    refine ⟨fun _ => ?_, fun _ => ?_⟩
    · refine an_m_passes (fun r7 M8 hM8 => ?_)
      refine ⟨fun _ => ?_, fun _ => ?_⟩
      · refine an_m_readSum (fun r10 M11 hM11 => ?_)
        refine ⟨fun _ => ?_, fun _ => ?_⟩
        · exact hQ _ _ (eqo_tr (eqo_tr (eqo_tr (eqo_tr (eqo_rf _) (fps_cons (i := 0) rfl (fps_cons (i := 1) rfl fps_nil)) hM2) (fps_cons (i := 0) rfl (fps_cons (i := 1) rfl fps_nil)) hM5) (fps_cons (i := 0) rfl (fps_cons (i := 1) rfl fps_nil)) hM8) (fps_cons (i := 0) rfl (fps_cons (i := 1) rfl (fps_cons (i := 2) rfl (fps_cons (i := 3) rfl fps_nil)))) hM11)
        · refine an_m_sign (fun r13 M14 hM14 => ?_)
          refine ⟨fun _ => ?_, fun _ => ?_⟩
          · refine an_m_sign (fun r16 M17 hM17 => ?_)
            refine ⟨fun _ => ?_, fun _ => ?_⟩
            · exact hQ _ _ (eqo_tr (eqo_tr (eqo_tr (eqo_tr (eqo_tr (eqo_tr (eqo_rf _) (fps_cons (i := 0) rfl (fps_cons (i := 1) rfl fps_nil)) hM2) (fps_cons (i := 0) rfl (fps_cons (i := 1) rfl fps_nil)) hM5) (fps_cons (i := 0) rfl (fps_cons (i := 1) rfl fps_nil)) hM8) (fps_cons (i := 0) rfl (fps_cons (i := 1) rfl (fps_cons (i := 2) rfl (fps_cons (i := 3) rfl fps_nil)))) hM11) (fps_cons (i := 0) rfl (fps_cons (i := 1) rfl fps_nil)) hM14) (fps_cons (i := 0) rfl (fps_cons (i := 1) rfl fps_nil)) hM17)
            · refine an_m_readSum (fun r19 M20 hM20 => ?_)
              refine ⟨fun _ => ?_, fun _ => ?_⟩
              · exact hQ _ _ (eqo_tr (eqo_tr (eqo_tr (eqo_tr (eqo_tr (eqo_tr (eqo_tr (eqo_rf _) (fps_cons (i := 0) rfl (fps_cons (i := 1) rfl fps_nil)) hM2) (fps_cons (i := 0) rfl (fps_cons (i := 1) rfl fps_nil)) hM5) (fps_cons (i := 0) rfl (fps_cons (i := 1) rfl fps_nil)) hM8) (fps_cons (i := 0) rfl (fps_cons (i := 1) rfl (fps_cons (i := 2) rfl (fps_cons (i := 3) rfl fps_nil)))) hM11) (fps_cons (i := 0) rfl (fps_cons (i := 1) rfl fps_nil)) hM14) (fps_cons (i := 0) rfl (fps_cons (i := 1) rfl fps_nil)) hM17) (fps_cons (i := 0) rfl (fps_cons (i := 1) rfl (fps_cons (i := 2) rfl (fps_cons (i := 3) rfl fps_nil)))) hM20)
              · refine ⟨fun _ => ?_, fun _ => ?_⟩
                · refine an_m_emits (fun M24 hM24 => ?_)
                  exact hQ _ _ (eqo_tr (eqo_tr (eqo_tr (eqo_tr (eqo_tr (eqo_tr (eqo_tr (eqo_tr (eqo_rf _) (fps_cons (i := 0) rfl (fps_cons (i := 1) rfl fps_nil)) hM2) (fps_cons (i := 0) rfl (fps_cons (i := 1) rfl fps_nil)) hM5) (fps_cons (i := 0) rfl (fps_cons (i := 1) rfl fps_nil)) hM8) (fps_cons (i := 0) rfl (fps_cons (i := 1) rfl (fps_cons (i := 2) rfl (fps_cons (i := 3) rfl fps_nil)))) hM11) (fps_cons (i := 0) rfl (fps_cons (i := 1) rfl fps_nil)) hM14) (fps_cons (i := 0) rfl (fps_cons (i := 1) rfl fps_nil)) hM17) (fps_cons (i := 0) rfl (fps_cons (i := 1) rfl (fps_cons (i := 2) rfl (fps_cons (i := 3) rfl fps_nil)))) hM20) (fps_cons (i := 2) rfl (fps_cons (i := 3) rfl fps_nil)) hM24)
                · refine an_m_emits (fun M26 hM26 => ?_)
                  exact hQ _ _ (eqo_tr (eqo_tr (eqo_tr (eqo_tr (eqo_tr (eqo_tr (eqo_tr (eqo_tr (eqo_rf _) (fps_cons (i := 0) rfl (fps_cons (i := 1) rfl fps_nil)) hM2) (fps_cons (i := 0) rfl (fps_cons (i := 1) rfl fps_nil)) hM5) (fps_cons (i := 0) rfl (fps_cons (i := 1) rfl fps_nil)) hM8) (fps_cons (i := 0) rfl (fps_cons (i := 1) rfl (fps_cons (i := 2) rfl (fps_cons (i := 3) rfl fps_nil)))) hM11) (fps_cons (i := 0) rfl (fps_cons (i := 1) rfl fps_nil)) hM14) (fps_cons (i := 0) rfl (fps_cons (i := 1) rfl fps_nil)) hM17) (fps_cons (i := 0) rfl (fps_cons (i := 1) rfl (fps_cons (i := 2) rfl (fps_cons (i := 3) rfl fps_nil)))) hM20) (fps_cons (i := 2) rfl (fps_cons (i := 3) rfl fps_nil)) hM26)
          · refine an_m_readSum (fun r27 M28 hM28 => ?_)
            refine ⟨fun _ => ?_, fun _ => ?_⟩
            · exact hQ _ _ (eqo_tr (eqo_tr (eqo_tr (eqo_tr (eqo_tr (eqo_tr (eqo_rf _) (fps_cons (i := 0) rfl (fps_cons (i := 1) rfl fps_nil)) hM2) (fps_cons (i := 0) rfl (fps_cons (i := 1) rfl fps_nil)) hM5) (fps_cons (i := 0) rfl (fps_cons (i := 1) rfl fps_nil)) hM8) (fps_cons (i := 0) rfl (fps_cons (i := 1) rfl (fps_cons (i := 2) rfl (fps_cons (i := 3) rfl fps_nil)))) hM11) (fps_cons (i := 0) rfl (fps_cons (i := 1) rfl fps_nil)) hM14) (fps_cons (i := 0) rfl (fps_cons (i := 1) rfl (fps_cons (i := 2) rfl (fps_cons (i := 3) rfl fps_nil)))) hM28)
            · refine ⟨fun _ => ?_, fun _ => ?_⟩
              · refine an_m_emits (fun M32 hM32 => ?_)
                exact hQ _ _ (eqo_tr (eqo_tr (eqo_tr (eqo_tr (eqo_tr (eqo_tr (eqo_tr (eqo_rf _) (fps_cons (i := 0) rfl (fps_cons (i := 1) rfl fps_nil)) hM2) (fps_cons (i := 0) rfl (fps_cons (i := 1) rfl fps_nil)) hM5) (fps_cons (i := 0) rfl (fps_cons (i := 1) rfl fps_nil)) hM8) (fps_cons (i := 0) rfl (fps_cons (i := 1) rfl (fps_cons (i := 2) rfl (fps_cons (i := 3) rfl fps_nil)))) hM11) (fps_cons (i := 0) rfl (fps_cons (i := 1) rfl fps_nil)) hM14) (fps_cons (i := 0) rfl (fps_cons (i := 1) rfl (fps_cons (i := 2) rfl (fps_cons (i := 3) rfl fps_nil)))) hM28) (fps_cons (i := 2) rfl (fps_cons (i := 3) rfl fps_nil)) hM32)
              · refine an_m_emits (fun M34 hM34 => ?_)
                exact hQ _ _ (eqo_tr (eqo_tr (eqo_tr (eqo_tr (eqo_tr (eqo_tr (eqo_tr (eqo_rf _) (fps_cons (i := 0) rfl (fps_cons (i := 1) rfl fps_nil)) hM2) (fps_cons (i := 0) rfl (fps_cons (i := 1) rfl fps_nil)) hM5) (fps_cons (i := 0) rfl (fps_cons (i := 1) rfl fps_nil)) hM8) (fps_cons (i := 0) rfl (fps_cons (i := 1) rfl (fps_cons (i := 2) rfl (fps_cons (i := 3) rfl fps_nil)))) hM11) (fps_cons (i := 0) rfl (fps_cons (i := 1) rfl fps_nil)) hM14) (fps_cons (i := 0) rfl (fps_cons (i := 1) rfl (fps_cons (i := 2) rfl (fps_cons (i := 3) rfl fps_nil)))) hM28) (fps_cons (i := 2) rfl (fps_cons (i := 3) rfl fps_nil)) hM34)
      · refine an_m_emits (fun M36 hM36 => ?_)
        exact hQ _ _ (eqo_tr (eqo_tr (eqo_tr (eqo_tr (eqo_rf _) (fps_cons (i := 0) rfl (fps_cons (i := 1) rfl fps_nil)) hM2) (fps_cons (i := 0) rfl (fps_cons (i := 1) rfl fps_nil)) hM5) (fps_cons (i := 0) rfl (fps_cons (i := 1) rfl fps_nil)) hM8) (fps_cons (i := 2) rfl (fps_cons (i := 3) rfl fps_nil)) hM36)
    · refine ⟨fun _ => ?_, fun _ => ?_⟩
      · exact hQ _ _ (eqo_tr (eqo_tr (eqo_rf _) (fps_cons (i := 0) rfl (fps_cons (i := 1) rfl fps_nil)) hM2) (fps_cons (i := 0) rfl (fps_cons (i := 1) rfl fps_nil)) hM5)
      · refine an_m_readAtom_387 (fun r38 M39 hM39 => ?_)
        refine ⟨fun _ => ?_, fun _ => ?_⟩
        · exact hQ _ _ (eqo_tr (eqo_wi (eqo_tr (eqo_tr (eqo_rf _) (fps_cons (i := 0) rfl (fps_cons (i := 1) rfl fps_nil)) hM2) (fps_cons (i := 0) rfl (fps_cons (i := 1) rfl fps_nil)) hM5) (i := 4) rfl (Or.inr rfl)) (fps_cons (i := 0) rfl (fps_cons (i := 1) rfl (fps_cons (i := 2) rfl (fps_cons (i := 3) rfl (fps_cons (i := 4) rfl fps_nil))))) hM39)
        · refine an_m_emits (fun M42 hM42 => ?_)
          exact hQ _ _ (eqo_tr (eqo_wi (eqo_tr (eqo_wi (eqo_tr (eqo_tr (eqo_rf _) (fps_cons (i := 0) rfl (fps_cons (i := 1) rfl fps_nil)) hM2) (fps_cons (i := 0) rfl (fps_cons (i := 1) rfl fps_nil)) hM5) (i := 4) rfl (Or.inr rfl)) (fps_cons (i := 0) rfl (fps_cons (i := 1) rfl (fps_cons (i := 2) rfl (fps_cons (i := 3) rfl (fps_cons (i := 4) rfl fps_nil))))) hM39) (i := 4) rfl (Or.inr rfl)) (fps_cons (i := 2) rfl (fps_cons (i := 3) rfl fps_nil)) hM42)
  · refine ⟨fun _ => ?_, fun _ => ?_⟩
    · exact hQ _ _ (eqo_tr (eqo_rf _) (fps_cons (i := 0) rfl (fps_cons (i := 1) rfl fps_nil)) hM2)
    · refine an_m_readCond_385 (fun r44 M45 hM45 => ?_)
      refine ⟨fun _ => ?_, fun _ => ?_⟩
      · exact hQ _ _ (eqo_tr (eqo_wi (eqo_tr (eqo_rf _) (fps_cons (i := 0) rfl (fps_cons (i := 1) rfl fps_nil)) hM2) (i := 4) rfl (Or.inr rfl)) (fps_cons (i := 0) rfl (fps_cons (i := 1) rfl (fps_cons (i := 2) rfl (fps_cons (i := 3) rfl (fps_cons (i := 4) rfl fps_nil))))) hM45)
      · refine an_m_sign (fun r47 M48 hM48 => ?_)
        exact hQ _ _ (eqo_tr (eqo_wi (eqo_tr (eqo_wi (eqo_tr (eqo_rf _) (fps_cons (i := 0) rfl (fps_cons (i := 1) rfl fps_nil)) hM2) (i := 4) rfl (Or.inr rfl)) (fps_cons (i := 0) rfl (fps_cons (i := 1) rfl (fps_cons (i := 2) rfl (fps_cons (i := 3) rfl (fps_cons (i := 4) rfl fps_nil))))) hM45) (i := 4) rfl (Or.inr rfl)) (fps_cons (i := 0) rfl (fps_cons (i := 1) rfl fps_nil)) hM48)
def fp_m_readAllOf_383  : List (Nat × Nat × Option Nat) := [(190, 190, some 21), (190, 190, some 19), (202, 202, none), (190, 190, some 25), (190, 190, some 22)]
theorem an_m_readAllOf_383_9 {M0 : MM} {Q : Int32 → MM → Prop} (hQ : ∀ (r : Int32) (M1 : MM), Eqo fp_m_readAllOf_383 M0 M1 → Q r M1) : ∀ (N : Nat) (M : MM), Eqo fp_m_readAllOf_383 M0 M → W_m_readAllOf_383_9 Q N M := by
  refine I_m_readAllOf_383_9 Q (fun M => Eqo fp_m_readAllOf_383 M0 M) (fun N ih M hih hM => ?_)
  unfold B_m_readAllOf_383_9
  refine an_m_passes (fun r4 M5 hM5 => ?_)
  refine ⟨fun _ => ?_, fun _ => ?_⟩
  · exact hQ _ _ (eqo_tr hM (fps_cons (i := 0) rfl (fps_cons (i := 1) rfl fps_nil)) hM5)
  · refine an_m_readAtom_384 (fun r7 M8 hM8 => ?_)
    refine ⟨fun _ => ?_, fun _ => ?_⟩
    · exact hQ _ _ (eqo_tr (eqo_tr hM (fps_cons (i := 0) rfl (fps_cons (i := 1) rfl fps_nil)) hM5) (fps_cons (i := 0) rfl (fps_cons (i := 1) rfl (fps_cons (i := 2) rfl (fps_cons (i := 3) rfl (fps_cons (i := 4) rfl fps_nil))))) hM8)
    · refine an_m_emits (fun M11 hM11 => ?_)
      exact hih _ (eqo_tr (eqo_tr (eqo_tr hM (fps_cons (i := 0) rfl (fps_cons (i := 1) rfl fps_nil)) hM5) (fps_cons (i := 0) rfl (fps_cons (i := 1) rfl (fps_cons (i := 2) rfl (fps_cons (i := 3) rfl (fps_cons (i := 4) rfl fps_nil))))) hM8) (fps_cons (i := 2) rfl (fps_cons (i := 3) rfl fps_nil)) hM11)
theorem an_m_readAllOf_383  {N : Nat} {M : MM} {Q : Int32 → MM → Prop} (hQ : ∀ (r : Int32) (M1 : MM), Eqo fp_m_readAllOf_383 M M1 → Q r M1) : W_m_readAllOf_383  N M Q := by
  unfold W_m_readAllOf_383
  refine an_m_readAtom_384 (fun r1 M2 hM2 => ?_)
  refine ⟨fun _ => ?_, fun _ => ?_⟩
  · exact hQ _ _ (eqo_tr (eqo_rf _) (fps_cons (i := 0) rfl (fps_cons (i := 1) rfl (fps_cons (i := 2) rfl (fps_cons (i := 3) rfl (fps_cons (i := 4) rfl fps_nil))))) hM2)
  · refine an_m_readAllOf_383_9   hQ N _ (eqo_tr (eqo_rf _) (fps_cons (i := 0) rfl (fps_cons (i := 1) rfl (fps_cons (i := 2) rfl (fps_cons (i := 3) rfl (fps_cons (i := 4) rfl fps_nil))))) hM2)
def fp_m_readCond_382  : List (Nat × Nat × Option Nat) := [(190, 190, some 21), (190, 190, some 19), (202, 202, none), (190, 190, some 25), (190, 190, some 22)]
theorem an_m_readCond_382_9 {M0 : MM} {Q : Int32 → MM → Prop} (hQ : ∀ (r : Int32) (M1 : MM), Eqo fp_m_readCond_382 M0 M1 → Q r M1) : ∀ (N : Nat) (M : MM), Eqo fp_m_readCond_382 M0 M → W_m_readCond_382_9 Q N M := by
  refine I_m_readCond_382_9 Q (fun M => Eqo fp_m_readCond_382 M0 M) (fun N ih M hih hM => ?_)
  unfold B_m_readCond_382_9
  refine an_m_passes (fun r4 M5 hM5 => ?_)
  refine ⟨fun _ => ?_, fun _ => ?_⟩
  · exact hQ _ _ (eqo_tr hM (fps_cons (i := 0) rfl (fps_cons (i := 1) rfl fps_nil)) hM5)
  · refine an_m_readAllOf_383 (fun r7 M8 hM8 => ?_)
    refine ⟨fun _ => ?_, fun _ => ?_⟩
    · exact hQ _ _ (eqo_tr (eqo_tr hM (fps_cons (i := 0) rfl (fps_cons (i := 1) rfl fps_nil)) hM5) (fps_cons (i := 0) rfl (fps_cons (i := 1) rfl (fps_cons (i := 2) rfl (fps_cons (i := 3) rfl (fps_cons (i := 4) rfl fps_nil))))) hM8)
    · refine an_m_emits (fun M11 hM11 => ?_)
      exact hih _ (eqo_tr (eqo_tr (eqo_tr hM (fps_cons (i := 0) rfl (fps_cons (i := 1) rfl fps_nil)) hM5) (fps_cons (i := 0) rfl (fps_cons (i := 1) rfl (fps_cons (i := 2) rfl (fps_cons (i := 3) rfl (fps_cons (i := 4) rfl fps_nil))))) hM8) (fps_cons (i := 2) rfl (fps_cons (i := 3) rfl fps_nil)) hM11)
theorem an_m_readCond_382  {N : Nat} {M : MM} {Q : Int32 → MM → Prop} (hQ : ∀ (r : Int32) (M1 : MM), Eqo fp_m_readCond_382 M M1 → Q r M1) : W_m_readCond_382  N M Q := by
  unfold W_m_readCond_382
  refine an_m_readAllOf_383 (fun r1 M2 hM2 => ?_)
  refine ⟨fun _ => ?_, fun _ => ?_⟩
  · exact hQ _ _ (eqo_tr (eqo_rf _) (fps_cons (i := 0) rfl (fps_cons (i := 1) rfl (fps_cons (i := 2) rfl (fps_cons (i := 3) rfl (fps_cons (i := 4) rfl fps_nil))))) hM2)
  · refine an_m_readCond_382_9   hQ N _ (eqo_tr (eqo_rf _) (fps_cons (i := 0) rfl (fps_cons (i := 1) rfl (fps_cons (i := 2) rfl (fps_cons (i := 3) rfl (fps_cons (i := 4) rfl fps_nil))))) hM2)
def fp_m_readAtom_381  : List (Nat × Nat × Option Nat) := [(190, 190, some 21), (190, 190, some 19), (202, 202, none), (190, 190, some 25), (190, 190, some 22)]
theorem an_m_readAtom_381  {N : Nat} {M : MM} {Q : Int32 → MM → Prop} (hQ : ∀ (r : Int32) (M1 : MM), Eqo fp_m_readAtom_381 M M1 → Q r M1) : W_m_readAtom_381  N M Q := by
  unfold W_m_readAtom_381
  refine an_m_sign (fun r1 M2 hM2 => ?_)
  refine ⟨fun _ => ?_, fun _ => ?_⟩
  · refine an_m_passes (fun r4 M5 hM5 => ?_)
    refine ⟨fun _ => ?_, fun _ => ?_⟩
    · refine an_m_passes (fun r7 M8 hM8 => ?_)
      refine ⟨fun _ => ?_, fun _ => ?_⟩
      · refine an_m_readSum (fun r10 M11 hM11 => ?_)
        refine ⟨fun _ => ?_, fun _ => ?_⟩
        · exact hQ _ _ (eqo_tr (eqo_tr (eqo_tr (eqo_tr (eqo_rf _) (fps_cons (i := 0) rfl (fps_cons (i := 1) rfl fps_nil)) hM2) (fps_cons (i := 0) rfl (fps_cons (i := 1) rfl fps_nil)) hM5) (fps_cons (i := 0) rfl (fps_cons (i := 1) rfl fps_nil)) hM8) (fps_cons (i := 0) rfl (fps_cons (i := 1) rfl (fps_cons (i := 2) rfl (fps_cons (i := 3) rfl fps_nil)))) hM11)
        · refine an_m_sign (fun r13 M14 hM14 => ?_)
          refine ⟨fun _ => ?_, fun _ => ?_⟩
          · refine an_m_sign (fun r16 M17 hM17 => ?_)
            refine ⟨fun _ => ?_, fun _ => ?_⟩
            · exact hQ _ _ (eqo_tr (eqo_tr (eqo_tr (eqo_tr (eqo_tr (eqo_tr (eqo_rf _) (fps_cons (i := 0) rfl (fps_cons (i := 1) rfl fps_nil)) hM2) (fps_cons (i := 0) rfl (fps_cons (i := 1) rfl fps_nil)) hM5) (fps_cons (i := 0) rfl (fps_cons (i := 1) rfl fps_nil)) hM8) (fps_cons (i := 0) rfl (fps_cons (i := 1) rfl (fps_cons (i := 2) rfl (fps_cons (i := 3) rfl fps_nil)))) hM11) (fps_cons (i := 0) rfl (fps_cons (i := 1) rfl fps_nil)) hM14) (fps_cons (i := 0) rfl (fps_cons (i := 1) rfl fps_nil)) hM17)
            · refine an_m_readSum (fun r19 M20 hM20 => ?_)
              refine ⟨fun _ => ?_, fun _ => ?_⟩
              · exact hQ _ _ (eqo_tr (eqo_tr (eqo_tr (eqo_tr (eqo_tr (eqo_tr (eqo_tr (eqo_rf _) (fps_cons (i := 0) rfl (fps_cons (i := 1) rfl fps_nil)) hM2) (fps_cons (i := 0) rfl (fps_cons (i := 1) rfl fps_nil)) hM5) (fps_cons (i := 0) rfl (fps_cons (i := 1) rfl fps_nil)) hM8) (fps_cons (i := 0) rfl (fps_cons (i := 1) rfl (fps_cons (i := 2) rfl (fps_cons (i := 3) rfl fps_nil)))) hM11) (fps_cons (i := 0) rfl (fps_cons (i := 1) rfl fps_nil)) hM14) (fps_cons (i := 0) rfl (fps_cons (i := 1) rfl fps_nil)) hM17) (fps_cons (i := 0) rfl (fps_cons (i := 1) rfl (fps_cons (i := 2) rfl (fps_cons (i := 3) rfl fps_nil)))) hM20)
              · refine ⟨fun _ => ?_, fun _ => ?_⟩
                · refine an_m_emits (fun M24 hM24 => ?_)
                  exact hQ _ _ (eqo_tr (eqo_tr (eqo_tr (eqo_tr (eqo_tr (eqo_tr (eqo_tr (eqo_tr (eqo_rf _) (fps_cons (i := 0) rfl (fps_cons (i := 1) rfl fps_nil)) hM2) (fps_cons (i := 0) rfl (fps_cons (i := 1) rfl fps_nil)) hM5) (fps_cons (i := 0) rfl (fps_cons (i := 1) rfl fps_nil)) hM8) (fps_cons (i := 0) rfl (fps_cons (i := 1) rfl (fps_cons (i := 2) rfl (fps_cons (i := 3) rfl fps_nil)))) hM11) (fps_cons (i := 0) rfl (fps_cons (i := 1) rfl fps_nil)) hM14) (fps_cons (i := 0) rfl (fps_cons (i := 1) rfl fps_nil)) hM17) (fps_cons (i := 0) rfl (fps_cons (i := 1) rfl (fps_cons (i := 2) rfl (fps_cons (i := 3) rfl fps_nil)))) hM20) (fps_cons (i := 2) rfl (fps_cons (i := 3) rfl fps_nil)) hM24)
                · refine an_m_emits (fun M26 hM26 => ?_)
                  exact hQ _ _ (eqo_tr (eqo_tr (eqo_tr (eqo_tr (eqo_tr (eqo_tr (eqo_tr (eqo_tr (eqo_rf _) (fps_cons (i := 0) rfl (fps_cons (i := 1) rfl fps_nil)) hM2) (fps_cons (i := 0) rfl (fps_cons (i := 1) rfl fps_nil)) hM5) (fps_cons (i := 0) rfl (fps_cons (i := 1) rfl fps_nil)) hM8) (fps_cons (i := 0) rfl (fps_cons (i := 1) rfl (fps_cons (i := 2) rfl (fps_cons (i := 3) rfl fps_nil)))) hM11) (fps_cons (i := 0) rfl (fps_cons (i := 1) rfl fps_nil)) hM14) (fps_cons (i := 0) rfl (fps_cons (i := 1) rfl fps_nil)) hM17) (fps_cons (i := 0) rfl (fps_cons (i := 1) rfl (fps_cons (i := 2) rfl (fps_cons (i := 3) rfl fps_nil)))) hM20) (fps_cons (i := 2) rfl (fps_cons (i := 3) rfl fps_nil)) hM26)
          · refine an_m_readSum (fun r27 M28 hM28 => ?_)
            refine ⟨fun _ => ?_, fun _ => ?_⟩
            · exact hQ _ _ (eqo_tr (eqo_tr (eqo_tr (eqo_tr (eqo_tr (eqo_tr (eqo_rf _) (fps_cons (i := 0) rfl (fps_cons (i := 1) rfl fps_nil)) hM2) (fps_cons (i := 0) rfl (fps_cons (i := 1) rfl fps_nil)) hM5) (fps_cons (i := 0) rfl (fps_cons (i := 1) rfl fps_nil)) hM8) (fps_cons (i := 0) rfl (fps_cons (i := 1) rfl (fps_cons (i := 2) rfl (fps_cons (i := 3) rfl fps_nil)))) hM11) (fps_cons (i := 0) rfl (fps_cons (i := 1) rfl fps_nil)) hM14) (fps_cons (i := 0) rfl (fps_cons (i := 1) rfl (fps_cons (i := 2) rfl (fps_cons (i := 3) rfl fps_nil)))) hM28)
            · refine ⟨fun _ => ?_, fun _ => ?_⟩
              · refine an_m_emits (fun M32 hM32 => ?_)
                exact hQ _ _ (eqo_tr (eqo_tr (eqo_tr (eqo_tr (eqo_tr (eqo_tr (eqo_tr (eqo_rf _) (fps_cons (i := 0) rfl (fps_cons (i := 1) rfl fps_nil)) hM2) (fps_cons (i := 0) rfl (fps_cons (i := 1) rfl fps_nil)) hM5) (fps_cons (i := 0) rfl (fps_cons (i := 1) rfl fps_nil)) hM8) (fps_cons (i := 0) rfl (fps_cons (i := 1) rfl (fps_cons (i := 2) rfl (fps_cons (i := 3) rfl fps_nil)))) hM11) (fps_cons (i := 0) rfl (fps_cons (i := 1) rfl fps_nil)) hM14) (fps_cons (i := 0) rfl (fps_cons (i := 1) rfl (fps_cons (i := 2) rfl (fps_cons (i := 3) rfl fps_nil)))) hM28) (fps_cons (i := 2) rfl (fps_cons (i := 3) rfl fps_nil)) hM32)
              · refine an_m_emits (fun M34 hM34 => ?_)
                exact hQ _ _ (eqo_tr (eqo_tr (eqo_tr (eqo_tr (eqo_tr (eqo_tr (eqo_tr (eqo_rf _) (fps_cons (i := 0) rfl (fps_cons (i := 1) rfl fps_nil)) hM2) (fps_cons (i := 0) rfl (fps_cons (i := 1) rfl fps_nil)) hM5) (fps_cons (i := 0) rfl (fps_cons (i := 1) rfl fps_nil)) hM8) (fps_cons (i := 0) rfl (fps_cons (i := 1) rfl (fps_cons (i := 2) rfl (fps_cons (i := 3) rfl fps_nil)))) hM11) (fps_cons (i := 0) rfl (fps_cons (i := 1) rfl fps_nil)) hM14) (fps_cons (i := 0) rfl (fps_cons (i := 1) rfl (fps_cons (i := 2) rfl (fps_cons (i := 3) rfl fps_nil)))) hM28) (fps_cons (i := 2) rfl (fps_cons (i := 3) rfl fps_nil)) hM34)
      · refine an_m_emits (fun M36 hM36 => ?_)
        exact hQ _ _ (eqo_tr (eqo_tr (eqo_tr (eqo_tr (eqo_rf _) (fps_cons (i := 0) rfl (fps_cons (i := 1) rfl fps_nil)) hM2) (fps_cons (i := 0) rfl (fps_cons (i := 1) rfl fps_nil)) hM5) (fps_cons (i := 0) rfl (fps_cons (i := 1) rfl fps_nil)) hM8) (fps_cons (i := 2) rfl (fps_cons (i := 3) rfl fps_nil)) hM36)
    · refine ⟨fun _ => ?_, fun _ => ?_⟩
      · exact hQ _ _ (eqo_tr (eqo_tr (eqo_rf _) (fps_cons (i := 0) rfl (fps_cons (i := 1) rfl fps_nil)) hM2) (fps_cons (i := 0) rfl (fps_cons (i := 1) rfl fps_nil)) hM5)
      · refine an_m_readAtom_384 (fun r38 M39 hM39 => ?_)
        refine ⟨fun _ => ?_, fun _ => ?_⟩
        · exact hQ _ _ (eqo_tr (eqo_wi (eqo_tr (eqo_tr (eqo_rf _) (fps_cons (i := 0) rfl (fps_cons (i := 1) rfl fps_nil)) hM2) (fps_cons (i := 0) rfl (fps_cons (i := 1) rfl fps_nil)) hM5) (i := 4) rfl (Or.inr rfl)) (fps_cons (i := 0) rfl (fps_cons (i := 1) rfl (fps_cons (i := 2) rfl (fps_cons (i := 3) rfl (fps_cons (i := 4) rfl fps_nil))))) hM39)
        · refine an_m_emits (fun M42 hM42 => ?_)
          exact hQ _ _ (eqo_tr (eqo_wi (eqo_tr (eqo_wi (eqo_tr (eqo_tr (eqo_rf _) (fps_cons (i := 0) rfl (fps_cons (i := 1) rfl fps_nil)) hM2) (fps_cons (i := 0) rfl (fps_cons (i := 1) rfl fps_nil)) hM5) (i := 4) rfl (Or.inr rfl)) (fps_cons (i := 0) rfl (fps_cons (i := 1) rfl (fps_cons (i := 2) rfl (fps_cons (i := 3) rfl (fps_cons (i := 4) rfl fps_nil))))) hM39) (i := 4) rfl (Or.inr rfl)) (fps_cons (i := 2) rfl (fps_cons (i := 3) rfl fps_nil)) hM42)
  · refine ⟨fun _ => ?_, fun _ => ?_⟩
    · exact hQ _ _ (eqo_tr (eqo_rf _) (fps_cons (i := 0) rfl (fps_cons (i := 1) rfl fps_nil)) hM2)
    · refine an_m_readCond_382 (fun r44 M45 hM45 => ?_)
      refine ⟨fun _ => ?_, fun _ => ?_⟩
      · exact hQ _ _ (eqo_tr (eqo_wi (eqo_tr (eqo_rf _) (fps_cons (i := 0) rfl (fps_cons (i := 1) rfl fps_nil)) hM2) (i := 4) rfl (Or.inr rfl)) (fps_cons (i := 0) rfl (fps_cons (i := 1) rfl (fps_cons (i := 2) rfl (fps_cons (i := 3) rfl (fps_cons (i := 4) rfl fps_nil))))) hM45)
      · refine an_m_sign (fun r47 M48 hM48 => ?_)
        exact hQ _ _ (eqo_tr (eqo_wi (eqo_tr (eqo_wi (eqo_tr (eqo_rf _) (fps_cons (i := 0) rfl (fps_cons (i := 1) rfl fps_nil)) hM2) (i := 4) rfl (Or.inr rfl)) (fps_cons (i := 0) rfl (fps_cons (i := 1) rfl (fps_cons (i := 2) rfl (fps_cons (i := 3) rfl (fps_cons (i := 4) rfl fps_nil))))) hM45) (i := 4) rfl (Or.inr rfl)) (fps_cons (i := 0) rfl (fps_cons (i := 1) rfl fps_nil)) hM48)
def fp_m_readAllOf_380  : List (Nat × Nat × Option Nat) := [(190, 190, some 21), (190, 190, some 19), (202, 202, none), (190, 190, some 25), (190, 190, some 22)]
theorem an_m_readAllOf_380_9 {M0 : MM} {Q : Int32 → MM → Prop} (hQ : ∀ (r : Int32) (M1 : MM), Eqo fp_m_readAllOf_380 M0 M1 → Q r M1) : ∀ (N : Nat) (M : MM), Eqo fp_m_readAllOf_380 M0 M → W_m_readAllOf_380_9 Q N M := by
  refine I_m_readAllOf_380_9 Q (fun M => Eqo fp_m_readAllOf_380 M0 M) (fun N ih M hih hM => ?_)
  unfold B_m_readAllOf_380_9
  refine an_m_passes (fun r4 M5 hM5 => ?_)
  refine ⟨fun _ => ?_, fun _ => ?_⟩
  · exact hQ _ _ (eqo_tr hM (fps_cons (i := 0) rfl (fps_cons (i := 1) rfl fps_nil)) hM5)
  · refine an_m_readAtom_381 (fun r7 M8 hM8 => ?_)
    refine ⟨fun _ => ?_, fun _ => ?_⟩
    · exact hQ _ _ (eqo_tr (eqo_tr hM (fps_cons (i := 0) rfl (fps_cons (i := 1) rfl fps_nil)) hM5) (fps_cons (i := 0) rfl (fps_cons (i := 1) rfl (fps_cons (i := 2) rfl (fps_cons (i := 3) rfl (fps_cons (i := 4) rfl fps_nil))))) hM8)
    · refine an_m_emits (fun M11 hM11 => ?_)
      exact hih _ (eqo_tr (eqo_tr (eqo_tr hM (fps_cons (i := 0) rfl (fps_cons (i := 1) rfl fps_nil)) hM5) (fps_cons (i := 0) rfl (fps_cons (i := 1) rfl (fps_cons (i := 2) rfl (fps_cons (i := 3) rfl (fps_cons (i := 4) rfl fps_nil))))) hM8) (fps_cons (i := 2) rfl (fps_cons (i := 3) rfl fps_nil)) hM11)
theorem an_m_readAllOf_380  {N : Nat} {M : MM} {Q : Int32 → MM → Prop} (hQ : ∀ (r : Int32) (M1 : MM), Eqo fp_m_readAllOf_380 M M1 → Q r M1) : W_m_readAllOf_380  N M Q := by
  unfold W_m_readAllOf_380
  refine an_m_readAtom_381 (fun r1 M2 hM2 => ?_)
  refine ⟨fun _ => ?_, fun _ => ?_⟩
  · exact hQ _ _ (eqo_tr (eqo_rf _) (fps_cons (i := 0) rfl (fps_cons (i := 1) rfl (fps_cons (i := 2) rfl (fps_cons (i := 3) rfl (fps_cons (i := 4) rfl fps_nil))))) hM2)
  · refine an_m_readAllOf_380_9   hQ N _ (eqo_tr (eqo_rf _) (fps_cons (i := 0) rfl (fps_cons (i := 1) rfl (fps_cons (i := 2) rfl (fps_cons (i := 3) rfl (fps_cons (i := 4) rfl fps_nil))))) hM2)
def fp_m_readCond_379  : List (Nat × Nat × Option Nat) := [(190, 190, some 21), (190, 190, some 19), (202, 202, none), (190, 190, some 25), (190, 190, some 22)]
theorem an_m_readCond_379_9 {M0 : MM} {Q : Int32 → MM → Prop} (hQ : ∀ (r : Int32) (M1 : MM), Eqo fp_m_readCond_379 M0 M1 → Q r M1) : ∀ (N : Nat) (M : MM), Eqo fp_m_readCond_379 M0 M → W_m_readCond_379_9 Q N M := by
  refine I_m_readCond_379_9 Q (fun M => Eqo fp_m_readCond_379 M0 M) (fun N ih M hih hM => ?_)
  unfold B_m_readCond_379_9
  refine an_m_passes (fun r4 M5 hM5 => ?_)
  refine ⟨fun _ => ?_, fun _ => ?_⟩
  · exact hQ _ _ (eqo_tr hM (fps_cons (i := 0) rfl (fps_cons (i := 1) rfl fps_nil)) hM5)
  · refine an_m_readAllOf_380 (fun r7 M8 hM8 => ?_)
    refine ⟨fun _ => ?_, fun _ => ?_⟩
    · exact hQ _ _ (eqo_tr (eqo_tr hM (fps_cons (i := 0) rfl (fps_cons (i := 1) rfl fps_nil)) hM5) (fps_cons (i := 0) rfl (fps_cons (i := 1) rfl (fps_cons (i := 2) rfl (fps_cons (i := 3) rfl (fps_cons (i := 4) rfl fps_nil))))) hM8)
    · refine an_m_emits (fun M11 hM11 => ?_)
      exact hih _ (eqo_tr (eqo_tr (eqo_tr hM (fps_cons (i := 0) rfl (fps_cons (i := 1) rfl fps_nil)) hM5) (fps_cons (i := 0) rfl (fps_cons (i := 1) rfl (fps_cons (i := 2) rfl (fps_cons (i := 3) rfl (fps_cons (i := 4) rfl fps_nil))))) hM8) (fps_cons (i := 2) rfl (fps_cons (i := 3) rfl fps_nil)) hM11)
theorem an_m_readCond_379  {N : Nat} {M : MM} {Q : Int32 → MM → Prop} (hQ : ∀ (r : Int32) (M1 : MM), Eqo fp_m_readCond_379 M M1 → Q r M1) : W_m_readCond_379  N M Q := by
  unfold W_m_readCond_379
  refine an_m_readAllOf_380 (fun r1 M2 hM2 => ?_)
  refine ⟨fun _ => ?_, fun _ => ?_⟩
  · exact hQ _ _ (eqo_tr (eqo_rf _) (fps_cons (i := 0) rfl (fps_cons (i := 1) rfl (fps_cons (i := 2) rfl (fps_cons (i := 3) rfl (fps_cons (i := 4) rfl fps_nil))))) hM2)
  · refine an_m_readCond_379_9   hQ N _ (eqo_tr (eqo_rf _) (fps_cons (i := 0) rfl (fps_cons (i := 1) rfl (fps_cons (i := 2) rfl (fps_cons (i := 3) rfl (fps_cons (i := 4) rfl fps_nil))))) hM2)
def fp_m_readAtom_378  : List (Nat × Nat × Option Nat) := [(190, 190, some 21), (190, 190, some 19), (202, 202, none), (190, 190, some 25), (190, 190, some 22)]
theorem an_m_readAtom_378  {N : Nat} {M : MM} {Q : Int32 → MM → Prop} (hQ : ∀ (r : Int32) (M1 : MM), Eqo fp_m_readAtom_378 M M1 → Q r M1) : W_m_readAtom_378  N M Q := by
  unfold W_m_readAtom_378
  refine an_m_sign (fun r1 M2 hM2 => ?_)
  refine ⟨fun _ => ?_, fun _ => ?_⟩
  · refine an_m_passes (fun r4 M5 hM5 => ?_)
    refine ⟨fun _ => ?_, fun _ => ?_⟩
    · refine an_m_passes (fun r7 M8 hM8 => ?_)
      refine ⟨fun _ => ?_, fun _ => ?_⟩
      · refine an_m_readSum (fun r10 M11 hM11 => ?_)
        refine ⟨fun _ => ?_, fun _ => ?_⟩
        · exact hQ _ _ (eqo_tr (eqo_tr (eqo_tr (eqo_tr (eqo_rf _) (fps_cons (i := 0) rfl (fps_cons (i := 1) rfl fps_nil)) hM2) (fps_cons (i := 0) rfl (fps_cons (i := 1) rfl fps_nil)) hM5) (fps_cons (i := 0) rfl (fps_cons (i := 1) rfl fps_nil)) hM8) (fps_cons (i := 0) rfl (fps_cons (i := 1) rfl (fps_cons (i := 2) rfl (fps_cons (i := 3) rfl fps_nil)))) hM11)
        · refine an_m_sign (fun r13 M14 hM14 => ?_)
          refine ⟨fun _ => ?_, fun _ => ?_⟩
          · refine an_m_sign (fun r16 M17 hM17 => ?_)
            refine ⟨fun _ => ?_, fun _ => ?_⟩
            · exact hQ _ _ (eqo_tr (eqo_tr (eqo_tr (eqo_tr (eqo_tr (eqo_tr (eqo_rf _) (fps_cons (i := 0) rfl (fps_cons (i := 1) rfl fps_nil)) hM2) (fps_cons (i := 0) rfl (fps_cons (i := 1) rfl fps_nil)) hM5) (fps_cons (i := 0) rfl (fps_cons (i := 1) rfl fps_nil)) hM8) (fps_cons (i := 0) rfl (fps_cons (i := 1) rfl (fps_cons (i := 2) rfl (fps_cons (i := 3) rfl fps_nil)))) hM11) (fps_cons (i := 0) rfl (fps_cons (i := 1) rfl fps_nil)) hM14) (fps_cons (i := 0) rfl (fps_cons (i := 1) rfl fps_nil)) hM17)
            · refine an_m_readSum (fun r19 M20 hM20 => ?_)
              refine ⟨fun _ => ?_, fun _ => ?_⟩
              · exact hQ _ _ (eqo_tr (eqo_tr (eqo_tr (eqo_tr (eqo_tr (eqo_tr (eqo_tr (eqo_rf _) (fps_cons (i := 0) rfl (fps_cons (i := 1) rfl fps_nil)) hM2) (fps_cons (i := 0) rfl (fps_cons (i := 1) rfl fps_nil)) hM5) (fps_cons (i := 0) rfl (fps_cons (i := 1) rfl fps_nil)) hM8) (fps_cons (i := 0) rfl (fps_cons (i := 1) rfl (fps_cons (i := 2) rfl (fps_cons (i := 3) rfl fps_nil)))) hM11) (fps_cons (i := 0) rfl (fps_cons (i := 1) rfl fps_nil)) hM14) (fps_cons (i := 0) rfl (fps_cons (i := 1) rfl fps_nil)) hM17) (fps_cons (i := 0) rfl (fps_cons (i := 1) rfl (fps_cons (i := 2) rfl (fps_cons (i := 3) rfl fps_nil)))) hM20)
              · refine ⟨fun _ => ?_, fun _ => ?_⟩
                · refine an_m_emits (fun M24 hM24 => ?_)
                  exact hQ _ _ (eqo_tr (eqo_tr (eqo_tr (eqo_tr (eqo_tr (eqo_tr (eqo_tr (eqo_tr (eqo_rf _) (fps_cons (i := 0) rfl (fps_cons (i := 1) rfl fps_nil)) hM2) (fps_cons (i := 0) rfl (fps_cons (i := 1) rfl fps_nil)) hM5) (fps_cons (i := 0) rfl (fps_cons (i := 1) rfl fps_nil)) hM8) (fps_cons (i := 0) rfl (fps_cons (i := 1) rfl (fps_cons (i := 2) rfl (fps_cons (i := 3) rfl fps_nil)))) hM11) (fps_cons (i := 0) rfl (fps_cons (i := 1) rfl fps_nil)) hM14) (fps_cons (i := 0) rfl (fps_cons (i := 1) rfl fps_nil)) hM17) (fps_cons (i := 0) rfl (fps_cons (i := 1) rfl (fps_cons (i := 2) rfl (fps_cons (i := 3) rfl fps_nil)))) hM20) (fps_cons (i := 2) rfl (fps_cons (i := 3) rfl fps_nil)) hM24)
                · refine an_m_emits (fun M26 hM26 => ?_)
                  exact hQ _ _ (eqo_tr (eqo_tr (eqo_tr (eqo_tr (eqo_tr (eqo_tr (eqo_tr (eqo_tr (eqo_rf _) (fps_cons (i := 0) rfl (fps_cons (i := 1) rfl fps_nil)) hM2) (fps_cons (i := 0) rfl (fps_cons (i := 1) rfl fps_nil)) hM5) (fps_cons (i := 0) rfl (fps_cons (i := 1) rfl fps_nil)) hM8) (fps_cons (i := 0) rfl (fps_cons (i := 1) rfl (fps_cons (i := 2) rfl (fps_cons (i := 3) rfl fps_nil)))) hM11) (fps_cons (i := 0) rfl (fps_cons (i := 1) rfl fps_nil)) hM14) (fps_cons (i := 0) rfl (fps_cons (i := 1) rfl fps_nil)) hM17) (fps_cons (i := 0) rfl (fps_cons (i := 1) rfl (fps_cons (i := 2) rfl (fps_cons (i := 3) rfl fps_nil)))) hM20) (fps_cons (i := 2) rfl (fps_cons (i := 3) rfl fps_nil)) hM26)
          · refine an_m_readSum (fun r27 M28 hM28 => ?_)
            refine ⟨fun _ => ?_, fun _ => ?_⟩
            · exact hQ _ _ (eqo_tr (eqo_tr (eqo_tr (eqo_tr (eqo_tr (eqo_tr (eqo_rf _) (fps_cons (i := 0) rfl (fps_cons (i := 1) rfl fps_nil)) hM2) (fps_cons (i := 0) rfl (fps_cons (i := 1) rfl fps_nil)) hM5) (fps_cons (i := 0) rfl (fps_cons (i := 1) rfl fps_nil)) hM8) (fps_cons (i := 0) rfl (fps_cons (i := 1) rfl (fps_cons (i := 2) rfl (fps_cons (i := 3) rfl fps_nil)))) hM11) (fps_cons (i := 0) rfl (fps_cons (i := 1) rfl fps_nil)) hM14) (fps_cons (i := 0) rfl (fps_cons (i := 1) rfl (fps_cons (i := 2) rfl (fps_cons (i := 3) rfl fps_nil)))) hM28)
            · refine ⟨fun _ => ?_, fun _ => ?_⟩
              · refine an_m_emits (fun M32 hM32 => ?_)
                exact hQ _ _ (eqo_tr (eqo_tr (eqo_tr (eqo_tr (eqo_tr (eqo_tr (eqo_tr (eqo_rf _) (fps_cons (i := 0) rfl (fps_cons (i := 1) rfl fps_nil)) hM2) (fps_cons (i := 0) rfl (fps_cons (i := 1) rfl fps_nil)) hM5) (fps_cons (i := 0) rfl (fps_cons (i := 1) rfl fps_nil)) hM8) (fps_cons (i := 0) rfl (fps_cons (i := 1) rfl (fps_cons (i := 2) rfl (fps_cons (i := 3) rfl fps_nil)))) hM11) (fps_cons (i := 0) rfl (fps_cons (i := 1) rfl fps_nil)) hM14) (fps_cons (i := 0) rfl (fps_cons (i := 1) rfl (fps_cons (i := 2) rfl (fps_cons (i := 3) rfl fps_nil)))) hM28) (fps_cons (i := 2) rfl (fps_cons (i := 3) rfl fps_nil)) hM32)
              · refine an_m_emits (fun M34 hM34 => ?_)
                exact hQ _ _ (eqo_tr (eqo_tr (eqo_tr (eqo_tr (eqo_tr (eqo_tr (eqo_tr (eqo_rf _) (fps_cons (i := 0) rfl (fps_cons (i := 1) rfl fps_nil)) hM2) (fps_cons (i := 0) rfl (fps_cons (i := 1) rfl fps_nil)) hM5) (fps_cons (i := 0) rfl (fps_cons (i := 1) rfl fps_nil)) hM8) (fps_cons (i := 0) rfl (fps_cons (i := 1) rfl (fps_cons (i := 2) rfl (fps_cons (i := 3) rfl fps_nil)))) hM11) (fps_cons (i := 0) rfl (fps_cons (i := 1) rfl fps_nil)) hM14) (fps_cons (i := 0) rfl (fps_cons (i := 1) rfl (fps_cons (i := 2) rfl (fps_cons (i := 3) rfl fps_nil)))) hM28) (fps_cons (i := 2) rfl (fps_cons (i := 3) rfl fps_nil)) hM34)
      · refine an_m_emits (fun M36 hM36 => ?_)
        exact hQ _ _ (eqo_tr (eqo_tr (eqo_tr (eqo_tr (eqo_rf _) (fps_cons (i := 0) rfl (fps_cons (i := 1) rfl fps_nil)) hM2) (fps_cons (i := 0) rfl (fps_cons (i := 1) rfl fps_nil)) hM5) (fps_cons (i := 0) rfl (fps_cons (i := 1) rfl fps_nil)) hM8) (fps_cons (i := 2) rfl (fps_cons (i := 3) rfl fps_nil)) hM36)
    · refine ⟨fun _ => ?_, fun _ => ?_⟩
      · exact hQ _ _ (eqo_tr (eqo_tr (eqo_rf _) (fps_cons (i := 0) rfl (fps_cons (i := 1) rfl fps_nil)) hM2) (fps_cons (i := 0) rfl (fps_cons (i := 1) rfl fps_nil)) hM5)
      · refine an_m_readAtom_381 (fun r38 M39 hM39 => ?_)
        refine ⟨fun _ => ?_, fun _ => ?_⟩
        · exact hQ _ _ (eqo_tr (eqo_wi (eqo_tr (eqo_tr (eqo_rf _) (fps_cons (i := 0) rfl (fps_cons (i := 1) rfl fps_nil)) hM2) (fps_cons (i := 0) rfl (fps_cons (i := 1) rfl fps_nil)) hM5) (i := 4) rfl (Or.inr rfl)) (fps_cons (i := 0) rfl (fps_cons (i := 1) rfl (fps_cons (i := 2) rfl (fps_cons (i := 3) rfl (fps_cons (i := 4) rfl fps_nil))))) hM39)
        · refine an_m_emits (fun M42 hM42 => ?_)
          exact hQ _ _ (eqo_tr (eqo_wi (eqo_tr (eqo_wi (eqo_tr (eqo_tr (eqo_rf _) (fps_cons (i := 0) rfl (fps_cons (i := 1) rfl fps_nil)) hM2) (fps_cons (i := 0) rfl (fps_cons (i := 1) rfl fps_nil)) hM5) (i := 4) rfl (Or.inr rfl)) (fps_cons (i := 0) rfl (fps_cons (i := 1) rfl (fps_cons (i := 2) rfl (fps_cons (i := 3) rfl (fps_cons (i := 4) rfl fps_nil))))) hM39) (i := 4) rfl (Or.inr rfl)) (fps_cons (i := 2) rfl (fps_cons (i := 3) rfl fps_nil)) hM42)
  · refine ⟨fun _ => ?_, fun _ => ?_⟩
    · exact hQ _ _ (eqo_tr (eqo_rf _) (fps_cons (i := 0) rfl (fps_cons (i := 1) rfl fps_nil)) hM2)
    · refine an_m_readCond_379 (fun r44 M45 hM45 => ?_)
      refine ⟨fun _ => ?_, fun _ => ?_⟩
      · exact hQ _ _ (eqo_tr (eqo_wi (eqo_tr (eqo_rf _) (fps_cons (i := 0) rfl (fps_cons (i := 1) rfl fps_nil)) hM2) (i := 4) rfl (Or.inr rfl)) (fps_cons (i := 0) rfl (fps_cons (i := 1) rfl (fps_cons (i := 2) rfl (fps_cons (i := 3) rfl (fps_cons (i := 4) rfl fps_nil))))) hM45)
      · refine an_m_sign (fun r47 M48 hM48 => ?_)
        exact hQ _ _ (eqo_tr (eqo_wi (eqo_tr (eqo_wi (eqo_tr (eqo_rf _) (fps_cons (i := 0) rfl (fps_cons (i := 1) rfl fps_nil)) hM2) (i := 4) rfl (Or.inr rfl)) (fps_cons (i := 0) rfl (fps_cons (i := 1) rfl (fps_cons (i := 2) rfl (fps_cons (i := 3) rfl (fps_cons (i := 4) rfl fps_nil))))) hM45) (i := 4) rfl (Or.inr rfl)) (fps_cons (i := 0) rfl (fps_cons (i := 1) rfl fps_nil)) hM48)
def fp_m_readAllOf_377  : List (Nat × Nat × Option Nat) := [(190, 190, some 21), (190, 190, some 19), (202, 202, none), (190, 190, some 25), (190, 190, some 22)]
theorem an_m_readAllOf_377_9 {M0 : MM} {Q : Int32 → MM → Prop} (hQ : ∀ (r : Int32) (M1 : MM), Eqo fp_m_readAllOf_377 M0 M1 → Q r M1) : ∀ (N : Nat) (M : MM), Eqo fp_m_readAllOf_377 M0 M → W_m_readAllOf_377_9 Q N M := by
  refine I_m_readAllOf_377_9 Q (fun M => Eqo fp_m_readAllOf_377 M0 M) (fun N ih M hih hM => ?_)
  unfold B_m_readAllOf_377_9
  refine an_m_passes (fun r4 M5 hM5 => ?_)
  refine ⟨fun _ => ?_, fun _ => ?_⟩
  · exact hQ _ _ (eqo_tr hM (fps_cons (i := 0) rfl (fps_cons (i := 1) rfl fps_nil)) hM5)
  · refine an_m_readAtom_378 (fun r7 M8 hM8 => ?_)
    refine ⟨fun _ => ?_, fun _ => ?_⟩
    · exact hQ _ _ (eqo_tr (eqo_tr hM (fps_cons (i := 0) rfl (fps_cons (i := 1) rfl fps_nil)) hM5) (fps_cons (i := 0) rfl (fps_cons (i := 1) rfl (fps_cons (i := 2) rfl (fps_cons (i := 3) rfl (fps_cons (i := 4) rfl fps_nil))))) hM8)
    · refine an_m_emits (fun M11 hM11 => ?_)
      exact hih _ (eqo_tr (eqo_tr (eqo_tr hM (fps_cons (i := 0) rfl (fps_cons (i := 1) rfl fps_nil)) hM5) (fps_cons (i := 0) rfl (fps_cons (i := 1) rfl (fps_cons (i := 2) rfl (fps_cons (i := 3) rfl (fps_cons (i := 4) rfl fps_nil))))) hM8) (fps_cons (i := 2) rfl (fps_cons (i := 3) rfl fps_nil)) hM11)
theorem an_m_readAllOf_377  {N : Nat} {M : MM} {Q : Int32 → MM → Prop} (hQ : ∀ (r : Int32) (M1 : MM), Eqo fp_m_readAllOf_377 M M1 → Q r M1) : W_m_readAllOf_377  N M Q := by
  unfold W_m_readAllOf_377
  refine an_m_readAtom_378 (fun r1 M2 hM2 => ?_)
  refine ⟨fun _ => ?_, fun _ => ?_⟩
  · exact hQ _ _ (eqo_tr (eqo_rf _) (fps_cons (i := 0) rfl (fps_cons (i := 1) rfl (fps_cons (i := 2) rfl (fps_cons (i := 3) rfl (fps_cons (i := 4) rfl fps_nil))))) hM2)
  · refine an_m_readAllOf_377_9   hQ N _ (eqo_tr (eqo_rf _) (fps_cons (i := 0) rfl (fps_cons (i := 1) rfl (fps_cons (i := 2) rfl (fps_cons (i := 3) rfl (fps_cons (i := 4) rfl fps_nil))))) hM2)
def fp_m_readCond_376  : List (Nat × Nat × Option Nat) := [(190, 190, some 21), (190, 190, some 19), (202, 202, none), (190, 190, some 25), (190, 190, some 22)]
theorem an_m_readCond_376_9 {M0 : MM} {Q : Int32 → MM → Prop} (hQ : ∀ (r : Int32) (M1 : MM), Eqo fp_m_readCond_376 M0 M1 → Q r M1) : ∀ (N : Nat) (M : MM), Eqo fp_m_readCond_376 M0 M → W_m_readCond_376_9 Q N M := by
  refine I_m_readCond_376_9 Q (fun M => Eqo fp_m_readCond_376 M0 M) (fun N ih M hih hM => ?_)
  unfold B_m_readCond_376_9
  refine an_m_passes (fun r4 M5 hM5 => ?_)
  refine ⟨fun _ => ?_, fun _ => ?_⟩
  · exact hQ _ _ (eqo_tr hM (fps_cons (i := 0) rfl (fps_cons (i := 1) rfl fps_nil)) hM5)
  · refine an_m_readAllOf_377 (fun r7 M8 hM8 => ?_)
    refine ⟨fun _ => ?_, fun _ => ?_⟩
    · exact hQ _ _ (eqo_tr (eqo_tr hM (fps_cons (i := 0) rfl (fps_cons (i := 1) rfl fps_nil)) hM5) (fps_cons (i := 0) rfl (fps_cons (i := 1) rfl (fps_cons (i := 2) rfl (fps_cons (i := 3) rfl (fps_cons (i := 4) rfl fps_nil))))) hM8)
    · refine an_m_emits (fun M11 hM11 => ?_)
      exact hih _ (eqo_tr (eqo_tr (eqo_tr hM (fps_cons (i := 0) rfl (fps_cons (i := 1) rfl fps_nil)) hM5) (fps_cons (i := 0) rfl (fps_cons (i := 1) rfl (fps_cons (i := 2) rfl (fps_cons (i := 3) rfl (fps_cons (i := 4) rfl fps_nil))))) hM8) (fps_cons (i := 2) rfl (fps_cons (i := 3) rfl fps_nil)) hM11)
theorem an_m_readCond_376  {N : Nat} {M : MM} {Q : Int32 → MM → Prop} (hQ : ∀ (r : Int32) (M1 : MM), Eqo fp_m_readCond_376 M M1 → Q r M1) : W_m_readCond_376  N M Q := by
  unfold W_m_readCond_376
  refine an_m_readAllOf_377 (fun r1 M2 hM2 => ?_)
  refine ⟨fun _ => ?_, fun _ => ?_⟩
  · exact hQ _ _ (eqo_tr (eqo_rf _) (fps_cons (i := 0) rfl (fps_cons (i := 1) rfl (fps_cons (i := 2) rfl (fps_cons (i := 3) rfl (fps_cons (i := 4) rfl fps_nil))))) hM2)
  · refine an_m_readCond_376_9   hQ N _ (eqo_tr (eqo_rf _) (fps_cons (i := 0) rfl (fps_cons (i := 1) rfl (fps_cons (i := 2) rfl (fps_cons (i := 3) rfl (fps_cons (i := 4) rfl fps_nil))))) hM2)
def fp_m_readAtom_375  : List (Nat × Nat × Option Nat) := [(190, 190, some 21), (190, 190, some 19), (202, 202, none), (190, 190, some 25), (190, 190, some 22)]
theorem an_m_readAtom_375  {N : Nat} {M : MM} {Q : Int32 → MM → Prop} (hQ : ∀ (r : Int32) (M1 : MM), Eqo fp_m_readAtom_375 M M1 → Q r M1) : W_m_readAtom_375  N M Q := by
  unfold W_m_readAtom_375
  refine an_m_sign (fun r1 M2 hM2 => ?_)
  refine ⟨fun _ => ?_, fun _ => ?_⟩
  · refine an_m_passes (fun r4 M5 hM5 => ?_)
    refine ⟨fun _ => ?_, fun _ => ?_⟩
    · refine an_m_passes (fun r7 M8 hM8 => ?_)
      refine ⟨fun _ => ?_, fun _ => ?_⟩
      · refine an_m_readSum (fun r10 M11 hM11 => ?_)
        refine ⟨fun _ => ?_, fun _ => ?_⟩
        · exact hQ _ _ (eqo_tr (eqo_tr (eqo_tr (eqo_tr (eqo_rf _) (fps_cons (i := 0) rfl (fps_cons (i := 1) rfl fps_nil)) hM2) (fps_cons (i := 0) rfl (fps_cons (i := 1) rfl fps_nil)) hM5) (fps_cons (i := 0) rfl (fps_cons (i := 1) rfl fps_nil)) hM8) (fps_cons (i := 0) rfl (fps_cons (i := 1) rfl (fps_cons (i := 2) rfl (fps_cons (i := 3) rfl fps_nil)))) hM11)
        · refine an_m_sign (fun r13 M14 hM14 => ?_)
          refine ⟨fun _ => ?_, fun _ => ?_⟩
          · refine an_m_sign (fun r16 M17 hM17 => ?_)
            refine ⟨fun _ => ?_, fun _ => ?_⟩
            · exact hQ _ _ (eqo_tr (eqo_tr (eqo_tr (eqo_tr (eqo_tr (eqo_tr (eqo_rf _) (fps_cons (i := 0) rfl (fps_cons (i := 1) rfl fps_nil)) hM2) (fps_cons (i := 0) rfl (fps_cons (i := 1) rfl fps_nil)) hM5) (fps_cons (i := 0) rfl (fps_cons (i := 1) rfl fps_nil)) hM8) (fps_cons (i := 0) rfl (fps_cons (i := 1) rfl (fps_cons (i := 2) rfl (fps_cons (i := 3) rfl fps_nil)))) hM11) (fps_cons (i := 0) rfl (fps_cons (i := 1) rfl fps_nil)) hM14) (fps_cons (i := 0) rfl (fps_cons (i := 1) rfl fps_nil)) hM17)
            · refine an_m_readSum (fun r19 M20 hM20 => ?_)
              refine ⟨fun _ => ?_, fun _ => ?_⟩
              · exact hQ _ _ (eqo_tr (eqo_tr (eqo_tr (eqo_tr (eqo_tr (eqo_tr (eqo_tr (eqo_rf _) (fps_cons (i := 0) rfl (fps_cons (i := 1) rfl fps_nil)) hM2) (fps_cons (i := 0) rfl (fps_cons (i := 1) rfl fps_nil)) hM5) (fps_cons (i := 0) rfl (fps_cons (i := 1) rfl fps_nil)) hM8) (fps_cons (i := 0) rfl (fps_cons (i := 1) rfl (fps_cons (i := 2) rfl (fps_cons (i := 3) rfl fps_nil)))) hM11) (fps_cons (i := 0) rfl (fps_cons (i := 1) rfl fps_nil)) hM14) (fps_cons (i := 0) rfl (fps_cons (i := 1) rfl fps_nil)) hM17) (fps_cons (i := 0) rfl (fps_cons (i := 1) rfl (fps_cons (i := 2) rfl (fps_cons (i := 3) rfl fps_nil)))) hM20)
              · refine ⟨fun _ => ?_, fun _ => ?_⟩
                · refine an_m_emits (fun M24 hM24 => ?_)
                  exact hQ _ _ (eqo_tr (eqo_tr (eqo_tr (eqo_tr (eqo_tr (eqo_tr (eqo_tr (eqo_tr (eqo_rf _) (fps_cons (i := 0) rfl (fps_cons (i := 1) rfl fps_nil)) hM2) (fps_cons (i := 0) rfl (fps_cons (i := 1) rfl fps_nil)) hM5) (fps_cons (i := 0) rfl (fps_cons (i := 1) rfl fps_nil)) hM8) (fps_cons (i := 0) rfl (fps_cons (i := 1) rfl (fps_cons (i := 2) rfl (fps_cons (i := 3) rfl fps_nil)))) hM11) (fps_cons (i := 0) rfl (fps_cons (i := 1) rfl fps_nil)) hM14) (fps_cons (i := 0) rfl (fps_cons (i := 1) rfl fps_nil)) hM17) (fps_cons (i := 0) rfl (fps_cons (i := 1) rfl (fps_cons (i := 2) rfl (fps_cons (i := 3) rfl fps_nil)))) hM20) (fps_cons (i := 2) rfl (fps_cons (i := 3) rfl fps_nil)) hM24)
                · refine an_m_emits (fun M26 hM26 => ?_)
                  exact hQ _ _ (eqo_tr (eqo_tr (eqo_tr (eqo_tr (eqo_tr (eqo_tr (eqo_tr (eqo_tr (eqo_rf _) (fps_cons (i := 0) rfl (fps_cons (i := 1) rfl fps_nil)) hM2) (fps_cons (i := 0) rfl (fps_cons (i := 1) rfl fps_nil)) hM5) (fps_cons (i := 0) rfl (fps_cons (i := 1) rfl fps_nil)) hM8) (fps_cons (i := 0) rfl (fps_cons (i := 1) rfl (fps_cons (i := 2) rfl (fps_cons (i := 3) rfl fps_nil)))) hM11) (fps_cons (i := 0) rfl (fps_cons (i := 1) rfl fps_nil)) hM14) (fps_cons (i := 0) rfl (fps_cons (i := 1) rfl fps_nil)) hM17) (fps_cons (i := 0) rfl (fps_cons (i := 1) rfl (fps_cons (i := 2) rfl (fps_cons (i := 3) rfl fps_nil)))) hM20) (fps_cons (i := 2) rfl (fps_cons (i := 3) rfl fps_nil)) hM26)
          · refine an_m_readSum (fun r27 M28 hM28 => ?_)
            refine ⟨fun _ => ?_, fun _ => ?_⟩
            · exact hQ _ _ (eqo_tr (eqo_tr (eqo_tr (eqo_tr (eqo_tr (eqo_tr (eqo_rf _) (fps_cons (i := 0) rfl (fps_cons (i := 1) rfl fps_nil)) hM2) (fps_cons (i := 0) rfl (fps_cons (i := 1) rfl fps_nil)) hM5) (fps_cons (i := 0) rfl (fps_cons (i := 1) rfl fps_nil)) hM8) (fps_cons (i := 0) rfl (fps_cons (i := 1) rfl (fps_cons (i := 2) rfl (fps_cons (i := 3) rfl fps_nil)))) hM11) (fps_cons (i := 0) rfl (fps_cons (i := 1) rfl fps_nil)) hM14) (fps_cons (i := 0) rfl (fps_cons (i := 1) rfl (fps_cons (i := 2) rfl (fps_cons (i := 3) rfl fps_nil)))) hM28)
            · refine ⟨fun _ => ?_, fun _ => ?_⟩
              · refine an_m_emits (fun M32 hM32 => ?_)
                exact hQ _ _ (eqo_tr (eqo_tr (eqo_tr (eqo_tr (eqo_tr (eqo_tr (eqo_tr (eqo_rf _) (fps_cons (i := 0) rfl (fps_cons (i := 1) rfl fps_nil)) hM2) (fps_cons (i := 0) rfl (fps_cons (i := 1) rfl fps_nil)) hM5) (fps_cons (i := 0) rfl (fps_cons (i := 1) rfl fps_nil)) hM8) (fps_cons (i := 0) rfl (fps_cons (i := 1) rfl (fps_cons (i := 2) rfl (fps_cons (i := 3) rfl fps_nil)))) hM11) (fps_cons (i := 0) rfl (fps_cons (i := 1) rfl fps_nil)) hM14) (fps_cons (i := 0) rfl (fps_cons (i := 1) rfl (fps_cons (i := 2) rfl (fps_cons (i := 3) rfl fps_nil)))) hM28) (fps_cons (i := 2) rfl (fps_cons (i := 3) rfl fps_nil)) hM32)
              · refine an_m_emits (fun M34 hM34 => ?_)
                exact hQ _ _ (eqo_tr (eqo_tr (eqo_tr (eqo_tr (eqo_tr (eqo_tr (eqo_tr (eqo_rf _) (fps_cons (i := 0) rfl (fps_cons (i := 1) rfl fps_nil)) hM2) (fps_cons (i := 0) rfl (fps_cons (i := 1) rfl fps_nil)) hM5) (fps_cons (i := 0) rfl (fps_cons (i := 1) rfl fps_nil)) hM8) (fps_cons (i := 0) rfl (fps_cons (i := 1) rfl (fps_cons (i := 2) rfl (fps_cons (i := 3) rfl fps_nil)))) hM11) (fps_cons (i := 0) rfl (fps_cons (i := 1) rfl fps_nil)) hM14) (fps_cons (i := 0) rfl (fps_cons (i := 1) rfl (fps_cons (i := 2) rfl (fps_cons (i := 3) rfl fps_nil)))) hM28) (fps_cons (i := 2) rfl (fps_cons (i := 3) rfl fps_nil)) hM34)
      · refine an_m_emits (fun M36 hM36 => ?_)
        exact hQ _ _ (eqo_tr (eqo_tr (eqo_tr (eqo_tr (eqo_rf _) (fps_cons (i := 0) rfl (fps_cons (i := 1) rfl fps_nil)) hM2) (fps_cons (i := 0) rfl (fps_cons (i := 1) rfl fps_nil)) hM5) (fps_cons (i := 0) rfl (fps_cons (i := 1) rfl fps_nil)) hM8) (fps_cons (i := 2) rfl (fps_cons (i := 3) rfl fps_nil)) hM36)
    · refine ⟨fun _ => ?_, fun _ => ?_⟩
      · exact hQ _ _ (eqo_tr (eqo_tr (eqo_rf _) (fps_cons (i := 0) rfl (fps_cons (i := 1) rfl fps_nil)) hM2) (fps_cons (i := 0) rfl (fps_cons (i := 1) rfl fps_nil)) hM5)
      · refine an_m_readAtom_378 (fun r38 M39 hM39 => ?_)
        refine ⟨fun _ => ?_, fun _ => ?_⟩
        · exact hQ _ _ (eqo_tr (eqo_wi (eqo_tr (eqo_tr (eqo_rf _) (fps_cons (i := 0) rfl (fps_cons (i := 1) rfl fps_nil)) hM2) (fps_cons (i := 0) rfl (fps_cons (i := 1) rfl fps_nil)) hM5) (i := 4) rfl (Or.inr rfl)) (fps_cons (i := 0) rfl (fps_cons (i := 1) rfl (fps_cons (i := 2) rfl (fps_cons (i := 3) rfl (fps_cons (i := 4) rfl fps_nil))))) hM39)
        · refine an_m_emits (fun M42 hM42 => ?_)
          exact hQ _ _ (eqo_tr (eqo_wi (eqo_tr (eqo_wi (eqo_tr (eqo_tr (eqo_rf _) (fps_cons (i := 0) rfl (fps_cons (i := 1) rfl fps_nil)) hM2) (fps_cons (i := 0) rfl (fps_cons (i := 1) rfl fps_nil)) hM5) (i := 4) rfl (Or.inr rfl)) (fps_cons (i := 0) rfl (fps_cons (i := 1) rfl (fps_cons (i := 2) rfl (fps_cons (i := 3) rfl (fps_cons (i := 4) rfl fps_nil))))) hM39) (i := 4) rfl (Or.inr rfl)) (fps_cons (i := 2) rfl (fps_cons (i := 3) rfl fps_nil)) hM42)
  · refine ⟨fun _ => ?_, fun _ => ?_⟩
    · exact hQ _ _ (eqo_tr (eqo_rf _) (fps_cons (i := 0) rfl (fps_cons (i := 1) rfl fps_nil)) hM2)
    · refine an_m_readCond_376 (fun r44 M45 hM45 => ?_)
      refine ⟨fun _ => ?_, fun _ => ?_⟩
      · exact hQ _ _ (eqo_tr (eqo_wi (eqo_tr (eqo_rf _) (fps_cons (i := 0) rfl (fps_cons (i := 1) rfl fps_nil)) hM2) (i := 4) rfl (Or.inr rfl)) (fps_cons (i := 0) rfl (fps_cons (i := 1) rfl (fps_cons (i := 2) rfl (fps_cons (i := 3) rfl (fps_cons (i := 4) rfl fps_nil))))) hM45)
      · refine an_m_sign (fun r47 M48 hM48 => ?_)
        exact hQ _ _ (eqo_tr (eqo_wi (eqo_tr (eqo_wi (eqo_tr (eqo_rf _) (fps_cons (i := 0) rfl (fps_cons (i := 1) rfl fps_nil)) hM2) (i := 4) rfl (Or.inr rfl)) (fps_cons (i := 0) rfl (fps_cons (i := 1) rfl (fps_cons (i := 2) rfl (fps_cons (i := 3) rfl (fps_cons (i := 4) rfl fps_nil))))) hM45) (i := 4) rfl (Or.inr rfl)) (fps_cons (i := 0) rfl (fps_cons (i := 1) rfl fps_nil)) hM48)
def fp_m_readAllOf_374  : List (Nat × Nat × Option Nat) := [(190, 190, some 21), (190, 190, some 19), (202, 202, none), (190, 190, some 25), (190, 190, some 22)]
theorem an_m_readAllOf_374_9 {M0 : MM} {Q : Int32 → MM → Prop} (hQ : ∀ (r : Int32) (M1 : MM), Eqo fp_m_readAllOf_374 M0 M1 → Q r M1) : ∀ (N : Nat) (M : MM), Eqo fp_m_readAllOf_374 M0 M → W_m_readAllOf_374_9 Q N M := by
  refine I_m_readAllOf_374_9 Q (fun M => Eqo fp_m_readAllOf_374 M0 M) (fun N ih M hih hM => ?_)
  unfold B_m_readAllOf_374_9
  refine an_m_passes (fun r4 M5 hM5 => ?_)
  refine ⟨fun _ => ?_, fun _ => ?_⟩
  · exact hQ _ _ (eqo_tr hM (fps_cons (i := 0) rfl (fps_cons (i := 1) rfl fps_nil)) hM5)
  · refine an_m_readAtom_375 (fun r7 M8 hM8 => ?_)
    refine ⟨fun _ => ?_, fun _ => ?_⟩
    · exact hQ _ _ (eqo_tr (eqo_tr hM (fps_cons (i := 0) rfl (fps_cons (i := 1) rfl fps_nil)) hM5) (fps_cons (i := 0) rfl (fps_cons (i := 1) rfl (fps_cons (i := 2) rfl (fps_cons (i := 3) rfl (fps_cons (i := 4) rfl fps_nil))))) hM8)
    · refine an_m_emits (fun M11 hM11 => ?_)
      exact hih _ (eqo_tr (eqo_tr (eqo_tr hM (fps_cons (i := 0) rfl (fps_cons (i := 1) rfl fps_nil)) hM5) (fps_cons (i := 0) rfl (fps_cons (i := 1) rfl (fps_cons (i := 2) rfl (fps_cons (i := 3) rfl (fps_cons (i := 4) rfl fps_nil))))) hM8) (fps_cons (i := 2) rfl (fps_cons (i := 3) rfl fps_nil)) hM11)
theorem an_m_readAllOf_374  {N : Nat} {M : MM} {Q : Int32 → MM → Prop} (hQ : ∀ (r : Int32) (M1 : MM), Eqo fp_m_readAllOf_374 M M1 → Q r M1) : W_m_readAllOf_374  N M Q := by
  unfold W_m_readAllOf_374
  refine an_m_readAtom_375 (fun r1 M2 hM2 => ?_)
  refine ⟨fun _ => ?_, fun _ => ?_⟩
  · exact hQ _ _ (eqo_tr (eqo_rf _) (fps_cons (i := 0) rfl (fps_cons (i := 1) rfl (fps_cons (i := 2) rfl (fps_cons (i := 3) rfl (fps_cons (i := 4) rfl fps_nil))))) hM2)
  · refine an_m_readAllOf_374_9   hQ N _ (eqo_tr (eqo_rf _) (fps_cons (i := 0) rfl (fps_cons (i := 1) rfl (fps_cons (i := 2) rfl (fps_cons (i := 3) rfl (fps_cons (i := 4) rfl fps_nil))))) hM2)
def fp_m_readCond_373  : List (Nat × Nat × Option Nat) := [(190, 190, some 21), (190, 190, some 19), (202, 202, none), (190, 190, some 25), (190, 190, some 22)]
theorem an_m_readCond_373_9 {M0 : MM} {Q : Int32 → MM → Prop} (hQ : ∀ (r : Int32) (M1 : MM), Eqo fp_m_readCond_373 M0 M1 → Q r M1) : ∀ (N : Nat) (M : MM), Eqo fp_m_readCond_373 M0 M → W_m_readCond_373_9 Q N M := by
  refine I_m_readCond_373_9 Q (fun M => Eqo fp_m_readCond_373 M0 M) (fun N ih M hih hM => ?_)
  unfold B_m_readCond_373_9
  refine an_m_passes (fun r4 M5 hM5 => ?_)
  refine ⟨fun _ => ?_, fun _ => ?_⟩
  · exact hQ _ _ (eqo_tr hM (fps_cons (i := 0) rfl (fps_cons (i := 1) rfl fps_nil)) hM5)
  · refine an_m_readAllOf_374 (fun r7 M8 hM8 => ?_)
    refine ⟨fun _ => ?_, fun _ => ?_⟩
    · exact hQ _ _ (eqo_tr (eqo_tr hM (fps_cons (i := 0) rfl (fps_cons (i := 1) rfl fps_nil)) hM5) (fps_cons (i := 0) rfl (fps_cons (i := 1) rfl (fps_cons (i := 2) rfl (fps_cons (i := 3) rfl (fps_cons (i := 4) rfl fps_nil))))) hM8)
    · refine an_m_emits (fun M11 hM11 => ?_)
      exact hih _ (eqo_tr (eqo_tr (eqo_tr hM (fps_cons (i := 0) rfl (fps_cons (i := 1) rfl fps_nil)) hM5) (fps_cons (i := 0) rfl (fps_cons (i := 1) rfl (fps_cons (i := 2) rfl (fps_cons (i := 3) rfl (fps_cons (i := 4) rfl fps_nil))))) hM8) (fps_cons (i := 2) rfl (fps_cons (i := 3) rfl fps_nil)) hM11)
theorem an_m_readCond_373  {N : Nat} {M : MM} {Q : Int32 → MM → Prop} (hQ : ∀ (r : Int32) (M1 : MM), Eqo fp_m_readCond_373 M M1 → Q r M1) : W_m_readCond_373  N M Q := by
  unfold W_m_readCond_373
  refine an_m_readAllOf_374 (fun r1 M2 hM2 => ?_)
  refine ⟨fun _ => ?_, fun _ => ?_⟩
  · exact hQ _ _ (eqo_tr (eqo_rf _) (fps_cons (i := 0) rfl (fps_cons (i := 1) rfl (fps_cons (i := 2) rfl (fps_cons (i := 3) rfl (fps_cons (i := 4) rfl fps_nil))))) hM2)
  · refine an_m_readCond_373_9   hQ N _ (eqo_tr (eqo_rf _) (fps_cons (i := 0) rfl (fps_cons (i := 1) rfl (fps_cons (i := 2) rfl (fps_cons (i := 3) rfl (fps_cons (i := 4) rfl fps_nil))))) hM2)
def fp_m_readAtom_372  : List (Nat × Nat × Option Nat) := [(190, 190, some 21), (190, 190, some 19), (202, 202, none), (190, 190, some 25), (190, 190, some 22)]
theorem an_m_readAtom_372  {N : Nat} {M : MM} {Q : Int32 → MM → Prop} (hQ : ∀ (r : Int32) (M1 : MM), Eqo fp_m_readAtom_372 M M1 → Q r M1) : W_m_readAtom_372  N M Q := by
  unfold W_m_readAtom_372
  refine an_m_sign (fun r1 M2 hM2 => ?_)
  refine ⟨fun _ => ?_, fun _ => ?_⟩
  · refine an_m_passes (fun r4 M5 hM5 => ?_)
    refine ⟨fun _ => ?_, fun _ => ?_⟩
    · refine an_m_passes (fun r7 M8 hM8 => ?_)
      refine ⟨fun _ => ?_, fun _ => ?_⟩
      · refine an_m_readSum (fun r10 M11 hM11 => ?_)
        refine ⟨fun _ => ?_, fun _ => ?_⟩
        · exact hQ _ _ (eqo_tr (eqo_tr (eqo_tr (eqo_tr (eqo_rf _) (fps_cons (i := 0) rfl (fps_cons (i := 1) rfl fps_nil)) hM2) (fps_cons (i := 0) rfl (fps_cons (i := 1) rfl fps_nil)) hM5) (fps_cons (i := 0) rfl (fps_cons (i := 1) rfl fps_nil)) hM8) (fps_cons (i := 0) rfl (fps_cons (i := 1) rfl (fps_cons (i := 2) rfl (fps_cons (i := 3) rfl fps_nil)))) hM11)
        · refine an_m_sign (fun r13 M14 hM14 => ?_)
          refine ⟨fun _ => ?_, fun _ => ?_⟩
          · refine an_m_sign (fun r16 M17 hM17 => ?_)
            refine ⟨fun _ => ?_, fun _ => ?_⟩
            · exact hQ _ _ (eqo_tr (eqo_tr (eqo_tr (eqo_tr (eqo_tr (eqo_tr (eqo_rf _) (fps_cons (i := 0) rfl (fps_cons (i := 1) rfl fps_nil)) hM2) (fps_cons (i := 0) rfl (fps_cons (i := 1) rfl fps_nil)) hM5) (fps_cons (i := 0) rfl (fps_cons (i := 1) rfl fps_nil)) hM8) (fps_cons (i := 0) rfl (fps_cons (i := 1) rfl (fps_cons (i := 2) rfl (fps_cons (i := 3) rfl fps_nil)))) hM11) (fps_cons (i := 0) rfl (fps_cons (i := 1) rfl fps_nil)) hM14) (fps_cons (i := 0) rfl (fps_cons (i := 1) rfl fps_nil)) hM17)
            · refine an_m_readSum (fun r19 M20 hM20 => ?_)
              refine ⟨fun _ => ?_, fun _ => ?_⟩
              · exact hQ _ _ (eqo_tr (eqo_tr (eqo_tr (eqo_tr (eqo_tr (eqo_tr (eqo_tr (eqo_rf _) (fps_cons (i := 0) rfl (fps_cons (i := 1) rfl fps_nil)) hM2) (fps_cons (i := 0) rfl (fps_cons (i := 1) rfl fps_nil)) hM5) (fps_cons (i := 0) rfl (fps_cons (i := 1) rfl fps_nil)) hM8) (fps_cons (i := 0) rfl (fps_cons (i := 1) rfl (fps_cons (i := 2) rfl (fps_cons (i := 3) rfl fps_nil)))) hM11) (fps_cons (i := 0) rfl (fps_cons (i := 1) rfl fps_nil)) hM14) (fps_cons (i := 0) rfl (fps_cons (i := 1) rfl fps_nil)) hM17) (fps_cons (i := 0) rfl (fps_cons (i := 1) rfl (fps_cons (i := 2) rfl (fps_cons (i := 3) rfl fps_nil)))) hM20)
              · refine ⟨fun _ => ?_, fun _ => ?_⟩
                · refine an_m_emits (fun M24 hM24 => ?_)
                  exact hQ _ _ (eqo_tr (eqo_tr (eqo_tr (eqo_tr (eqo_tr (eqo_tr (eqo_tr (eqo_tr (eqo_rf _) (fps_cons (i := 0) rfl (fps_cons (i := 1) rfl fps_nil)) hM2) (fps_cons (i := 0) rfl (fps_cons (i := 1) rfl fps_nil)) hM5) (fps_cons (i := 0) rfl (fps_cons (i := 1) rfl fps_nil)) hM8) (fps_cons (i := 0) rfl (fps_cons (i := 1) rfl (fps_cons (i := 2) rfl (fps_cons (i := 3) rfl fps_nil)))) hM11) (fps_cons (i := 0) rfl (fps_cons (i := 1) rfl fps_nil)) hM14) (fps_cons (i := 0) rfl (fps_cons (i := 1) rfl fps_nil)) hM17) (fps_cons (i := 0) rfl (fps_cons (i := 1) rfl (fps_cons (i := 2) rfl (fps_cons (i := 3) rfl fps_nil)))) hM20) (fps_cons (i := 2) rfl (fps_cons (i := 3) rfl fps_nil)) hM24)
                · refine an_m_emits (fun M26 hM26 => ?_)
                  exact hQ _ _ (eqo_tr (eqo_tr (eqo_tr (eqo_tr (eqo_tr (eqo_tr (eqo_tr (eqo_tr (eqo_rf _) (fps_cons (i := 0) rfl (fps_cons (i := 1) rfl fps_nil)) hM2) (fps_cons (i := 0) rfl (fps_cons (i := 1) rfl fps_nil)) hM5) (fps_cons (i := 0) rfl (fps_cons (i := 1) rfl fps_nil)) hM8) (fps_cons (i := 0) rfl (fps_cons (i := 1) rfl (fps_cons (i := 2) rfl (fps_cons (i := 3) rfl fps_nil)))) hM11) (fps_cons (i := 0) rfl (fps_cons (i := 1) rfl fps_nil)) hM14) (fps_cons (i := 0) rfl (fps_cons (i := 1) rfl fps_nil)) hM17) (fps_cons (i := 0) rfl (fps_cons (i := 1) rfl (fps_cons (i := 2) rfl (fps_cons (i := 3) rfl fps_nil)))) hM20) (fps_cons (i := 2) rfl (fps_cons (i := 3) rfl fps_nil)) hM26)
          · refine an_m_readSum (fun r27 M28 hM28 => ?_)
            refine ⟨fun _ => ?_, fun _ => ?_⟩
            · exact hQ _ _ (eqo_tr (eqo_tr (eqo_tr (eqo_tr (eqo_tr (eqo_tr (eqo_rf _) (fps_cons (i := 0) rfl (fps_cons (i := 1) rfl fps_nil)) hM2) (fps_cons (i := 0) rfl (fps_cons (i := 1) rfl fps_nil)) hM5) (fps_cons (i := 0) rfl (fps_cons (i := 1) rfl fps_nil)) hM8) (fps_cons (i := 0) rfl (fps_cons (i := 1) rfl (fps_cons (i := 2) rfl (fps_cons (i := 3) rfl fps_nil)))) hM11) (fps_cons (i := 0) rfl (fps_cons (i := 1) rfl fps_nil)) hM14) (fps_cons (i := 0) rfl (fps_cons (i := 1) rfl (fps_cons (i := 2) rfl (fps_cons (i := 3) rfl fps_nil)))) hM28)
            · refine ⟨fun _ => ?_, fun _ => ?_⟩
              · refine an_m_emits (fun M32 hM32 => ?_)
                exact hQ _ _ (eqo_tr (eqo_tr (eqo_tr (eqo_tr (eqo_tr (eqo_tr (eqo_tr (eqo_rf _) (fps_cons (i := 0) rfl (fps_cons (i := 1) rfl fps_nil)) hM2) (fps_cons (i := 0) rfl (fps_cons (i := 1) rfl fps_nil)) hM5) (fps_cons (i := 0) rfl (fps_cons (i := 1) rfl fps_nil)) hM8) (fps_cons (i := 0) rfl (fps_cons (i := 1) rfl (fps_cons (i := 2) rfl (fps_cons (i := 3) rfl fps_nil)))) hM11) (fps_cons (i := 0) rfl (fps_cons (i := 1) rfl fps_nil)) hM14) (fps_cons (i := 0) rfl (fps_cons (i := 1) rfl (fps_cons (i := 2) rfl (fps_cons (i := 3) rfl fps_nil)))) hM28) (fps_cons (i := 2) rfl (fps_cons (i := 3) rfl fps_nil)) hM32)
              · refine an_m_emits (fun M34 hM34 => ?_)
                exact hQ _ _ (eqo_tr (eqo_tr (eqo_tr (eqo_tr (eqo_tr (eqo_tr (eqo_tr (eqo_rf _) (fps_cons (i := 0) rfl (fps_cons (i := 1) rfl fps_nil)) hM2) (fps_cons (i := 0) rfl (fps_cons (i := 1) rfl fps_nil)) hM5) (fps_cons (i := 0) rfl (fps_cons (i := 1) rfl fps_nil)) hM8) (fps_cons (i := 0) rfl (fps_cons (i := 1) rfl (fps_cons (i := 2) rfl (fps_cons (i := 3) rfl fps_nil)))) hM11) (fps_cons (i := 0) rfl (fps_cons (i := 1) rfl fps_nil)) hM14) (fps_cons (i := 0) rfl (fps_cons (i := 1) rfl (fps_cons (i := 2) rfl (fps_cons (i := 3) rfl fps_nil)))) hM28) (fps_cons (i := 2) rfl (fps_cons (i := 3) rfl fps_nil)) hM34)
      · refine an_m_emits (fun M36 hM36 => ?_)
        exact hQ _ _ (eqo_tr (eqo_tr (eqo_tr (eqo_tr (eqo_rf _) (fps_cons (i := 0) rfl (fps_cons (i := 1) rfl fps_nil)) hM2) (fps_cons (i := 0) rfl (fps_cons (i := 1) rfl fps_nil)) hM5) (fps_cons (i := 0) rfl (fps_cons (i := 1) rfl fps_nil)) hM8) (fps_cons (i := 2) rfl (fps_cons (i := 3) rfl fps_nil)) hM36)
    · refine ⟨fun _ => ?_, fun _ => ?_⟩
      · exact hQ _ _ (eqo_tr (eqo_tr (eqo_rf _) (fps_cons (i := 0) rfl (fps_cons (i := 1) rfl fps_nil)) hM2) (fps_cons (i := 0) rfl (fps_cons (i := 1) rfl fps_nil)) hM5)
      · refine an_m_readAtom_375 (fun r38 M39 hM39 => ?_)
        refine ⟨fun _ => ?_, fun _ => ?_⟩
        · exact hQ _ _ (eqo_tr (eqo_wi (eqo_tr (eqo_tr (eqo_rf _) (fps_cons (i := 0) rfl (fps_cons (i := 1) rfl fps_nil)) hM2) (fps_cons (i := 0) rfl (fps_cons (i := 1) rfl fps_nil)) hM5) (i := 4) rfl (Or.inr rfl)) (fps_cons (i := 0) rfl (fps_cons (i := 1) rfl (fps_cons (i := 2) rfl (fps_cons (i := 3) rfl (fps_cons (i := 4) rfl fps_nil))))) hM39)
        · refine an_m_emits (fun M42 hM42 => ?_)
          exact hQ _ _ (eqo_tr (eqo_wi (eqo_tr (eqo_wi (eqo_tr (eqo_tr (eqo_rf _) (fps_cons (i := 0) rfl (fps_cons (i := 1) rfl fps_nil)) hM2) (fps_cons (i := 0) rfl (fps_cons (i := 1) rfl fps_nil)) hM5) (i := 4) rfl (Or.inr rfl)) (fps_cons (i := 0) rfl (fps_cons (i := 1) rfl (fps_cons (i := 2) rfl (fps_cons (i := 3) rfl (fps_cons (i := 4) rfl fps_nil))))) hM39) (i := 4) rfl (Or.inr rfl)) (fps_cons (i := 2) rfl (fps_cons (i := 3) rfl fps_nil)) hM42)
  · refine ⟨fun _ => ?_, fun _ => ?_⟩
    · exact hQ _ _ (eqo_tr (eqo_rf _) (fps_cons (i := 0) rfl (fps_cons (i := 1) rfl fps_nil)) hM2)
    · refine an_m_readCond_373 (fun r44 M45 hM45 => ?_)
      refine ⟨fun _ => ?_, fun _ => ?_⟩
      · exact hQ _ _ (eqo_tr (eqo_wi (eqo_tr (eqo_rf _) (fps_cons (i := 0) rfl (fps_cons (i := 1) rfl fps_nil)) hM2) (i := 4) rfl (Or.inr rfl)) (fps_cons (i := 0) rfl (fps_cons (i := 1) rfl (fps_cons (i := 2) rfl (fps_cons (i := 3) rfl (fps_cons (i := 4) rfl fps_nil))))) hM45)
      · refine an_m_sign (fun r47 M48 hM48 => ?_)
        exact hQ _ _ (eqo_tr (eqo_wi (eqo_tr (eqo_wi (eqo_tr (eqo_rf _) (fps_cons (i := 0) rfl (fps_cons (i := 1) rfl fps_nil)) hM2) (i := 4) rfl (Or.inr rfl)) (fps_cons (i := 0) rfl (fps_cons (i := 1) rfl (fps_cons (i := 2) rfl (fps_cons (i := 3) rfl (fps_cons (i := 4) rfl fps_nil))))) hM45) (i := 4) rfl (Or.inr rfl)) (fps_cons (i := 0) rfl (fps_cons (i := 1) rfl fps_nil)) hM48)
def fp_m_readAllOf_371  : List (Nat × Nat × Option Nat) := [(190, 190, some 21), (190, 190, some 19), (202, 202, none), (190, 190, some 25), (190, 190, some 22)]
theorem an_m_readAllOf_371_9 {M0 : MM} {Q : Int32 → MM → Prop} (hQ : ∀ (r : Int32) (M1 : MM), Eqo fp_m_readAllOf_371 M0 M1 → Q r M1) : ∀ (N : Nat) (M : MM), Eqo fp_m_readAllOf_371 M0 M → W_m_readAllOf_371_9 Q N M := by
  refine I_m_readAllOf_371_9 Q (fun M => Eqo fp_m_readAllOf_371 M0 M) (fun N ih M hih hM => ?_)
  unfold B_m_readAllOf_371_9
  refine an_m_passes (fun r4 M5 hM5 => ?_)
  refine ⟨fun _ => ?_, fun _ => ?_⟩
  · exact hQ _ _ (eqo_tr hM (fps_cons (i := 0) rfl (fps_cons (i := 1) rfl fps_nil)) hM5)
  · refine an_m_readAtom_372 (fun r7 M8 hM8 => ?_)
    refine ⟨fun _ => ?_, fun _ => ?_⟩
    · exact hQ _ _ (eqo_tr (eqo_tr hM (fps_cons (i := 0) rfl (fps_cons (i := 1) rfl fps_nil)) hM5) (fps_cons (i := 0) rfl (fps_cons (i := 1) rfl (fps_cons (i := 2) rfl (fps_cons (i := 3) rfl (fps_cons (i := 4) rfl fps_nil))))) hM8)
    · refine an_m_emits (fun M11 hM11 => ?_)
      exact hih _ (eqo_tr (eqo_tr (eqo_tr hM (fps_cons (i := 0) rfl (fps_cons (i := 1) rfl fps_nil)) hM5) (fps_cons (i := 0) rfl (fps_cons (i := 1) rfl (fps_cons (i := 2) rfl (fps_cons (i := 3) rfl (fps_cons (i := 4) rfl fps_nil))))) hM8) (fps_cons (i := 2) rfl (fps_cons (i := 3) rfl fps_nil)) hM11)
theorem an_m_readAllOf_371  {N : Nat} {M : MM} {Q : Int32 → MM → Prop} (hQ : ∀ (r : Int32) (M1 : MM), Eqo fp_m_readAllOf_371 M M1 → Q r M1) : W_m_readAllOf_371  N M Q := by
  unfold W_m_readAllOf_371
  refine an_m_readAtom_372 (fun r1 M2 hM2 => ?_)
  refine ⟨fun _ => ?_, fun _ => ?_⟩
  · exact hQ _ _ (eqo_tr (eqo_rf _) (fps_cons (i := 0) rfl (fps_cons (i := 1) rfl (fps_cons (i := 2) rfl (fps_cons (i := 3) rfl (fps_cons (i := 4) rfl fps_nil))))) hM2)
  · refine an_m_readAllOf_371_9   hQ N _ (eqo_tr (eqo_rf _) (fps_cons (i := 0) rfl (fps_cons (i := 1) rfl (fps_cons (i := 2) rfl (fps_cons (i := 3) rfl (fps_cons (i := 4) rfl fps_nil))))) hM2)
def fp_m_readCond_370  : List (Nat × Nat × Option Nat) := [(190, 190, some 21), (190, 190, some 19), (202, 202, none), (190, 190, some 25), (190, 190, some 22)]
theorem an_m_readCond_370_9 {M0 : MM} {Q : Int32 → MM → Prop} (hQ : ∀ (r : Int32) (M1 : MM), Eqo fp_m_readCond_370 M0 M1 → Q r M1) : ∀ (N : Nat) (M : MM), Eqo fp_m_readCond_370 M0 M → W_m_readCond_370_9 Q N M := by
  refine I_m_readCond_370_9 Q (fun M => Eqo fp_m_readCond_370 M0 M) (fun N ih M hih hM => ?_)
  unfold B_m_readCond_370_9
  refine an_m_passes (fun r4 M5 hM5 => ?_)
  refine ⟨fun _ => ?_, fun _ => ?_⟩
  · exact hQ _ _ (eqo_tr hM (fps_cons (i := 0) rfl (fps_cons (i := 1) rfl fps_nil)) hM5)
  · refine an_m_readAllOf_371 (fun r7 M8 hM8 => ?_)
    refine ⟨fun _ => ?_, fun _ => ?_⟩
    · exact hQ _ _ (eqo_tr (eqo_tr hM (fps_cons (i := 0) rfl (fps_cons (i := 1) rfl fps_nil)) hM5) (fps_cons (i := 0) rfl (fps_cons (i := 1) rfl (fps_cons (i := 2) rfl (fps_cons (i := 3) rfl (fps_cons (i := 4) rfl fps_nil))))) hM8)
    · refine an_m_emits (fun M11 hM11 => ?_)
      exact hih _ (eqo_tr (eqo_tr (eqo_tr hM (fps_cons (i := 0) rfl (fps_cons (i := 1) rfl fps_nil)) hM5) (fps_cons (i := 0) rfl (fps_cons (i := 1) rfl (fps_cons (i := 2) rfl (fps_cons (i := 3) rfl (fps_cons (i := 4) rfl fps_nil))))) hM8) (fps_cons (i := 2) rfl (fps_cons (i := 3) rfl fps_nil)) hM11)
theorem an_m_readCond_370  {N : Nat} {M : MM} {Q : Int32 → MM → Prop} (hQ : ∀ (r : Int32) (M1 : MM), Eqo fp_m_readCond_370 M M1 → Q r M1) : W_m_readCond_370  N M Q := by
  unfold W_m_readCond_370
  refine an_m_readAllOf_371 (fun r1 M2 hM2 => ?_)
  refine ⟨fun _ => ?_, fun _ => ?_⟩
  · exact hQ _ _ (eqo_tr (eqo_rf _) (fps_cons (i := 0) rfl (fps_cons (i := 1) rfl (fps_cons (i := 2) rfl (fps_cons (i := 3) rfl (fps_cons (i := 4) rfl fps_nil))))) hM2)
  · refine an_m_readCond_370_9   hQ N _ (eqo_tr (eqo_rf _) (fps_cons (i := 0) rfl (fps_cons (i := 1) rfl (fps_cons (i := 2) rfl (fps_cons (i := 3) rfl (fps_cons (i := 4) rfl fps_nil))))) hM2)
def fp_m_readAtom  : List (Nat × Nat × Option Nat) := [(190, 190, some 21), (190, 190, some 19), (202, 202, none), (190, 190, some 25), (190, 190, some 22)]
theorem an_m_readAtom  {N : Nat} {M : MM} {Q : Int32 → MM → Prop} (hQ : ∀ (r : Int32) (M1 : MM), Eqo fp_m_readAtom M M1 → Q r M1) : W_m_readAtom  N M Q := by
  unfold W_m_readAtom
  refine an_m_sign (fun r1 M2 hM2 => ?_)
  refine ⟨fun _ => ?_, fun _ => ?_⟩
  · refine an_m_passes (fun r4 M5 hM5 => ?_)
    refine ⟨fun _ => ?_, fun _ => ?_⟩
    · refine an_m_passes (fun r7 M8 hM8 => ?_)
      refine ⟨fun _ => ?_, fun _ => ?_⟩
      · refine an_m_readSum (fun r10 M11 hM11 => ?_)
        refine ⟨fun _ => ?_, fun _ => ?_⟩
        · exact hQ _ _ (eqo_tr (eqo_tr (eqo_tr (eqo_tr (eqo_rf _) (fps_cons (i := 0) rfl (fps_cons (i := 1) rfl fps_nil)) hM2) (fps_cons (i := 0) rfl (fps_cons (i := 1) rfl fps_nil)) hM5) (fps_cons (i := 0) rfl (fps_cons (i := 1) rfl fps_nil)) hM8) (fps_cons (i := 0) rfl (fps_cons (i := 1) rfl (fps_cons (i := 2) rfl (fps_cons (i := 3) rfl fps_nil)))) hM11)
        · refine an_m_sign (fun r13 M14 hM14 => ?_)
          refine ⟨fun _ => ?_, fun _ => ?_⟩
          · refine an_m_sign (fun r16 M17 hM17 => ?_)
            refine ⟨fun _ => ?_, fun _ => ?_⟩
            · exact hQ _ _ (eqo_tr (eqo_tr (eqo_tr (eqo_tr (eqo_tr (eqo_tr (eqo_rf _) (fps_cons (i := 0) rfl (fps_cons (i := 1) rfl fps_nil)) hM2) (fps_cons (i := 0) rfl (fps_cons (i := 1) rfl fps_nil)) hM5) (fps_cons (i := 0) rfl (fps_cons (i := 1) rfl fps_nil)) hM8) (fps_cons (i := 0) rfl (fps_cons (i := 1) rfl (fps_cons (i := 2) rfl (fps_cons (i := 3) rfl fps_nil)))) hM11) (fps_cons (i := 0) rfl (fps_cons (i := 1) rfl fps_nil)) hM14) (fps_cons (i := 0) rfl (fps_cons (i := 1) rfl fps_nil)) hM17)
            · refine an_m_readSum (fun r19 M20 hM20 => ?_)
              refine ⟨fun _ => ?_, fun _ => ?_⟩
              · exact hQ _ _ (eqo_tr (eqo_tr (eqo_tr (eqo_tr (eqo_tr (eqo_tr (eqo_tr (eqo_rf _) (fps_cons (i := 0) rfl (fps_cons (i := 1) rfl fps_nil)) hM2) (fps_cons (i := 0) rfl (fps_cons (i := 1) rfl fps_nil)) hM5) (fps_cons (i := 0) rfl (fps_cons (i := 1) rfl fps_nil)) hM8) (fps_cons (i := 0) rfl (fps_cons (i := 1) rfl (fps_cons (i := 2) rfl (fps_cons (i := 3) rfl fps_nil)))) hM11) (fps_cons (i := 0) rfl (fps_cons (i := 1) rfl fps_nil)) hM14) (fps_cons (i := 0) rfl (fps_cons (i := 1) rfl fps_nil)) hM17) (fps_cons (i := 0) rfl (fps_cons (i := 1) rfl (fps_cons (i := 2) rfl (fps_cons (i := 3) rfl fps_nil)))) hM20)
              · refine ⟨fun _ => ?_, fun _ => ?_⟩
                · refine an_m_emits (fun M24 hM24 => ?_)
                  exact hQ _ _ (eqo_tr (eqo_tr (eqo_tr (eqo_tr (eqo_tr (eqo_tr (eqo_tr (eqo_tr (eqo_rf _) (fps_cons (i := 0) rfl (fps_cons (i := 1) rfl fps_nil)) hM2) (fps_cons (i := 0) rfl (fps_cons (i := 1) rfl fps_nil)) hM5) (fps_cons (i := 0) rfl (fps_cons (i := 1) rfl fps_nil)) hM8) (fps_cons (i := 0) rfl (fps_cons (i := 1) rfl (fps_cons (i := 2) rfl (fps_cons (i := 3) rfl fps_nil)))) hM11) (fps_cons (i := 0) rfl (fps_cons (i := 1) rfl fps_nil)) hM14) (fps_cons (i := 0) rfl (fps_cons (i := 1) rfl fps_nil)) hM17) (fps_cons (i := 0) rfl (fps_cons (i := 1) rfl (fps_cons (i := 2) rfl (fps_cons (i := 3) rfl fps_nil)))) hM20) (fps_cons (i := 2) rfl (fps_cons (i := 3) rfl fps_nil)) hM24)
                · refine an_m_emits (fun M26 hM26 => ?_)
                  exact hQ _ _ (eqo_tr (eqo_tr (eqo_tr (eqo_tr (eqo_tr (eqo_tr (eqo_tr (eqo_tr (eqo_rf _) (fps_cons (i := 0) rfl (fps_cons (i := 1) rfl fps_nil)) hM2) (fps_cons (i := 0) rfl (fps_cons (i := 1) rfl fps_nil)) hM5) (fps_cons (i := 0) rfl (fps_cons (i := 1) rfl fps_nil)) hM8) (fps_cons (i := 0) rfl (fps_cons (i := 1) rfl (fps_cons (i := 2) rfl (fps_cons (i := 3) rfl fps_nil)))) hM11) (fps_cons (i := 0) rfl (fps_cons (i := 1) rfl fps_nil)) hM14) (fps_cons (i := 0) rfl (fps_cons (i := 1) rfl fps_nil)) hM17) (fps_cons (i := 0) rfl (fps_cons (i := 1) rfl (fps_cons (i := 2) rfl (fps_cons (i := 3) rfl fps_nil)))) hM20) (fps_cons (i := 2) rfl (fps_cons (i := 3) rfl fps_nil)) hM26)
          · refine an_m_readSum (fun r27 M28 hM28 => ?_)
            refine ⟨fun _ => ?_, fun _ => ?_⟩
            · exact hQ _ _ (eqo_tr (eqo_tr (eqo_tr (eqo_tr (eqo_tr (eqo_tr (eqo_rf _) (fps_cons (i := 0) rfl (fps_cons (i := 1) rfl fps_nil)) hM2) (fps_cons (i := 0) rfl (fps_cons (i := 1) rfl fps_nil)) hM5) (fps_cons (i := 0) rfl (fps_cons (i := 1) rfl fps_nil)) hM8) (fps_cons (i := 0) rfl (fps_cons (i := 1) rfl (fps_cons (i := 2) rfl (fps_cons (i := 3) rfl fps_nil)))) hM11) (fps_cons (i := 0) rfl (fps_cons (i := 1) rfl fps_nil)) hM14) (fps_cons (i := 0) rfl (fps_cons (i := 1) rfl (fps_cons (i := 2) rfl (fps_cons (i := 3) rfl fps_nil)))) hM28)
            · refine ⟨fun _ => ?_, fun _ => ?_⟩
              · refine an_m_emits (fun M32 hM32 => ?_)
                exact hQ _ _ (eqo_tr (eqo_tr (eqo_tr (eqo_tr (eqo_tr (eqo_tr (eqo_tr (eqo_rf _) (fps_cons (i := 0) rfl (fps_cons (i := 1) rfl fps_nil)) hM2) (fps_cons (i := 0) rfl (fps_cons (i := 1) rfl fps_nil)) hM5) (fps_cons (i := 0) rfl (fps_cons (i := 1) rfl fps_nil)) hM8) (fps_cons (i := 0) rfl (fps_cons (i := 1) rfl (fps_cons (i := 2) rfl (fps_cons (i := 3) rfl fps_nil)))) hM11) (fps_cons (i := 0) rfl (fps_cons (i := 1) rfl fps_nil)) hM14) (fps_cons (i := 0) rfl (fps_cons (i := 1) rfl (fps_cons (i := 2) rfl (fps_cons (i := 3) rfl fps_nil)))) hM28) (fps_cons (i := 2) rfl (fps_cons (i := 3) rfl fps_nil)) hM32)
              · refine an_m_emits (fun M34 hM34 => ?_)
                exact hQ _ _ (eqo_tr (eqo_tr (eqo_tr (eqo_tr (eqo_tr (eqo_tr (eqo_tr (eqo_rf _) (fps_cons (i := 0) rfl (fps_cons (i := 1) rfl fps_nil)) hM2) (fps_cons (i := 0) rfl (fps_cons (i := 1) rfl fps_nil)) hM5) (fps_cons (i := 0) rfl (fps_cons (i := 1) rfl fps_nil)) hM8) (fps_cons (i := 0) rfl (fps_cons (i := 1) rfl (fps_cons (i := 2) rfl (fps_cons (i := 3) rfl fps_nil)))) hM11) (fps_cons (i := 0) rfl (fps_cons (i := 1) rfl fps_nil)) hM14) (fps_cons (i := 0) rfl (fps_cons (i := 1) rfl (fps_cons (i := 2) rfl (fps_cons (i := 3) rfl fps_nil)))) hM28) (fps_cons (i := 2) rfl (fps_cons (i := 3) rfl fps_nil)) hM34)
      · refine an_m_emits (fun M36 hM36 => ?_)
        exact hQ _ _ (eqo_tr (eqo_tr (eqo_tr (eqo_tr (eqo_rf _) (fps_cons (i := 0) rfl (fps_cons (i := 1) rfl fps_nil)) hM2) (fps_cons (i := 0) rfl (fps_cons (i := 1) rfl fps_nil)) hM5) (fps_cons (i := 0) rfl (fps_cons (i := 1) rfl fps_nil)) hM8) (fps_cons (i := 2) rfl (fps_cons (i := 3) rfl fps_nil)) hM36)
    · refine ⟨fun _ => ?_, fun _ => ?_⟩
      · exact hQ _ _ (eqo_tr (eqo_tr (eqo_rf _) (fps_cons (i := 0) rfl (fps_cons (i := 1) rfl fps_nil)) hM2) (fps_cons (i := 0) rfl (fps_cons (i := 1) rfl fps_nil)) hM5)
      · refine an_m_readAtom_372 (fun r38 M39 hM39 => ?_)
        refine ⟨fun _ => ?_, fun _ => ?_⟩
        · exact hQ _ _ (eqo_tr (eqo_wi (eqo_tr (eqo_tr (eqo_rf _) (fps_cons (i := 0) rfl (fps_cons (i := 1) rfl fps_nil)) hM2) (fps_cons (i := 0) rfl (fps_cons (i := 1) rfl fps_nil)) hM5) (i := 4) rfl (Or.inr rfl)) (fps_cons (i := 0) rfl (fps_cons (i := 1) rfl (fps_cons (i := 2) rfl (fps_cons (i := 3) rfl (fps_cons (i := 4) rfl fps_nil))))) hM39)
        · refine an_m_emits (fun M42 hM42 => ?_)
          exact hQ _ _ (eqo_tr (eqo_wi (eqo_tr (eqo_wi (eqo_tr (eqo_tr (eqo_rf _) (fps_cons (i := 0) rfl (fps_cons (i := 1) rfl fps_nil)) hM2) (fps_cons (i := 0) rfl (fps_cons (i := 1) rfl fps_nil)) hM5) (i := 4) rfl (Or.inr rfl)) (fps_cons (i := 0) rfl (fps_cons (i := 1) rfl (fps_cons (i := 2) rfl (fps_cons (i := 3) rfl (fps_cons (i := 4) rfl fps_nil))))) hM39) (i := 4) rfl (Or.inr rfl)) (fps_cons (i := 2) rfl (fps_cons (i := 3) rfl fps_nil)) hM42)
  · refine ⟨fun _ => ?_, fun _ => ?_⟩
    · exact hQ _ _ (eqo_tr (eqo_rf _) (fps_cons (i := 0) rfl (fps_cons (i := 1) rfl fps_nil)) hM2)
    · refine an_m_readCond_370 (fun r44 M45 hM45 => ?_)
      refine ⟨fun _ => ?_, fun _ => ?_⟩
      · exact hQ _ _ (eqo_tr (eqo_wi (eqo_tr (eqo_rf _) (fps_cons (i := 0) rfl (fps_cons (i := 1) rfl fps_nil)) hM2) (i := 4) rfl (Or.inr rfl)) (fps_cons (i := 0) rfl (fps_cons (i := 1) rfl (fps_cons (i := 2) rfl (fps_cons (i := 3) rfl (fps_cons (i := 4) rfl fps_nil))))) hM45)
      · refine an_m_sign (fun r47 M48 hM48 => ?_)
        exact hQ _ _ (eqo_tr (eqo_wi (eqo_tr (eqo_wi (eqo_tr (eqo_rf _) (fps_cons (i := 0) rfl (fps_cons (i := 1) rfl fps_nil)) hM2) (i := 4) rfl (Or.inr rfl)) (fps_cons (i := 0) rfl (fps_cons (i := 1) rfl (fps_cons (i := 2) rfl (fps_cons (i := 3) rfl (fps_cons (i := 4) rfl fps_nil))))) hM45) (i := 4) rfl (Or.inr rfl)) (fps_cons (i := 0) rfl (fps_cons (i := 1) rfl fps_nil)) hM48)
def fp_m_readAllOf  : List (Nat × Nat × Option Nat) := [(190, 190, some 21), (190, 190, some 19), (202, 202, none), (190, 190, some 25), (190, 190, some 22)]
theorem an_m_readAllOf_9 {M0 : MM} {Q : Int32 → MM → Prop} (hQ : ∀ (r : Int32) (M1 : MM), Eqo fp_m_readAllOf M0 M1 → Q r M1) : ∀ (N : Nat) (M : MM), Eqo fp_m_readAllOf M0 M → W_m_readAllOf_9 Q N M := by
  refine I_m_readAllOf_9 Q (fun M => Eqo fp_m_readAllOf M0 M) (fun N ih M hih hM => ?_)
  unfold B_m_readAllOf_9
  refine an_m_passes (fun r4 M5 hM5 => ?_)
  refine ⟨fun _ => ?_, fun _ => ?_⟩
  · exact hQ _ _ (eqo_tr hM (fps_cons (i := 0) rfl (fps_cons (i := 1) rfl fps_nil)) hM5)
  · refine an_m_readAtom (fun r7 M8 hM8 => ?_)
    refine ⟨fun _ => ?_, fun _ => ?_⟩
    · exact hQ _ _ (eqo_tr (eqo_tr hM (fps_cons (i := 0) rfl (fps_cons (i := 1) rfl fps_nil)) hM5) (fps_cons (i := 0) rfl (fps_cons (i := 1) rfl (fps_cons (i := 2) rfl (fps_cons (i := 3) rfl (fps_cons (i := 4) rfl fps_nil))))) hM8)
    · refine an_m_emits (fun M11 hM11 => ?_)
      exact hih _ (eqo_tr (eqo_tr (eqo_tr hM (fps_cons (i := 0) rfl (fps_cons (i := 1) rfl fps_nil)) hM5) (fps_cons (i := 0) rfl (fps_cons (i := 1) rfl (fps_cons (i := 2) rfl (fps_cons (i := 3) rfl (fps_cons (i := 4) rfl fps_nil))))) hM8) (fps_cons (i := 2) rfl (fps_cons (i := 3) rfl fps_nil)) hM11)
theorem an_m_readAllOf  {N : Nat} {M : MM} {Q : Int32 → MM → Prop} (hQ : ∀ (r : Int32) (M1 : MM), Eqo fp_m_readAllOf M M1 → Q r M1) : W_m_readAllOf  N M Q := by
  unfold W_m_readAllOf
  refine an_m_readAtom (fun r1 M2 hM2 => ?_)
  refine ⟨fun _ => ?_, fun _ => ?_⟩
  · exact hQ _ _ (eqo_tr (eqo_rf _) (fps_cons (i := 0) rfl (fps_cons (i := 1) rfl (fps_cons (i := 2) rfl (fps_cons (i := 3) rfl (fps_cons (i := 4) rfl fps_nil))))) hM2)
  · refine an_m_readAllOf_9   hQ N _ (eqo_tr (eqo_rf _) (fps_cons (i := 0) rfl (fps_cons (i := 1) rfl (fps_cons (i := 2) rfl (fps_cons (i := 3) rfl (fps_cons (i := 4) rfl fps_nil))))) hM2)
def fp_m_readCond  : List (Nat × Nat × Option Nat) := [(190, 190, some 21), (190, 190, some 19), (202, 202, none), (190, 190, some 25), (190, 190, some 22)]
theorem an_m_readCond_9 {M0 : MM} {Q : Int32 → MM → Prop} (hQ : ∀ (r : Int32) (M1 : MM), Eqo fp_m_readCond M0 M1 → Q r M1) : ∀ (N : Nat) (M : MM), Eqo fp_m_readCond M0 M → W_m_readCond_9 Q N M := by
  refine I_m_readCond_9 Q (fun M => Eqo fp_m_readCond M0 M) (fun N ih M hih hM => ?_)
  unfold B_m_readCond_9
  refine an_m_passes (fun r4 M5 hM5 => ?_)
  refine ⟨fun _ => ?_, fun _ => ?_⟩
  · exact hQ _ _ (eqo_tr hM (fps_cons (i := 0) rfl (fps_cons (i := 1) rfl fps_nil)) hM5)
  · refine an_m_readAllOf (fun r7 M8 hM8 => ?_)
    refine ⟨fun _ => ?_, fun _ => ?_⟩
    · exact hQ _ _ (eqo_tr (eqo_tr hM (fps_cons (i := 0) rfl (fps_cons (i := 1) rfl fps_nil)) hM5) (fps_cons (i := 0) rfl (fps_cons (i := 1) rfl (fps_cons (i := 2) rfl (fps_cons (i := 3) rfl (fps_cons (i := 4) rfl fps_nil))))) hM8)
    · refine an_m_emits (fun M11 hM11 => ?_)
      exact hih _ (eqo_tr (eqo_tr (eqo_tr hM (fps_cons (i := 0) rfl (fps_cons (i := 1) rfl fps_nil)) hM5) (fps_cons (i := 0) rfl (fps_cons (i := 1) rfl (fps_cons (i := 2) rfl (fps_cons (i := 3) rfl (fps_cons (i := 4) rfl fps_nil))))) hM8) (fps_cons (i := 2) rfl (fps_cons (i := 3) rfl fps_nil)) hM11)
theorem an_m_readCond  {N : Nat} {M : MM} {Q : Int32 → MM → Prop} (hQ : ∀ (r : Int32) (M1 : MM), Eqo fp_m_readCond M M1 → Q r M1) : W_m_readCond  N M Q := by
  unfold W_m_readCond
  refine an_m_readAllOf (fun r1 M2 hM2 => ?_)
  refine ⟨fun _ => ?_, fun _ => ?_⟩
  · exact hQ _ _ (eqo_tr (eqo_rf _) (fps_cons (i := 0) rfl (fps_cons (i := 1) rfl (fps_cons (i := 2) rfl (fps_cons (i := 3) rfl (fps_cons (i := 4) rfl fps_nil))))) hM2)
  · refine an_m_readCond_9   hQ N _ (eqo_tr (eqo_rf _) (fps_cons (i := 0) rfl (fps_cons (i := 1) rfl (fps_cons (i := 2) rfl (fps_cons (i := 3) rfl (fps_cons (i := 4) rfl fps_nil))))) hM2)
def fp_m_readClause  : List (Nat × Nat × Option Nat) := [(201, 201, none), (190, 190, some 21), (190, 190, some 19), (190, 190, some 22), (202, 202, none), (190, 190, some 25)]
theorem an_m_readClause {p1 : Int32} {N : Nat} {M : MM} {Q : Int32 → MM → Prop} (hQ : ∀ (r : Int32) (M1 : MM), Eqo fp_m_readClause M M1 → Q r M1) : W_m_readClause p1 N M Q := by
  unfold W_m_readClause
  refine ⟨fun _ => ?_, fun _ => ?_⟩
  · exact hQ _ _ (eqo_rf _)
  · refine an_m_isWord (fun r2 => ?_)
    refine ⟨fun _ => ?_, fun _ => ?_⟩
    · refine an_m_isWord (fun r5 => ?_)
      refine ⟨fun _ => ?_, fun _ => ?_⟩
      · exact hQ _ _ (eqo_rf _)
      · refine ⟨fun _ => ?_, fun _ => ?_⟩
        · refine an_m_number (fun r9 M10 hM10 => ?_)
          refine ⟨fun _ => ?_, fun _ => ?_⟩
          · exact hQ _ _ (eqo_wi (eqo_tr (eqo_wi (eqo_rf _) (i := 0) rfl (Or.inl rfl)) (fps_cons (i := 1) rfl (fps_cons (i := 2) rfl fps_nil)) hM10) (i := 0) rfl (Or.inl rfl))
          · refine an_m_passes (fun r12 M13 hM13 => ?_)
            refine ⟨fun _ => ?_, fun _ => ?_⟩
            · exact hQ _ _ (eqo_wi (eqo_tr (eqo_wi (eqo_wi (eqo_wi (eqo_tr (eqo_wi (eqo_rf _) (i := 0) rfl (Or.inl rfl)) (fps_cons (i := 1) rfl (fps_cons (i := 2) rfl fps_nil)) hM10) (i := 0) rfl (Or.inl rfl)) (i := 0) rfl (Or.inl rfl)) (i := 3) rfl (Or.inr rfl)) (fps_cons (i := 1) rfl (fps_cons (i := 2) rfl fps_nil)) hM13) (i := 0) rfl (Or.inl rfl))
            · refine an_m_readCond (fun r15 M16 hM16 => ?_)
              refine ⟨fun _ => ?_, fun _ => ?_⟩
              · exact hQ _ _ (eqo_tr (eqo_tr (eqo_wi (eqo_wi (eqo_wi (eqo_tr (eqo_wi (eqo_rf _) (i := 0) rfl (Or.inl rfl)) (fps_cons (i := 1) rfl (fps_cons (i := 2) rfl fps_nil)) hM10) (i := 0) rfl (Or.inl rfl)) (i := 0) rfl (Or.inl rfl)) (i := 3) rfl (Or.inr rfl)) (fps_cons (i := 1) rfl (fps_cons (i := 2) rfl fps_nil)) hM13) (fps_cons (i := 1) rfl (fps_cons (i := 2) rfl (fps_cons (i := 4) rfl (fps_cons (i := 5) rfl (fps_cons (i := 3) rfl fps_nil))))) hM16)
              · exact hQ _ _ (eqo_wi (eqo_tr (eqo_tr (eqo_wi (eqo_wi (eqo_wi (eqo_tr (eqo_wi (eqo_rf _) (i := 0) rfl (Or.inl rfl)) (fps_cons (i := 1) rfl (fps_cons (i := 2) rfl fps_nil)) hM10) (i := 0) rfl (Or.inl rfl)) (i := 0) rfl (Or.inl rfl)) (i := 3) rfl (Or.inr rfl)) (fps_cons (i := 1) rfl (fps_cons (i := 2) rfl fps_nil)) hM13) (fps_cons (i := 1) rfl (fps_cons (i := 2) rfl (fps_cons (i := 4) rfl (fps_cons (i := 5) rfl (fps_cons (i := 3) rfl fps_nil))))) hM16) (i := 0) rfl (Or.inl rfl))
        · refine an_m_number (fun r18 M19 hM19 => ?_)
          refine ⟨fun _ => ?_, fun _ => ?_⟩
          · exact hQ _ _ (eqo_wi (eqo_tr (eqo_wi (eqo_rf _) (i := 0) rfl (Or.inl rfl)) (fps_cons (i := 1) rfl (fps_cons (i := 2) rfl fps_nil)) hM19) (i := 0) rfl (Or.inl rfl))
          · refine an_m_passes (fun r21 M22 hM22 => ?_)
            refine ⟨fun _ => ?_, fun _ => ?_⟩
            · exact hQ _ _ (eqo_wi (eqo_tr (eqo_wi (eqo_wi (eqo_wi (eqo_tr (eqo_wi (eqo_rf _) (i := 0) rfl (Or.inl rfl)) (fps_cons (i := 1) rfl (fps_cons (i := 2) rfl fps_nil)) hM19) (i := 0) rfl (Or.inl rfl)) (i := 0) rfl (Or.inl rfl)) (i := 3) rfl (Or.inr rfl)) (fps_cons (i := 1) rfl (fps_cons (i := 2) rfl fps_nil)) hM22) (i := 0) rfl (Or.inl rfl))
            · refine an_m_readCond (fun r24 M25 hM25 => ?_)
              refine ⟨fun _ => ?_, fun _ => ?_⟩
              · exact hQ _ _ (eqo_tr (eqo_tr (eqo_wi (eqo_wi (eqo_wi (eqo_tr (eqo_wi (eqo_rf _) (i := 0) rfl (Or.inl rfl)) (fps_cons (i := 1) rfl (fps_cons (i := 2) rfl fps_nil)) hM19) (i := 0) rfl (Or.inl rfl)) (i := 0) rfl (Or.inl rfl)) (i := 3) rfl (Or.inr rfl)) (fps_cons (i := 1) rfl (fps_cons (i := 2) rfl fps_nil)) hM22) (fps_cons (i := 1) rfl (fps_cons (i := 2) rfl (fps_cons (i := 4) rfl (fps_cons (i := 5) rfl (fps_cons (i := 3) rfl fps_nil))))) hM25)
              · exact hQ _ _ (eqo_wi (eqo_tr (eqo_tr (eqo_wi (eqo_wi (eqo_wi (eqo_tr (eqo_wi (eqo_rf _) (i := 0) rfl (Or.inl rfl)) (fps_cons (i := 1) rfl (fps_cons (i := 2) rfl fps_nil)) hM19) (i := 0) rfl (Or.inl rfl)) (i := 0) rfl (Or.inl rfl)) (i := 3) rfl (Or.inr rfl)) (fps_cons (i := 1) rfl (fps_cons (i := 2) rfl fps_nil)) hM22) (fps_cons (i := 1) rfl (fps_cons (i := 2) rfl (fps_cons (i := 4) rfl (fps_cons (i := 5) rfl (fps_cons (i := 3) rfl fps_nil))))) hM25) (i := 0) rfl (Or.inl rfl))
    · refine ⟨fun _ => ?_, fun _ => ?_⟩
      · refine an_m_number (fun r28 M29 hM29 => ?_)
        refine ⟨fun _ => ?_, fun _ => ?_⟩
        · exact hQ _ _ (eqo_wi (eqo_tr (eqo_wi (eqo_rf _) (i := 0) rfl (Or.inl rfl)) (fps_cons (i := 1) rfl (fps_cons (i := 2) rfl fps_nil)) hM29) (i := 0) rfl (Or.inl rfl))
        · refine an_m_passes (fun r31 M32 hM32 => ?_)
          refine ⟨fun _ => ?_, fun _ => ?_⟩
          · exact hQ _ _ (eqo_wi (eqo_tr (eqo_wi (eqo_wi (eqo_wi (eqo_tr (eqo_wi (eqo_rf _) (i := 0) rfl (Or.inl rfl)) (fps_cons (i := 1) rfl (fps_cons (i := 2) rfl fps_nil)) hM29) (i := 0) rfl (Or.inl rfl)) (i := 0) rfl (Or.inl rfl)) (i := 3) rfl (Or.inr rfl)) (fps_cons (i := 1) rfl (fps_cons (i := 2) rfl fps_nil)) hM32) (i := 0) rfl (Or.inl rfl))
          · refine an_m_readCond (fun r34 M35 hM35 => ?_)
            refine ⟨fun _ => ?_, fun _ => ?_⟩
            · exact hQ _ _ (eqo_tr (eqo_tr (eqo_wi (eqo_wi (eqo_wi (eqo_tr (eqo_wi (eqo_rf _) (i := 0) rfl (Or.inl rfl)) (fps_cons (i := 1) rfl (fps_cons (i := 2) rfl fps_nil)) hM29) (i := 0) rfl (Or.inl rfl)) (i := 0) rfl (Or.inl rfl)) (i := 3) rfl (Or.inr rfl)) (fps_cons (i := 1) rfl (fps_cons (i := 2) rfl fps_nil)) hM32) (fps_cons (i := 1) rfl (fps_cons (i := 2) rfl (fps_cons (i := 4) rfl (fps_cons (i := 5) rfl (fps_cons (i := 3) rfl fps_nil))))) hM35)
            · exact hQ _ _ (eqo_wi (eqo_tr (eqo_tr (eqo_wi (eqo_wi (eqo_wi (eqo_tr (eqo_wi (eqo_rf _) (i := 0) rfl (Or.inl rfl)) (fps_cons (i := 1) rfl (fps_cons (i := 2) rfl fps_nil)) hM29) (i := 0) rfl (Or.inl rfl)) (i := 0) rfl (Or.inl rfl)) (i := 3) rfl (Or.inr rfl)) (fps_cons (i := 1) rfl (fps_cons (i := 2) rfl fps_nil)) hM32) (fps_cons (i := 1) rfl (fps_cons (i := 2) rfl (fps_cons (i := 4) rfl (fps_cons (i := 5) rfl (fps_cons (i := 3) rfl fps_nil))))) hM35) (i := 0) rfl (Or.inl rfl))
      · refine an_m_number (fun r37 M38 hM38 => ?_)
        refine ⟨fun _ => ?_, fun _ => ?_⟩
        · exact hQ _ _ (eqo_wi (eqo_tr (eqo_wi (eqo_rf _) (i := 0) rfl (Or.inl rfl)) (fps_cons (i := 1) rfl (fps_cons (i := 2) rfl fps_nil)) hM38) (i := 0) rfl (Or.inl rfl))
        · refine an_m_passes (fun r40 M41 hM41 => ?_)
          refine ⟨fun _ => ?_, fun _ => ?_⟩
          · exact hQ _ _ (eqo_wi (eqo_tr (eqo_wi (eqo_wi (eqo_wi (eqo_tr (eqo_wi (eqo_rf _) (i := 0) rfl (Or.inl rfl)) (fps_cons (i := 1) rfl (fps_cons (i := 2) rfl fps_nil)) hM38) (i := 0) rfl (Or.inl rfl)) (i := 0) rfl (Or.inl rfl)) (i := 3) rfl (Or.inr rfl)) (fps_cons (i := 1) rfl (fps_cons (i := 2) rfl fps_nil)) hM41) (i := 0) rfl (Or.inl rfl))
          · refine an_m_readCond (fun r43 M44 hM44 => ?_)
            refine ⟨fun _ => ?_, fun _ => ?_⟩
            · exact hQ _ _ (eqo_tr (eqo_tr (eqo_wi (eqo_wi (eqo_wi (eqo_tr (eqo_wi (eqo_rf _) (i := 0) rfl (Or.inl rfl)) (fps_cons (i := 1) rfl (fps_cons (i := 2) rfl fps_nil)) hM38) (i := 0) rfl (Or.inl rfl)) (i := 0) rfl (Or.inl rfl)) (i := 3) rfl (Or.inr rfl)) (fps_cons (i := 1) rfl (fps_cons (i := 2) rfl fps_nil)) hM41) (fps_cons (i := 1) rfl (fps_cons (i := 2) rfl (fps_cons (i := 4) rfl (fps_cons (i := 5) rfl (fps_cons (i := 3) rfl fps_nil))))) hM44)
            · exact hQ _ _ (eqo_wi (eqo_tr (eqo_tr (eqo_wi (eqo_wi (eqo_wi (eqo_tr (eqo_wi (eqo_rf _) (i := 0) rfl (Or.inl rfl)) (fps_cons (i := 1) rfl (fps_cons (i := 2) rfl fps_nil)) hM38) (i := 0) rfl (Or.inl rfl)) (i := 0) rfl (Or.inl rfl)) (i := 3) rfl (Or.inr rfl)) (fps_cons (i := 1) rfl (fps_cons (i := 2) rfl fps_nil)) hM41) (fps_cons (i := 1) rfl (fps_cons (i := 2) rfl (fps_cons (i := 4) rfl (fps_cons (i := 5) rfl (fps_cons (i := 3) rfl fps_nil))))) hM44) (i := 0) rfl (Or.inl rfl))
def fp_m_readHabit  : List (Nat × Nat × Option Nat) := [(190, 190, some 21), (190, 190, some 19), (191, 191, none)]
theorem an_m_readHabit_2 {M0 : MM} {p1 : Int32} {Q : Int32 → MM → Prop} (hQ : ∀ (r : Int32) (M1 : MM), Eqo fp_m_readHabit M0 M1 → Q r M1) : ∀ (N : Nat) (v2 : Int32) (M : MM), Eqo fp_m_readHabit M0 M → W_m_readHabit_2 p1 Q N v2 M := by
  refine I_m_readHabit_2 p1 Q (fun _ M => Eqo fp_m_readHabit M0 M) (fun N ih v2 M hih hM => ?_)
  unfold B_m_readHabit_2
  refine ⟨fun _ => ?_, fun _ => ?_⟩
  · exact hQ _ _ hM
  · refine an_m_matterTold (fun r3 M4 hM4 => ?_)
    refine ⟨fun _ => ?_, fun _ => ?_⟩
    · exact hQ _ _ (eqo_tr hM (fps_cons (i := 0) rfl (fps_cons (i := 1) rfl fps_nil)) hM4)
    · refine an_m_sets (fun M7 hM7 => ?_)
      refine an_m_isFigure (fun r8 M9 hM9 => ?_)
      refine ⟨fun _ => ?_, fun _ => ?_⟩
      · refine an_m_sets (fun M12 hM12 => ?_)
        exact hQ _ _ (eqo_tr (eqo_tr (eqo_tr (eqo_tr hM (fps_cons (i := 0) rfl (fps_cons (i := 1) rfl fps_nil)) hM4) (fps_cons (i := 2) rfl fps_nil) hM7) (fps_cons (i := 0) rfl (fps_cons (i := 1) rfl fps_nil)) hM9) (fps_cons (i := 2) rfl fps_nil) hM12)
      · exact hih _ _ (eqo_tr (eqo_tr (eqo_tr hM (fps_cons (i := 0) rfl (fps_cons (i := 1) rfl fps_nil)) hM4) (fps_cons (i := 2) rfl fps_nil) hM7) (fps_cons (i := 0) rfl (fps_cons (i := 1) rfl fps_nil)) hM9)
theorem an_m_readHabit {p1 : Int32} {N : Nat} {M : MM} {Q : Int32 → MM → Prop} (hQ : ∀ (r : Int32) (M1 : MM), Eqo fp_m_readHabit M M1 → Q r M1) : W_m_readHabit p1 N M Q := by
  unfold W_m_readHabit
  refine an_m_readHabit_2   hQ N _ _ (eqo_rf _)
def fp_m_readKnows  : List (Nat × Nat × Option Nat) := [(190, 190, some 21), (190, 190, some 19), (191, 191, none)]
theorem an_m_readKnows_0 {M0 : MM} {p1 : Int32} {Q : Int32 → MM → Prop} (hQ : ∀ (r : Int32) (M1 : MM), Eqo fp_m_readKnows M0 M1 → Q r M1) : ∀ (N : Nat) (M : MM), Eqo fp_m_readKnows M0 M → W_m_readKnows_0 p1 Q N M := by
  refine I_m_readKnows_0 p1 Q (fun M => Eqo fp_m_readKnows M0 M) (fun N ih M hih hM => ?_)
  unfold B_m_readKnows_0
  refine an_m_number (fun r1 M2 hM2 => ?_)
  refine ⟨fun _ => ?_, fun _ => ?_⟩
  · exact hQ _ _ (eqo_tr hM (fps_cons (i := 0) rfl (fps_cons (i := 1) rfl fps_nil)) hM2)
  · refine an_m_sets (fun M5 hM5 => ?_)
    refine an_m_isFigure (fun r6 M7 hM7 => ?_)
    refine ⟨fun _ => ?_, fun _ => ?_⟩
    · exact hQ _ _ (eqo_tr (eqo_tr (eqo_tr hM (fps_cons (i := 0) rfl (fps_cons (i := 1) rfl fps_nil)) hM2) (fps_cons (i := 2) rfl fps_nil) hM5) (fps_cons (i := 0) rfl (fps_cons (i := 1) rfl fps_nil)) hM7)
    · exact hih _ (eqo_tr (eqo_tr (eqo_tr hM (fps_cons (i := 0) rfl (fps_cons (i := 1) rfl fps_nil)) hM2) (fps_cons (i := 2) rfl fps_nil) hM5) (fps_cons (i := 0) rfl (fps_cons (i := 1) rfl fps_nil)) hM7)
theorem an_m_readKnows {p1 : Int32} {N : Nat} {M : MM} {Q : Int32 → MM → Prop} (hQ : ∀ (r : Int32) (M1 : MM), Eqo fp_m_readKnows M M1 → Q r M1) : W_m_readKnows p1 N M Q := by
  unfold W_m_readKnows
  refine an_m_readKnows_0   hQ N _ (eqo_rf _)
