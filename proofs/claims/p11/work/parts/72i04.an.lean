/-! WHAT EACH METHOD WRITES (gw.py) -/
def fp_m_readCitizen  : List (Nat × Nat × Option Nat) := [(196, 196, none), (191, 191, none), (190, 190, some 21), (190, 190, some 19)]
theorem an_m_readCitizen_15 {M0 : MM} {u1 : Int32} {k34 : MM → Prop} {Q : Int32 → MM → Prop} (hk34 : ∀  (M : MM), Eqo fp_m_readCitizen M0 M → k34 M) (hQ : ∀ (r : Int32) (M1 : MM), Eqo fp_m_readCitizen M0 M1 → Q r M1) : ∀ (N : Nat) (v2 : Int32) (M : MM), Eqo fp_m_readCitizen M0 M → W_m_readCitizen_15 u1 k34 Q N v2 M := by
  refine I_m_readCitizen_15 u1 k34 Q (fun _ M => Eqo fp_m_readCitizen M0 M) (fun N ih v2 M hih hM => ?_)
  unfold B_m_readCitizen_15
  refine ⟨fun _ => ?_, fun _ => ?_⟩
  · refine an_m_sets (fun M4 hM4 => ?_)
    exact hih _ _ (eqo_tr hM (fps_cons (i := 1) rfl fps_nil) hM4)
  · exact hk34 _ hM
theorem an_m_readCitizen  {N : Nat} {M : MM} {Q : Int32 → MM → Prop} (hQ : ∀ (r : Int32) (M1 : MM), Eqo fp_m_readCitizen M M1 → Q r M1) : W_m_readCitizen  N M Q := by
  unfold W_m_readCitizen
  refine ⟨fun _ => ?_, fun _ => ?_⟩
  · exact hQ _ _ (eqo_rf _)
  · refine an_m_readCitizen_15  (fun M5 hMM5 => ?_) hQ N _ _ (eqo_rf _)
    · refine an_m_sets (fun M7 hM7 => ?_)
      refine an_m_sets (fun M9 hM9 => ?_)
      refine an_m_letters (fun M11 hM11 => ?_)
      refine an_m_isWord (fun r12 => ?_)
      refine ⟨fun _ => ?_, fun _ => ?_⟩
      · exact hQ _ _ (eqo_tr (eqo_tr (eqo_tr (eqo_wj hMM5 (i := 0) rfl (Or.inl rfl)) (fps_cons (i := 1) rfl fps_nil) hM7) (fps_cons (i := 1) rfl fps_nil) hM9) (fps_cons (i := 2) rfl (fps_cons (i := 3) rfl fps_nil)) hM11)
      · refine an_m_number (fun r15 M16 hM16 => ?_)
        refine an_m_sets (fun M18 hM18 => ?_)
        refine ⟨fun _ => ?_, fun _ => ?_⟩
        · exact hQ _ _ (eqo_tr (eqo_tr (eqo_tr (eqo_tr (eqo_tr (eqo_wj hMM5 (i := 0) rfl (Or.inl rfl)) (fps_cons (i := 1) rfl fps_nil) hM7) (fps_cons (i := 1) rfl fps_nil) hM9) (fps_cons (i := 2) rfl (fps_cons (i := 3) rfl fps_nil)) hM11) (fps_cons (i := 2) rfl (fps_cons (i := 3) rfl fps_nil)) hM16) (fps_cons (i := 1) rfl fps_nil) hM18)
        · refine an_m_letters (fun M21 hM21 => ?_)
          refine an_m_isWord (fun r22 => ?_)
          refine ⟨fun _ => ?_, fun _ => ?_⟩
          · exact hQ _ _ (eqo_tr (eqo_tr (eqo_tr (eqo_tr (eqo_tr (eqo_tr (eqo_wj hMM5 (i := 0) rfl (Or.inl rfl)) (fps_cons (i := 1) rfl fps_nil) hM7) (fps_cons (i := 1) rfl fps_nil) hM9) (fps_cons (i := 2) rfl (fps_cons (i := 3) rfl fps_nil)) hM11) (fps_cons (i := 2) rfl (fps_cons (i := 3) rfl fps_nil)) hM16) (fps_cons (i := 1) rfl fps_nil) hM18) (fps_cons (i := 2) rfl (fps_cons (i := 3) rfl fps_nil)) hM21)
          · refine an_m_readHabit (fun r25 M26 hM26 => ?_)
            refine ⟨fun _ => ?_, fun _ => ?_⟩
            · exact hQ _ _ (eqo_tr (eqo_tr (eqo_tr (eqo_tr (eqo_tr (eqo_tr (eqo_tr (eqo_wj hMM5 (i := 0) rfl (Or.inl rfl)) (fps_cons (i := 1) rfl fps_nil) hM7) (fps_cons (i := 1) rfl fps_nil) hM9) (fps_cons (i := 2) rfl (fps_cons (i := 3) rfl fps_nil)) hM11) (fps_cons (i := 2) rfl (fps_cons (i := 3) rfl fps_nil)) hM16) (fps_cons (i := 1) rfl fps_nil) hM18) (fps_cons (i := 2) rfl (fps_cons (i := 3) rfl fps_nil)) hM21) (fps_cons (i := 2) rfl (fps_cons (i := 3) rfl (fps_cons (i := 1) rfl fps_nil))) hM26)
            · refine an_m_passes (fun r28 M29 hM29 => ?_)
              refine ⟨fun _ => ?_, fun _ => ?_⟩
              · exact hQ _ _ (eqo_wi (eqo_tr (eqo_tr (eqo_tr (eqo_tr (eqo_tr (eqo_tr (eqo_tr (eqo_tr (eqo_wj hMM5 (i := 0) rfl (Or.inl rfl)) (fps_cons (i := 1) rfl fps_nil) hM7) (fps_cons (i := 1) rfl fps_nil) hM9) (fps_cons (i := 2) rfl (fps_cons (i := 3) rfl fps_nil)) hM11) (fps_cons (i := 2) rfl (fps_cons (i := 3) rfl fps_nil)) hM16) (fps_cons (i := 1) rfl fps_nil) hM18) (fps_cons (i := 2) rfl (fps_cons (i := 3) rfl fps_nil)) hM21) (fps_cons (i := 2) rfl (fps_cons (i := 3) rfl (fps_cons (i := 1) rfl fps_nil))) hM26) (fps_cons (i := 2) rfl (fps_cons (i := 3) rfl fps_nil)) hM29) (i := 1) rfl (Or.inl rfl))
              · refine an_m_readKnows (fun r31 M32 hM32 => ?_)
                refine ⟨fun _ => ?_, fun _ => ?_⟩
                · exact hQ _ _ (eqo_tr (eqo_tr (eqo_tr (eqo_tr (eqo_tr (eqo_tr (eqo_tr (eqo_tr (eqo_tr (eqo_wj hMM5 (i := 0) rfl (Or.inl rfl)) (fps_cons (i := 1) rfl fps_nil) hM7) (fps_cons (i := 1) rfl fps_nil) hM9) (fps_cons (i := 2) rfl (fps_cons (i := 3) rfl fps_nil)) hM11) (fps_cons (i := 2) rfl (fps_cons (i := 3) rfl fps_nil)) hM16) (fps_cons (i := 1) rfl fps_nil) hM18) (fps_cons (i := 2) rfl (fps_cons (i := 3) rfl fps_nil)) hM21) (fps_cons (i := 2) rfl (fps_cons (i := 3) rfl (fps_cons (i := 1) rfl fps_nil))) hM26) (fps_cons (i := 2) rfl (fps_cons (i := 3) rfl fps_nil)) hM29) (fps_cons (i := 2) rfl (fps_cons (i := 3) rfl (fps_cons (i := 1) rfl fps_nil))) hM32)
                · exact hQ _ _ (eqo_wi (eqo_tr (eqo_tr (eqo_tr (eqo_tr (eqo_tr (eqo_tr (eqo_tr (eqo_tr (eqo_tr (eqo_wj hMM5 (i := 0) rfl (Or.inl rfl)) (fps_cons (i := 1) rfl fps_nil) hM7) (fps_cons (i := 1) rfl fps_nil) hM9) (fps_cons (i := 2) rfl (fps_cons (i := 3) rfl fps_nil)) hM11) (fps_cons (i := 2) rfl (fps_cons (i := 3) rfl fps_nil)) hM16) (fps_cons (i := 1) rfl fps_nil) hM18) (fps_cons (i := 2) rfl (fps_cons (i := 3) rfl fps_nil)) hM21) (fps_cons (i := 2) rfl (fps_cons (i := 3) rfl (fps_cons (i := 1) rfl fps_nil))) hM26) (fps_cons (i := 2) rfl (fps_cons (i := 3) rfl fps_nil)) hM29) (fps_cons (i := 2) rfl (fps_cons (i := 3) rfl (fps_cons (i := 1) rfl fps_nil))) hM32) (i := 1) rfl (Or.inl rfl))
def fp_m_citizenTold  : List (Nat × Nat × Option Nat) := [(190, 190, some 21), (190, 190, some 19)]
theorem an_m_citizenTold  {N : Nat} {M : MM} {Q : Int32 → MM → Prop} (hQ : ∀ (r : Int32) (M1 : MM), Eqo fp_m_citizenTold M M1 → Q r M1) : W_m_citizenTold  N M Q := by
  unfold W_m_citizenTold
  refine an_m_number (fun r1 M2 hM2 => ?_)
  refine ⟨fun _ => ?_, fun _ => ?_⟩
  · exact hQ _ _ (eqo_tr (eqo_rf _) (fps_cons (i := 0) rfl (fps_cons (i := 1) rfl fps_nil)) hM2)
  · refine ⟨fun _ => ?_, fun _ => ?_⟩
    · exact hQ _ _ (eqo_tr (eqo_rf _) (fps_cons (i := 0) rfl (fps_cons (i := 1) rfl fps_nil)) hM2)
    · exact hQ _ _ (eqo_tr (eqo_rf _) (fps_cons (i := 0) rfl (fps_cons (i := 1) rfl fps_nil)) hM2)
def fp_m_weds  : List (Nat × Nat × Option Nat) := [(191, 191, none)]
theorem an_m_weds {p1 : Int32} {p2 : Int32} {N : Nat} {M : MM} {Q : MM → Prop} (hQ : ∀  (M1 : MM), Eqo fp_m_weds M M1 → Q M1) : W_m_weds p1 p2 N M Q := by
  unfold W_m_weds
  refine an_m_sets (fun M2 hM2 => ?_)
  refine an_m_sets (fun M4 hM4 => ?_)
  refine an_m_sets (fun M6 hM6 => ?_)
  refine an_m_sets (fun M8 hM8 => ?_)
  exact hQ _ (eqo_tr (eqo_tr (eqo_tr (eqo_tr (eqo_rf _) (fps_cons (i := 0) rfl fps_nil) hM2) (fps_cons (i := 0) rfl fps_nil) hM4) (fps_cons (i := 0) rfl fps_nil) hM6) (fps_cons (i := 0) rfl fps_nil) hM8)
def fp_m_readWed  : List (Nat × Nat × Option Nat) := [(190, 190, some 21), (190, 190, some 19), (191, 191, none)]
theorem an_m_readWed  {N : Nat} {M : MM} {Q : Int32 → MM → Prop} (hQ : ∀ (r : Int32) (M1 : MM), Eqo fp_m_readWed M M1 → Q r M1) : W_m_readWed  N M Q := by
  unfold W_m_readWed
  refine an_m_citizenTold (fun r1 M2 hM2 => ?_)
  refine ⟨fun _ => ?_, fun _ => ?_⟩
  · exact hQ _ _ (eqo_tr (eqo_rf _) (fps_cons (i := 0) rfl (fps_cons (i := 1) rfl fps_nil)) hM2)
  · refine an_m_citizenTold (fun r4 M5 hM5 => ?_)
    refine ⟨fun _ => ?_, fun _ => ?_⟩
    · exact hQ _ _ (eqo_tr (eqo_tr (eqo_rf _) (fps_cons (i := 0) rfl (fps_cons (i := 1) rfl fps_nil)) hM2) (fps_cons (i := 0) rfl (fps_cons (i := 1) rfl fps_nil)) hM5)
    · refine ⟨fun _ => ?_, fun _ => ?_⟩
      · exact hQ _ _ (eqo_tr (eqo_tr (eqo_rf _) (fps_cons (i := 0) rfl (fps_cons (i := 1) rfl fps_nil)) hM2) (fps_cons (i := 0) rfl (fps_cons (i := 1) rfl fps_nil)) hM5)
      · refine an_m_weds (fun M9 hM9 => ?_)
        exact hQ _ _ (eqo_tr (eqo_tr (eqo_tr (eqo_rf _) (fps_cons (i := 0) rfl (fps_cons (i := 1) rfl fps_nil)) hM2) (fps_cons (i := 0) rfl (fps_cons (i := 1) rfl fps_nil)) hM5) (fps_cons (i := 2) rfl fps_nil) hM9)
def fp_m_readSeen  : List (Nat × Nat × Option Nat) := [(190, 190, some 21), (190, 190, some 19), (196, 196, none)]
theorem an_m_readSeen  {N : Nat} {M : MM} {Q : Int32 → MM → Prop} (hQ : ∀ (r : Int32) (M1 : MM), Eqo fp_m_readSeen M M1 → Q r M1) : W_m_readSeen  N M Q := by
  unfold W_m_readSeen
  refine an_m_citizenTold (fun r1 M2 hM2 => ?_)
  refine ⟨fun _ => ?_, fun _ => ?_⟩
  · exact hQ _ _ (eqo_tr (eqo_rf _) (fps_cons (i := 0) rfl (fps_cons (i := 1) rfl fps_nil)) hM2)
  · refine an_m_matterTold (fun r6 M7 hM7 => ?_)
    refine ⟨fun _ => ?_, fun _ => ?_⟩
    · refine ⟨fun _ => ?_, fun _ => ?_⟩
      · exact hQ _ _ (eqo_tr (eqo_tr (eqo_rf _) (fps_cons (i := 0) rfl (fps_cons (i := 1) rfl fps_nil)) hM2) (fps_cons (i := 0) rfl (fps_cons (i := 1) rfl fps_nil)) hM7)
      · exact hQ _ _ (eqo_tr (eqo_tr (eqo_rf _) (fps_cons (i := 0) rfl (fps_cons (i := 1) rfl fps_nil)) hM2) (fps_cons (i := 0) rfl (fps_cons (i := 1) rfl fps_nil)) hM7)
    · refine ⟨fun _ => ?_, fun _ => ?_⟩
      · exact hQ _ _ (eqo_wj (eqo_tr (eqo_tr (eqo_rf _) (fps_cons (i := 0) rfl (fps_cons (i := 1) rfl fps_nil)) hM2) (fps_cons (i := 0) rfl (fps_cons (i := 1) rfl fps_nil)) hM7) (i := 2) rfl (Or.inl rfl))
      · exact hQ _ _ (eqo_wj (eqo_tr (eqo_tr (eqo_rf _) (fps_cons (i := 0) rfl (fps_cons (i := 1) rfl fps_nil)) hM2) (fps_cons (i := 0) rfl (fps_cons (i := 1) rfl fps_nil)) hM7) (i := 2) rfl (Or.inl rfl))
def fp_m_readNumber  : List (Nat × Nat × Option Nat) := [(190, 190, some 21), (190, 190, some 19), (191, 191, none)]
theorem an_m_readNumber {p1 : Int32} {p2 : Int32} {p3 : Int32} {N : Nat} {M : MM} {Q : Int32 → MM → Prop} (hQ : ∀ (r : Int32) (M1 : MM), Eqo fp_m_readNumber M M1 → Q r M1) : W_m_readNumber p1 p2 p3 N M Q := by
  unfold W_m_readNumber
  refine an_m_number (fun r1 M2 hM2 => ?_)
  refine ⟨fun _ => ?_, fun _ => ?_⟩
  · exact hQ _ _ (eqo_wi (eqo_tr (eqo_rf _) (fps_cons (i := 0) rfl (fps_cons (i := 1) rfl fps_nil)) hM2) (i := 2) rfl (Or.inl rfl))
  · exact hQ _ _ (eqo_wi (eqo_tr (eqo_rf _) (fps_cons (i := 0) rfl (fps_cons (i := 1) rfl fps_nil)) hM2) (i := 2) rfl (Or.inl rfl))
def fp_m_readRepublicLine  : List (Nat × Nat × Option Nat) := [(190, 190, some 21), (190, 190, some 19), (191, 191, none), (196, 196, none)]
theorem an_m_readRepublicLine {p1 : Int32} {N : Nat} {M : MM} {Q : Int32 → MM → Prop} (hQ : ∀ (r : Int32) (M1 : MM), Eqo fp_m_readRepublicLine M M1 → Q r M1) : W_m_readRepublicLine p1 N M Q := by
  unfold W_m_readRepublicLine
  refine ⟨fun _ => ?_, fun _ => ?_⟩
  · exact hQ _ _ (eqo_rf _)
  · refine an_m_isWord (fun r2 => ?_)
    refine ⟨fun _ => ?_, fun _ => ?_⟩
    · refine an_m_isWord (fun r5 => ?_)
      refine ⟨fun _ => ?_, fun _ => ?_⟩
      · refine an_m_isWord (fun r8 => ?_)
        refine ⟨fun _ => ?_, fun _ => ?_⟩
        · refine an_m_isWord (fun r11 => ?_)
          refine ⟨fun _ => ?_, fun _ => ?_⟩
          · refine an_m_isWord (fun r14 => ?_)
            refine ⟨fun _ => ?_, fun _ => ?_⟩
            · refine an_m_isWord (fun r17 => ?_)
              refine ⟨fun _ => ?_, fun _ => ?_⟩
              · exact hQ _ _ (eqo_rf _)
              · refine an_m_number (fun r20 M21 hM21 => ?_)
                refine ⟨fun _ => ?_, fun _ => ?_⟩
                · exact hQ _ _ (eqo_tr (eqo_rf _) (fps_cons (i := 0) rfl (fps_cons (i := 1) rfl fps_nil)) hM21)
                · refine an_m_readNumber (fun r23 M24 hM24 => ?_)
                  refine ⟨fun _ => ?_, fun _ => ?_⟩
                  · exact hQ _ _ (eqo_tr (eqo_tr (eqo_rf _) (fps_cons (i := 0) rfl (fps_cons (i := 1) rfl fps_nil)) hM21) (fps_cons (i := 0) rfl (fps_cons (i := 1) rfl (fps_cons (i := 2) rfl fps_nil))) hM24)
                  · exact hQ _ _ (eqo_tr (eqo_tr (eqo_rf _) (fps_cons (i := 0) rfl (fps_cons (i := 1) rfl fps_nil)) hM21) (fps_cons (i := 0) rfl (fps_cons (i := 1) rfl (fps_cons (i := 2) rfl fps_nil))) hM24)
            · refine an_m_readSeen (fun r26 M27 hM27 => ?_)
              exact hQ _ _ (eqo_tr (eqo_rf _) (fps_cons (i := 0) rfl (fps_cons (i := 1) rfl (fps_cons (i := 3) rfl fps_nil))) hM27)
          · refine an_m_readWed (fun r28 M29 hM29 => ?_)
            exact hQ _ _ (eqo_tr (eqo_rf _) (fps_cons (i := 0) rfl (fps_cons (i := 1) rfl (fps_cons (i := 2) rfl fps_nil))) hM29)
        · refine an_m_readNumber (fun r30 M31 hM31 => ?_)
          exact hQ _ _ (eqo_tr (eqo_rf _) (fps_cons (i := 0) rfl (fps_cons (i := 1) rfl (fps_cons (i := 2) rfl fps_nil))) hM31)
      · refine an_m_readNumber (fun r32 M33 hM33 => ?_)
        exact hQ _ _ (eqo_tr (eqo_rf _) (fps_cons (i := 0) rfl (fps_cons (i := 1) rfl (fps_cons (i := 2) rfl fps_nil))) hM33)
    · refine an_m_readCitizen (fun r34 M35 hM35 => ?_)
      exact hQ _ _ (eqo_tr (eqo_rf _) (fps_cons (i := 3) rfl (fps_cons (i := 2) rfl (fps_cons (i := 0) rfl (fps_cons (i := 1) rfl fps_nil)))) hM35)
def fp_m_readLine  : List (Nat × Nat × Option Nat) := [(190, 190, some 21), (190, 190, some 19), (191, 191, none), (196, 196, none), (201, 201, none), (190, 190, some 22), (202, 202, none), (190, 190, some 25)]
theorem an_m_readLine {p1 : Int32} {p2 : Int32} {N : Nat} {M : MM} {Q : Int32 → MM → Prop} (hQ : ∀ (r : Int32) (M1 : MM), Eqo fp_m_readLine M M1 → Q r M1) : W_m_readLine p1 p2 N M Q := by
  unfold W_m_readLine
  refine an_m_letters (fun M2 hM2 => ?_)
  refine ⟨fun _ => ?_, fun _ => ?_⟩
  · refine an_m_readRepublicLine (fun r4 M5 hM5 => ?_)
    exact hQ _ _ (eqo_tr (eqo_tr (eqo_rf _) (fps_cons (i := 0) rfl (fps_cons (i := 1) rfl fps_nil)) hM2) (fps_cons (i := 0) rfl (fps_cons (i := 1) rfl (fps_cons (i := 2) rfl (fps_cons (i := 3) rfl fps_nil)))) hM5)
  · refine an_m_readClause (fun r6 M7 hM7 => ?_)
    exact hQ _ _ (eqo_tr (eqo_tr (eqo_rf _) (fps_cons (i := 0) rfl (fps_cons (i := 1) rfl fps_nil)) hM2) (fps_cons (i := 4) rfl (fps_cons (i := 0) rfl (fps_cons (i := 1) rfl (fps_cons (i := 5) rfl (fps_cons (i := 6) rfl (fps_cons (i := 7) rfl fps_nil)))))) hM7)
def fp_m_readAll  : List (Nat × Nat × Option Nat) := [(190, 190, some 0), (190, 190, some 20), (190, 190, some 18), (190, 190, some 19), (190, 190, some 25), (190, 190, some 21), (191, 191, none), (196, 196, none), (201, 201, none), (190, 190, some 22), (202, 202, none)]
theorem an_m_readAll_28 {M0 : MM} {p1 : Int32} {Q : Int32 → MM → Prop} (hQ : ∀ (r : Int32) (M1 : MM), Eqo fp_m_readAll M0 M1 → Q r M1) : ∀ (N : Nat) (v2 : Int32) (M : MM), Eqo fp_m_readAll M0 M → W_m_readAll_28 p1 Q N v2 M := by
  refine I_m_readAll_28 p1 Q (fun _ M => Eqo fp_m_readAll M0 M) (fun N ih v2 M hih hM => ?_)
  unfold B_m_readAll_28
  refine an_m_readLine (fun r6 M7 hM7 => ?_)
  refine ⟨fun _ => ?_, fun _ => ?_⟩
  · exact hQ _ _ (eqo_tr hM (fps_cons (i := 5) rfl (fps_cons (i := 3) rfl (fps_cons (i := 6) rfl (fps_cons (i := 7) rfl (fps_cons (i := 8) rfl (fps_cons (i := 9) rfl (fps_cons (i := 10) rfl (fps_cons (i := 4) rfl fps_nil)))))))) hM7)
  · refine an_m_blanks (fun M10 hM10 => ?_)
    refine ⟨fun _ => ?_, fun _ => ?_⟩
    · exact hQ _ _ (eqo_tr (eqo_tr hM (fps_cons (i := 5) rfl (fps_cons (i := 3) rfl (fps_cons (i := 6) rfl (fps_cons (i := 7) rfl (fps_cons (i := 8) rfl (fps_cons (i := 9) rfl (fps_cons (i := 10) rfl (fps_cons (i := 4) rfl fps_nil)))))))) hM7) (fps_cons (i := 5) rfl (fps_cons (i := 3) rfl fps_nil)) hM10)
    · refine ⟨fun _ => ?_, fun _ => ?_⟩
      · exact hQ _ _ (eqo_tr (eqo_tr hM (fps_cons (i := 5) rfl (fps_cons (i := 3) rfl (fps_cons (i := 6) rfl (fps_cons (i := 7) rfl (fps_cons (i := 8) rfl (fps_cons (i := 9) rfl (fps_cons (i := 10) rfl (fps_cons (i := 4) rfl fps_nil)))))))) hM7) (fps_cons (i := 5) rfl (fps_cons (i := 3) rfl fps_nil)) hM10)
      · exact hih _ _ (eqo_wi (eqo_tr (eqo_tr hM (fps_cons (i := 5) rfl (fps_cons (i := 3) rfl (fps_cons (i := 6) rfl (fps_cons (i := 7) rfl (fps_cons (i := 8) rfl (fps_cons (i := 9) rfl (fps_cons (i := 10) rfl (fps_cons (i := 4) rfl fps_nil)))))))) hM7) (fps_cons (i := 5) rfl (fps_cons (i := 3) rfl fps_nil)) hM10) (i := 3) rfl (Or.inr rfl))
theorem an_m_readAll {p1 : Int32} {N : Nat} {M : MM} {Q : Int32 → MM → Prop} (hQ : ∀ (r : Int32) (M1 : MM), Eqo fp_m_readAll M M1 → Q r M1) : W_m_readAll p1 N M Q := by
  unfold W_m_readAll
  refine an_m_uses (fun M2 hM2 => ?_)
  refine an_m_blanks (fun M4 hM4 => ?_)
  refine ⟨fun _ => ?_, fun _ => ?_⟩
  · exact hQ _ _ (eqo_tr (eqo_wi (eqo_tr (eqo_rf _) (fps_cons (i := 0) rfl (fps_cons (i := 1) rfl (fps_cons (i := 2) rfl (fps_cons (i := 3) rfl fps_nil)))) hM2) (i := 4) rfl (Or.inr rfl)) (fps_cons (i := 5) rfl (fps_cons (i := 3) rfl fps_nil)) hM4)
  · refine an_m_readAll_28   hQ N _ _ (eqo_tr (eqo_wi (eqo_tr (eqo_rf _) (fps_cons (i := 0) rfl (fps_cons (i := 1) rfl (fps_cons (i := 2) rfl (fps_cons (i := 3) rfl fps_nil)))) hM2) (i := 4) rfl (Or.inr rfl)) (fps_cons (i := 5) rfl (fps_cons (i := 3) rfl fps_nil)) hM4)
def fp_m_code  : List (Nat × Nat × Option Nat) := [(190, 190, some 0), (190, 190, some 20), (190, 190, some 18), (190, 190, some 19), (190, 190, some 25), (190, 190, some 21), (191, 191, none), (196, 196, none), (201, 201, none), (190, 190, some 22), (202, 202, none), (190, 190, some 23), (190, 190, some 15), (190, 190, some 12), (206, 206, none), (205, 205, none)]
theorem an_m_code_2 {M0 : MM} {k29 : MM → Prop} {Q : Int32 → MM → Prop} (hk29 : ∀  (M : MM), Eqo fp_m_code M0 M → k29 M) (hQ : ∀ (r : Int32) (M1 : MM), Eqo fp_m_code M0 M1 → Q r M1) : ∀ (N : Nat) (v1 : Int32) (M : MM), Eqo fp_m_code M0 M → W_m_code_2 k29 Q N v1 M := by
  refine I_m_code_2 k29 Q (fun _ M => Eqo fp_m_code M0 M) (fun N ih v1 M hih hM => ?_)
  unfold B_m_code_2
  refine ⟨fun _ => ?_, fun _ => ?_⟩
  · exact hih _ _ (eqo_wi hM (i := 15) rfl (Or.inl rfl))
  · exact hk29 _ hM
theorem an_m_code_31 {M0 : MM} {k58 : MM → Prop} {Q : Int32 → MM → Prop} (hk58 : ∀  (M : MM), Eqo fp_m_code M0 M → k58 M) (hQ : ∀ (r : Int32) (M1 : MM), Eqo fp_m_code M0 M1 → Q r M1) : ∀ (N : Nat) (v1 : Int32) (M : MM), Eqo fp_m_code M0 M → W_m_code_31 k58 Q N v1 M := by
  refine I_m_code_31 k58 Q (fun _ M => Eqo fp_m_code M0 M) (fun N ih v1 M hih hM => ?_)
  unfold B_m_code_31
  refine ⟨fun _ => ?_, fun _ => ?_⟩
  · exact hih _ _ (eqo_wi hM (i := 14) rfl (Or.inl rfl))
  · exact hk58 _ hM
theorem an_m_code_126 {M0 : MM} {k153 : MM → Prop} {Q : Int32 → MM → Prop} (hk153 : ∀  (M : MM), Eqo fp_m_code M0 M → k153 M) (hQ : ∀ (r : Int32) (M1 : MM), Eqo fp_m_code M0 M1 → Q r M1) : ∀ (N : Nat) (v2 : Int32) (M : MM), Eqo fp_m_code M0 M → W_m_code_126 k153 Q N v2 M := by
  refine I_m_code_126 k153 Q (fun _ M => Eqo fp_m_code M0 M) (fun N ih v2 M hih hM => ?_)
  unfold B_m_code_126
  refine ⟨fun _ => ?_, fun _ => ?_⟩
  · exact hih _ _ (eqo_wi hM (i := 8) rfl (Or.inl rfl))
  · exact hk153 _ hM
theorem an_m_code_155 {M0 : MM} {Q : Int32 → MM → Prop} (hQ : ∀ (r : Int32) (M1 : MM), Eqo fp_m_code M0 M1 → Q r M1) : ∀ (N : Nat) (v2 : Int32) (M : MM), Eqo fp_m_code M0 M → W_m_code_155 Q N v2 M := by
  refine I_m_code_155 Q (fun _ M => Eqo fp_m_code M0 M) (fun N ih v2 M hih hM => ?_)
  unfold B_m_code_155
  refine ⟨fun _ => ?_, fun _ => ?_⟩
  · exact hih _ _ (eqo_wi hM (i := 10) rfl (Or.inl rfl))
  · exact hQ _ _ hM
theorem an_m_code  {N : Nat} {M : MM} {Q : Int32 → MM → Prop} (hQ : ∀ (r : Int32) (M1 : MM), Eqo fp_m_code M M1 → Q r M1) : W_m_code  N M Q := by
  unfold W_m_code
  refine an_m_code_2  (fun M2 hMM2 => ?_) hQ N _ _ (eqo_rf _)
  · refine an_m_code_31  (fun M4 hMM4 => ?_) hQ N _ _ hMM2
    · refine an_m_readAll (fun r5 M6 hM6 => ?_)
      refine ⟨fun _ => ?_, fun _ => ?_⟩
      · refine ⟨fun _ => ?_, fun _ => ?_⟩
        · refine an_m_throwsIf (fun r9 M10 hM10 => ?_)
          refine ⟨fun _ => ?_, fun _ => ?_⟩
          · refine ⟨fun _ => ?_, fun _ => ?_⟩
            · refine ⟨fun _ => ?_, fun _ => ?_⟩
              · refine an_m_throwsIf (fun r14 M15 hM15 => ?_)
                refine ⟨fun _ => ?_, fun _ => ?_⟩
                · exact hQ _ _ (eqo_wi (eqo_wi (eqo_tr (eqo_tr (eqo_wi (eqo_tr hMM4 (fps_cons (i := 0) rfl (fps_cons (i := 1) rfl (fps_cons (i := 2) rfl (fps_cons (i := 3) rfl (fps_cons (i := 4) rfl (fps_cons (i := 5) rfl (fps_cons (i := 6) rfl (fps_cons (i := 7) rfl (fps_cons (i := 8) rfl (fps_cons (i := 9) rfl (fps_cons (i := 10) rfl fps_nil))))))))))) hM6) (i := 11) rfl (Or.inr rfl)) (fps_cons (i := 0) rfl fps_nil) hM10) (fps_cons (i := 0) rfl fps_nil) hM15) (i := 12) rfl (Or.inr rfl)) (i := 13) rfl (Or.inr rfl))
                · refine an_m_code_126  (fun M18 hMM18 => ?_) hQ N _ _ (eqo_tr (eqo_tr (eqo_wi (eqo_tr hMM4 (fps_cons (i := 0) rfl (fps_cons (i := 1) rfl (fps_cons (i := 2) rfl (fps_cons (i := 3) rfl (fps_cons (i := 4) rfl (fps_cons (i := 5) rfl (fps_cons (i := 6) rfl (fps_cons (i := 7) rfl (fps_cons (i := 8) rfl (fps_cons (i := 9) rfl (fps_cons (i := 10) rfl fps_nil))))))))))) hM6) (i := 11) rfl (Or.inr rfl)) (fps_cons (i := 0) rfl fps_nil) hM10) (fps_cons (i := 0) rfl fps_nil) hM15)
                  · refine an_m_code_155   hQ N _ _ hMM18
              · refine an_m_throwsIf (fun r20 M21 hM21 => ?_)
                refine ⟨fun _ => ?_, fun _ => ?_⟩
                · exact hQ _ _ (eqo_wi (eqo_wi (eqo_tr (eqo_tr (eqo_wi (eqo_tr hMM4 (fps_cons (i := 0) rfl (fps_cons (i := 1) rfl (fps_cons (i := 2) rfl (fps_cons (i := 3) rfl (fps_cons (i := 4) rfl (fps_cons (i := 5) rfl (fps_cons (i := 6) rfl (fps_cons (i := 7) rfl (fps_cons (i := 8) rfl (fps_cons (i := 9) rfl (fps_cons (i := 10) rfl fps_nil))))))))))) hM6) (i := 11) rfl (Or.inr rfl)) (fps_cons (i := 0) rfl fps_nil) hM10) (fps_cons (i := 0) rfl fps_nil) hM21) (i := 12) rfl (Or.inr rfl)) (i := 13) rfl (Or.inr rfl))
                · refine an_m_code_126  (fun M23 hMM23 => ?_) hQ N _ _ (eqo_tr (eqo_tr (eqo_wi (eqo_tr hMM4 (fps_cons (i := 0) rfl (fps_cons (i := 1) rfl (fps_cons (i := 2) rfl (fps_cons (i := 3) rfl (fps_cons (i := 4) rfl (fps_cons (i := 5) rfl (fps_cons (i := 6) rfl (fps_cons (i := 7) rfl (fps_cons (i := 8) rfl (fps_cons (i := 9) rfl (fps_cons (i := 10) rfl fps_nil))))))))))) hM6) (i := 11) rfl (Or.inr rfl)) (fps_cons (i := 0) rfl fps_nil) hM10) (fps_cons (i := 0) rfl fps_nil) hM21)
                  · refine an_m_code_155   hQ N _ _ hMM23
            · refine an_m_throwsIf (fun r24 M25 hM25 => ?_)
              refine ⟨fun _ => ?_, fun _ => ?_⟩
              · exact hQ _ _ (eqo_wi (eqo_wi (eqo_tr (eqo_tr (eqo_wi (eqo_tr hMM4 (fps_cons (i := 0) rfl (fps_cons (i := 1) rfl (fps_cons (i := 2) rfl (fps_cons (i := 3) rfl (fps_cons (i := 4) rfl (fps_cons (i := 5) rfl (fps_cons (i := 6) rfl (fps_cons (i := 7) rfl (fps_cons (i := 8) rfl (fps_cons (i := 9) rfl (fps_cons (i := 10) rfl fps_nil))))))))))) hM6) (i := 11) rfl (Or.inr rfl)) (fps_cons (i := 0) rfl fps_nil) hM10) (fps_cons (i := 0) rfl fps_nil) hM25) (i := 12) rfl (Or.inr rfl)) (i := 13) rfl (Or.inr rfl))
              · refine an_m_code_126  (fun M27 hMM27 => ?_) hQ N _ _ (eqo_tr (eqo_tr (eqo_wi (eqo_tr hMM4 (fps_cons (i := 0) rfl (fps_cons (i := 1) rfl (fps_cons (i := 2) rfl (fps_cons (i := 3) rfl (fps_cons (i := 4) rfl (fps_cons (i := 5) rfl (fps_cons (i := 6) rfl (fps_cons (i := 7) rfl (fps_cons (i := 8) rfl (fps_cons (i := 9) rfl (fps_cons (i := 10) rfl fps_nil))))))))))) hM6) (i := 11) rfl (Or.inr rfl)) (fps_cons (i := 0) rfl fps_nil) hM10) (fps_cons (i := 0) rfl fps_nil) hM25)
                · refine an_m_code_155   hQ N _ _ hMM27
          · refine an_m_code_126  (fun M28 hMM28 => ?_) hQ N _ _ (eqo_tr (eqo_wi (eqo_tr hMM4 (fps_cons (i := 0) rfl (fps_cons (i := 1) rfl (fps_cons (i := 2) rfl (fps_cons (i := 3) rfl (fps_cons (i := 4) rfl (fps_cons (i := 5) rfl (fps_cons (i := 6) rfl (fps_cons (i := 7) rfl (fps_cons (i := 8) rfl (fps_cons (i := 9) rfl (fps_cons (i := 10) rfl fps_nil))))))))))) hM6) (i := 11) rfl (Or.inr rfl)) (fps_cons (i := 0) rfl fps_nil) hM10)
            · refine an_m_code_155   hQ N _ _ hMM28
        · refine an_m_throwsIf (fun r29 M30 hM30 => ?_)
          refine ⟨fun _ => ?_, fun _ => ?_⟩
          · refine ⟨fun _ => ?_, fun _ => ?_⟩
            · refine ⟨fun _ => ?_, fun _ => ?_⟩
              · refine an_m_throwsIf (fun r34 M35 hM35 => ?_)
                refine ⟨fun _ => ?_, fun _ => ?_⟩
                · exact hQ _ _ (eqo_wi (eqo_wi (eqo_tr (eqo_tr (eqo_wi (eqo_tr hMM4 (fps_cons (i := 0) rfl (fps_cons (i := 1) rfl (fps_cons (i := 2) rfl (fps_cons (i := 3) rfl (fps_cons (i := 4) rfl (fps_cons (i := 5) rfl (fps_cons (i := 6) rfl (fps_cons (i := 7) rfl (fps_cons (i := 8) rfl (fps_cons (i := 9) rfl (fps_cons (i := 10) rfl fps_nil))))))))))) hM6) (i := 11) rfl (Or.inr rfl)) (fps_cons (i := 0) rfl fps_nil) hM30) (fps_cons (i := 0) rfl fps_nil) hM35) (i := 12) rfl (Or.inr rfl)) (i := 13) rfl (Or.inr rfl))
                · refine an_m_code_126  (fun M37 hMM37 => ?_) hQ N _ _ (eqo_tr (eqo_tr (eqo_wi (eqo_tr hMM4 (fps_cons (i := 0) rfl (fps_cons (i := 1) rfl (fps_cons (i := 2) rfl (fps_cons (i := 3) rfl (fps_cons (i := 4) rfl (fps_cons (i := 5) rfl (fps_cons (i := 6) rfl (fps_cons (i := 7) rfl (fps_cons (i := 8) rfl (fps_cons (i := 9) rfl (fps_cons (i := 10) rfl fps_nil))))))))))) hM6) (i := 11) rfl (Or.inr rfl)) (fps_cons (i := 0) rfl fps_nil) hM30) (fps_cons (i := 0) rfl fps_nil) hM35)
                  · refine an_m_code_155   hQ N _ _ hMM37
              · refine an_m_throwsIf (fun r38 M39 hM39 => ?_)
                refine ⟨fun _ => ?_, fun _ => ?_⟩
                · exact hQ _ _ (eqo_wi (eqo_wi (eqo_tr (eqo_tr (eqo_wi (eqo_tr hMM4 (fps_cons (i := 0) rfl (fps_cons (i := 1) rfl (fps_cons (i := 2) rfl (fps_cons (i := 3) rfl (fps_cons (i := 4) rfl (fps_cons (i := 5) rfl (fps_cons (i := 6) rfl (fps_cons (i := 7) rfl (fps_cons (i := 8) rfl (fps_cons (i := 9) rfl (fps_cons (i := 10) rfl fps_nil))))))))))) hM6) (i := 11) rfl (Or.inr rfl)) (fps_cons (i := 0) rfl fps_nil) hM30) (fps_cons (i := 0) rfl fps_nil) hM39) (i := 12) rfl (Or.inr rfl)) (i := 13) rfl (Or.inr rfl))
                · refine an_m_code_126  (fun M41 hMM41 => ?_) hQ N _ _ (eqo_tr (eqo_tr (eqo_wi (eqo_tr hMM4 (fps_cons (i := 0) rfl (fps_cons (i := 1) rfl (fps_cons (i := 2) rfl (fps_cons (i := 3) rfl (fps_cons (i := 4) rfl (fps_cons (i := 5) rfl (fps_cons (i := 6) rfl (fps_cons (i := 7) rfl (fps_cons (i := 8) rfl (fps_cons (i := 9) rfl (fps_cons (i := 10) rfl fps_nil))))))))))) hM6) (i := 11) rfl (Or.inr rfl)) (fps_cons (i := 0) rfl fps_nil) hM30) (fps_cons (i := 0) rfl fps_nil) hM39)
                  · refine an_m_code_155   hQ N _ _ hMM41
            · refine an_m_throwsIf (fun r42 M43 hM43 => ?_)
              refine ⟨fun _ => ?_, fun _ => ?_⟩
              · exact hQ _ _ (eqo_wi (eqo_wi (eqo_tr (eqo_tr (eqo_wi (eqo_tr hMM4 (fps_cons (i := 0) rfl (fps_cons (i := 1) rfl (fps_cons (i := 2) rfl (fps_cons (i := 3) rfl (fps_cons (i := 4) rfl (fps_cons (i := 5) rfl (fps_cons (i := 6) rfl (fps_cons (i := 7) rfl (fps_cons (i := 8) rfl (fps_cons (i := 9) rfl (fps_cons (i := 10) rfl fps_nil))))))))))) hM6) (i := 11) rfl (Or.inr rfl)) (fps_cons (i := 0) rfl fps_nil) hM30) (fps_cons (i := 0) rfl fps_nil) hM43) (i := 12) rfl (Or.inr rfl)) (i := 13) rfl (Or.inr rfl))
              · refine an_m_code_126  (fun M45 hMM45 => ?_) hQ N _ _ (eqo_tr (eqo_tr (eqo_wi (eqo_tr hMM4 (fps_cons (i := 0) rfl (fps_cons (i := 1) rfl (fps_cons (i := 2) rfl (fps_cons (i := 3) rfl (fps_cons (i := 4) rfl (fps_cons (i := 5) rfl (fps_cons (i := 6) rfl (fps_cons (i := 7) rfl (fps_cons (i := 8) rfl (fps_cons (i := 9) rfl (fps_cons (i := 10) rfl fps_nil))))))))))) hM6) (i := 11) rfl (Or.inr rfl)) (fps_cons (i := 0) rfl fps_nil) hM30) (fps_cons (i := 0) rfl fps_nil) hM43)
                · refine an_m_code_155   hQ N _ _ hMM45
          · refine an_m_code_126  (fun M46 hMM46 => ?_) hQ N _ _ (eqo_tr (eqo_wi (eqo_tr hMM4 (fps_cons (i := 0) rfl (fps_cons (i := 1) rfl (fps_cons (i := 2) rfl (fps_cons (i := 3) rfl (fps_cons (i := 4) rfl (fps_cons (i := 5) rfl (fps_cons (i := 6) rfl (fps_cons (i := 7) rfl (fps_cons (i := 8) rfl (fps_cons (i := 9) rfl (fps_cons (i := 10) rfl fps_nil))))))))))) hM6) (i := 11) rfl (Or.inr rfl)) (fps_cons (i := 0) rfl fps_nil) hM30)
            · refine an_m_code_155   hQ N _ _ hMM46
      · refine ⟨fun _ => ?_, fun _ => ?_⟩
        · refine an_m_throwsIf (fun r48 M49 hM49 => ?_)
          refine ⟨fun _ => ?_, fun _ => ?_⟩
          · refine ⟨fun _ => ?_, fun _ => ?_⟩
            · refine ⟨fun _ => ?_, fun _ => ?_⟩
              · refine an_m_throwsIf (fun r53 M54 hM54 => ?_)
                refine ⟨fun _ => ?_, fun _ => ?_⟩
                · exact hQ _ _ (eqo_wi (eqo_wi (eqo_tr (eqo_tr (eqo_wi (eqo_tr hMM4 (fps_cons (i := 0) rfl (fps_cons (i := 1) rfl (fps_cons (i := 2) rfl (fps_cons (i := 3) rfl (fps_cons (i := 4) rfl (fps_cons (i := 5) rfl (fps_cons (i := 6) rfl (fps_cons (i := 7) rfl (fps_cons (i := 8) rfl (fps_cons (i := 9) rfl (fps_cons (i := 10) rfl fps_nil))))))))))) hM6) (i := 11) rfl (Or.inr rfl)) (fps_cons (i := 0) rfl fps_nil) hM49) (fps_cons (i := 0) rfl fps_nil) hM54) (i := 12) rfl (Or.inr rfl)) (i := 13) rfl (Or.inr rfl))
                · refine an_m_code_126  (fun M56 hMM56 => ?_) hQ N _ _ (eqo_tr (eqo_tr (eqo_wi (eqo_tr hMM4 (fps_cons (i := 0) rfl (fps_cons (i := 1) rfl (fps_cons (i := 2) rfl (fps_cons (i := 3) rfl (fps_cons (i := 4) rfl (fps_cons (i := 5) rfl (fps_cons (i := 6) rfl (fps_cons (i := 7) rfl (fps_cons (i := 8) rfl (fps_cons (i := 9) rfl (fps_cons (i := 10) rfl fps_nil))))))))))) hM6) (i := 11) rfl (Or.inr rfl)) (fps_cons (i := 0) rfl fps_nil) hM49) (fps_cons (i := 0) rfl fps_nil) hM54)
                  · refine an_m_code_155   hQ N _ _ hMM56
              · refine an_m_throwsIf (fun r57 M58 hM58 => ?_)
                refine ⟨fun _ => ?_, fun _ => ?_⟩
                · exact hQ _ _ (eqo_wi (eqo_wi (eqo_tr (eqo_tr (eqo_wi (eqo_tr hMM4 (fps_cons (i := 0) rfl (fps_cons (i := 1) rfl (fps_cons (i := 2) rfl (fps_cons (i := 3) rfl (fps_cons (i := 4) rfl (fps_cons (i := 5) rfl (fps_cons (i := 6) rfl (fps_cons (i := 7) rfl (fps_cons (i := 8) rfl (fps_cons (i := 9) rfl (fps_cons (i := 10) rfl fps_nil))))))))))) hM6) (i := 11) rfl (Or.inr rfl)) (fps_cons (i := 0) rfl fps_nil) hM49) (fps_cons (i := 0) rfl fps_nil) hM58) (i := 12) rfl (Or.inr rfl)) (i := 13) rfl (Or.inr rfl))
                · refine an_m_code_126  (fun M60 hMM60 => ?_) hQ N _ _ (eqo_tr (eqo_tr (eqo_wi (eqo_tr hMM4 (fps_cons (i := 0) rfl (fps_cons (i := 1) rfl (fps_cons (i := 2) rfl (fps_cons (i := 3) rfl (fps_cons (i := 4) rfl (fps_cons (i := 5) rfl (fps_cons (i := 6) rfl (fps_cons (i := 7) rfl (fps_cons (i := 8) rfl (fps_cons (i := 9) rfl (fps_cons (i := 10) rfl fps_nil))))))))))) hM6) (i := 11) rfl (Or.inr rfl)) (fps_cons (i := 0) rfl fps_nil) hM49) (fps_cons (i := 0) rfl fps_nil) hM58)
                  · refine an_m_code_155   hQ N _ _ hMM60
            · refine an_m_throwsIf (fun r61 M62 hM62 => ?_)
              refine ⟨fun _ => ?_, fun _ => ?_⟩
              · exact hQ _ _ (eqo_wi (eqo_wi (eqo_tr (eqo_tr (eqo_wi (eqo_tr hMM4 (fps_cons (i := 0) rfl (fps_cons (i := 1) rfl (fps_cons (i := 2) rfl (fps_cons (i := 3) rfl (fps_cons (i := 4) rfl (fps_cons (i := 5) rfl (fps_cons (i := 6) rfl (fps_cons (i := 7) rfl (fps_cons (i := 8) rfl (fps_cons (i := 9) rfl (fps_cons (i := 10) rfl fps_nil))))))))))) hM6) (i := 11) rfl (Or.inr rfl)) (fps_cons (i := 0) rfl fps_nil) hM49) (fps_cons (i := 0) rfl fps_nil) hM62) (i := 12) rfl (Or.inr rfl)) (i := 13) rfl (Or.inr rfl))
              · refine an_m_code_126  (fun M64 hMM64 => ?_) hQ N _ _ (eqo_tr (eqo_tr (eqo_wi (eqo_tr hMM4 (fps_cons (i := 0) rfl (fps_cons (i := 1) rfl (fps_cons (i := 2) rfl (fps_cons (i := 3) rfl (fps_cons (i := 4) rfl (fps_cons (i := 5) rfl (fps_cons (i := 6) rfl (fps_cons (i := 7) rfl (fps_cons (i := 8) rfl (fps_cons (i := 9) rfl (fps_cons (i := 10) rfl fps_nil))))))))))) hM6) (i := 11) rfl (Or.inr rfl)) (fps_cons (i := 0) rfl fps_nil) hM49) (fps_cons (i := 0) rfl fps_nil) hM62)
                · refine an_m_code_155   hQ N _ _ hMM64
          · refine an_m_code_126  (fun M65 hMM65 => ?_) hQ N _ _ (eqo_tr (eqo_wi (eqo_tr hMM4 (fps_cons (i := 0) rfl (fps_cons (i := 1) rfl (fps_cons (i := 2) rfl (fps_cons (i := 3) rfl (fps_cons (i := 4) rfl (fps_cons (i := 5) rfl (fps_cons (i := 6) rfl (fps_cons (i := 7) rfl (fps_cons (i := 8) rfl (fps_cons (i := 9) rfl (fps_cons (i := 10) rfl fps_nil))))))))))) hM6) (i := 11) rfl (Or.inr rfl)) (fps_cons (i := 0) rfl fps_nil) hM49)
            · refine an_m_code_155   hQ N _ _ hMM65
        · refine an_m_throwsIf (fun r66 M67 hM67 => ?_)
          refine ⟨fun _ => ?_, fun _ => ?_⟩
          · refine ⟨fun _ => ?_, fun _ => ?_⟩
            · refine ⟨fun _ => ?_, fun _ => ?_⟩
              · refine an_m_throwsIf (fun r71 M72 hM72 => ?_)
                refine ⟨fun _ => ?_, fun _ => ?_⟩
                · exact hQ _ _ (eqo_wi (eqo_wi (eqo_tr (eqo_tr (eqo_wi (eqo_tr hMM4 (fps_cons (i := 0) rfl (fps_cons (i := 1) rfl (fps_cons (i := 2) rfl (fps_cons (i := 3) rfl (fps_cons (i := 4) rfl (fps_cons (i := 5) rfl (fps_cons (i := 6) rfl (fps_cons (i := 7) rfl (fps_cons (i := 8) rfl (fps_cons (i := 9) rfl (fps_cons (i := 10) rfl fps_nil))))))))))) hM6) (i := 11) rfl (Or.inr rfl)) (fps_cons (i := 0) rfl fps_nil) hM67) (fps_cons (i := 0) rfl fps_nil) hM72) (i := 12) rfl (Or.inr rfl)) (i := 13) rfl (Or.inr rfl))
                · refine an_m_code_126  (fun M74 hMM74 => ?_) hQ N _ _ (eqo_tr (eqo_tr (eqo_wi (eqo_tr hMM4 (fps_cons (i := 0) rfl (fps_cons (i := 1) rfl (fps_cons (i := 2) rfl (fps_cons (i := 3) rfl (fps_cons (i := 4) rfl (fps_cons (i := 5) rfl (fps_cons (i := 6) rfl (fps_cons (i := 7) rfl (fps_cons (i := 8) rfl (fps_cons (i := 9) rfl (fps_cons (i := 10) rfl fps_nil))))))))))) hM6) (i := 11) rfl (Or.inr rfl)) (fps_cons (i := 0) rfl fps_nil) hM67) (fps_cons (i := 0) rfl fps_nil) hM72)
                  · refine an_m_code_155   hQ N _ _ hMM74
              · refine an_m_throwsIf (fun r75 M76 hM76 => ?_)
                refine ⟨fun _ => ?_, fun _ => ?_⟩
                · exact hQ _ _ (eqo_wi (eqo_wi (eqo_tr (eqo_tr (eqo_wi (eqo_tr hMM4 (fps_cons (i := 0) rfl (fps_cons (i := 1) rfl (fps_cons (i := 2) rfl (fps_cons (i := 3) rfl (fps_cons (i := 4) rfl (fps_cons (i := 5) rfl (fps_cons (i := 6) rfl (fps_cons (i := 7) rfl (fps_cons (i := 8) rfl (fps_cons (i := 9) rfl (fps_cons (i := 10) rfl fps_nil))))))))))) hM6) (i := 11) rfl (Or.inr rfl)) (fps_cons (i := 0) rfl fps_nil) hM67) (fps_cons (i := 0) rfl fps_nil) hM76) (i := 12) rfl (Or.inr rfl)) (i := 13) rfl (Or.inr rfl))
                · refine an_m_code_126  (fun M78 hMM78 => ?_) hQ N _ _ (eqo_tr (eqo_tr (eqo_wi (eqo_tr hMM4 (fps_cons (i := 0) rfl (fps_cons (i := 1) rfl (fps_cons (i := 2) rfl (fps_cons (i := 3) rfl (fps_cons (i := 4) rfl (fps_cons (i := 5) rfl (fps_cons (i := 6) rfl (fps_cons (i := 7) rfl (fps_cons (i := 8) rfl (fps_cons (i := 9) rfl (fps_cons (i := 10) rfl fps_nil))))))))))) hM6) (i := 11) rfl (Or.inr rfl)) (fps_cons (i := 0) rfl fps_nil) hM67) (fps_cons (i := 0) rfl fps_nil) hM76)
                  · refine an_m_code_155   hQ N _ _ hMM78
            · refine an_m_throwsIf (fun r79 M80 hM80 => ?_)
              refine ⟨fun _ => ?_, fun _ => ?_⟩
              · exact hQ _ _ (eqo_wi (eqo_wi (eqo_tr (eqo_tr (eqo_wi (eqo_tr hMM4 (fps_cons (i := 0) rfl (fps_cons (i := 1) rfl (fps_cons (i := 2) rfl (fps_cons (i := 3) rfl (fps_cons (i := 4) rfl (fps_cons (i := 5) rfl (fps_cons (i := 6) rfl (fps_cons (i := 7) rfl (fps_cons (i := 8) rfl (fps_cons (i := 9) rfl (fps_cons (i := 10) rfl fps_nil))))))))))) hM6) (i := 11) rfl (Or.inr rfl)) (fps_cons (i := 0) rfl fps_nil) hM67) (fps_cons (i := 0) rfl fps_nil) hM80) (i := 12) rfl (Or.inr rfl)) (i := 13) rfl (Or.inr rfl))
              · refine an_m_code_126  (fun M82 hMM82 => ?_) hQ N _ _ (eqo_tr (eqo_tr (eqo_wi (eqo_tr hMM4 (fps_cons (i := 0) rfl (fps_cons (i := 1) rfl (fps_cons (i := 2) rfl (fps_cons (i := 3) rfl (fps_cons (i := 4) rfl (fps_cons (i := 5) rfl (fps_cons (i := 6) rfl (fps_cons (i := 7) rfl (fps_cons (i := 8) rfl (fps_cons (i := 9) rfl (fps_cons (i := 10) rfl fps_nil))))))))))) hM6) (i := 11) rfl (Or.inr rfl)) (fps_cons (i := 0) rfl fps_nil) hM67) (fps_cons (i := 0) rfl fps_nil) hM80)
                · refine an_m_code_155   hQ N _ _ hMM82
          · refine an_m_code_126  (fun M83 hMM83 => ?_) hQ N _ _ (eqo_tr (eqo_wi (eqo_tr hMM4 (fps_cons (i := 0) rfl (fps_cons (i := 1) rfl (fps_cons (i := 2) rfl (fps_cons (i := 3) rfl (fps_cons (i := 4) rfl (fps_cons (i := 5) rfl (fps_cons (i := 6) rfl (fps_cons (i := 7) rfl (fps_cons (i := 8) rfl (fps_cons (i := 9) rfl (fps_cons (i := 10) rfl fps_nil))))))))))) hM6) (i := 11) rfl (Or.inr rfl)) (fps_cons (i := 0) rfl fps_nil) hM67)
            · refine an_m_code_155   hQ N _ _ hMM83
def fp_m_republic  : List (Nat × Nat × Option Nat) := [(193, 193, none), (198, 198, none), (190, 190, some 0), (190, 190, some 20), (190, 190, some 18), (190, 190, some 19), (190, 190, some 25), (190, 190, some 21), (191, 191, none), (196, 196, none), (201, 201, none), (190, 190, some 22), (202, 202, none), (190, 190, some 23), (190, 190, some 12)]
theorem an_m_republic  {N : Nat} {M : MM} {Q : Int32 → MM → Prop} (hQ : ∀ (r : Int32) (M1 : MM), Eqo fp_m_republic M M1 → Q r M1) : W_m_republic  N M Q := by
  unfold W_m_republic
  refine an_m_likens (fun M2 hM2 => ?_)
  refine an_m_likensSeen (fun M4 hM4 => ?_)
  refine an_m_readAll (fun r5 M6 hM6 => ?_)
  refine ⟨fun _ => ?_, fun _ => ?_⟩
  · refine ⟨fun _ => ?_, fun _ => ?_⟩
    · refine an_m_throwsIf (fun r9 M10 hM10 => ?_)
      refine ⟨fun _ => ?_, fun _ => ?_⟩
      · refine ⟨fun _ => ?_, fun _ => ?_⟩
        · refine an_m_throwsIf (fun r13 M14 hM14 => ?_)
          refine ⟨fun _ => ?_, fun _ => ?_⟩
          · exact hQ _ _ (eqo_wi (eqo_wi (eqo_tr (eqo_tr (eqo_wi (eqo_tr (eqo_tr (eqo_tr (eqo_rf _) (fps_cons (i := 0) rfl fps_nil) hM2) (fps_cons (i := 1) rfl fps_nil) hM4) (fps_cons (i := 2) rfl (fps_cons (i := 3) rfl (fps_cons (i := 4) rfl (fps_cons (i := 5) rfl (fps_cons (i := 6) rfl (fps_cons (i := 7) rfl (fps_cons (i := 8) rfl (fps_cons (i := 9) rfl (fps_cons (i := 10) rfl (fps_cons (i := 11) rfl (fps_cons (i := 12) rfl fps_nil))))))))))) hM6) (i := 13) rfl (Or.inr rfl)) (fps_cons (i := 2) rfl fps_nil) hM10) (fps_cons (i := 2) rfl fps_nil) hM14) (i := 8) rfl (Or.inl rfl)) (i := 14) rfl (Or.inr rfl))
          · refine an_m_likens (fun M17 hM17 => ?_)
            refine an_m_likensSeen (fun M19 hM19 => ?_)
            exact hQ _ _ (eqo_tr (eqo_tr (eqo_tr (eqo_tr (eqo_wi (eqo_tr (eqo_tr (eqo_tr (eqo_rf _) (fps_cons (i := 0) rfl fps_nil) hM2) (fps_cons (i := 1) rfl fps_nil) hM4) (fps_cons (i := 2) rfl (fps_cons (i := 3) rfl (fps_cons (i := 4) rfl (fps_cons (i := 5) rfl (fps_cons (i := 6) rfl (fps_cons (i := 7) rfl (fps_cons (i := 8) rfl (fps_cons (i := 9) rfl (fps_cons (i := 10) rfl (fps_cons (i := 11) rfl (fps_cons (i := 12) rfl fps_nil))))))))))) hM6) (i := 13) rfl (Or.inr rfl)) (fps_cons (i := 2) rfl fps_nil) hM10) (fps_cons (i := 2) rfl fps_nil) hM14) (fps_cons (i := 8) rfl fps_nil) hM17) (fps_cons (i := 9) rfl fps_nil) hM19)
        · refine an_m_throwsIf (fun r20 M21 hM21 => ?_)
          refine ⟨fun _ => ?_, fun _ => ?_⟩
          · exact hQ _ _ (eqo_wi (eqo_wi (eqo_tr (eqo_tr (eqo_wi (eqo_tr (eqo_tr (eqo_tr (eqo_rf _) (fps_cons (i := 0) rfl fps_nil) hM2) (fps_cons (i := 1) rfl fps_nil) hM4) (fps_cons (i := 2) rfl (fps_cons (i := 3) rfl (fps_cons (i := 4) rfl (fps_cons (i := 5) rfl (fps_cons (i := 6) rfl (fps_cons (i := 7) rfl (fps_cons (i := 8) rfl (fps_cons (i := 9) rfl (fps_cons (i := 10) rfl (fps_cons (i := 11) rfl (fps_cons (i := 12) rfl fps_nil))))))))))) hM6) (i := 13) rfl (Or.inr rfl)) (fps_cons (i := 2) rfl fps_nil) hM10) (fps_cons (i := 2) rfl fps_nil) hM21) (i := 8) rfl (Or.inl rfl)) (i := 14) rfl (Or.inr rfl))
          · refine an_m_likens (fun M24 hM24 => ?_)
            refine an_m_likensSeen (fun M26 hM26 => ?_)
            exact hQ _ _ (eqo_tr (eqo_tr (eqo_tr (eqo_tr (eqo_wi (eqo_tr (eqo_tr (eqo_tr (eqo_rf _) (fps_cons (i := 0) rfl fps_nil) hM2) (fps_cons (i := 1) rfl fps_nil) hM4) (fps_cons (i := 2) rfl (fps_cons (i := 3) rfl (fps_cons (i := 4) rfl (fps_cons (i := 5) rfl (fps_cons (i := 6) rfl (fps_cons (i := 7) rfl (fps_cons (i := 8) rfl (fps_cons (i := 9) rfl (fps_cons (i := 10) rfl (fps_cons (i := 11) rfl (fps_cons (i := 12) rfl fps_nil))))))))))) hM6) (i := 13) rfl (Or.inr rfl)) (fps_cons (i := 2) rfl fps_nil) hM10) (fps_cons (i := 2) rfl fps_nil) hM21) (fps_cons (i := 8) rfl fps_nil) hM24) (fps_cons (i := 9) rfl fps_nil) hM26)
      · refine an_m_likens (fun M28 hM28 => ?_)
        refine an_m_likensSeen (fun M30 hM30 => ?_)
        exact hQ _ _ (eqo_tr (eqo_tr (eqo_tr (eqo_wi (eqo_tr (eqo_tr (eqo_tr (eqo_rf _) (fps_cons (i := 0) rfl fps_nil) hM2) (fps_cons (i := 1) rfl fps_nil) hM4) (fps_cons (i := 2) rfl (fps_cons (i := 3) rfl (fps_cons (i := 4) rfl (fps_cons (i := 5) rfl (fps_cons (i := 6) rfl (fps_cons (i := 7) rfl (fps_cons (i := 8) rfl (fps_cons (i := 9) rfl (fps_cons (i := 10) rfl (fps_cons (i := 11) rfl (fps_cons (i := 12) rfl fps_nil))))))))))) hM6) (i := 13) rfl (Or.inr rfl)) (fps_cons (i := 2) rfl fps_nil) hM10) (fps_cons (i := 8) rfl fps_nil) hM28) (fps_cons (i := 9) rfl fps_nil) hM30)
    · refine an_m_throwsIf (fun r31 M32 hM32 => ?_)
      refine ⟨fun _ => ?_, fun _ => ?_⟩
      · refine ⟨fun _ => ?_, fun _ => ?_⟩
        · refine an_m_throwsIf (fun r35 M36 hM36 => ?_)
          refine ⟨fun _ => ?_, fun _ => ?_⟩
          · exact hQ _ _ (eqo_wi (eqo_wi (eqo_tr (eqo_tr (eqo_wi (eqo_tr (eqo_tr (eqo_tr (eqo_rf _) (fps_cons (i := 0) rfl fps_nil) hM2) (fps_cons (i := 1) rfl fps_nil) hM4) (fps_cons (i := 2) rfl (fps_cons (i := 3) rfl (fps_cons (i := 4) rfl (fps_cons (i := 5) rfl (fps_cons (i := 6) rfl (fps_cons (i := 7) rfl (fps_cons (i := 8) rfl (fps_cons (i := 9) rfl (fps_cons (i := 10) rfl (fps_cons (i := 11) rfl (fps_cons (i := 12) rfl fps_nil))))))))))) hM6) (i := 13) rfl (Or.inr rfl)) (fps_cons (i := 2) rfl fps_nil) hM32) (fps_cons (i := 2) rfl fps_nil) hM36) (i := 8) rfl (Or.inl rfl)) (i := 14) rfl (Or.inr rfl))
          · refine an_m_likens (fun M39 hM39 => ?_)
            refine an_m_likensSeen (fun M41 hM41 => ?_)
            exact hQ _ _ (eqo_tr (eqo_tr (eqo_tr (eqo_tr (eqo_wi (eqo_tr (eqo_tr (eqo_tr (eqo_rf _) (fps_cons (i := 0) rfl fps_nil) hM2) (fps_cons (i := 1) rfl fps_nil) hM4) (fps_cons (i := 2) rfl (fps_cons (i := 3) rfl (fps_cons (i := 4) rfl (fps_cons (i := 5) rfl (fps_cons (i := 6) rfl (fps_cons (i := 7) rfl (fps_cons (i := 8) rfl (fps_cons (i := 9) rfl (fps_cons (i := 10) rfl (fps_cons (i := 11) rfl (fps_cons (i := 12) rfl fps_nil))))))))))) hM6) (i := 13) rfl (Or.inr rfl)) (fps_cons (i := 2) rfl fps_nil) hM32) (fps_cons (i := 2) rfl fps_nil) hM36) (fps_cons (i := 8) rfl fps_nil) hM39) (fps_cons (i := 9) rfl fps_nil) hM41)
        · refine an_m_throwsIf (fun r42 M43 hM43 => ?_)
          refine ⟨fun _ => ?_, fun _ => ?_⟩
          · exact hQ _ _ (eqo_wi (eqo_wi (eqo_tr (eqo_tr (eqo_wi (eqo_tr (eqo_tr (eqo_tr (eqo_rf _) (fps_cons (i := 0) rfl fps_nil) hM2) (fps_cons (i := 1) rfl fps_nil) hM4) (fps_cons (i := 2) rfl (fps_cons (i := 3) rfl (fps_cons (i := 4) rfl (fps_cons (i := 5) rfl (fps_cons (i := 6) rfl (fps_cons (i := 7) rfl (fps_cons (i := 8) rfl (fps_cons (i := 9) rfl (fps_cons (i := 10) rfl (fps_cons (i := 11) rfl (fps_cons (i := 12) rfl fps_nil))))))))))) hM6) (i := 13) rfl (Or.inr rfl)) (fps_cons (i := 2) rfl fps_nil) hM32) (fps_cons (i := 2) rfl fps_nil) hM43) (i := 8) rfl (Or.inl rfl)) (i := 14) rfl (Or.inr rfl))
          · refine an_m_likens (fun M46 hM46 => ?_)
            refine an_m_likensSeen (fun M48 hM48 => ?_)
            exact hQ _ _ (eqo_tr (eqo_tr (eqo_tr (eqo_tr (eqo_wi (eqo_tr (eqo_tr (eqo_tr (eqo_rf _) (fps_cons (i := 0) rfl fps_nil) hM2) (fps_cons (i := 1) rfl fps_nil) hM4) (fps_cons (i := 2) rfl (fps_cons (i := 3) rfl (fps_cons (i := 4) rfl (fps_cons (i := 5) rfl (fps_cons (i := 6) rfl (fps_cons (i := 7) rfl (fps_cons (i := 8) rfl (fps_cons (i := 9) rfl (fps_cons (i := 10) rfl (fps_cons (i := 11) rfl (fps_cons (i := 12) rfl fps_nil))))))))))) hM6) (i := 13) rfl (Or.inr rfl)) (fps_cons (i := 2) rfl fps_nil) hM32) (fps_cons (i := 2) rfl fps_nil) hM43) (fps_cons (i := 8) rfl fps_nil) hM46) (fps_cons (i := 9) rfl fps_nil) hM48)
      · refine an_m_likens (fun M50 hM50 => ?_)
        refine an_m_likensSeen (fun M52 hM52 => ?_)
        exact hQ _ _ (eqo_tr (eqo_tr (eqo_tr (eqo_wi (eqo_tr (eqo_tr (eqo_tr (eqo_rf _) (fps_cons (i := 0) rfl fps_nil) hM2) (fps_cons (i := 1) rfl fps_nil) hM4) (fps_cons (i := 2) rfl (fps_cons (i := 3) rfl (fps_cons (i := 4) rfl (fps_cons (i := 5) rfl (fps_cons (i := 6) rfl (fps_cons (i := 7) rfl (fps_cons (i := 8) rfl (fps_cons (i := 9) rfl (fps_cons (i := 10) rfl (fps_cons (i := 11) rfl (fps_cons (i := 12) rfl fps_nil))))))))))) hM6) (i := 13) rfl (Or.inr rfl)) (fps_cons (i := 2) rfl fps_nil) hM32) (fps_cons (i := 8) rfl fps_nil) hM50) (fps_cons (i := 9) rfl fps_nil) hM52)
  · refine ⟨fun _ => ?_, fun _ => ?_⟩
    · refine an_m_throwsIf (fun r54 M55 hM55 => ?_)
      refine ⟨fun _ => ?_, fun _ => ?_⟩
      · refine ⟨fun _ => ?_, fun _ => ?_⟩
        · refine an_m_throwsIf (fun r58 M59 hM59 => ?_)
          refine ⟨fun _ => ?_, fun _ => ?_⟩
          · exact hQ _ _ (eqo_wi (eqo_wi (eqo_tr (eqo_tr (eqo_wi (eqo_tr (eqo_tr (eqo_tr (eqo_rf _) (fps_cons (i := 0) rfl fps_nil) hM2) (fps_cons (i := 1) rfl fps_nil) hM4) (fps_cons (i := 2) rfl (fps_cons (i := 3) rfl (fps_cons (i := 4) rfl (fps_cons (i := 5) rfl (fps_cons (i := 6) rfl (fps_cons (i := 7) rfl (fps_cons (i := 8) rfl (fps_cons (i := 9) rfl (fps_cons (i := 10) rfl (fps_cons (i := 11) rfl (fps_cons (i := 12) rfl fps_nil))))))))))) hM6) (i := 13) rfl (Or.inr rfl)) (fps_cons (i := 2) rfl fps_nil) hM55) (fps_cons (i := 2) rfl fps_nil) hM59) (i := 8) rfl (Or.inl rfl)) (i := 14) rfl (Or.inr rfl))
          · refine an_m_likens (fun M62 hM62 => ?_)
            refine an_m_likensSeen (fun M64 hM64 => ?_)
            exact hQ _ _ (eqo_tr (eqo_tr (eqo_tr (eqo_tr (eqo_wi (eqo_tr (eqo_tr (eqo_tr (eqo_rf _) (fps_cons (i := 0) rfl fps_nil) hM2) (fps_cons (i := 1) rfl fps_nil) hM4) (fps_cons (i := 2) rfl (fps_cons (i := 3) rfl (fps_cons (i := 4) rfl (fps_cons (i := 5) rfl (fps_cons (i := 6) rfl (fps_cons (i := 7) rfl (fps_cons (i := 8) rfl (fps_cons (i := 9) rfl (fps_cons (i := 10) rfl (fps_cons (i := 11) rfl (fps_cons (i := 12) rfl fps_nil))))))))))) hM6) (i := 13) rfl (Or.inr rfl)) (fps_cons (i := 2) rfl fps_nil) hM55) (fps_cons (i := 2) rfl fps_nil) hM59) (fps_cons (i := 8) rfl fps_nil) hM62) (fps_cons (i := 9) rfl fps_nil) hM64)
        · refine an_m_throwsIf (fun r65 M66 hM66 => ?_)
          refine ⟨fun _ => ?_, fun _ => ?_⟩
          · exact hQ _ _ (eqo_wi (eqo_wi (eqo_tr (eqo_tr (eqo_wi (eqo_tr (eqo_tr (eqo_tr (eqo_rf _) (fps_cons (i := 0) rfl fps_nil) hM2) (fps_cons (i := 1) rfl fps_nil) hM4) (fps_cons (i := 2) rfl (fps_cons (i := 3) rfl (fps_cons (i := 4) rfl (fps_cons (i := 5) rfl (fps_cons (i := 6) rfl (fps_cons (i := 7) rfl (fps_cons (i := 8) rfl (fps_cons (i := 9) rfl (fps_cons (i := 10) rfl (fps_cons (i := 11) rfl (fps_cons (i := 12) rfl fps_nil))))))))))) hM6) (i := 13) rfl (Or.inr rfl)) (fps_cons (i := 2) rfl fps_nil) hM55) (fps_cons (i := 2) rfl fps_nil) hM66) (i := 8) rfl (Or.inl rfl)) (i := 14) rfl (Or.inr rfl))
          · refine an_m_likens (fun M69 hM69 => ?_)
            refine an_m_likensSeen (fun M71 hM71 => ?_)
            exact hQ _ _ (eqo_tr (eqo_tr (eqo_tr (eqo_tr (eqo_wi (eqo_tr (eqo_tr (eqo_tr (eqo_rf _) (fps_cons (i := 0) rfl fps_nil) hM2) (fps_cons (i := 1) rfl fps_nil) hM4) (fps_cons (i := 2) rfl (fps_cons (i := 3) rfl (fps_cons (i := 4) rfl (fps_cons (i := 5) rfl (fps_cons (i := 6) rfl (fps_cons (i := 7) rfl (fps_cons (i := 8) rfl (fps_cons (i := 9) rfl (fps_cons (i := 10) rfl (fps_cons (i := 11) rfl (fps_cons (i := 12) rfl fps_nil))))))))))) hM6) (i := 13) rfl (Or.inr rfl)) (fps_cons (i := 2) rfl fps_nil) hM55) (fps_cons (i := 2) rfl fps_nil) hM66) (fps_cons (i := 8) rfl fps_nil) hM69) (fps_cons (i := 9) rfl fps_nil) hM71)
      · refine an_m_likens (fun M73 hM73 => ?_)
        refine an_m_likensSeen (fun M75 hM75 => ?_)
        exact hQ _ _ (eqo_tr (eqo_tr (eqo_tr (eqo_wi (eqo_tr (eqo_tr (eqo_tr (eqo_rf _) (fps_cons (i := 0) rfl fps_nil) hM2) (fps_cons (i := 1) rfl fps_nil) hM4) (fps_cons (i := 2) rfl (fps_cons (i := 3) rfl (fps_cons (i := 4) rfl (fps_cons (i := 5) rfl (fps_cons (i := 6) rfl (fps_cons (i := 7) rfl (fps_cons (i := 8) rfl (fps_cons (i := 9) rfl (fps_cons (i := 10) rfl (fps_cons (i := 11) rfl (fps_cons (i := 12) rfl fps_nil))))))))))) hM6) (i := 13) rfl (Or.inr rfl)) (fps_cons (i := 2) rfl fps_nil) hM55) (fps_cons (i := 8) rfl fps_nil) hM73) (fps_cons (i := 9) rfl fps_nil) hM75)
    · refine an_m_throwsIf (fun r76 M77 hM77 => ?_)
      refine ⟨fun _ => ?_, fun _ => ?_⟩
      · refine ⟨fun _ => ?_, fun _ => ?_⟩
        · refine an_m_throwsIf (fun r80 M81 hM81 => ?_)
          refine ⟨fun _ => ?_, fun _ => ?_⟩
          · exact hQ _ _ (eqo_wi (eqo_wi (eqo_tr (eqo_tr (eqo_wi (eqo_tr (eqo_tr (eqo_tr (eqo_rf _) (fps_cons (i := 0) rfl fps_nil) hM2) (fps_cons (i := 1) rfl fps_nil) hM4) (fps_cons (i := 2) rfl (fps_cons (i := 3) rfl (fps_cons (i := 4) rfl (fps_cons (i := 5) rfl (fps_cons (i := 6) rfl (fps_cons (i := 7) rfl (fps_cons (i := 8) rfl (fps_cons (i := 9) rfl (fps_cons (i := 10) rfl (fps_cons (i := 11) rfl (fps_cons (i := 12) rfl fps_nil))))))))))) hM6) (i := 13) rfl (Or.inr rfl)) (fps_cons (i := 2) rfl fps_nil) hM77) (fps_cons (i := 2) rfl fps_nil) hM81) (i := 8) rfl (Or.inl rfl)) (i := 14) rfl (Or.inr rfl))
          · refine an_m_likens (fun M84 hM84 => ?_)
            refine an_m_likensSeen (fun M86 hM86 => ?_)
            exact hQ _ _ (eqo_tr (eqo_tr (eqo_tr (eqo_tr (eqo_wi (eqo_tr (eqo_tr (eqo_tr (eqo_rf _) (fps_cons (i := 0) rfl fps_nil) hM2) (fps_cons (i := 1) rfl fps_nil) hM4) (fps_cons (i := 2) rfl (fps_cons (i := 3) rfl (fps_cons (i := 4) rfl (fps_cons (i := 5) rfl (fps_cons (i := 6) rfl (fps_cons (i := 7) rfl (fps_cons (i := 8) rfl (fps_cons (i := 9) rfl (fps_cons (i := 10) rfl (fps_cons (i := 11) rfl (fps_cons (i := 12) rfl fps_nil))))))))))) hM6) (i := 13) rfl (Or.inr rfl)) (fps_cons (i := 2) rfl fps_nil) hM77) (fps_cons (i := 2) rfl fps_nil) hM81) (fps_cons (i := 8) rfl fps_nil) hM84) (fps_cons (i := 9) rfl fps_nil) hM86)
        · refine an_m_throwsIf (fun r87 M88 hM88 => ?_)
          refine ⟨fun _ => ?_, fun _ => ?_⟩
          · exact hQ _ _ (eqo_wi (eqo_wi (eqo_tr (eqo_tr (eqo_wi (eqo_tr (eqo_tr (eqo_tr (eqo_rf _) (fps_cons (i := 0) rfl fps_nil) hM2) (fps_cons (i := 1) rfl fps_nil) hM4) (fps_cons (i := 2) rfl (fps_cons (i := 3) rfl (fps_cons (i := 4) rfl (fps_cons (i := 5) rfl (fps_cons (i := 6) rfl (fps_cons (i := 7) rfl (fps_cons (i := 8) rfl (fps_cons (i := 9) rfl (fps_cons (i := 10) rfl (fps_cons (i := 11) rfl (fps_cons (i := 12) rfl fps_nil))))))))))) hM6) (i := 13) rfl (Or.inr rfl)) (fps_cons (i := 2) rfl fps_nil) hM77) (fps_cons (i := 2) rfl fps_nil) hM88) (i := 8) rfl (Or.inl rfl)) (i := 14) rfl (Or.inr rfl))
          · refine an_m_likens (fun M91 hM91 => ?_)
            refine an_m_likensSeen (fun M93 hM93 => ?_)
            exact hQ _ _ (eqo_tr (eqo_tr (eqo_tr (eqo_tr (eqo_wi (eqo_tr (eqo_tr (eqo_tr (eqo_rf _) (fps_cons (i := 0) rfl fps_nil) hM2) (fps_cons (i := 1) rfl fps_nil) hM4) (fps_cons (i := 2) rfl (fps_cons (i := 3) rfl (fps_cons (i := 4) rfl (fps_cons (i := 5) rfl (fps_cons (i := 6) rfl (fps_cons (i := 7) rfl (fps_cons (i := 8) rfl (fps_cons (i := 9) rfl (fps_cons (i := 10) rfl (fps_cons (i := 11) rfl (fps_cons (i := 12) rfl fps_nil))))))))))) hM6) (i := 13) rfl (Or.inr rfl)) (fps_cons (i := 2) rfl fps_nil) hM77) (fps_cons (i := 2) rfl fps_nil) hM88) (fps_cons (i := 8) rfl fps_nil) hM91) (fps_cons (i := 9) rfl fps_nil) hM93)
      · refine an_m_likens (fun M95 hM95 => ?_)
        refine an_m_likensSeen (fun M97 hM97 => ?_)
        exact hQ _ _ (eqo_tr (eqo_tr (eqo_tr (eqo_wi (eqo_tr (eqo_tr (eqo_tr (eqo_rf _) (fps_cons (i := 0) rfl fps_nil) hM2) (fps_cons (i := 1) rfl fps_nil) hM4) (fps_cons (i := 2) rfl (fps_cons (i := 3) rfl (fps_cons (i := 4) rfl (fps_cons (i := 5) rfl (fps_cons (i := 6) rfl (fps_cons (i := 7) rfl (fps_cons (i := 8) rfl (fps_cons (i := 9) rfl (fps_cons (i := 10) rfl (fps_cons (i := 11) rfl (fps_cons (i := 12) rfl fps_nil))))))))))) hM6) (i := 13) rfl (Or.inr rfl)) (fps_cons (i := 2) rfl fps_nil) hM77) (fps_cons (i := 8) rfl fps_nil) hM95) (fps_cons (i := 9) rfl fps_nil) hM97)
def fp_m_isOf  : List (Nat × Nat × Option Nat) := [(207, 207, none)]
theorem an_m_isOf_29 {M0 : MM} {p1 : Int32} {p2 : Int32} {p3 : Int32} {p4 : Int32} {Q : Int32 → MM → Prop} (hQ : ∀ (r : Int32) (M1 : MM), Eqo fp_m_isOf M0 M1 → Q r M1) : ∀ (N : Nat) (v5 : Int32) (v6 : Int32) (M : MM), Eqo fp_m_isOf M0 M → W_m_isOf_29 p1 p2 p3 p4 Q N v5 v6 M := by
  refine I_m_isOf_29 p1 p2 p3 p4 Q (fun _ _ M => Eqo fp_m_isOf M0 M) (fun N ih v5 v6 M hih hM => ?_)
  unfold B_m_isOf_29
  refine ⟨fun _ => ?_, fun _ => ?_⟩
  · refine ⟨fun _ => ?_, fun _ => ?_⟩
    · refine ⟨fun _ => ?_, fun _ => ?_⟩
      · exact hih _ _ _ (eqo_wi hM (i := 0) rfl (Or.inl rfl))
      · refine ⟨fun _ => ?_, fun _ => ?_⟩
        · refine ⟨fun _ => ?_, fun _ => ?_⟩
          · refine ⟨fun _ => ?_, fun _ => ?_⟩
            · exact hih _ _ _ (eqo_wi hM (i := 0) rfl (Or.inl rfl))
            · exact hih _ _ _ (eqo_wi hM (i := 0) rfl (Or.inl rfl))
          · refine ⟨fun _ => ?_, fun _ => ?_⟩
            · exact hih _ _ _ (eqo_wi hM (i := 0) rfl (Or.inl rfl))
            · exact hih _ _ _ (eqo_wi hM (i := 0) rfl (Or.inl rfl))
        · refine ⟨fun _ => ?_, fun _ => ?_⟩
          · refine ⟨fun _ => ?_, fun _ => ?_⟩
            · refine ⟨fun _ => ?_, fun _ => ?_⟩
              · exact hih _ _ _ (eqo_wi hM (i := 0) rfl (Or.inl rfl))
              · exact hih _ _ _ (eqo_wi hM (i := 0) rfl (Or.inl rfl))
            · refine ⟨fun _ => ?_, fun _ => ?_⟩
              · exact hih _ _ _ (eqo_wi hM (i := 0) rfl (Or.inl rfl))
              · exact hih _ _ _ (eqo_wi hM (i := 0) rfl (Or.inl rfl))
          · refine ⟨fun _ => ?_, fun _ => ?_⟩
            · refine ⟨fun _ => ?_, fun _ => ?_⟩
              · refine ⟨fun _ => ?_, fun _ => ?_⟩
                · exact hih _ _ _ (eqo_wi hM (i := 0) rfl (Or.inl rfl))
                · exact hih _ _ _ (eqo_wi hM (i := 0) rfl (Or.inl rfl))
              · refine ⟨fun _ => ?_, fun _ => ?_⟩
                · exact hih _ _ _ (eqo_wi hM (i := 0) rfl (Or.inl rfl))
                · exact hih _ _ _ (eqo_wi hM (i := 0) rfl (Or.inl rfl))
            · refine ⟨fun _ => ?_, fun _ => ?_⟩
              · refine ⟨fun _ => ?_, fun _ => ?_⟩
                · exact hih _ _ _ (eqo_wi hM (i := 0) rfl (Or.inl rfl))
                · exact hih _ _ _ (eqo_wi hM (i := 0) rfl (Or.inl rfl))
              · refine ⟨fun _ => ?_, fun _ => ?_⟩
                · exact hih _ _ _ (eqo_wi hM (i := 0) rfl (Or.inl rfl))
                · exact hih _ _ _ (eqo_wi hM (i := 0) rfl (Or.inl rfl))
    · exact hih _ _ _ (eqo_wi hM (i := 0) rfl (Or.inl rfl))
  · refine ⟨fun _ => ?_, fun _ => ?_⟩
    · exact hQ _ _ hM
    · refine ⟨fun _ => ?_, fun _ => ?_⟩
      · exact hQ _ _ hM
      · exact hQ _ _ hM
theorem an_m_isOf {p1 : Int32} {p2 : Int32} {p3 : Int32} {p4 : Int32} {N : Nat} {M : MM} {Q : Int32 → MM → Prop} (hQ : ∀ (r : Int32) (M1 : MM), Eqo fp_m_isOf M M1 → Q r M1) : W_m_isOf p1 p2 p3 p4 N M Q := by
  unfold W_m_isOf
  refine ⟨fun _ => ?_, fun _ => ?_⟩
  · refine an_m_isOf_29   hQ N _ _ _ (eqo_rf _)
  · exact hQ _ _ (eqo_rf _)
theorem an_m_inForce_4 {M : MM} {Q : Int32 → Prop} (hQ : ∀ (r : Int32), Q r) : ∀ (N : Nat) (v1 : Int32) (v2 : Int32), True → W_m_inForce_4 M Q N v1 v2 := by
  refine I_m_inForce_4 M Q (fun _ _ => True) (fun N ih v1 v2 hih _ => ?_)
  unfold B_m_inForce_4
  refine ⟨fun _ => ?_, fun _ => ?_⟩
  · refine ⟨fun _ => ?_, fun _ => ?_⟩
    · exact hih _ _ trivial
    · exact hih _ _ trivial
  · exact hQ _
theorem an_m_inForce  {N : Nat} {M : MM} {Q : Int32 → Prop} (hQ : ∀ (r : Int32), Q r) : W_m_inForce  N M Q := by
  unfold W_m_inForce
  refine an_m_inForce_4   hQ N _ _ trivial
def fp_m_saying  : List (Nat × Nat × Option Nat) := [(207, 207, none)]
theorem an_m_saying_6 {M0 : MM} {p1 : Int32} {p2 : Int32} {p3 : Int32} {p4 : Int32} {p5 : Int32} {Q : Int32 → MM → Prop} (hQ : ∀ (r : Int32) (M1 : MM), Eqo fp_m_saying M0 M1 → Q r M1) : ∀ (N : Nat) (v6 : Int32) (v7 : Int32) (M : MM), Eqo fp_m_saying M0 M → W_m_saying_6 p1 p2 p3 p4 p5 Q N v6 v7 M := by
  refine I_m_saying_6 p1 p2 p3 p4 p5 Q (fun _ _ M => Eqo fp_m_saying M0 M) (fun N ih v6 v7 M hih hM => ?_)
  unfold B_m_saying_6
  refine ⟨fun _ => ?_, fun _ => ?_⟩
  · refine ⟨fun _ => ?_, fun _ => ?_⟩
    · exact hih _ _ _ hM
    · refine ⟨fun _ => ?_, fun _ => ?_⟩
      · refine an_m_isOf (fun r4 M5 hM5 => ?_)
        refine ⟨fun _ => ?_, fun _ => ?_⟩
        · exact hih _ _ _ (eqo_tr hM (fps_cons (i := 0) rfl fps_nil) hM5)
        · exact hih _ _ _ (eqo_tr hM (fps_cons (i := 0) rfl fps_nil) hM5)
      · exact hih _ _ _ hM
  · exact hQ _ _ hM
theorem an_m_saying {p1 : Int32} {p2 : Int32} {p3 : Int32} {p4 : Int32} {p5 : Int32} {N : Nat} {M : MM} {Q : Int32 → MM → Prop} (hQ : ∀ (r : Int32) (M1 : MM), Eqo fp_m_saying M M1 → Q r M1) : W_m_saying p1 p2 p3 p4 p5 N M Q := by
  unfold W_m_saying
  refine an_m_saying_6   hQ N _ _ _ (eqo_rf _)
def fp_m_forbidding  : List (Nat × Nat × Option Nat) := [(207, 207, none)]
theorem an_m_forbidding {p1 : Int32} {p2 : Int32} {p3 : Int32} {p4 : Int32} {N : Nat} {M : MM} {Q : Int32 → MM → Prop} (hQ : ∀ (r : Int32) (M1 : MM), Eqo fp_m_forbidding M M1 → Q r M1) : W_m_forbidding p1 p2 p3 p4 N M Q := by
  unfold W_m_forbidding
  refine an_m_saying (fun r1 M2 hM2 => ?_)
  exact hQ _ _ (eqo_tr (eqo_rf _) (fps_cons (i := 0) rfl fps_nil) hM2)
def fp_m_forbidsNow  : List (Nat × Nat × Option Nat) := [(207, 207, none)]
theorem an_m_forbidsNow {p1 : Int32} {p2 : Int32} {p3 : Int32} {N : Nat} {M : MM} {Q : Int32 → MM → Prop} (hQ : ∀ (r : Int32) (M1 : MM), Eqo fp_m_forbidsNow M M1 → Q r M1) : W_m_forbidsNow p1 p2 p3 N M Q := by
  unfold W_m_forbidsNow
  refine an_m_forbidding (fun r1 M2 hM2 => ?_)
  exact hQ _ _ (eqo_tr (eqo_rf _) (fps_cons (i := 0) rfl fps_nil) hM2)
theorem an_m_knowers_4 {p1 : Int32} {M : MM} {Q : Int32 → Prop} (hQ : ∀ (r : Int32), Q r) : ∀ (N : Nat) (v2 : Int32) (v3 : Int32), True → W_m_knowers_4 p1 M Q N v2 v3 := by
  refine I_m_knowers_4 p1 M Q (fun _ _ => True) (fun N ih v2 v3 hih _ => ?_)
  unfold B_m_knowers_4
  refine ⟨fun _ => ?_, fun _ => ?_⟩
  · refine ⟨fun _ => ?_, fun _ => ?_⟩
    · exact hih _ _ trivial
    · refine ⟨fun _ => ?_, fun _ => ?_⟩
      · exact hih _ _ trivial
      · exact hih _ _ trivial
  · exact hQ _
theorem an_m_knowers {p1 : Int32} {N : Nat} {M : MM} {Q : Int32 → Prop} (hQ : ∀ (r : Int32), Q r) : W_m_knowers p1 N M Q := by
  unfold W_m_knowers
  refine an_m_knowers_4   hQ N _ _ trivial
theorem an_m_alive_4 {M : MM} {Q : Int32 → Prop} (hQ : ∀ (r : Int32), Q r) : ∀ (N : Nat) (v1 : Int32) (v2 : Int32), True → W_m_alive_4 M Q N v1 v2 := by
  refine I_m_alive_4 M Q (fun _ _ => True) (fun N ih v1 v2 hih _ => ?_)
  unfold B_m_alive_4
  refine ⟨fun _ => ?_, fun _ => ?_⟩
  · refine ⟨fun _ => ?_, fun _ => ?_⟩
    · exact hih _ _ trivial
    · exact hih _ _ trivial
  · exact hQ _
theorem an_m_alive  {N : Nat} {M : MM} {Q : Int32 → Prop} (hQ : ∀ (r : Int32), Q r) : W_m_alive  N M Q := by
  unfold W_m_alive
  refine an_m_alive_4   hQ N _ _ trivial
def fp_m_contradict  : List (Nat × Nat × Option Nat) := [(207, 207, none)]
theorem an_m_contradict_45 {M0 : MM} {p1 : Int32} {p2 : Int32} {u4 : Int32} {k128 : Int32 → MM → Prop} {Q : Int32 → MM → Prop} (hk128 : ∀ (v3 : Int32) (M : MM), Eqo fp_m_contradict M0 M → k128 v3 M) (hQ : ∀ (r : Int32) (M1 : MM), Eqo fp_m_contradict M0 M1 → Q r M1) : ∀ (N : Nat) (v3 : Int32) (v5 : Int32) (M : MM), Eqo fp_m_contradict M0 M → W_m_contradict_45 p1 p2 u4 k128 Q N v3 v5 M := by
  refine I_m_contradict_45 p1 p2 u4 k128 Q (fun _ _ M => Eqo fp_m_contradict M0 M) (fun N ih v3 v5 M hih hM => ?_)
  unfold B_m_contradict_45
  refine ⟨fun _ => ?_, fun _ => ?_⟩
  · refine ⟨fun _ => ?_, fun _ => ?_⟩
    · refine ⟨fun _ => ?_, fun _ => ?_⟩
      · exact hih _ _ _ hM
      · refine an_m_isOf (fun r8 M9 hM9 => ?_)
        refine ⟨fun _ => ?_, fun _ => ?_⟩
        · exact hih _ _ _ (eqo_tr hM (fps_cons (i := 0) rfl fps_nil) hM9)
        · refine an_m_isOf (fun r11 M12 hM12 => ?_)
          refine ⟨fun _ => ?_, fun _ => ?_⟩
          · exact hih _ _ _ (eqo_tr (eqo_tr hM (fps_cons (i := 0) rfl fps_nil) hM9) (fps_cons (i := 0) rfl fps_nil) hM12)
          · exact hih _ _ _ (eqo_tr (eqo_tr hM (fps_cons (i := 0) rfl fps_nil) hM9) (fps_cons (i := 0) rfl fps_nil) hM12)
    · exact hih _ _ _ hM
  · exact hk128 _ _ hM
theorem an_m_contradict_5 {M0 : MM} {p1 : Int32} {p2 : Int32} {Q : Int32 → MM → Prop} (hQ : ∀ (r : Int32) (M1 : MM), Eqo fp_m_contradict M0 M1 → Q r M1) : ∀ (N : Nat) (v3 : Int32) (v4 : Int32) (M : MM), Eqo fp_m_contradict M0 M → W_m_contradict_5 p1 p2 Q N v3 v4 M := by
  refine I_m_contradict_5 p1 p2 Q (fun _ _ M => Eqo fp_m_contradict M0 M) (fun N ih v3 v4 M hih hM => ?_)
  unfold B_m_contradict_5
  refine ⟨fun _ => ?_, fun _ => ?_⟩
  · refine ⟨fun _ => ?_, fun _ => ?_⟩
    · refine ⟨fun _ => ?_, fun _ => ?_⟩
      · exact hQ _ _ hM
      · refine ⟨fun _ => ?_, fun _ => ?_⟩
        · refine an_m_contradict_45  (fun x14 M15 hMM15 => ?_) hQ N _ _ _ hM
          · exact hih _ _ _ hMM15
        · exact hQ _ _ hM
    · exact hQ _ _ hM
  · exact hQ _ _ hM
theorem an_m_contradict {p1 : Int32} {p2 : Int32} {N : Nat} {M : MM} {Q : Int32 → MM → Prop} (hQ : ∀ (r : Int32) (M1 : MM), Eqo fp_m_contradict M M1 → Q r M1) : W_m_contradict p1 p2 N M Q := by
  unfold W_m_contradict
  refine an_m_contradict_5   hQ N _ _ _ (eqo_rf _)
def fp_m_contradicting  : List (Nat × Nat × Option Nat) := [(207, 207, none)]
theorem an_m_contradicting_4 {M0 : MM} {p1 : Int32} {Q : Int32 → MM → Prop} (hQ : ∀ (r : Int32) (M1 : MM), Eqo fp_m_contradicting M0 M1 → Q r M1) : ∀ (N : Nat) (v2 : Int32) (v3 : Int32) (M : MM), Eqo fp_m_contradicting M0 M → W_m_contradicting_4 p1 Q N v2 v3 M := by
  refine I_m_contradicting_4 p1 Q (fun _ _ M => Eqo fp_m_contradicting M0 M) (fun N ih v2 v3 M hih hM => ?_)
  unfold B_m_contradicting_4
  refine ⟨fun _ => ?_, fun _ => ?_⟩
  · refine an_m_contradict (fun r2 M3 hM3 => ?_)
    refine ⟨fun _ => ?_, fun _ => ?_⟩
    · exact hih _ _ _ (eqo_tr hM (fps_cons (i := 0) rfl fps_nil) hM3)
    · exact hih _ _ _ (eqo_tr hM (fps_cons (i := 0) rfl fps_nil) hM3)
  · exact hQ _ _ hM
theorem an_m_contradicting {p1 : Int32} {N : Nat} {M : MM} {Q : Int32 → MM → Prop} (hQ : ∀ (r : Int32) (M1 : MM), Eqo fp_m_contradicting M M1 → Q r M1) : W_m_contradicting p1 N M Q := by
  unfold W_m_contradicting
  refine an_m_contradicting_4   hQ N _ _ _ (eqo_rf _)
def fp_m_clause  : List (Nat × Nat × Option Nat) := [(190, 190, some 0), (207, 207, none)]
theorem an_m_clause {p1 : Int32} {p2 : Int32} {N : Nat} {M : MM} {Q : Int32 → MM → Prop} (hQ : ∀ (r : Int32) (M1 : MM), Eqo fp_m_clause M M1 → Q r M1) : W_m_clause p1 p2 N M Q := by
  unfold W_m_clause
  refine an_m_throwsIf (fun r1 M2 hM2 => ?_)
  refine ⟨fun _ => ?_, fun _ => ?_⟩
  · refine ⟨fun _ => ?_, fun _ => ?_⟩
    · refine an_m_throwsIf (fun r5 M6 hM6 => ?_)
      refine ⟨fun _ => ?_, fun _ => ?_⟩
      · refine ⟨?_, ?_, ?_, ?_, ?_⟩
        · intro _
          refine ⟨fun _ => ?_, fun _ => ?_⟩
          · exact hQ _ _ (eqo_tr (eqo_tr (eqo_wi (eqo_rf _) (i := 0) rfl (Or.inr rfl)) (fps_cons (i := 0) rfl fps_nil) hM2) (fps_cons (i := 0) rfl fps_nil) hM6)
          · exact hQ _ _ (eqo_tr (eqo_tr (eqo_wi (eqo_rf _) (i := 0) rfl (Or.inr rfl)) (fps_cons (i := 0) rfl fps_nil) hM2) (fps_cons (i := 0) rfl fps_nil) hM6)
        · intro _
          exact hQ _ _ (eqo_tr (eqo_tr (eqo_wi (eqo_rf _) (i := 0) rfl (Or.inr rfl)) (fps_cons (i := 0) rfl fps_nil) hM2) (fps_cons (i := 0) rfl fps_nil) hM6)
        · intro _
          refine an_m_inForce (fun r12 => ?_)
          exact hQ _ _ (eqo_tr (eqo_tr (eqo_wi (eqo_rf _) (i := 0) rfl (Or.inr rfl)) (fps_cons (i := 0) rfl fps_nil) hM2) (fps_cons (i := 0) rfl fps_nil) hM6)
        · intro _
          refine an_m_knowers (fun r14 => ?_)
          exact hQ _ _ (eqo_tr (eqo_tr (eqo_wi (eqo_rf _) (i := 0) rfl (Or.inr rfl)) (fps_cons (i := 0) rfl fps_nil) hM2) (fps_cons (i := 0) rfl fps_nil) hM6)
        · intro _ _ _ _
          refine an_m_contradicting (fun r9 M10 hM10 => ?_)
          exact hQ _ _ (eqo_tr (eqo_tr (eqo_tr (eqo_wi (eqo_rf _) (i := 0) rfl (Or.inr rfl)) (fps_cons (i := 0) rfl fps_nil) hM2) (fps_cons (i := 0) rfl fps_nil) hM6) (fps_cons (i := 1) rfl fps_nil) hM10)
      · exact hQ _ _ (eqo_tr (eqo_tr (eqo_wi (eqo_rf _) (i := 0) rfl (Or.inr rfl)) (fps_cons (i := 0) rfl fps_nil) hM2) (fps_cons (i := 0) rfl fps_nil) hM6)
    · refine an_m_throwsIf (fun r16 M17 hM17 => ?_)
      refine ⟨fun _ => ?_, fun _ => ?_⟩
      · refine ⟨?_, ?_, ?_, ?_, ?_⟩
        · intro _
          refine ⟨fun _ => ?_, fun _ => ?_⟩
          · exact hQ _ _ (eqo_tr (eqo_tr (eqo_wi (eqo_rf _) (i := 0) rfl (Or.inr rfl)) (fps_cons (i := 0) rfl fps_nil) hM2) (fps_cons (i := 0) rfl fps_nil) hM17)
          · exact hQ _ _ (eqo_tr (eqo_tr (eqo_wi (eqo_rf _) (i := 0) rfl (Or.inr rfl)) (fps_cons (i := 0) rfl fps_nil) hM2) (fps_cons (i := 0) rfl fps_nil) hM17)
        · intro _
          exact hQ _ _ (eqo_tr (eqo_tr (eqo_wi (eqo_rf _) (i := 0) rfl (Or.inr rfl)) (fps_cons (i := 0) rfl fps_nil) hM2) (fps_cons (i := 0) rfl fps_nil) hM17)
        · intro _
          refine an_m_inForce (fun r23 => ?_)
          exact hQ _ _ (eqo_tr (eqo_tr (eqo_wi (eqo_rf _) (i := 0) rfl (Or.inr rfl)) (fps_cons (i := 0) rfl fps_nil) hM2) (fps_cons (i := 0) rfl fps_nil) hM17)
        · intro _
          refine an_m_knowers (fun r25 => ?_)
          exact hQ _ _ (eqo_tr (eqo_tr (eqo_wi (eqo_rf _) (i := 0) rfl (Or.inr rfl)) (fps_cons (i := 0) rfl fps_nil) hM2) (fps_cons (i := 0) rfl fps_nil) hM17)
        · intro _ _ _ _
          refine an_m_contradicting (fun r20 M21 hM21 => ?_)
          exact hQ _ _ (eqo_tr (eqo_tr (eqo_tr (eqo_wi (eqo_rf _) (i := 0) rfl (Or.inr rfl)) (fps_cons (i := 0) rfl fps_nil) hM2) (fps_cons (i := 0) rfl fps_nil) hM17) (fps_cons (i := 1) rfl fps_nil) hM21)
      · exact hQ _ _ (eqo_tr (eqo_tr (eqo_wi (eqo_rf _) (i := 0) rfl (Or.inr rfl)) (fps_cons (i := 0) rfl fps_nil) hM2) (fps_cons (i := 0) rfl fps_nil) hM17)
  · exact hQ _ _ (eqo_tr (eqo_wi (eqo_rf _) (i := 0) rfl (Or.inr rfl)) (fps_cons (i := 0) rfl fps_nil) hM2)
def fp_m_citizen  : List (Nat × Nat × Option Nat) := [(190, 190, some 0)]
theorem an_m_citizen {p1 : Int32} {p2 : Int32} {N : Nat} {M : MM} {Q : Int32 → MM → Prop} (hQ : ∀ (r : Int32) (M1 : MM), Eqo fp_m_citizen M M1 → Q r M1) : W_m_citizen p1 p2 N M Q := by
  unfold W_m_citizen
  refine an_m_throwsIf (fun r1 M2 hM2 => ?_)
  refine ⟨fun _ => ?_, fun _ => ?_⟩
  · refine ⟨fun _ => ?_, fun _ => ?_⟩
    · refine an_m_throwsIf (fun r5 M6 hM6 => ?_)
      refine ⟨fun _ => ?_, fun _ => ?_⟩
      · refine ⟨?_, ?_, ?_, ?_⟩
        · intro _
          exact hQ _ _ (eqo_tr (eqo_tr (eqo_wi (eqo_rf _) (i := 0) rfl (Or.inr rfl)) (fps_cons (i := 0) rfl fps_nil) hM2) (fps_cons (i := 0) rfl fps_nil) hM6)
        · intro _
          exact hQ _ _ (eqo_tr (eqo_tr (eqo_wi (eqo_rf _) (i := 0) rfl (Or.inr rfl)) (fps_cons (i := 0) rfl fps_nil) hM2) (fps_cons (i := 0) rfl fps_nil) hM6)
        · intro _
          exact hQ _ _ (eqo_tr (eqo_tr (eqo_wi (eqo_rf _) (i := 0) rfl (Or.inr rfl)) (fps_cons (i := 0) rfl fps_nil) hM2) (fps_cons (i := 0) rfl fps_nil) hM6)
        · intro _ _ _
          exact hQ _ _ (eqo_tr (eqo_tr (eqo_wi (eqo_rf _) (i := 0) rfl (Or.inr rfl)) (fps_cons (i := 0) rfl fps_nil) hM2) (fps_cons (i := 0) rfl fps_nil) hM6)
      · exact hQ _ _ (eqo_tr (eqo_tr (eqo_wi (eqo_rf _) (i := 0) rfl (Or.inr rfl)) (fps_cons (i := 0) rfl fps_nil) hM2) (fps_cons (i := 0) rfl fps_nil) hM6)
    · refine an_m_throwsIf (fun r9 M10 hM10 => ?_)
      refine ⟨fun _ => ?_, fun _ => ?_⟩
      · refine ⟨?_, ?_, ?_, ?_⟩
        · intro _
          exact hQ _ _ (eqo_tr (eqo_tr (eqo_wi (eqo_rf _) (i := 0) rfl (Or.inr rfl)) (fps_cons (i := 0) rfl fps_nil) hM2) (fps_cons (i := 0) rfl fps_nil) hM10)
        · intro _
          exact hQ _ _ (eqo_tr (eqo_tr (eqo_wi (eqo_rf _) (i := 0) rfl (Or.inr rfl)) (fps_cons (i := 0) rfl fps_nil) hM2) (fps_cons (i := 0) rfl fps_nil) hM10)
        · intro _
          exact hQ _ _ (eqo_tr (eqo_tr (eqo_wi (eqo_rf _) (i := 0) rfl (Or.inr rfl)) (fps_cons (i := 0) rfl fps_nil) hM2) (fps_cons (i := 0) rfl fps_nil) hM10)
        · intro _ _ _
          exact hQ _ _ (eqo_tr (eqo_tr (eqo_wi (eqo_rf _) (i := 0) rfl (Or.inr rfl)) (fps_cons (i := 0) rfl fps_nil) hM2) (fps_cons (i := 0) rfl fps_nil) hM10)
      · exact hQ _ _ (eqo_tr (eqo_tr (eqo_wi (eqo_rf _) (i := 0) rfl (Or.inr rfl)) (fps_cons (i := 0) rfl fps_nil) hM2) (fps_cons (i := 0) rfl fps_nil) hM10)
  · exact hQ _ _ (eqo_tr (eqo_wi (eqo_rf _) (i := 0) rfl (Or.inr rfl)) (fps_cons (i := 0) rfl fps_nil) hM2)
def fp_m_seen  : List (Nat × Nat × Option Nat) := [(190, 190, some 0)]
theorem an_m_seen {p1 : Int32} {N : Nat} {M : MM} {Q : Int64 → MM → Prop} (hQ : ∀ (r : Int64) (M1 : MM), Eqo fp_m_seen M M1 → Q r M1) : W_m_seen p1 N M Q := by
  unfold W_m_seen
  refine an_m_throwsIf (fun r1 M2 hM2 => ?_)
  refine ⟨fun _ => ?_, fun _ => ?_⟩
  · exact hQ _ _ (eqo_tr (eqo_wi (eqo_rf _) (i := 0) rfl (Or.inr rfl)) (fps_cons (i := 0) rfl fps_nil) hM2)
  · exact hQ _ _ (eqo_tr (eqo_wi (eqo_rf _) (i := 0) rfl (Or.inr rfl)) (fps_cons (i := 0) rfl fps_nil) hM2)
def fp_m_habit  : List (Nat × Nat × Option Nat) := [(190, 190, some 0)]
theorem an_m_habit {p1 : Int32} {p2 : Int32} {N : Nat} {M : MM} {Q : Int32 → MM → Prop} (hQ : ∀ (r : Int32) (M1 : MM), Eqo fp_m_habit M M1 → Q r M1) : W_m_habit p1 p2 N M Q := by
  unfold W_m_habit
  refine an_m_throwsIf (fun r1 M2 hM2 => ?_)
  refine ⟨fun _ => ?_, fun _ => ?_⟩
  · refine ⟨fun _ => ?_, fun _ => ?_⟩
    · exact hQ _ _ (eqo_tr (eqo_wi (eqo_rf _) (i := 0) rfl (Or.inr rfl)) (fps_cons (i := 0) rfl fps_nil) hM2)
    · exact hQ _ _ (eqo_tr (eqo_wi (eqo_rf _) (i := 0) rfl (Or.inr rfl)) (fps_cons (i := 0) rfl fps_nil) hM2)
  · exact hQ _ _ (eqo_tr (eqo_wi (eqo_rf _) (i := 0) rfl (Or.inr rfl)) (fps_cons (i := 0) rfl fps_nil) hM2)
def fp_m_may  : List (Nat × Nat × Option Nat) := [(207, 207, none)]
theorem an_m_may {p1 : Int32} {p2 : Int32} {N : Nat} {M : MM} {Q : Int32 → MM → Prop} (hQ : ∀ (r : Int32) (M1 : MM), Eqo fp_m_may M M1 → Q r M1) : W_m_may p1 p2 N M Q := by
  unfold W_m_may
  refine an_m_forbidsNow (fun r1 M2 hM2 => ?_)
  refine ⟨fun _ => ?_, fun _ => ?_⟩
  · exact hQ _ _ (eqo_tr (eqo_rf _) (fps_cons (i := 0) rfl fps_nil) hM2)
  · exact hQ _ _ (eqo_tr (eqo_rf _) (fps_cons (i := 0) rfl fps_nil) hM2)
