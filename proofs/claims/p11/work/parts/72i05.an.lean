/-! WHAT EACH METHOD WRITES (gw.py) -/
def fp_m_matter  : List (Nat × Nat × Option Nat) := [(190, 190, some 0), (207, 207, none)]
theorem an_m_matter {p1 : Int32} {p2 : Int32} {p3 : Int32} {N : Nat} {M : MM} {Q : Int32 → MM → Prop} (hQ : ∀ (r : Int32) (M1 : MM), Eqo fp_m_matter M M1 → Q r M1) : W_m_matter p1 p2 p3 N M Q := by
  unfold W_m_matter
  refine ⟨fun _ => ?_, fun _ => ?_⟩
  · refine ⟨fun _ => ?_, fun _ => ?_⟩
    · refine an_m_throwsIf (fun r3 M4 hM4 => ?_)
      refine ⟨fun _ => ?_, fun _ => ?_⟩
      · refine ⟨fun _ => ?_, fun _ => ?_⟩
        · refine an_m_throwsIf (fun r7 M8 hM8 => ?_)
          refine ⟨fun _ => ?_, fun _ => ?_⟩
          · refine ⟨fun _ => ?_, fun _ => ?_⟩
            · refine an_m_throwsIf (fun r11 M12 hM12 => ?_)
              refine ⟨fun _ => ?_, fun _ => ?_⟩
              · refine ⟨fun _ => ?_, fun _ => ?_⟩
                · refine an_m_inForce (fun r15 => ?_)
                  refine ⟨fun _ => ?_, fun _ => ?_⟩
                  · refine an_m_saying (fun r18 M19 hM19 => ?_)
                    exact hQ _ _ (eqo_tr (eqo_tr (eqo_tr (eqo_tr (eqo_wi (eqo_rf _) (i := 0) rfl (Or.inr rfl)) (fps_cons (i := 0) rfl fps_nil) hM4) (fps_cons (i := 0) rfl fps_nil) hM8) (fps_cons (i := 0) rfl fps_nil) hM12) (fps_cons (i := 1) rfl fps_nil) hM19)
                  · refine an_m_saying (fun r20 M21 hM21 => ?_)
                    exact hQ _ _ (eqo_tr (eqo_tr (eqo_tr (eqo_tr (eqo_wi (eqo_rf _) (i := 0) rfl (Or.inr rfl)) (fps_cons (i := 0) rfl fps_nil) hM4) (fps_cons (i := 0) rfl fps_nil) hM8) (fps_cons (i := 0) rfl fps_nil) hM12) (fps_cons (i := 1) rfl fps_nil) hM21)
                · refine an_m_may (fun r22 M23 hM23 => ?_)
                  refine ⟨fun _ => ?_, fun _ => ?_⟩
                  · exact hQ _ _ (eqo_tr (eqo_tr (eqo_tr (eqo_tr (eqo_wi (eqo_rf _) (i := 0) rfl (Or.inr rfl)) (fps_cons (i := 0) rfl fps_nil) hM4) (fps_cons (i := 0) rfl fps_nil) hM8) (fps_cons (i := 0) rfl fps_nil) hM12) (fps_cons (i := 1) rfl fps_nil) hM23)
                  · refine ⟨fun _ => ?_, fun _ => ?_⟩
                    · exact hQ _ _ (eqo_tr (eqo_tr (eqo_tr (eqo_tr (eqo_wi (eqo_rf _) (i := 0) rfl (Or.inr rfl)) (fps_cons (i := 0) rfl fps_nil) hM4) (fps_cons (i := 0) rfl fps_nil) hM8) (fps_cons (i := 0) rfl fps_nil) hM12) (fps_cons (i := 1) rfl fps_nil) hM23)
                    · refine ⟨fun _ => ?_, fun _ => ?_⟩
                      · exact hQ _ _ (eqo_tr (eqo_tr (eqo_tr (eqo_tr (eqo_wi (eqo_rf _) (i := 0) rfl (Or.inr rfl)) (fps_cons (i := 0) rfl fps_nil) hM4) (fps_cons (i := 0) rfl fps_nil) hM8) (fps_cons (i := 0) rfl fps_nil) hM12) (fps_cons (i := 1) rfl fps_nil) hM23)
                      · exact hQ _ _ (eqo_tr (eqo_tr (eqo_tr (eqo_tr (eqo_wi (eqo_rf _) (i := 0) rfl (Or.inr rfl)) (fps_cons (i := 0) rfl fps_nil) hM4) (fps_cons (i := 0) rfl fps_nil) hM8) (fps_cons (i := 0) rfl fps_nil) hM12) (fps_cons (i := 1) rfl fps_nil) hM23)
              · exact hQ _ _ (eqo_tr (eqo_tr (eqo_tr (eqo_wi (eqo_rf _) (i := 0) rfl (Or.inr rfl)) (fps_cons (i := 0) rfl fps_nil) hM4) (fps_cons (i := 0) rfl fps_nil) hM8) (fps_cons (i := 0) rfl fps_nil) hM12)
            · refine an_m_throwsIf (fun r27 M28 hM28 => ?_)
              refine ⟨fun _ => ?_, fun _ => ?_⟩
              · refine ⟨fun _ => ?_, fun _ => ?_⟩
                · refine an_m_inForce (fun r31 => ?_)
                  refine ⟨fun _ => ?_, fun _ => ?_⟩
                  · refine an_m_saying (fun r34 M35 hM35 => ?_)
                    exact hQ _ _ (eqo_tr (eqo_tr (eqo_tr (eqo_tr (eqo_wi (eqo_rf _) (i := 0) rfl (Or.inr rfl)) (fps_cons (i := 0) rfl fps_nil) hM4) (fps_cons (i := 0) rfl fps_nil) hM8) (fps_cons (i := 0) rfl fps_nil) hM28) (fps_cons (i := 1) rfl fps_nil) hM35)
                  · refine an_m_saying (fun r36 M37 hM37 => ?_)
                    exact hQ _ _ (eqo_tr (eqo_tr (eqo_tr (eqo_tr (eqo_wi (eqo_rf _) (i := 0) rfl (Or.inr rfl)) (fps_cons (i := 0) rfl fps_nil) hM4) (fps_cons (i := 0) rfl fps_nil) hM8) (fps_cons (i := 0) rfl fps_nil) hM28) (fps_cons (i := 1) rfl fps_nil) hM37)
                · refine an_m_may (fun r38 M39 hM39 => ?_)
                  refine ⟨fun _ => ?_, fun _ => ?_⟩
                  · exact hQ _ _ (eqo_tr (eqo_tr (eqo_tr (eqo_tr (eqo_wi (eqo_rf _) (i := 0) rfl (Or.inr rfl)) (fps_cons (i := 0) rfl fps_nil) hM4) (fps_cons (i := 0) rfl fps_nil) hM8) (fps_cons (i := 0) rfl fps_nil) hM28) (fps_cons (i := 1) rfl fps_nil) hM39)
                  · refine ⟨fun _ => ?_, fun _ => ?_⟩
                    · exact hQ _ _ (eqo_tr (eqo_tr (eqo_tr (eqo_tr (eqo_wi (eqo_rf _) (i := 0) rfl (Or.inr rfl)) (fps_cons (i := 0) rfl fps_nil) hM4) (fps_cons (i := 0) rfl fps_nil) hM8) (fps_cons (i := 0) rfl fps_nil) hM28) (fps_cons (i := 1) rfl fps_nil) hM39)
                    · refine ⟨fun _ => ?_, fun _ => ?_⟩
                      · exact hQ _ _ (eqo_tr (eqo_tr (eqo_tr (eqo_tr (eqo_wi (eqo_rf _) (i := 0) rfl (Or.inr rfl)) (fps_cons (i := 0) rfl fps_nil) hM4) (fps_cons (i := 0) rfl fps_nil) hM8) (fps_cons (i := 0) rfl fps_nil) hM28) (fps_cons (i := 1) rfl fps_nil) hM39)
                      · exact hQ _ _ (eqo_tr (eqo_tr (eqo_tr (eqo_tr (eqo_wi (eqo_rf _) (i := 0) rfl (Or.inr rfl)) (fps_cons (i := 0) rfl fps_nil) hM4) (fps_cons (i := 0) rfl fps_nil) hM8) (fps_cons (i := 0) rfl fps_nil) hM28) (fps_cons (i := 1) rfl fps_nil) hM39)
              · exact hQ _ _ (eqo_tr (eqo_tr (eqo_tr (eqo_wi (eqo_rf _) (i := 0) rfl (Or.inr rfl)) (fps_cons (i := 0) rfl fps_nil) hM4) (fps_cons (i := 0) rfl fps_nil) hM8) (fps_cons (i := 0) rfl fps_nil) hM28)
          · exact hQ _ _ (eqo_tr (eqo_tr (eqo_wi (eqo_rf _) (i := 0) rfl (Or.inr rfl)) (fps_cons (i := 0) rfl fps_nil) hM4) (fps_cons (i := 0) rfl fps_nil) hM8)
        · refine an_m_throwsIf (fun r43 M44 hM44 => ?_)
          refine ⟨fun _ => ?_, fun _ => ?_⟩
          · refine ⟨fun _ => ?_, fun _ => ?_⟩
            · refine an_m_throwsIf (fun r47 M48 hM48 => ?_)
              refine ⟨fun _ => ?_, fun _ => ?_⟩
              · refine ⟨fun _ => ?_, fun _ => ?_⟩
                · refine an_m_inForce (fun r51 => ?_)
                  refine ⟨fun _ => ?_, fun _ => ?_⟩
                  · refine an_m_saying (fun r54 M55 hM55 => ?_)
                    exact hQ _ _ (eqo_tr (eqo_tr (eqo_tr (eqo_tr (eqo_wi (eqo_rf _) (i := 0) rfl (Or.inr rfl)) (fps_cons (i := 0) rfl fps_nil) hM4) (fps_cons (i := 0) rfl fps_nil) hM44) (fps_cons (i := 0) rfl fps_nil) hM48) (fps_cons (i := 1) rfl fps_nil) hM55)
                  · refine an_m_saying (fun r56 M57 hM57 => ?_)
                    exact hQ _ _ (eqo_tr (eqo_tr (eqo_tr (eqo_tr (eqo_wi (eqo_rf _) (i := 0) rfl (Or.inr rfl)) (fps_cons (i := 0) rfl fps_nil) hM4) (fps_cons (i := 0) rfl fps_nil) hM44) (fps_cons (i := 0) rfl fps_nil) hM48) (fps_cons (i := 1) rfl fps_nil) hM57)
                · refine an_m_may (fun r58 M59 hM59 => ?_)
                  refine ⟨fun _ => ?_, fun _ => ?_⟩
                  · exact hQ _ _ (eqo_tr (eqo_tr (eqo_tr (eqo_tr (eqo_wi (eqo_rf _) (i := 0) rfl (Or.inr rfl)) (fps_cons (i := 0) rfl fps_nil) hM4) (fps_cons (i := 0) rfl fps_nil) hM44) (fps_cons (i := 0) rfl fps_nil) hM48) (fps_cons (i := 1) rfl fps_nil) hM59)
                  · refine ⟨fun _ => ?_, fun _ => ?_⟩
                    · exact hQ _ _ (eqo_tr (eqo_tr (eqo_tr (eqo_tr (eqo_wi (eqo_rf _) (i := 0) rfl (Or.inr rfl)) (fps_cons (i := 0) rfl fps_nil) hM4) (fps_cons (i := 0) rfl fps_nil) hM44) (fps_cons (i := 0) rfl fps_nil) hM48) (fps_cons (i := 1) rfl fps_nil) hM59)
                    · refine ⟨fun _ => ?_, fun _ => ?_⟩
                      · exact hQ _ _ (eqo_tr (eqo_tr (eqo_tr (eqo_tr (eqo_wi (eqo_rf _) (i := 0) rfl (Or.inr rfl)) (fps_cons (i := 0) rfl fps_nil) hM4) (fps_cons (i := 0) rfl fps_nil) hM44) (fps_cons (i := 0) rfl fps_nil) hM48) (fps_cons (i := 1) rfl fps_nil) hM59)
                      · exact hQ _ _ (eqo_tr (eqo_tr (eqo_tr (eqo_tr (eqo_wi (eqo_rf _) (i := 0) rfl (Or.inr rfl)) (fps_cons (i := 0) rfl fps_nil) hM4) (fps_cons (i := 0) rfl fps_nil) hM44) (fps_cons (i := 0) rfl fps_nil) hM48) (fps_cons (i := 1) rfl fps_nil) hM59)
              · exact hQ _ _ (eqo_tr (eqo_tr (eqo_tr (eqo_wi (eqo_rf _) (i := 0) rfl (Or.inr rfl)) (fps_cons (i := 0) rfl fps_nil) hM4) (fps_cons (i := 0) rfl fps_nil) hM44) (fps_cons (i := 0) rfl fps_nil) hM48)
            · refine an_m_throwsIf (fun r63 M64 hM64 => ?_)
              refine ⟨fun _ => ?_, fun _ => ?_⟩
              · refine ⟨fun _ => ?_, fun _ => ?_⟩
                · refine an_m_inForce (fun r67 => ?_)
                  refine ⟨fun _ => ?_, fun _ => ?_⟩
                  · refine an_m_saying (fun r70 M71 hM71 => ?_)
                    exact hQ _ _ (eqo_tr (eqo_tr (eqo_tr (eqo_tr (eqo_wi (eqo_rf _) (i := 0) rfl (Or.inr rfl)) (fps_cons (i := 0) rfl fps_nil) hM4) (fps_cons (i := 0) rfl fps_nil) hM44) (fps_cons (i := 0) rfl fps_nil) hM64) (fps_cons (i := 1) rfl fps_nil) hM71)
                  · refine an_m_saying (fun r72 M73 hM73 => ?_)
                    exact hQ _ _ (eqo_tr (eqo_tr (eqo_tr (eqo_tr (eqo_wi (eqo_rf _) (i := 0) rfl (Or.inr rfl)) (fps_cons (i := 0) rfl fps_nil) hM4) (fps_cons (i := 0) rfl fps_nil) hM44) (fps_cons (i := 0) rfl fps_nil) hM64) (fps_cons (i := 1) rfl fps_nil) hM73)
                · refine an_m_may (fun r74 M75 hM75 => ?_)
                  refine ⟨fun _ => ?_, fun _ => ?_⟩
                  · exact hQ _ _ (eqo_tr (eqo_tr (eqo_tr (eqo_tr (eqo_wi (eqo_rf _) (i := 0) rfl (Or.inr rfl)) (fps_cons (i := 0) rfl fps_nil) hM4) (fps_cons (i := 0) rfl fps_nil) hM44) (fps_cons (i := 0) rfl fps_nil) hM64) (fps_cons (i := 1) rfl fps_nil) hM75)
                  · refine ⟨fun _ => ?_, fun _ => ?_⟩
                    · exact hQ _ _ (eqo_tr (eqo_tr (eqo_tr (eqo_tr (eqo_wi (eqo_rf _) (i := 0) rfl (Or.inr rfl)) (fps_cons (i := 0) rfl fps_nil) hM4) (fps_cons (i := 0) rfl fps_nil) hM44) (fps_cons (i := 0) rfl fps_nil) hM64) (fps_cons (i := 1) rfl fps_nil) hM75)
                    · refine ⟨fun _ => ?_, fun _ => ?_⟩
                      · exact hQ _ _ (eqo_tr (eqo_tr (eqo_tr (eqo_tr (eqo_wi (eqo_rf _) (i := 0) rfl (Or.inr rfl)) (fps_cons (i := 0) rfl fps_nil) hM4) (fps_cons (i := 0) rfl fps_nil) hM44) (fps_cons (i := 0) rfl fps_nil) hM64) (fps_cons (i := 1) rfl fps_nil) hM75)
                      · exact hQ _ _ (eqo_tr (eqo_tr (eqo_tr (eqo_tr (eqo_wi (eqo_rf _) (i := 0) rfl (Or.inr rfl)) (fps_cons (i := 0) rfl fps_nil) hM4) (fps_cons (i := 0) rfl fps_nil) hM44) (fps_cons (i := 0) rfl fps_nil) hM64) (fps_cons (i := 1) rfl fps_nil) hM75)
              · exact hQ _ _ (eqo_tr (eqo_tr (eqo_tr (eqo_wi (eqo_rf _) (i := 0) rfl (Or.inr rfl)) (fps_cons (i := 0) rfl fps_nil) hM4) (fps_cons (i := 0) rfl fps_nil) hM44) (fps_cons (i := 0) rfl fps_nil) hM64)
          · exact hQ _ _ (eqo_tr (eqo_tr (eqo_wi (eqo_rf _) (i := 0) rfl (Or.inr rfl)) (fps_cons (i := 0) rfl fps_nil) hM4) (fps_cons (i := 0) rfl fps_nil) hM44)
      · exact hQ _ _ (eqo_tr (eqo_wi (eqo_rf _) (i := 0) rfl (Or.inr rfl)) (fps_cons (i := 0) rfl fps_nil) hM4)
    · refine an_m_throwsIf (fun r79 M80 hM80 => ?_)
      refine ⟨fun _ => ?_, fun _ => ?_⟩
      · refine ⟨fun _ => ?_, fun _ => ?_⟩
        · refine an_m_throwsIf (fun r83 M84 hM84 => ?_)
          refine ⟨fun _ => ?_, fun _ => ?_⟩
          · refine ⟨fun _ => ?_, fun _ => ?_⟩
            · refine an_m_throwsIf (fun r87 M88 hM88 => ?_)
              refine ⟨fun _ => ?_, fun _ => ?_⟩
              · refine ⟨fun _ => ?_, fun _ => ?_⟩
                · refine an_m_inForce (fun r91 => ?_)
                  refine ⟨fun _ => ?_, fun _ => ?_⟩
                  · refine an_m_saying (fun r94 M95 hM95 => ?_)
                    exact hQ _ _ (eqo_tr (eqo_tr (eqo_tr (eqo_tr (eqo_wi (eqo_rf _) (i := 0) rfl (Or.inr rfl)) (fps_cons (i := 0) rfl fps_nil) hM80) (fps_cons (i := 0) rfl fps_nil) hM84) (fps_cons (i := 0) rfl fps_nil) hM88) (fps_cons (i := 1) rfl fps_nil) hM95)
                  · refine an_m_saying (fun r96 M97 hM97 => ?_)
                    exact hQ _ _ (eqo_tr (eqo_tr (eqo_tr (eqo_tr (eqo_wi (eqo_rf _) (i := 0) rfl (Or.inr rfl)) (fps_cons (i := 0) rfl fps_nil) hM80) (fps_cons (i := 0) rfl fps_nil) hM84) (fps_cons (i := 0) rfl fps_nil) hM88) (fps_cons (i := 1) rfl fps_nil) hM97)
                · refine an_m_may (fun r98 M99 hM99 => ?_)
                  refine ⟨fun _ => ?_, fun _ => ?_⟩
                  · exact hQ _ _ (eqo_tr (eqo_tr (eqo_tr (eqo_tr (eqo_wi (eqo_rf _) (i := 0) rfl (Or.inr rfl)) (fps_cons (i := 0) rfl fps_nil) hM80) (fps_cons (i := 0) rfl fps_nil) hM84) (fps_cons (i := 0) rfl fps_nil) hM88) (fps_cons (i := 1) rfl fps_nil) hM99)
                  · refine ⟨fun _ => ?_, fun _ => ?_⟩
                    · exact hQ _ _ (eqo_tr (eqo_tr (eqo_tr (eqo_tr (eqo_wi (eqo_rf _) (i := 0) rfl (Or.inr rfl)) (fps_cons (i := 0) rfl fps_nil) hM80) (fps_cons (i := 0) rfl fps_nil) hM84) (fps_cons (i := 0) rfl fps_nil) hM88) (fps_cons (i := 1) rfl fps_nil) hM99)
                    · refine ⟨fun _ => ?_, fun _ => ?_⟩
                      · exact hQ _ _ (eqo_tr (eqo_tr (eqo_tr (eqo_tr (eqo_wi (eqo_rf _) (i := 0) rfl (Or.inr rfl)) (fps_cons (i := 0) rfl fps_nil) hM80) (fps_cons (i := 0) rfl fps_nil) hM84) (fps_cons (i := 0) rfl fps_nil) hM88) (fps_cons (i := 1) rfl fps_nil) hM99)
                      · exact hQ _ _ (eqo_tr (eqo_tr (eqo_tr (eqo_tr (eqo_wi (eqo_rf _) (i := 0) rfl (Or.inr rfl)) (fps_cons (i := 0) rfl fps_nil) hM80) (fps_cons (i := 0) rfl fps_nil) hM84) (fps_cons (i := 0) rfl fps_nil) hM88) (fps_cons (i := 1) rfl fps_nil) hM99)
              · exact hQ _ _ (eqo_tr (eqo_tr (eqo_tr (eqo_wi (eqo_rf _) (i := 0) rfl (Or.inr rfl)) (fps_cons (i := 0) rfl fps_nil) hM80) (fps_cons (i := 0) rfl fps_nil) hM84) (fps_cons (i := 0) rfl fps_nil) hM88)
            · refine an_m_throwsIf (fun r103 M104 hM104 => ?_)
              refine ⟨fun _ => ?_, fun _ => ?_⟩
              · refine ⟨fun _ => ?_, fun _ => ?_⟩
                · refine an_m_inForce (fun r107 => ?_)
                  refine ⟨fun _ => ?_, fun _ => ?_⟩
                  · refine an_m_saying (fun r110 M111 hM111 => ?_)
                    exact hQ _ _ (eqo_tr (eqo_tr (eqo_tr (eqo_tr (eqo_wi (eqo_rf _) (i := 0) rfl (Or.inr rfl)) (fps_cons (i := 0) rfl fps_nil) hM80) (fps_cons (i := 0) rfl fps_nil) hM84) (fps_cons (i := 0) rfl fps_nil) hM104) (fps_cons (i := 1) rfl fps_nil) hM111)
                  · refine an_m_saying (fun r112 M113 hM113 => ?_)
                    exact hQ _ _ (eqo_tr (eqo_tr (eqo_tr (eqo_tr (eqo_wi (eqo_rf _) (i := 0) rfl (Or.inr rfl)) (fps_cons (i := 0) rfl fps_nil) hM80) (fps_cons (i := 0) rfl fps_nil) hM84) (fps_cons (i := 0) rfl fps_nil) hM104) (fps_cons (i := 1) rfl fps_nil) hM113)
                · refine an_m_may (fun r114 M115 hM115 => ?_)
                  refine ⟨fun _ => ?_, fun _ => ?_⟩
                  · exact hQ _ _ (eqo_tr (eqo_tr (eqo_tr (eqo_tr (eqo_wi (eqo_rf _) (i := 0) rfl (Or.inr rfl)) (fps_cons (i := 0) rfl fps_nil) hM80) (fps_cons (i := 0) rfl fps_nil) hM84) (fps_cons (i := 0) rfl fps_nil) hM104) (fps_cons (i := 1) rfl fps_nil) hM115)
                  · refine ⟨fun _ => ?_, fun _ => ?_⟩
                    · exact hQ _ _ (eqo_tr (eqo_tr (eqo_tr (eqo_tr (eqo_wi (eqo_rf _) (i := 0) rfl (Or.inr rfl)) (fps_cons (i := 0) rfl fps_nil) hM80) (fps_cons (i := 0) rfl fps_nil) hM84) (fps_cons (i := 0) rfl fps_nil) hM104) (fps_cons (i := 1) rfl fps_nil) hM115)
                    · refine ⟨fun _ => ?_, fun _ => ?_⟩
                      · exact hQ _ _ (eqo_tr (eqo_tr (eqo_tr (eqo_tr (eqo_wi (eqo_rf _) (i := 0) rfl (Or.inr rfl)) (fps_cons (i := 0) rfl fps_nil) hM80) (fps_cons (i := 0) rfl fps_nil) hM84) (fps_cons (i := 0) rfl fps_nil) hM104) (fps_cons (i := 1) rfl fps_nil) hM115)
                      · exact hQ _ _ (eqo_tr (eqo_tr (eqo_tr (eqo_tr (eqo_wi (eqo_rf _) (i := 0) rfl (Or.inr rfl)) (fps_cons (i := 0) rfl fps_nil) hM80) (fps_cons (i := 0) rfl fps_nil) hM84) (fps_cons (i := 0) rfl fps_nil) hM104) (fps_cons (i := 1) rfl fps_nil) hM115)
              · exact hQ _ _ (eqo_tr (eqo_tr (eqo_tr (eqo_wi (eqo_rf _) (i := 0) rfl (Or.inr rfl)) (fps_cons (i := 0) rfl fps_nil) hM80) (fps_cons (i := 0) rfl fps_nil) hM84) (fps_cons (i := 0) rfl fps_nil) hM104)
          · exact hQ _ _ (eqo_tr (eqo_tr (eqo_wi (eqo_rf _) (i := 0) rfl (Or.inr rfl)) (fps_cons (i := 0) rfl fps_nil) hM80) (fps_cons (i := 0) rfl fps_nil) hM84)
        · refine an_m_throwsIf (fun r119 M120 hM120 => ?_)
          refine ⟨fun _ => ?_, fun _ => ?_⟩
          · refine ⟨fun _ => ?_, fun _ => ?_⟩
            · refine an_m_throwsIf (fun r123 M124 hM124 => ?_)
              refine ⟨fun _ => ?_, fun _ => ?_⟩
              · refine ⟨fun _ => ?_, fun _ => ?_⟩
                · refine an_m_inForce (fun r127 => ?_)
                  refine ⟨fun _ => ?_, fun _ => ?_⟩
                  · refine an_m_saying (fun r130 M131 hM131 => ?_)
                    exact hQ _ _ (eqo_tr (eqo_tr (eqo_tr (eqo_tr (eqo_wi (eqo_rf _) (i := 0) rfl (Or.inr rfl)) (fps_cons (i := 0) rfl fps_nil) hM80) (fps_cons (i := 0) rfl fps_nil) hM120) (fps_cons (i := 0) rfl fps_nil) hM124) (fps_cons (i := 1) rfl fps_nil) hM131)
                  · refine an_m_saying (fun r132 M133 hM133 => ?_)
                    exact hQ _ _ (eqo_tr (eqo_tr (eqo_tr (eqo_tr (eqo_wi (eqo_rf _) (i := 0) rfl (Or.inr rfl)) (fps_cons (i := 0) rfl fps_nil) hM80) (fps_cons (i := 0) rfl fps_nil) hM120) (fps_cons (i := 0) rfl fps_nil) hM124) (fps_cons (i := 1) rfl fps_nil) hM133)
                · refine an_m_may (fun r134 M135 hM135 => ?_)
                  refine ⟨fun _ => ?_, fun _ => ?_⟩
                  · exact hQ _ _ (eqo_tr (eqo_tr (eqo_tr (eqo_tr (eqo_wi (eqo_rf _) (i := 0) rfl (Or.inr rfl)) (fps_cons (i := 0) rfl fps_nil) hM80) (fps_cons (i := 0) rfl fps_nil) hM120) (fps_cons (i := 0) rfl fps_nil) hM124) (fps_cons (i := 1) rfl fps_nil) hM135)
                  · refine ⟨fun _ => ?_, fun _ => ?_⟩
                    · exact hQ _ _ (eqo_tr (eqo_tr (eqo_tr (eqo_tr (eqo_wi (eqo_rf _) (i := 0) rfl (Or.inr rfl)) (fps_cons (i := 0) rfl fps_nil) hM80) (fps_cons (i := 0) rfl fps_nil) hM120) (fps_cons (i := 0) rfl fps_nil) hM124) (fps_cons (i := 1) rfl fps_nil) hM135)
                    · refine ⟨fun _ => ?_, fun _ => ?_⟩
                      · exact hQ _ _ (eqo_tr (eqo_tr (eqo_tr (eqo_tr (eqo_wi (eqo_rf _) (i := 0) rfl (Or.inr rfl)) (fps_cons (i := 0) rfl fps_nil) hM80) (fps_cons (i := 0) rfl fps_nil) hM120) (fps_cons (i := 0) rfl fps_nil) hM124) (fps_cons (i := 1) rfl fps_nil) hM135)
                      · exact hQ _ _ (eqo_tr (eqo_tr (eqo_tr (eqo_tr (eqo_wi (eqo_rf _) (i := 0) rfl (Or.inr rfl)) (fps_cons (i := 0) rfl fps_nil) hM80) (fps_cons (i := 0) rfl fps_nil) hM120) (fps_cons (i := 0) rfl fps_nil) hM124) (fps_cons (i := 1) rfl fps_nil) hM135)
              · exact hQ _ _ (eqo_tr (eqo_tr (eqo_tr (eqo_wi (eqo_rf _) (i := 0) rfl (Or.inr rfl)) (fps_cons (i := 0) rfl fps_nil) hM80) (fps_cons (i := 0) rfl fps_nil) hM120) (fps_cons (i := 0) rfl fps_nil) hM124)
            · refine an_m_throwsIf (fun r139 M140 hM140 => ?_)
              refine ⟨fun _ => ?_, fun _ => ?_⟩
              · refine ⟨fun _ => ?_, fun _ => ?_⟩
                · refine an_m_inForce (fun r143 => ?_)
                  refine ⟨fun _ => ?_, fun _ => ?_⟩
                  · refine an_m_saying (fun r146 M147 hM147 => ?_)
                    exact hQ _ _ (eqo_tr (eqo_tr (eqo_tr (eqo_tr (eqo_wi (eqo_rf _) (i := 0) rfl (Or.inr rfl)) (fps_cons (i := 0) rfl fps_nil) hM80) (fps_cons (i := 0) rfl fps_nil) hM120) (fps_cons (i := 0) rfl fps_nil) hM140) (fps_cons (i := 1) rfl fps_nil) hM147)
                  · refine an_m_saying (fun r148 M149 hM149 => ?_)
                    exact hQ _ _ (eqo_tr (eqo_tr (eqo_tr (eqo_tr (eqo_wi (eqo_rf _) (i := 0) rfl (Or.inr rfl)) (fps_cons (i := 0) rfl fps_nil) hM80) (fps_cons (i := 0) rfl fps_nil) hM120) (fps_cons (i := 0) rfl fps_nil) hM140) (fps_cons (i := 1) rfl fps_nil) hM149)
                · refine an_m_may (fun r150 M151 hM151 => ?_)
                  refine ⟨fun _ => ?_, fun _ => ?_⟩
                  · exact hQ _ _ (eqo_tr (eqo_tr (eqo_tr (eqo_tr (eqo_wi (eqo_rf _) (i := 0) rfl (Or.inr rfl)) (fps_cons (i := 0) rfl fps_nil) hM80) (fps_cons (i := 0) rfl fps_nil) hM120) (fps_cons (i := 0) rfl fps_nil) hM140) (fps_cons (i := 1) rfl fps_nil) hM151)
                  · refine ⟨fun _ => ?_, fun _ => ?_⟩
                    · exact hQ _ _ (eqo_tr (eqo_tr (eqo_tr (eqo_tr (eqo_wi (eqo_rf _) (i := 0) rfl (Or.inr rfl)) (fps_cons (i := 0) rfl fps_nil) hM80) (fps_cons (i := 0) rfl fps_nil) hM120) (fps_cons (i := 0) rfl fps_nil) hM140) (fps_cons (i := 1) rfl fps_nil) hM151)
                    · refine ⟨fun _ => ?_, fun _ => ?_⟩
                      · exact hQ _ _ (eqo_tr (eqo_tr (eqo_tr (eqo_tr (eqo_wi (eqo_rf _) (i := 0) rfl (Or.inr rfl)) (fps_cons (i := 0) rfl fps_nil) hM80) (fps_cons (i := 0) rfl fps_nil) hM120) (fps_cons (i := 0) rfl fps_nil) hM140) (fps_cons (i := 1) rfl fps_nil) hM151)
                      · exact hQ _ _ (eqo_tr (eqo_tr (eqo_tr (eqo_tr (eqo_wi (eqo_rf _) (i := 0) rfl (Or.inr rfl)) (fps_cons (i := 0) rfl fps_nil) hM80) (fps_cons (i := 0) rfl fps_nil) hM120) (fps_cons (i := 0) rfl fps_nil) hM140) (fps_cons (i := 1) rfl fps_nil) hM151)
              · exact hQ _ _ (eqo_tr (eqo_tr (eqo_tr (eqo_wi (eqo_rf _) (i := 0) rfl (Or.inr rfl)) (fps_cons (i := 0) rfl fps_nil) hM80) (fps_cons (i := 0) rfl fps_nil) hM120) (fps_cons (i := 0) rfl fps_nil) hM140)
          · exact hQ _ _ (eqo_tr (eqo_tr (eqo_wi (eqo_rf _) (i := 0) rfl (Or.inr rfl)) (fps_cons (i := 0) rfl fps_nil) hM80) (fps_cons (i := 0) rfl fps_nil) hM120)
      · exact hQ _ _ (eqo_tr (eqo_wi (eqo_rf _) (i := 0) rfl (Or.inr rfl)) (fps_cons (i := 0) rfl fps_nil) hM80)
  · refine an_m_throwsIf (fun r155 M156 hM156 => ?_)
    refine ⟨fun _ => ?_, fun _ => ?_⟩
    · refine ⟨fun _ => ?_, fun _ => ?_⟩
      · refine an_m_throwsIf (fun r159 M160 hM160 => ?_)
        refine ⟨fun _ => ?_, fun _ => ?_⟩
        · refine ⟨fun _ => ?_, fun _ => ?_⟩
          · refine an_m_throwsIf (fun r163 M164 hM164 => ?_)
            refine ⟨fun _ => ?_, fun _ => ?_⟩
            · refine ⟨fun _ => ?_, fun _ => ?_⟩
              · refine an_m_inForce (fun r167 => ?_)
                refine ⟨fun _ => ?_, fun _ => ?_⟩
                · refine an_m_saying (fun r170 M171 hM171 => ?_)
                  exact hQ _ _ (eqo_tr (eqo_tr (eqo_tr (eqo_tr (eqo_wi (eqo_rf _) (i := 0) rfl (Or.inr rfl)) (fps_cons (i := 0) rfl fps_nil) hM156) (fps_cons (i := 0) rfl fps_nil) hM160) (fps_cons (i := 0) rfl fps_nil) hM164) (fps_cons (i := 1) rfl fps_nil) hM171)
                · refine an_m_saying (fun r172 M173 hM173 => ?_)
                  exact hQ _ _ (eqo_tr (eqo_tr (eqo_tr (eqo_tr (eqo_wi (eqo_rf _) (i := 0) rfl (Or.inr rfl)) (fps_cons (i := 0) rfl fps_nil) hM156) (fps_cons (i := 0) rfl fps_nil) hM160) (fps_cons (i := 0) rfl fps_nil) hM164) (fps_cons (i := 1) rfl fps_nil) hM173)
              · refine an_m_may (fun r174 M175 hM175 => ?_)
                refine ⟨fun _ => ?_, fun _ => ?_⟩
                · exact hQ _ _ (eqo_tr (eqo_tr (eqo_tr (eqo_tr (eqo_wi (eqo_rf _) (i := 0) rfl (Or.inr rfl)) (fps_cons (i := 0) rfl fps_nil) hM156) (fps_cons (i := 0) rfl fps_nil) hM160) (fps_cons (i := 0) rfl fps_nil) hM164) (fps_cons (i := 1) rfl fps_nil) hM175)
                · refine ⟨fun _ => ?_, fun _ => ?_⟩
                  · exact hQ _ _ (eqo_tr (eqo_tr (eqo_tr (eqo_tr (eqo_wi (eqo_rf _) (i := 0) rfl (Or.inr rfl)) (fps_cons (i := 0) rfl fps_nil) hM156) (fps_cons (i := 0) rfl fps_nil) hM160) (fps_cons (i := 0) rfl fps_nil) hM164) (fps_cons (i := 1) rfl fps_nil) hM175)
                  · refine ⟨fun _ => ?_, fun _ => ?_⟩
                    · exact hQ _ _ (eqo_tr (eqo_tr (eqo_tr (eqo_tr (eqo_wi (eqo_rf _) (i := 0) rfl (Or.inr rfl)) (fps_cons (i := 0) rfl fps_nil) hM156) (fps_cons (i := 0) rfl fps_nil) hM160) (fps_cons (i := 0) rfl fps_nil) hM164) (fps_cons (i := 1) rfl fps_nil) hM175)
                    · exact hQ _ _ (eqo_tr (eqo_tr (eqo_tr (eqo_tr (eqo_wi (eqo_rf _) (i := 0) rfl (Or.inr rfl)) (fps_cons (i := 0) rfl fps_nil) hM156) (fps_cons (i := 0) rfl fps_nil) hM160) (fps_cons (i := 0) rfl fps_nil) hM164) (fps_cons (i := 1) rfl fps_nil) hM175)
            · exact hQ _ _ (eqo_tr (eqo_tr (eqo_tr (eqo_wi (eqo_rf _) (i := 0) rfl (Or.inr rfl)) (fps_cons (i := 0) rfl fps_nil) hM156) (fps_cons (i := 0) rfl fps_nil) hM160) (fps_cons (i := 0) rfl fps_nil) hM164)
          · refine an_m_throwsIf (fun r179 M180 hM180 => ?_)
            refine ⟨fun _ => ?_, fun _ => ?_⟩
            · refine ⟨fun _ => ?_, fun _ => ?_⟩
              · refine an_m_inForce (fun r183 => ?_)
                refine ⟨fun _ => ?_, fun _ => ?_⟩
                · refine an_m_saying (fun r186 M187 hM187 => ?_)
                  exact hQ _ _ (eqo_tr (eqo_tr (eqo_tr (eqo_tr (eqo_wi (eqo_rf _) (i := 0) rfl (Or.inr rfl)) (fps_cons (i := 0) rfl fps_nil) hM156) (fps_cons (i := 0) rfl fps_nil) hM160) (fps_cons (i := 0) rfl fps_nil) hM180) (fps_cons (i := 1) rfl fps_nil) hM187)
                · refine an_m_saying (fun r188 M189 hM189 => ?_)
                  exact hQ _ _ (eqo_tr (eqo_tr (eqo_tr (eqo_tr (eqo_wi (eqo_rf _) (i := 0) rfl (Or.inr rfl)) (fps_cons (i := 0) rfl fps_nil) hM156) (fps_cons (i := 0) rfl fps_nil) hM160) (fps_cons (i := 0) rfl fps_nil) hM180) (fps_cons (i := 1) rfl fps_nil) hM189)
              · refine an_m_may (fun r190 M191 hM191 => ?_)
                refine ⟨fun _ => ?_, fun _ => ?_⟩
                · exact hQ _ _ (eqo_tr (eqo_tr (eqo_tr (eqo_tr (eqo_wi (eqo_rf _) (i := 0) rfl (Or.inr rfl)) (fps_cons (i := 0) rfl fps_nil) hM156) (fps_cons (i := 0) rfl fps_nil) hM160) (fps_cons (i := 0) rfl fps_nil) hM180) (fps_cons (i := 1) rfl fps_nil) hM191)
                · refine ⟨fun _ => ?_, fun _ => ?_⟩
                  · exact hQ _ _ (eqo_tr (eqo_tr (eqo_tr (eqo_tr (eqo_wi (eqo_rf _) (i := 0) rfl (Or.inr rfl)) (fps_cons (i := 0) rfl fps_nil) hM156) (fps_cons (i := 0) rfl fps_nil) hM160) (fps_cons (i := 0) rfl fps_nil) hM180) (fps_cons (i := 1) rfl fps_nil) hM191)
                  · refine ⟨fun _ => ?_, fun _ => ?_⟩
                    · exact hQ _ _ (eqo_tr (eqo_tr (eqo_tr (eqo_tr (eqo_wi (eqo_rf _) (i := 0) rfl (Or.inr rfl)) (fps_cons (i := 0) rfl fps_nil) hM156) (fps_cons (i := 0) rfl fps_nil) hM160) (fps_cons (i := 0) rfl fps_nil) hM180) (fps_cons (i := 1) rfl fps_nil) hM191)
                    · exact hQ _ _ (eqo_tr (eqo_tr (eqo_tr (eqo_tr (eqo_wi (eqo_rf _) (i := 0) rfl (Or.inr rfl)) (fps_cons (i := 0) rfl fps_nil) hM156) (fps_cons (i := 0) rfl fps_nil) hM160) (fps_cons (i := 0) rfl fps_nil) hM180) (fps_cons (i := 1) rfl fps_nil) hM191)
            · exact hQ _ _ (eqo_tr (eqo_tr (eqo_tr (eqo_wi (eqo_rf _) (i := 0) rfl (Or.inr rfl)) (fps_cons (i := 0) rfl fps_nil) hM156) (fps_cons (i := 0) rfl fps_nil) hM160) (fps_cons (i := 0) rfl fps_nil) hM180)
        · exact hQ _ _ (eqo_tr (eqo_tr (eqo_wi (eqo_rf _) (i := 0) rfl (Or.inr rfl)) (fps_cons (i := 0) rfl fps_nil) hM156) (fps_cons (i := 0) rfl fps_nil) hM160)
      · refine an_m_throwsIf (fun r195 M196 hM196 => ?_)
        refine ⟨fun _ => ?_, fun _ => ?_⟩
        · refine ⟨fun _ => ?_, fun _ => ?_⟩
          · refine an_m_throwsIf (fun r199 M200 hM200 => ?_)
            refine ⟨fun _ => ?_, fun _ => ?_⟩
            · refine ⟨fun _ => ?_, fun _ => ?_⟩
              · refine an_m_inForce (fun r203 => ?_)
                refine ⟨fun _ => ?_, fun _ => ?_⟩
                · refine an_m_saying (fun r206 M207 hM207 => ?_)
                  exact hQ _ _ (eqo_tr (eqo_tr (eqo_tr (eqo_tr (eqo_wi (eqo_rf _) (i := 0) rfl (Or.inr rfl)) (fps_cons (i := 0) rfl fps_nil) hM156) (fps_cons (i := 0) rfl fps_nil) hM196) (fps_cons (i := 0) rfl fps_nil) hM200) (fps_cons (i := 1) rfl fps_nil) hM207)
                · refine an_m_saying (fun r208 M209 hM209 => ?_)
                  exact hQ _ _ (eqo_tr (eqo_tr (eqo_tr (eqo_tr (eqo_wi (eqo_rf _) (i := 0) rfl (Or.inr rfl)) (fps_cons (i := 0) rfl fps_nil) hM156) (fps_cons (i := 0) rfl fps_nil) hM196) (fps_cons (i := 0) rfl fps_nil) hM200) (fps_cons (i := 1) rfl fps_nil) hM209)
              · refine an_m_may (fun r210 M211 hM211 => ?_)
                refine ⟨fun _ => ?_, fun _ => ?_⟩
                · exact hQ _ _ (eqo_tr (eqo_tr (eqo_tr (eqo_tr (eqo_wi (eqo_rf _) (i := 0) rfl (Or.inr rfl)) (fps_cons (i := 0) rfl fps_nil) hM156) (fps_cons (i := 0) rfl fps_nil) hM196) (fps_cons (i := 0) rfl fps_nil) hM200) (fps_cons (i := 1) rfl fps_nil) hM211)
                · refine ⟨fun _ => ?_, fun _ => ?_⟩
                  · exact hQ _ _ (eqo_tr (eqo_tr (eqo_tr (eqo_tr (eqo_wi (eqo_rf _) (i := 0) rfl (Or.inr rfl)) (fps_cons (i := 0) rfl fps_nil) hM156) (fps_cons (i := 0) rfl fps_nil) hM196) (fps_cons (i := 0) rfl fps_nil) hM200) (fps_cons (i := 1) rfl fps_nil) hM211)
                  · refine ⟨fun _ => ?_, fun _ => ?_⟩
                    · exact hQ _ _ (eqo_tr (eqo_tr (eqo_tr (eqo_tr (eqo_wi (eqo_rf _) (i := 0) rfl (Or.inr rfl)) (fps_cons (i := 0) rfl fps_nil) hM156) (fps_cons (i := 0) rfl fps_nil) hM196) (fps_cons (i := 0) rfl fps_nil) hM200) (fps_cons (i := 1) rfl fps_nil) hM211)
                    · exact hQ _ _ (eqo_tr (eqo_tr (eqo_tr (eqo_tr (eqo_wi (eqo_rf _) (i := 0) rfl (Or.inr rfl)) (fps_cons (i := 0) rfl fps_nil) hM156) (fps_cons (i := 0) rfl fps_nil) hM196) (fps_cons (i := 0) rfl fps_nil) hM200) (fps_cons (i := 1) rfl fps_nil) hM211)
            · exact hQ _ _ (eqo_tr (eqo_tr (eqo_tr (eqo_wi (eqo_rf _) (i := 0) rfl (Or.inr rfl)) (fps_cons (i := 0) rfl fps_nil) hM156) (fps_cons (i := 0) rfl fps_nil) hM196) (fps_cons (i := 0) rfl fps_nil) hM200)
          · refine an_m_throwsIf (fun r215 M216 hM216 => ?_)
            refine ⟨fun _ => ?_, fun _ => ?_⟩
            · refine ⟨fun _ => ?_, fun _ => ?_⟩
              · refine an_m_inForce (fun r219 => ?_)
                refine ⟨fun _ => ?_, fun _ => ?_⟩
                · refine an_m_saying (fun r222 M223 hM223 => ?_)
                  exact hQ _ _ (eqo_tr (eqo_tr (eqo_tr (eqo_tr (eqo_wi (eqo_rf _) (i := 0) rfl (Or.inr rfl)) (fps_cons (i := 0) rfl fps_nil) hM156) (fps_cons (i := 0) rfl fps_nil) hM196) (fps_cons (i := 0) rfl fps_nil) hM216) (fps_cons (i := 1) rfl fps_nil) hM223)
                · refine an_m_saying (fun r224 M225 hM225 => ?_)
                  exact hQ _ _ (eqo_tr (eqo_tr (eqo_tr (eqo_tr (eqo_wi (eqo_rf _) (i := 0) rfl (Or.inr rfl)) (fps_cons (i := 0) rfl fps_nil) hM156) (fps_cons (i := 0) rfl fps_nil) hM196) (fps_cons (i := 0) rfl fps_nil) hM216) (fps_cons (i := 1) rfl fps_nil) hM225)
              · refine an_m_may (fun r226 M227 hM227 => ?_)
                refine ⟨fun _ => ?_, fun _ => ?_⟩
                · exact hQ _ _ (eqo_tr (eqo_tr (eqo_tr (eqo_tr (eqo_wi (eqo_rf _) (i := 0) rfl (Or.inr rfl)) (fps_cons (i := 0) rfl fps_nil) hM156) (fps_cons (i := 0) rfl fps_nil) hM196) (fps_cons (i := 0) rfl fps_nil) hM216) (fps_cons (i := 1) rfl fps_nil) hM227)
                · refine ⟨fun _ => ?_, fun _ => ?_⟩
                  · exact hQ _ _ (eqo_tr (eqo_tr (eqo_tr (eqo_tr (eqo_wi (eqo_rf _) (i := 0) rfl (Or.inr rfl)) (fps_cons (i := 0) rfl fps_nil) hM156) (fps_cons (i := 0) rfl fps_nil) hM196) (fps_cons (i := 0) rfl fps_nil) hM216) (fps_cons (i := 1) rfl fps_nil) hM227)
                  · refine ⟨fun _ => ?_, fun _ => ?_⟩
                    · exact hQ _ _ (eqo_tr (eqo_tr (eqo_tr (eqo_tr (eqo_wi (eqo_rf _) (i := 0) rfl (Or.inr rfl)) (fps_cons (i := 0) rfl fps_nil) hM156) (fps_cons (i := 0) rfl fps_nil) hM196) (fps_cons (i := 0) rfl fps_nil) hM216) (fps_cons (i := 1) rfl fps_nil) hM227)
                    · exact hQ _ _ (eqo_tr (eqo_tr (eqo_tr (eqo_tr (eqo_wi (eqo_rf _) (i := 0) rfl (Or.inr rfl)) (fps_cons (i := 0) rfl fps_nil) hM156) (fps_cons (i := 0) rfl fps_nil) hM196) (fps_cons (i := 0) rfl fps_nil) hM216) (fps_cons (i := 1) rfl fps_nil) hM227)
            · exact hQ _ _ (eqo_tr (eqo_tr (eqo_tr (eqo_wi (eqo_rf _) (i := 0) rfl (Or.inr rfl)) (fps_cons (i := 0) rfl fps_nil) hM156) (fps_cons (i := 0) rfl fps_nil) hM196) (fps_cons (i := 0) rfl fps_nil) hM216)
        · exact hQ _ _ (eqo_tr (eqo_tr (eqo_wi (eqo_rf _) (i := 0) rfl (Or.inr rfl)) (fps_cons (i := 0) rfl fps_nil) hM156) (fps_cons (i := 0) rfl fps_nil) hM196)
    · exact hQ _ _ (eqo_tr (eqo_wi (eqo_rf _) (i := 0) rfl (Or.inr rfl)) (fps_cons (i := 0) rfl fps_nil) hM156)
def fp_m_tell  : List (Nat × Nat × Option Nat) := [(190, 190, some 0), (190, 190, some 12), (195, 195, none), (200, 200, none), (191, 191, none)]
theorem an_m_tell {p1 : Int32} {p2 : Int32} {N : Nat} {M : MM} {Q : Int32 → MM → Prop} (hQ : ∀ (r : Int32) (M1 : MM), Eqo fp_m_tell M M1 → Q r M1) : W_m_tell p1 p2 N M Q := by
  unfold W_m_tell
  refine ⟨fun _ => ?_, fun _ => ?_⟩
  · refine ⟨fun _ => ?_, fun _ => ?_⟩
    · refine an_m_throwsIf (fun r3 M4 hM4 => ?_)
      refine ⟨fun _ => ?_, fun _ => ?_⟩
      · refine ⟨fun _ => ?_, fun _ => ?_⟩
        · refine an_m_throwsIf (fun r7 M8 hM8 => ?_)
          refine ⟨fun _ => ?_, fun _ => ?_⟩
          · refine an_m_remembers (fun M11 hM11 => ?_)
            refine an_m_sets (fun M13 hM13 => ?_)
            exact hQ _ _ (eqo_tr (eqo_tr (eqo_tr (eqo_tr (eqo_wi (eqo_rf _) (i := 0) rfl (Or.inr rfl)) (fps_cons (i := 0) rfl fps_nil) hM4) (fps_cons (i := 0) rfl fps_nil) hM8) (fps_cons (i := 1) rfl (fps_cons (i := 2) rfl (fps_cons (i := 3) rfl fps_nil))) hM11) (fps_cons (i := 4) rfl fps_nil) hM13)
          · exact hQ _ _ (eqo_tr (eqo_tr (eqo_wi (eqo_rf _) (i := 0) rfl (Or.inr rfl)) (fps_cons (i := 0) rfl fps_nil) hM4) (fps_cons (i := 0) rfl fps_nil) hM8)
        · refine ⟨fun _ => ?_, fun _ => ?_⟩
          · refine an_m_throwsIf (fun r15 M16 hM16 => ?_)
            refine ⟨fun _ => ?_, fun _ => ?_⟩
            · refine an_m_remembers (fun M19 hM19 => ?_)
              refine an_m_sets (fun M21 hM21 => ?_)
              exact hQ _ _ (eqo_tr (eqo_tr (eqo_tr (eqo_tr (eqo_wi (eqo_rf _) (i := 0) rfl (Or.inr rfl)) (fps_cons (i := 0) rfl fps_nil) hM4) (fps_cons (i := 0) rfl fps_nil) hM16) (fps_cons (i := 1) rfl (fps_cons (i := 2) rfl (fps_cons (i := 3) rfl fps_nil))) hM19) (fps_cons (i := 4) rfl fps_nil) hM21)
            · exact hQ _ _ (eqo_tr (eqo_tr (eqo_wi (eqo_rf _) (i := 0) rfl (Or.inr rfl)) (fps_cons (i := 0) rfl fps_nil) hM4) (fps_cons (i := 0) rfl fps_nil) hM16)
          · refine an_m_throwsIf (fun r22 M23 hM23 => ?_)
            refine ⟨fun _ => ?_, fun _ => ?_⟩
            · refine an_m_remembers (fun M26 hM26 => ?_)
              refine an_m_sets (fun M28 hM28 => ?_)
              exact hQ _ _ (eqo_tr (eqo_tr (eqo_tr (eqo_tr (eqo_wi (eqo_rf _) (i := 0) rfl (Or.inr rfl)) (fps_cons (i := 0) rfl fps_nil) hM4) (fps_cons (i := 0) rfl fps_nil) hM23) (fps_cons (i := 1) rfl (fps_cons (i := 2) rfl (fps_cons (i := 3) rfl fps_nil))) hM26) (fps_cons (i := 4) rfl fps_nil) hM28)
            · exact hQ _ _ (eqo_tr (eqo_tr (eqo_wi (eqo_rf _) (i := 0) rfl (Or.inr rfl)) (fps_cons (i := 0) rfl fps_nil) hM4) (fps_cons (i := 0) rfl fps_nil) hM23)
      · exact hQ _ _ (eqo_tr (eqo_wi (eqo_rf _) (i := 0) rfl (Or.inr rfl)) (fps_cons (i := 0) rfl fps_nil) hM4)
    · refine an_m_throwsIf (fun r29 M30 hM30 => ?_)
      refine ⟨fun _ => ?_, fun _ => ?_⟩
      · refine ⟨fun _ => ?_, fun _ => ?_⟩
        · refine an_m_throwsIf (fun r33 M34 hM34 => ?_)
          refine ⟨fun _ => ?_, fun _ => ?_⟩
          · refine an_m_remembers (fun M37 hM37 => ?_)
            refine an_m_sets (fun M39 hM39 => ?_)
            exact hQ _ _ (eqo_tr (eqo_tr (eqo_tr (eqo_tr (eqo_wi (eqo_rf _) (i := 0) rfl (Or.inr rfl)) (fps_cons (i := 0) rfl fps_nil) hM30) (fps_cons (i := 0) rfl fps_nil) hM34) (fps_cons (i := 1) rfl (fps_cons (i := 2) rfl (fps_cons (i := 3) rfl fps_nil))) hM37) (fps_cons (i := 4) rfl fps_nil) hM39)
          · exact hQ _ _ (eqo_tr (eqo_tr (eqo_wi (eqo_rf _) (i := 0) rfl (Or.inr rfl)) (fps_cons (i := 0) rfl fps_nil) hM30) (fps_cons (i := 0) rfl fps_nil) hM34)
        · refine ⟨fun _ => ?_, fun _ => ?_⟩
          · refine an_m_throwsIf (fun r41 M42 hM42 => ?_)
            refine ⟨fun _ => ?_, fun _ => ?_⟩
            · refine an_m_remembers (fun M45 hM45 => ?_)
              refine an_m_sets (fun M47 hM47 => ?_)
              exact hQ _ _ (eqo_tr (eqo_tr (eqo_tr (eqo_tr (eqo_wi (eqo_rf _) (i := 0) rfl (Or.inr rfl)) (fps_cons (i := 0) rfl fps_nil) hM30) (fps_cons (i := 0) rfl fps_nil) hM42) (fps_cons (i := 1) rfl (fps_cons (i := 2) rfl (fps_cons (i := 3) rfl fps_nil))) hM45) (fps_cons (i := 4) rfl fps_nil) hM47)
            · exact hQ _ _ (eqo_tr (eqo_tr (eqo_wi (eqo_rf _) (i := 0) rfl (Or.inr rfl)) (fps_cons (i := 0) rfl fps_nil) hM30) (fps_cons (i := 0) rfl fps_nil) hM42)
          · refine an_m_throwsIf (fun r48 M49 hM49 => ?_)
            refine ⟨fun _ => ?_, fun _ => ?_⟩
            · refine an_m_remembers (fun M52 hM52 => ?_)
              refine an_m_sets (fun M54 hM54 => ?_)
              exact hQ _ _ (eqo_tr (eqo_tr (eqo_tr (eqo_tr (eqo_wi (eqo_rf _) (i := 0) rfl (Or.inr rfl)) (fps_cons (i := 0) rfl fps_nil) hM30) (fps_cons (i := 0) rfl fps_nil) hM49) (fps_cons (i := 1) rfl (fps_cons (i := 2) rfl (fps_cons (i := 3) rfl fps_nil))) hM52) (fps_cons (i := 4) rfl fps_nil) hM54)
            · exact hQ _ _ (eqo_tr (eqo_tr (eqo_wi (eqo_rf _) (i := 0) rfl (Or.inr rfl)) (fps_cons (i := 0) rfl fps_nil) hM30) (fps_cons (i := 0) rfl fps_nil) hM49)
      · exact hQ _ _ (eqo_tr (eqo_wi (eqo_rf _) (i := 0) rfl (Or.inr rfl)) (fps_cons (i := 0) rfl fps_nil) hM30)
  · refine an_m_throwsIf (fun r55 M56 hM56 => ?_)
    refine ⟨fun _ => ?_, fun _ => ?_⟩
    · refine ⟨fun _ => ?_, fun _ => ?_⟩
      · refine an_m_throwsIf (fun r59 M60 hM60 => ?_)
        refine ⟨fun _ => ?_, fun _ => ?_⟩
        · refine an_m_remembers (fun M63 hM63 => ?_)
          refine an_m_sets (fun M65 hM65 => ?_)
          exact hQ _ _ (eqo_tr (eqo_tr (eqo_tr (eqo_tr (eqo_wi (eqo_rf _) (i := 0) rfl (Or.inr rfl)) (fps_cons (i := 0) rfl fps_nil) hM56) (fps_cons (i := 0) rfl fps_nil) hM60) (fps_cons (i := 1) rfl (fps_cons (i := 2) rfl (fps_cons (i := 3) rfl fps_nil))) hM63) (fps_cons (i := 4) rfl fps_nil) hM65)
        · exact hQ _ _ (eqo_tr (eqo_tr (eqo_wi (eqo_rf _) (i := 0) rfl (Or.inr rfl)) (fps_cons (i := 0) rfl fps_nil) hM56) (fps_cons (i := 0) rfl fps_nil) hM60)
      · refine ⟨fun _ => ?_, fun _ => ?_⟩
        · refine an_m_throwsIf (fun r67 M68 hM68 => ?_)
          refine ⟨fun _ => ?_, fun _ => ?_⟩
          · refine an_m_remembers (fun M71 hM71 => ?_)
            refine an_m_sets (fun M73 hM73 => ?_)
            exact hQ _ _ (eqo_tr (eqo_tr (eqo_tr (eqo_tr (eqo_wi (eqo_rf _) (i := 0) rfl (Or.inr rfl)) (fps_cons (i := 0) rfl fps_nil) hM56) (fps_cons (i := 0) rfl fps_nil) hM68) (fps_cons (i := 1) rfl (fps_cons (i := 2) rfl (fps_cons (i := 3) rfl fps_nil))) hM71) (fps_cons (i := 4) rfl fps_nil) hM73)
          · exact hQ _ _ (eqo_tr (eqo_tr (eqo_wi (eqo_rf _) (i := 0) rfl (Or.inr rfl)) (fps_cons (i := 0) rfl fps_nil) hM56) (fps_cons (i := 0) rfl fps_nil) hM68)
        · refine an_m_throwsIf (fun r74 M75 hM75 => ?_)
          refine ⟨fun _ => ?_, fun _ => ?_⟩
          · refine an_m_remembers (fun M78 hM78 => ?_)
            refine an_m_sets (fun M80 hM80 => ?_)
            exact hQ _ _ (eqo_tr (eqo_tr (eqo_tr (eqo_tr (eqo_wi (eqo_rf _) (i := 0) rfl (Or.inr rfl)) (fps_cons (i := 0) rfl fps_nil) hM56) (fps_cons (i := 0) rfl fps_nil) hM75) (fps_cons (i := 1) rfl (fps_cons (i := 2) rfl (fps_cons (i := 3) rfl fps_nil))) hM78) (fps_cons (i := 4) rfl fps_nil) hM80)
          · exact hQ _ _ (eqo_tr (eqo_tr (eqo_wi (eqo_rf _) (i := 0) rfl (Or.inr rfl)) (fps_cons (i := 0) rfl fps_nil) hM56) (fps_cons (i := 0) rfl fps_nil) hM75)
    · exact hQ _ _ (eqo_tr (eqo_wi (eqo_rf _) (i := 0) rfl (Or.inr rfl)) (fps_cons (i := 0) rfl fps_nil) hM56)
def fp_m_die  : List (Nat × Nat × Option Nat) := [(190, 190, some 0), (190, 190, some 12), (195, 195, none), (200, 200, none), (191, 191, none)]
theorem an_m_die {p1 : Int32} {N : Nat} {M : MM} {Q : Int32 → MM → Prop} (hQ : ∀ (r : Int32) (M1 : MM), Eqo fp_m_die M M1 → Q r M1) : W_m_die p1 N M Q := by
  unfold W_m_die
  refine an_m_throwsIf (fun r1 M2 hM2 => ?_)
  refine ⟨fun _ => ?_, fun _ => ?_⟩
  · refine ⟨fun _ => ?_, fun _ => ?_⟩
    · refine an_m_throwsIf (fun r5 M6 hM6 => ?_)
      refine ⟨fun _ => ?_, fun _ => ?_⟩
      · refine an_m_remembers (fun M9 hM9 => ?_)
        refine an_m_inForce (fun r10 => ?_)
        refine ⟨fun _ => ?_, fun _ => ?_⟩
        · refine an_m_sets (fun M14 hM14 => ?_)
          refine an_m_sets (fun M16 hM16 => ?_)
          refine an_m_sets (fun M18 hM18 => ?_)
          refine an_m_inForce (fun r19 => ?_)
          exact hQ _ _ (eqo_tr (eqo_tr (eqo_tr (eqo_tr (eqo_tr (eqo_tr (eqo_wi (eqo_rf _) (i := 0) rfl (Or.inr rfl)) (fps_cons (i := 0) rfl fps_nil) hM2) (fps_cons (i := 0) rfl fps_nil) hM6) (fps_cons (i := 1) rfl (fps_cons (i := 2) rfl (fps_cons (i := 3) rfl fps_nil))) hM9) (fps_cons (i := 4) rfl fps_nil) hM14) (fps_cons (i := 4) rfl fps_nil) hM16) (fps_cons (i := 4) rfl fps_nil) hM18)
        · refine an_m_sets (fun M22 hM22 => ?_)
          refine an_m_sets (fun M24 hM24 => ?_)
          refine an_m_sets (fun M26 hM26 => ?_)
          refine an_m_sets (fun M28 hM28 => ?_)
          refine an_m_inForce (fun r29 => ?_)
          exact hQ _ _ (eqo_tr (eqo_tr (eqo_tr (eqo_tr (eqo_tr (eqo_tr (eqo_tr (eqo_wi (eqo_rf _) (i := 0) rfl (Or.inr rfl)) (fps_cons (i := 0) rfl fps_nil) hM2) (fps_cons (i := 0) rfl fps_nil) hM6) (fps_cons (i := 1) rfl (fps_cons (i := 2) rfl (fps_cons (i := 3) rfl fps_nil))) hM9) (fps_cons (i := 4) rfl fps_nil) hM22) (fps_cons (i := 4) rfl fps_nil) hM24) (fps_cons (i := 4) rfl fps_nil) hM26) (fps_cons (i := 4) rfl fps_nil) hM28)
      · exact hQ _ _ (eqo_tr (eqo_tr (eqo_wi (eqo_rf _) (i := 0) rfl (Or.inr rfl)) (fps_cons (i := 0) rfl fps_nil) hM2) (fps_cons (i := 0) rfl fps_nil) hM6)
    · refine an_m_throwsIf (fun r31 M32 hM32 => ?_)
      refine ⟨fun _ => ?_, fun _ => ?_⟩
      · refine an_m_remembers (fun M35 hM35 => ?_)
        refine an_m_inForce (fun r36 => ?_)
        refine ⟨fun _ => ?_, fun _ => ?_⟩
        · refine an_m_sets (fun M40 hM40 => ?_)
          refine an_m_sets (fun M42 hM42 => ?_)
          refine an_m_sets (fun M44 hM44 => ?_)
          refine an_m_inForce (fun r45 => ?_)
          exact hQ _ _ (eqo_tr (eqo_tr (eqo_tr (eqo_tr (eqo_tr (eqo_tr (eqo_wi (eqo_rf _) (i := 0) rfl (Or.inr rfl)) (fps_cons (i := 0) rfl fps_nil) hM2) (fps_cons (i := 0) rfl fps_nil) hM32) (fps_cons (i := 1) rfl (fps_cons (i := 2) rfl (fps_cons (i := 3) rfl fps_nil))) hM35) (fps_cons (i := 4) rfl fps_nil) hM40) (fps_cons (i := 4) rfl fps_nil) hM42) (fps_cons (i := 4) rfl fps_nil) hM44)
        · refine an_m_sets (fun M48 hM48 => ?_)
          refine an_m_sets (fun M50 hM50 => ?_)
          refine an_m_sets (fun M52 hM52 => ?_)
          refine an_m_sets (fun M54 hM54 => ?_)
          refine an_m_inForce (fun r55 => ?_)
          exact hQ _ _ (eqo_tr (eqo_tr (eqo_tr (eqo_tr (eqo_tr (eqo_tr (eqo_tr (eqo_wi (eqo_rf _) (i := 0) rfl (Or.inr rfl)) (fps_cons (i := 0) rfl fps_nil) hM2) (fps_cons (i := 0) rfl fps_nil) hM32) (fps_cons (i := 1) rfl (fps_cons (i := 2) rfl (fps_cons (i := 3) rfl fps_nil))) hM35) (fps_cons (i := 4) rfl fps_nil) hM48) (fps_cons (i := 4) rfl fps_nil) hM50) (fps_cons (i := 4) rfl fps_nil) hM52) (fps_cons (i := 4) rfl fps_nil) hM54)
      · exact hQ _ _ (eqo_tr (eqo_tr (eqo_wi (eqo_rf _) (i := 0) rfl (Or.inr rfl)) (fps_cons (i := 0) rfl fps_nil) hM2) (fps_cons (i := 0) rfl fps_nil) hM32)
  · exact hQ _ _ (eqo_tr (eqo_wi (eqo_rf _) (i := 0) rfl (Or.inr rfl)) (fps_cons (i := 0) rfl fps_nil) hM2)
def fp_m_wed  : List (Nat × Nat × Option Nat) := [(190, 190, some 0), (190, 190, some 12), (195, 195, none), (200, 200, none), (191, 191, none)]
theorem an_m_wed {p1 : Int32} {p2 : Int32} {N : Nat} {M : MM} {Q : Int32 → MM → Prop} (hQ : ∀ (r : Int32) (M1 : MM), Eqo fp_m_wed M M1 → Q r M1) : W_m_wed p1 p2 N M Q := by
  unfold W_m_wed
  refine ⟨fun _ => ?_, fun _ => ?_⟩
  · refine ⟨fun _ => ?_, fun _ => ?_⟩
    · refine an_m_throwsIf (fun r3 M4 hM4 => ?_)
      refine ⟨fun _ => ?_, fun _ => ?_⟩
      · refine ⟨fun _ => ?_, fun _ => ?_⟩
        · refine an_m_throwsIf (fun r7 M8 hM8 => ?_)
          refine ⟨fun _ => ?_, fun _ => ?_⟩
          · refine ⟨fun _ => ?_, fun _ => ?_⟩
            · refine an_m_throwsIf (fun r12 M13 hM13 => ?_)
              refine ⟨fun _ => ?_, fun _ => ?_⟩
              · refine an_m_remembers (fun M16 hM16 => ?_)
                refine an_m_weds (fun M18 hM18 => ?_)
                exact hQ _ _ (eqo_tr (eqo_tr (eqo_tr (eqo_tr (eqo_tr (eqo_wi (eqo_rf _) (i := 0) rfl (Or.inr rfl)) (fps_cons (i := 0) rfl fps_nil) hM4) (fps_cons (i := 0) rfl fps_nil) hM8) (fps_cons (i := 0) rfl fps_nil) hM13) (fps_cons (i := 1) rfl (fps_cons (i := 2) rfl (fps_cons (i := 3) rfl fps_nil))) hM16) (fps_cons (i := 4) rfl fps_nil) hM18)
              · exact hQ _ _ (eqo_tr (eqo_tr (eqo_tr (eqo_wi (eqo_rf _) (i := 0) rfl (Or.inr rfl)) (fps_cons (i := 0) rfl fps_nil) hM4) (fps_cons (i := 0) rfl fps_nil) hM8) (fps_cons (i := 0) rfl fps_nil) hM13)
            · refine ⟨fun _ => ?_, fun _ => ?_⟩
              · refine an_m_throwsIf (fun r21 M22 hM22 => ?_)
                refine ⟨fun _ => ?_, fun _ => ?_⟩
                · refine an_m_remembers (fun M25 hM25 => ?_)
                  refine an_m_weds (fun M27 hM27 => ?_)
                  exact hQ _ _ (eqo_tr (eqo_tr (eqo_tr (eqo_tr (eqo_tr (eqo_wi (eqo_rf _) (i := 0) rfl (Or.inr rfl)) (fps_cons (i := 0) rfl fps_nil) hM4) (fps_cons (i := 0) rfl fps_nil) hM8) (fps_cons (i := 0) rfl fps_nil) hM22) (fps_cons (i := 1) rfl (fps_cons (i := 2) rfl (fps_cons (i := 3) rfl fps_nil))) hM25) (fps_cons (i := 4) rfl fps_nil) hM27)
                · exact hQ _ _ (eqo_tr (eqo_tr (eqo_tr (eqo_wi (eqo_rf _) (i := 0) rfl (Or.inr rfl)) (fps_cons (i := 0) rfl fps_nil) hM4) (fps_cons (i := 0) rfl fps_nil) hM8) (fps_cons (i := 0) rfl fps_nil) hM22)
              · refine ⟨fun _ => ?_, fun _ => ?_⟩
                · refine an_m_throwsIf (fun r30 M31 hM31 => ?_)
                  refine ⟨fun _ => ?_, fun _ => ?_⟩
                  · refine an_m_remembers (fun M34 hM34 => ?_)
                    refine an_m_weds (fun M36 hM36 => ?_)
                    exact hQ _ _ (eqo_tr (eqo_tr (eqo_tr (eqo_tr (eqo_tr (eqo_wi (eqo_rf _) (i := 0) rfl (Or.inr rfl)) (fps_cons (i := 0) rfl fps_nil) hM4) (fps_cons (i := 0) rfl fps_nil) hM8) (fps_cons (i := 0) rfl fps_nil) hM31) (fps_cons (i := 1) rfl (fps_cons (i := 2) rfl (fps_cons (i := 3) rfl fps_nil))) hM34) (fps_cons (i := 4) rfl fps_nil) hM36)
                  · exact hQ _ _ (eqo_tr (eqo_tr (eqo_tr (eqo_wi (eqo_rf _) (i := 0) rfl (Or.inr rfl)) (fps_cons (i := 0) rfl fps_nil) hM4) (fps_cons (i := 0) rfl fps_nil) hM8) (fps_cons (i := 0) rfl fps_nil) hM31)
                · refine ⟨fun _ => ?_, fun _ => ?_⟩
                  · refine an_m_throwsIf (fun r39 M40 hM40 => ?_)
                    refine ⟨fun _ => ?_, fun _ => ?_⟩
                    · refine an_m_remembers (fun M43 hM43 => ?_)
                      refine an_m_weds (fun M45 hM45 => ?_)
                      exact hQ _ _ (eqo_tr (eqo_tr (eqo_tr (eqo_tr (eqo_tr (eqo_wi (eqo_rf _) (i := 0) rfl (Or.inr rfl)) (fps_cons (i := 0) rfl fps_nil) hM4) (fps_cons (i := 0) rfl fps_nil) hM8) (fps_cons (i := 0) rfl fps_nil) hM40) (fps_cons (i := 1) rfl (fps_cons (i := 2) rfl (fps_cons (i := 3) rfl fps_nil))) hM43) (fps_cons (i := 4) rfl fps_nil) hM45)
                    · exact hQ _ _ (eqo_tr (eqo_tr (eqo_tr (eqo_wi (eqo_rf _) (i := 0) rfl (Or.inr rfl)) (fps_cons (i := 0) rfl fps_nil) hM4) (fps_cons (i := 0) rfl fps_nil) hM8) (fps_cons (i := 0) rfl fps_nil) hM40)
                  · refine an_m_throwsIf (fun r47 M48 hM48 => ?_)
                    refine ⟨fun _ => ?_, fun _ => ?_⟩
                    · refine an_m_remembers (fun M51 hM51 => ?_)
                      refine an_m_weds (fun M53 hM53 => ?_)
                      exact hQ _ _ (eqo_tr (eqo_tr (eqo_tr (eqo_tr (eqo_tr (eqo_wi (eqo_rf _) (i := 0) rfl (Or.inr rfl)) (fps_cons (i := 0) rfl fps_nil) hM4) (fps_cons (i := 0) rfl fps_nil) hM8) (fps_cons (i := 0) rfl fps_nil) hM48) (fps_cons (i := 1) rfl (fps_cons (i := 2) rfl (fps_cons (i := 3) rfl fps_nil))) hM51) (fps_cons (i := 4) rfl fps_nil) hM53)
                    · exact hQ _ _ (eqo_tr (eqo_tr (eqo_tr (eqo_wi (eqo_rf _) (i := 0) rfl (Or.inr rfl)) (fps_cons (i := 0) rfl fps_nil) hM4) (fps_cons (i := 0) rfl fps_nil) hM8) (fps_cons (i := 0) rfl fps_nil) hM48)
          · exact hQ _ _ (eqo_tr (eqo_tr (eqo_wi (eqo_rf _) (i := 0) rfl (Or.inr rfl)) (fps_cons (i := 0) rfl fps_nil) hM4) (fps_cons (i := 0) rfl fps_nil) hM8)
        · refine an_m_throwsIf (fun r54 M55 hM55 => ?_)
          refine ⟨fun _ => ?_, fun _ => ?_⟩
          · refine ⟨fun _ => ?_, fun _ => ?_⟩
            · refine an_m_throwsIf (fun r59 M60 hM60 => ?_)
              refine ⟨fun _ => ?_, fun _ => ?_⟩
              · refine an_m_remembers (fun M63 hM63 => ?_)
                refine an_m_weds (fun M65 hM65 => ?_)
                exact hQ _ _ (eqo_tr (eqo_tr (eqo_tr (eqo_tr (eqo_tr (eqo_wi (eqo_rf _) (i := 0) rfl (Or.inr rfl)) (fps_cons (i := 0) rfl fps_nil) hM4) (fps_cons (i := 0) rfl fps_nil) hM55) (fps_cons (i := 0) rfl fps_nil) hM60) (fps_cons (i := 1) rfl (fps_cons (i := 2) rfl (fps_cons (i := 3) rfl fps_nil))) hM63) (fps_cons (i := 4) rfl fps_nil) hM65)
              · exact hQ _ _ (eqo_tr (eqo_tr (eqo_tr (eqo_wi (eqo_rf _) (i := 0) rfl (Or.inr rfl)) (fps_cons (i := 0) rfl fps_nil) hM4) (fps_cons (i := 0) rfl fps_nil) hM55) (fps_cons (i := 0) rfl fps_nil) hM60)
            · refine ⟨fun _ => ?_, fun _ => ?_⟩
              · refine an_m_throwsIf (fun r68 M69 hM69 => ?_)
                refine ⟨fun _ => ?_, fun _ => ?_⟩
                · refine an_m_remembers (fun M72 hM72 => ?_)
                  refine an_m_weds (fun M74 hM74 => ?_)
                  exact hQ _ _ (eqo_tr (eqo_tr (eqo_tr (eqo_tr (eqo_tr (eqo_wi (eqo_rf _) (i := 0) rfl (Or.inr rfl)) (fps_cons (i := 0) rfl fps_nil) hM4) (fps_cons (i := 0) rfl fps_nil) hM55) (fps_cons (i := 0) rfl fps_nil) hM69) (fps_cons (i := 1) rfl (fps_cons (i := 2) rfl (fps_cons (i := 3) rfl fps_nil))) hM72) (fps_cons (i := 4) rfl fps_nil) hM74)
                · exact hQ _ _ (eqo_tr (eqo_tr (eqo_tr (eqo_wi (eqo_rf _) (i := 0) rfl (Or.inr rfl)) (fps_cons (i := 0) rfl fps_nil) hM4) (fps_cons (i := 0) rfl fps_nil) hM55) (fps_cons (i := 0) rfl fps_nil) hM69)
              · refine ⟨fun _ => ?_, fun _ => ?_⟩
                · refine an_m_throwsIf (fun r77 M78 hM78 => ?_)
                  refine ⟨fun _ => ?_, fun _ => ?_⟩
                  · refine an_m_remembers (fun M81 hM81 => ?_)
                    refine an_m_weds (fun M83 hM83 => ?_)
                    exact hQ _ _ (eqo_tr (eqo_tr (eqo_tr (eqo_tr (eqo_tr (eqo_wi (eqo_rf _) (i := 0) rfl (Or.inr rfl)) (fps_cons (i := 0) rfl fps_nil) hM4) (fps_cons (i := 0) rfl fps_nil) hM55) (fps_cons (i := 0) rfl fps_nil) hM78) (fps_cons (i := 1) rfl (fps_cons (i := 2) rfl (fps_cons (i := 3) rfl fps_nil))) hM81) (fps_cons (i := 4) rfl fps_nil) hM83)
                  · exact hQ _ _ (eqo_tr (eqo_tr (eqo_tr (eqo_wi (eqo_rf _) (i := 0) rfl (Or.inr rfl)) (fps_cons (i := 0) rfl fps_nil) hM4) (fps_cons (i := 0) rfl fps_nil) hM55) (fps_cons (i := 0) rfl fps_nil) hM78)
                · refine ⟨fun _ => ?_, fun _ => ?_⟩
                  · refine an_m_throwsIf (fun r86 M87 hM87 => ?_)
                    refine ⟨fun _ => ?_, fun _ => ?_⟩
                    · refine an_m_remembers (fun M90 hM90 => ?_)
                      refine an_m_weds (fun M92 hM92 => ?_)
                      exact hQ _ _ (eqo_tr (eqo_tr (eqo_tr (eqo_tr (eqo_tr (eqo_wi (eqo_rf _) (i := 0) rfl (Or.inr rfl)) (fps_cons (i := 0) rfl fps_nil) hM4) (fps_cons (i := 0) rfl fps_nil) hM55) (fps_cons (i := 0) rfl fps_nil) hM87) (fps_cons (i := 1) rfl (fps_cons (i := 2) rfl (fps_cons (i := 3) rfl fps_nil))) hM90) (fps_cons (i := 4) rfl fps_nil) hM92)
                    · exact hQ _ _ (eqo_tr (eqo_tr (eqo_tr (eqo_wi (eqo_rf _) (i := 0) rfl (Or.inr rfl)) (fps_cons (i := 0) rfl fps_nil) hM4) (fps_cons (i := 0) rfl fps_nil) hM55) (fps_cons (i := 0) rfl fps_nil) hM87)
                  · refine an_m_throwsIf (fun r94 M95 hM95 => ?_)
                    refine ⟨fun _ => ?_, fun _ => ?_⟩
                    · refine an_m_remembers (fun M98 hM98 => ?_)
                      refine an_m_weds (fun M100 hM100 => ?_)
                      exact hQ _ _ (eqo_tr (eqo_tr (eqo_tr (eqo_tr (eqo_tr (eqo_wi (eqo_rf _) (i := 0) rfl (Or.inr rfl)) (fps_cons (i := 0) rfl fps_nil) hM4) (fps_cons (i := 0) rfl fps_nil) hM55) (fps_cons (i := 0) rfl fps_nil) hM95) (fps_cons (i := 1) rfl (fps_cons (i := 2) rfl (fps_cons (i := 3) rfl fps_nil))) hM98) (fps_cons (i := 4) rfl fps_nil) hM100)
                    · exact hQ _ _ (eqo_tr (eqo_tr (eqo_tr (eqo_wi (eqo_rf _) (i := 0) rfl (Or.inr rfl)) (fps_cons (i := 0) rfl fps_nil) hM4) (fps_cons (i := 0) rfl fps_nil) hM55) (fps_cons (i := 0) rfl fps_nil) hM95)
          · exact hQ _ _ (eqo_tr (eqo_tr (eqo_wi (eqo_rf _) (i := 0) rfl (Or.inr rfl)) (fps_cons (i := 0) rfl fps_nil) hM4) (fps_cons (i := 0) rfl fps_nil) hM55)
      · exact hQ _ _ (eqo_tr (eqo_wi (eqo_rf _) (i := 0) rfl (Or.inr rfl)) (fps_cons (i := 0) rfl fps_nil) hM4)
    · refine an_m_throwsIf (fun r101 M102 hM102 => ?_)
      refine ⟨fun _ => ?_, fun _ => ?_⟩
      · refine ⟨fun _ => ?_, fun _ => ?_⟩
        · refine an_m_throwsIf (fun r105 M106 hM106 => ?_)
          refine ⟨fun _ => ?_, fun _ => ?_⟩
          · refine ⟨fun _ => ?_, fun _ => ?_⟩
            · refine an_m_throwsIf (fun r110 M111 hM111 => ?_)
              refine ⟨fun _ => ?_, fun _ => ?_⟩
              · refine an_m_remembers (fun M114 hM114 => ?_)
                refine an_m_weds (fun M116 hM116 => ?_)
                exact hQ _ _ (eqo_tr (eqo_tr (eqo_tr (eqo_tr (eqo_tr (eqo_wi (eqo_rf _) (i := 0) rfl (Or.inr rfl)) (fps_cons (i := 0) rfl fps_nil) hM102) (fps_cons (i := 0) rfl fps_nil) hM106) (fps_cons (i := 0) rfl fps_nil) hM111) (fps_cons (i := 1) rfl (fps_cons (i := 2) rfl (fps_cons (i := 3) rfl fps_nil))) hM114) (fps_cons (i := 4) rfl fps_nil) hM116)
              · exact hQ _ _ (eqo_tr (eqo_tr (eqo_tr (eqo_wi (eqo_rf _) (i := 0) rfl (Or.inr rfl)) (fps_cons (i := 0) rfl fps_nil) hM102) (fps_cons (i := 0) rfl fps_nil) hM106) (fps_cons (i := 0) rfl fps_nil) hM111)
            · refine ⟨fun _ => ?_, fun _ => ?_⟩
              · refine an_m_throwsIf (fun r119 M120 hM120 => ?_)
                refine ⟨fun _ => ?_, fun _ => ?_⟩
                · refine an_m_remembers (fun M123 hM123 => ?_)
                  refine an_m_weds (fun M125 hM125 => ?_)
                  exact hQ _ _ (eqo_tr (eqo_tr (eqo_tr (eqo_tr (eqo_tr (eqo_wi (eqo_rf _) (i := 0) rfl (Or.inr rfl)) (fps_cons (i := 0) rfl fps_nil) hM102) (fps_cons (i := 0) rfl fps_nil) hM106) (fps_cons (i := 0) rfl fps_nil) hM120) (fps_cons (i := 1) rfl (fps_cons (i := 2) rfl (fps_cons (i := 3) rfl fps_nil))) hM123) (fps_cons (i := 4) rfl fps_nil) hM125)
                · exact hQ _ _ (eqo_tr (eqo_tr (eqo_tr (eqo_wi (eqo_rf _) (i := 0) rfl (Or.inr rfl)) (fps_cons (i := 0) rfl fps_nil) hM102) (fps_cons (i := 0) rfl fps_nil) hM106) (fps_cons (i := 0) rfl fps_nil) hM120)
              · refine ⟨fun _ => ?_, fun _ => ?_⟩
                · refine an_m_throwsIf (fun r128 M129 hM129 => ?_)
                  refine ⟨fun _ => ?_, fun _ => ?_⟩
                  · refine an_m_remembers (fun M132 hM132 => ?_)
                    refine an_m_weds (fun M134 hM134 => ?_)
                    exact hQ _ _ (eqo_tr (eqo_tr (eqo_tr (eqo_tr (eqo_tr (eqo_wi (eqo_rf _) (i := 0) rfl (Or.inr rfl)) (fps_cons (i := 0) rfl fps_nil) hM102) (fps_cons (i := 0) rfl fps_nil) hM106) (fps_cons (i := 0) rfl fps_nil) hM129) (fps_cons (i := 1) rfl (fps_cons (i := 2) rfl (fps_cons (i := 3) rfl fps_nil))) hM132) (fps_cons (i := 4) rfl fps_nil) hM134)
                  · exact hQ _ _ (eqo_tr (eqo_tr (eqo_tr (eqo_wi (eqo_rf _) (i := 0) rfl (Or.inr rfl)) (fps_cons (i := 0) rfl fps_nil) hM102) (fps_cons (i := 0) rfl fps_nil) hM106) (fps_cons (i := 0) rfl fps_nil) hM129)
                · refine ⟨fun _ => ?_, fun _ => ?_⟩
                  · refine an_m_throwsIf (fun r137 M138 hM138 => ?_)
                    refine ⟨fun _ => ?_, fun _ => ?_⟩
                    · refine an_m_remembers (fun M141 hM141 => ?_)
                      refine an_m_weds (fun M143 hM143 => ?_)
                      exact hQ _ _ (eqo_tr (eqo_tr (eqo_tr (eqo_tr (eqo_tr (eqo_wi (eqo_rf _) (i := 0) rfl (Or.inr rfl)) (fps_cons (i := 0) rfl fps_nil) hM102) (fps_cons (i := 0) rfl fps_nil) hM106) (fps_cons (i := 0) rfl fps_nil) hM138) (fps_cons (i := 1) rfl (fps_cons (i := 2) rfl (fps_cons (i := 3) rfl fps_nil))) hM141) (fps_cons (i := 4) rfl fps_nil) hM143)
                    · exact hQ _ _ (eqo_tr (eqo_tr (eqo_tr (eqo_wi (eqo_rf _) (i := 0) rfl (Or.inr rfl)) (fps_cons (i := 0) rfl fps_nil) hM102) (fps_cons (i := 0) rfl fps_nil) hM106) (fps_cons (i := 0) rfl fps_nil) hM138)
                  · refine an_m_throwsIf (fun r145 M146 hM146 => ?_)
                    refine ⟨fun _ => ?_, fun _ => ?_⟩
                    · refine an_m_remembers (fun M149 hM149 => ?_)
                      refine an_m_weds (fun M151 hM151 => ?_)
                      exact hQ _ _ (eqo_tr (eqo_tr (eqo_tr (eqo_tr (eqo_tr (eqo_wi (eqo_rf _) (i := 0) rfl (Or.inr rfl)) (fps_cons (i := 0) rfl fps_nil) hM102) (fps_cons (i := 0) rfl fps_nil) hM106) (fps_cons (i := 0) rfl fps_nil) hM146) (fps_cons (i := 1) rfl (fps_cons (i := 2) rfl (fps_cons (i := 3) rfl fps_nil))) hM149) (fps_cons (i := 4) rfl fps_nil) hM151)
                    · exact hQ _ _ (eqo_tr (eqo_tr (eqo_tr (eqo_wi (eqo_rf _) (i := 0) rfl (Or.inr rfl)) (fps_cons (i := 0) rfl fps_nil) hM102) (fps_cons (i := 0) rfl fps_nil) hM106) (fps_cons (i := 0) rfl fps_nil) hM146)
          · exact hQ _ _ (eqo_tr (eqo_tr (eqo_wi (eqo_rf _) (i := 0) rfl (Or.inr rfl)) (fps_cons (i := 0) rfl fps_nil) hM102) (fps_cons (i := 0) rfl fps_nil) hM106)
        · refine an_m_throwsIf (fun r152 M153 hM153 => ?_)
          refine ⟨fun _ => ?_, fun _ => ?_⟩
          · refine ⟨fun _ => ?_, fun _ => ?_⟩
            · refine an_m_throwsIf (fun r157 M158 hM158 => ?_)
              refine ⟨fun _ => ?_, fun _ => ?_⟩
              · refine an_m_remembers (fun M161 hM161 => ?_)
                refine an_m_weds (fun M163 hM163 => ?_)
                exact hQ _ _ (eqo_tr (eqo_tr (eqo_tr (eqo_tr (eqo_tr (eqo_wi (eqo_rf _) (i := 0) rfl (Or.inr rfl)) (fps_cons (i := 0) rfl fps_nil) hM102) (fps_cons (i := 0) rfl fps_nil) hM153) (fps_cons (i := 0) rfl fps_nil) hM158) (fps_cons (i := 1) rfl (fps_cons (i := 2) rfl (fps_cons (i := 3) rfl fps_nil))) hM161) (fps_cons (i := 4) rfl fps_nil) hM163)
              · exact hQ _ _ (eqo_tr (eqo_tr (eqo_tr (eqo_wi (eqo_rf _) (i := 0) rfl (Or.inr rfl)) (fps_cons (i := 0) rfl fps_nil) hM102) (fps_cons (i := 0) rfl fps_nil) hM153) (fps_cons (i := 0) rfl fps_nil) hM158)
            · refine ⟨fun _ => ?_, fun _ => ?_⟩
              · refine an_m_throwsIf (fun r166 M167 hM167 => ?_)
                refine ⟨fun _ => ?_, fun _ => ?_⟩
                · refine an_m_remembers (fun M170 hM170 => ?_)
                  refine an_m_weds (fun M172 hM172 => ?_)
                  exact hQ _ _ (eqo_tr (eqo_tr (eqo_tr (eqo_tr (eqo_tr (eqo_wi (eqo_rf _) (i := 0) rfl (Or.inr rfl)) (fps_cons (i := 0) rfl fps_nil) hM102) (fps_cons (i := 0) rfl fps_nil) hM153) (fps_cons (i := 0) rfl fps_nil) hM167) (fps_cons (i := 1) rfl (fps_cons (i := 2) rfl (fps_cons (i := 3) rfl fps_nil))) hM170) (fps_cons (i := 4) rfl fps_nil) hM172)
                · exact hQ _ _ (eqo_tr (eqo_tr (eqo_tr (eqo_wi (eqo_rf _) (i := 0) rfl (Or.inr rfl)) (fps_cons (i := 0) rfl fps_nil) hM102) (fps_cons (i := 0) rfl fps_nil) hM153) (fps_cons (i := 0) rfl fps_nil) hM167)
              · refine ⟨fun _ => ?_, fun _ => ?_⟩
                · refine an_m_throwsIf (fun r175 M176 hM176 => ?_)
                  refine ⟨fun _ => ?_, fun _ => ?_⟩
                  · refine an_m_remembers (fun M179 hM179 => ?_)
                    refine an_m_weds (fun M181 hM181 => ?_)
                    exact hQ _ _ (eqo_tr (eqo_tr (eqo_tr (eqo_tr (eqo_tr (eqo_wi (eqo_rf _) (i := 0) rfl (Or.inr rfl)) (fps_cons (i := 0) rfl fps_nil) hM102) (fps_cons (i := 0) rfl fps_nil) hM153) (fps_cons (i := 0) rfl fps_nil) hM176) (fps_cons (i := 1) rfl (fps_cons (i := 2) rfl (fps_cons (i := 3) rfl fps_nil))) hM179) (fps_cons (i := 4) rfl fps_nil) hM181)
                  · exact hQ _ _ (eqo_tr (eqo_tr (eqo_tr (eqo_wi (eqo_rf _) (i := 0) rfl (Or.inr rfl)) (fps_cons (i := 0) rfl fps_nil) hM102) (fps_cons (i := 0) rfl fps_nil) hM153) (fps_cons (i := 0) rfl fps_nil) hM176)
                · refine ⟨fun _ => ?_, fun _ => ?_⟩
                  · refine an_m_throwsIf (fun r184 M185 hM185 => ?_)
                    refine ⟨fun _ => ?_, fun _ => ?_⟩
                    · refine an_m_remembers (fun M188 hM188 => ?_)
                      refine an_m_weds (fun M190 hM190 => ?_)
                      exact hQ _ _ (eqo_tr (eqo_tr (eqo_tr (eqo_tr (eqo_tr (eqo_wi (eqo_rf _) (i := 0) rfl (Or.inr rfl)) (fps_cons (i := 0) rfl fps_nil) hM102) (fps_cons (i := 0) rfl fps_nil) hM153) (fps_cons (i := 0) rfl fps_nil) hM185) (fps_cons (i := 1) rfl (fps_cons (i := 2) rfl (fps_cons (i := 3) rfl fps_nil))) hM188) (fps_cons (i := 4) rfl fps_nil) hM190)
                    · exact hQ _ _ (eqo_tr (eqo_tr (eqo_tr (eqo_wi (eqo_rf _) (i := 0) rfl (Or.inr rfl)) (fps_cons (i := 0) rfl fps_nil) hM102) (fps_cons (i := 0) rfl fps_nil) hM153) (fps_cons (i := 0) rfl fps_nil) hM185)
                  · refine an_m_throwsIf (fun r192 M193 hM193 => ?_)
                    refine ⟨fun _ => ?_, fun _ => ?_⟩
                    · refine an_m_remembers (fun M196 hM196 => ?_)
                      refine an_m_weds (fun M198 hM198 => ?_)
                      exact hQ _ _ (eqo_tr (eqo_tr (eqo_tr (eqo_tr (eqo_tr (eqo_wi (eqo_rf _) (i := 0) rfl (Or.inr rfl)) (fps_cons (i := 0) rfl fps_nil) hM102) (fps_cons (i := 0) rfl fps_nil) hM153) (fps_cons (i := 0) rfl fps_nil) hM193) (fps_cons (i := 1) rfl (fps_cons (i := 2) rfl (fps_cons (i := 3) rfl fps_nil))) hM196) (fps_cons (i := 4) rfl fps_nil) hM198)
                    · exact hQ _ _ (eqo_tr (eqo_tr (eqo_tr (eqo_wi (eqo_rf _) (i := 0) rfl (Or.inr rfl)) (fps_cons (i := 0) rfl fps_nil) hM102) (fps_cons (i := 0) rfl fps_nil) hM153) (fps_cons (i := 0) rfl fps_nil) hM193)
          · exact hQ _ _ (eqo_tr (eqo_tr (eqo_wi (eqo_rf _) (i := 0) rfl (Or.inr rfl)) (fps_cons (i := 0) rfl fps_nil) hM102) (fps_cons (i := 0) rfl fps_nil) hM153)
      · exact hQ _ _ (eqo_tr (eqo_wi (eqo_rf _) (i := 0) rfl (Or.inr rfl)) (fps_cons (i := 0) rfl fps_nil) hM102)
  · refine an_m_throwsIf (fun r199 M200 hM200 => ?_)
    refine ⟨fun _ => ?_, fun _ => ?_⟩
    · refine ⟨fun _ => ?_, fun _ => ?_⟩
      · refine an_m_throwsIf (fun r203 M204 hM204 => ?_)
        refine ⟨fun _ => ?_, fun _ => ?_⟩
        · refine ⟨fun _ => ?_, fun _ => ?_⟩
          · refine an_m_throwsIf (fun r208 M209 hM209 => ?_)
            refine ⟨fun _ => ?_, fun _ => ?_⟩
            · refine an_m_remembers (fun M212 hM212 => ?_)
              refine an_m_weds (fun M214 hM214 => ?_)
              exact hQ _ _ (eqo_tr (eqo_tr (eqo_tr (eqo_tr (eqo_tr (eqo_wi (eqo_rf _) (i := 0) rfl (Or.inr rfl)) (fps_cons (i := 0) rfl fps_nil) hM200) (fps_cons (i := 0) rfl fps_nil) hM204) (fps_cons (i := 0) rfl fps_nil) hM209) (fps_cons (i := 1) rfl (fps_cons (i := 2) rfl (fps_cons (i := 3) rfl fps_nil))) hM212) (fps_cons (i := 4) rfl fps_nil) hM214)
            · exact hQ _ _ (eqo_tr (eqo_tr (eqo_tr (eqo_wi (eqo_rf _) (i := 0) rfl (Or.inr rfl)) (fps_cons (i := 0) rfl fps_nil) hM200) (fps_cons (i := 0) rfl fps_nil) hM204) (fps_cons (i := 0) rfl fps_nil) hM209)
          · refine ⟨fun _ => ?_, fun _ => ?_⟩
            · refine an_m_throwsIf (fun r217 M218 hM218 => ?_)
              refine ⟨fun _ => ?_, fun _ => ?_⟩
              · refine an_m_remembers (fun M221 hM221 => ?_)
                refine an_m_weds (fun M223 hM223 => ?_)
                exact hQ _ _ (eqo_tr (eqo_tr (eqo_tr (eqo_tr (eqo_tr (eqo_wi (eqo_rf _) (i := 0) rfl (Or.inr rfl)) (fps_cons (i := 0) rfl fps_nil) hM200) (fps_cons (i := 0) rfl fps_nil) hM204) (fps_cons (i := 0) rfl fps_nil) hM218) (fps_cons (i := 1) rfl (fps_cons (i := 2) rfl (fps_cons (i := 3) rfl fps_nil))) hM221) (fps_cons (i := 4) rfl fps_nil) hM223)
              · exact hQ _ _ (eqo_tr (eqo_tr (eqo_tr (eqo_wi (eqo_rf _) (i := 0) rfl (Or.inr rfl)) (fps_cons (i := 0) rfl fps_nil) hM200) (fps_cons (i := 0) rfl fps_nil) hM204) (fps_cons (i := 0) rfl fps_nil) hM218)
            · refine ⟨fun _ => ?_, fun _ => ?_⟩
              · refine an_m_throwsIf (fun r226 M227 hM227 => ?_)
                refine ⟨fun _ => ?_, fun _ => ?_⟩
                · refine an_m_remembers (fun M230 hM230 => ?_)
                  refine an_m_weds (fun M232 hM232 => ?_)
                  exact hQ _ _ (eqo_tr (eqo_tr (eqo_tr (eqo_tr (eqo_tr (eqo_wi (eqo_rf _) (i := 0) rfl (Or.inr rfl)) (fps_cons (i := 0) rfl fps_nil) hM200) (fps_cons (i := 0) rfl fps_nil) hM204) (fps_cons (i := 0) rfl fps_nil) hM227) (fps_cons (i := 1) rfl (fps_cons (i := 2) rfl (fps_cons (i := 3) rfl fps_nil))) hM230) (fps_cons (i := 4) rfl fps_nil) hM232)
                · exact hQ _ _ (eqo_tr (eqo_tr (eqo_tr (eqo_wi (eqo_rf _) (i := 0) rfl (Or.inr rfl)) (fps_cons (i := 0) rfl fps_nil) hM200) (fps_cons (i := 0) rfl fps_nil) hM204) (fps_cons (i := 0) rfl fps_nil) hM227)
              · refine ⟨fun _ => ?_, fun _ => ?_⟩
                · refine an_m_throwsIf (fun r235 M236 hM236 => ?_)
                  refine ⟨fun _ => ?_, fun _ => ?_⟩
                  · refine an_m_remembers (fun M239 hM239 => ?_)
                    refine an_m_weds (fun M241 hM241 => ?_)
                    exact hQ _ _ (eqo_tr (eqo_tr (eqo_tr (eqo_tr (eqo_tr (eqo_wi (eqo_rf _) (i := 0) rfl (Or.inr rfl)) (fps_cons (i := 0) rfl fps_nil) hM200) (fps_cons (i := 0) rfl fps_nil) hM204) (fps_cons (i := 0) rfl fps_nil) hM236) (fps_cons (i := 1) rfl (fps_cons (i := 2) rfl (fps_cons (i := 3) rfl fps_nil))) hM239) (fps_cons (i := 4) rfl fps_nil) hM241)
                  · exact hQ _ _ (eqo_tr (eqo_tr (eqo_tr (eqo_wi (eqo_rf _) (i := 0) rfl (Or.inr rfl)) (fps_cons (i := 0) rfl fps_nil) hM200) (fps_cons (i := 0) rfl fps_nil) hM204) (fps_cons (i := 0) rfl fps_nil) hM236)
                · refine an_m_throwsIf (fun r243 M244 hM244 => ?_)
                  refine ⟨fun _ => ?_, fun _ => ?_⟩
                  · refine an_m_remembers (fun M247 hM247 => ?_)
                    refine an_m_weds (fun M249 hM249 => ?_)
                    exact hQ _ _ (eqo_tr (eqo_tr (eqo_tr (eqo_tr (eqo_tr (eqo_wi (eqo_rf _) (i := 0) rfl (Or.inr rfl)) (fps_cons (i := 0) rfl fps_nil) hM200) (fps_cons (i := 0) rfl fps_nil) hM204) (fps_cons (i := 0) rfl fps_nil) hM244) (fps_cons (i := 1) rfl (fps_cons (i := 2) rfl (fps_cons (i := 3) rfl fps_nil))) hM247) (fps_cons (i := 4) rfl fps_nil) hM249)
                  · exact hQ _ _ (eqo_tr (eqo_tr (eqo_tr (eqo_wi (eqo_rf _) (i := 0) rfl (Or.inr rfl)) (fps_cons (i := 0) rfl fps_nil) hM200) (fps_cons (i := 0) rfl fps_nil) hM204) (fps_cons (i := 0) rfl fps_nil) hM244)
        · exact hQ _ _ (eqo_tr (eqo_tr (eqo_wi (eqo_rf _) (i := 0) rfl (Or.inr rfl)) (fps_cons (i := 0) rfl fps_nil) hM200) (fps_cons (i := 0) rfl fps_nil) hM204)
      · refine an_m_throwsIf (fun r250 M251 hM251 => ?_)
        refine ⟨fun _ => ?_, fun _ => ?_⟩
        · refine ⟨fun _ => ?_, fun _ => ?_⟩
          · refine an_m_throwsIf (fun r255 M256 hM256 => ?_)
            refine ⟨fun _ => ?_, fun _ => ?_⟩
            · refine an_m_remembers (fun M259 hM259 => ?_)
              refine an_m_weds (fun M261 hM261 => ?_)
              exact hQ _ _ (eqo_tr (eqo_tr (eqo_tr (eqo_tr (eqo_tr (eqo_wi (eqo_rf _) (i := 0) rfl (Or.inr rfl)) (fps_cons (i := 0) rfl fps_nil) hM200) (fps_cons (i := 0) rfl fps_nil) hM251) (fps_cons (i := 0) rfl fps_nil) hM256) (fps_cons (i := 1) rfl (fps_cons (i := 2) rfl (fps_cons (i := 3) rfl fps_nil))) hM259) (fps_cons (i := 4) rfl fps_nil) hM261)
            · exact hQ _ _ (eqo_tr (eqo_tr (eqo_tr (eqo_wi (eqo_rf _) (i := 0) rfl (Or.inr rfl)) (fps_cons (i := 0) rfl fps_nil) hM200) (fps_cons (i := 0) rfl fps_nil) hM251) (fps_cons (i := 0) rfl fps_nil) hM256)
          · refine ⟨fun _ => ?_, fun _ => ?_⟩
            · refine an_m_throwsIf (fun r264 M265 hM265 => ?_)
              refine ⟨fun _ => ?_, fun _ => ?_⟩
              · refine an_m_remembers (fun M268 hM268 => ?_)
                refine an_m_weds (fun M270 hM270 => ?_)
                exact hQ _ _ (eqo_tr (eqo_tr (eqo_tr (eqo_tr (eqo_tr (eqo_wi (eqo_rf _) (i := 0) rfl (Or.inr rfl)) (fps_cons (i := 0) rfl fps_nil) hM200) (fps_cons (i := 0) rfl fps_nil) hM251) (fps_cons (i := 0) rfl fps_nil) hM265) (fps_cons (i := 1) rfl (fps_cons (i := 2) rfl (fps_cons (i := 3) rfl fps_nil))) hM268) (fps_cons (i := 4) rfl fps_nil) hM270)
              · exact hQ _ _ (eqo_tr (eqo_tr (eqo_tr (eqo_wi (eqo_rf _) (i := 0) rfl (Or.inr rfl)) (fps_cons (i := 0) rfl fps_nil) hM200) (fps_cons (i := 0) rfl fps_nil) hM251) (fps_cons (i := 0) rfl fps_nil) hM265)
            · refine ⟨fun _ => ?_, fun _ => ?_⟩
              · refine an_m_throwsIf (fun r273 M274 hM274 => ?_)
                refine ⟨fun _ => ?_, fun _ => ?_⟩
                · refine an_m_remembers (fun M277 hM277 => ?_)
                  refine an_m_weds (fun M279 hM279 => ?_)
                  exact hQ _ _ (eqo_tr (eqo_tr (eqo_tr (eqo_tr (eqo_tr (eqo_wi (eqo_rf _) (i := 0) rfl (Or.inr rfl)) (fps_cons (i := 0) rfl fps_nil) hM200) (fps_cons (i := 0) rfl fps_nil) hM251) (fps_cons (i := 0) rfl fps_nil) hM274) (fps_cons (i := 1) rfl (fps_cons (i := 2) rfl (fps_cons (i := 3) rfl fps_nil))) hM277) (fps_cons (i := 4) rfl fps_nil) hM279)
                · exact hQ _ _ (eqo_tr (eqo_tr (eqo_tr (eqo_wi (eqo_rf _) (i := 0) rfl (Or.inr rfl)) (fps_cons (i := 0) rfl fps_nil) hM200) (fps_cons (i := 0) rfl fps_nil) hM251) (fps_cons (i := 0) rfl fps_nil) hM274)
              · refine ⟨fun _ => ?_, fun _ => ?_⟩
                · refine an_m_throwsIf (fun r282 M283 hM283 => ?_)
                  refine ⟨fun _ => ?_, fun _ => ?_⟩
                  · refine an_m_remembers (fun M286 hM286 => ?_)
                    refine an_m_weds (fun M288 hM288 => ?_)
                    exact hQ _ _ (eqo_tr (eqo_tr (eqo_tr (eqo_tr (eqo_tr (eqo_wi (eqo_rf _) (i := 0) rfl (Or.inr rfl)) (fps_cons (i := 0) rfl fps_nil) hM200) (fps_cons (i := 0) rfl fps_nil) hM251) (fps_cons (i := 0) rfl fps_nil) hM283) (fps_cons (i := 1) rfl (fps_cons (i := 2) rfl (fps_cons (i := 3) rfl fps_nil))) hM286) (fps_cons (i := 4) rfl fps_nil) hM288)
                  · exact hQ _ _ (eqo_tr (eqo_tr (eqo_tr (eqo_wi (eqo_rf _) (i := 0) rfl (Or.inr rfl)) (fps_cons (i := 0) rfl fps_nil) hM200) (fps_cons (i := 0) rfl fps_nil) hM251) (fps_cons (i := 0) rfl fps_nil) hM283)
                · refine an_m_throwsIf (fun r290 M291 hM291 => ?_)
                  refine ⟨fun _ => ?_, fun _ => ?_⟩
                  · refine an_m_remembers (fun M294 hM294 => ?_)
                    refine an_m_weds (fun M296 hM296 => ?_)
                    exact hQ _ _ (eqo_tr (eqo_tr (eqo_tr (eqo_tr (eqo_tr (eqo_wi (eqo_rf _) (i := 0) rfl (Or.inr rfl)) (fps_cons (i := 0) rfl fps_nil) hM200) (fps_cons (i := 0) rfl fps_nil) hM251) (fps_cons (i := 0) rfl fps_nil) hM291) (fps_cons (i := 1) rfl (fps_cons (i := 2) rfl (fps_cons (i := 3) rfl fps_nil))) hM294) (fps_cons (i := 4) rfl fps_nil) hM296)
                  · exact hQ _ _ (eqo_tr (eqo_tr (eqo_tr (eqo_wi (eqo_rf _) (i := 0) rfl (Or.inr rfl)) (fps_cons (i := 0) rfl fps_nil) hM200) (fps_cons (i := 0) rfl fps_nil) hM251) (fps_cons (i := 0) rfl fps_nil) hM291)
        · exact hQ _ _ (eqo_tr (eqo_tr (eqo_wi (eqo_rf _) (i := 0) rfl (Or.inr rfl)) (fps_cons (i := 0) rfl fps_nil) hM200) (fps_cons (i := 0) rfl fps_nil) hM251)
    · exact hQ _ _ (eqo_tr (eqo_wi (eqo_rf _) (i := 0) rfl (Or.inr rfl)) (fps_cons (i := 0) rfl fps_nil) hM200)
def fp_m_baby  : List (Nat × Nat × Option Nat) := [(190, 190, some 0), (190, 190, some 12), (195, 195, none), (200, 200, none), (191, 191, none), (196, 196, none)]
theorem an_m_baby_74 {M0 : MM} {p1 : Int32} {u2 : Int32} {k98 : MM → Prop} {Q : Int32 → MM → Prop} (hk98 : ∀  (M : MM), Eqo fp_m_baby M0 M → k98 M) (hQ : ∀ (r : Int32) (M1 : MM), Eqo fp_m_baby M0 M1 → Q r M1) : ∀ (N : Nat) (v3 : Int32) (M : MM), Eqo fp_m_baby M0 M → W_m_baby_74 p1 u2 k98 Q N v3 M := by
  refine I_m_baby_74 p1 u2 k98 Q (fun _ M => Eqo fp_m_baby M0 M) (fun N ih v3 M hih hM => ?_)
  unfold B_m_baby_74
  refine ⟨fun _ => ?_, fun _ => ?_⟩
  · refine an_m_sets (fun M16 hM16 => ?_)
    exact hih _ _ (eqo_tr hM (fps_cons (i := 4) rfl fps_nil) hM16)
  · exact hk98 _ hM
theorem an_m_baby {p1 : Int32} {N : Nat} {M : MM} {Q : Int32 → MM → Prop} (hQ : ∀ (r : Int32) (M1 : MM), Eqo fp_m_baby M M1 → Q r M1) : W_m_baby p1 N M Q := by
  unfold W_m_baby
  refine an_m_throwsIf (fun r1 M2 hM2 => ?_)
  refine ⟨fun _ => ?_, fun _ => ?_⟩
  · refine ⟨fun _ => ?_, fun _ => ?_⟩
    · refine an_m_throwsIf (fun r5 M6 hM6 => ?_)
      refine ⟨fun _ => ?_, fun _ => ?_⟩
      · refine ⟨fun _ => ?_, fun _ => ?_⟩
        · refine an_m_throwsIf (fun r9 M10 hM10 => ?_)
          refine ⟨fun _ => ?_, fun _ => ?_⟩
          · refine an_m_remembers (fun M13 hM13 => ?_)
            refine an_m_baby_74  (fun M17 hMM17 => ?_) hQ N _ _ (eqo_tr (eqo_tr (eqo_tr (eqo_tr (eqo_wi (eqo_rf _) (i := 0) rfl (Or.inr rfl)) (fps_cons (i := 0) rfl fps_nil) hM2) (fps_cons (i := 0) rfl fps_nil) hM6) (fps_cons (i := 0) rfl fps_nil) hM10) (fps_cons (i := 1) rfl (fps_cons (i := 2) rfl (fps_cons (i := 3) rfl fps_nil))) hM13)
            · refine an_m_sets (fun M19 hM19 => ?_)
              refine an_m_sets (fun M21 hM21 => ?_)
              refine an_m_sets (fun M23 hM23 => ?_)
              refine an_m_sets (fun M25 hM25 => ?_)
              exact hQ _ _ (eqo_wi (eqo_wj (eqo_tr (eqo_tr (eqo_tr (eqo_tr hMM17 (fps_cons (i := 4) rfl fps_nil) hM19) (fps_cons (i := 4) rfl fps_nil) hM21) (fps_cons (i := 4) rfl fps_nil) hM23) (fps_cons (i := 4) rfl fps_nil) hM25) (i := 5) rfl (Or.inl rfl)) (i := 4) rfl (Or.inl rfl))
          · exact hQ _ _ (eqo_tr (eqo_tr (eqo_tr (eqo_wi (eqo_rf _) (i := 0) rfl (Or.inr rfl)) (fps_cons (i := 0) rfl fps_nil) hM2) (fps_cons (i := 0) rfl fps_nil) hM6) (fps_cons (i := 0) rfl fps_nil) hM10)
        · refine an_m_throwsIf (fun r26 M27 hM27 => ?_)
          refine ⟨fun _ => ?_, fun _ => ?_⟩
          · refine an_m_remembers (fun M30 hM30 => ?_)
            refine an_m_baby_74  (fun M31 hMM31 => ?_) hQ N _ _ (eqo_tr (eqo_tr (eqo_tr (eqo_tr (eqo_wi (eqo_rf _) (i := 0) rfl (Or.inr rfl)) (fps_cons (i := 0) rfl fps_nil) hM2) (fps_cons (i := 0) rfl fps_nil) hM6) (fps_cons (i := 0) rfl fps_nil) hM27) (fps_cons (i := 1) rfl (fps_cons (i := 2) rfl (fps_cons (i := 3) rfl fps_nil))) hM30)
            · refine an_m_sets (fun M33 hM33 => ?_)
              refine an_m_sets (fun M35 hM35 => ?_)
              refine an_m_sets (fun M37 hM37 => ?_)
              refine an_m_sets (fun M39 hM39 => ?_)
              exact hQ _ _ (eqo_wi (eqo_wj (eqo_tr (eqo_tr (eqo_tr (eqo_tr hMM31 (fps_cons (i := 4) rfl fps_nil) hM33) (fps_cons (i := 4) rfl fps_nil) hM35) (fps_cons (i := 4) rfl fps_nil) hM37) (fps_cons (i := 4) rfl fps_nil) hM39) (i := 5) rfl (Or.inl rfl)) (i := 4) rfl (Or.inl rfl))
          · exact hQ _ _ (eqo_tr (eqo_tr (eqo_tr (eqo_wi (eqo_rf _) (i := 0) rfl (Or.inr rfl)) (fps_cons (i := 0) rfl fps_nil) hM2) (fps_cons (i := 0) rfl fps_nil) hM6) (fps_cons (i := 0) rfl fps_nil) hM27)
      · exact hQ _ _ (eqo_tr (eqo_tr (eqo_wi (eqo_rf _) (i := 0) rfl (Or.inr rfl)) (fps_cons (i := 0) rfl fps_nil) hM2) (fps_cons (i := 0) rfl fps_nil) hM6)
    · refine an_m_throwsIf (fun r40 M41 hM41 => ?_)
      refine ⟨fun _ => ?_, fun _ => ?_⟩
      · refine ⟨fun _ => ?_, fun _ => ?_⟩
        · refine an_m_throwsIf (fun r44 M45 hM45 => ?_)
          refine ⟨fun _ => ?_, fun _ => ?_⟩
          · refine an_m_remembers (fun M48 hM48 => ?_)
            refine an_m_baby_74  (fun M49 hMM49 => ?_) hQ N _ _ (eqo_tr (eqo_tr (eqo_tr (eqo_tr (eqo_wi (eqo_rf _) (i := 0) rfl (Or.inr rfl)) (fps_cons (i := 0) rfl fps_nil) hM2) (fps_cons (i := 0) rfl fps_nil) hM41) (fps_cons (i := 0) rfl fps_nil) hM45) (fps_cons (i := 1) rfl (fps_cons (i := 2) rfl (fps_cons (i := 3) rfl fps_nil))) hM48)
            · refine an_m_sets (fun M51 hM51 => ?_)
              refine an_m_sets (fun M53 hM53 => ?_)
              refine an_m_sets (fun M55 hM55 => ?_)
              refine an_m_sets (fun M57 hM57 => ?_)
              exact hQ _ _ (eqo_wi (eqo_wj (eqo_tr (eqo_tr (eqo_tr (eqo_tr hMM49 (fps_cons (i := 4) rfl fps_nil) hM51) (fps_cons (i := 4) rfl fps_nil) hM53) (fps_cons (i := 4) rfl fps_nil) hM55) (fps_cons (i := 4) rfl fps_nil) hM57) (i := 5) rfl (Or.inl rfl)) (i := 4) rfl (Or.inl rfl))
          · exact hQ _ _ (eqo_tr (eqo_tr (eqo_tr (eqo_wi (eqo_rf _) (i := 0) rfl (Or.inr rfl)) (fps_cons (i := 0) rfl fps_nil) hM2) (fps_cons (i := 0) rfl fps_nil) hM41) (fps_cons (i := 0) rfl fps_nil) hM45)
        · refine an_m_throwsIf (fun r58 M59 hM59 => ?_)
          refine ⟨fun _ => ?_, fun _ => ?_⟩
          · refine an_m_remembers (fun M62 hM62 => ?_)
            refine an_m_baby_74  (fun M63 hMM63 => ?_) hQ N _ _ (eqo_tr (eqo_tr (eqo_tr (eqo_tr (eqo_wi (eqo_rf _) (i := 0) rfl (Or.inr rfl)) (fps_cons (i := 0) rfl fps_nil) hM2) (fps_cons (i := 0) rfl fps_nil) hM41) (fps_cons (i := 0) rfl fps_nil) hM59) (fps_cons (i := 1) rfl (fps_cons (i := 2) rfl (fps_cons (i := 3) rfl fps_nil))) hM62)
            · refine an_m_sets (fun M65 hM65 => ?_)
              refine an_m_sets (fun M67 hM67 => ?_)
              refine an_m_sets (fun M69 hM69 => ?_)
              refine an_m_sets (fun M71 hM71 => ?_)
              exact hQ _ _ (eqo_wi (eqo_wj (eqo_tr (eqo_tr (eqo_tr (eqo_tr hMM63 (fps_cons (i := 4) rfl fps_nil) hM65) (fps_cons (i := 4) rfl fps_nil) hM67) (fps_cons (i := 4) rfl fps_nil) hM69) (fps_cons (i := 4) rfl fps_nil) hM71) (i := 5) rfl (Or.inl rfl)) (i := 4) rfl (Or.inl rfl))
          · exact hQ _ _ (eqo_tr (eqo_tr (eqo_tr (eqo_wi (eqo_rf _) (i := 0) rfl (Or.inr rfl)) (fps_cons (i := 0) rfl fps_nil) hM2) (fps_cons (i := 0) rfl fps_nil) hM41) (fps_cons (i := 0) rfl fps_nil) hM59)
      · exact hQ _ _ (eqo_tr (eqo_tr (eqo_wi (eqo_rf _) (i := 0) rfl (Or.inr rfl)) (fps_cons (i := 0) rfl fps_nil) hM2) (fps_cons (i := 0) rfl fps_nil) hM41)
  · exact hQ _ _ (eqo_tr (eqo_wi (eqo_rf _) (i := 0) rfl (Or.inr rfl)) (fps_cons (i := 0) rfl fps_nil) hM2)
def fp_m_release  : List (Nat × Nat × Option Nat) := [(190, 190, some 0), (190, 190, some 12), (195, 195, none), (200, 200, none), (191, 191, none)]
theorem an_m_release {p1 : Int32} {N : Nat} {M : MM} {Q : Int32 → MM → Prop} (hQ : ∀ (r : Int32) (M1 : MM), Eqo fp_m_release M M1 → Q r M1) : W_m_release p1 N M Q := by
  unfold W_m_release
  refine an_m_throwsIf (fun r1 M2 hM2 => ?_)
  refine ⟨fun _ => ?_, fun _ => ?_⟩
  · refine ⟨fun _ => ?_, fun _ => ?_⟩
    · refine an_m_throwsIf (fun r5 M6 hM6 => ?_)
      refine ⟨fun _ => ?_, fun _ => ?_⟩
      · refine an_m_remembers (fun M9 hM9 => ?_)
        refine an_m_sets (fun M11 hM11 => ?_)
        exact hQ _ _ (eqo_tr (eqo_tr (eqo_tr (eqo_tr (eqo_wi (eqo_rf _) (i := 0) rfl (Or.inr rfl)) (fps_cons (i := 0) rfl fps_nil) hM2) (fps_cons (i := 0) rfl fps_nil) hM6) (fps_cons (i := 1) rfl (fps_cons (i := 2) rfl (fps_cons (i := 3) rfl fps_nil))) hM9) (fps_cons (i := 4) rfl fps_nil) hM11)
      · exact hQ _ _ (eqo_tr (eqo_tr (eqo_wi (eqo_rf _) (i := 0) rfl (Or.inr rfl)) (fps_cons (i := 0) rfl fps_nil) hM2) (fps_cons (i := 0) rfl fps_nil) hM6)
    · refine ⟨fun _ => ?_, fun _ => ?_⟩
      · refine an_m_throwsIf (fun r13 M14 hM14 => ?_)
        refine ⟨fun _ => ?_, fun _ => ?_⟩
        · refine an_m_remembers (fun M17 hM17 => ?_)
          refine an_m_sets (fun M19 hM19 => ?_)
          exact hQ _ _ (eqo_tr (eqo_tr (eqo_tr (eqo_tr (eqo_wi (eqo_rf _) (i := 0) rfl (Or.inr rfl)) (fps_cons (i := 0) rfl fps_nil) hM2) (fps_cons (i := 0) rfl fps_nil) hM14) (fps_cons (i := 1) rfl (fps_cons (i := 2) rfl (fps_cons (i := 3) rfl fps_nil))) hM17) (fps_cons (i := 4) rfl fps_nil) hM19)
        · exact hQ _ _ (eqo_tr (eqo_tr (eqo_wi (eqo_rf _) (i := 0) rfl (Or.inr rfl)) (fps_cons (i := 0) rfl fps_nil) hM2) (fps_cons (i := 0) rfl fps_nil) hM14)
      · refine an_m_throwsIf (fun r20 M21 hM21 => ?_)
        refine ⟨fun _ => ?_, fun _ => ?_⟩
        · refine an_m_remembers (fun M24 hM24 => ?_)
          refine an_m_sets (fun M26 hM26 => ?_)
          exact hQ _ _ (eqo_tr (eqo_tr (eqo_tr (eqo_tr (eqo_wi (eqo_rf _) (i := 0) rfl (Or.inr rfl)) (fps_cons (i := 0) rfl fps_nil) hM2) (fps_cons (i := 0) rfl fps_nil) hM21) (fps_cons (i := 1) rfl (fps_cons (i := 2) rfl (fps_cons (i := 3) rfl fps_nil))) hM24) (fps_cons (i := 4) rfl fps_nil) hM26)
        · exact hQ _ _ (eqo_tr (eqo_tr (eqo_wi (eqo_rf _) (i := 0) rfl (Or.inr rfl)) (fps_cons (i := 0) rfl fps_nil) hM2) (fps_cons (i := 0) rfl fps_nil) hM21)
  · exact hQ _ _ (eqo_tr (eqo_wi (eqo_rf _) (i := 0) rfl (Or.inr rfl)) (fps_cons (i := 0) rfl fps_nil) hM2)
def fp_m_keeps  : List (Nat × Nat × Option Nat) := [(207, 207, none), (191, 191, none)]
theorem an_m_keeps {p1 : Int32} {p2 : Int32} {N : Nat} {M : MM} {Q : Int32 → MM → Prop} (hQ : ∀ (r : Int32) (M1 : MM), Eqo fp_m_keeps M M1 → Q r M1) : W_m_keeps p1 p2 N M Q := by
  unfold W_m_keeps
  refine an_m_may (fun r1 M2 hM2 => ?_)
  refine ⟨fun _ => ?_, fun _ => ?_⟩
  · exact hQ _ _ (eqo_tr (eqo_rf _) (fps_cons (i := 0) rfl fps_nil) hM2)
  · refine ⟨fun _ => ?_, fun _ => ?_⟩
    · exact hQ _ _ (eqo_tr (eqo_rf _) (fps_cons (i := 0) rfl fps_nil) hM2)
    · refine an_m_draw (fun r5 M6 hM6 => ?_)
      refine ⟨fun _ => ?_, fun _ => ?_⟩
      · exact hQ _ _ (eqo_tr (eqo_tr (eqo_rf _) (fps_cons (i := 0) rfl fps_nil) hM2) (fps_cons (i := 1) rfl fps_nil) hM6)
      · exact hQ _ _ (eqo_tr (eqo_tr (eqo_rf _) (fps_cons (i := 0) rfl fps_nil) hM2) (fps_cons (i := 1) rfl fps_nil) hM6)
def fp_m_isLogged  : List (Nat × Nat × Option Nat) := [(191, 191, none)]
theorem an_m_isLogged_5 {M0 : MM} {p1 : Int32} {p2 : Int32} {p3 : Int32} {k41 : MM → Prop} {Q : MM → Prop} (hk41 : ∀  (M : MM), Eqo fp_m_isLogged M0 M → k41 M) (hQ : ∀  (M1 : MM), Eqo fp_m_isLogged M0 M1 → Q M1) : ∀ (N : Nat) (v4 : Int32) (M : MM), Eqo fp_m_isLogged M0 M → W_m_isLogged_5 p1 p2 p3 k41 Q N v4 M := by
  refine I_m_isLogged_5 p1 p2 p3 k41 Q (fun _ M => Eqo fp_m_isLogged M0 M) (fun N ih v4 M hih hM => ?_)
  unfold B_m_isLogged_5
  refine ⟨fun _ => ?_, fun _ => ?_⟩
  · exact hk41 _ hM
  · exact hih _ _ (eqo_wi hM (i := 0) rfl (Or.inl rfl))
theorem an_m_isLogged {p1 : Int32} {p2 : Int32} {p3 : Int32} {N : Nat} {M : MM} {Q : MM → Prop} (hQ : ∀  (M1 : MM), Eqo fp_m_isLogged M M1 → Q M1) : W_m_isLogged p1 p2 p3 N M Q := by
  unfold W_m_isLogged
  refine an_m_isLogged_5  (fun M2 hMM2 => ?_) hQ N _ _ (eqo_rf _)
  · exact hQ _ (eqo_wi (eqo_wi (eqo_wi (eqo_wi (eqo_wi hMM2 (i := 0) rfl (Or.inl rfl)) (i := 0) rfl (Or.inl rfl)) (i := 0) rfl (Or.inl rfl)) (i := 0) rfl (Or.inl rfl)) (i := 0) rfl (Or.inl rfl))
def fp_m_breaks  : List (Nat × Nat × Option Nat) := [(191, 191, none), (196, 196, none)]
theorem an_m_breaks_74 {M0 : MM} {p1 : Int32} {p2 : Int32} {p3 : Int32} {Q : MM → Prop} (hQ : ∀  (M1 : MM), Eqo fp_m_breaks M0 M1 → Q M1) : ∀ (N : Nat) (v4 : Int32) (M : MM), Eqo fp_m_breaks M0 M → W_m_breaks_74 p1 p2 p3 Q N v4 M := by
  refine I_m_breaks_74 p1 p2 p3 Q (fun _ M => Eqo fp_m_breaks M0 M) (fun N ih v4 M hih hM => ?_)
  unfold B_m_breaks_74
  refine ⟨fun _ => ?_, fun _ => ?_⟩
  · refine ⟨fun _ => ?_, fun _ => ?_⟩
    · exact hih _ _ hM
    · refine ⟨fun _ => ?_, fun _ => ?_⟩
      · exact hih _ _ (eqo_wj hM (i := 1) rfl (Or.inl rfl))
      · exact hih _ _ hM
  · exact hQ _ hM
theorem an_m_breaks {p1 : Int32} {p2 : Int32} {p3 : Int32} {N : Nat} {M : MM} {Q : MM → Prop} (hQ : ∀  (M1 : MM), Eqo fp_m_breaks M M1 → Q M1) : W_m_breaks p1 p2 p3 N M Q := by
  unfold W_m_breaks
  refine an_m_draw (fun r1 M2 hM2 => ?_)
  refine ⟨fun _ => ?_, fun _ => ?_⟩
  · refine an_m_sets (fun M5 hM5 => ?_)
    refine an_m_isLogged (fun M7 hM7 => ?_)
    refine an_m_breaks_74   hQ N _ _ (eqo_tr (eqo_tr (eqo_wi (eqo_tr (eqo_wi (eqo_rf _) (i := 0) rfl (Or.inl rfl)) (fps_cons (i := 0) rfl fps_nil) hM2) (i := 0) rfl (Or.inl rfl)) (fps_cons (i := 0) rfl fps_nil) hM5) (fps_cons (i := 0) rfl fps_nil) hM7)
  · exact hQ _ (eqo_tr (eqo_wi (eqo_rf _) (i := 0) rfl (Or.inl rfl)) (fps_cons (i := 0) rfl fps_nil) hM2)
def fp_m_oneDay  : List (Nat × Nat × Option Nat) := [(190, 190, some 29), (190, 190, some 30), (191, 191, none), (196, 196, none), (207, 207, none)]
theorem an_m_oneDay_12 {M0 : MM} {k97 : MM → Prop} {Q : MM → Prop} (hk97 : ∀  (M : MM), Eqo fp_m_oneDay M0 M → k97 M) (hQ : ∀  (M1 : MM), Eqo fp_m_oneDay M0 M1 → Q M1) : ∀ (N : Nat) (v1 : Int32) (M : MM), Eqo fp_m_oneDay M0 M → W_m_oneDay_12 k97 Q N v1 M := by
  refine I_m_oneDay_12 k97 Q (fun _ M => Eqo fp_m_oneDay M0 M) (fun N ih v1 M hih hM => ?_)
  unfold B_m_oneDay_12
  refine ⟨fun _ => ?_, fun _ => ?_⟩
  · refine ⟨fun _ => ?_, fun _ => ?_⟩
    · exact hih _ _ hM
    · refine ⟨fun _ => ?_, fun _ => ?_⟩
      · exact hih _ _ hM
      · refine an_m_keeps (fun r4 M5 hM5 => ?_)
        refine ⟨fun _ => ?_, fun _ => ?_⟩
        · exact hih _ _ (eqo_wi (eqo_tr (eqo_wi hM (i := 0) rfl (Or.inr rfl)) (fps_cons (i := 4) rfl (fps_cons (i := 2) rfl fps_nil)) hM5) (i := 1) rfl (Or.inr rfl))
        · exact hih _ _ (eqo_wi (eqo_tr (eqo_wi hM (i := 0) rfl (Or.inr rfl)) (fps_cons (i := 4) rfl (fps_cons (i := 2) rfl fps_nil)) hM5) (i := 2) rfl (Or.inl rfl))
  · exact hk97 _ hM
theorem an_m_oneDay_104 {M0 : MM} {u1 : Int32} {k162 : MM → Prop} {Q : MM → Prop} (hk162 : ∀  (M : MM), Eqo fp_m_oneDay M0 M → k162 M) (hQ : ∀  (M1 : MM), Eqo fp_m_oneDay M0 M1 → Q M1) : ∀ (N : Nat) (v2 : Int32) (M : MM), Eqo fp_m_oneDay M0 M → W_m_oneDay_104 u1 k162 Q N v2 M := by
  refine I_m_oneDay_104 u1 k162 Q (fun _ M => Eqo fp_m_oneDay M0 M) (fun N ih v2 M hih hM => ?_)
  unfold B_m_oneDay_104
  refine ⟨fun _ => ?_, fun _ => ?_⟩
  · refine ⟨fun _ => ?_, fun _ => ?_⟩
    · exact hih _ _ hM
    · refine an_m_forbidsNow (fun r13 M14 hM14 => ?_)
      refine ⟨fun _ => ?_, fun _ => ?_⟩
      · exact hih _ _ (eqo_tr hM (fps_cons (i := 4) rfl fps_nil) hM14)
      · refine an_m_breaks (fun M17 hM17 => ?_)
        exact hih _ _ (eqo_tr (eqo_tr hM (fps_cons (i := 4) rfl fps_nil) hM14) (fps_cons (i := 2) rfl (fps_cons (i := 3) rfl fps_nil)) hM17)
  · exact hk162 _ hM
theorem an_m_oneDay_164 {M0 : MM} {Q : MM → Prop} (hQ : ∀  (M1 : MM), Eqo fp_m_oneDay M0 M1 → Q M1) : ∀ (N : Nat) (v2 : Int32) (M : MM), Eqo fp_m_oneDay M0 M → W_m_oneDay_164 Q N v2 M := by
  refine I_m_oneDay_164 Q (fun _ M => Eqo fp_m_oneDay M0 M) (fun N ih v2 M hih hM => ?_)
  unfold B_m_oneDay_164
  refine ⟨fun _ => ?_, fun _ => ?_⟩
  · refine ⟨fun _ => ?_, fun _ => ?_⟩
    · refine an_m_sets (fun M22 hM22 => ?_)
      refine an_m_sets (fun M24 hM24 => ?_)
      exact hih _ _ (eqo_tr (eqo_tr hM (fps_cons (i := 2) rfl fps_nil) hM22) (fps_cons (i := 2) rfl fps_nil) hM24)
    · refine an_m_sets (fun M26 hM26 => ?_)
      exact hih _ _ (eqo_tr hM (fps_cons (i := 2) rfl fps_nil) hM26)
  · exact hQ _ (eqo_wi hM (i := 2) rfl (Or.inl rfl))
theorem an_m_oneDay  {N : Nat} {M : MM} {Q : MM → Prop} (hQ : ∀  (M1 : MM), Eqo fp_m_oneDay M M1 → Q M1) : W_m_oneDay  N M Q := by
  unfold W_m_oneDay
  refine an_m_oneDay_12  (fun M7 hMM7 => ?_) hQ N _ _ (eqo_wi (eqo_wi (eqo_rf _) (i := 0) rfl (Or.inr rfl)) (i := 1) rfl (Or.inr rfl))
  · refine an_m_inForce (fun r8 => ?_)
    refine an_m_oneDay_104  (fun M18 hMM18 => ?_) hQ N _ _ hMM7
    · refine an_m_oneDay_164   hQ N _ _ hMM18
def fp_m_days  : List (Nat × Nat × Option Nat) := [(190, 190, some 0), (190, 190, some 12), (195, 195, none), (200, 200, none), (190, 190, some 29), (190, 190, some 30), (191, 191, none), (196, 196, none), (207, 207, none)]
theorem an_m_days_43 {M0 : MM} {p1 : Int32} {u2 : Int32} {Q : Int32 → MM → Prop} (hQ : ∀ (r : Int32) (M1 : MM), Eqo fp_m_days M0 M1 → Q r M1) : ∀ (N : Nat) (v3 : Int32) (M : MM), Eqo fp_m_days M0 M → W_m_days_43 p1 u2 Q N v3 M := by
  refine I_m_days_43 p1 u2 Q (fun _ M => Eqo fp_m_days M0 M) (fun N ih v3 M hih hM => ?_)
  unfold B_m_days_43
  refine ⟨fun _ => ?_, fun _ => ?_⟩
  · refine an_m_oneDay (fun M9 hM9 => ?_)
    exact hih _ _ (eqo_tr hM (fps_cons (i := 4) rfl (fps_cons (i := 5) rfl (fps_cons (i := 6) rfl (fps_cons (i := 7) rfl (fps_cons (i := 8) rfl fps_nil))))) hM9)
  · exact hQ _ _ hM
theorem an_m_days {p1 : Int32} {N : Nat} {M : MM} {Q : Int32 → MM → Prop} (hQ : ∀ (r : Int32) (M1 : MM), Eqo fp_m_days M M1 → Q r M1) : W_m_days p1 N M Q := by
  unfold W_m_days
  refine ⟨fun _ => ?_, fun _ => ?_⟩
  · refine an_m_throwsIf (fun r2 M3 hM3 => ?_)
    refine ⟨fun _ => ?_, fun _ => ?_⟩
    · refine an_m_remembers (fun M6 hM6 => ?_)
      refine an_m_days_43   hQ N _ _ (eqo_tr (eqo_tr (eqo_wi (eqo_rf _) (i := 0) rfl (Or.inr rfl)) (fps_cons (i := 0) rfl fps_nil) hM3) (fps_cons (i := 1) rfl (fps_cons (i := 2) rfl (fps_cons (i := 3) rfl fps_nil))) hM6)
    · exact hQ _ _ (eqo_tr (eqo_wi (eqo_rf _) (i := 0) rfl (Or.inr rfl)) (fps_cons (i := 0) rfl fps_nil) hM3)
  · refine an_m_throwsIf (fun r10 M11 hM11 => ?_)
    refine ⟨fun _ => ?_, fun _ => ?_⟩
    · refine an_m_remembers (fun M14 hM14 => ?_)
      refine an_m_days_43   hQ N _ _ (eqo_tr (eqo_tr (eqo_wi (eqo_rf _) (i := 0) rfl (Or.inr rfl)) (fps_cons (i := 0) rfl fps_nil) hM11) (fps_cons (i := 1) rfl (fps_cons (i := 2) rfl (fps_cons (i := 3) rfl fps_nil))) hM14)
    · exact hQ _ _ (eqo_tr (eqo_wi (eqo_rf _) (i := 0) rfl (Or.inr rfl)) (fps_cons (i := 0) rfl fps_nil) hM11)
