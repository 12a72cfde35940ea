/-! TWO ENDS AT ONCE (gw.py) -/
theorem and_m_wed {p1 : Int32} {p2 : Int32} {N : Nat} {M : MM} {Q1 Q2 Q3 : Int32 → MM → Prop} (hQ : ∀ (r : Int32) (M1 : MM), Q1 r M1 → Q2 r M1 → Q3 r M1) (h1 : W_m_wed p1 p2 N M Q1) (h2 : W_m_wed p1 p2 N M Q2) : W_m_wed p1 p2 N M Q3 := by
  unfold W_m_wed at h1 h2 ⊢
  refine ⟨fun hc => ?_, fun hc => ?_⟩
  · replace h1 := h1.1 hc
    replace h2 := h2.1 hc
    refine ⟨fun hc => ?_, fun hc => ?_⟩
    · replace h1 := h1.1 hc
      replace h2 := h2.1 hc
      refine and_m_throwsIf (fun r3 M4 h1 h2 => ?_) h1 h2
      refine ⟨fun hc => ?_, fun hc => ?_⟩
      · replace h1 := h1.1 hc
        replace h2 := h2.1 hc
        refine ⟨fun hc => ?_, fun hc => ?_⟩
        · replace h1 := h1.1 hc
          replace h2 := h2.1 hc
          refine and_m_throwsIf (fun r7 M8 h1 h2 => ?_) h1 h2
          refine ⟨fun hc => ?_, fun hc => ?_⟩
          · replace h1 := h1.1 hc
            replace h2 := h2.1 hc
            refine ⟨fun hc => ?_, fun hc => ?_⟩
            · replace h1 := h1.1 hc
              replace h2 := h2.1 hc
              refine and_m_throwsIf (fun r12 M13 h1 h2 => ?_) h1 h2
              refine ⟨fun hc => ?_, fun hc => ?_⟩
              · replace h1 := h1.1 hc
                replace h2 := h2.1 hc
                refine and_m_remembers (fun M16 h1 h2 => ?_) h1 h2
                refine and_m_weds (fun M18 h1 h2 => ?_) h1 h2
                exact hQ _ _ h1 h2
              · replace h1 := h1.2 hc
                replace h2 := h2.2 hc
                exact hQ _ _ h1 h2
            · replace h1 := h1.2 hc
              replace h2 := h2.2 hc
              refine ⟨fun hc => ?_, fun hc => ?_⟩
              · replace h1 := h1.1 hc
                replace h2 := h2.1 hc
                refine and_m_throwsIf (fun r21 M22 h1 h2 => ?_) h1 h2
                refine ⟨fun hc => ?_, fun hc => ?_⟩
                · replace h1 := h1.1 hc
                  replace h2 := h2.1 hc
                  refine and_m_remembers (fun M25 h1 h2 => ?_) h1 h2
                  refine and_m_weds (fun M27 h1 h2 => ?_) h1 h2
                  exact hQ _ _ h1 h2
                · replace h1 := h1.2 hc
                  replace h2 := h2.2 hc
                  exact hQ _ _ h1 h2
              · replace h1 := h1.2 hc
                replace h2 := h2.2 hc
                refine ⟨fun hc => ?_, fun hc => ?_⟩
                · replace h1 := h1.1 hc
                  replace h2 := h2.1 hc
                  refine and_m_throwsIf (fun r30 M31 h1 h2 => ?_) h1 h2
                  refine ⟨fun hc => ?_, fun hc => ?_⟩
                  · replace h1 := h1.1 hc
                    replace h2 := h2.1 hc
                    refine and_m_remembers (fun M34 h1 h2 => ?_) h1 h2
                    refine and_m_weds (fun M36 h1 h2 => ?_) h1 h2
                    exact hQ _ _ h1 h2
                  · replace h1 := h1.2 hc
                    replace h2 := h2.2 hc
                    exact hQ _ _ h1 h2
                · replace h1 := h1.2 hc
                  replace h2 := h2.2 hc
                  refine ⟨fun hc => ?_, fun hc => ?_⟩
                  · replace h1 := h1.1 hc
                    replace h2 := h2.1 hc
                    refine and_m_throwsIf (fun r39 M40 h1 h2 => ?_) h1 h2
                    refine ⟨fun hc => ?_, fun hc => ?_⟩
                    · replace h1 := h1.1 hc
                      replace h2 := h2.1 hc
                      refine and_m_remembers (fun M43 h1 h2 => ?_) h1 h2
                      refine and_m_weds (fun M45 h1 h2 => ?_) h1 h2
                      exact hQ _ _ h1 h2
                    · replace h1 := h1.2 hc
                      replace h2 := h2.2 hc
                      exact hQ _ _ h1 h2
                  · replace h1 := h1.2 hc
                    replace h2 := h2.2 hc
                    refine and_m_throwsIf (fun r47 M48 h1 h2 => ?_) h1 h2
                    refine ⟨fun hc => ?_, fun hc => ?_⟩
                    · replace h1 := h1.1 hc
                      replace h2 := h2.1 hc
                      refine and_m_remembers (fun M51 h1 h2 => ?_) h1 h2
                      refine and_m_weds (fun M53 h1 h2 => ?_) h1 h2
                      exact hQ _ _ h1 h2
                    · replace h1 := h1.2 hc
                      replace h2 := h2.2 hc
                      exact hQ _ _ h1 h2
          · replace h1 := h1.2 hc
            replace h2 := h2.2 hc
            exact hQ _ _ h1 h2
        · replace h1 := h1.2 hc
          replace h2 := h2.2 hc
          refine and_m_throwsIf (fun r54 M55 h1 h2 => ?_) h1 h2
          refine ⟨fun hc => ?_, fun hc => ?_⟩
          · replace h1 := h1.1 hc
            replace h2 := h2.1 hc
            refine ⟨fun hc => ?_, fun hc => ?_⟩
            · replace h1 := h1.1 hc
              replace h2 := h2.1 hc
              refine and_m_throwsIf (fun r59 M60 h1 h2 => ?_) h1 h2
              refine ⟨fun hc => ?_, fun hc => ?_⟩
              · replace h1 := h1.1 hc
                replace h2 := h2.1 hc
                refine and_m_remembers (fun M63 h1 h2 => ?_) h1 h2
                refine and_m_weds (fun M65 h1 h2 => ?_) h1 h2
                exact hQ _ _ h1 h2
              · replace h1 := h1.2 hc
                replace h2 := h2.2 hc
                exact hQ _ _ h1 h2
            · replace h1 := h1.2 hc
              replace h2 := h2.2 hc
              refine ⟨fun hc => ?_, fun hc => ?_⟩
              · replace h1 := h1.1 hc
                replace h2 := h2.1 hc
                refine and_m_throwsIf (fun r68 M69 h1 h2 => ?_) h1 h2
                refine ⟨fun hc => ?_, fun hc => ?_⟩
                · replace h1 := h1.1 hc
                  replace h2 := h2.1 hc
                  refine and_m_remembers (fun M72 h1 h2 => ?_) h1 h2
                  refine and_m_weds (fun M74 h1 h2 => ?_) h1 h2
                  exact hQ _ _ h1 h2
                · replace h1 := h1.2 hc
                  replace h2 := h2.2 hc
                  exact hQ _ _ h1 h2
              · replace h1 := h1.2 hc
                replace h2 := h2.2 hc
                refine ⟨fun hc => ?_, fun hc => ?_⟩
                · replace h1 := h1.1 hc
                  replace h2 := h2.1 hc
                  refine and_m_throwsIf (fun r77 M78 h1 h2 => ?_) h1 h2
                  refine ⟨fun hc => ?_, fun hc => ?_⟩
                  · replace h1 := h1.1 hc
                    replace h2 := h2.1 hc
                    refine and_m_remembers (fun M81 h1 h2 => ?_) h1 h2
                    refine and_m_weds (fun M83 h1 h2 => ?_) h1 h2
                    exact hQ _ _ h1 h2
                  · replace h1 := h1.2 hc
                    replace h2 := h2.2 hc
                    exact hQ _ _ h1 h2
                · replace h1 := h1.2 hc
                  replace h2 := h2.2 hc
                  refine ⟨fun hc => ?_, fun hc => ?_⟩
                  · replace h1 := h1.1 hc
                    replace h2 := h2.1 hc
                    refine and_m_throwsIf (fun r86 M87 h1 h2 => ?_) h1 h2
                    refine ⟨fun hc => ?_, fun hc => ?_⟩
                    · replace h1 := h1.1 hc
                      replace h2 := h2.1 hc
                      refine and_m_remembers (fun M90 h1 h2 => ?_) h1 h2
                      refine and_m_weds (fun M92 h1 h2 => ?_) h1 h2
                      exact hQ _ _ h1 h2
                    · replace h1 := h1.2 hc
                      replace h2 := h2.2 hc
                      exact hQ _ _ h1 h2
                  · replace h1 := h1.2 hc
                    replace h2 := h2.2 hc
                    refine and_m_throwsIf (fun r94 M95 h1 h2 => ?_) h1 h2
                    refine ⟨fun hc => ?_, fun hc => ?_⟩
                    · replace h1 := h1.1 hc
                      replace h2 := h2.1 hc
                      refine and_m_remembers (fun M98 h1 h2 => ?_) h1 h2
                      refine and_m_weds (fun M100 h1 h2 => ?_) h1 h2
                      exact hQ _ _ h1 h2
                    · replace h1 := h1.2 hc
                      replace h2 := h2.2 hc
                      exact hQ _ _ h1 h2
          · replace h1 := h1.2 hc
            replace h2 := h2.2 hc
            exact hQ _ _ h1 h2
      · replace h1 := h1.2 hc
        replace h2 := h2.2 hc
        exact hQ _ _ h1 h2
    · replace h1 := h1.2 hc
      replace h2 := h2.2 hc
      refine and_m_throwsIf (fun r101 M102 h1 h2 => ?_) h1 h2
      refine ⟨fun hc => ?_, fun hc => ?_⟩
      · replace h1 := h1.1 hc
        replace h2 := h2.1 hc
        refine ⟨fun hc => ?_, fun hc => ?_⟩
        · replace h1 := h1.1 hc
          replace h2 := h2.1 hc
          refine and_m_throwsIf (fun r105 M106 h1 h2 => ?_) h1 h2
          refine ⟨fun hc => ?_, fun hc => ?_⟩
          · replace h1 := h1.1 hc
            replace h2 := h2.1 hc
            refine ⟨fun hc => ?_, fun hc => ?_⟩
            · replace h1 := h1.1 hc
              replace h2 := h2.1 hc
              refine and_m_throwsIf (fun r110 M111 h1 h2 => ?_) h1 h2
              refine ⟨fun hc => ?_, fun hc => ?_⟩
              · replace h1 := h1.1 hc
                replace h2 := h2.1 hc
                refine and_m_remembers (fun M114 h1 h2 => ?_) h1 h2
                refine and_m_weds (fun M116 h1 h2 => ?_) h1 h2
                exact hQ _ _ h1 h2
              · replace h1 := h1.2 hc
                replace h2 := h2.2 hc
                exact hQ _ _ h1 h2
            · replace h1 := h1.2 hc
              replace h2 := h2.2 hc
              refine ⟨fun hc => ?_, fun hc => ?_⟩
              · replace h1 := h1.1 hc
                replace h2 := h2.1 hc
                refine and_m_throwsIf (fun r119 M120 h1 h2 => ?_) h1 h2
                refine ⟨fun hc => ?_, fun hc => ?_⟩
                · replace h1 := h1.1 hc
                  replace h2 := h2.1 hc
                  refine and_m_remembers (fun M123 h1 h2 => ?_) h1 h2
                  refine and_m_weds (fun M125 h1 h2 => ?_) h1 h2
                  exact hQ _ _ h1 h2
                · replace h1 := h1.2 hc
                  replace h2 := h2.2 hc
                  exact hQ _ _ h1 h2
              · replace h1 := h1.2 hc
                replace h2 := h2.2 hc
                refine ⟨fun hc => ?_, fun hc => ?_⟩
                · replace h1 := h1.1 hc
                  replace h2 := h2.1 hc
                  refine and_m_throwsIf (fun r128 M129 h1 h2 => ?_) h1 h2
                  refine ⟨fun hc => ?_, fun hc => ?_⟩
                  · replace h1 := h1.1 hc
                    replace h2 := h2.1 hc
                    refine and_m_remembers (fun M132 h1 h2 => ?_) h1 h2
                    refine and_m_weds (fun M134 h1 h2 => ?_) h1 h2
                    exact hQ _ _ h1 h2
                  · replace h1 := h1.2 hc
                    replace h2 := h2.2 hc
                    exact hQ _ _ h1 h2
                · replace h1 := h1.2 hc
                  replace h2 := h2.2 hc
                  refine ⟨fun hc => ?_, fun hc => ?_⟩
                  · replace h1 := h1.1 hc
                    replace h2 := h2.1 hc
                    refine and_m_throwsIf (fun r137 M138 h1 h2 => ?_) h1 h2
                    refine ⟨fun hc => ?_, fun hc => ?_⟩
                    · replace h1 := h1.1 hc
                      replace h2 := h2.1 hc
                      refine and_m_remembers (fun M141 h1 h2 => ?_) h1 h2
                      refine and_m_weds (fun M143 h1 h2 => ?_) h1 h2
                      exact hQ _ _ h1 h2
                    · replace h1 := h1.2 hc
                      replace h2 := h2.2 hc
                      exact hQ _ _ h1 h2
                  · replace h1 := h1.2 hc
                    replace h2 := h2.2 hc
                    refine and_m_throwsIf (fun r145 M146 h1 h2 => ?_) h1 h2
                    refine ⟨fun hc => ?_, fun hc => ?_⟩
                    · replace h1 := h1.1 hc
                      replace h2 := h2.1 hc
                      refine and_m_remembers (fun M149 h1 h2 => ?_) h1 h2
                      refine and_m_weds (fun M151 h1 h2 => ?_) h1 h2
                      exact hQ _ _ h1 h2
                    · replace h1 := h1.2 hc
                      replace h2 := h2.2 hc
                      exact hQ _ _ h1 h2
          · replace h1 := h1.2 hc
            replace h2 := h2.2 hc
            exact hQ _ _ h1 h2
        · replace h1 := h1.2 hc
          replace h2 := h2.2 hc
          refine and_m_throwsIf (fun r152 M153 h1 h2 => ?_) h1 h2
          refine ⟨fun hc => ?_, fun hc => ?_⟩
          · replace h1 := h1.1 hc
            replace h2 := h2.1 hc
            refine ⟨fun hc => ?_, fun hc => ?_⟩
            · replace h1 := h1.1 hc
              replace h2 := h2.1 hc
              refine and_m_throwsIf (fun r157 M158 h1 h2 => ?_) h1 h2
              refine ⟨fun hc => ?_, fun hc => ?_⟩
              · replace h1 := h1.1 hc
                replace h2 := h2.1 hc
                refine and_m_remembers (fun M161 h1 h2 => ?_) h1 h2
                refine and_m_weds (fun M163 h1 h2 => ?_) h1 h2
                exact hQ _ _ h1 h2
              · replace h1 := h1.2 hc
                replace h2 := h2.2 hc
                exact hQ _ _ h1 h2
            · replace h1 := h1.2 hc
              replace h2 := h2.2 hc
              refine ⟨fun hc => ?_, fun hc => ?_⟩
              · replace h1 := h1.1 hc
                replace h2 := h2.1 hc
                refine and_m_throwsIf (fun r166 M167 h1 h2 => ?_) h1 h2
                refine ⟨fun hc => ?_, fun hc => ?_⟩
                · replace h1 := h1.1 hc
                  replace h2 := h2.1 hc
                  refine and_m_remembers (fun M170 h1 h2 => ?_) h1 h2
                  refine and_m_weds (fun M172 h1 h2 => ?_) h1 h2
                  exact hQ _ _ h1 h2
                · replace h1 := h1.2 hc
                  replace h2 := h2.2 hc
                  exact hQ _ _ h1 h2
              · replace h1 := h1.2 hc
                replace h2 := h2.2 hc
                refine ⟨fun hc => ?_, fun hc => ?_⟩
                · replace h1 := h1.1 hc
                  replace h2 := h2.1 hc
                  refine and_m_throwsIf (fun r175 M176 h1 h2 => ?_) h1 h2
                  refine ⟨fun hc => ?_, fun hc => ?_⟩
                  · replace h1 := h1.1 hc
                    replace h2 := h2.1 hc
                    refine and_m_remembers (fun M179 h1 h2 => ?_) h1 h2
                    refine and_m_weds (fun M181 h1 h2 => ?_) h1 h2
                    exact hQ _ _ h1 h2
                  · replace h1 := h1.2 hc
                    replace h2 := h2.2 hc
                    exact hQ _ _ h1 h2
                · replace h1 := h1.2 hc
                  replace h2 := h2.2 hc
                  refine ⟨fun hc => ?_, fun hc => ?_⟩
                  · replace h1 := h1.1 hc
                    replace h2 := h2.1 hc
                    refine and_m_throwsIf (fun r184 M185 h1 h2 => ?_) h1 h2
                    refine ⟨fun hc => ?_, fun hc => ?_⟩
                    · replace h1 := h1.1 hc
                      replace h2 := h2.1 hc
                      refine and_m_remembers (fun M188 h1 h2 => ?_) h1 h2
                      refine and_m_weds (fun M190 h1 h2 => ?_) h1 h2
                      exact hQ _ _ h1 h2
                    · replace h1 := h1.2 hc
                      replace h2 := h2.2 hc
                      exact hQ _ _ h1 h2
                  · replace h1 := h1.2 hc
                    replace h2 := h2.2 hc
                    refine and_m_throwsIf (fun r192 M193 h1 h2 => ?_) h1 h2
                    refine ⟨fun hc => ?_, fun hc => ?_⟩
                    · replace h1 := h1.1 hc
                      replace h2 := h2.1 hc
                      refine and_m_remembers (fun M196 h1 h2 => ?_) h1 h2
                      refine and_m_weds (fun M198 h1 h2 => ?_) h1 h2
                      exact hQ _ _ h1 h2
                    · replace h1 := h1.2 hc
                      replace h2 := h2.2 hc
                      exact hQ _ _ h1 h2
          · replace h1 := h1.2 hc
            replace h2 := h2.2 hc
            exact hQ _ _ h1 h2
      · replace h1 := h1.2 hc
        replace h2 := h2.2 hc
        exact hQ _ _ h1 h2
  · replace h1 := h1.2 hc
    replace h2 := h2.2 hc
    refine and_m_throwsIf (fun r199 M200 h1 h2 => ?_) h1 h2
    refine ⟨fun hc => ?_, fun hc => ?_⟩
    · replace h1 := h1.1 hc
      replace h2 := h2.1 hc
      refine ⟨fun hc => ?_, fun hc => ?_⟩
      · replace h1 := h1.1 hc
        replace h2 := h2.1 hc
        refine and_m_throwsIf (fun r203 M204 h1 h2 => ?_) h1 h2
        refine ⟨fun hc => ?_, fun hc => ?_⟩
        · replace h1 := h1.1 hc
          replace h2 := h2.1 hc
          refine ⟨fun hc => ?_, fun hc => ?_⟩
          · replace h1 := h1.1 hc
            replace h2 := h2.1 hc
            refine and_m_throwsIf (fun r208 M209 h1 h2 => ?_) h1 h2
            refine ⟨fun hc => ?_, fun hc => ?_⟩
            · replace h1 := h1.1 hc
              replace h2 := h2.1 hc
              refine and_m_remembers (fun M212 h1 h2 => ?_) h1 h2
              refine and_m_weds (fun M214 h1 h2 => ?_) h1 h2
              exact hQ _ _ h1 h2
            · replace h1 := h1.2 hc
              replace h2 := h2.2 hc
              exact hQ _ _ h1 h2
          · replace h1 := h1.2 hc
            replace h2 := h2.2 hc
            refine ⟨fun hc => ?_, fun hc => ?_⟩
            · replace h1 := h1.1 hc
              replace h2 := h2.1 hc
              refine and_m_throwsIf (fun r217 M218 h1 h2 => ?_) h1 h2
              refine ⟨fun hc => ?_, fun hc => ?_⟩
              · replace h1 := h1.1 hc
                replace h2 := h2.1 hc
                refine and_m_remembers (fun M221 h1 h2 => ?_) h1 h2
                refine and_m_weds (fun M223 h1 h2 => ?_) h1 h2
                exact hQ _ _ h1 h2
              · replace h1 := h1.2 hc
                replace h2 := h2.2 hc
                exact hQ _ _ h1 h2
            · replace h1 := h1.2 hc
              replace h2 := h2.2 hc
              refine ⟨fun hc => ?_, fun hc => ?_⟩
              · replace h1 := h1.1 hc
                replace h2 := h2.1 hc
                refine and_m_throwsIf (fun r226 M227 h1 h2 => ?_) h1 h2
                refine ⟨fun hc => ?_, fun hc => ?_⟩
                · replace h1 := h1.1 hc
                  replace h2 := h2.1 hc
                  refine and_m_remembers (fun M230 h1 h2 => ?_) h1 h2
                  refine and_m_weds (fun M232 h1 h2 => ?_) h1 h2
                  exact hQ _ _ h1 h2
                · replace h1 := h1.2 hc
                  replace h2 := h2.2 hc
                  exact hQ _ _ h1 h2
              · replace h1 := h1.2 hc
                replace h2 := h2.2 hc
                refine ⟨fun hc => ?_, fun hc => ?_⟩
                · replace h1 := h1.1 hc
                  replace h2 := h2.1 hc
                  refine and_m_throwsIf (fun r235 M236 h1 h2 => ?_) h1 h2
                  refine ⟨fun hc => ?_, fun hc => ?_⟩
                  · replace h1 := h1.1 hc
                    replace h2 := h2.1 hc
                    refine and_m_remembers (fun M239 h1 h2 => ?_) h1 h2
                    refine and_m_weds (fun M241 h1 h2 => ?_) h1 h2
                    exact hQ _ _ h1 h2
                  · replace h1 := h1.2 hc
                    replace h2 := h2.2 hc
                    exact hQ _ _ h1 h2
                · replace h1 := h1.2 hc
                  replace h2 := h2.2 hc
                  refine and_m_throwsIf (fun r243 M244 h1 h2 => ?_) h1 h2
                  refine ⟨fun hc => ?_, fun hc => ?_⟩
                  · replace h1 := h1.1 hc
                    replace h2 := h2.1 hc
                    refine and_m_remembers (fun M247 h1 h2 => ?_) h1 h2
                    refine and_m_weds (fun M249 h1 h2 => ?_) h1 h2
                    exact hQ _ _ h1 h2
                  · replace h1 := h1.2 hc
                    replace h2 := h2.2 hc
                    exact hQ _ _ h1 h2
        · replace h1 := h1.2 hc
          replace h2 := h2.2 hc
          exact hQ _ _ h1 h2
      · replace h1 := h1.2 hc
        replace h2 := h2.2 hc
        refine and_m_throwsIf (fun r250 M251 h1 h2 => ?_) h1 h2
        refine ⟨fun hc => ?_, fun hc => ?_⟩
        · replace h1 := h1.1 hc
          replace h2 := h2.1 hc
          refine ⟨fun hc => ?_, fun hc => ?_⟩
          · replace h1 := h1.1 hc
            replace h2 := h2.1 hc
            refine and_m_throwsIf (fun r255 M256 h1 h2 => ?_) h1 h2
            refine ⟨fun hc => ?_, fun hc => ?_⟩
            · replace h1 := h1.1 hc
              replace h2 := h2.1 hc
              refine and_m_remembers (fun M259 h1 h2 => ?_) h1 h2
              refine and_m_weds (fun M261 h1 h2 => ?_) h1 h2
              exact hQ _ _ h1 h2
            · replace h1 := h1.2 hc
              replace h2 := h2.2 hc
              exact hQ _ _ h1 h2
          · replace h1 := h1.2 hc
            replace h2 := h2.2 hc
            refine ⟨fun hc => ?_, fun hc => ?_⟩
            · replace h1 := h1.1 hc
              replace h2 := h2.1 hc
              refine and_m_throwsIf (fun r264 M265 h1 h2 => ?_) h1 h2
              refine ⟨fun hc => ?_, fun hc => ?_⟩
              · replace h1 := h1.1 hc
                replace h2 := h2.1 hc
                refine and_m_remembers (fun M268 h1 h2 => ?_) h1 h2
                refine and_m_weds (fun M270 h1 h2 => ?_) h1 h2
                exact hQ _ _ h1 h2
              · replace h1 := h1.2 hc
                replace h2 := h2.2 hc
                exact hQ _ _ h1 h2
            · replace h1 := h1.2 hc
              replace h2 := h2.2 hc
              refine ⟨fun hc => ?_, fun hc => ?_⟩
              · replace h1 := h1.1 hc
                replace h2 := h2.1 hc
                refine and_m_throwsIf (fun r273 M274 h1 h2 => ?_) h1 h2
                refine ⟨fun hc => ?_, fun hc => ?_⟩
                · replace h1 := h1.1 hc
                  replace h2 := h2.1 hc
                  refine and_m_remembers (fun M277 h1 h2 => ?_) h1 h2
                  refine and_m_weds (fun M279 h1 h2 => ?_) h1 h2
                  exact hQ _ _ h1 h2
                · replace h1 := h1.2 hc
                  replace h2 := h2.2 hc
                  exact hQ _ _ h1 h2
              · replace h1 := h1.2 hc
                replace h2 := h2.2 hc
                refine ⟨fun hc => ?_, fun hc => ?_⟩
                · replace h1 := h1.1 hc
                  replace h2 := h2.1 hc
                  refine and_m_throwsIf (fun r282 M283 h1 h2 => ?_) h1 h2
                  refine ⟨fun hc => ?_, fun hc => ?_⟩
                  · replace h1 := h1.1 hc
                    replace h2 := h2.1 hc
                    refine and_m_remembers (fun M286 h1 h2 => ?_) h1 h2
                    refine and_m_weds (fun M288 h1 h2 => ?_) h1 h2
                    exact hQ _ _ h1 h2
                  · replace h1 := h1.2 hc
                    replace h2 := h2.2 hc
                    exact hQ _ _ h1 h2
                · replace h1 := h1.2 hc
                  replace h2 := h2.2 hc
                  refine and_m_throwsIf (fun r290 M291 h1 h2 => ?_) h1 h2
                  refine ⟨fun hc => ?_, fun hc => ?_⟩
                  · replace h1 := h1.1 hc
                    replace h2 := h2.1 hc
                    refine and_m_remembers (fun M294 h1 h2 => ?_) h1 h2
                    refine and_m_weds (fun M296 h1 h2 => ?_) h1 h2
                    exact hQ _ _ h1 h2
                  · replace h1 := h1.2 hc
                    replace h2 := h2.2 hc
                    exact hQ _ _ h1 h2
        · replace h1 := h1.2 hc
          replace h2 := h2.2 hc
          exact hQ _ _ h1 h2
    · replace h1 := h1.2 hc
      replace h2 := h2.2 hc
      exact hQ _ _ h1 h2
theorem and_m_baby_74 {p1 : Int32} {u2 : Int32} {k98a k98b k98c : MM → Prop} {Q1 Q2 Q3 : Int32 → MM → Prop} (hk98 : ∀  (M : MM), k98a M → k98b M → k98c M) (hQ : ∀ (r : Int32) (M1 : MM), Q1 r M1 → Q2 r M1 → Q3 r M1) : ∀ (N : Nat) (v3 : Int32) (M : MM), W_m_baby_74 p1 u2 k98a Q1 N v3 M → W_m_baby_74 p1 u2 k98b Q2 N v3 M → W_m_baby_74 p1 u2 k98c Q3 N v3 M := by
  intro N
  induction N with
  | zero => intros; trivial
  | succ N IH =>
    intro v3 M h1 h2
    replace h1 : B_m_baby_74 p1 u2 k98a Q1 N (W_m_baby_74 p1 u2 k98a Q1 N) v3 M := h1
    replace h2 : B_m_baby_74 p1 u2 k98b Q2 N (W_m_baby_74 p1 u2 k98b Q2 N) v3 M := h2
    show B_m_baby_74 p1 u2 k98c Q3 N (W_m_baby_74 p1 u2 k98c Q3 N) v3 M
    unfold B_m_baby_74 at h1 h2 ⊢
    refine ⟨fun hc => ?_, fun hc => ?_⟩
    · replace h1 := h1.1 hc
      replace h2 := h2.1 hc
      refine and_m_sets (fun M16 h1 h2 => ?_) h1 h2
      exact IH _ _ h1 h2
    · replace h1 := h1.2 hc
      replace h2 := h2.2 hc
      exact hk98 _ h1 h2
theorem and_m_baby {p1 : Int32} {N : Nat} {M : MM} {Q1 Q2 Q3 : Int32 → MM → Prop} (hQ : ∀ (r : Int32) (M1 : MM), Q1 r M1 → Q2 r M1 → Q3 r M1) (h1 : W_m_baby p1 N M Q1) (h2 : W_m_baby p1 N M Q2) : W_m_baby p1 N M Q3 := by
  unfold W_m_baby at h1 h2 ⊢
  refine and_m_throwsIf (fun r1 M2 h1 h2 => ?_) h1 h2
  refine ⟨fun hc => ?_, fun hc => ?_⟩
  · replace h1 := h1.1 hc
    replace h2 := h2.1 hc
    refine ⟨fun hc => ?_, fun hc => ?_⟩
    · replace h1 := h1.1 hc
      replace h2 := h2.1 hc
      refine and_m_throwsIf (fun r5 M6 h1 h2 => ?_) h1 h2
      refine ⟨fun hc => ?_, fun hc => ?_⟩
      · replace h1 := h1.1 hc
        replace h2 := h2.1 hc
        refine ⟨fun hc => ?_, fun hc => ?_⟩
        · replace h1 := h1.1 hc
          replace h2 := h2.1 hc
          refine and_m_throwsIf (fun r9 M10 h1 h2 => ?_) h1 h2
          refine ⟨fun hc => ?_, fun hc => ?_⟩
          · replace h1 := h1.1 hc
            replace h2 := h2.1 hc
            refine and_m_remembers (fun M13 h1 h2 => ?_) h1 h2
            refine and_m_baby_74 (fun M17 h1 h2 => ?_) hQ N _ _ h1 h2
            · refine and_m_sets (fun M19 h1 h2 => ?_) h1 h2
              refine and_m_sets (fun M21 h1 h2 => ?_) h1 h2
              refine and_m_sets (fun M23 h1 h2 => ?_) h1 h2
              refine and_m_sets (fun M25 h1 h2 => ?_) h1 h2
              exact hQ _ _ h1 h2
          · replace h1 := h1.2 hc
            replace h2 := h2.2 hc
            exact hQ _ _ h1 h2
        · replace h1 := h1.2 hc
          replace h2 := h2.2 hc
          refine and_m_throwsIf (fun r26 M27 h1 h2 => ?_) h1 h2
          refine ⟨fun hc => ?_, fun hc => ?_⟩
          · replace h1 := h1.1 hc
            replace h2 := h2.1 hc
            refine and_m_remembers (fun M30 h1 h2 => ?_) h1 h2
            refine and_m_baby_74 (fun M31 h1 h2 => ?_) hQ N _ _ h1 h2
            · refine and_m_sets (fun M33 h1 h2 => ?_) h1 h2
              refine and_m_sets (fun M35 h1 h2 => ?_) h1 h2
              refine and_m_sets (fun M37 h1 h2 => ?_) h1 h2
              refine and_m_sets (fun M39 h1 h2 => ?_) h1 h2
              exact hQ _ _ h1 h2
          · replace h1 := h1.2 hc
            replace h2 := h2.2 hc
            exact hQ _ _ h1 h2
      · replace h1 := h1.2 hc
        replace h2 := h2.2 hc
        exact hQ _ _ h1 h2
    · replace h1 := h1.2 hc
      replace h2 := h2.2 hc
      refine and_m_throwsIf (fun r40 M41 h1 h2 => ?_) h1 h2
      refine ⟨fun hc => ?_, fun hc => ?_⟩
      · replace h1 := h1.1 hc
        replace h2 := h2.1 hc
        refine ⟨fun hc => ?_, fun hc => ?_⟩
        · replace h1 := h1.1 hc
          replace h2 := h2.1 hc
          refine and_m_throwsIf (fun r44 M45 h1 h2 => ?_) h1 h2
          refine ⟨fun hc => ?_, fun hc => ?_⟩
          · replace h1 := h1.1 hc
            replace h2 := h2.1 hc
            refine and_m_remembers (fun M48 h1 h2 => ?_) h1 h2
            refine and_m_baby_74 (fun M49 h1 h2 => ?_) hQ N _ _ h1 h2
            · refine and_m_sets (fun M51 h1 h2 => ?_) h1 h2
              refine and_m_sets (fun M53 h1 h2 => ?_) h1 h2
              refine and_m_sets (fun M55 h1 h2 => ?_) h1 h2
              refine and_m_sets (fun M57 h1 h2 => ?_) h1 h2
              exact hQ _ _ h1 h2
          · replace h1 := h1.2 hc
            replace h2 := h2.2 hc
            exact hQ _ _ h1 h2
        · replace h1 := h1.2 hc
          replace h2 := h2.2 hc
          refine and_m_throwsIf (fun r58 M59 h1 h2 => ?_) h1 h2
          refine ⟨fun hc => ?_, fun hc => ?_⟩
          · replace h1 := h1.1 hc
            replace h2 := h2.1 hc
            refine and_m_remembers (fun M62 h1 h2 => ?_) h1 h2
            refine and_m_baby_74 (fun M63 h1 h2 => ?_) hQ N _ _ h1 h2
            · refine and_m_sets (fun M65 h1 h2 => ?_) h1 h2
              refine and_m_sets (fun M67 h1 h2 => ?_) h1 h2
              refine and_m_sets (fun M69 h1 h2 => ?_) h1 h2
              refine and_m_sets (fun M71 h1 h2 => ?_) h1 h2
              exact hQ _ _ h1 h2
          · replace h1 := h1.2 hc
            replace h2 := h2.2 hc
            exact hQ _ _ h1 h2
      · replace h1 := h1.2 hc
        replace h2 := h2.2 hc
        exact hQ _ _ h1 h2
  · replace h1 := h1.2 hc
    replace h2 := h2.2 hc
    exact hQ _ _ h1 h2
theorem and_m_release {p1 : Int32} {N : Nat} {M : MM} {Q1 Q2 Q3 : Int32 → MM → Prop} (hQ : ∀ (r : Int32) (M1 : MM), Q1 r M1 → Q2 r M1 → Q3 r M1) (h1 : W_m_release p1 N M Q1) (h2 : W_m_release p1 N M Q2) : W_m_release p1 N M Q3 := by
  unfold W_m_release at h1 h2 ⊢
  refine and_m_throwsIf (fun r1 M2 h1 h2 => ?_) h1 h2
  refine ⟨fun hc => ?_, fun hc => ?_⟩
  · replace h1 := h1.1 hc
    replace h2 := h2.1 hc
    refine ⟨fun hc => ?_, fun hc => ?_⟩
    · replace h1 := h1.1 hc
      replace h2 := h2.1 hc
      refine and_m_throwsIf (fun r5 M6 h1 h2 => ?_) h1 h2
      refine ⟨fun hc => ?_, fun hc => ?_⟩
      · replace h1 := h1.1 hc
        replace h2 := h2.1 hc
        refine and_m_remembers (fun M9 h1 h2 => ?_) h1 h2
        refine and_m_sets (fun M11 h1 h2 => ?_) h1 h2
        exact hQ _ _ h1 h2
      · replace h1 := h1.2 hc
        replace h2 := h2.2 hc
        exact hQ _ _ h1 h2
    · replace h1 := h1.2 hc
      replace h2 := h2.2 hc
      refine ⟨fun hc => ?_, fun hc => ?_⟩
      · replace h1 := h1.1 hc
        replace h2 := h2.1 hc
        refine and_m_throwsIf (fun r13 M14 h1 h2 => ?_) h1 h2
        refine ⟨fun hc => ?_, fun hc => ?_⟩
        · replace h1 := h1.1 hc
          replace h2 := h2.1 hc
          refine and_m_remembers (fun M17 h1 h2 => ?_) h1 h2
          refine and_m_sets (fun M19 h1 h2 => ?_) h1 h2
          exact hQ _ _ h1 h2
        · replace h1 := h1.2 hc
          replace h2 := h2.2 hc
          exact hQ _ _ h1 h2
      · replace h1 := h1.2 hc
        replace h2 := h2.2 hc
        refine and_m_throwsIf (fun r20 M21 h1 h2 => ?_) h1 h2
        refine ⟨fun hc => ?_, fun hc => ?_⟩
        · replace h1 := h1.1 hc
          replace h2 := h2.1 hc
          refine and_m_remembers (fun M24 h1 h2 => ?_) h1 h2
          refine and_m_sets (fun M26 h1 h2 => ?_) h1 h2
          exact hQ _ _ h1 h2
        · replace h1 := h1.2 hc
          replace h2 := h2.2 hc
          exact hQ _ _ h1 h2
  · replace h1 := h1.2 hc
    replace h2 := h2.2 hc
    exact hQ _ _ h1 h2
theorem and_m_keeps {p1 : Int32} {p2 : Int32} {N : Nat} {M : MM} {Q1 Q2 Q3 : Int32 → MM → Prop} (hQ : ∀ (r : Int32) (M1 : MM), Q1 r M1 → Q2 r M1 → Q3 r M1) (h1 : W_m_keeps p1 p2 N M Q1) (h2 : W_m_keeps p1 p2 N M Q2) : W_m_keeps p1 p2 N M Q3 := by
  unfold W_m_keeps at h1 h2 ⊢
  refine and_m_may (fun r1 M2 h1 h2 => ?_) h1 h2
  refine ⟨fun hc => ?_, fun hc => ?_⟩
  · replace h1 := h1.1 hc
    replace h2 := h2.1 hc
    exact hQ _ _ h1 h2
  · replace h1 := h1.2 hc
    replace h2 := h2.2 hc
    refine ⟨fun hc => ?_, fun hc => ?_⟩
    · replace h1 := h1.1 hc
      replace h2 := h2.1 hc
      exact hQ _ _ h1 h2
    · replace h1 := h1.2 hc
      replace h2 := h2.2 hc
      refine and_m_draw (fun r5 M6 h1 h2 => ?_) h1 h2
      refine ⟨fun hc => ?_, fun hc => ?_⟩
      · replace h1 := h1.1 hc
        replace h2 := h2.1 hc
        exact hQ _ _ h1 h2
      · replace h1 := h1.2 hc
        replace h2 := h2.2 hc
        exact hQ _ _ h1 h2
theorem and_m_isLogged_5 {p1 : Int32} {p2 : Int32} {p3 : Int32} {k41a k41b k41c : MM → Prop} {Q1 Q2 Q3 : MM → Prop} (hk41 : ∀  (M : MM), k41a M → k41b M → k41c M) (hQ : ∀  (M1 : MM), Q1 M1 → Q2 M1 → Q3 M1) : ∀ (N : Nat) (v4 : Int32) (M : MM), W_m_isLogged_5 p1 p2 p3 k41a Q1 N v4 M → W_m_isLogged_5 p1 p2 p3 k41b Q2 N v4 M → W_m_isLogged_5 p1 p2 p3 k41c Q3 N v4 M := by
  intro N
  induction N with
  | zero => intros; trivial
  | succ N IH =>
    intro v4 M h1 h2
    replace h1 : B_m_isLogged_5 p1 p2 p3 k41a Q1 N (W_m_isLogged_5 p1 p2 p3 k41a Q1 N) v4 M := h1
    replace h2 : B_m_isLogged_5 p1 p2 p3 k41b Q2 N (W_m_isLogged_5 p1 p2 p3 k41b Q2 N) v4 M := h2
    show B_m_isLogged_5 p1 p2 p3 k41c Q3 N (W_m_isLogged_5 p1 p2 p3 k41c Q3 N) v4 M
    unfold B_m_isLogged_5 at h1 h2 ⊢
    refine ⟨fun hc => ?_, fun hc => ?_⟩
    · replace h1 := h1.1 hc
      replace h2 := h2.1 hc
      exact hk41 _ h1 h2
    · replace h1 := h1.2 hc
      replace h2 := h2.2 hc
      exact IH _ _ h1 h2
theorem and_m_isLogged {p1 : Int32} {p2 : Int32} {p3 : Int32} {N : Nat} {M : MM} {Q1 Q2 Q3 : MM → Prop} (hQ : ∀  (M1 : MM), Q1 M1 → Q2 M1 → Q3 M1) (h1 : W_m_isLogged p1 p2 p3 N M Q1) (h2 : W_m_isLogged p1 p2 p3 N M Q2) : W_m_isLogged p1 p2 p3 N M Q3 := by
  unfold W_m_isLogged at h1 h2 ⊢
  refine and_m_isLogged_5 (fun M2 h1 h2 => ?_) hQ N _ _ h1 h2
  · exact hQ _ h1 h2
theorem and_m_breaks_74 {p1 : Int32} {p2 : Int32} {p3 : Int32} {Q1 Q2 Q3 : MM → Prop} (hQ : ∀  (M1 : MM), Q1 M1 → Q2 M1 → Q3 M1) : ∀ (N : Nat) (v4 : Int32) (M : MM), W_m_breaks_74 p1 p2 p3 Q1 N v4 M → W_m_breaks_74 p1 p2 p3 Q2 N v4 M → W_m_breaks_74 p1 p2 p3 Q3 N v4 M := by
  intro N
  induction N with
  | zero => intros; trivial
  | succ N IH =>
    intro v4 M h1 h2
    replace h1 : B_m_breaks_74 p1 p2 p3 Q1 N (W_m_breaks_74 p1 p2 p3 Q1 N) v4 M := h1
    replace h2 : B_m_breaks_74 p1 p2 p3 Q2 N (W_m_breaks_74 p1 p2 p3 Q2 N) v4 M := h2
    show B_m_breaks_74 p1 p2 p3 Q3 N (W_m_breaks_74 p1 p2 p3 Q3 N) v4 M
    unfold B_m_breaks_74 at h1 h2 ⊢
    refine ⟨fun hc => ?_, fun hc => ?_⟩
    · replace h1 := h1.1 hc
      replace h2 := h2.1 hc
      refine ⟨fun hc => ?_, fun hc => ?_⟩
      · replace h1 := h1.1 hc
        replace h2 := h2.1 hc
        exact IH _ _ h1 h2
      · replace h1 := h1.2 hc
        replace h2 := h2.2 hc
        refine ⟨fun hc => ?_, fun hc => ?_⟩
        · replace h1 := h1.1 hc
          replace h2 := h2.1 hc
          exact IH _ _ h1 h2
        · replace h1 := h1.2 hc
          replace h2 := h2.2 hc
          exact IH _ _ h1 h2
    · replace h1 := h1.2 hc
      replace h2 := h2.2 hc
      exact hQ _ h1 h2
theorem and_m_breaks {p1 : Int32} {p2 : Int32} {p3 : Int32} {N : Nat} {M : MM} {Q1 Q2 Q3 : MM → Prop} (hQ : ∀  (M1 : MM), Q1 M1 → Q2 M1 → Q3 M1) (h1 : W_m_breaks p1 p2 p3 N M Q1) (h2 : W_m_breaks p1 p2 p3 N M Q2) : W_m_breaks p1 p2 p3 N M Q3 := by
  unfold W_m_breaks at h1 h2 ⊢
  refine and_m_draw (fun r1 M2 h1 h2 => ?_) h1 h2
  refine ⟨fun hc => ?_, fun hc => ?_⟩
  · replace h1 := h1.1 hc
    replace h2 := h2.1 hc
    refine and_m_sets (fun M5 h1 h2 => ?_) h1 h2
    refine and_m_isLogged (fun M7 h1 h2 => ?_) h1 h2
    refine and_m_breaks_74  hQ N _ _ h1 h2
  · replace h1 := h1.2 hc
    replace h2 := h2.2 hc
    exact hQ _ h1 h2
theorem and_m_oneDay_12  {k97a k97b k97c : MM → Prop} {Q1 Q2 Q3 : MM → Prop} (hk97 : ∀  (M : MM), k97a M → k97b M → k97c M) (hQ : ∀  (M1 : MM), Q1 M1 → Q2 M1 → Q3 M1) : ∀ (N : Nat) (v1 : Int32) (M : MM), W_m_oneDay_12 k97a Q1 N v1 M → W_m_oneDay_12 k97b Q2 N v1 M → W_m_oneDay_12 k97c Q3 N v1 M := by
  intro N
  induction N with
  | zero => intros; trivial
  | succ N IH =>
    intro v1 M h1 h2
    replace h1 : B_m_oneDay_12 k97a Q1 N (W_m_oneDay_12 k97a Q1 N) v1 M := h1
    replace h2 : B_m_oneDay_12 k97b Q2 N (W_m_oneDay_12 k97b Q2 N) v1 M := h2
    show B_m_oneDay_12 k97c Q3 N (W_m_oneDay_12 k97c Q3 N) v1 M
    unfold B_m_oneDay_12 at h1 h2 ⊢
    refine ⟨fun hc => ?_, fun hc => ?_⟩
    · replace h1 := h1.1 hc
      replace h2 := h2.1 hc
      refine ⟨fun hc => ?_, fun hc => ?_⟩
      · replace h1 := h1.1 hc
        replace h2 := h2.1 hc
        exact IH _ _ h1 h2
      · replace h1 := h1.2 hc
        replace h2 := h2.2 hc
        refine ⟨fun hc => ?_, fun hc => ?_⟩
        · replace h1 := h1.1 hc
          replace h2 := h2.1 hc
          exact IH _ _ h1 h2
        · replace h1 := h1.2 hc
          replace h2 := h2.2 hc
          refine and_m_keeps (fun r4 M5 h1 h2 => ?_) h1 h2
          refine ⟨fun hc => ?_, fun hc => ?_⟩
          · replace h1 := h1.1 hc
            replace h2 := h2.1 hc
            exact IH _ _ h1 h2
          · replace h1 := h1.2 hc
            replace h2 := h2.2 hc
            exact IH _ _ h1 h2
    · replace h1 := h1.2 hc
      replace h2 := h2.2 hc
      exact hk97 _ h1 h2
theorem and_m_oneDay_104 {u1 : Int32} {k162a k162b k162c : MM → Prop} {Q1 Q2 Q3 : MM → Prop} (hk162 : ∀  (M : MM), k162a M → k162b M → k162c M) (hQ : ∀  (M1 : MM), Q1 M1 → Q2 M1 → Q3 M1) : ∀ (N : Nat) (v2 : Int32) (M : MM), W_m_oneDay_104 u1 k162a Q1 N v2 M → W_m_oneDay_104 u1 k162b Q2 N v2 M → W_m_oneDay_104 u1 k162c Q3 N v2 M := by
  intro N
  induction N with
  | zero => intros; trivial
  | succ N IH =>
    intro v2 M h1 h2
    replace h1 : B_m_oneDay_104 u1 k162a Q1 N (W_m_oneDay_104 u1 k162a Q1 N) v2 M := h1
    replace h2 : B_m_oneDay_104 u1 k162b Q2 N (W_m_oneDay_104 u1 k162b Q2 N) v2 M := h2
    show B_m_oneDay_104 u1 k162c Q3 N (W_m_oneDay_104 u1 k162c Q3 N) v2 M
    unfold B_m_oneDay_104 at h1 h2 ⊢
    refine ⟨fun hc => ?_, fun hc => ?_⟩
    · replace h1 := h1.1 hc
      replace h2 := h2.1 hc
      refine ⟨fun hc => ?_, fun hc => ?_⟩
      · replace h1 := h1.1 hc
        replace h2 := h2.1 hc
        exact IH _ _ h1 h2
      · replace h1 := h1.2 hc
        replace h2 := h2.2 hc
        refine and_m_forbidsNow (fun r13 M14 h1 h2 => ?_) h1 h2
        refine ⟨fun hc => ?_, fun hc => ?_⟩
        · replace h1 := h1.1 hc
          replace h2 := h2.1 hc
          exact IH _ _ h1 h2
        · replace h1 := h1.2 hc
          replace h2 := h2.2 hc
          refine and_m_breaks (fun M17 h1 h2 => ?_) h1 h2
          exact IH _ _ h1 h2
    · replace h1 := h1.2 hc
      replace h2 := h2.2 hc
      exact hk162 _ h1 h2
theorem and_m_oneDay_164  {Q1 Q2 Q3 : MM → Prop} (hQ : ∀  (M1 : MM), Q1 M1 → Q2 M1 → Q3 M1) : ∀ (N : Nat) (v2 : Int32) (M : MM), W_m_oneDay_164 Q1 N v2 M → W_m_oneDay_164 Q2 N v2 M → W_m_oneDay_164 Q3 N v2 M := by
  intro N
  induction N with
  | zero => intros; trivial
  | succ N IH =>
    intro v2 M h1 h2
    replace h1 : B_m_oneDay_164 Q1 N (W_m_oneDay_164 Q1 N) v2 M := h1
    replace h2 : B_m_oneDay_164 Q2 N (W_m_oneDay_164 Q2 N) v2 M := h2
    show B_m_oneDay_164 Q3 N (W_m_oneDay_164 Q3 N) v2 M
    unfold B_m_oneDay_164 at h1 h2 ⊢
    refine ⟨fun hc => ?_, fun hc => ?_⟩
    · replace h1 := h1.1 hc
      replace h2 := h2.1 hc
      refine ⟨fun hc => ?_, fun hc => ?_⟩
      · replace h1 := h1.1 hc
        replace h2 := h2.1 hc
        refine and_m_sets (fun M22 h1 h2 => ?_) h1 h2
        refine and_m_sets (fun M24 h1 h2 => ?_) h1 h2
        exact IH _ _ h1 h2
      · replace h1 := h1.2 hc
        replace h2 := h2.2 hc
        refine and_m_sets (fun M26 h1 h2 => ?_) h1 h2
        exact IH _ _ h1 h2
    · replace h1 := h1.2 hc
      replace h2 := h2.2 hc
      exact hQ _ h1 h2
theorem and_m_oneDay  {N : Nat} {M : MM} {Q1 Q2 Q3 : MM → Prop} (hQ : ∀  (M1 : MM), Q1 M1 → Q2 M1 → Q3 M1) (h1 : W_m_oneDay  N M Q1) (h2 : W_m_oneDay  N M Q2) : W_m_oneDay  N M Q3 := by
  unfold W_m_oneDay at h1 h2 ⊢
  refine and_m_oneDay_12 (fun M7 h1 h2 => ?_) hQ N _ _ h1 h2
  · refine and_m_inForce (fun r8 h1 h2 => ?_) h1 h2
    refine and_m_oneDay_104 (fun M18 h1 h2 => ?_) hQ N _ _ h1 h2
    · refine and_m_oneDay_164  hQ N _ _ h1 h2
theorem and_m_days_43 {p1 : Int32} {u2 : Int32} {Q1 Q2 Q3 : Int32 → MM → Prop} (hQ : ∀ (r : Int32) (M1 : MM), Q1 r M1 → Q2 r M1 → Q3 r M1) : ∀ (N : Nat) (v3 : Int32) (M : MM), W_m_days_43 p1 u2 Q1 N v3 M → W_m_days_43 p1 u2 Q2 N v3 M → W_m_days_43 p1 u2 Q3 N v3 M := by
  intro N
  induction N with
  | zero => intros; trivial
  | succ N IH =>
    intro v3 M h1 h2
    replace h1 : B_m_days_43 p1 u2 Q1 N (W_m_days_43 p1 u2 Q1 N) v3 M := h1
    replace h2 : B_m_days_43 p1 u2 Q2 N (W_m_days_43 p1 u2 Q2 N) v3 M := h2
    show B_m_days_43 p1 u2 Q3 N (W_m_days_43 p1 u2 Q3 N) v3 M
    unfold B_m_days_43 at h1 h2 ⊢
    refine ⟨fun hc => ?_, fun hc => ?_⟩
    · replace h1 := h1.1 hc
      replace h2 := h2.1 hc
      refine and_m_oneDay (fun M9 h1 h2 => ?_) h1 h2
      exact IH _ _ h1 h2
    · replace h1 := h1.2 hc
      replace h2 := h2.2 hc
      exact hQ _ _ h1 h2
theorem and_m_days {p1 : Int32} {N : Nat} {M : MM} {Q1 Q2 Q3 : Int32 → MM → Prop} (hQ : ∀ (r : Int32) (M1 : MM), Q1 r M1 → Q2 r M1 → Q3 r M1) (h1 : W_m_days p1 N M Q1) (h2 : W_m_days p1 N M Q2) : W_m_days p1 N M Q3 := by
  unfold W_m_days at h1 h2 ⊢
  refine ⟨fun hc => ?_, fun hc => ?_⟩
  · replace h1 := h1.1 hc
    replace h2 := h2.1 hc
    refine and_m_throwsIf (fun r2 M3 h1 h2 => ?_) h1 h2
    refine ⟨fun hc => ?_, fun hc => ?_⟩
    · replace h1 := h1.1 hc
      replace h2 := h2.1 hc
      refine and_m_remembers (fun M6 h1 h2 => ?_) h1 h2
      refine and_m_days_43  hQ N _ _ h1 h2
    · replace h1 := h1.2 hc
      replace h2 := h2.2 hc
      exact hQ _ _ h1 h2
  · replace h1 := h1.2 hc
    replace h2 := h2.2 hc
    refine and_m_throwsIf (fun r10 M11 h1 h2 => ?_) h1 h2
    refine ⟨fun hc => ?_, fun hc => ?_⟩
    · replace h1 := h1.1 hc
      replace h2 := h2.1 hc
      refine and_m_remembers (fun M14 h1 h2 => ?_) h1 h2
      refine and_m_days_43  hQ N _ _ h1 h2
    · replace h1 := h1.2 hc
      replace h2 := h2.2 hc
      exact hQ _ _ h1 h2
theorem and_m_nobody_36 {u1 : Int32} {u3 : Int32} {k82a k82b k82c : Int32 → MM → Prop} {Q1 Q2 Q3 : Int32 → MM → Prop} (hk82 : ∀ (v2 : Int32) (M : MM), k82a v2 M → k82b v2 M → k82c v2 M) (hQ : ∀ (r : Int32) (M1 : MM), Q1 r M1 → Q2 r M1 → Q3 r M1) : ∀ (N : Nat) (v2 : Int32) (v4 : Int32) (M : MM), W_m_nobody_36 u1 u3 k82a Q1 N v2 v4 M → W_m_nobody_36 u1 u3 k82b Q2 N v2 v4 M → W_m_nobody_36 u1 u3 k82c Q3 N v2 v4 M := by
  intro N
  induction N with
  | zero => intros; trivial
  | succ N IH =>
    intro v2 v4 M h1 h2
    replace h1 : B_m_nobody_36 u1 u3 k82a Q1 N (W_m_nobody_36 u1 u3 k82a Q1 N) v2 v4 M := h1
    replace h2 : B_m_nobody_36 u1 u3 k82b Q2 N (W_m_nobody_36 u1 u3 k82b Q2 N) v2 v4 M := h2
    show B_m_nobody_36 u1 u3 k82c Q3 N (W_m_nobody_36 u1 u3 k82c Q3 N) v2 v4 M
    unfold B_m_nobody_36 at h1 h2 ⊢
    refine ⟨fun hc => ?_, fun hc => ?_⟩
    · replace h1 := h1.1 hc
      replace h2 := h2.1 hc
      refine ⟨fun hc => ?_, fun hc => ?_⟩
      · replace h1 := h1.1 hc
        replace h2 := h2.1 hc
        exact IH _ _ _ h1 h2
      · replace h1 := h1.2 hc
        replace h2 := h2.2 hc
        refine and_m_forbidsNow (fun r9 M10 h1 h2 => ?_) h1 h2
        refine ⟨fun hc => ?_, fun hc => ?_⟩
        · replace h1 := h1.1 hc
          replace h2 := h2.1 hc
          exact IH _ _ _ h1 h2
        · replace h1 := h1.2 hc
          replace h2 := h2.2 hc
          exact IH _ _ _ h1 h2
    · replace h1 := h1.2 hc
      replace h2 := h2.2 hc
      exact hk82 _ _ h1 h2
theorem and_m_nobody_27 {u1 : Int32} {Q1 Q2 Q3 : Int32 → MM → Prop} (hQ : ∀ (r : Int32) (M1 : MM), Q1 r M1 → Q2 r M1 → Q3 r M1) : ∀ (N : Nat) (v2 : Int32) (v3 : Int32) (M : MM), W_m_nobody_27 u1 Q1 N v2 v3 M → W_m_nobody_27 u1 Q2 N v2 v3 M → W_m_nobody_27 u1 Q3 N v2 v3 M := by
  intro N
  induction N with
  | zero => intros; trivial
  | succ N IH =>
    intro v2 v3 M h1 h2
    replace h1 : B_m_nobody_27 u1 Q1 N (W_m_nobody_27 u1 Q1 N) v2 v3 M := h1
    replace h2 : B_m_nobody_27 u1 Q2 N (W_m_nobody_27 u1 Q2 N) v2 v3 M := h2
    show B_m_nobody_27 u1 Q3 N (W_m_nobody_27 u1 Q3 N) v2 v3 M
    unfold B_m_nobody_27 at h1 h2 ⊢
    refine ⟨fun hc => ?_, fun hc => ?_⟩
    · replace h1 := h1.1 hc
      replace h2 := h2.1 hc
      refine and_m_nobody_36 (fun x12 M13 h1 h2 => ?_) hQ N _ _ _ h1 h2
      · exact IH _ _ _ h1 h2
    · replace h1 := h1.2 hc
      replace h2 := h2.2 hc
      exact hQ _ _ h1 h2
theorem and_m_nobody  {N : Nat} {M : MM} {Q1 Q2 Q3 : Int32 → MM → Prop} (hQ : ∀ (r : Int32) (M1 : MM), Q1 r M1 → Q2 r M1 → Q3 r M1) (h1 : W_m_nobody  N M Q1) (h2 : W_m_nobody  N M Q2) : W_m_nobody  N M Q3 := by
  unfold W_m_nobody at h1 h2 ⊢
  refine and_m_inForce (fun r1 h1 h2 => ?_) h1 h2
  refine and_m_alive (fun r3 h1 h2 => ?_) h1 h2
  refine ⟨fun hc => ?_, fun hc => ?_⟩
  · replace h1 := h1.1 hc
    replace h2 := h2.1 hc
    refine and_m_nobody_27  hQ N _ _ _ h1 h2
  · replace h1 := h1.2 hc
    replace h2 := h2.2 hc
    refine and_m_nobody_27  hQ N _ _ _ h1 h2
theorem and_m_relief_7  {k32a k32b k32c : MM → Prop} {Q1 Q2 Q3 : Int32 → MM → Prop} (hk32 : ∀  (M : MM), k32a M → k32b M → k32c M) (hQ : ∀ (r : Int32) (M1 : MM), Q1 r M1 → Q2 r M1 → Q3 r M1) : ∀ (N : Nat) (v1 : Int32) (M : MM), W_m_relief_7 k32a Q1 N v1 M → W_m_relief_7 k32b Q2 N v1 M → W_m_relief_7 k32c Q3 N v1 M := by
  intro N
  induction N with
  | zero => intros; trivial
  | succ N IH =>
    intro v1 M h1 h2
    replace h1 : B_m_relief_7 k32a Q1 N (W_m_relief_7 k32a Q1 N) v1 M := h1
    replace h2 : B_m_relief_7 k32b Q2 N (W_m_relief_7 k32b Q2 N) v1 M := h2
    show B_m_relief_7 k32c Q3 N (W_m_relief_7 k32c Q3 N) v1 M
    unfold B_m_relief_7 at h1 h2 ⊢
    refine ⟨fun hc => ?_, fun hc => ?_⟩
    · replace h1 := h1.1 hc
      replace h2 := h2.1 hc
      refine and_m_contradicting (fun r2 M3 h1 h2 => ?_) h1 h2
      exact IH _ _ h1 h2
    · replace h1 := h1.2 hc
      replace h2 := h2.2 hc
      exact hk32 _ h1 h2
theorem and_m_relief_66 {u1 : Int32} {u2 : Int32} {M : MM} {k114a k114b k114c : Int32 → Prop} {Q1 Q2 Q3 : Int32 → MM → Prop} (hk114 : ∀ (v3 : Int32), k114a v3 → k114b v3 → k114c v3) (hQ : ∀ (r : Int32) (M1 : MM), Q1 r M1 → Q2 r M1 → Q3 r M1) : ∀ (N : Nat) (v3 : Int32) (v4 : Int32), W_m_relief_66 u1 u2 M k114a Q1 N v3 v4 → W_m_relief_66 u1 u2 M k114b Q2 N v3 v4 → W_m_relief_66 u1 u2 M k114c Q3 N v3 v4 := by
  intro N
  induction N with
  | zero => intros; trivial
  | succ N IH =>
    intro v3 v4 h1 h2
    replace h1 : B_m_relief_66 u1 u2 M k114a Q1 N (W_m_relief_66 u1 u2 M k114a Q1 N) v3 v4 := h1
    replace h2 : B_m_relief_66 u1 u2 M k114b Q2 N (W_m_relief_66 u1 u2 M k114b Q2 N) v3 v4 := h2
    show B_m_relief_66 u1 u2 M k114c Q3 N (W_m_relief_66 u1 u2 M k114c Q3 N) v3 v4
    unfold B_m_relief_66 at h1 h2 ⊢
    refine ⟨fun hc => ?_, fun hc => ?_⟩
    · replace h1 := h1.1 hc
      replace h2 := h2.1 hc
      refine ⟨fun hc => ?_, fun hc => ?_⟩
      · replace h1 := h1.1 hc
        replace h2 := h2.1 hc
        exact IH _ _ h1 h2
      · replace h1 := h1.2 hc
        replace h2 := h2.2 hc
        refine ⟨fun hc => ?_, fun hc => ?_⟩
        · replace h1 := h1.1 hc
          replace h2 := h2.1 hc
          refine ⟨fun hc => ?_, fun hc => ?_⟩
          · replace h1 := h1.1 hc
            replace h2 := h2.1 hc
            exact IH _ _ h1 h2
          · replace h1 := h1.2 hc
            replace h2 := h2.2 hc
            exact IH _ _ h1 h2
        · replace h1 := h1.2 hc
          replace h2 := h2.2 hc
          exact IH _ _ h1 h2
    · replace h1 := h1.2 hc
      replace h2 := h2.2 hc
      exact hk114 _ h1 h2
theorem and_m_relief_43 {M : MM} {Q1 Q2 Q3 : Int32 → MM → Prop} (hQ : ∀ (r : Int32) (M1 : MM), Q1 r M1 → Q2 r M1 → Q3 r M1) : ∀ (N : Nat) (v1 : Int32) (v2 : Int32), W_m_relief_43 M Q1 N v1 v2 → W_m_relief_43 M Q2 N v1 v2 → W_m_relief_43 M Q3 N v1 v2 := by
  intro N
  induction N with
  | zero => intros; trivial
  | succ N IH =>
    intro v1 v2 h1 h2
    replace h1 : B_m_relief_43 M Q1 N (W_m_relief_43 M Q1 N) v1 v2 := h1
    replace h2 : B_m_relief_43 M Q2 N (W_m_relief_43 M Q2 N) v1 v2 := h2
    show B_m_relief_43 M Q3 N (W_m_relief_43 M Q3 N) v1 v2
    unfold B_m_relief_43 at h1 h2 ⊢
    refine ⟨fun hc => ?_, fun hc => ?_⟩
    · replace h1 := h1.1 hc
      replace h2 := h2.1 hc
      exact hQ _ _ h1 h2
    · replace h1 := h1.2 hc
      replace h2 := h2.2 hc
      refine ⟨fun hc => ?_, fun hc => ?_⟩
      · replace h1 := h1.1 hc
        replace h2 := h2.1 hc
        exact IH _ _ h1 h2
      · replace h1 := h1.2 hc
        replace h2 := h2.2 hc
        refine and_m_relief_66 (fun x11 h1 h2 => ?_) hQ N _ _ h1 h2
        · refine ⟨fun hc => ?_, fun hc => ?_⟩
          · replace h1 := h1.1 hc
            replace h2 := h2.1 hc
            exact IH _ _ h1 h2
          · replace h1 := h1.2 hc
            replace h2 := h2.2 hc
            exact IH _ _ h1 h2
theorem and_m_relief  {N : Nat} {M : MM} {Q1 Q2 Q3 : Int32 → MM → Prop} (hQ : ∀ (r : Int32) (M1 : MM), Q1 r M1 → Q2 r M1 → Q3 r M1) (h1 : W_m_relief  N M Q1) (h2 : W_m_relief  N M Q2) : W_m_relief  N M Q3 := by
  unfold W_m_relief at h1 h2 ⊢
  refine and_m_relief_7 (fun M4 h1 h2 => ?_) hQ N _ _ h1 h2
  · refine and_m_relief_43  hQ N _ _ h1 h2
theorem and_m_isWatched_21 {M : MM} {Q1 Q2 Q3 : Int32 → MM → Prop} (hQ : ∀ (r : Int32) (M1 : MM), Q1 r M1 → Q2 r M1 → Q3 r M1) : ∀ (N : Nat) (v1 : Int32) (v2 : Int32), W_m_isWatched_21 M Q1 N v1 v2 → W_m_isWatched_21 M Q2 N v1 v2 → W_m_isWatched_21 M Q3 N v1 v2 := by
  intro N
  induction N with
  | zero => intros; trivial
  | succ N IH =>
    intro v1 v2 h1 h2
    replace h1 : B_m_isWatched_21 M Q1 N (W_m_isWatched_21 M Q1 N) v1 v2 := h1
    replace h2 : B_m_isWatched_21 M Q2 N (W_m_isWatched_21 M Q2 N) v1 v2 := h2
    show B_m_isWatched_21 M Q3 N (W_m_isWatched_21 M Q3 N) v1 v2
    unfold B_m_isWatched_21 at h1 h2 ⊢
    refine ⟨fun hc => ?_, fun hc => ?_⟩
    · replace h1 := h1.1 hc
      replace h2 := h2.1 hc
      refine ⟨fun hc => ?_, fun hc => ?_⟩
      · replace h1 := h1.1 hc
        replace h2 := h2.1 hc
        exact hQ _ _ h1 h2
      · replace h1 := h1.2 hc
        replace h2 := h2.2 hc
        refine ⟨fun hc => ?_, fun hc => ?_⟩
        · replace h1 := h1.1 hc
          replace h2 := h2.1 hc
          refine ⟨fun hc => ?_, fun hc => ?_⟩
          · replace h1 := h1.1 hc
            replace h2 := h2.1 hc
            exact IH _ _ h1 h2
          · replace h1 := h1.2 hc
            replace h2 := h2.2 hc
            refine ⟨fun hc => ?_, fun hc => ?_⟩
            · replace h1 := h1.1 hc
              replace h2 := h2.1 hc
              refine ⟨fun hc => ?_, fun hc => ?_⟩
              · replace h1 := h1.1 hc
                replace h2 := h2.1 hc
                exact IH _ _ h1 h2
              · replace h1 := h1.2 hc
                replace h2 := h2.2 hc
                exact IH _ _ h1 h2
            · replace h1 := h1.2 hc
              replace h2 := h2.2 hc
              exact IH _ _ h1 h2
        · replace h1 := h1.2 hc
          replace h2 := h2.2 hc
          exact IH _ _ h1 h2
    · replace h1 := h1.2 hc
      replace h2 := h2.2 hc
      exact hQ _ _ h1 h2
theorem and_m_isWatched  {N : Nat} {M : MM} {Q1 Q2 Q3 : Int32 → MM → Prop} (hQ : ∀ (r : Int32) (M1 : MM), Q1 r M1 → Q2 r M1 → Q3 r M1) (h1 : W_m_isWatched  N M Q1) (h2 : W_m_isWatched  N M Q2) : W_m_isWatched  N M Q3 := by
  unfold W_m_isWatched at h1 h2 ⊢
  refine and_m_uses (fun M2 h1 h2 => ?_) h1 h2
  refine ⟨fun hc => ?_, fun hc => ?_⟩
  · replace h1 := h1.1 hc
    replace h2 := h2.1 hc
    refine and_m_isWatched_21  hQ N _ _ h1 h2
  · replace h1 := h1.2 hc
    replace h2 := h2.2 hc
    refine and_m_isWatched_21  hQ N _ _ h1 h2
theorem and_m_nevers_4 {M : MM} {Q1 Q2 Q3 : Int32 → Prop} (hQ : ∀ (r : Int32), Q1 r → Q2 r → Q3 r) : ∀ (N : Nat) (v1 : Int32) (v2 : Int32), W_m_nevers_4 M Q1 N v1 v2 → W_m_nevers_4 M Q2 N v1 v2 → W_m_nevers_4 M Q3 N v1 v2 := by
  intro N
  induction N with
  | zero => intros; trivial
  | succ N IH =>
    intro v1 v2 h1 h2
    replace h1 : B_m_nevers_4 M Q1 N (W_m_nevers_4 M Q1 N) v1 v2 := h1
    replace h2 : B_m_nevers_4 M Q2 N (W_m_nevers_4 M Q2 N) v1 v2 := h2
    show B_m_nevers_4 M Q3 N (W_m_nevers_4 M Q3 N) v1 v2
    unfold B_m_nevers_4 at h1 h2 ⊢
    refine ⟨fun hc => ?_, fun hc => ?_⟩
    · replace h1 := h1.1 hc
      replace h2 := h2.1 hc
      refine ⟨fun hc => ?_, fun hc => ?_⟩
      · replace h1 := h1.1 hc
        replace h2 := h2.1 hc
        exact IH _ _ h1 h2
      · replace h1 := h1.2 hc
        replace h2 := h2.2 hc
        exact IH _ _ h1 h2
    · replace h1 := h1.2 hc
      replace h2 := h2.2 hc
      exact hQ _ h1 h2
theorem and_m_nevers  {N : Nat} {M : MM} {Q1 Q2 Q3 : Int32 → Prop} (hQ : ∀ (r : Int32), Q1 r → Q2 r → Q3 r) (h1 : W_m_nevers  N M Q1) (h2 : W_m_nevers  N M Q2) : W_m_nevers  N M Q3 := by
  unfold W_m_nevers at h1 h2 ⊢
  refine and_m_nevers_4  hQ N _ _ h1 h2
theorem and_m_laysWatched_2  {Q1 Q2 Q3 : MM → Prop} (hQ : ∀  (M1 : MM), Q1 M1 → Q2 M1 → Q3 M1) : ∀ (N : Nat) (v1 : Int32) (M : MM), W_m_laysWatched_2 Q1 N v1 M → W_m_laysWatched_2 Q2 N v1 M → W_m_laysWatched_2 Q3 N v1 M := by
  intro N
  induction N with
  | zero => intros; trivial
  | succ N IH =>
    intro v1 M h1 h2
    replace h1 : B_m_laysWatched_2 Q1 N (W_m_laysWatched_2 Q1 N) v1 M := h1
    replace h2 : B_m_laysWatched_2 Q2 N (W_m_laysWatched_2 Q2 N) v1 M := h2
    show B_m_laysWatched_2 Q3 N (W_m_laysWatched_2 Q3 N) v1 M
    unfold B_m_laysWatched_2 at h1 h2 ⊢
    refine ⟨fun hc => ?_, fun hc => ?_⟩
    · replace h1 := h1.1 hc
      replace h2 := h2.1 hc
      refine and_m_nevers (fun r2 h1 h2 => ?_) h1 h2
      refine and_m_forbidsNow (fun r4 M5 h1 h2 => ?_) h1 h2
      exact IH _ _ h1 h2
    · replace h1 := h1.2 hc
      replace h2 := h2.2 hc
      exact hQ _ h1 h2
theorem and_m_laysWatched  {N : Nat} {M : MM} {Q1 Q2 Q3 : MM → Prop} (hQ : ∀  (M1 : MM), Q1 M1 → Q2 M1 → Q3 M1) (h1 : W_m_laysWatched  N M Q1) (h2 : W_m_laysWatched  N M Q2) : W_m_laysWatched  N M Q3 := by
  unfold W_m_laysWatched at h1 h2 ⊢
  refine and_m_laysWatched_2  hQ N _ _ h1 h2
theorem and_m_isCode_19 {p1 : Int32} {M : MM} {Q1 Q2 Q3 : Int32 → Prop} (hQ : ∀ (r : Int32), Q1 r → Q2 r → Q3 r) : ∀ (N : Nat) (v2 : Int32) (v3 : Int32), W_m_isCode_19 p1 M Q1 N v2 v3 → W_m_isCode_19 p1 M Q2 N v2 v3 → W_m_isCode_19 p1 M Q3 N v2 v3 := by
  intro N
  induction N with
  | zero => intros; trivial
  | succ N IH =>
    intro v2 v3 h1 h2
    replace h1 : B_m_isCode_19 p1 M Q1 N (W_m_isCode_19 p1 M Q1 N) v2 v3 := h1
    replace h2 : B_m_isCode_19 p1 M Q2 N (W_m_isCode_19 p1 M Q2 N) v2 v3 := h2
    show B_m_isCode_19 p1 M Q3 N (W_m_isCode_19 p1 M Q3 N) v2 v3
    unfold B_m_isCode_19 at h1 h2 ⊢
    refine ⟨fun hc => ?_, fun hc => ?_⟩
    · replace h1 := h1.1 hc
      replace h2 := h2.1 hc
      refine ⟨fun hc => ?_, fun hc => ?_⟩
      · replace h1 := h1.1 hc
        replace h2 := h2.1 hc
        exact hQ _ h1 h2
      · replace h1 := h1.2 hc
        replace h2 := h2.2 hc
        refine ⟨fun hc => ?_, fun hc => ?_⟩
        · replace h1 := h1.1 hc
          replace h2 := h2.1 hc
          refine ⟨fun hc => ?_, fun hc => ?_⟩
          · replace h1 := h1.1 hc
            replace h2 := h2.1 hc
            exact IH _ _ h1 h2
          · replace h1 := h1.2 hc
            replace h2 := h2.2 hc
            exact IH _ _ h1 h2
        · replace h1 := h1.2 hc
          replace h2 := h2.2 hc
          refine ⟨fun hc => ?_, fun hc => ?_⟩
          · replace h1 := h1.1 hc
            replace h2 := h2.1 hc
            exact IH _ _ h1 h2
          · replace h1 := h1.2 hc
            replace h2 := h2.2 hc
            exact IH _ _ h1 h2
    · replace h1 := h1.2 hc
      replace h2 := h2.2 hc
      exact hQ _ h1 h2
theorem and_m_isCode {p1 : Int32} {N : Nat} {M : MM} {Q1 Q2 Q3 : Int32 → Prop} (hQ : ∀ (r : Int32), Q1 r → Q2 r → Q3 r) (h1 : W_m_isCode p1 N M Q1) (h2 : W_m_isCode p1 N M Q2) : W_m_isCode p1 N M Q3 := by
  unfold W_m_isCode at h1 h2 ⊢
  refine and_m_nevers (fun r1 h1 h2 => ?_) h1 h2
  refine ⟨fun hc => ?_, fun hc => ?_⟩
  · replace h1 := h1.1 hc
    replace h2 := h2.1 hc
    refine and_m_isCode_19  hQ N _ _ h1 h2
  · replace h1 := h1.2 hc
    replace h2 := h2.2 hc
    refine and_m_isCode_19  hQ N _ _ h1 h2
theorem and_m_read_68 {p1 : Int32} {M : MM} {Q1 Q2 Q3 : Int32 → MM → Prop} (hQ : ∀ (r : Int32) (M1 : MM), Q1 r M1 → Q2 r M1 → Q3 r M1) : ∀ (N : Nat) (v3 : Int32) (v4 : Int32) (v5 : Int32) (v6 : Int32), W_m_read_68 p1 M Q1 N v3 v4 v5 v6 → W_m_read_68 p1 M Q2 N v3 v4 v5 v6 → W_m_read_68 p1 M Q3 N v3 v4 v5 v6 := by
  intro N
  induction N with
  | zero => intros; trivial
  | succ N IH =>
    intro v3 v4 v5 v6 h1 h2
    replace h1 : B_m_read_68 p1 M Q1 N (W_m_read_68 p1 M Q1 N) v3 v4 v5 v6 := h1
    replace h2 : B_m_read_68 p1 M Q2 N (W_m_read_68 p1 M Q2 N) v3 v4 v5 v6 := h2
    show B_m_read_68 p1 M Q3 N (W_m_read_68 p1 M Q3 N) v3 v4 v5 v6
    unfold B_m_read_68 at h1 h2 ⊢
    refine ⟨fun hc => ?_, fun hc => ?_⟩
    · replace h1 := h1.1 hc
      replace h2 := h2.1 hc
      refine and_m_isCode (fun r14 h1 h2 => ?_) h1 h2
      refine ⟨fun hc => ?_, fun hc => ?_⟩
      · replace h1 := h1.1 hc
        replace h2 := h2.1 hc
        exact IH _ _ _ _ h1 h2
      · replace h1 := h1.2 hc
        replace h2 := h2.2 hc
        exact IH _ _ _ _ h1 h2
    · replace h1 := h1.2 hc
      replace h2 := h2.2 hc
      refine ⟨fun hc => ?_, fun hc => ?_⟩
      · replace h1 := h1.1 hc
        replace h2 := h2.1 hc
        exact hQ _ _ h1 h2
      · replace h1 := h1.2 hc
        replace h2 := h2.2 hc
        refine ⟨fun hc => ?_, fun hc => ?_⟩
        · replace h1 := h1.1 hc
          replace h2 := h2.1 hc
          exact hQ _ _ h1 h2
        · replace h1 := h1.2 hc
          replace h2 := h2.2 hc
          refine ⟨fun hc => ?_, fun hc => ?_⟩
          · replace h1 := h1.1 hc
            replace h2 := h2.1 hc
            exact hQ _ _ h1 h2
          · replace h1 := h1.2 hc
            replace h2 := h2.2 hc
            exact hQ _ _ h1 h2
theorem and_m_read {p1 : Int32} {N : Nat} {M : MM} {Q1 Q2 Q3 : Int32 → MM → Prop} (hQ : ∀ (r : Int32) (M1 : MM), Q1 r M1 → Q2 r M1 → Q3 r M1) (h1 : W_m_read p1 N M Q1) (h2 : W_m_read p1 N M Q2) : W_m_read p1 N M Q3 := by
  unfold W_m_read at h1 h2 ⊢
  refine and_m_isWatched (fun r1 M2 h1 h2 => ?_) h1 h2
  refine ⟨fun hc => ?_, fun hc => ?_⟩
  · replace h1 := h1.1 hc
    replace h2 := h2.1 hc
    refine and_m_throwsIf (fun r4 M5 h1 h2 => ?_) h1 h2
    refine ⟨fun hc => ?_, fun hc => ?_⟩
    · replace h1 := h1.1 hc
      replace h2 := h2.1 hc
      refine ⟨fun hc => ?_, fun hc => ?_⟩
      · replace h1 := h1.1 hc
        replace h2 := h2.1 hc
        refine and_m_throwsIf (fun r8 M9 h1 h2 => ?_) h1 h2
        refine ⟨fun hc => ?_, fun hc => ?_⟩
        · replace h1 := h1.1 hc
          replace h2 := h2.1 hc
          refine and_m_laysWatched (fun M12 h1 h2 => ?_) h1 h2
          refine and_m_read_68  hQ N _ _ _ _ h1 h2
        · replace h1 := h1.2 hc
          replace h2 := h2.2 hc
          exact hQ _ _ h1 h2
      · replace h1 := h1.2 hc
        replace h2 := h2.2 hc
        refine and_m_throwsIf (fun r20 M21 h1 h2 => ?_) h1 h2
        refine ⟨fun hc => ?_, fun hc => ?_⟩
        · replace h1 := h1.1 hc
          replace h2 := h2.1 hc
          refine and_m_laysWatched (fun M24 h1 h2 => ?_) h1 h2
          refine and_m_read_68  hQ N _ _ _ _ h1 h2
        · replace h1 := h1.2 hc
          replace h2 := h2.2 hc
          exact hQ _ _ h1 h2
    · replace h1 := h1.2 hc
      replace h2 := h2.2 hc
      exact hQ _ _ h1 h2
  · replace h1 := h1.2 hc
    replace h2 := h2.2 hc
    refine and_m_throwsIf (fun r25 M26 h1 h2 => ?_) h1 h2
    refine ⟨fun hc => ?_, fun hc => ?_⟩
    · replace h1 := h1.1 hc
      replace h2 := h2.1 hc
      refine ⟨fun hc => ?_, fun hc => ?_⟩
      · replace h1 := h1.1 hc
        replace h2 := h2.1 hc
        refine and_m_throwsIf (fun r29 M30 h1 h2 => ?_) h1 h2
        refine ⟨fun hc => ?_, fun hc => ?_⟩
        · replace h1 := h1.1 hc
          replace h2 := h2.1 hc
          refine and_m_laysWatched (fun M33 h1 h2 => ?_) h1 h2
          refine and_m_read_68  hQ N _ _ _ _ h1 h2
        · replace h1 := h1.2 hc
          replace h2 := h2.2 hc
          exact hQ _ _ h1 h2
      · replace h1 := h1.2 hc
        replace h2 := h2.2 hc
        refine and_m_throwsIf (fun r34 M35 h1 h2 => ?_) h1 h2
        refine ⟨fun hc => ?_, fun hc => ?_⟩
        · replace h1 := h1.1 hc
          replace h2 := h2.1 hc
          refine and_m_laysWatched (fun M38 h1 h2 => ?_) h1 h2
          refine and_m_read_68  hQ N _ _ _ _ h1 h2
        · replace h1 := h1.2 hc
          replace h2 := h2.2 hc
          exact hQ _ _ h1 h2
    · replace h1 := h1.2 hc
      replace h2 := h2.2 hc
      exact hQ _ _ h1 h2
theorem and_m_next_64 {p1 : Int32} {k99a k99b k99c : MM → Prop} {Q1 Q2 Q3 : Int32 → MM → Prop} (hk99 : ∀  (M : MM), k99a M → k99b M → k99c M) (hQ : ∀ (r : Int32) (M1 : MM), Q1 r M1 → Q2 r M1 → Q3 r M1) : ∀ (N : Nat) (v3 : Int32) (M : MM), W_m_next_64 p1 k99a Q1 N v3 M → W_m_next_64 p1 k99b Q2 N v3 M → W_m_next_64 p1 k99c Q3 N v3 M := by
  intro N
  induction N with
  | zero => intros; trivial
  | succ N IH =>
    intro v3 M h1 h2
    replace h1 : B_m_next_64 p1 k99a Q1 N (W_m_next_64 p1 k99a Q1 N) v3 M := h1
    replace h2 : B_m_next_64 p1 k99b Q2 N (W_m_next_64 p1 k99b Q2 N) v3 M := h2
    show B_m_next_64 p1 k99c Q3 N (W_m_next_64 p1 k99c Q3 N) v3 M
    unfold B_m_next_64 at h1 h2 ⊢
    refine ⟨fun hc => ?_, fun hc => ?_⟩
    · replace h1 := h1.1 hc
      replace h2 := h2.1 hc
      refine and_m_nevers (fun r17 h1 h2 => ?_) h1 h2
      refine and_m_forbidsNow (fun r19 M20 h1 h2 => ?_) h1 h2
      exact IH _ _ h1 h2
    · replace h1 := h1.2 hc
      replace h2 := h2.2 hc
      exact hk99 _ h1 h2
theorem and_m_next_133 {p1 : Int32} {u3 : Int32} {u4 : Int32} {k174a k174b k174c : MM → Prop} {Q1 Q2 Q3 : Int32 → MM → Prop} (hk174 : ∀  (M : MM), k174a M → k174b M → k174c M) (hQ : ∀ (r : Int32) (M1 : MM), Q1 r M1 → Q2 r M1 → Q3 r M1) : ∀ (N : Nat) (v5 : Int32) (M : MM), W_m_next_133 p1 u3 u4 k174a Q1 N v5 M → W_m_next_133 p1 u3 u4 k174b Q2 N v5 M → W_m_next_133 p1 u3 u4 k174c Q3 N v5 M := by
  intro N
  induction N with
  | zero => intros; trivial
  | succ N IH =>
    intro v5 M h1 h2
    replace h1 : B_m_next_133 p1 u3 u4 k174a Q1 N (W_m_next_133 p1 u3 u4 k174a Q1 N) v5 M := h1
    replace h2 : B_m_next_133 p1 u3 u4 k174b Q2 N (W_m_next_133 p1 u3 u4 k174b Q2 N) v5 M := h2
    show B_m_next_133 p1 u3 u4 k174c Q3 N (W_m_next_133 p1 u3 u4 k174c Q3 N) v5 M
    unfold B_m_next_133 at h1 h2 ⊢
    refine ⟨fun hc => ?_, fun hc => ?_⟩
    · replace h1 := h1.1 hc
      replace h2 := h2.1 hc
      refine ⟨fun hc => ?_, fun hc => ?_⟩
      · replace h1 := h1.1 hc
        replace h2 := h2.1 hc
        exact IH _ _ h1 h2
      · replace h1 := h1.2 hc
        replace h2 := h2.2 hc
        exact IH _ _ h1 h2
    · replace h1 := h1.2 hc
      replace h2 := h2.2 hc
      exact hk174 _ h1 h2
theorem and_m_next_104 {p1 : Int32} {k180a k180b k180c : Int32 → MM → Prop} {Q1 Q2 Q3 : Int32 → MM → Prop} (hk180 : ∀ (v3 : Int32) (M : MM), k180a v3 M → k180b v3 M → k180c v3 M) (hQ : ∀ (r : Int32) (M1 : MM), Q1 r M1 → Q2 r M1 → Q3 r M1) : ∀ (N : Nat) (v3 : Int32) (v4 : Int32) (M : MM), W_m_next_104 p1 k180a Q1 N v3 v4 M → W_m_next_104 p1 k180b Q2 N v3 v4 M → W_m_next_104 p1 k180c Q3 N v3 v4 M := by
  intro N
  induction N with
  | zero => intros; trivial
  | succ N IH =>
    intro v3 v4 M h1 h2
    replace h1 : B_m_next_104 p1 k180a Q1 N (W_m_next_104 p1 k180a Q1 N) v3 v4 M := h1
    replace h2 : B_m_next_104 p1 k180b Q2 N (W_m_next_104 p1 k180b Q2 N) v3 v4 M := h2
    show B_m_next_104 p1 k180c Q3 N (W_m_next_104 p1 k180c Q3 N) v3 v4 M
    unfold B_m_next_104 at h1 h2 ⊢
    refine ⟨fun hc => ?_, fun hc => ?_⟩
    · replace h1 := h1.1 hc
      replace h2 := h2.1 hc
      refine and_m_isCode (fun r23 h1 h2 => ?_) h1 h2
      refine ⟨fun hc => ?_, fun hc => ?_⟩
      · replace h1 := h1.1 hc
        replace h2 := h2.1 hc
        exact IH _ _ _ h1 h2
      · replace h1 := h1.2 hc
        replace h2 := h2.2 hc
        refine and_m_next_133 (fun M28 h1 h2 => ?_) hQ N _ _ h1 h2
        · exact IH _ _ _ h1 h2
    · replace h1 := h1.2 hc
      replace h2 := h2.2 hc
      exact hk180 _ _ h1 h2
theorem and_m_next_186 {p1 : Int32} {u3 : Int32} {M : MM} {Q1 Q2 Q3 : Int32 → MM → Prop} (hQ : ∀ (r : Int32) (M1 : MM), Q1 r M1 → Q2 r M1 → Q3 r M1) : ∀ (N : Nat) (v4 : Int32) (v5 : Int32), W_m_next_186 p1 u3 M Q1 N v4 v5 → W_m_next_186 p1 u3 M Q2 N v4 v5 → W_m_next_186 p1 u3 M Q3 N v4 v5 := by
  intro N
  induction N with
  | zero => intros; trivial
  | succ N IH =>
    intro v4 v5 h1 h2
    replace h1 : B_m_next_186 p1 u3 M Q1 N (W_m_next_186 p1 u3 M Q1 N) v4 v5 := h1
    replace h2 : B_m_next_186 p1 u3 M Q2 N (W_m_next_186 p1 u3 M Q2 N) v4 v5 := h2
    show B_m_next_186 p1 u3 M Q3 N (W_m_next_186 p1 u3 M Q3 N) v4 v5
    unfold B_m_next_186 at h1 h2 ⊢
    refine ⟨fun hc => ?_, fun hc => ?_⟩
    · replace h1 := h1.1 hc
      replace h2 := h2.1 hc
      refine ⟨fun hc => ?_, fun hc => ?_⟩
      · replace h1 := h1.1 hc
        replace h2 := h2.1 hc
        exact IH _ _ h1 h2
      · replace h1 := h1.2 hc
        replace h2 := h2.2 hc
        exact IH _ _ h1 h2
    · replace h1 := h1.2 hc
      replace h2 := h2.2 hc
      refine ⟨fun hc => ?_, fun hc => ?_⟩
      · replace h1 := h1.1 hc
        replace h2 := h2.1 hc
        exact hQ _ _ h1 h2
      · replace h1 := h1.2 hc
        replace h2 := h2.2 hc
        exact hQ _ _ h1 h2
theorem and_m_next {p1 : Int32} {N : Nat} {M : MM} {Q1 Q2 Q3 : Int32 → MM → Prop} (hQ : ∀ (r : Int32) (M1 : MM), Q1 r M1 → Q2 r M1 → Q3 r M1) (h1 : W_m_next p1 N M Q1) (h2 : W_m_next p1 N M Q2) : W_m_next p1 N M Q3 := by
  unfold W_m_next at h1 h2 ⊢
  refine and_m_isWatched (fun r1 M2 h1 h2 => ?_) h1 h2
  refine and_m_throwsIf (fun r3 M4 h1 h2 => ?_) h1 h2
  refine ⟨fun hc => ?_, fun hc => ?_⟩
  · replace h1 := h1.1 hc
    replace h2 := h2.1 hc
    refine ⟨fun hc => ?_, fun hc => ?_⟩
    · replace h1 := h1.1 hc
      replace h2 := h2.1 hc
      refine and_m_throwsIf (fun r7 M8 h1 h2 => ?_) h1 h2
      refine ⟨fun hc => ?_, fun hc => ?_⟩
      · replace h1 := h1.1 hc
        replace h2 := h2.1 hc
        refine ⟨fun hc => ?_, fun hc => ?_⟩
        · replace h1 := h1.1 hc
          replace h2 := h2.1 hc
          refine and_m_throwsIf (fun r11 M12 h1 h2 => ?_) h1 h2
          refine ⟨fun hc => ?_, fun hc => ?_⟩
          · replace h1 := h1.1 hc
            replace h2 := h2.1 hc
            refine and_m_laysWatched (fun M15 h1 h2 => ?_) h1 h2
            refine and_m_next_64 (fun M21 h1 h2 => ?_) hQ N _ _ h1 h2
            · refine and_m_next_104 (fun x29 M30 h1 h2 => ?_) hQ N _ _ _ h1 h2
              · refine and_m_next_186  hQ N _ _ h1 h2
          · replace h1 := h1.2 hc
            replace h2 := h2.2 hc
            exact hQ _ _ h1 h2
        · replace h1 := h1.2 hc
          replace h2 := h2.2 hc
          refine and_m_throwsIf (fun r34 M35 h1 h2 => ?_) h1 h2
          refine ⟨fun hc => ?_, fun hc => ?_⟩
          · replace h1 := h1.1 hc
            replace h2 := h2.1 hc
            refine and_m_laysWatched (fun M38 h1 h2 => ?_) h1 h2
            refine and_m_next_64 (fun M39 h1 h2 => ?_) hQ N _ _ h1 h2
            · refine and_m_next_104 (fun x40 M41 h1 h2 => ?_) hQ N _ _ _ h1 h2
              · refine and_m_next_186  hQ N _ _ h1 h2
          · replace h1 := h1.2 hc
            replace h2 := h2.2 hc
            exact hQ _ _ h1 h2
      · replace h1 := h1.2 hc
        replace h2 := h2.2 hc
        exact hQ _ _ h1 h2
    · replace h1 := h1.2 hc
      replace h2 := h2.2 hc
      refine and_m_throwsIf (fun r42 M43 h1 h2 => ?_) h1 h2
      refine ⟨fun hc => ?_, fun hc => ?_⟩
      · replace h1 := h1.1 hc
        replace h2 := h2.1 hc
        refine ⟨fun hc => ?_, fun hc => ?_⟩
        · replace h1 := h1.1 hc
          replace h2 := h2.1 hc
          refine and_m_throwsIf (fun r46 M47 h1 h2 => ?_) h1 h2
          refine ⟨fun hc => ?_, fun hc => ?_⟩
          · replace h1 := h1.1 hc
            replace h2 := h2.1 hc
            refine and_m_laysWatched (fun M50 h1 h2 => ?_) h1 h2
            refine and_m_next_64 (fun M51 h1 h2 => ?_) hQ N _ _ h1 h2
            · refine and_m_next_104 (fun x52 M53 h1 h2 => ?_) hQ N _ _ _ h1 h2
              · refine and_m_next_186  hQ N _ _ h1 h2
          · replace h1 := h1.2 hc
            replace h2 := h2.2 hc
            exact hQ _ _ h1 h2
        · replace h1 := h1.2 hc
          replace h2 := h2.2 hc
          refine and_m_throwsIf (fun r54 M55 h1 h2 => ?_) h1 h2
          refine ⟨fun hc => ?_, fun hc => ?_⟩
          · replace h1 := h1.1 hc
            replace h2 := h2.1 hc
            refine and_m_laysWatched (fun M58 h1 h2 => ?_) h1 h2
            refine and_m_next_64 (fun M59 h1 h2 => ?_) hQ N _ _ h1 h2
            · refine and_m_next_104 (fun x60 M61 h1 h2 => ?_) hQ N _ _ _ h1 h2
              · refine and_m_next_186  hQ N _ _ h1 h2
          · replace h1 := h1.2 hc
            replace h2 := h2.2 hc
            exact hQ _ _ h1 h2
      · replace h1 := h1.2 hc
        replace h2 := h2.2 hc
        exact hQ _ _ h1 h2
  · replace h1 := h1.2 hc
    replace h2 := h2.2 hc
    exact hQ _ _ h1 h2
theorem and_m_cover_52 {u1 : Int32} {u2 : Int32} {u3 : Int32} {M : MM} {k92a k92b k92c : Int32 → Prop} {Q1 Q2 Q3 : Int32 → MM → Prop} (hk92 : ∀ (v4 : Int32), k92a v4 → k92b v4 → k92c v4) (hQ : ∀ (r : Int32) (M1 : MM), Q1 r M1 → Q2 r M1 → Q3 r M1) : ∀ (N : Nat) (v4 : Int32) (v5 : Int32), W_m_cover_52 u1 u2 u3 M k92a Q1 N v4 v5 → W_m_cover_52 u1 u2 u3 M k92b Q2 N v4 v5 → W_m_cover_52 u1 u2 u3 M k92c Q3 N v4 v5 := by
  intro N
  induction N with
  | zero => intros; trivial
  | succ N IH =>
    intro v4 v5 h1 h2
    replace h1 : B_m_cover_52 u1 u2 u3 M k92a Q1 N (W_m_cover_52 u1 u2 u3 M k92a Q1 N) v4 v5 := h1
    replace h2 : B_m_cover_52 u1 u2 u3 M k92b Q2 N (W_m_cover_52 u1 u2 u3 M k92b Q2 N) v4 v5 := h2
    show B_m_cover_52 u1 u2 u3 M k92c Q3 N (W_m_cover_52 u1 u2 u3 M k92c Q3 N) v4 v5
    unfold B_m_cover_52 at h1 h2 ⊢
    refine ⟨fun hc => ?_, fun hc => ?_⟩
    · replace h1 := h1.1 hc
      replace h2 := h2.1 hc
      refine ⟨fun hc => ?_, fun hc => ?_⟩
      · replace h1 := h1.1 hc
        replace h2 := h2.1 hc
        exact IH _ _ h1 h2
      · replace h1 := h1.2 hc
        replace h2 := h2.2 hc
        exact IH _ _ h1 h2
    · replace h1 := h1.2 hc
      replace h2 := h2.2 hc
      exact hk92 _ h1 h2
theorem and_m_cover_17 {u1 : Int32} {M : MM} {Q1 Q2 Q3 : Int32 → MM → Prop} (hQ : ∀ (r : Int32) (M1 : MM), Q1 r M1 → Q2 r M1 → Q3 r M1) : ∀ (N : Nat) (v2 : Int32) (v3 : Int32), W_m_cover_17 u1 M Q1 N v2 v3 → W_m_cover_17 u1 M Q2 N v2 v3 → W_m_cover_17 u1 M Q3 N v2 v3 := by
  intro N
  induction N with
  | zero => intros; trivial
  | succ N IH =>
    intro v2 v3 h1 h2
    replace h1 : B_m_cover_17 u1 M Q1 N (W_m_cover_17 u1 M Q1 N) v2 v3 := h1
    replace h2 : B_m_cover_17 u1 M Q2 N (W_m_cover_17 u1 M Q2 N) v2 v3 := h2
    show B_m_cover_17 u1 M Q3 N (W_m_cover_17 u1 M Q3 N) v2 v3
    unfold B_m_cover_17 at h1 h2 ⊢
    refine ⟨fun hc => ?_, fun hc => ?_⟩
    · replace h1 := h1.1 hc
      replace h2 := h2.1 hc
      exact hQ _ _ h1 h2
    · replace h1 := h1.2 hc
      replace h2 := h2.2 hc
      refine and_m_alive (fun r6 h1 h2 => ?_) h1 h2
      refine ⟨fun hc => ?_, fun hc => ?_⟩
      · replace h1 := h1.1 hc
        replace h2 := h2.1 hc
        refine ⟨fun hc => ?_, fun hc => ?_⟩
        · replace h1 := h1.1 hc
          replace h2 := h2.1 hc
          exact IH _ _ h1 h2
        · replace h1 := h1.2 hc
          replace h2 := h2.2 hc
          refine and_m_cover_52 (fun x12 h1 h2 => ?_) hQ N _ _ h1 h2
          · refine ⟨fun hc => ?_, fun hc => ?_⟩
            · replace h1 := h1.1 hc
              replace h2 := h2.1 hc
              exact IH _ _ h1 h2
            · replace h1 := h1.2 hc
              replace h2 := h2.2 hc
              exact IH _ _ h1 h2
      · replace h1 := h1.2 hc
        replace h2 := h2.2 hc
        exact IH _ _ h1 h2
theorem and_m_cover  {N : Nat} {M : MM} {Q1 Q2 Q3 : Int32 → MM → Prop} (hQ : ∀ (r : Int32) (M1 : MM), Q1 r M1 → Q2 r M1 → Q3 r M1) (h1 : W_m_cover  N M Q1) (h2 : W_m_cover  N M Q2) : W_m_cover  N M Q3 := by
  unfold W_m_cover at h1 h2 ⊢
  refine and_m_inForce (fun r1 h1 h2 => ?_) h1 h2
  refine and_m_alive (fun r3 h1 h2 => ?_) h1 h2
  refine and_m_cover_17  hQ N _ _ h1 h2
theorem and_m_dies_45 {p1 : Int32} {M : MM} {Q1 Q2 Q3 : Int32 → MM → Prop} (hQ : ∀ (r : Int32) (M1 : MM), Q1 r M1 → Q2 r M1 → Q3 r M1) : ∀ (N : Nat) (v2 : Int32) (v3 : Int32), W_m_dies_45 p1 M Q1 N v2 v3 → W_m_dies_45 p1 M Q2 N v2 v3 → W_m_dies_45 p1 M Q3 N v2 v3 := by
  intro N
  induction N with
  | zero => intros; trivial
  | succ N IH =>
    intro v2 v3 h1 h2
    replace h1 : B_m_dies_45 p1 M Q1 N (W_m_dies_45 p1 M Q1 N) v2 v3 := h1
    replace h2 : B_m_dies_45 p1 M Q2 N (W_m_dies_45 p1 M Q2 N) v2 v3 := h2
    show B_m_dies_45 p1 M Q3 N (W_m_dies_45 p1 M Q3 N) v2 v3
    unfold B_m_dies_45 at h1 h2 ⊢
    refine ⟨fun hc => ?_, fun hc => ?_⟩
    · replace h1 := h1.1 hc
      replace h2 := h2.1 hc
      refine and_m_knowers (fun r9 h1 h2 => ?_) h1 h2
      refine ⟨fun hc => ?_, fun hc => ?_⟩
      · replace h1 := h1.1 hc
        replace h2 := h2.1 hc
        exact IH _ _ h1 h2
      · replace h1 := h1.2 hc
        replace h2 := h2.2 hc
        exact IH _ _ h1 h2
    · replace h1 := h1.2 hc
      replace h2 := h2.2 hc
      exact hQ _ _ h1 h2
theorem and_m_dies {p1 : Int32} {N : Nat} {M : MM} {Q1 Q2 Q3 : Int32 → MM → Prop} (hQ : ∀ (r : Int32) (M1 : MM), Q1 r M1 → Q2 r M1 → Q3 r M1) (h1 : W_m_dies p1 N M Q1) (h2 : W_m_dies p1 N M Q2) : W_m_dies p1 N M Q3 := by
  unfold W_m_dies at h1 h2 ⊢
  refine and_m_throwsIf (fun r1 M2 h1 h2 => ?_) h1 h2
  refine ⟨fun hc => ?_, fun hc => ?_⟩
  · replace h1 := h1.1 hc
    replace h2 := h2.1 hc
    refine ⟨fun hc => ?_, fun hc => ?_⟩
    · replace h1 := h1.1 hc
      replace h2 := h2.1 hc
      refine and_m_throwsIf (fun r5 M6 h1 h2 => ?_) h1 h2
      refine ⟨fun hc => ?_, fun hc => ?_⟩
      · replace h1 := h1.1 hc
        replace h2 := h2.1 hc
        refine and_m_dies_45  hQ N _ _ h1 h2
      · replace h1 := h1.2 hc
        replace h2 := h2.2 hc
        exact hQ _ _ h1 h2
    · replace h1 := h1.2 hc
      replace h2 := h2.2 hc
      refine and_m_throwsIf (fun r12 M13 h1 h2 => ?_) h1 h2
      refine ⟨fun hc => ?_, fun hc => ?_⟩
      · replace h1 := h1.1 hc
        replace h2 := h2.1 hc
        refine and_m_dies_45  hQ N _ _ h1 h2
      · replace h1 := h1.2 hc
        replace h2 := h2.2 hc
        exact hQ _ _ h1 h2
  · replace h1 := h1.2 hc
    replace h2 := h2.2 hc
    exact hQ _ _ h1 h2
theorem and_m_heirs_47 {p1 : Int32} {M : MM} {Q1 Q2 Q3 : Int32 → MM → Prop} (hQ : ∀ (r : Int32) (M1 : MM), Q1 r M1 → Q2 r M1 → Q3 r M1) : ∀ (N : Nat) (v2 : Int32) (v3 : Int32), W_m_heirs_47 p1 M Q1 N v2 v3 → W_m_heirs_47 p1 M Q2 N v2 v3 → W_m_heirs_47 p1 M Q3 N v2 v3 := by
  intro N
  induction N with
  | zero => intros; trivial
  | succ N IH =>
    intro v2 v3 h1 h2
    replace h1 : B_m_heirs_47 p1 M Q1 N (W_m_heirs_47 p1 M Q1 N) v2 v3 := h1
    replace h2 : B_m_heirs_47 p1 M Q2 N (W_m_heirs_47 p1 M Q2 N) v2 v3 := h2
    show B_m_heirs_47 p1 M Q3 N (W_m_heirs_47 p1 M Q3 N) v2 v3
    unfold B_m_heirs_47 at h1 h2 ⊢
    refine ⟨fun hc => ?_, fun hc => ?_⟩
    · replace h1 := h1.1 hc
      replace h2 := h2.1 hc
      refine and_m_inForce (fun r9 h1 h2 => ?_) h1 h2
      refine ⟨fun hc => ?_, fun hc => ?_⟩
      · replace h1 := h1.1 hc
        replace h2 := h2.1 hc
        exact IH _ _ h1 h2
      · replace h1 := h1.2 hc
        replace h2 := h2.2 hc
        refine and_m_knowers (fun r12 h1 h2 => ?_) h1 h2
        exact IH _ _ h1 h2
    · replace h1 := h1.2 hc
      replace h2 := h2.2 hc
      exact hQ _ _ h1 h2
theorem and_m_heirs {p1 : Int32} {N : Nat} {M : MM} {Q1 Q2 Q3 : Int32 → MM → Prop} (hQ : ∀ (r : Int32) (M1 : MM), Q1 r M1 → Q2 r M1 → Q3 r M1) (h1 : W_m_heirs p1 N M Q1) (h2 : W_m_heirs p1 N M Q2) : W_m_heirs p1 N M Q3 := by
  unfold W_m_heirs at h1 h2 ⊢
  refine ⟨fun hc => ?_, fun hc => ?_⟩
  · replace h1 := h1.1 hc
    replace h2 := h2.1 hc
    refine and_m_throwsIf (fun r2 M3 h1 h2 => ?_) h1 h2
    refine ⟨fun hc => ?_, fun hc => ?_⟩
    · replace h1 := h1.1 hc
      replace h2 := h2.1 hc
      refine and_m_alive (fun r5 h1 h2 => ?_) h1 h2
      refine ⟨fun hc => ?_, fun hc => ?_⟩
      · replace h1 := h1.1 hc
        replace h2 := h2.1 hc
        exact hQ _ _ h1 h2
      · replace h1 := h1.2 hc
        replace h2 := h2.2 hc
        refine and_m_heirs_47  hQ N _ _ h1 h2
    · replace h1 := h1.2 hc
      replace h2 := h2.2 hc
      exact hQ _ _ h1 h2
  · replace h1 := h1.2 hc
    replace h2 := h2.2 hc
    refine and_m_throwsIf (fun r14 M15 h1 h2 => ?_) h1 h2
    refine ⟨fun hc => ?_, fun hc => ?_⟩
    · replace h1 := h1.1 hc
      replace h2 := h2.1 hc
      refine and_m_alive (fun r17 h1 h2 => ?_) h1 h2
      refine ⟨fun hc => ?_, fun hc => ?_⟩
      · replace h1 := h1.1 hc
        replace h2 := h2.1 hc
        exact hQ _ _ h1 h2
      · replace h1 := h1.2 hc
        replace h2 := h2.2 hc
        refine and_m_heirs_47  hQ N _ _ h1 h2
    · replace h1 := h1.2 hc
      replace h2 := h2.2 hc
      exact hQ _ _ h1 h2
theorem and_m_riskOf_12 {p1 : Int32} {p2 : Int32} {p3 : Int32} {u4 : Int32} {Q1 Q2 Q3 : Int32 → MM → Prop} (hQ : ∀ (r : Int32) (M1 : MM), Q1 r M1 → Q2 r M1 → Q3 r M1) : ∀ (N : Nat) (v5 : Int32) (v6 : Int32) (M : MM), W_m_riskOf_12 p1 p2 p3 u4 Q1 N v5 v6 M → W_m_riskOf_12 p1 p2 p3 u4 Q2 N v5 v6 M → W_m_riskOf_12 p1 p2 p3 u4 Q3 N v5 v6 M := by
  intro N
  induction N with
  | zero => intros; trivial
  | succ N IH =>
    intro v5 v6 M h1 h2
    replace h1 : B_m_riskOf_12 p1 p2 p3 u4 Q1 N (W_m_riskOf_12 p1 p2 p3 u4 Q1 N) v5 v6 M := h1
    replace h2 : B_m_riskOf_12 p1 p2 p3 u4 Q2 N (W_m_riskOf_12 p1 p2 p3 u4 Q2 N) v5 v6 M := h2
    show B_m_riskOf_12 p1 p2 p3 u4 Q3 N (W_m_riskOf_12 p1 p2 p3 u4 Q3 N) v5 v6 M
    unfold B_m_riskOf_12 at h1 h2 ⊢
    refine ⟨fun hc => ?_, fun hc => ?_⟩
    · replace h1 := h1.1 hc
      replace h2 := h2.1 hc
      refine and_m_forbidding (fun r4 M5 h1 h2 => ?_) h1 h2
      refine ⟨fun hc => ?_, fun hc => ?_⟩
      · replace h1 := h1.1 hc
        replace h2 := h2.1 hc
        exact IH _ _ _ h1 h2
      · replace h1 := h1.2 hc
        replace h2 := h2.2 hc
        refine and_m_forbidding (fun r7 M8 h1 h2 => ?_) h1 h2
        refine ⟨fun hc => ?_, fun hc => ?_⟩
        · replace h1 := h1.1 hc
          replace h2 := h2.1 hc
          exact IH _ _ _ h1 h2
        · replace h1 := h1.2 hc
          replace h2 := h2.2 hc
          exact IH _ _ _ h1 h2
    · replace h1 := h1.2 hc
      replace h2 := h2.2 hc
      exact hQ _ _ h1 h2
theorem and_m_riskOf {p1 : Int32} {p2 : Int32} {p3 : Int32} {N : Nat} {M : MM} {Q1 Q2 Q3 : Int32 → MM → Prop} (hQ : ∀ (r : Int32) (M1 : MM), Q1 r M1 → Q2 r M1 → Q3 r M1) (h1 : W_m_riskOf p1 p2 p3 N M Q1) (h2 : W_m_riskOf p1 p2 p3 N M Q2) : W_m_riskOf p1 p2 p3 N M Q3 := by
  unfold W_m_riskOf at h1 h2 ⊢
  refine and_m_inForce (fun r1 h1 h2 => ?_) h1 h2
  refine and_m_riskOf_12  hQ N _ _ _ h1 h2
theorem and_m_risk {p1 : Int32} {p2 : Int32} {N : Nat} {M : MM} {Q1 Q2 Q3 : Int32 → MM → Prop} (hQ : ∀ (r : Int32) (M1 : MM), Q1 r M1 → Q2 r M1 → Q3 r M1) (h1 : W_m_risk p1 p2 N M Q1) (h2 : W_m_risk p1 p2 N M Q2) : W_m_risk p1 p2 N M Q3 := by
  unfold W_m_risk at h1 h2 ⊢
  refine and_m_throwsIf (fun r1 M2 h1 h2 => ?_) h1 h2
  refine ⟨fun hc => ?_, fun hc => ?_⟩
  · replace h1 := h1.1 hc
    replace h2 := h2.1 hc
    refine and_m_throwsIf (fun r4 M5 h1 h2 => ?_) h1 h2
    refine ⟨fun hc => ?_, fun hc => ?_⟩
    · replace h1 := h1.1 hc
      replace h2 := h2.1 hc
      refine ⟨fun hc => ?_, fun hc => ?_⟩
      · replace h1 := h1.1 hc
        replace h2 := h2.1 hc
        refine and_m_throwsIf (fun r8 M9 h1 h2 => ?_) h1 h2
        refine ⟨fun hc => ?_, fun hc => ?_⟩
        · replace h1 := h1.1 hc
          replace h2 := h2.1 hc
          refine and_m_riskOf (fun r11 M12 h1 h2 => ?_) h1 h2
          exact hQ _ _ h1 h2
        · replace h1 := h1.2 hc
          replace h2 := h2.2 hc
          exact hQ _ _ h1 h2
      · replace h1 := h1.2 hc
        replace h2 := h2.2 hc
        refine and_m_throwsIf (fun r13 M14 h1 h2 => ?_) h1 h2
        refine ⟨fun hc => ?_, fun hc => ?_⟩
        · replace h1 := h1.1 hc
          replace h2 := h2.1 hc
          refine and_m_riskOf (fun r16 M17 h1 h2 => ?_) h1 h2
          exact hQ _ _ h1 h2
        · replace h1 := h1.2 hc
          replace h2 := h2.2 hc
          exact hQ _ _ h1 h2
    · replace h1 := h1.2 hc
      replace h2 := h2.2 hc
      exact hQ _ _ h1 h2
  · replace h1 := h1.2 hc
    replace h2 := h2.2 hc
    exact hQ _ _ h1 h2
theorem and_m_safe_64 {p1 : Int32} {p2 : Int32} {u3 : Int32} {Q1 Q2 Q3 : Int32 → MM → Prop} (hQ : ∀ (r : Int32) (M1 : MM), Q1 r M1 → Q2 r M1 → Q3 r M1) : ∀ (N : Nat) (v4 : Int32) (M : MM), W_m_safe_64 p1 p2 u3 Q1 N v4 M → W_m_safe_64 p1 p2 u3 Q2 N v4 M → W_m_safe_64 p1 p2 u3 Q3 N v4 M := by
  intro N
  induction N with
  | zero => intros; trivial
  | succ N IH =>
    intro v4 M h1 h2
    replace h1 : B_m_safe_64 p1 p2 u3 Q1 N (W_m_safe_64 p1 p2 u3 Q1 N) v4 M := h1
    replace h2 : B_m_safe_64 p1 p2 u3 Q2 N (W_m_safe_64 p1 p2 u3 Q2 N) v4 M := h2
    show B_m_safe_64 p1 p2 u3 Q3 N (W_m_safe_64 p1 p2 u3 Q3 N) v4 M
    unfold B_m_safe_64 at h1 h2 ⊢
    refine ⟨fun hc => ?_, fun hc => ?_⟩
    · replace h1 := h1.1 hc
      replace h2 := h2.1 hc
      refine and_m_forbidsNow (fun r13 M14 h1 h2 => ?_) h1 h2
      refine ⟨fun hc => ?_, fun hc => ?_⟩
      · replace h1 := h1.1 hc
        replace h2 := h2.1 hc
        exact hQ _ _ h1 h2
      · replace h1 := h1.2 hc
        replace h2 := h2.2 hc
        exact IH _ _ h1 h2
    · replace h1 := h1.2 hc
      replace h2 := h2.2 hc
      exact hQ _ _ h1 h2
theorem and_m_safe {p1 : Int32} {p2 : Int32} {N : Nat} {M : MM} {Q1 Q2 Q3 : Int32 → MM → Prop} (hQ : ∀ (r : Int32) (M1 : MM), Q1 r M1 → Q2 r M1 → Q3 r M1) (h1 : W_m_safe p1 p2 N M Q1) (h2 : W_m_safe p1 p2 N M Q2) : W_m_safe p1 p2 N M Q3 := by
  unfold W_m_safe at h1 h2 ⊢
  refine ⟨fun hc => ?_, fun hc => ?_⟩
  · replace h1 := h1.1 hc
    replace h2 := h2.1 hc
    refine ⟨fun hc => ?_, fun hc => ?_⟩
    · replace h1 := h1.1 hc
      replace h2 := h2.1 hc
      refine and_m_throwsIf (fun r3 M4 h1 h2 => ?_) h1 h2
      refine ⟨fun hc => ?_, fun hc => ?_⟩
      · replace h1 := h1.1 hc
        replace h2 := h2.1 hc
        refine ⟨fun hc => ?_, fun hc => ?_⟩
        · replace h1 := h1.1 hc
          replace h2 := h2.1 hc
          refine and_m_throwsIf (fun r7 M8 h1 h2 => ?_) h1 h2
          refine ⟨fun hc => ?_, fun hc => ?_⟩
          · replace h1 := h1.1 hc
            replace h2 := h2.1 hc
            refine and_m_inForce (fun r10 h1 h2 => ?_) h1 h2
            refine and_m_safe_64  hQ N _ _ h1 h2
          · replace h1 := h1.2 hc
            replace h2 := h2.2 hc
            exact hQ _ _ h1 h2
        · replace h1 := h1.2 hc
          replace h2 := h2.2 hc
          refine and_m_throwsIf (fun r16 M17 h1 h2 => ?_) h1 h2
          refine ⟨fun hc => ?_, fun hc => ?_⟩
          · replace h1 := h1.1 hc
            replace h2 := h2.1 hc
            refine and_m_inForce (fun r19 h1 h2 => ?_) h1 h2
            refine and_m_safe_64  hQ N _ _ h1 h2
          · replace h1 := h1.2 hc
            replace h2 := h2.2 hc
            exact hQ _ _ h1 h2
      · replace h1 := h1.2 hc
        replace h2 := h2.2 hc
        exact hQ _ _ h1 h2
    · replace h1 := h1.2 hc
      replace h2 := h2.2 hc
      refine and_m_throwsIf (fun r21 M22 h1 h2 => ?_) h1 h2
      refine ⟨fun hc => ?_, fun hc => ?_⟩
      · replace h1 := h1.1 hc
        replace h2 := h2.1 hc
        refine ⟨fun hc => ?_, fun hc => ?_⟩
        · replace h1 := h1.1 hc
          replace h2 := h2.1 hc
          refine and_m_throwsIf (fun r25 M26 h1 h2 => ?_) h1 h2
          refine ⟨fun hc => ?_, fun hc => ?_⟩
          · replace h1 := h1.1 hc
            replace h2 := h2.1 hc
            refine and_m_inForce (fun r28 h1 h2 => ?_) h1 h2
            refine and_m_safe_64  hQ N _ _ h1 h2
          · replace h1 := h1.2 hc
            replace h2 := h2.2 hc
            exact hQ _ _ h1 h2
        · replace h1 := h1.2 hc
          replace h2 := h2.2 hc
          refine and_m_throwsIf (fun r30 M31 h1 h2 => ?_) h1 h2
          refine ⟨fun hc => ?_, fun hc => ?_⟩
          · replace h1 := h1.1 hc
            replace h2 := h2.1 hc
            refine and_m_inForce (fun r33 h1 h2 => ?_) h1 h2
            refine and_m_safe_64  hQ N _ _ h1 h2
          · replace h1 := h1.2 hc
            replace h2 := h2.2 hc
            exact hQ _ _ h1 h2
      · replace h1 := h1.2 hc
        replace h2 := h2.2 hc
        exact hQ _ _ h1 h2
  · replace h1 := h1.2 hc
    replace h2 := h2.2 hc
    refine and_m_throwsIf (fun r35 M36 h1 h2 => ?_) h1 h2
    refine ⟨fun hc => ?_, fun hc => ?_⟩
    · replace h1 := h1.1 hc
      replace h2 := h2.1 hc
      refine ⟨fun hc => ?_, fun hc => ?_⟩
      · replace h1 := h1.1 hc
        replace h2 := h2.1 hc
        refine and_m_throwsIf (fun r39 M40 h1 h2 => ?_) h1 h2
        refine ⟨fun hc => ?_, fun hc => ?_⟩
        · replace h1 := h1.1 hc
          replace h2 := h2.1 hc
          refine and_m_inForce (fun r42 h1 h2 => ?_) h1 h2
          refine and_m_safe_64  hQ N _ _ h1 h2
        · replace h1 := h1.2 hc
          replace h2 := h2.2 hc
          exact hQ _ _ h1 h2
      · replace h1 := h1.2 hc
        replace h2 := h2.2 hc
        refine and_m_throwsIf (fun r44 M45 h1 h2 => ?_) h1 h2
        refine ⟨fun hc => ?_, fun hc => ?_⟩
        · replace h1 := h1.1 hc
          replace h2 := h2.1 hc
          refine and_m_inForce (fun r47 h1 h2 => ?_) h1 h2
          refine and_m_safe_64  hQ N _ _ h1 h2
        · replace h1 := h1.2 hc
          replace h2 := h2.2 hc
          exact hQ _ _ h1 h2
    · replace h1 := h1.2 hc
      replace h2 := h2.2 hc
      exact hQ _ _ h1 h2
theorem and_m_better_58 {p1 : Int32} {p2 : Int32} {Q1 Q2 Q3 : Int32 → MM → Prop} (hQ : ∀ (r : Int32) (M1 : MM), Q1 r M1 → Q2 r M1 → Q3 r M1) : ∀ (N : Nat) (v3 : Int32) (v4 : Int32) (M : MM), W_m_better_58 p1 p2 Q1 N v3 v4 M → W_m_better_58 p1 p2 Q2 N v3 v4 M → W_m_better_58 p1 p2 Q3 N v3 v4 M := by
  intro N
  induction N with
  | zero => intros; trivial
  | succ N IH =>
    intro v3 v4 M h1 h2
    replace h1 : B_m_better_58 p1 p2 Q1 N (W_m_better_58 p1 p2 Q1 N) v3 v4 M := h1
    replace h2 : B_m_better_58 p1 p2 Q2 N (W_m_better_58 p1 p2 Q2 N) v3 v4 M := h2
    show B_m_better_58 p1 p2 Q3 N (W_m_better_58 p1 p2 Q3 N) v3 v4 M
    unfold B_m_better_58 at h1 h2 ⊢
    refine ⟨fun hc => ?_, fun hc => ?_⟩
    · replace h1 := h1.1 hc
      replace h2 := h2.1 hc
      refine and_m_riskOf (fun r12 M13 h1 h2 => ?_) h1 h2
      refine and_m_riskOf (fun r14 M15 h1 h2 => ?_) h1 h2
      refine ⟨fun hc => ?_, fun hc => ?_⟩
      · replace h1 := h1.1 hc
        replace h2 := h2.1 hc
        exact IH _ _ _ h1 h2
      · replace h1 := h1.2 hc
        replace h2 := h2.2 hc
        exact IH _ _ _ h1 h2
    · replace h1 := h1.2 hc
      replace h2 := h2.2 hc
      exact hQ _ _ h1 h2
theorem and_m_better {p1 : Int32} {p2 : Int32} {N : Nat} {M : MM} {Q1 Q2 Q3 : Int32 → MM → Prop} (hQ : ∀ (r : Int32) (M1 : MM), Q1 r M1 → Q2 r M1 → Q3 r M1) (h1 : W_m_better p1 p2 N M Q1) (h2 : W_m_better p1 p2 N M Q2) : W_m_better p1 p2 N M Q3 := by
  unfold W_m_better at h1 h2 ⊢
  refine and_m_throwsIf (fun r1 M2 h1 h2 => ?_) h1 h2
  refine ⟨fun hc => ?_, fun hc => ?_⟩
  · replace h1 := h1.1 hc
    replace h2 := h2.1 hc
    refine and_m_throwsIf (fun r4 M5 h1 h2 => ?_) h1 h2
    refine ⟨fun hc => ?_, fun hc => ?_⟩
    · replace h1 := h1.1 hc
      replace h2 := h2.1 hc
      refine ⟨fun hc => ?_, fun hc => ?_⟩
      · replace h1 := h1.1 hc
        replace h2 := h2.1 hc
        refine and_m_throwsIf (fun r8 M9 h1 h2 => ?_) h1 h2
        refine ⟨fun hc => ?_, fun hc => ?_⟩
        · replace h1 := h1.1 hc
          replace h2 := h2.1 hc
          refine and_m_better_58  hQ N _ _ _ h1 h2
        · replace h1 := h1.2 hc
          replace h2 := h2.2 hc
          exact hQ _ _ h1 h2
      · replace h1 := h1.2 hc
        replace h2 := h2.2 hc
        refine and_m_throwsIf (fun r17 M18 h1 h2 => ?_) h1 h2
        refine ⟨fun hc => ?_, fun hc => ?_⟩
        · replace h1 := h1.1 hc
          replace h2 := h2.1 hc
          refine and_m_better_58  hQ N _ _ _ h1 h2
        · replace h1 := h1.2 hc
          replace h2 := h2.2 hc
          exact hQ _ _ h1 h2
    · replace h1 := h1.2 hc
      replace h2 := h2.2 hc
      exact hQ _ _ h1 h2
  · replace h1 := h1.2 hc
    replace h2 := h2.2 hc
    exact hQ _ _ h1 h2
