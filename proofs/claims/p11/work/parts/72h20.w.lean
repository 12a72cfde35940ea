/-! WHAT EACH METHOD COMES TO (gw.py) -/
/-- 264: EarCodeModel.wed(II)I -/
def W_m_wed (p1 : Int32) (p2 : Int32) (N : Nat) (M : MM) (Q : Int32 → MM → Prop) : Prop :=
  (((V_m_noCitizen p1 (wi M 190 0 0)) = 0 →
    (((V_m_noCitizen p2 (wi M 190 0 0)) = 0 →
      W_m_throwsIf 0 1 N (wi M 190 0 0) (fun r3 M4 =>
        ((r3 = 0 →
          ((p1 = p2 →
            W_m_throwsIf 1 2 N M4 (fun r7 M8 =>
              ((r7 = 0 →
                (((V_m_isAlive p1 M8) = 0 →
                  W_m_throwsIf 1 3 N M8 (fun r12 M13 =>
                    ((r12 = 0 →
                      W_m_remembers  N M13 (fun M16 =>
                        W_m_weds p1 p2 N M16 (fun M18 =>
                          Q (V_m_of p1 1 M18) M18))) ∧
                     (¬ r12 = 0 →
                      Q 0 M13)))) ∧
                 (¬ (V_m_isAlive p1 M8) = 0 →
                  (((V_m_isAlive p2 M8) = 0 →
                    W_m_throwsIf 1 3 N M8 (fun r21 M22 =>
                      ((r21 = 0 →
                        W_m_remembers  N M22 (fun M25 =>
                          W_m_weds p1 p2 N M25 (fun M27 =>
                            Q (V_m_of p1 1 M27) M27))) ∧
                       (¬ r21 = 0 →
                        Q 0 M22)))) ∧
                   (¬ (V_m_isAlive p2 M8) = 0 →
                    (((V_m_isSingle p1 M8) = 0 →
                      W_m_throwsIf 1 3 N M8 (fun r30 M31 =>
                        ((r30 = 0 →
                          W_m_remembers  N M31 (fun M34 =>
                            W_m_weds p1 p2 N M34 (fun M36 =>
                              Q (V_m_of p1 1 M36) M36))) ∧
                         (¬ r30 = 0 →
                          Q 0 M31)))) ∧
                     (¬ (V_m_isSingle p1 M8) = 0 →
                      (((V_m_isSingle p2 M8) = 0 →
                        W_m_throwsIf 1 3 N M8 (fun r39 M40 =>
                          ((r39 = 0 →
                            W_m_remembers  N M40 (fun M43 =>
                              W_m_weds p1 p2 N M43 (fun M45 =>
                                Q (V_m_of p1 1 M45) M45))) ∧
                           (¬ r39 = 0 →
                            Q 0 M40)))) ∧
                       (¬ (V_m_isSingle p2 M8) = 0 →
                        W_m_throwsIf 0 3 N M8 (fun r47 M48 =>
                          ((r47 = 0 →
                            W_m_remembers  N M48 (fun M51 =>
                              W_m_weds p1 p2 N M51 (fun M53 =>
                                Q (V_m_of p1 1 M53) M53))) ∧
                           (¬ r47 = 0 →
                            Q 0 M48)))))))))))) ∧
               (¬ r7 = 0 →
                Q 0 M8)))) ∧
           (¬ p1 = p2 →
            W_m_throwsIf 0 2 N M4 (fun r54 M55 =>
              ((r54 = 0 →
                (((V_m_isAlive p1 M55) = 0 →
                  W_m_throwsIf 1 3 N M55 (fun r59 M60 =>
                    ((r59 = 0 →
                      W_m_remembers  N M60 (fun M63 =>
                        W_m_weds p1 p2 N M63 (fun M65 =>
                          Q (V_m_of p1 1 M65) M65))) ∧
                     (¬ r59 = 0 →
                      Q 0 M60)))) ∧
                 (¬ (V_m_isAlive p1 M55) = 0 →
                  (((V_m_isAlive p2 M55) = 0 →
                    W_m_throwsIf 1 3 N M55 (fun r68 M69 =>
                      ((r68 = 0 →
                        W_m_remembers  N M69 (fun M72 =>
                          W_m_weds p1 p2 N M72 (fun M74 =>
                            Q (V_m_of p1 1 M74) M74))) ∧
                       (¬ r68 = 0 →
                        Q 0 M69)))) ∧
                   (¬ (V_m_isAlive p2 M55) = 0 →
                    (((V_m_isSingle p1 M55) = 0 →
                      W_m_throwsIf 1 3 N M55 (fun r77 M78 =>
                        ((r77 = 0 →
                          W_m_remembers  N M78 (fun M81 =>
                            W_m_weds p1 p2 N M81 (fun M83 =>
                              Q (V_m_of p1 1 M83) M83))) ∧
                         (¬ r77 = 0 →
                          Q 0 M78)))) ∧
                     (¬ (V_m_isSingle p1 M55) = 0 →
                      (((V_m_isSingle p2 M55) = 0 →
                        W_m_throwsIf 1 3 N M55 (fun r86 M87 =>
                          ((r86 = 0 →
                            W_m_remembers  N M87 (fun M90 =>
                              W_m_weds p1 p2 N M90 (fun M92 =>
                                Q (V_m_of p1 1 M92) M92))) ∧
                           (¬ r86 = 0 →
                            Q 0 M87)))) ∧
                       (¬ (V_m_isSingle p2 M55) = 0 →
                        W_m_throwsIf 0 3 N M55 (fun r94 M95 =>
                          ((r94 = 0 →
                            W_m_remembers  N M95 (fun M98 =>
                              W_m_weds p1 p2 N M98 (fun M100 =>
                                Q (V_m_of p1 1 M100) M100))) ∧
                           (¬ r94 = 0 →
                            Q 0 M95)))))))))))) ∧
               (¬ r54 = 0 →
                Q 0 M55)))))) ∧
         (¬ r3 = 0 →
          Q 0 M4)))) ∧
     (¬ (V_m_noCitizen p2 (wi M 190 0 0)) = 0 →
      W_m_throwsIf 1 1 N (wi M 190 0 0) (fun r101 M102 =>
        ((r101 = 0 →
          ((p1 = p2 →
            W_m_throwsIf 1 2 N M102 (fun r105 M106 =>
              ((r105 = 0 →
                (((V_m_isAlive p1 M106) = 0 →
                  W_m_throwsIf 1 3 N M106 (fun r110 M111 =>
                    ((r110 = 0 →
                      W_m_remembers  N M111 (fun M114 =>
                        W_m_weds p1 p2 N M114 (fun M116 =>
                          Q (V_m_of p1 1 M116) M116))) ∧
                     (¬ r110 = 0 →
                      Q 0 M111)))) ∧
                 (¬ (V_m_isAlive p1 M106) = 0 →
                  (((V_m_isAlive p2 M106) = 0 →
                    W_m_throwsIf 1 3 N M106 (fun r119 M120 =>
                      ((r119 = 0 →
                        W_m_remembers  N M120 (fun M123 =>
                          W_m_weds p1 p2 N M123 (fun M125 =>
                            Q (V_m_of p1 1 M125) M125))) ∧
                       (¬ r119 = 0 →
                        Q 0 M120)))) ∧
                   (¬ (V_m_isAlive p2 M106) = 0 →
                    (((V_m_isSingle p1 M106) = 0 →
                      W_m_throwsIf 1 3 N M106 (fun r128 M129 =>
                        ((r128 = 0 →
                          W_m_remembers  N M129 (fun M132 =>
                            W_m_weds p1 p2 N M132 (fun M134 =>
                              Q (V_m_of p1 1 M134) M134))) ∧
                         (¬ r128 = 0 →
                          Q 0 M129)))) ∧
                     (¬ (V_m_isSingle p1 M106) = 0 →
                      (((V_m_isSingle p2 M106) = 0 →
                        W_m_throwsIf 1 3 N M106 (fun r137 M138 =>
                          ((r137 = 0 →
                            W_m_remembers  N M138 (fun M141 =>
                              W_m_weds p1 p2 N M141 (fun M143 =>
                                Q (V_m_of p1 1 M143) M143))) ∧
                           (¬ r137 = 0 →
                            Q 0 M138)))) ∧
                       (¬ (V_m_isSingle p2 M106) = 0 →
                        W_m_throwsIf 0 3 N M106 (fun r145 M146 =>
                          ((r145 = 0 →
                            W_m_remembers  N M146 (fun M149 =>
                              W_m_weds p1 p2 N M149 (fun M151 =>
                                Q (V_m_of p1 1 M151) M151))) ∧
                           (¬ r145 = 0 →
                            Q 0 M146)))))))))))) ∧
               (¬ r105 = 0 →
                Q 0 M106)))) ∧
           (¬ p1 = p2 →
            W_m_throwsIf 0 2 N M102 (fun r152 M153 =>
              ((r152 = 0 →
                (((V_m_isAlive p1 M153) = 0 →
                  W_m_throwsIf 1 3 N M153 (fun r157 M158 =>
                    ((r157 = 0 →
                      W_m_remembers  N M158 (fun M161 =>
                        W_m_weds p1 p2 N M161 (fun M163 =>
                          Q (V_m_of p1 1 M163) M163))) ∧
                     (¬ r157 = 0 →
                      Q 0 M158)))) ∧
                 (¬ (V_m_isAlive p1 M153) = 0 →
                  (((V_m_isAlive p2 M153) = 0 →
                    W_m_throwsIf 1 3 N M153 (fun r166 M167 =>
                      ((r166 = 0 →
                        W_m_remembers  N M167 (fun M170 =>
                          W_m_weds p1 p2 N M170 (fun M172 =>
                            Q (V_m_of p1 1 M172) M172))) ∧
                       (¬ r166 = 0 →
                        Q 0 M167)))) ∧
                   (¬ (V_m_isAlive p2 M153) = 0 →
                    (((V_m_isSingle p1 M153) = 0 →
                      W_m_throwsIf 1 3 N M153 (fun r175 M176 =>
                        ((r175 = 0 →
                          W_m_remembers  N M176 (fun M179 =>
                            W_m_weds p1 p2 N M179 (fun M181 =>
                              Q (V_m_of p1 1 M181) M181))) ∧
                         (¬ r175 = 0 →
                          Q 0 M176)))) ∧
                     (¬ (V_m_isSingle p1 M153) = 0 →
                      (((V_m_isSingle p2 M153) = 0 →
                        W_m_throwsIf 1 3 N M153 (fun r184 M185 =>
                          ((r184 = 0 →
                            W_m_remembers  N M185 (fun M188 =>
                              W_m_weds p1 p2 N M188 (fun M190 =>
                                Q (V_m_of p1 1 M190) M190))) ∧
                           (¬ r184 = 0 →
                            Q 0 M185)))) ∧
                       (¬ (V_m_isSingle p2 M153) = 0 →
                        W_m_throwsIf 0 3 N M153 (fun r192 M193 =>
                          ((r192 = 0 →
                            W_m_remembers  N M193 (fun M196 =>
                              W_m_weds p1 p2 N M196 (fun M198 =>
                                Q (V_m_of p1 1 M198) M198))) ∧
                           (¬ r192 = 0 →
                            Q 0 M193)))))))))))) ∧
               (¬ r152 = 0 →
                Q 0 M153)))))) ∧
         (¬ r101 = 0 →
          Q 0 M102)))))) ∧
   (¬ (V_m_noCitizen p1 (wi M 190 0 0)) = 0 →
    W_m_throwsIf 1 1 N (wi M 190 0 0) (fun r199 M200 =>
      ((r199 = 0 →
        ((p1 = p2 →
          W_m_throwsIf 1 2 N M200 (fun r203 M204 =>
            ((r203 = 0 →
              (((V_m_isAlive p1 M204) = 0 →
                W_m_throwsIf 1 3 N M204 (fun r208 M209 =>
                  ((r208 = 0 →
                    W_m_remembers  N M209 (fun M212 =>
                      W_m_weds p1 p2 N M212 (fun M214 =>
                        Q (V_m_of p1 1 M214) M214))) ∧
                   (¬ r208 = 0 →
                    Q 0 M209)))) ∧
               (¬ (V_m_isAlive p1 M204) = 0 →
                (((V_m_isAlive p2 M204) = 0 →
                  W_m_throwsIf 1 3 N M204 (fun r217 M218 =>
                    ((r217 = 0 →
                      W_m_remembers  N M218 (fun M221 =>
                        W_m_weds p1 p2 N M221 (fun M223 =>
                          Q (V_m_of p1 1 M223) M223))) ∧
                     (¬ r217 = 0 →
                      Q 0 M218)))) ∧
                 (¬ (V_m_isAlive p2 M204) = 0 →
                  (((V_m_isSingle p1 M204) = 0 →
                    W_m_throwsIf 1 3 N M204 (fun r226 M227 =>
                      ((r226 = 0 →
                        W_m_remembers  N M227 (fun M230 =>
                          W_m_weds p1 p2 N M230 (fun M232 =>
                            Q (V_m_of p1 1 M232) M232))) ∧
                       (¬ r226 = 0 →
                        Q 0 M227)))) ∧
                   (¬ (V_m_isSingle p1 M204) = 0 →
                    (((V_m_isSingle p2 M204) = 0 →
                      W_m_throwsIf 1 3 N M204 (fun r235 M236 =>
                        ((r235 = 0 →
                          W_m_remembers  N M236 (fun M239 =>
                            W_m_weds p1 p2 N M239 (fun M241 =>
                              Q (V_m_of p1 1 M241) M241))) ∧
                         (¬ r235 = 0 →
                          Q 0 M236)))) ∧
                     (¬ (V_m_isSingle p2 M204) = 0 →
                      W_m_throwsIf 0 3 N M204 (fun r243 M244 =>
                        ((r243 = 0 →
                          W_m_remembers  N M244 (fun M247 =>
                            W_m_weds p1 p2 N M247 (fun M249 =>
                              Q (V_m_of p1 1 M249) M249))) ∧
                         (¬ r243 = 0 →
                          Q 0 M244)))))))))))) ∧
             (¬ r203 = 0 →
              Q 0 M204)))) ∧
         (¬ p1 = p2 →
          W_m_throwsIf 0 2 N M200 (fun r250 M251 =>
            ((r250 = 0 →
              (((V_m_isAlive p1 M251) = 0 →
                W_m_throwsIf 1 3 N M251 (fun r255 M256 =>
                  ((r255 = 0 →
                    W_m_remembers  N M256 (fun M259 =>
                      W_m_weds p1 p2 N M259 (fun M261 =>
                        Q (V_m_of p1 1 M261) M261))) ∧
                   (¬ r255 = 0 →
                    Q 0 M256)))) ∧
               (¬ (V_m_isAlive p1 M251) = 0 →
                (((V_m_isAlive p2 M251) = 0 →
                  W_m_throwsIf 1 3 N M251 (fun r264 M265 =>
                    ((r264 = 0 →
                      W_m_remembers  N M265 (fun M268 =>
                        W_m_weds p1 p2 N M268 (fun M270 =>
                          Q (V_m_of p1 1 M270) M270))) ∧
                     (¬ r264 = 0 →
                      Q 0 M265)))) ∧
                 (¬ (V_m_isAlive p2 M251) = 0 →
                  (((V_m_isSingle p1 M251) = 0 →
                    W_m_throwsIf 1 3 N M251 (fun r273 M274 =>
                      ((r273 = 0 →
                        W_m_remembers  N M274 (fun M277 =>
                          W_m_weds p1 p2 N M277 (fun M279 =>
                            Q (V_m_of p1 1 M279) M279))) ∧
                       (¬ r273 = 0 →
                        Q 0 M274)))) ∧
                   (¬ (V_m_isSingle p1 M251) = 0 →
                    (((V_m_isSingle p2 M251) = 0 →
                      W_m_throwsIf 1 3 N M251 (fun r282 M283 =>
                        ((r282 = 0 →
                          W_m_remembers  N M283 (fun M286 =>
                            W_m_weds p1 p2 N M286 (fun M288 =>
                              Q (V_m_of p1 1 M288) M288))) ∧
                         (¬ r282 = 0 →
                          Q 0 M283)))) ∧
                     (¬ (V_m_isSingle p2 M251) = 0 →
                      W_m_throwsIf 0 3 N M251 (fun r290 M291 =>
                        ((r290 = 0 →
                          W_m_remembers  N M291 (fun M294 =>
                            W_m_weds p1 p2 N M294 (fun M296 =>
                              Q (V_m_of p1 1 M296) M296))) ∧
                         (¬ r290 = 0 →
                          Q 0 M291)))))))))))) ∧
             (¬ r250 = 0 →
              Q 0 M251)))))) ∧
       (¬ r199 = 0 →
        Q 0 M200)))))
theorem q_m_wed {X : Option (List AI)} {N : Nat} {M : MM} {p1 : Int32} {p2 : Int32} {Q : Int32 → MM → Prop}  (h : W_m_wed p1 p2 N M Q) : pM X N 264 0 (ea_ar 0 [.inr (.inl (some 190)), .inl (.inl p1), .inl (.inl p2)]) [] M (Ri Q) := by
  refine pM_w (F2 := [(0, .inr (.inl (some 190))), (1, .inl (.inl p1)), (2, .inl (.inl p2))]) (fun L hL => lo_cons (lo_lk hL rfl) (lo_cons (lo_lk hL rfl) (lo_cons (lo_lk hL rfl) lo_nil))) ?_
  refine pM_aln rfl rfl rfl ?_
  refine pM_ic rfl ki_0 ?_
  refine pM_pi rfl rfl rfl rfl ?_
  refine pM_aln rfl rfl rfl ?_
  refine pM_aln rfl rfl rfl ?_
  refine pM_iln rfl rfl ?_
  refine pM_qVi (as := [.inr (.inl (some 190)), .inl (.inl p1)]) (T := [.inr (.inl (some 190))]) rfl rfl (fun C hC => cl_v hC rfl rfl rfl rfl) rfl (q_m_noCitizen ) ?_
  refine pM_zne rfl rfl (fun h1 => ?_) (fun h1 => ?_)
  · replace h := h.2 h1
    refine pM_ic rfl ki_1 ?_
    refine pM_go rfl rfl ?_
    refine pM_ic rfl ki_1 ?_
    refine pM_qRi (as := [.inr (.inl (some 190)), .inl (.inl 1), .inl (.inl 1)]) (T := []) rfl rfl (fun C hC => cl_v hC rfl rfl rfl rfl) rfl (q_m_throwsIf  h) (fun r199 M200 h => ?_)
    refine pM_zne rfl rfl (fun h201 => ?_) (fun h201 => ?_)
    · replace h := h.2 h201
      refine pM_ic rfl ki_0 ?_
      exact pM_ri rfl (⟨_, rfl, h⟩)
    · replace h := h.1 h201
      refine pM_aln rfl rfl rfl ?_
      refine pM_iln rfl rfl ?_
      refine pM_iln rfl rfl ?_
      refine pM_cne rfl rfl (fun h202 => ?_) (fun h202 => ?_)
      · replace h := h.2 h202
        refine pM_ic rfl ki_0 ?_
        refine pM_ic rfl ki_2 ?_
        refine pM_qRi (as := [.inr (.inl (some 190)), .inl (.inl 0), .inl (.inl 2)]) (T := []) rfl rfl (fun C hC => cl_v hC rfl rfl rfl rfl) rfl (q_m_throwsIf  h) (fun r250 M251 h => ?_)
        refine pM_zeq rfl rfl (fun h252 => ?_) (fun h252 => ?_)
        · replace h := h.1 h252
          refine pM_aln rfl rfl rfl ?_
          refine pM_iln rfl rfl ?_
          refine pM_qVi (as := [.inr (.inl (some 190)), .inl (.inl p1)]) (T := []) rfl rfl (fun C hC => cl_v hC rfl rfl rfl rfl) rfl (q_m_isAlive ) ?_
          refine pM_zeq rfl rfl (fun h253 => ?_) (fun h253 => ?_)
          · replace h := h.1 h253
            refine pM_ic rfl ki_0 ?_
            refine pM_isn rfl rfl ?_
            refine pM_aln rfl rfl rfl ?_
            refine pM_iln rfl rfl ?_
            refine pM_zne rfl rfl (fun h254 => ?_) (fun h254 => ?_)
            · exact absurd (by decide) h254
            · refine pM_ic rfl ki_1 ?_
              refine pM_go rfl rfl ?_
              refine pM_ic rfl ki_3 ?_
              refine pM_qRi (as := [.inr (.inl (some 190)), .inl (.inl 1), .inl (.inl 3)]) (T := []) rfl rfl (fun C hC => cl_v hC rfl rfl rfl rfl) rfl (q_m_throwsIf  h) (fun r255 M256 h => ?_)
              refine pM_zeq rfl rfl (fun h257 => ?_) (fun h257 => ?_)
              · replace h := h.1 h257
                refine pM_aln rfl rfl rfl ?_
                refine pM_qRu (as := [.inr (.inl (some 190))]) (T := []) rfl rfl (fun C hC => cl_v hC rfl rfl rfl rfl) rfl (q_m_remembers  h) (fun M259 h => ?_)
                refine pM_aln rfl rfl rfl ?_
                refine pM_iln rfl rfl ?_
                refine pM_iln rfl rfl ?_
                refine pM_qRu (as := [.inr (.inl (some 190)), .inl (.inl p1), .inl (.inl p2)]) (T := []) rfl rfl (fun C hC => cl_v hC rfl rfl rfl rfl) rfl (q_m_weds  h) (fun M261 h => ?_)
                refine pM_aln rfl rfl rfl ?_
                refine pM_iln rfl rfl ?_
                refine pM_ic rfl ki_1 ?_
                refine pM_qVi (as := [.inr (.inl (some 190)), .inl (.inl p1), .inl (.inl 1)]) (T := []) rfl rfl (fun C hC => cl_v hC rfl rfl rfl rfl) rfl (q_m_of ) ?_
                exact pM_ri rfl (⟨_, rfl, h⟩)
              · replace h := h.2 h257
                refine pM_ic rfl ki_0 ?_
                exact pM_ri rfl (⟨_, rfl, h⟩)
          · replace h := h.2 h253
            refine pM_aln rfl rfl rfl ?_
            refine pM_iln rfl rfl ?_
            refine pM_qVi (as := [.inr (.inl (some 190)), .inl (.inl p2)]) (T := []) rfl rfl (fun C hC => cl_v hC rfl rfl rfl rfl) rfl (q_m_isAlive ) ?_
            refine pM_zeq rfl rfl (fun h262 => ?_) (fun h262 => ?_)
            · replace h := h.1 h262
              refine pM_ic rfl ki_0 ?_
              refine pM_isn rfl rfl ?_
              refine pM_aln rfl rfl rfl ?_
              refine pM_iln rfl rfl ?_
              refine pM_zne rfl rfl (fun h263 => ?_) (fun h263 => ?_)
              · exact absurd (by decide) h263
              · refine pM_ic rfl ki_1 ?_
                refine pM_go rfl rfl ?_
                refine pM_ic rfl ki_3 ?_
                refine pM_qRi (as := [.inr (.inl (some 190)), .inl (.inl 1), .inl (.inl 3)]) (T := []) rfl rfl (fun C hC => cl_v hC rfl rfl rfl rfl) rfl (q_m_throwsIf  h) (fun r264 M265 h => ?_)
                refine pM_zeq rfl rfl (fun h266 => ?_) (fun h266 => ?_)
                · replace h := h.1 h266
                  refine pM_aln rfl rfl rfl ?_
                  refine pM_qRu (as := [.inr (.inl (some 190))]) (T := []) rfl rfl (fun C hC => cl_v hC rfl rfl rfl rfl) rfl (q_m_remembers  h) (fun M268 h => ?_)
                  refine pM_aln rfl rfl rfl ?_
                  refine pM_iln rfl rfl ?_
                  refine pM_iln rfl rfl ?_
                  refine pM_qRu (as := [.inr (.inl (some 190)), .inl (.inl p1), .inl (.inl p2)]) (T := []) rfl rfl (fun C hC => cl_v hC rfl rfl rfl rfl) rfl (q_m_weds  h) (fun M270 h => ?_)
                  refine pM_aln rfl rfl rfl ?_
                  refine pM_iln rfl rfl ?_
                  refine pM_ic rfl ki_1 ?_
                  refine pM_qVi (as := [.inr (.inl (some 190)), .inl (.inl p1), .inl (.inl 1)]) (T := []) rfl rfl (fun C hC => cl_v hC rfl rfl rfl rfl) rfl (q_m_of ) ?_
                  exact pM_ri rfl (⟨_, rfl, h⟩)
                · replace h := h.2 h266
                  refine pM_ic rfl ki_0 ?_
                  exact pM_ri rfl (⟨_, rfl, h⟩)
            · replace h := h.2 h262
              refine pM_aln rfl rfl rfl ?_
              refine pM_iln rfl rfl ?_
              refine pM_qVi (as := [.inr (.inl (some 190)), .inl (.inl p1)]) (T := []) rfl rfl (fun C hC => cl_v hC rfl rfl rfl rfl) rfl (q_m_isSingle ) ?_
              refine pM_zeq rfl rfl (fun h271 => ?_) (fun h271 => ?_)
              · replace h := h.1 h271
                refine pM_ic rfl ki_0 ?_
                refine pM_isn rfl rfl ?_
                refine pM_aln rfl rfl rfl ?_
                refine pM_iln rfl rfl ?_
                refine pM_zne rfl rfl (fun h272 => ?_) (fun h272 => ?_)
                · exact absurd (by decide) h272
                · refine pM_ic rfl ki_1 ?_
                  refine pM_go rfl rfl ?_
                  refine pM_ic rfl ki_3 ?_
                  refine pM_qRi (as := [.inr (.inl (some 190)), .inl (.inl 1), .inl (.inl 3)]) (T := []) rfl rfl (fun C hC => cl_v hC rfl rfl rfl rfl) rfl (q_m_throwsIf  h) (fun r273 M274 h => ?_)
                  refine pM_zeq rfl rfl (fun h275 => ?_) (fun h275 => ?_)
                  · replace h := h.1 h275
                    refine pM_aln rfl rfl rfl ?_
                    refine pM_qRu (as := [.inr (.inl (some 190))]) (T := []) rfl rfl (fun C hC => cl_v hC rfl rfl rfl rfl) rfl (q_m_remembers  h) (fun M277 h => ?_)
                    refine pM_aln rfl rfl rfl ?_
                    refine pM_iln rfl rfl ?_
                    refine pM_iln rfl rfl ?_
                    refine pM_qRu (as := [.inr (.inl (some 190)), .inl (.inl p1), .inl (.inl p2)]) (T := []) rfl rfl (fun C hC => cl_v hC rfl rfl rfl rfl) rfl (q_m_weds  h) (fun M279 h => ?_)
                    refine pM_aln rfl rfl rfl ?_
                    refine pM_iln rfl rfl ?_
                    refine pM_ic rfl ki_1 ?_
                    refine pM_qVi (as := [.inr (.inl (some 190)), .inl (.inl p1), .inl (.inl 1)]) (T := []) rfl rfl (fun C hC => cl_v hC rfl rfl rfl rfl) rfl (q_m_of ) ?_
                    exact pM_ri rfl (⟨_, rfl, h⟩)
                  · replace h := h.2 h275
                    refine pM_ic rfl ki_0 ?_
                    exact pM_ri rfl (⟨_, rfl, h⟩)
              · replace h := h.2 h271
                refine pM_aln rfl rfl rfl ?_
                refine pM_iln rfl rfl ?_
                refine pM_qVi (as := [.inr (.inl (some 190)), .inl (.inl p2)]) (T := []) rfl rfl (fun C hC => cl_v hC rfl rfl rfl rfl) rfl (q_m_isSingle ) ?_
                refine pM_zeq rfl rfl (fun h280 => ?_) (fun h280 => ?_)
                · replace h := h.1 h280
                  refine pM_ic rfl ki_0 ?_
                  refine pM_isn rfl rfl ?_
                  refine pM_aln rfl rfl rfl ?_
                  refine pM_iln rfl rfl ?_
                  refine pM_zne rfl rfl (fun h281 => ?_) (fun h281 => ?_)
                  · exact absurd (by decide) h281
                  · refine pM_ic rfl ki_1 ?_
                    refine pM_go rfl rfl ?_
                    refine pM_ic rfl ki_3 ?_
                    refine pM_qRi (as := [.inr (.inl (some 190)), .inl (.inl 1), .inl (.inl 3)]) (T := []) rfl rfl (fun C hC => cl_v hC rfl rfl rfl rfl) rfl (q_m_throwsIf  h) (fun r282 M283 h => ?_)
                    refine pM_zeq rfl rfl (fun h284 => ?_) (fun h284 => ?_)
                    · replace h := h.1 h284
                      refine pM_aln rfl rfl rfl ?_
                      refine pM_qRu (as := [.inr (.inl (some 190))]) (T := []) rfl rfl (fun C hC => cl_v hC rfl rfl rfl rfl) rfl (q_m_remembers  h) (fun M286 h => ?_)
                      refine pM_aln rfl rfl rfl ?_
                      refine pM_iln rfl rfl ?_
                      refine pM_iln rfl rfl ?_
                      refine pM_qRu (as := [.inr (.inl (some 190)), .inl (.inl p1), .inl (.inl p2)]) (T := []) rfl rfl (fun C hC => cl_v hC rfl rfl rfl rfl) rfl (q_m_weds  h) (fun M288 h => ?_)
                      refine pM_aln rfl rfl rfl ?_
                      refine pM_iln rfl rfl ?_
                      refine pM_ic rfl ki_1 ?_
                      refine pM_qVi (as := [.inr (.inl (some 190)), .inl (.inl p1), .inl (.inl 1)]) (T := []) rfl rfl (fun C hC => cl_v hC rfl rfl rfl rfl) rfl (q_m_of ) ?_
                      exact pM_ri rfl (⟨_, rfl, h⟩)
                    · replace h := h.2 h284
                      refine pM_ic rfl ki_0 ?_
                      exact pM_ri rfl (⟨_, rfl, h⟩)
                · replace h := h.2 h280
                  refine pM_ic rfl ki_1 ?_
                  refine pM_go rfl rfl ?_
                  refine pM_isn rfl rfl ?_
                  refine pM_aln rfl rfl rfl ?_
                  refine pM_iln rfl rfl ?_
                  refine pM_zne rfl rfl (fun h289 => ?_) (fun h289 => ?_)
                  · refine pM_ic rfl ki_0 ?_
                    refine pM_ic rfl ki_3 ?_
                    refine pM_qRi (as := [.inr (.inl (some 190)), .inl (.inl 0), .inl (.inl 3)]) (T := []) rfl rfl (fun C hC => cl_v hC rfl rfl rfl rfl) rfl (q_m_throwsIf  h) (fun r290 M291 h => ?_)
                    refine pM_zeq rfl rfl (fun h292 => ?_) (fun h292 => ?_)
                    · replace h := h.1 h292
                      refine pM_aln rfl rfl rfl ?_
                      refine pM_qRu (as := [.inr (.inl (some 190))]) (T := []) rfl rfl (fun C hC => cl_v hC rfl rfl rfl rfl) rfl (q_m_remembers  h) (fun M294 h => ?_)
                      refine pM_aln rfl rfl rfl ?_
                      refine pM_iln rfl rfl ?_
                      refine pM_iln rfl rfl ?_
                      refine pM_qRu (as := [.inr (.inl (some 190)), .inl (.inl p1), .inl (.inl p2)]) (T := []) rfl rfl (fun C hC => cl_v hC rfl rfl rfl rfl) rfl (q_m_weds  h) (fun M296 h => ?_)
                      refine pM_aln rfl rfl rfl ?_
                      refine pM_iln rfl rfl ?_
                      refine pM_ic rfl ki_1 ?_
                      refine pM_qVi (as := [.inr (.inl (some 190)), .inl (.inl p1), .inl (.inl 1)]) (T := []) rfl rfl (fun C hC => cl_v hC rfl rfl rfl rfl) rfl (q_m_of ) ?_
                      exact pM_ri rfl (⟨_, rfl, h⟩)
                    · replace h := h.2 h292
                      refine pM_ic rfl ki_0 ?_
                      exact pM_ri rfl (⟨_, rfl, h⟩)
                  · exact absurd h289 (by decide)
        · replace h := h.2 h252
          refine pM_ic rfl ki_0 ?_
          exact pM_ri rfl (⟨_, rfl, h⟩)
      · replace h := h.1 h202
        refine pM_ic rfl ki_1 ?_
        refine pM_go rfl rfl ?_
        refine pM_ic rfl ki_2 ?_
        refine pM_qRi (as := [.inr (.inl (some 190)), .inl (.inl 1), .inl (.inl 2)]) (T := []) rfl rfl (fun C hC => cl_v hC rfl rfl rfl rfl) rfl (q_m_throwsIf  h) (fun r203 M204 h => ?_)
        refine pM_zeq rfl rfl (fun h205 => ?_) (fun h205 => ?_)
        · replace h := h.1 h205
          refine pM_aln rfl rfl rfl ?_
          refine pM_iln rfl rfl ?_
          refine pM_qVi (as := [.inr (.inl (some 190)), .inl (.inl p1)]) (T := []) rfl rfl (fun C hC => cl_v hC rfl rfl rfl rfl) rfl (q_m_isAlive ) ?_
          refine pM_zeq rfl rfl (fun h206 => ?_) (fun h206 => ?_)
          · replace h := h.1 h206
            refine pM_ic rfl ki_0 ?_
            refine pM_isn rfl rfl ?_
            refine pM_aln rfl rfl rfl ?_
            refine pM_iln rfl rfl ?_
            refine pM_zne rfl rfl (fun h207 => ?_) (fun h207 => ?_)
            · exact absurd (by decide) h207
            · refine pM_ic rfl ki_1 ?_
              refine pM_go rfl rfl ?_
              refine pM_ic rfl ki_3 ?_
              refine pM_qRi (as := [.inr (.inl (some 190)), .inl (.inl 1), .inl (.inl 3)]) (T := []) rfl rfl (fun C hC => cl_v hC rfl rfl rfl rfl) rfl (q_m_throwsIf  h) (fun r208 M209 h => ?_)
              refine pM_zeq rfl rfl (fun h210 => ?_) (fun h210 => ?_)
              · replace h := h.1 h210
                refine pM_aln rfl rfl rfl ?_
                refine pM_qRu (as := [.inr (.inl (some 190))]) (T := []) rfl rfl (fun C hC => cl_v hC rfl rfl rfl rfl) rfl (q_m_remembers  h) (fun M212 h => ?_)
                refine pM_aln rfl rfl rfl ?_
                refine pM_iln rfl rfl ?_
                refine pM_iln rfl rfl ?_
                refine pM_qRu (as := [.inr (.inl (some 190)), .inl (.inl p1), .inl (.inl p2)]) (T := []) rfl rfl (fun C hC => cl_v hC rfl rfl rfl rfl) rfl (q_m_weds  h) (fun M214 h => ?_)
                refine pM_aln rfl rfl rfl ?_
                refine pM_iln rfl rfl ?_
                refine pM_ic rfl ki_1 ?_
                refine pM_qVi (as := [.inr (.inl (some 190)), .inl (.inl p1), .inl (.inl 1)]) (T := []) rfl rfl (fun C hC => cl_v hC rfl rfl rfl rfl) rfl (q_m_of ) ?_
                exact pM_ri rfl (⟨_, rfl, h⟩)
              · replace h := h.2 h210
                refine pM_ic rfl ki_0 ?_
                exact pM_ri rfl (⟨_, rfl, h⟩)
          · replace h := h.2 h206
            refine pM_aln rfl rfl rfl ?_
            refine pM_iln rfl rfl ?_
            refine pM_qVi (as := [.inr (.inl (some 190)), .inl (.inl p2)]) (T := []) rfl rfl (fun C hC => cl_v hC rfl rfl rfl rfl) rfl (q_m_isAlive ) ?_
            refine pM_zeq rfl rfl (fun h215 => ?_) (fun h215 => ?_)
            · replace h := h.1 h215
              refine pM_ic rfl ki_0 ?_
              refine pM_isn rfl rfl ?_
              refine pM_aln rfl rfl rfl ?_
              refine pM_iln rfl rfl ?_
              refine pM_zne rfl rfl (fun h216 => ?_) (fun h216 => ?_)
              · exact absurd (by decide) h216
              · refine pM_ic rfl ki_1 ?_
                refine pM_go rfl rfl ?_
                refine pM_ic rfl ki_3 ?_
                refine pM_qRi (as := [.inr (.inl (some 190)), .inl (.inl 1), .inl (.inl 3)]) (T := []) rfl rfl (fun C hC => cl_v hC rfl rfl rfl rfl) rfl (q_m_throwsIf  h) (fun r217 M218 h => ?_)
                refine pM_zeq rfl rfl (fun h219 => ?_) (fun h219 => ?_)
                · replace h := h.1 h219
                  refine pM_aln rfl rfl rfl ?_
                  refine pM_qRu (as := [.inr (.inl (some 190))]) (T := []) rfl rfl (fun C hC => cl_v hC rfl rfl rfl rfl) rfl (q_m_remembers  h) (fun M221 h => ?_)
                  refine pM_aln rfl rfl rfl ?_
                  refine pM_iln rfl rfl ?_
                  refine pM_iln rfl rfl ?_
                  refine pM_qRu (as := [.inr (.inl (some 190)), .inl (.inl p1), .inl (.inl p2)]) (T := []) rfl rfl (fun C hC => cl_v hC rfl rfl rfl rfl) rfl (q_m_weds  h) (fun M223 h => ?_)
                  refine pM_aln rfl rfl rfl ?_
                  refine pM_iln rfl rfl ?_
                  refine pM_ic rfl ki_1 ?_
                  refine pM_qVi (as := [.inr (.inl (some 190)), .inl (.inl p1), .inl (.inl 1)]) (T := []) rfl rfl (fun C hC => cl_v hC rfl rfl rfl rfl) rfl (q_m_of ) ?_
                  exact pM_ri rfl (⟨_, rfl, h⟩)
                · replace h := h.2 h219
                  refine pM_ic rfl ki_0 ?_
                  exact pM_ri rfl (⟨_, rfl, h⟩)
            · replace h := h.2 h215
              refine pM_aln rfl rfl rfl ?_
              refine pM_iln rfl rfl ?_
              refine pM_qVi (as := [.inr (.inl (some 190)), .inl (.inl p1)]) (T := []) rfl rfl (fun C hC => cl_v hC rfl rfl rfl rfl) rfl (q_m_isSingle ) ?_
              refine pM_zeq rfl rfl (fun h224 => ?_) (fun h224 => ?_)
              · replace h := h.1 h224
                refine pM_ic rfl ki_0 ?_
                refine pM_isn rfl rfl ?_
                refine pM_aln rfl rfl rfl ?_
                refine pM_iln rfl rfl ?_
                refine pM_zne rfl rfl (fun h225 => ?_) (fun h225 => ?_)
                · exact absurd (by decide) h225
                · refine pM_ic rfl ki_1 ?_
                  refine pM_go rfl rfl ?_
                  refine pM_ic rfl ki_3 ?_
                  refine pM_qRi (as := [.inr (.inl (some 190)), .inl (.inl 1), .inl (.inl 3)]) (T := []) rfl rfl (fun C hC => cl_v hC rfl rfl rfl rfl) rfl (q_m_throwsIf  h) (fun r226 M227 h => ?_)
                  refine pM_zeq rfl rfl (fun h228 => ?_) (fun h228 => ?_)
                  · replace h := h.1 h228
                    refine pM_aln rfl rfl rfl ?_
                    refine pM_qRu (as := [.inr (.inl (some 190))]) (T := []) rfl rfl (fun C hC => cl_v hC rfl rfl rfl rfl) rfl (q_m_remembers  h) (fun M230 h => ?_)
                    refine pM_aln rfl rfl rfl ?_
                    refine pM_iln rfl rfl ?_
                    refine pM_iln rfl rfl ?_
                    refine pM_qRu (as := [.inr (.inl (some 190)), .inl (.inl p1), .inl (.inl p2)]) (T := []) rfl rfl (fun C hC => cl_v hC rfl rfl rfl rfl) rfl (q_m_weds  h) (fun M232 h => ?_)
                    refine pM_aln rfl rfl rfl ?_
                    refine pM_iln rfl rfl ?_
                    refine pM_ic rfl ki_1 ?_
                    refine pM_qVi (as := [.inr (.inl (some 190)), .inl (.inl p1), .inl (.inl 1)]) (T := []) rfl rfl (fun C hC => cl_v hC rfl rfl rfl rfl) rfl (q_m_of ) ?_
                    exact pM_ri rfl (⟨_, rfl, h⟩)
                  · replace h := h.2 h228
                    refine pM_ic rfl ki_0 ?_
                    exact pM_ri rfl (⟨_, rfl, h⟩)
              · replace h := h.2 h224
                refine pM_aln rfl rfl rfl ?_
                refine pM_iln rfl rfl ?_
                refine pM_qVi (as := [.inr (.inl (some 190)), .inl (.inl p2)]) (T := []) rfl rfl (fun C hC => cl_v hC rfl rfl rfl rfl) rfl (q_m_isSingle ) ?_
                refine pM_zeq rfl rfl (fun h233 => ?_) (fun h233 => ?_)
                · replace h := h.1 h233
                  refine pM_ic rfl ki_0 ?_
                  refine pM_isn rfl rfl ?_
                  refine pM_aln rfl rfl rfl ?_
                  refine pM_iln rfl rfl ?_
                  refine pM_zne rfl rfl (fun h234 => ?_) (fun h234 => ?_)
                  · exact absurd (by decide) h234
                  · refine pM_ic rfl ki_1 ?_
                    refine pM_go rfl rfl ?_
                    refine pM_ic rfl ki_3 ?_
                    refine pM_qRi (as := [.inr (.inl (some 190)), .inl (.inl 1), .inl (.inl 3)]) (T := []) rfl rfl (fun C hC => cl_v hC rfl rfl rfl rfl) rfl (q_m_throwsIf  h) (fun r235 M236 h => ?_)
                    refine pM_zeq rfl rfl (fun h237 => ?_) (fun h237 => ?_)
                    · replace h := h.1 h237
                      refine pM_aln rfl rfl rfl ?_
                      refine pM_qRu (as := [.inr (.inl (some 190))]) (T := []) rfl rfl (fun C hC => cl_v hC rfl rfl rfl rfl) rfl (q_m_remembers  h) (fun M239 h => ?_)
                      refine pM_aln rfl rfl rfl ?_
                      refine pM_iln rfl rfl ?_
                      refine pM_iln rfl rfl ?_
                      refine pM_qRu (as := [.inr (.inl (some 190)), .inl (.inl p1), .inl (.inl p2)]) (T := []) rfl rfl (fun C hC => cl_v hC rfl rfl rfl rfl) rfl (q_m_weds  h) (fun M241 h => ?_)
                      refine pM_aln rfl rfl rfl ?_
                      refine pM_iln rfl rfl ?_
                      refine pM_ic rfl ki_1 ?_
                      refine pM_qVi (as := [.inr (.inl (some 190)), .inl (.inl p1), .inl (.inl 1)]) (T := []) rfl rfl (fun C hC => cl_v hC rfl rfl rfl rfl) rfl (q_m_of ) ?_
                      exact pM_ri rfl (⟨_, rfl, h⟩)
                    · replace h := h.2 h237
                      refine pM_ic rfl ki_0 ?_
                      exact pM_ri rfl (⟨_, rfl, h⟩)
                · replace h := h.2 h233
                  refine pM_ic rfl ki_1 ?_
                  refine pM_go rfl rfl ?_
                  refine pM_isn rfl rfl ?_
                  refine pM_aln rfl rfl rfl ?_
                  refine pM_iln rfl rfl ?_
                  refine pM_zne rfl rfl (fun h242 => ?_) (fun h242 => ?_)
                  · refine pM_ic rfl ki_0 ?_
                    refine pM_ic rfl ki_3 ?_
                    refine pM_qRi (as := [.inr (.inl (some 190)), .inl (.inl 0), .inl (.inl 3)]) (T := []) rfl rfl (fun C hC => cl_v hC rfl rfl rfl rfl) rfl (q_m_throwsIf  h) (fun r243 M244 h => ?_)
                    refine pM_zeq rfl rfl (fun h245 => ?_) (fun h245 => ?_)
                    · replace h := h.1 h245
                      refine pM_aln rfl rfl rfl ?_
                      refine pM_qRu (as := [.inr (.inl (some 190))]) (T := []) rfl rfl (fun C hC => cl_v hC rfl rfl rfl rfl) rfl (q_m_remembers  h) (fun M247 h => ?_)
                      refine pM_aln rfl rfl rfl ?_
                      refine pM_iln rfl rfl ?_
                      refine pM_iln rfl rfl ?_
                      refine pM_qRu (as := [.inr (.inl (some 190)), .inl (.inl p1), .inl (.inl p2)]) (T := []) rfl rfl (fun C hC => cl_v hC rfl rfl rfl rfl) rfl (q_m_weds  h) (fun M249 h => ?_)
                      refine pM_aln rfl rfl rfl ?_
                      refine pM_iln rfl rfl ?_
                      refine pM_ic rfl ki_1 ?_
                      refine pM_qVi (as := [.inr (.inl (some 190)), .inl (.inl p1), .inl (.inl 1)]) (T := []) rfl rfl (fun C hC => cl_v hC rfl rfl rfl rfl) rfl (q_m_of ) ?_
                      exact pM_ri rfl (⟨_, rfl, h⟩)
                    · replace h := h.2 h245
                      refine pM_ic rfl ki_0 ?_
                      exact pM_ri rfl (⟨_, rfl, h⟩)
                  · exact absurd h242 (by decide)
        · replace h := h.2 h205
          refine pM_ic rfl ki_0 ?_
          exact pM_ri rfl (⟨_, rfl, h⟩)
  · replace h := h.1 h1
    refine pM_aln rfl rfl rfl ?_
    refine pM_iln rfl rfl ?_
    refine pM_qVi (as := [.inr (.inl (some 190)), .inl (.inl p2)]) (T := [.inr (.inl (some 190))]) rfl rfl (fun C hC => cl_v hC rfl rfl rfl rfl) rfl (q_m_noCitizen ) ?_
    refine pM_zeq rfl rfl (fun h2 => ?_) (fun h2 => ?_)
    · replace h := h.1 h2
      refine pM_ic rfl ki_0 ?_
      refine pM_ic rfl ki_1 ?_
      refine pM_qRi (as := [.inr (.inl (some 190)), .inl (.inl 0), .inl (.inl 1)]) (T := []) rfl rfl (fun C hC => cl_v hC rfl rfl rfl rfl) rfl (q_m_throwsIf  h) (fun r3 M4 h => ?_)
      refine pM_zne rfl rfl (fun h5 => ?_) (fun h5 => ?_)
      · replace h := h.2 h5
        refine pM_ic rfl ki_0 ?_
        exact pM_ri rfl (⟨_, rfl, h⟩)
      · replace h := h.1 h5
        refine pM_aln rfl rfl rfl ?_
        refine pM_iln rfl rfl ?_
        refine pM_iln rfl rfl ?_
        refine pM_cne rfl rfl (fun h6 => ?_) (fun h6 => ?_)
        · replace h := h.2 h6
          refine pM_ic rfl ki_0 ?_
          refine pM_ic rfl ki_2 ?_
          refine pM_qRi (as := [.inr (.inl (some 190)), .inl (.inl 0), .inl (.inl 2)]) (T := []) rfl rfl (fun C hC => cl_v hC rfl rfl rfl rfl) rfl (q_m_throwsIf  h) (fun r54 M55 h => ?_)
          refine pM_zeq rfl rfl (fun h56 => ?_) (fun h56 => ?_)
          · replace h := h.1 h56
            refine pM_aln rfl rfl rfl ?_
            refine pM_iln rfl rfl ?_
            refine pM_qVi (as := [.inr (.inl (some 190)), .inl (.inl p1)]) (T := []) rfl rfl (fun C hC => cl_v hC rfl rfl rfl rfl) rfl (q_m_isAlive ) ?_
            refine pM_zeq rfl rfl (fun h57 => ?_) (fun h57 => ?_)
            · replace h := h.1 h57
              refine pM_ic rfl ki_0 ?_
              refine pM_isn rfl rfl ?_
              refine pM_aln rfl rfl rfl ?_
              refine pM_iln rfl rfl ?_
              refine pM_zne rfl rfl (fun h58 => ?_) (fun h58 => ?_)
              · exact absurd (by decide) h58
              · refine pM_ic rfl ki_1 ?_
                refine pM_go rfl rfl ?_
                refine pM_ic rfl ki_3 ?_
                refine pM_qRi (as := [.inr (.inl (some 190)), .inl (.inl 1), .inl (.inl 3)]) (T := []) rfl rfl (fun C hC => cl_v hC rfl rfl rfl rfl) rfl (q_m_throwsIf  h) (fun r59 M60 h => ?_)
                refine pM_zeq rfl rfl (fun h61 => ?_) (fun h61 => ?_)
                · replace h := h.1 h61
                  refine pM_aln rfl rfl rfl ?_
                  refine pM_qRu (as := [.inr (.inl (some 190))]) (T := []) rfl rfl (fun C hC => cl_v hC rfl rfl rfl rfl) rfl (q_m_remembers  h) (fun M63 h => ?_)
                  refine pM_aln rfl rfl rfl ?_
                  refine pM_iln rfl rfl ?_
                  refine pM_iln rfl rfl ?_
                  refine pM_qRu (as := [.inr (.inl (some 190)), .inl (.inl p1), .inl (.inl p2)]) (T := []) rfl rfl (fun C hC => cl_v hC rfl rfl rfl rfl) rfl (q_m_weds  h) (fun M65 h => ?_)
                  refine pM_aln rfl rfl rfl ?_
                  refine pM_iln rfl rfl ?_
                  refine pM_ic rfl ki_1 ?_
                  refine pM_qVi (as := [.inr (.inl (some 190)), .inl (.inl p1), .inl (.inl 1)]) (T := []) rfl rfl (fun C hC => cl_v hC rfl rfl rfl rfl) rfl (q_m_of ) ?_
                  exact pM_ri rfl (⟨_, rfl, h⟩)
                · replace h := h.2 h61
                  refine pM_ic rfl ki_0 ?_
                  exact pM_ri rfl (⟨_, rfl, h⟩)
            · replace h := h.2 h57
              refine pM_aln rfl rfl rfl ?_
              refine pM_iln rfl rfl ?_
              refine pM_qVi (as := [.inr (.inl (some 190)), .inl (.inl p2)]) (T := []) rfl rfl (fun C hC => cl_v hC rfl rfl rfl rfl) rfl (q_m_isAlive ) ?_
              refine pM_zeq rfl rfl (fun h66 => ?_) (fun h66 => ?_)
              · replace h := h.1 h66
                refine pM_ic rfl ki_0 ?_
                refine pM_isn rfl rfl ?_
                refine pM_aln rfl rfl rfl ?_
                refine pM_iln rfl rfl ?_
                refine pM_zne rfl rfl (fun h67 => ?_) (fun h67 => ?_)
                · exact absurd (by decide) h67
                · refine pM_ic rfl ki_1 ?_
                  refine pM_go rfl rfl ?_
                  refine pM_ic rfl ki_3 ?_
                  refine pM_qRi (as := [.inr (.inl (some 190)), .inl (.inl 1), .inl (.inl 3)]) (T := []) rfl rfl (fun C hC => cl_v hC rfl rfl rfl rfl) rfl (q_m_throwsIf  h) (fun r68 M69 h => ?_)
                  refine pM_zeq rfl rfl (fun h70 => ?_) (fun h70 => ?_)
                  · replace h := h.1 h70
                    refine pM_aln rfl rfl rfl ?_
                    refine pM_qRu (as := [.inr (.inl (some 190))]) (T := []) rfl rfl (fun C hC => cl_v hC rfl rfl rfl rfl) rfl (q_m_remembers  h) (fun M72 h => ?_)
                    refine pM_aln rfl rfl rfl ?_
                    refine pM_iln rfl rfl ?_
                    refine pM_iln rfl rfl ?_
                    refine pM_qRu (as := [.inr (.inl (some 190)), .inl (.inl p1), .inl (.inl p2)]) (T := []) rfl rfl (fun C hC => cl_v hC rfl rfl rfl rfl) rfl (q_m_weds  h) (fun M74 h => ?_)
                    refine pM_aln rfl rfl rfl ?_
                    refine pM_iln rfl rfl ?_
                    refine pM_ic rfl ki_1 ?_
                    refine pM_qVi (as := [.inr (.inl (some 190)), .inl (.inl p1), .inl (.inl 1)]) (T := []) rfl rfl (fun C hC => cl_v hC rfl rfl rfl rfl) rfl (q_m_of ) ?_
                    exact pM_ri rfl (⟨_, rfl, h⟩)
                  · replace h := h.2 h70
                    refine pM_ic rfl ki_0 ?_
                    exact pM_ri rfl (⟨_, rfl, h⟩)
              · replace h := h.2 h66
                refine pM_aln rfl rfl rfl ?_
                refine pM_iln rfl rfl ?_
                refine pM_qVi (as := [.inr (.inl (some 190)), .inl (.inl p1)]) (T := []) rfl rfl (fun C hC => cl_v hC rfl rfl rfl rfl) rfl (q_m_isSingle ) ?_
                refine pM_zeq rfl rfl (fun h75 => ?_) (fun h75 => ?_)
                · replace h := h.1 h75
                  refine pM_ic rfl ki_0 ?_
                  refine pM_isn rfl rfl ?_
                  refine pM_aln rfl rfl rfl ?_
                  refine pM_iln rfl rfl ?_
                  refine pM_zne rfl rfl (fun h76 => ?_) (fun h76 => ?_)
                  · exact absurd (by decide) h76
                  · refine pM_ic rfl ki_1 ?_
                    refine pM_go rfl rfl ?_
                    refine pM_ic rfl ki_3 ?_
                    refine pM_qRi (as := [.inr (.inl (some 190)), .inl (.inl 1), .inl (.inl 3)]) (T := []) rfl rfl (fun C hC => cl_v hC rfl rfl rfl rfl) rfl (q_m_throwsIf  h) (fun r77 M78 h => ?_)
                    refine pM_zeq rfl rfl (fun h79 => ?_) (fun h79 => ?_)
                    · replace h := h.1 h79
                      refine pM_aln rfl rfl rfl ?_
                      refine pM_qRu (as := [.inr (.inl (some 190))]) (T := []) rfl rfl (fun C hC => cl_v hC rfl rfl rfl rfl) rfl (q_m_remembers  h) (fun M81 h => ?_)
                      refine pM_aln rfl rfl rfl ?_
                      refine pM_iln rfl rfl ?_
                      refine pM_iln rfl rfl ?_
                      refine pM_qRu (as := [.inr (.inl (some 190)), .inl (.inl p1), .inl (.inl p2)]) (T := []) rfl rfl (fun C hC => cl_v hC rfl rfl rfl rfl) rfl (q_m_weds  h) (fun M83 h => ?_)
                      refine pM_aln rfl rfl rfl ?_
                      refine pM_iln rfl rfl ?_
                      refine pM_ic rfl ki_1 ?_
                      refine pM_qVi (as := [.inr (.inl (some 190)), .inl (.inl p1), .inl (.inl 1)]) (T := []) rfl rfl (fun C hC => cl_v hC rfl rfl rfl rfl) rfl (q_m_of ) ?_
                      exact pM_ri rfl (⟨_, rfl, h⟩)
                    · replace h := h.2 h79
                      refine pM_ic rfl ki_0 ?_
                      exact pM_ri rfl (⟨_, rfl, h⟩)
                · replace h := h.2 h75
                  refine pM_aln rfl rfl rfl ?_
                  refine pM_iln rfl rfl ?_
                  refine pM_qVi (as := [.inr (.inl (some 190)), .inl (.inl p2)]) (T := []) rfl rfl (fun C hC => cl_v hC rfl rfl rfl rfl) rfl (q_m_isSingle ) ?_
                  refine pM_zeq rfl rfl (fun h84 => ?_) (fun h84 => ?_)
                  · replace h := h.1 h84
                    refine pM_ic rfl ki_0 ?_
                    refine pM_isn rfl rfl ?_
                    refine pM_aln rfl rfl rfl ?_
                    refine pM_iln rfl rfl ?_
                    refine pM_zne rfl rfl (fun h85 => ?_) (fun h85 => ?_)
                    · exact absurd (by decide) h85
                    · refine pM_ic rfl ki_1 ?_
                      refine pM_go rfl rfl ?_
                      refine pM_ic rfl ki_3 ?_
                      refine pM_qRi (as := [.inr (.inl (some 190)), .inl (.inl 1), .inl (.inl 3)]) (T := []) rfl rfl (fun C hC => cl_v hC rfl rfl rfl rfl) rfl (q_m_throwsIf  h) (fun r86 M87 h => ?_)
                      refine pM_zeq rfl rfl (fun h88 => ?_) (fun h88 => ?_)
                      · replace h := h.1 h88
                        refine pM_aln rfl rfl rfl ?_
                        refine pM_qRu (as := [.inr (.inl (some 190))]) (T := []) rfl rfl (fun C hC => cl_v hC rfl rfl rfl rfl) rfl (q_m_remembers  h) (fun M90 h => ?_)
                        refine pM_aln rfl rfl rfl ?_
                        refine pM_iln rfl rfl ?_
                        refine pM_iln rfl rfl ?_
                        refine pM_qRu (as := [.inr (.inl (some 190)), .inl (.inl p1), .inl (.inl p2)]) (T := []) rfl rfl (fun C hC => cl_v hC rfl rfl rfl rfl) rfl (q_m_weds  h) (fun M92 h => ?_)
                        refine pM_aln rfl rfl rfl ?_
                        refine pM_iln rfl rfl ?_
                        refine pM_ic rfl ki_1 ?_
                        refine pM_qVi (as := [.inr (.inl (some 190)), .inl (.inl p1), .inl (.inl 1)]) (T := []) rfl rfl (fun C hC => cl_v hC rfl rfl rfl rfl) rfl (q_m_of ) ?_
                        exact pM_ri rfl (⟨_, rfl, h⟩)
                      · replace h := h.2 h88
                        refine pM_ic rfl ki_0 ?_
                        exact pM_ri rfl (⟨_, rfl, h⟩)
                  · replace h := h.2 h84
                    refine pM_ic rfl ki_1 ?_
                    refine pM_go rfl rfl ?_
                    refine pM_isn rfl rfl ?_
                    refine pM_aln rfl rfl rfl ?_
                    refine pM_iln rfl rfl ?_
                    refine pM_zne rfl rfl (fun h93 => ?_) (fun h93 => ?_)
                    · refine pM_ic rfl ki_0 ?_
                      refine pM_ic rfl ki_3 ?_
                      refine pM_qRi (as := [.inr (.inl (some 190)), .inl (.inl 0), .inl (.inl 3)]) (T := []) rfl rfl (fun C hC => cl_v hC rfl rfl rfl rfl) rfl (q_m_throwsIf  h) (fun r94 M95 h => ?_)
                      refine pM_zeq rfl rfl (fun h96 => ?_) (fun h96 => ?_)
                      · replace h := h.1 h96
                        refine pM_aln rfl rfl rfl ?_
                        refine pM_qRu (as := [.inr (.inl (some 190))]) (T := []) rfl rfl (fun C hC => cl_v hC rfl rfl rfl rfl) rfl (q_m_remembers  h) (fun M98 h => ?_)
                        refine pM_aln rfl rfl rfl ?_
                        refine pM_iln rfl rfl ?_
                        refine pM_iln rfl rfl ?_
                        refine pM_qRu (as := [.inr (.inl (some 190)), .inl (.inl p1), .inl (.inl p2)]) (T := []) rfl rfl (fun C hC => cl_v hC rfl rfl rfl rfl) rfl (q_m_weds  h) (fun M100 h => ?_)
                        refine pM_aln rfl rfl rfl ?_
                        refine pM_iln rfl rfl ?_
                        refine pM_ic rfl ki_1 ?_
                        refine pM_qVi (as := [.inr (.inl (some 190)), .inl (.inl p1), .inl (.inl 1)]) (T := []) rfl rfl (fun C hC => cl_v hC rfl rfl rfl rfl) rfl (q_m_of ) ?_
                        exact pM_ri rfl (⟨_, rfl, h⟩)
                      · replace h := h.2 h96
                        refine pM_ic rfl ki_0 ?_
                        exact pM_ri rfl (⟨_, rfl, h⟩)
                    · exact absurd h93 (by decide)
          · replace h := h.2 h56
            refine pM_ic rfl ki_0 ?_
            exact pM_ri rfl (⟨_, rfl, h⟩)
        · replace h := h.1 h6
          refine pM_ic rfl ki_1 ?_
          refine pM_go rfl rfl ?_
          refine pM_ic rfl ki_2 ?_
          refine pM_qRi (as := [.inr (.inl (some 190)), .inl (.inl 1), .inl (.inl 2)]) (T := []) rfl rfl (fun C hC => cl_v hC rfl rfl rfl rfl) rfl (q_m_throwsIf  h) (fun r7 M8 h => ?_)
          refine pM_zeq rfl rfl (fun h9 => ?_) (fun h9 => ?_)
          · replace h := h.1 h9
            refine pM_aln rfl rfl rfl ?_
            refine pM_iln rfl rfl ?_
            refine pM_qVi (as := [.inr (.inl (some 190)), .inl (.inl p1)]) (T := []) rfl rfl (fun C hC => cl_v hC rfl rfl rfl rfl) rfl (q_m_isAlive ) ?_
            refine pM_zeq rfl rfl (fun h10 => ?_) (fun h10 => ?_)
            · replace h := h.1 h10
              refine pM_ic rfl ki_0 ?_
              refine pM_isn rfl rfl ?_
              refine pM_aln rfl rfl rfl ?_
              refine pM_iln rfl rfl ?_
              refine pM_zne rfl rfl (fun h11 => ?_) (fun h11 => ?_)
              · exact absurd (by decide) h11
              · refine pM_ic rfl ki_1 ?_
                refine pM_go rfl rfl ?_
                refine pM_ic rfl ki_3 ?_
                refine pM_qRi (as := [.inr (.inl (some 190)), .inl (.inl 1), .inl (.inl 3)]) (T := []) rfl rfl (fun C hC => cl_v hC rfl rfl rfl rfl) rfl (q_m_throwsIf  h) (fun r12 M13 h => ?_)
                refine pM_zeq rfl rfl (fun h14 => ?_) (fun h14 => ?_)
                · replace h := h.1 h14
                  refine pM_aln rfl rfl rfl ?_
                  refine pM_qRu (as := [.inr (.inl (some 190))]) (T := []) rfl rfl (fun C hC => cl_v hC rfl rfl rfl rfl) rfl (q_m_remembers  h) (fun M16 h => ?_)
                  refine pM_aln rfl rfl rfl ?_
                  refine pM_iln rfl rfl ?_
                  refine pM_iln rfl rfl ?_
                  refine pM_qRu (as := [.inr (.inl (some 190)), .inl (.inl p1), .inl (.inl p2)]) (T := []) rfl rfl (fun C hC => cl_v hC rfl rfl rfl rfl) rfl (q_m_weds  h) (fun M18 h => ?_)
                  refine pM_aln rfl rfl rfl ?_
                  refine pM_iln rfl rfl ?_
                  refine pM_ic rfl ki_1 ?_
                  refine pM_qVi (as := [.inr (.inl (some 190)), .inl (.inl p1), .inl (.inl 1)]) (T := []) rfl rfl (fun C hC => cl_v hC rfl rfl rfl rfl) rfl (q_m_of ) ?_
                  exact pM_ri rfl (⟨_, rfl, h⟩)
                · replace h := h.2 h14
                  refine pM_ic rfl ki_0 ?_
                  exact pM_ri rfl (⟨_, rfl, h⟩)
            · replace h := h.2 h10
              refine pM_aln rfl rfl rfl ?_
              refine pM_iln rfl rfl ?_
              refine pM_qVi (as := [.inr (.inl (some 190)), .inl (.inl p2)]) (T := []) rfl rfl (fun C hC => cl_v hC rfl rfl rfl rfl) rfl (q_m_isAlive ) ?_
              refine pM_zeq rfl rfl (fun h19 => ?_) (fun h19 => ?_)
              · replace h := h.1 h19
                refine pM_ic rfl ki_0 ?_
                refine pM_isn rfl rfl ?_
                refine pM_aln rfl rfl rfl ?_
                refine pM_iln rfl rfl ?_
                refine pM_zne rfl rfl (fun h20 => ?_) (fun h20 => ?_)
                · exact absurd (by decide) h20
                · refine pM_ic rfl ki_1 ?_
                  refine pM_go rfl rfl ?_
                  refine pM_ic rfl ki_3 ?_
                  refine pM_qRi (as := [.inr (.inl (some 190)), .inl (.inl 1), .inl (.inl 3)]) (T := []) rfl rfl (fun C hC => cl_v hC rfl rfl rfl rfl) rfl (q_m_throwsIf  h) (fun r21 M22 h => ?_)
                  refine pM_zeq rfl rfl (fun h23 => ?_) (fun h23 => ?_)
                  · replace h := h.1 h23
                    refine pM_aln rfl rfl rfl ?_
                    refine pM_qRu (as := [.inr (.inl (some 190))]) (T := []) rfl rfl (fun C hC => cl_v hC rfl rfl rfl rfl) rfl (q_m_remembers  h) (fun M25 h => ?_)
                    refine pM_aln rfl rfl rfl ?_
                    refine pM_iln rfl rfl ?_
                    refine pM_iln rfl rfl ?_
                    refine pM_qRu (as := [.inr (.inl (some 190)), .inl (.inl p1), .inl (.inl p2)]) (T := []) rfl rfl (fun C hC => cl_v hC rfl rfl rfl rfl) rfl (q_m_weds  h) (fun M27 h => ?_)
                    refine pM_aln rfl rfl rfl ?_
                    refine pM_iln rfl rfl ?_
                    refine pM_ic rfl ki_1 ?_
                    refine pM_qVi (as := [.inr (.inl (some 190)), .inl (.inl p1), .inl (.inl 1)]) (T := []) rfl rfl (fun C hC => cl_v hC rfl rfl rfl rfl) rfl (q_m_of ) ?_
                    exact pM_ri rfl (⟨_, rfl, h⟩)
                  · replace h := h.2 h23
                    refine pM_ic rfl ki_0 ?_
                    exact pM_ri rfl (⟨_, rfl, h⟩)
              · replace h := h.2 h19
                refine pM_aln rfl rfl rfl ?_
                refine pM_iln rfl rfl ?_
                refine pM_qVi (as := [.inr (.inl (some 190)), .inl (.inl p1)]) (T := []) rfl rfl (fun C hC => cl_v hC rfl rfl rfl rfl) rfl (q_m_isSingle ) ?_
                refine pM_zeq rfl rfl (fun h28 => ?_) (fun h28 => ?_)
                · replace h := h.1 h28
                  refine pM_ic rfl ki_0 ?_
                  refine pM_isn rfl rfl ?_
                  refine pM_aln rfl rfl rfl ?_
                  refine pM_iln rfl rfl ?_
                  refine pM_zne rfl rfl (fun h29 => ?_) (fun h29 => ?_)
                  · exact absurd (by decide) h29
                  · refine pM_ic rfl ki_1 ?_
                    refine pM_go rfl rfl ?_
                    refine pM_ic rfl ki_3 ?_
                    refine pM_qRi (as := [.inr (.inl (some 190)), .inl (.inl 1), .inl (.inl 3)]) (T := []) rfl rfl (fun C hC => cl_v hC rfl rfl rfl rfl) rfl (q_m_throwsIf  h) (fun r30 M31 h => ?_)
                    refine pM_zeq rfl rfl (fun h32 => ?_) (fun h32 => ?_)
                    · replace h := h.1 h32
                      refine pM_aln rfl rfl rfl ?_
                      refine pM_qRu (as := [.inr (.inl (some 190))]) (T := []) rfl rfl (fun C hC => cl_v hC rfl rfl rfl rfl) rfl (q_m_remembers  h) (fun M34 h => ?_)
                      refine pM_aln rfl rfl rfl ?_
                      refine pM_iln rfl rfl ?_
                      refine pM_iln rfl rfl ?_
                      refine pM_qRu (as := [.inr (.inl (some 190)), .inl (.inl p1), .inl (.inl p2)]) (T := []) rfl rfl (fun C hC => cl_v hC rfl rfl rfl rfl) rfl (q_m_weds  h) (fun M36 h => ?_)
                      refine pM_aln rfl rfl rfl ?_
                      refine pM_iln rfl rfl ?_
                      refine pM_ic rfl ki_1 ?_
                      refine pM_qVi (as := [.inr (.inl (some 190)), .inl (.inl p1), .inl (.inl 1)]) (T := []) rfl rfl (fun C hC => cl_v hC rfl rfl rfl rfl) rfl (q_m_of ) ?_
                      exact pM_ri rfl (⟨_, rfl, h⟩)
                    · replace h := h.2 h32
                      refine pM_ic rfl ki_0 ?_
                      exact pM_ri rfl (⟨_, rfl, h⟩)
                · replace h := h.2 h28
                  refine pM_aln rfl rfl rfl ?_
                  refine pM_iln rfl rfl ?_
                  refine pM_qVi (as := [.inr (.inl (some 190)), .inl (.inl p2)]) (T := []) rfl rfl (fun C hC => cl_v hC rfl rfl rfl rfl) rfl (q_m_isSingle ) ?_
                  refine pM_zeq rfl rfl (fun h37 => ?_) (fun h37 => ?_)
                  · replace h := h.1 h37
                    refine pM_ic rfl ki_0 ?_
                    refine pM_isn rfl rfl ?_
                    refine pM_aln rfl rfl rfl ?_
                    refine pM_iln rfl rfl ?_
                    refine pM_zne rfl rfl (fun h38 => ?_) (fun h38 => ?_)
                    · exact absurd (by decide) h38
                    · refine pM_ic rfl ki_1 ?_
                      refine pM_go rfl rfl ?_
                      refine pM_ic rfl ki_3 ?_
                      refine pM_qRi (as := [.inr (.inl (some 190)), .inl (.inl 1), .inl (.inl 3)]) (T := []) rfl rfl (fun C hC => cl_v hC rfl rfl rfl rfl) rfl (q_m_throwsIf  h) (fun r39 M40 h => ?_)
                      refine pM_zeq rfl rfl (fun h41 => ?_) (fun h41 => ?_)
                      · replace h := h.1 h41
                        refine pM_aln rfl rfl rfl ?_
                        refine pM_qRu (as := [.inr (.inl (some 190))]) (T := []) rfl rfl (fun C hC => cl_v hC rfl rfl rfl rfl) rfl (q_m_remembers  h) (fun M43 h => ?_)
                        refine pM_aln rfl rfl rfl ?_
                        refine pM_iln rfl rfl ?_
                        refine pM_iln rfl rfl ?_
                        refine pM_qRu (as := [.inr (.inl (some 190)), .inl (.inl p1), .inl (.inl p2)]) (T := []) rfl rfl (fun C hC => cl_v hC rfl rfl rfl rfl) rfl (q_m_weds  h) (fun M45 h => ?_)
                        refine pM_aln rfl rfl rfl ?_
                        refine pM_iln rfl rfl ?_
                        refine pM_ic rfl ki_1 ?_
                        refine pM_qVi (as := [.inr (.inl (some 190)), .inl (.inl p1), .inl (.inl 1)]) (T := []) rfl rfl (fun C hC => cl_v hC rfl rfl rfl rfl) rfl (q_m_of ) ?_
                        exact pM_ri rfl (⟨_, rfl, h⟩)
                      · replace h := h.2 h41
                        refine pM_ic rfl ki_0 ?_
                        exact pM_ri rfl (⟨_, rfl, h⟩)
                  · replace h := h.2 h37
                    refine pM_ic rfl ki_1 ?_
                    refine pM_go rfl rfl ?_
                    refine pM_isn rfl rfl ?_
                    refine pM_aln rfl rfl rfl ?_
                    refine pM_iln rfl rfl ?_
                    refine pM_zne rfl rfl (fun h46 => ?_) (fun h46 => ?_)
                    · refine pM_ic rfl ki_0 ?_
                      refine pM_ic rfl ki_3 ?_
                      refine pM_qRi (as := [.inr (.inl (some 190)), .inl (.inl 0), .inl (.inl 3)]) (T := []) rfl rfl (fun C hC => cl_v hC rfl rfl rfl rfl) rfl (q_m_throwsIf  h) (fun r47 M48 h => ?_)
                      refine pM_zeq rfl rfl (fun h49 => ?_) (fun h49 => ?_)
                      · replace h := h.1 h49
                        refine pM_aln rfl rfl rfl ?_
                        refine pM_qRu (as := [.inr (.inl (some 190))]) (T := []) rfl rfl (fun C hC => cl_v hC rfl rfl rfl rfl) rfl (q_m_remembers  h) (fun M51 h => ?_)
                        refine pM_aln rfl rfl rfl ?_
                        refine pM_iln rfl rfl ?_
                        refine pM_iln rfl rfl ?_
                        refine pM_qRu (as := [.inr (.inl (some 190)), .inl (.inl p1), .inl (.inl p2)]) (T := []) rfl rfl (fun C hC => cl_v hC rfl rfl rfl rfl) rfl (q_m_weds  h) (fun M53 h => ?_)
                        refine pM_aln rfl rfl rfl ?_
                        refine pM_iln rfl rfl ?_
                        refine pM_ic rfl ki_1 ?_
                        refine pM_qVi (as := [.inr (.inl (some 190)), .inl (.inl p1), .inl (.inl 1)]) (T := []) rfl rfl (fun C hC => cl_v hC rfl rfl rfl rfl) rfl (q_m_of ) ?_
                        exact pM_ri rfl (⟨_, rfl, h⟩)
                      · replace h := h.2 h49
                        refine pM_ic rfl ki_0 ?_
                        exact pM_ri rfl (⟨_, rfl, h⟩)
                    · exact absurd h46 (by decide)
          · replace h := h.2 h9
            refine pM_ic rfl ki_0 ?_
            exact pM_ri rfl (⟨_, rfl, h⟩)
    · replace h := h.2 h2
      refine pM_ic rfl ki_1 ?_
      refine pM_go rfl rfl ?_
      refine pM_ic rfl ki_1 ?_
      refine pM_qRi (as := [.inr (.inl (some 190)), .inl (.inl 1), .inl (.inl 1)]) (T := []) rfl rfl (fun C hC => cl_v hC rfl rfl rfl rfl) rfl (q_m_throwsIf  h) (fun r101 M102 h => ?_)
      refine pM_zne rfl rfl (fun h103 => ?_) (fun h103 => ?_)
      · replace h := h.2 h103
        refine pM_ic rfl ki_0 ?_
        exact pM_ri rfl (⟨_, rfl, h⟩)
      · replace h := h.1 h103
        refine pM_aln rfl rfl rfl ?_
        refine pM_iln rfl rfl ?_
        refine pM_iln rfl rfl ?_
        refine pM_cne rfl rfl (fun h104 => ?_) (fun h104 => ?_)
        · replace h := h.2 h104
          refine pM_ic rfl ki_0 ?_
          refine pM_ic rfl ki_2 ?_
          refine pM_qRi (as := [.inr (.inl (some 190)), .inl (.inl 0), .inl (.inl 2)]) (T := []) rfl rfl (fun C hC => cl_v hC rfl rfl rfl rfl) rfl (q_m_throwsIf  h) (fun r152 M153 h => ?_)
          refine pM_zeq rfl rfl (fun h154 => ?_) (fun h154 => ?_)
          · replace h := h.1 h154
            refine pM_aln rfl rfl rfl ?_
            refine pM_iln rfl rfl ?_
            refine pM_qVi (as := [.inr (.inl (some 190)), .inl (.inl p1)]) (T := []) rfl rfl (fun C hC => cl_v hC rfl rfl rfl rfl) rfl (q_m_isAlive ) ?_
            refine pM_zeq rfl rfl (fun h155 => ?_) (fun h155 => ?_)
            · replace h := h.1 h155
              refine pM_ic rfl ki_0 ?_
              refine pM_isn rfl rfl ?_
              refine pM_aln rfl rfl rfl ?_
              refine pM_iln rfl rfl ?_
              refine pM_zne rfl rfl (fun h156 => ?_) (fun h156 => ?_)
              · exact absurd (by decide) h156
              · refine pM_ic rfl ki_1 ?_
                refine pM_go rfl rfl ?_
                refine pM_ic rfl ki_3 ?_
                refine pM_qRi (as := [.inr (.inl (some 190)), .inl (.inl 1), .inl (.inl 3)]) (T := []) rfl rfl (fun C hC => cl_v hC rfl rfl rfl rfl) rfl (q_m_throwsIf  h) (fun r157 M158 h => ?_)
                refine pM_zeq rfl rfl (fun h159 => ?_) (fun h159 => ?_)
                · replace h := h.1 h159
                  refine pM_aln rfl rfl rfl ?_
                  refine pM_qRu (as := [.inr (.inl (some 190))]) (T := []) rfl rfl (fun C hC => cl_v hC rfl rfl rfl rfl) rfl (q_m_remembers  h) (fun M161 h => ?_)
                  refine pM_aln rfl rfl rfl ?_
                  refine pM_iln rfl rfl ?_
                  refine pM_iln rfl rfl ?_
                  refine pM_qRu (as := [.inr (.inl (some 190)), .inl (.inl p1), .inl (.inl p2)]) (T := []) rfl rfl (fun C hC => cl_v hC rfl rfl rfl rfl) rfl (q_m_weds  h) (fun M163 h => ?_)
                  refine pM_aln rfl rfl rfl ?_
                  refine pM_iln rfl rfl ?_
                  refine pM_ic rfl ki_1 ?_
                  refine pM_qVi (as := [.inr (.inl (some 190)), .inl (.inl p1), .inl (.inl 1)]) (T := []) rfl rfl (fun C hC => cl_v hC rfl rfl rfl rfl) rfl (q_m_of ) ?_
                  exact pM_ri rfl (⟨_, rfl, h⟩)
                · replace h := h.2 h159
                  refine pM_ic rfl ki_0 ?_
                  exact pM_ri rfl (⟨_, rfl, h⟩)
            · replace h := h.2 h155
              refine pM_aln rfl rfl rfl ?_
              refine pM_iln rfl rfl ?_
              refine pM_qVi (as := [.inr (.inl (some 190)), .inl (.inl p2)]) (T := []) rfl rfl (fun C hC => cl_v hC rfl rfl rfl rfl) rfl (q_m_isAlive ) ?_
              refine pM_zeq rfl rfl (fun h164 => ?_) (fun h164 => ?_)
              · replace h := h.1 h164
                refine pM_ic rfl ki_0 ?_
                refine pM_isn rfl rfl ?_
                refine pM_aln rfl rfl rfl ?_
                refine pM_iln rfl rfl ?_
                refine pM_zne rfl rfl (fun h165 => ?_) (fun h165 => ?_)
                · exact absurd (by decide) h165
                · refine pM_ic rfl ki_1 ?_
                  refine pM_go rfl rfl ?_
                  refine pM_ic rfl ki_3 ?_
                  refine pM_qRi (as := [.inr (.inl (some 190)), .inl (.inl 1), .inl (.inl 3)]) (T := []) rfl rfl (fun C hC => cl_v hC rfl rfl rfl rfl) rfl (q_m_throwsIf  h) (fun r166 M167 h => ?_)
                  refine pM_zeq rfl rfl (fun h168 => ?_) (fun h168 => ?_)
                  · replace h := h.1 h168
                    refine pM_aln rfl rfl rfl ?_
                    refine pM_qRu (as := [.inr (.inl (some 190))]) (T := []) rfl rfl (fun C hC => cl_v hC rfl rfl rfl rfl) rfl (q_m_remembers  h) (fun M170 h => ?_)
                    refine pM_aln rfl rfl rfl ?_
                    refine pM_iln rfl rfl ?_
                    refine pM_iln rfl rfl ?_
                    refine pM_qRu (as := [.inr (.inl (some 190)), .inl (.inl p1), .inl (.inl p2)]) (T := []) rfl rfl (fun C hC => cl_v hC rfl rfl rfl rfl) rfl (q_m_weds  h) (fun M172 h => ?_)
                    refine pM_aln rfl rfl rfl ?_
                    refine pM_iln rfl rfl ?_
                    refine pM_ic rfl ki_1 ?_
                    refine pM_qVi (as := [.inr (.inl (some 190)), .inl (.inl p1), .inl (.inl 1)]) (T := []) rfl rfl (fun C hC => cl_v hC rfl rfl rfl rfl) rfl (q_m_of ) ?_
                    exact pM_ri rfl (⟨_, rfl, h⟩)
                  · replace h := h.2 h168
                    refine pM_ic rfl ki_0 ?_
                    exact pM_ri rfl (⟨_, rfl, h⟩)
              · replace h := h.2 h164
                refine pM_aln rfl rfl rfl ?_
                refine pM_iln rfl rfl ?_
                refine pM_qVi (as := [.inr (.inl (some 190)), .inl (.inl p1)]) (T := []) rfl rfl (fun C hC => cl_v hC rfl rfl rfl rfl) rfl (q_m_isSingle ) ?_
                refine pM_zeq rfl rfl (fun h173 => ?_) (fun h173 => ?_)
                · replace h := h.1 h173
                  refine pM_ic rfl ki_0 ?_
                  refine pM_isn rfl rfl ?_
                  refine pM_aln rfl rfl rfl ?_
                  refine pM_iln rfl rfl ?_
                  refine pM_zne rfl rfl (fun h174 => ?_) (fun h174 => ?_)
                  · exact absurd (by decide) h174
                  · refine pM_ic rfl ki_1 ?_
                    refine pM_go rfl rfl ?_
                    refine pM_ic rfl ki_3 ?_
                    refine pM_qRi (as := [.inr (.inl (some 190)), .inl (.inl 1), .inl (.inl 3)]) (T := []) rfl rfl (fun C hC => cl_v hC rfl rfl rfl rfl) rfl (q_m_throwsIf  h) (fun r175 M176 h => ?_)
                    refine pM_zeq rfl rfl (fun h177 => ?_) (fun h177 => ?_)
                    · replace h := h.1 h177
                      refine pM_aln rfl rfl rfl ?_
                      refine pM_qRu (as := [.inr (.inl (some 190))]) (T := []) rfl rfl (fun C hC => cl_v hC rfl rfl rfl rfl) rfl (q_m_remembers  h) (fun M179 h => ?_)
                      refine pM_aln rfl rfl rfl ?_
                      refine pM_iln rfl rfl ?_
                      refine pM_iln rfl rfl ?_
                      refine pM_qRu (as := [.inr (.inl (some 190)), .inl (.inl p1), .inl (.inl p2)]) (T := []) rfl rfl (fun C hC => cl_v hC rfl rfl rfl rfl) rfl (q_m_weds  h) (fun M181 h => ?_)
                      refine pM_aln rfl rfl rfl ?_
                      refine pM_iln rfl rfl ?_
                      refine pM_ic rfl ki_1 ?_
                      refine pM_qVi (as := [.inr (.inl (some 190)), .inl (.inl p1), .inl (.inl 1)]) (T := []) rfl rfl (fun C hC => cl_v hC rfl rfl rfl rfl) rfl (q_m_of ) ?_
                      exact pM_ri rfl (⟨_, rfl, h⟩)
                    · replace h := h.2 h177
                      refine pM_ic rfl ki_0 ?_
                      exact pM_ri rfl (⟨_, rfl, h⟩)
                · replace h := h.2 h173
                  refine pM_aln rfl rfl rfl ?_
                  refine pM_iln rfl rfl ?_
                  refine pM_qVi (as := [.inr (.inl (some 190)), .inl (.inl p2)]) (T := []) rfl rfl (fun C hC => cl_v hC rfl rfl rfl rfl) rfl (q_m_isSingle ) ?_
                  refine pM_zeq rfl rfl (fun h182 => ?_) (fun h182 => ?_)
                  · replace h := h.1 h182
                    refine pM_ic rfl ki_0 ?_
                    refine pM_isn rfl rfl ?_
                    refine pM_aln rfl rfl rfl ?_
                    refine pM_iln rfl rfl ?_
                    refine pM_zne rfl rfl (fun h183 => ?_) (fun h183 => ?_)
                    · exact absurd (by decide) h183
                    · refine pM_ic rfl ki_1 ?_
                      refine pM_go rfl rfl ?_
                      refine pM_ic rfl ki_3 ?_
                      refine pM_qRi (as := [.inr (.inl (some 190)), .inl (.inl 1), .inl (.inl 3)]) (T := []) rfl rfl (fun C hC => cl_v hC rfl rfl rfl rfl) rfl (q_m_throwsIf  h) (fun r184 M185 h => ?_)
                      refine pM_zeq rfl rfl (fun h186 => ?_) (fun h186 => ?_)
                      · replace h := h.1 h186
                        refine pM_aln rfl rfl rfl ?_
                        refine pM_qRu (as := [.inr (.inl (some 190))]) (T := []) rfl rfl (fun C hC => cl_v hC rfl rfl rfl rfl) rfl (q_m_remembers  h) (fun M188 h => ?_)
                        refine pM_aln rfl rfl rfl ?_
                        refine pM_iln rfl rfl ?_
                        refine pM_iln rfl rfl ?_
                        refine pM_qRu (as := [.inr (.inl (some 190)), .inl (.inl p1), .inl (.inl p2)]) (T := []) rfl rfl (fun C hC => cl_v hC rfl rfl rfl rfl) rfl (q_m_weds  h) (fun M190 h => ?_)
                        refine pM_aln rfl rfl rfl ?_
                        refine pM_iln rfl rfl ?_
                        refine pM_ic rfl ki_1 ?_
                        refine pM_qVi (as := [.inr (.inl (some 190)), .inl (.inl p1), .inl (.inl 1)]) (T := []) rfl rfl (fun C hC => cl_v hC rfl rfl rfl rfl) rfl (q_m_of ) ?_
                        exact pM_ri rfl (⟨_, rfl, h⟩)
                      · replace h := h.2 h186
                        refine pM_ic rfl ki_0 ?_
                        exact pM_ri rfl (⟨_, rfl, h⟩)
                  · replace h := h.2 h182
                    refine pM_ic rfl ki_1 ?_
                    refine pM_go rfl rfl ?_
                    refine pM_isn rfl rfl ?_
                    refine pM_aln rfl rfl rfl ?_
                    refine pM_iln rfl rfl ?_
                    refine pM_zne rfl rfl (fun h191 => ?_) (fun h191 => ?_)
                    · refine pM_ic rfl ki_0 ?_
                      refine pM_ic rfl ki_3 ?_
                      refine pM_qRi (as := [.inr (.inl (some 190)), .inl (.inl 0), .inl (.inl 3)]) (T := []) rfl rfl (fun C hC => cl_v hC rfl rfl rfl rfl) rfl (q_m_throwsIf  h) (fun r192 M193 h => ?_)
                      refine pM_zeq rfl rfl (fun h194 => ?_) (fun h194 => ?_)
                      · replace h := h.1 h194
                        refine pM_aln rfl rfl rfl ?_
                        refine pM_qRu (as := [.inr (.inl (some 190))]) (T := []) rfl rfl (fun C hC => cl_v hC rfl rfl rfl rfl) rfl (q_m_remembers  h) (fun M196 h => ?_)
                        refine pM_aln rfl rfl rfl ?_
                        refine pM_iln rfl rfl ?_
                        refine pM_iln rfl rfl ?_
                        refine pM_qRu (as := [.inr (.inl (some 190)), .inl (.inl p1), .inl (.inl p2)]) (T := []) rfl rfl (fun C hC => cl_v hC rfl rfl rfl rfl) rfl (q_m_weds  h) (fun M198 h => ?_)
                        refine pM_aln rfl rfl rfl ?_
                        refine pM_iln rfl rfl ?_
                        refine pM_ic rfl ki_1 ?_
                        refine pM_qVi (as := [.inr (.inl (some 190)), .inl (.inl p1), .inl (.inl 1)]) (T := []) rfl rfl (fun C hC => cl_v hC rfl rfl rfl rfl) rfl (q_m_of ) ?_
                        exact pM_ri rfl (⟨_, rfl, h⟩)
                      · replace h := h.2 h194
                        refine pM_ic rfl ki_0 ?_
                        exact pM_ri rfl (⟨_, rfl, h⟩)
                    · exact absurd h191 (by decide)
          · replace h := h.2 h154
            refine pM_ic rfl ki_0 ?_
            exact pM_ri rfl (⟨_, rfl, h⟩)
        · replace h := h.1 h104
          refine pM_ic rfl ki_1 ?_
          refine pM_go rfl rfl ?_
          refine pM_ic rfl ki_2 ?_
          refine pM_qRi (as := [.inr (.inl (some 190)), .inl (.inl 1), .inl (.inl 2)]) (T := []) rfl rfl (fun C hC => cl_v hC rfl rfl rfl rfl) rfl (q_m_throwsIf  h) (fun r105 M106 h => ?_)
          refine pM_zeq rfl rfl (fun h107 => ?_) (fun h107 => ?_)
          · replace h := h.1 h107
            refine pM_aln rfl rfl rfl ?_
            refine pM_iln rfl rfl ?_
            refine pM_qVi (as := [.inr (.inl (some 190)), .inl (.inl p1)]) (T := []) rfl rfl (fun C hC => cl_v hC rfl rfl rfl rfl) rfl (q_m_isAlive ) ?_
            refine pM_zeq rfl rfl (fun h108 => ?_) (fun h108 => ?_)
            · replace h := h.1 h108
              refine pM_ic rfl ki_0 ?_
              refine pM_isn rfl rfl ?_
              refine pM_aln rfl rfl rfl ?_
              refine pM_iln rfl rfl ?_
              refine pM_zne rfl rfl (fun h109 => ?_) (fun h109 => ?_)
              · exact absurd (by decide) h109
              · refine pM_ic rfl ki_1 ?_
                refine pM_go rfl rfl ?_
                refine pM_ic rfl ki_3 ?_
                refine pM_qRi (as := [.inr (.inl (some 190)), .inl (.inl 1), .inl (.inl 3)]) (T := []) rfl rfl (fun C hC => cl_v hC rfl rfl rfl rfl) rfl (q_m_throwsIf  h) (fun r110 M111 h => ?_)
                refine pM_zeq rfl rfl (fun h112 => ?_) (fun h112 => ?_)
                · replace h := h.1 h112
                  refine pM_aln rfl rfl rfl ?_
                  refine pM_qRu (as := [.inr (.inl (some 190))]) (T := []) rfl rfl (fun C hC => cl_v hC rfl rfl rfl rfl) rfl (q_m_remembers  h) (fun M114 h => ?_)
                  refine pM_aln rfl rfl rfl ?_
                  refine pM_iln rfl rfl ?_
                  refine pM_iln rfl rfl ?_
                  refine pM_qRu (as := [.inr (.inl (some 190)), .inl (.inl p1), .inl (.inl p2)]) (T := []) rfl rfl (fun C hC => cl_v hC rfl rfl rfl rfl) rfl (q_m_weds  h) (fun M116 h => ?_)
                  refine pM_aln rfl rfl rfl ?_
                  refine pM_iln rfl rfl ?_
                  refine pM_ic rfl ki_1 ?_
                  refine pM_qVi (as := [.inr (.inl (some 190)), .inl (.inl p1), .inl (.inl 1)]) (T := []) rfl rfl (fun C hC => cl_v hC rfl rfl rfl rfl) rfl (q_m_of ) ?_
                  exact pM_ri rfl (⟨_, rfl, h⟩)
                · replace h := h.2 h112
                  refine pM_ic rfl ki_0 ?_
                  exact pM_ri rfl (⟨_, rfl, h⟩)
            · replace h := h.2 h108
              refine pM_aln rfl rfl rfl ?_
              refine pM_iln rfl rfl ?_
              refine pM_qVi (as := [.inr (.inl (some 190)), .inl (.inl p2)]) (T := []) rfl rfl (fun C hC => cl_v hC rfl rfl rfl rfl) rfl (q_m_isAlive ) ?_
              refine pM_zeq rfl rfl (fun h117 => ?_) (fun h117 => ?_)
              · replace h := h.1 h117
                refine pM_ic rfl ki_0 ?_
                refine pM_isn rfl rfl ?_
                refine pM_aln rfl rfl rfl ?_
                refine pM_iln rfl rfl ?_
                refine pM_zne rfl rfl (fun h118 => ?_) (fun h118 => ?_)
                · exact absurd (by decide) h118
                · refine pM_ic rfl ki_1 ?_
                  refine pM_go rfl rfl ?_
                  refine pM_ic rfl ki_3 ?_
                  refine pM_qRi (as := [.inr (.inl (some 190)), .inl (.inl 1), .inl (.inl 3)]) (T := []) rfl rfl (fun C hC => cl_v hC rfl rfl rfl rfl) rfl (q_m_throwsIf  h) (fun r119 M120 h => ?_)
                  refine pM_zeq rfl rfl (fun h121 => ?_) (fun h121 => ?_)
                  · replace h := h.1 h121
                    refine pM_aln rfl rfl rfl ?_
                    refine pM_qRu (as := [.inr (.inl (some 190))]) (T := []) rfl rfl (fun C hC => cl_v hC rfl rfl rfl rfl) rfl (q_m_remembers  h) (fun M123 h => ?_)
                    refine pM_aln rfl rfl rfl ?_
                    refine pM_iln rfl rfl ?_
                    refine pM_iln rfl rfl ?_
                    refine pM_qRu (as := [.inr (.inl (some 190)), .inl (.inl p1), .inl (.inl p2)]) (T := []) rfl rfl (fun C hC => cl_v hC rfl rfl rfl rfl) rfl (q_m_weds  h) (fun M125 h => ?_)
                    refine pM_aln rfl rfl rfl ?_
                    refine pM_iln rfl rfl ?_
                    refine pM_ic rfl ki_1 ?_
                    refine pM_qVi (as := [.inr (.inl (some 190)), .inl (.inl p1), .inl (.inl 1)]) (T := []) rfl rfl (fun C hC => cl_v hC rfl rfl rfl rfl) rfl (q_m_of ) ?_
                    exact pM_ri rfl (⟨_, rfl, h⟩)
                  · replace h := h.2 h121
                    refine pM_ic rfl ki_0 ?_
                    exact pM_ri rfl (⟨_, rfl, h⟩)
              · replace h := h.2 h117
                refine pM_aln rfl rfl rfl ?_
                refine pM_iln rfl rfl ?_
                refine pM_qVi (as := [.inr (.inl (some 190)), .inl (.inl p1)]) (T := []) rfl rfl (fun C hC => cl_v hC rfl rfl rfl rfl) rfl (q_m_isSingle ) ?_
                refine pM_zeq rfl rfl (fun h126 => ?_) (fun h126 => ?_)
                · replace h := h.1 h126
                  refine pM_ic rfl ki_0 ?_
                  refine pM_isn rfl rfl ?_
                  refine pM_aln rfl rfl rfl ?_
                  refine pM_iln rfl rfl ?_
                  refine pM_zne rfl rfl (fun h127 => ?_) (fun h127 => ?_)
                  · exact absurd (by decide) h127
                  · refine pM_ic rfl ki_1 ?_
                    refine pM_go rfl rfl ?_
                    refine pM_ic rfl ki_3 ?_
                    refine pM_qRi (as := [.inr (.inl (some 190)), .inl (.inl 1), .inl (.inl 3)]) (T := []) rfl rfl (fun C hC => cl_v hC rfl rfl rfl rfl) rfl (q_m_throwsIf  h) (fun r128 M129 h => ?_)
                    refine pM_zeq rfl rfl (fun h130 => ?_) (fun h130 => ?_)
                    · replace h := h.1 h130
                      refine pM_aln rfl rfl rfl ?_
                      refine pM_qRu (as := [.inr (.inl (some 190))]) (T := []) rfl rfl (fun C hC => cl_v hC rfl rfl rfl rfl) rfl (q_m_remembers  h) (fun M132 h => ?_)
                      refine pM_aln rfl rfl rfl ?_
                      refine pM_iln rfl rfl ?_
                      refine pM_iln rfl rfl ?_
                      refine pM_qRu (as := [.inr (.inl (some 190)), .inl (.inl p1), .inl (.inl p2)]) (T := []) rfl rfl (fun C hC => cl_v hC rfl rfl rfl rfl) rfl (q_m_weds  h) (fun M134 h => ?_)
                      refine pM_aln rfl rfl rfl ?_
                      refine pM_iln rfl rfl ?_
                      refine pM_ic rfl ki_1 ?_
                      refine pM_qVi (as := [.inr (.inl (some 190)), .inl (.inl p1), .inl (.inl 1)]) (T := []) rfl rfl (fun C hC => cl_v hC rfl rfl rfl rfl) rfl (q_m_of ) ?_
                      exact pM_ri rfl (⟨_, rfl, h⟩)
                    · replace h := h.2 h130
                      refine pM_ic rfl ki_0 ?_
                      exact pM_ri rfl (⟨_, rfl, h⟩)
                · replace h := h.2 h126
                  refine pM_aln rfl rfl rfl ?_
                  refine pM_iln rfl rfl ?_
                  refine pM_qVi (as := [.inr (.inl (some 190)), .inl (.inl p2)]) (T := []) rfl rfl (fun C hC => cl_v hC rfl rfl rfl rfl) rfl (q_m_isSingle ) ?_
                  refine pM_zeq rfl rfl (fun h135 => ?_) (fun h135 => ?_)
                  · replace h := h.1 h135
                    refine pM_ic rfl ki_0 ?_
                    refine pM_isn rfl rfl ?_
                    refine pM_aln rfl rfl rfl ?_
                    refine pM_iln rfl rfl ?_
                    refine pM_zne rfl rfl (fun h136 => ?_) (fun h136 => ?_)
                    · exact absurd (by decide) h136
                    · refine pM_ic rfl ki_1 ?_
                      refine pM_go rfl rfl ?_
                      refine pM_ic rfl ki_3 ?_
                      refine pM_qRi (as := [.inr (.inl (some 190)), .inl (.inl 1), .inl (.inl 3)]) (T := []) rfl rfl (fun C hC => cl_v hC rfl rfl rfl rfl) rfl (q_m_throwsIf  h) (fun r137 M138 h => ?_)
                      refine pM_zeq rfl rfl (fun h139 => ?_) (fun h139 => ?_)
                      · replace h := h.1 h139
                        refine pM_aln rfl rfl rfl ?_
                        refine pM_qRu (as := [.inr (.inl (some 190))]) (T := []) rfl rfl (fun C hC => cl_v hC rfl rfl rfl rfl) rfl (q_m_remembers  h) (fun M141 h => ?_)
                        refine pM_aln rfl rfl rfl ?_
                        refine pM_iln rfl rfl ?_
                        refine pM_iln rfl rfl ?_
                        refine pM_qRu (as := [.inr (.inl (some 190)), .inl (.inl p1), .inl (.inl p2)]) (T := []) rfl rfl (fun C hC => cl_v hC rfl rfl rfl rfl) rfl (q_m_weds  h) (fun M143 h => ?_)
                        refine pM_aln rfl rfl rfl ?_
                        refine pM_iln rfl rfl ?_
                        refine pM_ic rfl ki_1 ?_
                        refine pM_qVi (as := [.inr (.inl (some 190)), .inl (.inl p1), .inl (.inl 1)]) (T := []) rfl rfl (fun C hC => cl_v hC rfl rfl rfl rfl) rfl (q_m_of ) ?_
                        exact pM_ri rfl (⟨_, rfl, h⟩)
                      · replace h := h.2 h139
                        refine pM_ic rfl ki_0 ?_
                        exact pM_ri rfl (⟨_, rfl, h⟩)
                  · replace h := h.2 h135
                    refine pM_ic rfl ki_1 ?_
                    refine pM_go rfl rfl ?_
                    refine pM_isn rfl rfl ?_
                    refine pM_aln rfl rfl rfl ?_
                    refine pM_iln rfl rfl ?_
                    refine pM_zne rfl rfl (fun h144 => ?_) (fun h144 => ?_)
                    · refine pM_ic rfl ki_0 ?_
                      refine pM_ic rfl ki_3 ?_
                      refine pM_qRi (as := [.inr (.inl (some 190)), .inl (.inl 0), .inl (.inl 3)]) (T := []) rfl rfl (fun C hC => cl_v hC rfl rfl rfl rfl) rfl (q_m_throwsIf  h) (fun r145 M146 h => ?_)
                      refine pM_zeq rfl rfl (fun h147 => ?_) (fun h147 => ?_)
                      · replace h := h.1 h147
                        refine pM_aln rfl rfl rfl ?_
                        refine pM_qRu (as := [.inr (.inl (some 190))]) (T := []) rfl rfl (fun C hC => cl_v hC rfl rfl rfl rfl) rfl (q_m_remembers  h) (fun M149 h => ?_)
                        refine pM_aln rfl rfl rfl ?_
                        refine pM_iln rfl rfl ?_
                        refine pM_iln rfl rfl ?_
                        refine pM_qRu (as := [.inr (.inl (some 190)), .inl (.inl p1), .inl (.inl p2)]) (T := []) rfl rfl (fun C hC => cl_v hC rfl rfl rfl rfl) rfl (q_m_weds  h) (fun M151 h => ?_)
                        refine pM_aln rfl rfl rfl ?_
                        refine pM_iln rfl rfl ?_
                        refine pM_ic rfl ki_1 ?_
                        refine pM_qVi (as := [.inr (.inl (some 190)), .inl (.inl p1), .inl (.inl 1)]) (T := []) rfl rfl (fun C hC => cl_v hC rfl rfl rfl rfl) rfl (q_m_of ) ?_
                        exact pM_ri rfl (⟨_, rfl, h⟩)
                      · replace h := h.2 h147
                        refine pM_ic rfl ki_0 ?_
                        exact pM_ri rfl (⟨_, rfl, h⟩)
                    · exact absurd h144 (by decide)
          · replace h := h.2 h107
            refine pM_ic rfl ki_0 ?_
            exact pM_ri rfl (⟨_, rfl, h⟩)
