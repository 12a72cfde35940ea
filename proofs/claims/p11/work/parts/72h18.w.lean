/-! WHAT EACH METHOD COMES TO (gw.py) -/
/-- 261: EarCodeModel.matter(III)I -/
def W_m_matter (p1 : Int32) (p2 : Int32) (p3 : Int32) (N : Nat) (M : MM) (Q : Int32 → MM → Prop) : Prop :=
  (((V_m_noMatter p1 (wi M 190 0 0)) = 0 →
    (((V_m_noCitizen p2 (wi M 190 0 0)) = 0 →
      W_m_throwsIf 0 1 N (wi M 190 0 0) (fun r3 M4 =>
        ((r3 = 0 →
          (((V_m_isAlive p2 M4) = 0 →
            W_m_throwsIf 1 2 N M4 (fun r7 M8 =>
              ((r7 = 0 →
                (((V_m_in p3 0 3 M8) = 0 →
                  W_m_throwsIf 1 3 N M8 (fun r11 M12 =>
                    ((r11 = 0 →
                      ((p3 < 2 →
                        W_m_inForce  N M12 (fun r15 =>
                          ((p3 = 1 →
                            W_m_saying r15 1 p1 p2 (M12.1 191 (ni 2)) N M12 (fun r18 M19 =>
                              Q r18 M19)) ∧
                           (¬ p3 = 1 →
                            W_m_saying r15 0 p1 p2 (M12.1 191 (ni 2)) N M12 (fun r20 M21 =>
                              Q r20 M21))))) ∧
                       (¬ p3 < 2 →
                        W_m_may p1 p2 N M12 (fun r22 M23 =>
                          ((r22 = 0 →
                            Q 0 M23) ∧
                           (¬ r22 = 0 →
                            ((p3 = 2 →
                              Q 1 M23) ∧
                             (¬ p3 = 2 →
                              (((V_m_hasMatter (M23.2 196 (ni p2)) p1 M23) = 0 →
                                Q 1 M23) ∧
                               (¬ (V_m_hasMatter (M23.2 196 (ni p2)) p1 M23) = 0 →
                                Q 0 M23)))))))))) ∧
                     (¬ r11 = 0 →
                      Q 0 M12)))) ∧
                 (¬ (V_m_in p3 0 3 M8) = 0 →
                  W_m_throwsIf 0 3 N M8 (fun r27 M28 =>
                    ((r27 = 0 →
                      ((p3 < 2 →
                        W_m_inForce  N M28 (fun r31 =>
                          ((p3 = 1 →
                            W_m_saying r31 1 p1 p2 (M28.1 191 (ni 2)) N M28 (fun r34 M35 =>
                              Q r34 M35)) ∧
                           (¬ p3 = 1 →
                            W_m_saying r31 0 p1 p2 (M28.1 191 (ni 2)) N M28 (fun r36 M37 =>
                              Q r36 M37))))) ∧
                       (¬ p3 < 2 →
                        W_m_may p1 p2 N M28 (fun r38 M39 =>
                          ((r38 = 0 →
                            Q 0 M39) ∧
                           (¬ r38 = 0 →
                            ((p3 = 2 →
                              Q 1 M39) ∧
                             (¬ p3 = 2 →
                              (((V_m_hasMatter (M39.2 196 (ni p2)) p1 M39) = 0 →
                                Q 1 M39) ∧
                               (¬ (V_m_hasMatter (M39.2 196 (ni p2)) p1 M39) = 0 →
                                Q 0 M39)))))))))) ∧
                     (¬ r27 = 0 →
                      Q 0 M28)))))) ∧
               (¬ r7 = 0 →
                Q 0 M8)))) ∧
           (¬ (V_m_isAlive p2 M4) = 0 →
            W_m_throwsIf 0 2 N M4 (fun r43 M44 =>
              ((r43 = 0 →
                (((V_m_in p3 0 3 M44) = 0 →
                  W_m_throwsIf 1 3 N M44 (fun r47 M48 =>
                    ((r47 = 0 →
                      ((p3 < 2 →
                        W_m_inForce  N M48 (fun r51 =>
                          ((p3 = 1 →
                            W_m_saying r51 1 p1 p2 (M48.1 191 (ni 2)) N M48 (fun r54 M55 =>
                              Q r54 M55)) ∧
                           (¬ p3 = 1 →
                            W_m_saying r51 0 p1 p2 (M48.1 191 (ni 2)) N M48 (fun r56 M57 =>
                              Q r56 M57))))) ∧
                       (¬ p3 < 2 →
                        W_m_may p1 p2 N M48 (fun r58 M59 =>
                          ((r58 = 0 →
                            Q 0 M59) ∧
                           (¬ r58 = 0 →
                            ((p3 = 2 →
                              Q 1 M59) ∧
                             (¬ p3 = 2 →
                              (((V_m_hasMatter (M59.2 196 (ni p2)) p1 M59) = 0 →
                                Q 1 M59) ∧
                               (¬ (V_m_hasMatter (M59.2 196 (ni p2)) p1 M59) = 0 →
                                Q 0 M59)))))))))) ∧
                     (¬ r47 = 0 →
                      Q 0 M48)))) ∧
                 (¬ (V_m_in p3 0 3 M44) = 0 →
                  W_m_throwsIf 0 3 N M44 (fun r63 M64 =>
                    ((r63 = 0 →
                      ((p3 < 2 →
                        W_m_inForce  N M64 (fun r67 =>
                          ((p3 = 1 →
                            W_m_saying r67 1 p1 p2 (M64.1 191 (ni 2)) N M64 (fun r70 M71 =>
                              Q r70 M71)) ∧
                           (¬ p3 = 1 →
                            W_m_saying r67 0 p1 p2 (M64.1 191 (ni 2)) N M64 (fun r72 M73 =>
                              Q r72 M73))))) ∧
                       (¬ p3 < 2 →
                        W_m_may p1 p2 N M64 (fun r74 M75 =>
                          ((r74 = 0 →
                            Q 0 M75) ∧
                           (¬ r74 = 0 →
                            ((p3 = 2 →
                              Q 1 M75) ∧
                             (¬ p3 = 2 →
                              (((V_m_hasMatter (M75.2 196 (ni p2)) p1 M75) = 0 →
                                Q 1 M75) ∧
                               (¬ (V_m_hasMatter (M75.2 196 (ni p2)) p1 M75) = 0 →
                                Q 0 M75)))))))))) ∧
                     (¬ r63 = 0 →
                      Q 0 M64)))))) ∧
               (¬ r43 = 0 →
                Q 0 M44)))))) ∧
         (¬ r3 = 0 →
          Q 0 M4)))) ∧
     (¬ (V_m_noCitizen p2 (wi M 190 0 0)) = 0 →
      W_m_throwsIf 1 1 N (wi M 190 0 0) (fun r79 M80 =>
        ((r79 = 0 →
          (((V_m_isAlive p2 M80) = 0 →
            W_m_throwsIf 1 2 N M80 (fun r83 M84 =>
              ((r83 = 0 →
                (((V_m_in p3 0 3 M84) = 0 →
                  W_m_throwsIf 1 3 N M84 (fun r87 M88 =>
                    ((r87 = 0 →
                      ((p3 < 2 →
                        W_m_inForce  N M88 (fun r91 =>
                          ((p3 = 1 →
                            W_m_saying r91 1 p1 p2 (M88.1 191 (ni 2)) N M88 (fun r94 M95 =>
                              Q r94 M95)) ∧
                           (¬ p3 = 1 →
                            W_m_saying r91 0 p1 p2 (M88.1 191 (ni 2)) N M88 (fun r96 M97 =>
                              Q r96 M97))))) ∧
                       (¬ p3 < 2 →
                        W_m_may p1 p2 N M88 (fun r98 M99 =>
                          ((r98 = 0 →
                            Q 0 M99) ∧
                           (¬ r98 = 0 →
                            ((p3 = 2 →
                              Q 1 M99) ∧
                             (¬ p3 = 2 →
                              (((V_m_hasMatter (M99.2 196 (ni p2)) p1 M99) = 0 →
                                Q 1 M99) ∧
                               (¬ (V_m_hasMatter (M99.2 196 (ni p2)) p1 M99) = 0 →
                                Q 0 M99)))))))))) ∧
                     (¬ r87 = 0 →
                      Q 0 M88)))) ∧
                 (¬ (V_m_in p3 0 3 M84) = 0 →
                  W_m_throwsIf 0 3 N M84 (fun r103 M104 =>
                    ((r103 = 0 →
                      ((p3 < 2 →
                        W_m_inForce  N M104 (fun r107 =>
                          ((p3 = 1 →
                            W_m_saying r107 1 p1 p2 (M104.1 191 (ni 2)) N M104 (fun r110 M111 =>
                              Q r110 M111)) ∧
                           (¬ p3 = 1 →
                            W_m_saying r107 0 p1 p2 (M104.1 191 (ni 2)) N M104 (fun r112 M113 =>
                              Q r112 M113))))) ∧
                       (¬ p3 < 2 →
                        W_m_may p1 p2 N M104 (fun r114 M115 =>
                          ((r114 = 0 →
                            Q 0 M115) ∧
                           (¬ r114 = 0 →
                            ((p3 = 2 →
                              Q 1 M115) ∧
                             (¬ p3 = 2 →
                              (((V_m_hasMatter (M115.2 196 (ni p2)) p1 M115) = 0 →
                                Q 1 M115) ∧
                               (¬ (V_m_hasMatter (M115.2 196 (ni p2)) p1 M115) = 0 →
                                Q 0 M115)))))))))) ∧
                     (¬ r103 = 0 →
                      Q 0 M104)))))) ∧
               (¬ r83 = 0 →
                Q 0 M84)))) ∧
           (¬ (V_m_isAlive p2 M80) = 0 →
            W_m_throwsIf 0 2 N M80 (fun r119 M120 =>
              ((r119 = 0 →
                (((V_m_in p3 0 3 M120) = 0 →
                  W_m_throwsIf 1 3 N M120 (fun r123 M124 =>
                    ((r123 = 0 →
                      ((p3 < 2 →
                        W_m_inForce  N M124 (fun r127 =>
                          ((p3 = 1 →
                            W_m_saying r127 1 p1 p2 (M124.1 191 (ni 2)) N M124 (fun r130 M131 =>
                              Q r130 M131)) ∧
                           (¬ p3 = 1 →
                            W_m_saying r127 0 p1 p2 (M124.1 191 (ni 2)) N M124 (fun r132 M133 =>
                              Q r132 M133))))) ∧
                       (¬ p3 < 2 →
                        W_m_may p1 p2 N M124 (fun r134 M135 =>
                          ((r134 = 0 →
                            Q 0 M135) ∧
                           (¬ r134 = 0 →
                            ((p3 = 2 →
                              Q 1 M135) ∧
                             (¬ p3 = 2 →
                              (((V_m_hasMatter (M135.2 196 (ni p2)) p1 M135) = 0 →
                                Q 1 M135) ∧
                               (¬ (V_m_hasMatter (M135.2 196 (ni p2)) p1 M135) = 0 →
                                Q 0 M135)))))))))) ∧
                     (¬ r123 = 0 →
                      Q 0 M124)))) ∧
                 (¬ (V_m_in p3 0 3 M120) = 0 →
                  W_m_throwsIf 0 3 N M120 (fun r139 M140 =>
                    ((r139 = 0 →
                      ((p3 < 2 →
                        W_m_inForce  N M140 (fun r143 =>
                          ((p3 = 1 →
                            W_m_saying r143 1 p1 p2 (M140.1 191 (ni 2)) N M140 (fun r146 M147 =>
                              Q r146 M147)) ∧
                           (¬ p3 = 1 →
                            W_m_saying r143 0 p1 p2 (M140.1 191 (ni 2)) N M140 (fun r148 M149 =>
                              Q r148 M149))))) ∧
                       (¬ p3 < 2 →
                        W_m_may p1 p2 N M140 (fun r150 M151 =>
                          ((r150 = 0 →
                            Q 0 M151) ∧
                           (¬ r150 = 0 →
                            ((p3 = 2 →
                              Q 1 M151) ∧
                             (¬ p3 = 2 →
                              (((V_m_hasMatter (M151.2 196 (ni p2)) p1 M151) = 0 →
                                Q 1 M151) ∧
                               (¬ (V_m_hasMatter (M151.2 196 (ni p2)) p1 M151) = 0 →
                                Q 0 M151)))))))))) ∧
                     (¬ r139 = 0 →
                      Q 0 M140)))))) ∧
               (¬ r119 = 0 →
                Q 0 M120)))))) ∧
         (¬ r79 = 0 →
          Q 0 M80)))))) ∧
   (¬ (V_m_noMatter p1 (wi M 190 0 0)) = 0 →
    W_m_throwsIf 1 1 N (wi M 190 0 0) (fun r155 M156 =>
      ((r155 = 0 →
        (((V_m_isAlive p2 M156) = 0 →
          W_m_throwsIf 1 2 N M156 (fun r159 M160 =>
            ((r159 = 0 →
              (((V_m_in p3 0 3 M160) = 0 →
                W_m_throwsIf 1 3 N M160 (fun r163 M164 =>
                  ((r163 = 0 →
                    ((p3 < 2 →
                      W_m_inForce  N M164 (fun r167 =>
                        ((p3 = 1 →
                          W_m_saying r167 1 p1 p2 (M164.1 191 (ni 2)) N M164 (fun r170 M171 =>
                            Q r170 M171)) ∧
                         (¬ p3 = 1 →
                          W_m_saying r167 0 p1 p2 (M164.1 191 (ni 2)) N M164 (fun r172 M173 =>
                            Q r172 M173))))) ∧
                     (¬ p3 < 2 →
                      W_m_may p1 p2 N M164 (fun r174 M175 =>
                        ((r174 = 0 →
                          Q 0 M175) ∧
                         (¬ r174 = 0 →
                          ((p3 = 2 →
                            Q 1 M175) ∧
                           (¬ p3 = 2 →
                            (((V_m_hasMatter (M175.2 196 (ni p2)) p1 M175) = 0 →
                              Q 1 M175) ∧
                             (¬ (V_m_hasMatter (M175.2 196 (ni p2)) p1 M175) = 0 →
                              Q 0 M175)))))))))) ∧
                   (¬ r163 = 0 →
                    Q 0 M164)))) ∧
               (¬ (V_m_in p3 0 3 M160) = 0 →
                W_m_throwsIf 0 3 N M160 (fun r179 M180 =>
                  ((r179 = 0 →
                    ((p3 < 2 →
                      W_m_inForce  N M180 (fun r183 =>
                        ((p3 = 1 →
                          W_m_saying r183 1 p1 p2 (M180.1 191 (ni 2)) N M180 (fun r186 M187 =>
                            Q r186 M187)) ∧
                         (¬ p3 = 1 →
                          W_m_saying r183 0 p1 p2 (M180.1 191 (ni 2)) N M180 (fun r188 M189 =>
                            Q r188 M189))))) ∧
                     (¬ p3 < 2 →
                      W_m_may p1 p2 N M180 (fun r190 M191 =>
                        ((r190 = 0 →
                          Q 0 M191) ∧
                         (¬ r190 = 0 →
                          ((p3 = 2 →
                            Q 1 M191) ∧
                           (¬ p3 = 2 →
                            (((V_m_hasMatter (M191.2 196 (ni p2)) p1 M191) = 0 →
                              Q 1 M191) ∧
                             (¬ (V_m_hasMatter (M191.2 196 (ni p2)) p1 M191) = 0 →
                              Q 0 M191)))))))))) ∧
                   (¬ r179 = 0 →
                    Q 0 M180)))))) ∧
             (¬ r159 = 0 →
              Q 0 M160)))) ∧
         (¬ (V_m_isAlive p2 M156) = 0 →
          W_m_throwsIf 0 2 N M156 (fun r195 M196 =>
            ((r195 = 0 →
              (((V_m_in p3 0 3 M196) = 0 →
                W_m_throwsIf 1 3 N M196 (fun r199 M200 =>
                  ((r199 = 0 →
                    ((p3 < 2 →
                      W_m_inForce  N M200 (fun r203 =>
                        ((p3 = 1 →
                          W_m_saying r203 1 p1 p2 (M200.1 191 (ni 2)) N M200 (fun r206 M207 =>
                            Q r206 M207)) ∧
                         (¬ p3 = 1 →
                          W_m_saying r203 0 p1 p2 (M200.1 191 (ni 2)) N M200 (fun r208 M209 =>
                            Q r208 M209))))) ∧
                     (¬ p3 < 2 →
                      W_m_may p1 p2 N M200 (fun r210 M211 =>
                        ((r210 = 0 →
                          Q 0 M211) ∧
                         (¬ r210 = 0 →
                          ((p3 = 2 →
                            Q 1 M211) ∧
                           (¬ p3 = 2 →
                            (((V_m_hasMatter (M211.2 196 (ni p2)) p1 M211) = 0 →
                              Q 1 M211) ∧
                             (¬ (V_m_hasMatter (M211.2 196 (ni p2)) p1 M211) = 0 →
                              Q 0 M211)))))))))) ∧
                   (¬ r199 = 0 →
                    Q 0 M200)))) ∧
               (¬ (V_m_in p3 0 3 M196) = 0 →
                W_m_throwsIf 0 3 N M196 (fun r215 M216 =>
                  ((r215 = 0 →
                    ((p3 < 2 →
                      W_m_inForce  N M216 (fun r219 =>
                        ((p3 = 1 →
                          W_m_saying r219 1 p1 p2 (M216.1 191 (ni 2)) N M216 (fun r222 M223 =>
                            Q r222 M223)) ∧
                         (¬ p3 = 1 →
                          W_m_saying r219 0 p1 p2 (M216.1 191 (ni 2)) N M216 (fun r224 M225 =>
                            Q r224 M225))))) ∧
                     (¬ p3 < 2 →
                      W_m_may p1 p2 N M216 (fun r226 M227 =>
                        ((r226 = 0 →
                          Q 0 M227) ∧
                         (¬ r226 = 0 →
                          ((p3 = 2 →
                            Q 1 M227) ∧
                           (¬ p3 = 2 →
                            (((V_m_hasMatter (M227.2 196 (ni p2)) p1 M227) = 0 →
                              Q 1 M227) ∧
                             (¬ (V_m_hasMatter (M227.2 196 (ni p2)) p1 M227) = 0 →
                              Q 0 M227)))))))))) ∧
                   (¬ r215 = 0 →
                    Q 0 M216)))))) ∧
             (¬ r195 = 0 →
              Q 0 M196)))))) ∧
       (¬ r155 = 0 →
        Q 0 M156)))))
theorem q_m_matter {X : Option (List AI)} {N : Nat} {M : MM} {p1 : Int32} {p2 : Int32} {p3 : Int32} {Q : Int32 → MM → Prop}  (h : W_m_matter p1 p2 p3 N M Q) : pM X N 261 0 (ea_ar 0 [.inr (.inl (some 190)), .inl (.inl p1), .inl (.inl p2), .inl (.inl p3)]) [] M (Ri Q) := by
  refine pM_w (F2 := [(0, .inr (.inl (some 190))), (1, .inl (.inl p1)), (2, .inl (.inl p2)), (3, .inl (.inl p3))]) (fun L hL => lo_cons (lo_lk hL rfl) (lo_cons (lo_lk hL rfl) (lo_cons (lo_lk hL rfl) (lo_cons (lo_lk hL rfl) lo_nil)))) ?_
  refine pM_aln rfl rfl rfl ?_
  refine pM_ic rfl ki_0 ?_
  refine pM_pi rfl rfl rfl rfl ?_
  refine pM_aln rfl rfl rfl ?_
  refine pM_iln rfl rfl ?_
  refine pM_qVi (as := [.inl (.inl p1)]) (T := [.inr (.inl (some 190))]) rfl rfl (fun _ _ => rfl) rfl (q_m_noMatter ) ?_
  refine pM_zne rfl rfl (fun h1 => ?_) (fun h1 => ?_)
  · replace h := h.2 h1
    refine pM_ic rfl ki_1 ?_
    refine pM_go rfl rfl ?_
    refine pM_ic rfl ki_1 ?_
    refine pM_qRi (as := [.inr (.inl (some 190)), .inl (.inl 1), .inl (.inl 1)]) (T := []) rfl rfl (fun C hC => cl_v hC rfl rfl rfl rfl) rfl (q_m_throwsIf  h) (fun r155 M156 h => ?_)
    refine pM_zne rfl rfl (fun h157 => ?_) (fun h157 => ?_)
    · replace h := h.2 h157
      refine pM_ic rfl ki_0 ?_
      exact pM_ri rfl (⟨_, rfl, h⟩)
    · replace h := h.1 h157
      refine pM_aln rfl rfl rfl ?_
      refine pM_aln rfl rfl rfl ?_
      refine pM_iln rfl rfl ?_
      refine pM_qVi (as := [.inr (.inl (some 190)), .inl (.inl p2)]) (T := [.inr (.inl (some 190))]) rfl rfl (fun C hC => cl_v hC rfl rfl rfl rfl) rfl (q_m_isAlive ) ?_
      refine pM_zne rfl rfl (fun h158 => ?_) (fun h158 => ?_)
      · replace h := h.2 h158
        refine pM_ic rfl ki_0 ?_
        refine pM_ic rfl ki_2 ?_
        refine pM_qRi (as := [.inr (.inl (some 190)), .inl (.inl 0), .inl (.inl 2)]) (T := []) rfl rfl (fun C hC => cl_v hC rfl rfl rfl rfl) rfl (q_m_throwsIf  h) (fun r195 M196 h => ?_)
        refine pM_zne rfl rfl (fun h197 => ?_) (fun h197 => ?_)
        · replace h := h.2 h197
          refine pM_ic rfl ki_0 ?_
          exact pM_ri rfl (⟨_, rfl, h⟩)
        · replace h := h.1 h197
          refine pM_aln rfl rfl rfl ?_
          refine pM_iln rfl rfl ?_
          refine pM_ic rfl ki_0 ?_
          refine pM_ic rfl ki_3 ?_
          refine pM_qVi (as := [.inl (.inl p3), .inl (.inl 0), .inl (.inl 3)]) (T := [.inr (.inl (some 190))]) rfl rfl (fun _ _ => rfl) rfl (q_m_in ) ?_
          refine pM_zne rfl rfl (fun h198 => ?_) (fun h198 => ?_)
          · replace h := h.2 h198
            refine pM_ic rfl ki_0 ?_
            refine pM_ic rfl ki_3 ?_
            refine pM_qRi (as := [.inr (.inl (some 190)), .inl (.inl 0), .inl (.inl 3)]) (T := []) rfl rfl (fun C hC => cl_v hC rfl rfl rfl rfl) rfl (q_m_throwsIf  h) (fun r215 M216 h => ?_)
            refine pM_zeq rfl rfl (fun h217 => ?_) (fun h217 => ?_)
            · replace h := h.1 h217
              refine pM_iln rfl rfl ?_
              refine pM_ic rfl ki_2 ?_
              refine pM_cge rfl rfl (fun h218 => ?_) (fun h218 => ?_)
              · replace h := h.2 h218
                refine pM_aln rfl rfl rfl ?_
                refine pM_iln rfl rfl ?_
                refine pM_iln rfl rfl ?_
                refine pM_qRi (as := [.inr (.inl (some 190)), .inl (.inl p1), .inl (.inl p2)]) (T := []) rfl rfl (fun C hC => cl_v hC rfl rfl rfl rfl) rfl (q_m_may  h) (fun r226 M227 h => ?_)
                refine pM_zeq rfl rfl (fun h228 => ?_) (fun h228 => ?_)
                · replace h := h.1 h228
                  refine pM_ic rfl ki_0 ?_
                  exact pM_ri rfl (⟨_, rfl, h⟩)
                · replace h := h.2 h228
                  refine pM_iln rfl rfl ?_
                  refine pM_ic rfl ki_2 ?_
                  refine pM_ceq rfl rfl (fun h229 => ?_) (fun h229 => ?_)
                  · replace h := h.1 h229
                    refine pM_ic rfl ki_1 ?_
                    refine pM_go rfl rfl ?_
                    exact pM_ri rfl (⟨_, rfl, h⟩)
                  · replace h := h.2 h229
                    refine pM_aln rfl rfl rfl ?_
                    refine pM_gr rfl rfl rfl rfl ?_
                    refine pM_iln rfl rfl ?_
                    refine pM_la rfl rfl ?_
                    refine pM_iln rfl rfl ?_
                    refine pM_qVi (as := [.inr (.inr (.inl (some (M227.2 196 (ni p2))))), .inl (.inl p1)]) (T := []) rfl rfl (fun _ _ => rfl) rfl (q_m_hasMatter ) ?_
                    refine pM_zne rfl rfl (fun h230 => ?_) (fun h230 => ?_)
                    · replace h := h.2 h230
                      refine pM_ic rfl ki_0 ?_
                      exact pM_ri rfl (⟨_, rfl, h⟩)
                    · replace h := h.1 h230
                      refine pM_ic rfl ki_1 ?_
                      refine pM_go rfl rfl ?_
                      exact pM_ri rfl (⟨_, rfl, h⟩)
              · replace h := h.1 h218
                refine pM_aln rfl rfl rfl ?_
                refine pM_aln rfl rfl rfl ?_
                refine pM_qPi (as := [.inr (.inl (some 190))]) (T := [.inr (.inl (some 190))]) rfl rfl (fun C hC => cl_v hC rfl rfl rfl rfl) rfl (q_m_inForce  h) (fun r219 h => ?_)
                refine pM_iln rfl rfl ?_
                refine pM_ic rfl ki_1 ?_
                refine pM_cne rfl rfl (fun h221 => ?_) (fun h221 => ?_)
                · replace h := h.2 h221
                  refine pM_ic rfl ki_0 ?_
                  refine pM_iln rfl rfl ?_
                  refine pM_iln rfl rfl ?_
                  refine pM_aln rfl rfl rfl ?_
                  refine pM_gr rfl rfl rfl rfl ?_
                  refine pM_ic rfl ki_2 ?_
                  refine pM_ai rfl rfl row_p ?_
                  refine pM_qRi (as := [.inr (.inl (some 190)), .inl (.inl r219), .inl (.inl 0), .inl (.inl p1), .inl (.inl p2), .inl (.inl (M216.1 191 (ni 2)))]) (T := []) rfl rfl (fun C hC => cl_v hC rfl rfl rfl rfl) rfl (q_m_saying  h) (fun r224 M225 h => ?_)
                  exact pM_ri rfl (⟨_, rfl, h⟩)
                · replace h := h.1 h221
                  refine pM_ic rfl ki_1 ?_
                  refine pM_go rfl rfl ?_
                  refine pM_iln rfl rfl ?_
                  refine pM_iln rfl rfl ?_
                  refine pM_aln rfl rfl rfl ?_
                  refine pM_gr rfl rfl rfl rfl ?_
                  refine pM_ic rfl ki_2 ?_
                  refine pM_ai rfl rfl row_p ?_
                  refine pM_qRi (as := [.inr (.inl (some 190)), .inl (.inl r219), .inl (.inl 1), .inl (.inl p1), .inl (.inl p2), .inl (.inl (M216.1 191 (ni 2)))]) (T := []) rfl rfl (fun C hC => cl_v hC rfl rfl rfl rfl) rfl (q_m_saying  h) (fun r222 M223 h => ?_)
                  exact pM_ri rfl (⟨_, rfl, h⟩)
            · replace h := h.2 h217
              refine pM_ic rfl ki_0 ?_
              exact pM_ri rfl (⟨_, rfl, h⟩)
          · replace h := h.1 h198
            refine pM_ic rfl ki_1 ?_
            refine pM_go rfl rfl ?_
            refine pM_ic rfl ki_3 ?_
            refine pM_qRi (as := [.inr (.inl (some 190)), .inl (.inl 1), .inl (.inl 3)]) (T := []) rfl rfl (fun C hC => cl_v hC rfl rfl rfl rfl) rfl (q_m_throwsIf  h) (fun r199 M200 h => ?_)
            refine pM_zeq rfl rfl (fun h201 => ?_) (fun h201 => ?_)
            · replace h := h.1 h201
              refine pM_iln rfl rfl ?_
              refine pM_ic rfl ki_2 ?_
              refine pM_cge rfl rfl (fun h202 => ?_) (fun h202 => ?_)
              · replace h := h.2 h202
                refine pM_aln rfl rfl rfl ?_
                refine pM_iln rfl rfl ?_
                refine pM_iln rfl rfl ?_
                refine pM_qRi (as := [.inr (.inl (some 190)), .inl (.inl p1), .inl (.inl p2)]) (T := []) rfl rfl (fun C hC => cl_v hC rfl rfl rfl rfl) rfl (q_m_may  h) (fun r210 M211 h => ?_)
                refine pM_zeq rfl rfl (fun h212 => ?_) (fun h212 => ?_)
                · replace h := h.1 h212
                  refine pM_ic rfl ki_0 ?_
                  exact pM_ri rfl (⟨_, rfl, h⟩)
                · replace h := h.2 h212
                  refine pM_iln rfl rfl ?_
                  refine pM_ic rfl ki_2 ?_
                  refine pM_ceq rfl rfl (fun h213 => ?_) (fun h213 => ?_)
                  · replace h := h.1 h213
                    refine pM_ic rfl ki_1 ?_
                    refine pM_go rfl rfl ?_
                    exact pM_ri rfl (⟨_, rfl, h⟩)
                  · replace h := h.2 h213
                    refine pM_aln rfl rfl rfl ?_
                    refine pM_gr rfl rfl rfl rfl ?_
                    refine pM_iln rfl rfl ?_
                    refine pM_la rfl rfl ?_
                    refine pM_iln rfl rfl ?_
                    refine pM_qVi (as := [.inr (.inr (.inl (some (M211.2 196 (ni p2))))), .inl (.inl p1)]) (T := []) rfl rfl (fun _ _ => rfl) rfl (q_m_hasMatter ) ?_
                    refine pM_zne rfl rfl (fun h214 => ?_) (fun h214 => ?_)
                    · replace h := h.2 h214
                      refine pM_ic rfl ki_0 ?_
                      exact pM_ri rfl (⟨_, rfl, h⟩)
                    · replace h := h.1 h214
                      refine pM_ic rfl ki_1 ?_
                      refine pM_go rfl rfl ?_
                      exact pM_ri rfl (⟨_, rfl, h⟩)
              · replace h := h.1 h202
                refine pM_aln rfl rfl rfl ?_
                refine pM_aln rfl rfl rfl ?_
                refine pM_qPi (as := [.inr (.inl (some 190))]) (T := [.inr (.inl (some 190))]) rfl rfl (fun C hC => cl_v hC rfl rfl rfl rfl) rfl (q_m_inForce  h) (fun r203 h => ?_)
                refine pM_iln rfl rfl ?_
                refine pM_ic rfl ki_1 ?_
                refine pM_cne rfl rfl (fun h205 => ?_) (fun h205 => ?_)
                · replace h := h.2 h205
                  refine pM_ic rfl ki_0 ?_
                  refine pM_iln rfl rfl ?_
                  refine pM_iln rfl rfl ?_
                  refine pM_aln rfl rfl rfl ?_
                  refine pM_gr rfl rfl rfl rfl ?_
                  refine pM_ic rfl ki_2 ?_
                  refine pM_ai rfl rfl row_p ?_
                  refine pM_qRi (as := [.inr (.inl (some 190)), .inl (.inl r203), .inl (.inl 0), .inl (.inl p1), .inl (.inl p2), .inl (.inl (M200.1 191 (ni 2)))]) (T := []) rfl rfl (fun C hC => cl_v hC rfl rfl rfl rfl) rfl (q_m_saying  h) (fun r208 M209 h => ?_)
                  exact pM_ri rfl (⟨_, rfl, h⟩)
                · replace h := h.1 h205
                  refine pM_ic rfl ki_1 ?_
                  refine pM_go rfl rfl ?_
                  refine pM_iln rfl rfl ?_
                  refine pM_iln rfl rfl ?_
                  refine pM_aln rfl rfl rfl ?_
                  refine pM_gr rfl rfl rfl rfl ?_
                  refine pM_ic rfl ki_2 ?_
                  refine pM_ai rfl rfl row_p ?_
                  refine pM_qRi (as := [.inr (.inl (some 190)), .inl (.inl r203), .inl (.inl 1), .inl (.inl p1), .inl (.inl p2), .inl (.inl (M200.1 191 (ni 2)))]) (T := []) rfl rfl (fun C hC => cl_v hC rfl rfl rfl rfl) rfl (q_m_saying  h) (fun r206 M207 h => ?_)
                  exact pM_ri rfl (⟨_, rfl, h⟩)
            · replace h := h.2 h201
              refine pM_ic rfl ki_0 ?_
              exact pM_ri rfl (⟨_, rfl, h⟩)
      · replace h := h.1 h158
        refine pM_ic rfl ki_1 ?_
        refine pM_go rfl rfl ?_
        refine pM_ic rfl ki_2 ?_
        refine pM_qRi (as := [.inr (.inl (some 190)), .inl (.inl 1), .inl (.inl 2)]) (T := []) rfl rfl (fun C hC => cl_v hC rfl rfl rfl rfl) rfl (q_m_throwsIf  h) (fun r159 M160 h => ?_)
        refine pM_zne rfl rfl (fun h161 => ?_) (fun h161 => ?_)
        · replace h := h.2 h161
          refine pM_ic rfl ki_0 ?_
          exact pM_ri rfl (⟨_, rfl, h⟩)
        · replace h := h.1 h161
          refine pM_aln rfl rfl rfl ?_
          refine pM_iln rfl rfl ?_
          refine pM_ic rfl ki_0 ?_
          refine pM_ic rfl ki_3 ?_
          refine pM_qVi (as := [.inl (.inl p3), .inl (.inl 0), .inl (.inl 3)]) (T := [.inr (.inl (some 190))]) rfl rfl (fun _ _ => rfl) rfl (q_m_in ) ?_
          refine pM_zne rfl rfl (fun h162 => ?_) (fun h162 => ?_)
          · replace h := h.2 h162
            refine pM_ic rfl ki_0 ?_
            refine pM_ic rfl ki_3 ?_
            refine pM_qRi (as := [.inr (.inl (some 190)), .inl (.inl 0), .inl (.inl 3)]) (T := []) rfl rfl (fun C hC => cl_v hC rfl rfl rfl rfl) rfl (q_m_throwsIf  h) (fun r179 M180 h => ?_)
            refine pM_zeq rfl rfl (fun h181 => ?_) (fun h181 => ?_)
            · replace h := h.1 h181
              refine pM_iln rfl rfl ?_
              refine pM_ic rfl ki_2 ?_
              refine pM_cge rfl rfl (fun h182 => ?_) (fun h182 => ?_)
              · replace h := h.2 h182
                refine pM_aln rfl rfl rfl ?_
                refine pM_iln rfl rfl ?_
                refine pM_iln rfl rfl ?_
                refine pM_qRi (as := [.inr (.inl (some 190)), .inl (.inl p1), .inl (.inl p2)]) (T := []) rfl rfl (fun C hC => cl_v hC rfl rfl rfl rfl) rfl (q_m_may  h) (fun r190 M191 h => ?_)
                refine pM_zeq rfl rfl (fun h192 => ?_) (fun h192 => ?_)
                · replace h := h.1 h192
                  refine pM_ic rfl ki_0 ?_
                  exact pM_ri rfl (⟨_, rfl, h⟩)
                · replace h := h.2 h192
                  refine pM_iln rfl rfl ?_
                  refine pM_ic rfl ki_2 ?_
                  refine pM_ceq rfl rfl (fun h193 => ?_) (fun h193 => ?_)
                  · replace h := h.1 h193
                    refine pM_ic rfl ki_1 ?_
                    refine pM_go rfl rfl ?_
                    exact pM_ri rfl (⟨_, rfl, h⟩)
                  · replace h := h.2 h193
                    refine pM_aln rfl rfl rfl ?_
                    refine pM_gr rfl rfl rfl rfl ?_
                    refine pM_iln rfl rfl ?_
                    refine pM_la rfl rfl ?_
                    refine pM_iln rfl rfl ?_
                    refine pM_qVi (as := [.inr (.inr (.inl (some (M191.2 196 (ni p2))))), .inl (.inl p1)]) (T := []) rfl rfl (fun _ _ => rfl) rfl (q_m_hasMatter ) ?_
                    refine pM_zne rfl rfl (fun h194 => ?_) (fun h194 => ?_)
                    · replace h := h.2 h194
                      refine pM_ic rfl ki_0 ?_
                      exact pM_ri rfl (⟨_, rfl, h⟩)
                    · replace h := h.1 h194
                      refine pM_ic rfl ki_1 ?_
                      refine pM_go rfl rfl ?_
                      exact pM_ri rfl (⟨_, rfl, h⟩)
              · replace h := h.1 h182
                refine pM_aln rfl rfl rfl ?_
                refine pM_aln rfl rfl rfl ?_
                refine pM_qPi (as := [.inr (.inl (some 190))]) (T := [.inr (.inl (some 190))]) rfl rfl (fun C hC => cl_v hC rfl rfl rfl rfl) rfl (q_m_inForce  h) (fun r183 h => ?_)
                refine pM_iln rfl rfl ?_
                refine pM_ic rfl ki_1 ?_
                refine pM_cne rfl rfl (fun h185 => ?_) (fun h185 => ?_)
                · replace h := h.2 h185
                  refine pM_ic rfl ki_0 ?_
                  refine pM_iln rfl rfl ?_
                  refine pM_iln rfl rfl ?_
                  refine pM_aln rfl rfl rfl ?_
                  refine pM_gr rfl rfl rfl rfl ?_
                  refine pM_ic rfl ki_2 ?_
                  refine pM_ai rfl rfl row_p ?_
                  refine pM_qRi (as := [.inr (.inl (some 190)), .inl (.inl r183), .inl (.inl 0), .inl (.inl p1), .inl (.inl p2), .inl (.inl (M180.1 191 (ni 2)))]) (T := []) rfl rfl (fun C hC => cl_v hC rfl rfl rfl rfl) rfl (q_m_saying  h) (fun r188 M189 h => ?_)
                  exact pM_ri rfl (⟨_, rfl, h⟩)
                · replace h := h.1 h185
                  refine pM_ic rfl ki_1 ?_
                  refine pM_go rfl rfl ?_
                  refine pM_iln rfl rfl ?_
                  refine pM_iln rfl rfl ?_
                  refine pM_aln rfl rfl rfl ?_
                  refine pM_gr rfl rfl rfl rfl ?_
                  refine pM_ic rfl ki_2 ?_
                  refine pM_ai rfl rfl row_p ?_
                  refine pM_qRi (as := [.inr (.inl (some 190)), .inl (.inl r183), .inl (.inl 1), .inl (.inl p1), .inl (.inl p2), .inl (.inl (M180.1 191 (ni 2)))]) (T := []) rfl rfl (fun C hC => cl_v hC rfl rfl rfl rfl) rfl (q_m_saying  h) (fun r186 M187 h => ?_)
                  exact pM_ri rfl (⟨_, rfl, h⟩)
            · replace h := h.2 h181
              refine pM_ic rfl ki_0 ?_
              exact pM_ri rfl (⟨_, rfl, h⟩)
          · replace h := h.1 h162
            refine pM_ic rfl ki_1 ?_
            refine pM_go rfl rfl ?_
            refine pM_ic rfl ki_3 ?_
            refine pM_qRi (as := [.inr (.inl (some 190)), .inl (.inl 1), .inl (.inl 3)]) (T := []) rfl rfl (fun C hC => cl_v hC rfl rfl rfl rfl) rfl (q_m_throwsIf  h) (fun r163 M164 h => ?_)
            refine pM_zeq rfl rfl (fun h165 => ?_) (fun h165 => ?_)
            · replace h := h.1 h165
              refine pM_iln rfl rfl ?_
              refine pM_ic rfl ki_2 ?_
              refine pM_cge rfl rfl (fun h166 => ?_) (fun h166 => ?_)
              · replace h := h.2 h166
                refine pM_aln rfl rfl rfl ?_
                refine pM_iln rfl rfl ?_
                refine pM_iln rfl rfl ?_
                refine pM_qRi (as := [.inr (.inl (some 190)), .inl (.inl p1), .inl (.inl p2)]) (T := []) rfl rfl (fun C hC => cl_v hC rfl rfl rfl rfl) rfl (q_m_may  h) (fun r174 M175 h => ?_)
                refine pM_zeq rfl rfl (fun h176 => ?_) (fun h176 => ?_)
                · replace h := h.1 h176
                  refine pM_ic rfl ki_0 ?_
                  exact pM_ri rfl (⟨_, rfl, h⟩)
                · replace h := h.2 h176
                  refine pM_iln rfl rfl ?_
                  refine pM_ic rfl ki_2 ?_
                  refine pM_ceq rfl rfl (fun h177 => ?_) (fun h177 => ?_)
                  · replace h := h.1 h177
                    refine pM_ic rfl ki_1 ?_
                    refine pM_go rfl rfl ?_
                    exact pM_ri rfl (⟨_, rfl, h⟩)
                  · replace h := h.2 h177
                    refine pM_aln rfl rfl rfl ?_
                    refine pM_gr rfl rfl rfl rfl ?_
                    refine pM_iln rfl rfl ?_
                    refine pM_la rfl rfl ?_
                    refine pM_iln rfl rfl ?_
                    refine pM_qVi (as := [.inr (.inr (.inl (some (M175.2 196 (ni p2))))), .inl (.inl p1)]) (T := []) rfl rfl (fun _ _ => rfl) rfl (q_m_hasMatter ) ?_
                    refine pM_zne rfl rfl (fun h178 => ?_) (fun h178 => ?_)
                    · replace h := h.2 h178
                      refine pM_ic rfl ki_0 ?_
                      exact pM_ri rfl (⟨_, rfl, h⟩)
                    · replace h := h.1 h178
                      refine pM_ic rfl ki_1 ?_
                      refine pM_go rfl rfl ?_
                      exact pM_ri rfl (⟨_, rfl, h⟩)
              · replace h := h.1 h166
                refine pM_aln rfl rfl rfl ?_
                refine pM_aln rfl rfl rfl ?_
                refine pM_qPi (as := [.inr (.inl (some 190))]) (T := [.inr (.inl (some 190))]) rfl rfl (fun C hC => cl_v hC rfl rfl rfl rfl) rfl (q_m_inForce  h) (fun r167 h => ?_)
                refine pM_iln rfl rfl ?_
                refine pM_ic rfl ki_1 ?_
                refine pM_cne rfl rfl (fun h169 => ?_) (fun h169 => ?_)
                · replace h := h.2 h169
                  refine pM_ic rfl ki_0 ?_
                  refine pM_iln rfl rfl ?_
                  refine pM_iln rfl rfl ?_
                  refine pM_aln rfl rfl rfl ?_
                  refine pM_gr rfl rfl rfl rfl ?_
                  refine pM_ic rfl ki_2 ?_
                  refine pM_ai rfl rfl row_p ?_
                  refine pM_qRi (as := [.inr (.inl (some 190)), .inl (.inl r167), .inl (.inl 0), .inl (.inl p1), .inl (.inl p2), .inl (.inl (M164.1 191 (ni 2)))]) (T := []) rfl rfl (fun C hC => cl_v hC rfl rfl rfl rfl) rfl (q_m_saying  h) (fun r172 M173 h => ?_)
                  exact pM_ri rfl (⟨_, rfl, h⟩)
                · replace h := h.1 h169
                  refine pM_ic rfl ki_1 ?_
                  refine pM_go rfl rfl ?_
                  refine pM_iln rfl rfl ?_
                  refine pM_iln rfl rfl ?_
                  refine pM_aln rfl rfl rfl ?_
                  refine pM_gr rfl rfl rfl rfl ?_
                  refine pM_ic rfl ki_2 ?_
                  refine pM_ai rfl rfl row_p ?_
                  refine pM_qRi (as := [.inr (.inl (some 190)), .inl (.inl r167), .inl (.inl 1), .inl (.inl p1), .inl (.inl p2), .inl (.inl (M164.1 191 (ni 2)))]) (T := []) rfl rfl (fun C hC => cl_v hC rfl rfl rfl rfl) rfl (q_m_saying  h) (fun r170 M171 h => ?_)
                  exact pM_ri rfl (⟨_, rfl, h⟩)
            · replace h := h.2 h165
              refine pM_ic rfl ki_0 ?_
              exact pM_ri rfl (⟨_, rfl, h⟩)
  · replace h := h.1 h1
    refine pM_aln rfl rfl rfl ?_
    refine pM_iln rfl rfl ?_
    refine pM_qVi (as := [.inr (.inl (some 190)), .inl (.inl p2)]) (T := [.inr (.inl (some 190))]) rfl rfl (fun C hC => cl_v hC rfl rfl rfl rfl) rfl (q_m_noCitizen ) ?_
    refine pM_zeq rfl rfl (fun h2 => ?_) (fun h2 => ?_)
    · replace h := h.1 h2
      refine pM_ic rfl ki_0 ?_
      refine pM_ic rfl ki_1 ?_
      refine pM_qRi (as := [.inr (.inl (some 190)), .inl (.inl 0), .inl (.inl 1)]) (T := []) rfl rfl (fun C hC => cl_v hC rfl rfl rfl rfl) rfl (q_m_throwsIf  h) (fun r3 M4 h => ?_)
      refine pM_zne rfl rfl (fun h5 => ?_) (fun h5 => ?_)
      · replace h := h.2 h5
        refine pM_ic rfl ki_0 ?_
        exact pM_ri rfl (⟨_, rfl, h⟩)
      · replace h := h.1 h5
        refine pM_aln rfl rfl rfl ?_
        refine pM_aln rfl rfl rfl ?_
        refine pM_iln rfl rfl ?_
        refine pM_qVi (as := [.inr (.inl (some 190)), .inl (.inl p2)]) (T := [.inr (.inl (some 190))]) rfl rfl (fun C hC => cl_v hC rfl rfl rfl rfl) rfl (q_m_isAlive ) ?_
        refine pM_zne rfl rfl (fun h6 => ?_) (fun h6 => ?_)
        · replace h := h.2 h6
          refine pM_ic rfl ki_0 ?_
          refine pM_ic rfl ki_2 ?_
          refine pM_qRi (as := [.inr (.inl (some 190)), .inl (.inl 0), .inl (.inl 2)]) (T := []) rfl rfl (fun C hC => cl_v hC rfl rfl rfl rfl) rfl (q_m_throwsIf  h) (fun r43 M44 h => ?_)
          refine pM_zne rfl rfl (fun h45 => ?_) (fun h45 => ?_)
          · replace h := h.2 h45
            refine pM_ic rfl ki_0 ?_
            exact pM_ri rfl (⟨_, rfl, h⟩)
          · replace h := h.1 h45
            refine pM_aln rfl rfl rfl ?_
            refine pM_iln rfl rfl ?_
            refine pM_ic rfl ki_0 ?_
            refine pM_ic rfl ki_3 ?_
            refine pM_qVi (as := [.inl (.inl p3), .inl (.inl 0), .inl (.inl 3)]) (T := [.inr (.inl (some 190))]) rfl rfl (fun _ _ => rfl) rfl (q_m_in ) ?_
            refine pM_zne rfl rfl (fun h46 => ?_) (fun h46 => ?_)
            · replace h := h.2 h46
              refine pM_ic rfl ki_0 ?_
              refine pM_ic rfl ki_3 ?_
              refine pM_qRi (as := [.inr (.inl (some 190)), .inl (.inl 0), .inl (.inl 3)]) (T := []) rfl rfl (fun C hC => cl_v hC rfl rfl rfl rfl) rfl (q_m_throwsIf  h) (fun r63 M64 h => ?_)
              refine pM_zeq rfl rfl (fun h65 => ?_) (fun h65 => ?_)
              · replace h := h.1 h65
                refine pM_iln rfl rfl ?_
                refine pM_ic rfl ki_2 ?_
                refine pM_cge rfl rfl (fun h66 => ?_) (fun h66 => ?_)
                · replace h := h.2 h66
                  refine pM_aln rfl rfl rfl ?_
                  refine pM_iln rfl rfl ?_
                  refine pM_iln rfl rfl ?_
                  refine pM_qRi (as := [.inr (.inl (some 190)), .inl (.inl p1), .inl (.inl p2)]) (T := []) rfl rfl (fun C hC => cl_v hC rfl rfl rfl rfl) rfl (q_m_may  h) (fun r74 M75 h => ?_)
                  refine pM_zeq rfl rfl (fun h76 => ?_) (fun h76 => ?_)
                  · replace h := h.1 h76
                    refine pM_ic rfl ki_0 ?_
                    exact pM_ri rfl (⟨_, rfl, h⟩)
                  · replace h := h.2 h76
                    refine pM_iln rfl rfl ?_
                    refine pM_ic rfl ki_2 ?_
                    refine pM_ceq rfl rfl (fun h77 => ?_) (fun h77 => ?_)
                    · replace h := h.1 h77
                      refine pM_ic rfl ki_1 ?_
                      refine pM_go rfl rfl ?_
                      exact pM_ri rfl (⟨_, rfl, h⟩)
                    · replace h := h.2 h77
                      refine pM_aln rfl rfl rfl ?_
                      refine pM_gr rfl rfl rfl rfl ?_
                      refine pM_iln rfl rfl ?_
                      refine pM_la rfl rfl ?_
                      refine pM_iln rfl rfl ?_
                      refine pM_qVi (as := [.inr (.inr (.inl (some (M75.2 196 (ni p2))))), .inl (.inl p1)]) (T := []) rfl rfl (fun _ _ => rfl) rfl (q_m_hasMatter ) ?_
                      refine pM_zne rfl rfl (fun h78 => ?_) (fun h78 => ?_)
                      · replace h := h.2 h78
                        refine pM_ic rfl ki_0 ?_
                        exact pM_ri rfl (⟨_, rfl, h⟩)
                      · replace h := h.1 h78
                        refine pM_ic rfl ki_1 ?_
                        refine pM_go rfl rfl ?_
                        exact pM_ri rfl (⟨_, rfl, h⟩)
                · replace h := h.1 h66
                  refine pM_aln rfl rfl rfl ?_
                  refine pM_aln rfl rfl rfl ?_
                  refine pM_qPi (as := [.inr (.inl (some 190))]) (T := [.inr (.inl (some 190))]) rfl rfl (fun C hC => cl_v hC rfl rfl rfl rfl) rfl (q_m_inForce  h) (fun r67 h => ?_)
                  refine pM_iln rfl rfl ?_
                  refine pM_ic rfl ki_1 ?_
                  refine pM_cne rfl rfl (fun h69 => ?_) (fun h69 => ?_)
                  · replace h := h.2 h69
                    refine pM_ic rfl ki_0 ?_
                    refine pM_iln rfl rfl ?_
                    refine pM_iln rfl rfl ?_
                    refine pM_aln rfl rfl rfl ?_
                    refine pM_gr rfl rfl rfl rfl ?_
                    refine pM_ic rfl ki_2 ?_
                    refine pM_ai rfl rfl row_p ?_
                    refine pM_qRi (as := [.inr (.inl (some 190)), .inl (.inl r67), .inl (.inl 0), .inl (.inl p1), .inl (.inl p2), .inl (.inl (M64.1 191 (ni 2)))]) (T := []) rfl rfl (fun C hC => cl_v hC rfl rfl rfl rfl) rfl (q_m_saying  h) (fun r72 M73 h => ?_)
                    exact pM_ri rfl (⟨_, rfl, h⟩)
                  · replace h := h.1 h69
                    refine pM_ic rfl ki_1 ?_
                    refine pM_go rfl rfl ?_
                    refine pM_iln rfl rfl ?_
                    refine pM_iln rfl rfl ?_
                    refine pM_aln rfl rfl rfl ?_
                    refine pM_gr rfl rfl rfl rfl ?_
                    refine pM_ic rfl ki_2 ?_
                    refine pM_ai rfl rfl row_p ?_
                    refine pM_qRi (as := [.inr (.inl (some 190)), .inl (.inl r67), .inl (.inl 1), .inl (.inl p1), .inl (.inl p2), .inl (.inl (M64.1 191 (ni 2)))]) (T := []) rfl rfl (fun C hC => cl_v hC rfl rfl rfl rfl) rfl (q_m_saying  h) (fun r70 M71 h => ?_)
                    exact pM_ri rfl (⟨_, rfl, h⟩)
              · replace h := h.2 h65
                refine pM_ic rfl ki_0 ?_
                exact pM_ri rfl (⟨_, rfl, h⟩)
            · replace h := h.1 h46
              refine pM_ic rfl ki_1 ?_
              refine pM_go rfl rfl ?_
              refine pM_ic rfl ki_3 ?_
              refine pM_qRi (as := [.inr (.inl (some 190)), .inl (.inl 1), .inl (.inl 3)]) (T := []) rfl rfl (fun C hC => cl_v hC rfl rfl rfl rfl) rfl (q_m_throwsIf  h) (fun r47 M48 h => ?_)
              refine pM_zeq rfl rfl (fun h49 => ?_) (fun h49 => ?_)
              · replace h := h.1 h49
                refine pM_iln rfl rfl ?_
                refine pM_ic rfl ki_2 ?_
                refine pM_cge rfl rfl (fun h50 => ?_) (fun h50 => ?_)
                · replace h := h.2 h50
                  refine pM_aln rfl rfl rfl ?_
                  refine pM_iln rfl rfl ?_
                  refine pM_iln rfl rfl ?_
                  refine pM_qRi (as := [.inr (.inl (some 190)), .inl (.inl p1), .inl (.inl p2)]) (T := []) rfl rfl (fun C hC => cl_v hC rfl rfl rfl rfl) rfl (q_m_may  h) (fun r58 M59 h => ?_)
                  refine pM_zeq rfl rfl (fun h60 => ?_) (fun h60 => ?_)
                  · replace h := h.1 h60
                    refine pM_ic rfl ki_0 ?_
                    exact pM_ri rfl (⟨_, rfl, h⟩)
                  · replace h := h.2 h60
                    refine pM_iln rfl rfl ?_
                    refine pM_ic rfl ki_2 ?_
                    refine pM_ceq rfl rfl (fun h61 => ?_) (fun h61 => ?_)
                    · replace h := h.1 h61
                      refine pM_ic rfl ki_1 ?_
                      refine pM_go rfl rfl ?_
                      exact pM_ri rfl (⟨_, rfl, h⟩)
                    · replace h := h.2 h61
                      refine pM_aln rfl rfl rfl ?_
                      refine pM_gr rfl rfl rfl rfl ?_
                      refine pM_iln rfl rfl ?_
                      refine pM_la rfl rfl ?_
                      refine pM_iln rfl rfl ?_
                      refine pM_qVi (as := [.inr (.inr (.inl (some (M59.2 196 (ni p2))))), .inl (.inl p1)]) (T := []) rfl rfl (fun _ _ => rfl) rfl (q_m_hasMatter ) ?_
                      refine pM_zne rfl rfl (fun h62 => ?_) (fun h62 => ?_)
                      · replace h := h.2 h62
                        refine pM_ic rfl ki_0 ?_
                        exact pM_ri rfl (⟨_, rfl, h⟩)
                      · replace h := h.1 h62
                        refine pM_ic rfl ki_1 ?_
                        refine pM_go rfl rfl ?_
                        exact pM_ri rfl (⟨_, rfl, h⟩)
                · replace h := h.1 h50
                  refine pM_aln rfl rfl rfl ?_
                  refine pM_aln rfl rfl rfl ?_
                  refine pM_qPi (as := [.inr (.inl (some 190))]) (T := [.inr (.inl (some 190))]) rfl rfl (fun C hC => cl_v hC rfl rfl rfl rfl) rfl (q_m_inForce  h) (fun r51 h => ?_)
                  refine pM_iln rfl rfl ?_
                  refine pM_ic rfl ki_1 ?_
                  refine pM_cne rfl rfl (fun h53 => ?_) (fun h53 => ?_)
                  · replace h := h.2 h53
                    refine pM_ic rfl ki_0 ?_
                    refine pM_iln rfl rfl ?_
                    refine pM_iln rfl rfl ?_
                    refine pM_aln rfl rfl rfl ?_
                    refine pM_gr rfl rfl rfl rfl ?_
                    refine pM_ic rfl ki_2 ?_
                    refine pM_ai rfl rfl row_p ?_
                    refine pM_qRi (as := [.inr (.inl (some 190)), .inl (.inl r51), .inl (.inl 0), .inl (.inl p1), .inl (.inl p2), .inl (.inl (M48.1 191 (ni 2)))]) (T := []) rfl rfl (fun C hC => cl_v hC rfl rfl rfl rfl) rfl (q_m_saying  h) (fun r56 M57 h => ?_)
                    exact pM_ri rfl (⟨_, rfl, h⟩)
                  · replace h := h.1 h53
                    refine pM_ic rfl ki_1 ?_
                    refine pM_go rfl rfl ?_
                    refine pM_iln rfl rfl ?_
                    refine pM_iln rfl rfl ?_
                    refine pM_aln rfl rfl rfl ?_
                    refine pM_gr rfl rfl rfl rfl ?_
                    refine pM_ic rfl ki_2 ?_
                    refine pM_ai rfl rfl row_p ?_
                    refine pM_qRi (as := [.inr (.inl (some 190)), .inl (.inl r51), .inl (.inl 1), .inl (.inl p1), .inl (.inl p2), .inl (.inl (M48.1 191 (ni 2)))]) (T := []) rfl rfl (fun C hC => cl_v hC rfl rfl rfl rfl) rfl (q_m_saying  h) (fun r54 M55 h => ?_)
                    exact pM_ri rfl (⟨_, rfl, h⟩)
              · replace h := h.2 h49
                refine pM_ic rfl ki_0 ?_
                exact pM_ri rfl (⟨_, rfl, h⟩)
        · replace h := h.1 h6
          refine pM_ic rfl ki_1 ?_
          refine pM_go rfl rfl ?_
          refine pM_ic rfl ki_2 ?_
          refine pM_qRi (as := [.inr (.inl (some 190)), .inl (.inl 1), .inl (.inl 2)]) (T := []) rfl rfl (fun C hC => cl_v hC rfl rfl rfl rfl) rfl (q_m_throwsIf  h) (fun r7 M8 h => ?_)
          refine pM_zne rfl rfl (fun h9 => ?_) (fun h9 => ?_)
          · replace h := h.2 h9
            refine pM_ic rfl ki_0 ?_
            exact pM_ri rfl (⟨_, rfl, h⟩)
          · replace h := h.1 h9
            refine pM_aln rfl rfl rfl ?_
            refine pM_iln rfl rfl ?_
            refine pM_ic rfl ki_0 ?_
            refine pM_ic rfl ki_3 ?_
            refine pM_qVi (as := [.inl (.inl p3), .inl (.inl 0), .inl (.inl 3)]) (T := [.inr (.inl (some 190))]) rfl rfl (fun _ _ => rfl) rfl (q_m_in ) ?_
            refine pM_zne rfl rfl (fun h10 => ?_) (fun h10 => ?_)
            · replace h := h.2 h10
              refine pM_ic rfl ki_0 ?_
              refine pM_ic rfl ki_3 ?_
              refine pM_qRi (as := [.inr (.inl (some 190)), .inl (.inl 0), .inl (.inl 3)]) (T := []) rfl rfl (fun C hC => cl_v hC rfl rfl rfl rfl) rfl (q_m_throwsIf  h) (fun r27 M28 h => ?_)
              refine pM_zeq rfl rfl (fun h29 => ?_) (fun h29 => ?_)
              · replace h := h.1 h29
                refine pM_iln rfl rfl ?_
                refine pM_ic rfl ki_2 ?_
                refine pM_cge rfl rfl (fun h30 => ?_) (fun h30 => ?_)
                · replace h := h.2 h30
                  refine pM_aln rfl rfl rfl ?_
                  refine pM_iln rfl rfl ?_
                  refine pM_iln rfl rfl ?_
                  refine pM_qRi (as := [.inr (.inl (some 190)), .inl (.inl p1), .inl (.inl p2)]) (T := []) rfl rfl (fun C hC => cl_v hC rfl rfl rfl rfl) rfl (q_m_may  h) (fun r38 M39 h => ?_)
                  refine pM_zeq rfl rfl (fun h40 => ?_) (fun h40 => ?_)
                  · replace h := h.1 h40
                    refine pM_ic rfl ki_0 ?_
                    exact pM_ri rfl (⟨_, rfl, h⟩)
                  · replace h := h.2 h40
                    refine pM_iln rfl rfl ?_
                    refine pM_ic rfl ki_2 ?_
                    refine pM_ceq rfl rfl (fun h41 => ?_) (fun h41 => ?_)
                    · replace h := h.1 h41
                      refine pM_ic rfl ki_1 ?_
                      refine pM_go rfl rfl ?_
                      exact pM_ri rfl (⟨_, rfl, h⟩)
                    · replace h := h.2 h41
                      refine pM_aln rfl rfl rfl ?_
                      refine pM_gr rfl rfl rfl rfl ?_
                      refine pM_iln rfl rfl ?_
                      refine pM_la rfl rfl ?_
                      refine pM_iln rfl rfl ?_
                      refine pM_qVi (as := [.inr (.inr (.inl (some (M39.2 196 (ni p2))))), .inl (.inl p1)]) (T := []) rfl rfl (fun _ _ => rfl) rfl (q_m_hasMatter ) ?_
                      refine pM_zne rfl rfl (fun h42 => ?_) (fun h42 => ?_)
                      · replace h := h.2 h42
                        refine pM_ic rfl ki_0 ?_
                        exact pM_ri rfl (⟨_, rfl, h⟩)
                      · replace h := h.1 h42
                        refine pM_ic rfl ki_1 ?_
                        refine pM_go rfl rfl ?_
                        exact pM_ri rfl (⟨_, rfl, h⟩)
                · replace h := h.1 h30
                  refine pM_aln rfl rfl rfl ?_
                  refine pM_aln rfl rfl rfl ?_
                  refine pM_qPi (as := [.inr (.inl (some 190))]) (T := [.inr (.inl (some 190))]) rfl rfl (fun C hC => cl_v hC rfl rfl rfl rfl) rfl (q_m_inForce  h) (fun r31 h => ?_)
                  refine pM_iln rfl rfl ?_
                  refine pM_ic rfl ki_1 ?_
                  refine pM_cne rfl rfl (fun h33 => ?_) (fun h33 => ?_)
                  · replace h := h.2 h33
                    refine pM_ic rfl ki_0 ?_
                    refine pM_iln rfl rfl ?_
                    refine pM_iln rfl rfl ?_
                    refine pM_aln rfl rfl rfl ?_
                    refine pM_gr rfl rfl rfl rfl ?_
                    refine pM_ic rfl ki_2 ?_
                    refine pM_ai rfl rfl row_p ?_
                    refine pM_qRi (as := [.inr (.inl (some 190)), .inl (.inl r31), .inl (.inl 0), .inl (.inl p1), .inl (.inl p2), .inl (.inl (M28.1 191 (ni 2)))]) (T := []) rfl rfl (fun C hC => cl_v hC rfl rfl rfl rfl) rfl (q_m_saying  h) (fun r36 M37 h => ?_)
                    exact pM_ri rfl (⟨_, rfl, h⟩)
                  · replace h := h.1 h33
                    refine pM_ic rfl ki_1 ?_
                    refine pM_go rfl rfl ?_
                    refine pM_iln rfl rfl ?_
                    refine pM_iln rfl rfl ?_
                    refine pM_aln rfl rfl rfl ?_
                    refine pM_gr rfl rfl rfl rfl ?_
                    refine pM_ic rfl ki_2 ?_
                    refine pM_ai rfl rfl row_p ?_
                    refine pM_qRi (as := [.inr (.inl (some 190)), .inl (.inl r31), .inl (.inl 1), .inl (.inl p1), .inl (.inl p2), .inl (.inl (M28.1 191 (ni 2)))]) (T := []) rfl rfl (fun C hC => cl_v hC rfl rfl rfl rfl) rfl (q_m_saying  h) (fun r34 M35 h => ?_)
                    exact pM_ri rfl (⟨_, rfl, h⟩)
              · replace h := h.2 h29
                refine pM_ic rfl ki_0 ?_
                exact pM_ri rfl (⟨_, rfl, h⟩)
            · replace h := h.1 h10
              refine pM_ic rfl ki_1 ?_
              refine pM_go rfl rfl ?_
              refine pM_ic rfl ki_3 ?_
              refine pM_qRi (as := [.inr (.inl (some 190)), .inl (.inl 1), .inl (.inl 3)]) (T := []) rfl rfl (fun C hC => cl_v hC rfl rfl rfl rfl) rfl (q_m_throwsIf  h) (fun r11 M12 h => ?_)
              refine pM_zeq rfl rfl (fun h13 => ?_) (fun h13 => ?_)
              · replace h := h.1 h13
                refine pM_iln rfl rfl ?_
                refine pM_ic rfl ki_2 ?_
                refine pM_cge rfl rfl (fun h14 => ?_) (fun h14 => ?_)
                · replace h := h.2 h14
                  refine pM_aln rfl rfl rfl ?_
                  refine pM_iln rfl rfl ?_
                  refine pM_iln rfl rfl ?_
                  refine pM_qRi (as := [.inr (.inl (some 190)), .inl (.inl p1), .inl (.inl p2)]) (T := []) rfl rfl (fun C hC => cl_v hC rfl rfl rfl rfl) rfl (q_m_may  h) (fun r22 M23 h => ?_)
                  refine pM_zeq rfl rfl (fun h24 => ?_) (fun h24 => ?_)
                  · replace h := h.1 h24
                    refine pM_ic rfl ki_0 ?_
                    exact pM_ri rfl (⟨_, rfl, h⟩)
                  · replace h := h.2 h24
                    refine pM_iln rfl rfl ?_
                    refine pM_ic rfl ki_2 ?_
                    refine pM_ceq rfl rfl (fun h25 => ?_) (fun h25 => ?_)
                    · replace h := h.1 h25
                      refine pM_ic rfl ki_1 ?_
                      refine pM_go rfl rfl ?_
                      exact pM_ri rfl (⟨_, rfl, h⟩)
                    · replace h := h.2 h25
                      refine pM_aln rfl rfl rfl ?_
                      refine pM_gr rfl rfl rfl rfl ?_
                      refine pM_iln rfl rfl ?_
                      refine pM_la rfl rfl ?_
                      refine pM_iln rfl rfl ?_
                      refine pM_qVi (as := [.inr (.inr (.inl (some (M23.2 196 (ni p2))))), .inl (.inl p1)]) (T := []) rfl rfl (fun _ _ => rfl) rfl (q_m_hasMatter ) ?_
                      refine pM_zne rfl rfl (fun h26 => ?_) (fun h26 => ?_)
                      · replace h := h.2 h26
                        refine pM_ic rfl ki_0 ?_
                        exact pM_ri rfl (⟨_, rfl, h⟩)
                      · replace h := h.1 h26
                        refine pM_ic rfl ki_1 ?_
                        refine pM_go rfl rfl ?_
                        exact pM_ri rfl (⟨_, rfl, h⟩)
                · replace h := h.1 h14
                  refine pM_aln rfl rfl rfl ?_
                  refine pM_aln rfl rfl rfl ?_
                  refine pM_qPi (as := [.inr (.inl (some 190))]) (T := [.inr (.inl (some 190))]) rfl rfl (fun C hC => cl_v hC rfl rfl rfl rfl) rfl (q_m_inForce  h) (fun r15 h => ?_)
                  refine pM_iln rfl rfl ?_
                  refine pM_ic rfl ki_1 ?_
                  refine pM_cne rfl rfl (fun h17 => ?_) (fun h17 => ?_)
                  · replace h := h.2 h17
                    refine pM_ic rfl ki_0 ?_
                    refine pM_iln rfl rfl ?_
                    refine pM_iln rfl rfl ?_
                    refine pM_aln rfl rfl rfl ?_
                    refine pM_gr rfl rfl rfl rfl ?_
                    refine pM_ic rfl ki_2 ?_
                    refine pM_ai rfl rfl row_p ?_
                    refine pM_qRi (as := [.inr (.inl (some 190)), .inl (.inl r15), .inl (.inl 0), .inl (.inl p1), .inl (.inl p2), .inl (.inl (M12.1 191 (ni 2)))]) (T := []) rfl rfl (fun C hC => cl_v hC rfl rfl rfl rfl) rfl (q_m_saying  h) (fun r20 M21 h => ?_)
                    exact pM_ri rfl (⟨_, rfl, h⟩)
                  · replace h := h.1 h17
                    refine pM_ic rfl ki_1 ?_
                    refine pM_go rfl rfl ?_
                    refine pM_iln rfl rfl ?_
                    refine pM_iln rfl rfl ?_
                    refine pM_aln rfl rfl rfl ?_
                    refine pM_gr rfl rfl rfl rfl ?_
                    refine pM_ic rfl ki_2 ?_
                    refine pM_ai rfl rfl row_p ?_
                    refine pM_qRi (as := [.inr (.inl (some 190)), .inl (.inl r15), .inl (.inl 1), .inl (.inl p1), .inl (.inl p2), .inl (.inl (M12.1 191 (ni 2)))]) (T := []) rfl rfl (fun C hC => cl_v hC rfl rfl rfl rfl) rfl (q_m_saying  h) (fun r18 M19 h => ?_)
                    exact pM_ri rfl (⟨_, rfl, h⟩)
              · replace h := h.2 h13
                refine pM_ic rfl ki_0 ?_
                exact pM_ri rfl (⟨_, rfl, h⟩)
    · replace h := h.2 h2
      refine pM_ic rfl ki_1 ?_
      refine pM_go rfl rfl ?_
      refine pM_ic rfl ki_1 ?_
      refine pM_qRi (as := [.inr (.inl (some 190)), .inl (.inl 1), .inl (.inl 1)]) (T := []) rfl rfl (fun C hC => cl_v hC rfl rfl rfl rfl) rfl (q_m_throwsIf  h) (fun r79 M80 h => ?_)
      refine pM_zne rfl rfl (fun h81 => ?_) (fun h81 => ?_)
      · replace h := h.2 h81
        refine pM_ic rfl ki_0 ?_
        exact pM_ri rfl (⟨_, rfl, h⟩)
      · replace h := h.1 h81
        refine pM_aln rfl rfl rfl ?_
        refine pM_aln rfl rfl rfl ?_
        refine pM_iln rfl rfl ?_
        refine pM_qVi (as := [.inr (.inl (some 190)), .inl (.inl p2)]) (T := [.inr (.inl (some 190))]) rfl rfl (fun C hC => cl_v hC rfl rfl rfl rfl) rfl (q_m_isAlive ) ?_
        refine pM_zne rfl rfl (fun h82 => ?_) (fun h82 => ?_)
        · replace h := h.2 h82
          refine pM_ic rfl ki_0 ?_
          refine pM_ic rfl ki_2 ?_
          refine pM_qRi (as := [.inr (.inl (some 190)), .inl (.inl 0), .inl (.inl 2)]) (T := []) rfl rfl (fun C hC => cl_v hC rfl rfl rfl rfl) rfl (q_m_throwsIf  h) (fun r119 M120 h => ?_)
          refine pM_zne rfl rfl (fun h121 => ?_) (fun h121 => ?_)
          · replace h := h.2 h121
            refine pM_ic rfl ki_0 ?_
            exact pM_ri rfl (⟨_, rfl, h⟩)
          · replace h := h.1 h121
            refine pM_aln rfl rfl rfl ?_
            refine pM_iln rfl rfl ?_
            refine pM_ic rfl ki_0 ?_
            refine pM_ic rfl ki_3 ?_
            refine pM_qVi (as := [.inl (.inl p3), .inl (.inl 0), .inl (.inl 3)]) (T := [.inr (.inl (some 190))]) rfl rfl (fun _ _ => rfl) rfl (q_m_in ) ?_
            refine pM_zne rfl rfl (fun h122 => ?_) (fun h122 => ?_)
            · replace h := h.2 h122
              refine pM_ic rfl ki_0 ?_
              refine pM_ic rfl ki_3 ?_
              refine pM_qRi (as := [.inr (.inl (some 190)), .inl (.inl 0), .inl (.inl 3)]) (T := []) rfl rfl (fun C hC => cl_v hC rfl rfl rfl rfl) rfl (q_m_throwsIf  h) (fun r139 M140 h => ?_)
              refine pM_zeq rfl rfl (fun h141 => ?_) (fun h141 => ?_)
              · replace h := h.1 h141
                refine pM_iln rfl rfl ?_
                refine pM_ic rfl ki_2 ?_
                refine pM_cge rfl rfl (fun h142 => ?_) (fun h142 => ?_)
                · replace h := h.2 h142
                  refine pM_aln rfl rfl rfl ?_
                  refine pM_iln rfl rfl ?_
                  refine pM_iln rfl rfl ?_
                  refine pM_qRi (as := [.inr (.inl (some 190)), .inl (.inl p1), .inl (.inl p2)]) (T := []) rfl rfl (fun C hC => cl_v hC rfl rfl rfl rfl) rfl (q_m_may  h) (fun r150 M151 h => ?_)
                  refine pM_zeq rfl rfl (fun h152 => ?_) (fun h152 => ?_)
                  · replace h := h.1 h152
                    refine pM_ic rfl ki_0 ?_
                    exact pM_ri rfl (⟨_, rfl, h⟩)
                  · replace h := h.2 h152
                    refine pM_iln rfl rfl ?_
                    refine pM_ic rfl ki_2 ?_
                    refine pM_ceq rfl rfl (fun h153 => ?_) (fun h153 => ?_)
                    · replace h := h.1 h153
                      refine pM_ic rfl ki_1 ?_
                      refine pM_go rfl rfl ?_
                      exact pM_ri rfl (⟨_, rfl, h⟩)
                    · replace h := h.2 h153
                      refine pM_aln rfl rfl rfl ?_
                      refine pM_gr rfl rfl rfl rfl ?_
                      refine pM_iln rfl rfl ?_
                      refine pM_la rfl rfl ?_
                      refine pM_iln rfl rfl ?_
                      refine pM_qVi (as := [.inr (.inr (.inl (some (M151.2 196 (ni p2))))), .inl (.inl p1)]) (T := []) rfl rfl (fun _ _ => rfl) rfl (q_m_hasMatter ) ?_
                      refine pM_zne rfl rfl (fun h154 => ?_) (fun h154 => ?_)
                      · replace h := h.2 h154
                        refine pM_ic rfl ki_0 ?_
                        exact pM_ri rfl (⟨_, rfl, h⟩)
                      · replace h := h.1 h154
                        refine pM_ic rfl ki_1 ?_
                        refine pM_go rfl rfl ?_
                        exact pM_ri rfl (⟨_, rfl, h⟩)
                · replace h := h.1 h142
                  refine pM_aln rfl rfl rfl ?_
                  refine pM_aln rfl rfl rfl ?_
                  refine pM_qPi (as := [.inr (.inl (some 190))]) (T := [.inr (.inl (some 190))]) rfl rfl (fun C hC => cl_v hC rfl rfl rfl rfl) rfl (q_m_inForce  h) (fun r143 h => ?_)
                  refine pM_iln rfl rfl ?_
                  refine pM_ic rfl ki_1 ?_
                  refine pM_cne rfl rfl (fun h145 => ?_) (fun h145 => ?_)
                  · replace h := h.2 h145
                    refine pM_ic rfl ki_0 ?_
                    refine pM_iln rfl rfl ?_
                    refine pM_iln rfl rfl ?_
                    refine pM_aln rfl rfl rfl ?_
                    refine pM_gr rfl rfl rfl rfl ?_
                    refine pM_ic rfl ki_2 ?_
                    refine pM_ai rfl rfl row_p ?_
                    refine pM_qRi (as := [.inr (.inl (some 190)), .inl (.inl r143), .inl (.inl 0), .inl (.inl p1), .inl (.inl p2), .inl (.inl (M140.1 191 (ni 2)))]) (T := []) rfl rfl (fun C hC => cl_v hC rfl rfl rfl rfl) rfl (q_m_saying  h) (fun r148 M149 h => ?_)
                    exact pM_ri rfl (⟨_, rfl, h⟩)
                  · replace h := h.1 h145
                    refine pM_ic rfl ki_1 ?_
                    refine pM_go rfl rfl ?_
                    refine pM_iln rfl rfl ?_
                    refine pM_iln rfl rfl ?_
                    refine pM_aln rfl rfl rfl ?_
                    refine pM_gr rfl rfl rfl rfl ?_
                    refine pM_ic rfl ki_2 ?_
                    refine pM_ai rfl rfl row_p ?_
                    refine pM_qRi (as := [.inr (.inl (some 190)), .inl (.inl r143), .inl (.inl 1), .inl (.inl p1), .inl (.inl p2), .inl (.inl (M140.1 191 (ni 2)))]) (T := []) rfl rfl (fun C hC => cl_v hC rfl rfl rfl rfl) rfl (q_m_saying  h) (fun r146 M147 h => ?_)
                    exact pM_ri rfl (⟨_, rfl, h⟩)
              · replace h := h.2 h141
                refine pM_ic rfl ki_0 ?_
                exact pM_ri rfl (⟨_, rfl, h⟩)
            · replace h := h.1 h122
              refine pM_ic rfl ki_1 ?_
              refine pM_go rfl rfl ?_
              refine pM_ic rfl ki_3 ?_
              refine pM_qRi (as := [.inr (.inl (some 190)), .inl (.inl 1), .inl (.inl 3)]) (T := []) rfl rfl (fun C hC => cl_v hC rfl rfl rfl rfl) rfl (q_m_throwsIf  h) (fun r123 M124 h => ?_)
              refine pM_zeq rfl rfl (fun h125 => ?_) (fun h125 => ?_)
              · replace h := h.1 h125
                refine pM_iln rfl rfl ?_
                refine pM_ic rfl ki_2 ?_
                refine pM_cge rfl rfl (fun h126 => ?_) (fun h126 => ?_)
                · replace h := h.2 h126
                  refine pM_aln rfl rfl rfl ?_
                  refine pM_iln rfl rfl ?_
                  refine pM_iln rfl rfl ?_
                  refine pM_qRi (as := [.inr (.inl (some 190)), .inl (.inl p1), .inl (.inl p2)]) (T := []) rfl rfl (fun C hC => cl_v hC rfl rfl rfl rfl) rfl (q_m_may  h) (fun r134 M135 h => ?_)
                  refine pM_zeq rfl rfl (fun h136 => ?_) (fun h136 => ?_)
                  · replace h := h.1 h136
                    refine pM_ic rfl ki_0 ?_
                    exact pM_ri rfl (⟨_, rfl, h⟩)
                  · replace h := h.2 h136
                    refine pM_iln rfl rfl ?_
                    refine pM_ic rfl ki_2 ?_
                    refine pM_ceq rfl rfl (fun h137 => ?_) (fun h137 => ?_)
                    · replace h := h.1 h137
                      refine pM_ic rfl ki_1 ?_
                      refine pM_go rfl rfl ?_
                      exact pM_ri rfl (⟨_, rfl, h⟩)
                    · replace h := h.2 h137
                      refine pM_aln rfl rfl rfl ?_
                      refine pM_gr rfl rfl rfl rfl ?_
                      refine pM_iln rfl rfl ?_
                      refine pM_la rfl rfl ?_
                      refine pM_iln rfl rfl ?_
                      refine pM_qVi (as := [.inr (.inr (.inl (some (M135.2 196 (ni p2))))), .inl (.inl p1)]) (T := []) rfl rfl (fun _ _ => rfl) rfl (q_m_hasMatter ) ?_
                      refine pM_zne rfl rfl (fun h138 => ?_) (fun h138 => ?_)
                      · replace h := h.2 h138
                        refine pM_ic rfl ki_0 ?_
                        exact pM_ri rfl (⟨_, rfl, h⟩)
                      · replace h := h.1 h138
                        refine pM_ic rfl ki_1 ?_
                        refine pM_go rfl rfl ?_
                        exact pM_ri rfl (⟨_, rfl, h⟩)
                · replace h := h.1 h126
                  refine pM_aln rfl rfl rfl ?_
                  refine pM_aln rfl rfl rfl ?_
                  refine pM_qPi (as := [.inr (.inl (some 190))]) (T := [.inr (.inl (some 190))]) rfl rfl (fun C hC => cl_v hC rfl rfl rfl rfl) rfl (q_m_inForce  h) (fun r127 h => ?_)
                  refine pM_iln rfl rfl ?_
                  refine pM_ic rfl ki_1 ?_
                  refine pM_cne rfl rfl (fun h129 => ?_) (fun h129 => ?_)
                  · replace h := h.2 h129
                    refine pM_ic rfl ki_0 ?_
                    refine pM_iln rfl rfl ?_
                    refine pM_iln rfl rfl ?_
                    refine pM_aln rfl rfl rfl ?_
                    refine pM_gr rfl rfl rfl rfl ?_
                    refine pM_ic rfl ki_2 ?_
                    refine pM_ai rfl rfl row_p ?_
                    refine pM_qRi (as := [.inr (.inl (some 190)), .inl (.inl r127), .inl (.inl 0), .inl (.inl p1), .inl (.inl p2), .inl (.inl (M124.1 191 (ni 2)))]) (T := []) rfl rfl (fun C hC => cl_v hC rfl rfl rfl rfl) rfl (q_m_saying  h) (fun r132 M133 h => ?_)
                    exact pM_ri rfl (⟨_, rfl, h⟩)
                  · replace h := h.1 h129
                    refine pM_ic rfl ki_1 ?_
                    refine pM_go rfl rfl ?_
                    refine pM_iln rfl rfl ?_
                    refine pM_iln rfl rfl ?_
                    refine pM_aln rfl rfl rfl ?_
                    refine pM_gr rfl rfl rfl rfl ?_
                    refine pM_ic rfl ki_2 ?_
                    refine pM_ai rfl rfl row_p ?_
                    refine pM_qRi (as := [.inr (.inl (some 190)), .inl (.inl r127), .inl (.inl 1), .inl (.inl p1), .inl (.inl p2), .inl (.inl (M124.1 191 (ni 2)))]) (T := []) rfl rfl (fun C hC => cl_v hC rfl rfl rfl rfl) rfl (q_m_saying  h) (fun r130 M131 h => ?_)
                    exact pM_ri rfl (⟨_, rfl, h⟩)
              · replace h := h.2 h125
                refine pM_ic rfl ki_0 ?_
                exact pM_ri rfl (⟨_, rfl, h⟩)
        · replace h := h.1 h82
          refine pM_ic rfl ki_1 ?_
          refine pM_go rfl rfl ?_
          refine pM_ic rfl ki_2 ?_
          refine pM_qRi (as := [.inr (.inl (some 190)), .inl (.inl 1), .inl (.inl 2)]) (T := []) rfl rfl (fun C hC => cl_v hC rfl rfl rfl rfl) rfl (q_m_throwsIf  h) (fun r83 M84 h => ?_)
          refine pM_zne rfl rfl (fun h85 => ?_) (fun h85 => ?_)
          · replace h := h.2 h85
            refine pM_ic rfl ki_0 ?_
            exact pM_ri rfl (⟨_, rfl, h⟩)
          · replace h := h.1 h85
            refine pM_aln rfl rfl rfl ?_
            refine pM_iln rfl rfl ?_
            refine pM_ic rfl ki_0 ?_
            refine pM_ic rfl ki_3 ?_
            refine pM_qVi (as := [.inl (.inl p3), .inl (.inl 0), .inl (.inl 3)]) (T := [.inr (.inl (some 190))]) rfl rfl (fun _ _ => rfl) rfl (q_m_in ) ?_
            refine pM_zne rfl rfl (fun h86 => ?_) (fun h86 => ?_)
            · replace h := h.2 h86
              refine pM_ic rfl ki_0 ?_
              refine pM_ic rfl ki_3 ?_
              refine pM_qRi (as := [.inr (.inl (some 190)), .inl (.inl 0), .inl (.inl 3)]) (T := []) rfl rfl (fun C hC => cl_v hC rfl rfl rfl rfl) rfl (q_m_throwsIf  h) (fun r103 M104 h => ?_)
              refine pM_zeq rfl rfl (fun h105 => ?_) (fun h105 => ?_)
              · replace h := h.1 h105
                refine pM_iln rfl rfl ?_
                refine pM_ic rfl ki_2 ?_
                refine pM_cge rfl rfl (fun h106 => ?_) (fun h106 => ?_)
                · replace h := h.2 h106
                  refine pM_aln rfl rfl rfl ?_
                  refine pM_iln rfl rfl ?_
                  refine pM_iln rfl rfl ?_
                  refine pM_qRi (as := [.inr (.inl (some 190)), .inl (.inl p1), .inl (.inl p2)]) (T := []) rfl rfl (fun C hC => cl_v hC rfl rfl rfl rfl) rfl (q_m_may  h) (fun r114 M115 h => ?_)
                  refine pM_zeq rfl rfl (fun h116 => ?_) (fun h116 => ?_)
                  · replace h := h.1 h116
                    refine pM_ic rfl ki_0 ?_
                    exact pM_ri rfl (⟨_, rfl, h⟩)
                  · replace h := h.2 h116
                    refine pM_iln rfl rfl ?_
                    refine pM_ic rfl ki_2 ?_
                    refine pM_ceq rfl rfl (fun h117 => ?_) (fun h117 => ?_)
                    · replace h := h.1 h117
                      refine pM_ic rfl ki_1 ?_
                      refine pM_go rfl rfl ?_
                      exact pM_ri rfl (⟨_, rfl, h⟩)
                    · replace h := h.2 h117
                      refine pM_aln rfl rfl rfl ?_
                      refine pM_gr rfl rfl rfl rfl ?_
                      refine pM_iln rfl rfl ?_
                      refine pM_la rfl rfl ?_
                      refine pM_iln rfl rfl ?_
                      refine pM_qVi (as := [.inr (.inr (.inl (some (M115.2 196 (ni p2))))), .inl (.inl p1)]) (T := []) rfl rfl (fun _ _ => rfl) rfl (q_m_hasMatter ) ?_
                      refine pM_zne rfl rfl (fun h118 => ?_) (fun h118 => ?_)
                      · replace h := h.2 h118
                        refine pM_ic rfl ki_0 ?_
                        exact pM_ri rfl (⟨_, rfl, h⟩)
                      · replace h := h.1 h118
                        refine pM_ic rfl ki_1 ?_
                        refine pM_go rfl rfl ?_
                        exact pM_ri rfl (⟨_, rfl, h⟩)
                · replace h := h.1 h106
                  refine pM_aln rfl rfl rfl ?_
                  refine pM_aln rfl rfl rfl ?_
                  refine pM_qPi (as := [.inr (.inl (some 190))]) (T := [.inr (.inl (some 190))]) rfl rfl (fun C hC => cl_v hC rfl rfl rfl rfl) rfl (q_m_inForce  h) (fun r107 h => ?_)
                  refine pM_iln rfl rfl ?_
                  refine pM_ic rfl ki_1 ?_
                  refine pM_cne rfl rfl (fun h109 => ?_) (fun h109 => ?_)
                  · replace h := h.2 h109
                    refine pM_ic rfl ki_0 ?_
                    refine pM_iln rfl rfl ?_
                    refine pM_iln rfl rfl ?_
                    refine pM_aln rfl rfl rfl ?_
                    refine pM_gr rfl rfl rfl rfl ?_
                    refine pM_ic rfl ki_2 ?_
                    refine pM_ai rfl rfl row_p ?_
                    refine pM_qRi (as := [.inr (.inl (some 190)), .inl (.inl r107), .inl (.inl 0), .inl (.inl p1), .inl (.inl p2), .inl (.inl (M104.1 191 (ni 2)))]) (T := []) rfl rfl (fun C hC => cl_v hC rfl rfl rfl rfl) rfl (q_m_saying  h) (fun r112 M113 h => ?_)
                    exact pM_ri rfl (⟨_, rfl, h⟩)
                  · replace h := h.1 h109
                    refine pM_ic rfl ki_1 ?_
                    refine pM_go rfl rfl ?_
                    refine pM_iln rfl rfl ?_
                    refine pM_iln rfl rfl ?_
                    refine pM_aln rfl rfl rfl ?_
                    refine pM_gr rfl rfl rfl rfl ?_
                    refine pM_ic rfl ki_2 ?_
                    refine pM_ai rfl rfl row_p ?_
                    refine pM_qRi (as := [.inr (.inl (some 190)), .inl (.inl r107), .inl (.inl 1), .inl (.inl p1), .inl (.inl p2), .inl (.inl (M104.1 191 (ni 2)))]) (T := []) rfl rfl (fun C hC => cl_v hC rfl rfl rfl rfl) rfl (q_m_saying  h) (fun r110 M111 h => ?_)
                    exact pM_ri rfl (⟨_, rfl, h⟩)
              · replace h := h.2 h105
                refine pM_ic rfl ki_0 ?_
                exact pM_ri rfl (⟨_, rfl, h⟩)
            · replace h := h.1 h86
              refine pM_ic rfl ki_1 ?_
              refine pM_go rfl rfl ?_
              refine pM_ic rfl ki_3 ?_
              refine pM_qRi (as := [.inr (.inl (some 190)), .inl (.inl 1), .inl (.inl 3)]) (T := []) rfl rfl (fun C hC => cl_v hC rfl rfl rfl rfl) rfl (q_m_throwsIf  h) (fun r87 M88 h => ?_)
              refine pM_zeq rfl rfl (fun h89 => ?_) (fun h89 => ?_)
              · replace h := h.1 h89
                refine pM_iln rfl rfl ?_
                refine pM_ic rfl ki_2 ?_
                refine pM_cge rfl rfl (fun h90 => ?_) (fun h90 => ?_)
                · replace h := h.2 h90
                  refine pM_aln rfl rfl rfl ?_
                  refine pM_iln rfl rfl ?_
                  refine pM_iln rfl rfl ?_
                  refine pM_qRi (as := [.inr (.inl (some 190)), .inl (.inl p1), .inl (.inl p2)]) (T := []) rfl rfl (fun C hC => cl_v hC rfl rfl rfl rfl) rfl (q_m_may  h) (fun r98 M99 h => ?_)
                  refine pM_zeq rfl rfl (fun h100 => ?_) (fun h100 => ?_)
                  · replace h := h.1 h100
                    refine pM_ic rfl ki_0 ?_
                    exact pM_ri rfl (⟨_, rfl, h⟩)
                  · replace h := h.2 h100
                    refine pM_iln rfl rfl ?_
                    refine pM_ic rfl ki_2 ?_
                    refine pM_ceq rfl rfl (fun h101 => ?_) (fun h101 => ?_)
                    · replace h := h.1 h101
                      refine pM_ic rfl ki_1 ?_
                      refine pM_go rfl rfl ?_
                      exact pM_ri rfl (⟨_, rfl, h⟩)
                    · replace h := h.2 h101
                      refine pM_aln rfl rfl rfl ?_
                      refine pM_gr rfl rfl rfl rfl ?_
                      refine pM_iln rfl rfl ?_
                      refine pM_la rfl rfl ?_
                      refine pM_iln rfl rfl ?_
                      refine pM_qVi (as := [.inr (.inr (.inl (some (M99.2 196 (ni p2))))), .inl (.inl p1)]) (T := []) rfl rfl (fun _ _ => rfl) rfl (q_m_hasMatter ) ?_
                      refine pM_zne rfl rfl (fun h102 => ?_) (fun h102 => ?_)
                      · replace h := h.2 h102
                        refine pM_ic rfl ki_0 ?_
                        exact pM_ri rfl (⟨_, rfl, h⟩)
                      · replace h := h.1 h102
                        refine pM_ic rfl ki_1 ?_
                        refine pM_go rfl rfl ?_
                        exact pM_ri rfl (⟨_, rfl, h⟩)
                · replace h := h.1 h90
                  refine pM_aln rfl rfl rfl ?_
                  refine pM_aln rfl rfl rfl ?_
                  refine pM_qPi (as := [.inr (.inl (some 190))]) (T := [.inr (.inl (some 190))]) rfl rfl (fun C hC => cl_v hC rfl rfl rfl rfl) rfl (q_m_inForce  h) (fun r91 h => ?_)
                  refine pM_iln rfl rfl ?_
                  refine pM_ic rfl ki_1 ?_
                  refine pM_cne rfl rfl (fun h93 => ?_) (fun h93 => ?_)
                  · replace h := h.2 h93
                    refine pM_ic rfl ki_0 ?_
                    refine pM_iln rfl rfl ?_
                    refine pM_iln rfl rfl ?_
                    refine pM_aln rfl rfl rfl ?_
                    refine pM_gr rfl rfl rfl rfl ?_
                    refine pM_ic rfl ki_2 ?_
                    refine pM_ai rfl rfl row_p ?_
                    refine pM_qRi (as := [.inr (.inl (some 190)), .inl (.inl r91), .inl (.inl 0), .inl (.inl p1), .inl (.inl p2), .inl (.inl (M88.1 191 (ni 2)))]) (T := []) rfl rfl (fun C hC => cl_v hC rfl rfl rfl rfl) rfl (q_m_saying  h) (fun r96 M97 h => ?_)
                    exact pM_ri rfl (⟨_, rfl, h⟩)
                  · replace h := h.1 h93
                    refine pM_ic rfl ki_1 ?_
                    refine pM_go rfl rfl ?_
                    refine pM_iln rfl rfl ?_
                    refine pM_iln rfl rfl ?_
                    refine pM_aln rfl rfl rfl ?_
                    refine pM_gr rfl rfl rfl rfl ?_
                    refine pM_ic rfl ki_2 ?_
                    refine pM_ai rfl rfl row_p ?_
                    refine pM_qRi (as := [.inr (.inl (some 190)), .inl (.inl r91), .inl (.inl 1), .inl (.inl p1), .inl (.inl p2), .inl (.inl (M88.1 191 (ni 2)))]) (T := []) rfl rfl (fun C hC => cl_v hC rfl rfl rfl rfl) rfl (q_m_saying  h) (fun r94 M95 h => ?_)
                    exact pM_ri rfl (⟨_, rfl, h⟩)
              · replace h := h.2 h89
                refine pM_ic rfl ki_0 ?_
                exact pM_ri rfl (⟨_, rfl, h⟩)
