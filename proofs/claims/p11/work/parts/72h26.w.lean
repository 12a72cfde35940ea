/-! WHAT EACH METHOD COMES TO (gw.py) -/
def B_m_trial_58 (p1 : Int32) (p2 : Int32) (k73 : MM → Prop) (Q : Int32 → MM → Prop) (N : Nat) (ih : Int32 → MM → Prop) (v3 : Int32) (M : MM) : Prop :=
  ((v3 < p1 →
    W_m_oneDay  N M (fun M13 =>
      ih (v3 + 1) M13)) ∧
   (¬ v3 < p1 →
    k73 M))
def W_m_trial_58 (p1 : Int32) (p2 : Int32) (k73 : MM → Prop) (Q : Int32 → MM → Prop) : Nat → Int32 → MM → Prop
  | 0, _, _ => True
  | N + 1, v3, M => B_m_trial_58 p1 p2 k73 Q N (W_m_trial_58 p1 p2 k73 Q N) v3 M
theorem I_m_trial_58 (p1 : Int32) (p2 : Int32) (k73 : MM → Prop) (Q : Int32 → MM → Prop) (inv : Int32 → MM → Prop) (hs : ∀ (N : Nat) (ih : Int32 → MM → Prop) (v3 : Int32) (M : MM), (∀ (v3 : Int32) (M : MM), inv v3 M → ih v3 M) → inv v3 M → B_m_trial_58 p1 p2 k73 Q N ih v3 M) : ∀ (N : Nat) (v3 : Int32) (M : MM), inv v3 M → W_m_trial_58 p1 p2 k73 Q N v3 M := by
  intro N
  induction N with
  | zero => intros; trivial
  | succ N IH =>
    intro v3 M h
    exact hs N _ v3 M IH h
theorem q_m_trial_58 {X : Option (List AI)} {N0 : Nat} {p1 : Int32} {p2 : Int32} {k73 : MM → Prop} {Q : Int32 → MM → Prop}  (hk73 : ∀  (M : MM), k73 M → pM X N0 306 73 [(0, .inr (.inl (some 190))), (2, .inl (.inl p2))] [] M (Ri Q)) : ∀ (N : Nat), N ≤ N0 → ∀ (v3 : Int32) (M : MM), W_m_trial_58 p1 p2 k73 Q N v3 M → pM X N 306 58 [(0, .inr (.inl (some 190))), (1, .inl (.inl p1)), (2, .inl (.inl p2)), (3, .inl (.inl v3))] [] M (Ri Q) := by
  intro N
  induction N with
  | zero => intros; exact pM_zero
  | succ N IH =>
    intro hN v3 M h
    replace hN := Nat.le_of_succ_le hN
    replace h : B_m_trial_58 p1 p2 k73 Q N (W_m_trial_58 p1 p2 k73 Q N) v3 M := h
    refine pM_s (pMs_iln rfl rfl ?_)
    refine pM_iln rfl rfl ?_
    refine pM_cge rfl rfl (fun h11 => ?_) (fun h11 => ?_)
    · replace h := h.2 h11
      refine pM_w (F2 := [(0, .inr (.inl (some 190))), (2, .inl (.inl p2))]) (fun L hL => lo_cons (lo_lk hL rfl) (lo_cons (lo_lk hL rfl) lo_nil)) ?_
      exact pM_le hN (hk73 _ h)
    · replace h := h.1 h11
      refine pM_aln rfl rfl rfl ?_
      refine pM_qRu (as := [.inr (.inl (some 190))]) (T := []) rfl rfl (fun C hC => cl_v hC rfl rfl rfl rfl) rfl (q_m_oneDay  h) (fun M13 h => ?_)
      refine pM_ii rfl rfl rfl ki_1 ?_
      refine pM_go rfl rfl ?_
      refine pM_w (F2 := [(0, .inr (.inl (some 190))), (1, .inl (.inl p1)), (2, .inl (.inl p2)), (3, .inl (.inl (v3 + 1)))]) (fun L hL => lo_cons (lo_lk hL rfl) (lo_cons (lo_lk hL rfl) (lo_cons (lo_lk hL rfl) (lo_cons (lo_lk hL rfl) lo_nil)))) ?_
      exact IH hN (v3 + 1) M13 h
/-- 306: EarCodeModel.trial(II)I -/
def W_m_trial (p1 : Int32) (p2 : Int32) (N : Nat) (M : MM) (Q : Int32 → MM → Prop) : Prop :=
  (((V_m_in p1 0 40 (wi M 190 0 0)) = 0 →
    W_m_throwsIf 1 1 N (wi M 190 0 0) (fun r2 M3 =>
      ((r2 = 0 →
        (((V_m_in p2 0 3 M3) = 0 →
          W_m_throwsIf 1 2 N M3 (fun r6 M7 =>
            ((r6 = 0 →
              W_m_keepsAll  N M7 (fun M10 =>
                W_m_trial_58 p1 p2 (fun M14 =>
                  ((p2 = 0 →
                    W_m_bringsBack  N M14 (fun M17 =>
                      Q ((M14.1 191 (ni 3)) - (M14.1 194 (ni 3))) M17)) ∧
                   (¬ p2 = 0 →
                    ((p2 = 1 →
                      W_m_bringsBack  N M14 (fun M20 =>
                        Q ((M14.1 191 (ni 4)) - (M14.1 194 (ni 4))) M20)) ∧
                     (¬ p2 = 1 →
                      ((p2 = 2 →
                        W_m_takenNow  N M14 (fun r22 =>
                          W_m_bringsBack  N M14 (fun M25 =>
                            Q r22 M25))) ∧
                       (¬ p2 = 2 →
                        W_m_sumOf 196 N M14 (fun r26 =>
                          W_m_bringsBack  N M14 (fun M29 =>
                            Q r26 M29))))))))) Q N 0 M10)) ∧
             (¬ r6 = 0 →
              Q 0 M7)))) ∧
         (¬ (V_m_in p2 0 3 M3) = 0 →
          W_m_throwsIf 0 2 N M3 (fun r30 M31 =>
            ((r30 = 0 →
              W_m_keepsAll  N M31 (fun M34 =>
                W_m_trial_58 p1 p2 (fun M35 =>
                  ((p2 = 0 →
                    W_m_bringsBack  N M35 (fun M38 =>
                      Q ((M35.1 191 (ni 3)) - (M35.1 194 (ni 3))) M38)) ∧
                   (¬ p2 = 0 →
                    ((p2 = 1 →
                      W_m_bringsBack  N M35 (fun M41 =>
                        Q ((M35.1 191 (ni 4)) - (M35.1 194 (ni 4))) M41)) ∧
                     (¬ p2 = 1 →
                      ((p2 = 2 →
                        W_m_takenNow  N M35 (fun r43 =>
                          W_m_bringsBack  N M35 (fun M46 =>
                            Q r43 M46))) ∧
                       (¬ p2 = 2 →
                        W_m_sumOf 196 N M35 (fun r47 =>
                          W_m_bringsBack  N M35 (fun M50 =>
                            Q r47 M50))))))))) Q N 0 M34)) ∧
             (¬ r30 = 0 →
              Q 0 M31)))))) ∧
       (¬ r2 = 0 →
        Q 0 M3)))) ∧
   (¬ (V_m_in p1 0 40 (wi M 190 0 0)) = 0 →
    W_m_throwsIf 0 1 N (wi M 190 0 0) (fun r51 M52 =>
      ((r51 = 0 →
        (((V_m_in p2 0 3 M52) = 0 →
          W_m_throwsIf 1 2 N M52 (fun r55 M56 =>
            ((r55 = 0 →
              W_m_keepsAll  N M56 (fun M59 =>
                W_m_trial_58 p1 p2 (fun M60 =>
                  ((p2 = 0 →
                    W_m_bringsBack  N M60 (fun M63 =>
                      Q ((M60.1 191 (ni 3)) - (M60.1 194 (ni 3))) M63)) ∧
                   (¬ p2 = 0 →
                    ((p2 = 1 →
                      W_m_bringsBack  N M60 (fun M66 =>
                        Q ((M60.1 191 (ni 4)) - (M60.1 194 (ni 4))) M66)) ∧
                     (¬ p2 = 1 →
                      ((p2 = 2 →
                        W_m_takenNow  N M60 (fun r68 =>
                          W_m_bringsBack  N M60 (fun M71 =>
                            Q r68 M71))) ∧
                       (¬ p2 = 2 →
                        W_m_sumOf 196 N M60 (fun r72 =>
                          W_m_bringsBack  N M60 (fun M75 =>
                            Q r72 M75))))))))) Q N 0 M59)) ∧
             (¬ r55 = 0 →
              Q 0 M56)))) ∧
         (¬ (V_m_in p2 0 3 M52) = 0 →
          W_m_throwsIf 0 2 N M52 (fun r76 M77 =>
            ((r76 = 0 →
              W_m_keepsAll  N M77 (fun M80 =>
                W_m_trial_58 p1 p2 (fun M81 =>
                  ((p2 = 0 →
                    W_m_bringsBack  N M81 (fun M84 =>
                      Q ((M81.1 191 (ni 3)) - (M81.1 194 (ni 3))) M84)) ∧
                   (¬ p2 = 0 →
                    ((p2 = 1 →
                      W_m_bringsBack  N M81 (fun M87 =>
                        Q ((M81.1 191 (ni 4)) - (M81.1 194 (ni 4))) M87)) ∧
                     (¬ p2 = 1 →
                      ((p2 = 2 →
                        W_m_takenNow  N M81 (fun r89 =>
                          W_m_bringsBack  N M81 (fun M92 =>
                            Q r89 M92))) ∧
                       (¬ p2 = 2 →
                        W_m_sumOf 196 N M81 (fun r93 =>
                          W_m_bringsBack  N M81 (fun M96 =>
                            Q r93 M96))))))))) Q N 0 M80)) ∧
             (¬ r76 = 0 →
              Q 0 M77)))))) ∧
       (¬ r51 = 0 →
        Q 0 M52)))))
theorem q_m_trial {X : Option (List AI)} {N : Nat} {M : MM} {p1 : Int32} {p2 : Int32} {Q : Int32 → MM → Prop}  (h : W_m_trial p1 p2 N M Q) : pM X N 306 0 (ea_ar 0 [.inr (.inl (some 190)), .inl (.inl p1), .inl (.inl p2)]) [] M (Ri Q) := by
  refine pM_w (F2 := [(0, .inr (.inl (some 190))), (1, .inl (.inl p1)), (2, .inl (.inl p2))]) (fun L hL => lo_cons (lo_lk hL rfl) (lo_cons (lo_lk hL rfl) (lo_cons (lo_lk hL rfl) lo_nil))) ?_
  refine pM_aln rfl rfl rfl ?_
  refine pM_ic rfl ki_0 ?_
  refine pM_pi rfl rfl rfl rfl ?_
  refine pM_aln rfl rfl rfl ?_
  refine pM_iln rfl rfl ?_
  refine pM_ic rfl ki_0 ?_
  refine pM_bi rfl kb_40 ?_
  refine pM_qVi (as := [.inl (.inl p1), .inl (.inl 0), .inl (.inl 40)]) (T := [.inr (.inl (some 190))]) rfl rfl (fun _ _ => rfl) rfl (q_m_in ) ?_
  refine pM_zne rfl rfl (fun h1 => ?_) (fun h1 => ?_)
  · replace h := h.2 h1
    refine pM_ic rfl ki_0 ?_
    refine pM_ic rfl ki_1 ?_
    refine pM_qRi (as := [.inr (.inl (some 190)), .inl (.inl 0), .inl (.inl 1)]) (T := []) rfl rfl (fun C hC => cl_v hC rfl rfl rfl rfl) rfl (q_m_throwsIf  h) (fun r51 M52 h => ?_)
    refine pM_zne rfl rfl (fun h53 => ?_) (fun h53 => ?_)
    · replace h := h.2 h53
      refine pM_ic rfl ki_0 ?_
      exact pM_ri rfl (⟨_, rfl, h⟩)
    · replace h := h.1 h53
      refine pM_aln rfl rfl rfl ?_
      refine pM_iln rfl rfl ?_
      refine pM_ic rfl ki_0 ?_
      refine pM_ic rfl ki_3 ?_
      refine pM_qVi (as := [.inl (.inl p2), .inl (.inl 0), .inl (.inl 3)]) (T := [.inr (.inl (some 190))]) rfl rfl (fun _ _ => rfl) rfl (q_m_in ) ?_
      refine pM_zne rfl rfl (fun h54 => ?_) (fun h54 => ?_)
      · replace h := h.2 h54
        refine pM_ic rfl ki_0 ?_
        refine pM_ic rfl ki_2 ?_
        refine pM_qRi (as := [.inr (.inl (some 190)), .inl (.inl 0), .inl (.inl 2)]) (T := []) rfl rfl (fun C hC => cl_v hC rfl rfl rfl rfl) rfl (q_m_throwsIf  h) (fun r76 M77 h => ?_)
        refine pM_zeq rfl rfl (fun h78 => ?_) (fun h78 => ?_)
        · replace h := h.1 h78
          refine pM_aln rfl rfl rfl ?_
          refine pM_qRu (as := [.inr (.inl (some 190))]) (T := []) rfl rfl (fun C hC => cl_v hC rfl rfl rfl rfl) rfl (q_m_keepsAll  h) (fun M80 h => ?_)
          refine pM_ic rfl ki_0 ?_
          refine pM_isn rfl rfl ?_
          refine pM_w (F2 := [(0, .inr (.inl (some 190))), (1, .inl (.inl p1)), (2, .inl (.inl p2)), (3, .inl (.inl 0))]) (fun L hL => lo_cons (lo_lk hL rfl) (lo_cons (lo_lk hL rfl) (lo_cons (lo_lk hL rfl) (lo_cons (lo_lk hL rfl) lo_nil)))) ?_
          refine q_m_trial_58  (fun M81 h => ?_) N (Nat.le_refl N) 0 M80 h
          · refine pM_iln rfl rfl ?_
            refine pM_zne rfl rfl (fun h82 => ?_) (fun h82 => ?_)
            · replace h := h.2 h82
              refine pM_iln rfl rfl ?_
              refine pM_ic rfl ki_1 ?_
              refine pM_cne rfl rfl (fun h85 => ?_) (fun h85 => ?_)
              · replace h := h.2 h85
                refine pM_iln rfl rfl ?_
                refine pM_ic rfl ki_2 ?_
                refine pM_cne rfl rfl (fun h88 => ?_) (fun h88 => ?_)
                · replace h := h.2 h88
                  refine pM_aln rfl rfl rfl ?_
                  refine pM_aln rfl rfl rfl ?_
                  refine pM_gr rfl rfl rfl rfl ?_
                  refine pM_qPi (as := [.inr (.inl (some 190)), .inr (.inl (some 196))]) (T := []) rfl rfl (fun C hC => cl_v hC rfl rfl rfl rfl) rfl (q_m_sumOf rfl h) (fun r93 h => ?_)
                  refine pM_isn rfl rfl ?_
                  refine pM_aln rfl rfl rfl ?_
                  refine pM_qRu (as := [.inr (.inl (some 190))]) (T := []) rfl rfl (fun C hC => cl_v hC rfl rfl rfl rfl) rfl (q_m_bringsBack  h) (fun M96 h => ?_)
                  refine pM_iln rfl rfl ?_
                  exact pM_ri rfl (⟨_, rfl, h⟩)
                · replace h := h.1 h88
                  refine pM_aln rfl rfl rfl ?_
                  refine pM_qPi (as := [.inr (.inl (some 190))]) (T := []) rfl rfl (fun C hC => cl_v hC rfl rfl rfl rfl) rfl (q_m_takenNow  h) (fun r89 h => ?_)
                  refine pM_go rfl rfl ?_
                  refine pM_isn rfl rfl ?_
                  refine pM_aln rfl rfl rfl ?_
                  refine pM_qRu (as := [.inr (.inl (some 190))]) (T := []) rfl rfl (fun C hC => cl_v hC rfl rfl rfl rfl) rfl (q_m_bringsBack  h) (fun M92 h => ?_)
                  refine pM_iln rfl rfl ?_
                  exact pM_ri rfl (⟨_, rfl, h⟩)
              · replace h := h.1 h85
                refine pM_aln rfl rfl rfl ?_
                refine pM_gr rfl rfl rfl rfl ?_
                refine pM_ic rfl ki_4 ?_
                refine pM_ai rfl rfl row_p ?_
                refine pM_aln rfl rfl rfl ?_
                refine pM_gr rfl rfl rfl rfl ?_
                refine pM_ic rfl ki_4 ?_
                refine pM_ai rfl rfl row_p ?_
                refine pM_sub rfl ?_
                refine pM_go rfl rfl ?_
                refine pM_isn rfl rfl ?_
                refine pM_aln rfl rfl rfl ?_
                refine pM_qRu (as := [.inr (.inl (some 190))]) (T := []) rfl rfl (fun C hC => cl_v hC rfl rfl rfl rfl) rfl (q_m_bringsBack  h) (fun M87 h => ?_)
                refine pM_iln rfl rfl ?_
                exact pM_ri rfl (⟨_, rfl, h⟩)
            · replace h := h.1 h82
              refine pM_aln rfl rfl rfl ?_
              refine pM_gr rfl rfl rfl rfl ?_
              refine pM_ic rfl ki_3 ?_
              refine pM_ai rfl rfl row_p ?_
              refine pM_aln rfl rfl rfl ?_
              refine pM_gr rfl rfl rfl rfl ?_
              refine pM_ic rfl ki_3 ?_
              refine pM_ai rfl rfl row_p ?_
              refine pM_sub rfl ?_
              refine pM_go rfl rfl ?_
              refine pM_isn rfl rfl ?_
              refine pM_aln rfl rfl rfl ?_
              refine pM_qRu (as := [.inr (.inl (some 190))]) (T := []) rfl rfl (fun C hC => cl_v hC rfl rfl rfl rfl) rfl (q_m_bringsBack  h) (fun M84 h => ?_)
              refine pM_iln rfl rfl ?_
              exact pM_ri rfl (⟨_, rfl, h⟩)
        · replace h := h.2 h78
          refine pM_ic rfl ki_0 ?_
          exact pM_ri rfl (⟨_, rfl, h⟩)
      · replace h := h.1 h54
        refine pM_ic rfl ki_1 ?_
        refine pM_go rfl rfl ?_
        refine pM_ic rfl ki_2 ?_
        refine pM_qRi (as := [.inr (.inl (some 190)), .inl (.inl 1), .inl (.inl 2)]) (T := []) rfl rfl (fun C hC => cl_v hC rfl rfl rfl rfl) rfl (q_m_throwsIf  h) (fun r55 M56 h => ?_)
        refine pM_zeq rfl rfl (fun h57 => ?_) (fun h57 => ?_)
        · replace h := h.1 h57
          refine pM_aln rfl rfl rfl ?_
          refine pM_qRu (as := [.inr (.inl (some 190))]) (T := []) rfl rfl (fun C hC => cl_v hC rfl rfl rfl rfl) rfl (q_m_keepsAll  h) (fun M59 h => ?_)
          refine pM_ic rfl ki_0 ?_
          refine pM_isn rfl rfl ?_
          refine pM_w (F2 := [(0, .inr (.inl (some 190))), (1, .inl (.inl p1)), (2, .inl (.inl p2)), (3, .inl (.inl 0))]) (fun L hL => lo_cons (lo_lk hL rfl) (lo_cons (lo_lk hL rfl) (lo_cons (lo_lk hL rfl) (lo_cons (lo_lk hL rfl) lo_nil)))) ?_
          refine q_m_trial_58  (fun M60 h => ?_) N (Nat.le_refl N) 0 M59 h
          · refine pM_iln rfl rfl ?_
            refine pM_zne rfl rfl (fun h61 => ?_) (fun h61 => ?_)
            · replace h := h.2 h61
              refine pM_iln rfl rfl ?_
              refine pM_ic rfl ki_1 ?_
              refine pM_cne rfl rfl (fun h64 => ?_) (fun h64 => ?_)
              · replace h := h.2 h64
                refine pM_iln rfl rfl ?_
                refine pM_ic rfl ki_2 ?_
                refine pM_cne rfl rfl (fun h67 => ?_) (fun h67 => ?_)
                · replace h := h.2 h67
                  refine pM_aln rfl rfl rfl ?_
                  refine pM_aln rfl rfl rfl ?_
                  refine pM_gr rfl rfl rfl rfl ?_
                  refine pM_qPi (as := [.inr (.inl (some 190)), .inr (.inl (some 196))]) (T := []) rfl rfl (fun C hC => cl_v hC rfl rfl rfl rfl) rfl (q_m_sumOf rfl h) (fun r72 h => ?_)
                  refine pM_isn rfl rfl ?_
                  refine pM_aln rfl rfl rfl ?_
                  refine pM_qRu (as := [.inr (.inl (some 190))]) (T := []) rfl rfl (fun C hC => cl_v hC rfl rfl rfl rfl) rfl (q_m_bringsBack  h) (fun M75 h => ?_)
                  refine pM_iln rfl rfl ?_
                  exact pM_ri rfl (⟨_, rfl, h⟩)
                · replace h := h.1 h67
                  refine pM_aln rfl rfl rfl ?_
                  refine pM_qPi (as := [.inr (.inl (some 190))]) (T := []) rfl rfl (fun C hC => cl_v hC rfl rfl rfl rfl) rfl (q_m_takenNow  h) (fun r68 h => ?_)
                  refine pM_go rfl rfl ?_
                  refine pM_isn rfl rfl ?_
                  refine pM_aln rfl rfl rfl ?_
                  refine pM_qRu (as := [.inr (.inl (some 190))]) (T := []) rfl rfl (fun C hC => cl_v hC rfl rfl rfl rfl) rfl (q_m_bringsBack  h) (fun M71 h => ?_)
                  refine pM_iln rfl rfl ?_
                  exact pM_ri rfl (⟨_, rfl, h⟩)
              · replace h := h.1 h64
                refine pM_aln rfl rfl rfl ?_
                refine pM_gr rfl rfl rfl rfl ?_
                refine pM_ic rfl ki_4 ?_
                refine pM_ai rfl rfl row_p ?_
                refine pM_aln rfl rfl rfl ?_
                refine pM_gr rfl rfl rfl rfl ?_
                refine pM_ic rfl ki_4 ?_
                refine pM_ai rfl rfl row_p ?_
                refine pM_sub rfl ?_
                refine pM_go rfl rfl ?_
                refine pM_isn rfl rfl ?_
                refine pM_aln rfl rfl rfl ?_
                refine pM_qRu (as := [.inr (.inl (some 190))]) (T := []) rfl rfl (fun C hC => cl_v hC rfl rfl rfl rfl) rfl (q_m_bringsBack  h) (fun M66 h => ?_)
                refine pM_iln rfl rfl ?_
                exact pM_ri rfl (⟨_, rfl, h⟩)
            · replace h := h.1 h61
              refine pM_aln rfl rfl rfl ?_
              refine pM_gr rfl rfl rfl rfl ?_
              refine pM_ic rfl ki_3 ?_
              refine pM_ai rfl rfl row_p ?_
              refine pM_aln rfl rfl rfl ?_
              refine pM_gr rfl rfl rfl rfl ?_
              refine pM_ic rfl ki_3 ?_
              refine pM_ai rfl rfl row_p ?_
              refine pM_sub rfl ?_
              refine pM_go rfl rfl ?_
              refine pM_isn rfl rfl ?_
              refine pM_aln rfl rfl rfl ?_
              refine pM_qRu (as := [.inr (.inl (some 190))]) (T := []) rfl rfl (fun C hC => cl_v hC rfl rfl rfl rfl) rfl (q_m_bringsBack  h) (fun M63 h => ?_)
              refine pM_iln rfl rfl ?_
              exact pM_ri rfl (⟨_, rfl, h⟩)
        · replace h := h.2 h57
          refine pM_ic rfl ki_0 ?_
          exact pM_ri rfl (⟨_, rfl, h⟩)
  · replace h := h.1 h1
    refine pM_ic rfl ki_1 ?_
    refine pM_go rfl rfl ?_
    refine pM_ic rfl ki_1 ?_
    refine pM_qRi (as := [.inr (.inl (some 190)), .inl (.inl 1), .inl (.inl 1)]) (T := []) rfl rfl (fun C hC => cl_v hC rfl rfl rfl rfl) rfl (q_m_throwsIf  h) (fun r2 M3 h => ?_)
    refine pM_zne rfl rfl (fun h4 => ?_) (fun h4 => ?_)
    · replace h := h.2 h4
      refine pM_ic rfl ki_0 ?_
      exact pM_ri rfl (⟨_, rfl, h⟩)
    · replace h := h.1 h4
      refine pM_aln rfl rfl rfl ?_
      refine pM_iln rfl rfl ?_
      refine pM_ic rfl ki_0 ?_
      refine pM_ic rfl ki_3 ?_
      refine pM_qVi (as := [.inl (.inl p2), .inl (.inl 0), .inl (.inl 3)]) (T := [.inr (.inl (some 190))]) rfl rfl (fun _ _ => rfl) rfl (q_m_in ) ?_
      refine pM_zne rfl rfl (fun h5 => ?_) (fun h5 => ?_)
      · replace h := h.2 h5
        refine pM_ic rfl ki_0 ?_
        refine pM_ic rfl ki_2 ?_
        refine pM_qRi (as := [.inr (.inl (some 190)), .inl (.inl 0), .inl (.inl 2)]) (T := []) rfl rfl (fun C hC => cl_v hC rfl rfl rfl rfl) rfl (q_m_throwsIf  h) (fun r30 M31 h => ?_)
        refine pM_zeq rfl rfl (fun h32 => ?_) (fun h32 => ?_)
        · replace h := h.1 h32
          refine pM_aln rfl rfl rfl ?_
          refine pM_qRu (as := [.inr (.inl (some 190))]) (T := []) rfl rfl (fun C hC => cl_v hC rfl rfl rfl rfl) rfl (q_m_keepsAll  h) (fun M34 h => ?_)
          refine pM_ic rfl ki_0 ?_
          refine pM_isn rfl rfl ?_
          refine pM_w (F2 := [(0, .inr (.inl (some 190))), (1, .inl (.inl p1)), (2, .inl (.inl p2)), (3, .inl (.inl 0))]) (fun L hL => lo_cons (lo_lk hL rfl) (lo_cons (lo_lk hL rfl) (lo_cons (lo_lk hL rfl) (lo_cons (lo_lk hL rfl) lo_nil)))) ?_
          refine q_m_trial_58  (fun M35 h => ?_) N (Nat.le_refl N) 0 M34 h
          · refine pM_iln rfl rfl ?_
            refine pM_zne rfl rfl (fun h36 => ?_) (fun h36 => ?_)
            · replace h := h.2 h36
              refine pM_iln rfl rfl ?_
              refine pM_ic rfl ki_1 ?_
              refine pM_cne rfl rfl (fun h39 => ?_) (fun h39 => ?_)
              · replace h := h.2 h39
                refine pM_iln rfl rfl ?_
                refine pM_ic rfl ki_2 ?_
                refine pM_cne rfl rfl (fun h42 => ?_) (fun h42 => ?_)
                · replace h := h.2 h42
                  refine pM_aln rfl rfl rfl ?_
                  refine pM_aln rfl rfl rfl ?_
                  refine pM_gr rfl rfl rfl rfl ?_
                  refine pM_qPi (as := [.inr (.inl (some 190)), .inr (.inl (some 196))]) (T := []) rfl rfl (fun C hC => cl_v hC rfl rfl rfl rfl) rfl (q_m_sumOf rfl h) (fun r47 h => ?_)
                  refine pM_isn rfl rfl ?_
                  refine pM_aln rfl rfl rfl ?_
                  refine pM_qRu (as := [.inr (.inl (some 190))]) (T := []) rfl rfl (fun C hC => cl_v hC rfl rfl rfl rfl) rfl (q_m_bringsBack  h) (fun M50 h => ?_)
                  refine pM_iln rfl rfl ?_
                  exact pM_ri rfl (⟨_, rfl, h⟩)
                · replace h := h.1 h42
                  refine pM_aln rfl rfl rfl ?_
                  refine pM_qPi (as := [.inr (.inl (some 190))]) (T := []) rfl rfl (fun C hC => cl_v hC rfl rfl rfl rfl) rfl (q_m_takenNow  h) (fun r43 h => ?_)
                  refine pM_go rfl rfl ?_
                  refine pM_isn rfl rfl ?_
                  refine pM_aln rfl rfl rfl ?_
                  refine pM_qRu (as := [.inr (.inl (some 190))]) (T := []) rfl rfl (fun C hC => cl_v hC rfl rfl rfl rfl) rfl (q_m_bringsBack  h) (fun M46 h => ?_)
                  refine pM_iln rfl rfl ?_
                  exact pM_ri rfl (⟨_, rfl, h⟩)
              · replace h := h.1 h39
                refine pM_aln rfl rfl rfl ?_
                refine pM_gr rfl rfl rfl rfl ?_
                refine pM_ic rfl ki_4 ?_
                refine pM_ai rfl rfl row_p ?_
                refine pM_aln rfl rfl rfl ?_
                refine pM_gr rfl rfl rfl rfl ?_
                refine pM_ic rfl ki_4 ?_
                refine pM_ai rfl rfl row_p ?_
                refine pM_sub rfl ?_
                refine pM_go rfl rfl ?_
                refine pM_isn rfl rfl ?_
                refine pM_aln rfl rfl rfl ?_
                refine pM_qRu (as := [.inr (.inl (some 190))]) (T := []) rfl rfl (fun C hC => cl_v hC rfl rfl rfl rfl) rfl (q_m_bringsBack  h) (fun M41 h => ?_)
                refine pM_iln rfl rfl ?_
                exact pM_ri rfl (⟨_, rfl, h⟩)
            · replace h := h.1 h36
              refine pM_aln rfl rfl rfl ?_
              refine pM_gr rfl rfl rfl rfl ?_
              refine pM_ic rfl ki_3 ?_
              refine pM_ai rfl rfl row_p ?_
              refine pM_aln rfl rfl rfl ?_
              refine pM_gr rfl rfl rfl rfl ?_
              refine pM_ic rfl ki_3 ?_
              refine pM_ai rfl rfl row_p ?_
              refine pM_sub rfl ?_
              refine pM_go rfl rfl ?_
              refine pM_isn rfl rfl ?_
              refine pM_aln rfl rfl rfl ?_
              refine pM_qRu (as := [.inr (.inl (some 190))]) (T := []) rfl rfl (fun C hC => cl_v hC rfl rfl rfl rfl) rfl (q_m_bringsBack  h) (fun M38 h => ?_)
              refine pM_iln rfl rfl ?_
              exact pM_ri rfl (⟨_, rfl, h⟩)
        · replace h := h.2 h32
          refine pM_ic rfl ki_0 ?_
          exact pM_ri rfl (⟨_, rfl, h⟩)
      · replace h := h.1 h5
        refine pM_ic rfl ki_1 ?_
        refine pM_go rfl rfl ?_
        refine pM_ic rfl ki_2 ?_
        refine pM_qRi (as := [.inr (.inl (some 190)), .inl (.inl 1), .inl (.inl 2)]) (T := []) rfl rfl (fun C hC => cl_v hC rfl rfl rfl rfl) rfl (q_m_throwsIf  h) (fun r6 M7 h => ?_)
        refine pM_zeq rfl rfl (fun h8 => ?_) (fun h8 => ?_)
        · replace h := h.1 h8
          refine pM_aln rfl rfl rfl ?_
          refine pM_qRu (as := [.inr (.inl (some 190))]) (T := []) rfl rfl (fun C hC => cl_v hC rfl rfl rfl rfl) rfl (q_m_keepsAll  h) (fun M10 h => ?_)
          refine pM_ic rfl ki_0 ?_
          refine pM_isn rfl rfl ?_
          refine pM_w (F2 := [(0, .inr (.inl (some 190))), (1, .inl (.inl p1)), (2, .inl (.inl p2)), (3, .inl (.inl 0))]) (fun L hL => lo_cons (lo_lk hL rfl) (lo_cons (lo_lk hL rfl) (lo_cons (lo_lk hL rfl) (lo_cons (lo_lk hL rfl) lo_nil)))) ?_
          refine q_m_trial_58  (fun M14 h => ?_) N (Nat.le_refl N) 0 M10 h
          · refine pM_iln rfl rfl ?_
            refine pM_zne rfl rfl (fun h15 => ?_) (fun h15 => ?_)
            · replace h := h.2 h15
              refine pM_iln rfl rfl ?_
              refine pM_ic rfl ki_1 ?_
              refine pM_cne rfl rfl (fun h18 => ?_) (fun h18 => ?_)
              · replace h := h.2 h18
                refine pM_iln rfl rfl ?_
                refine pM_ic rfl ki_2 ?_
                refine pM_cne rfl rfl (fun h21 => ?_) (fun h21 => ?_)
                · replace h := h.2 h21
                  refine pM_aln rfl rfl rfl ?_
                  refine pM_aln rfl rfl rfl ?_
                  refine pM_gr rfl rfl rfl rfl ?_
                  refine pM_qPi (as := [.inr (.inl (some 190)), .inr (.inl (some 196))]) (T := []) rfl rfl (fun C hC => cl_v hC rfl rfl rfl rfl) rfl (q_m_sumOf rfl h) (fun r26 h => ?_)
                  refine pM_isn rfl rfl ?_
                  refine pM_aln rfl rfl rfl ?_
                  refine pM_qRu (as := [.inr (.inl (some 190))]) (T := []) rfl rfl (fun C hC => cl_v hC rfl rfl rfl rfl) rfl (q_m_bringsBack  h) (fun M29 h => ?_)
                  refine pM_iln rfl rfl ?_
                  exact pM_ri rfl (⟨_, rfl, h⟩)
                · replace h := h.1 h21
                  refine pM_aln rfl rfl rfl ?_
                  refine pM_qPi (as := [.inr (.inl (some 190))]) (T := []) rfl rfl (fun C hC => cl_v hC rfl rfl rfl rfl) rfl (q_m_takenNow  h) (fun r22 h => ?_)
                  refine pM_go rfl rfl ?_
                  refine pM_isn rfl rfl ?_
                  refine pM_aln rfl rfl rfl ?_
                  refine pM_qRu (as := [.inr (.inl (some 190))]) (T := []) rfl rfl (fun C hC => cl_v hC rfl rfl rfl rfl) rfl (q_m_bringsBack  h) (fun M25 h => ?_)
                  refine pM_iln rfl rfl ?_
                  exact pM_ri rfl (⟨_, rfl, h⟩)
              · replace h := h.1 h18
                refine pM_aln rfl rfl rfl ?_
                refine pM_gr rfl rfl rfl rfl ?_
                refine pM_ic rfl ki_4 ?_
                refine pM_ai rfl rfl row_p ?_
                refine pM_aln rfl rfl rfl ?_
                refine pM_gr rfl rfl rfl rfl ?_
                refine pM_ic rfl ki_4 ?_
                refine pM_ai rfl rfl row_p ?_
                refine pM_sub rfl ?_
                refine pM_go rfl rfl ?_
                refine pM_isn rfl rfl ?_
                refine pM_aln rfl rfl rfl ?_
                refine pM_qRu (as := [.inr (.inl (some 190))]) (T := []) rfl rfl (fun C hC => cl_v hC rfl rfl rfl rfl) rfl (q_m_bringsBack  h) (fun M20 h => ?_)
                refine pM_iln rfl rfl ?_
                exact pM_ri rfl (⟨_, rfl, h⟩)
            · replace h := h.1 h15
              refine pM_aln rfl rfl rfl ?_
              refine pM_gr rfl rfl rfl rfl ?_
              refine pM_ic rfl ki_3 ?_
              refine pM_ai rfl rfl row_p ?_
              refine pM_aln rfl rfl rfl ?_
              refine pM_gr rfl rfl rfl rfl ?_
              refine pM_ic rfl ki_3 ?_
              refine pM_ai rfl rfl row_p ?_
              refine pM_sub rfl ?_
              refine pM_go rfl rfl ?_
              refine pM_isn rfl rfl ?_
              refine pM_aln rfl rfl rfl ?_
              refine pM_qRu (as := [.inr (.inl (some 190))]) (T := []) rfl rfl (fun C hC => cl_v hC rfl rfl rfl rfl) rfl (q_m_bringsBack  h) (fun M17 h => ?_)
              refine pM_iln rfl rfl ?_
              exact pM_ri rfl (⟨_, rfl, h⟩)
        · replace h := h.2 h8
          refine pM_ic rfl ki_0 ?_
          exact pM_ri rfl (⟨_, rfl, h⟩)
def B_m_span_58 (p1 : Int32) (p2 : Int32) (u3 : Int32) (u4 : Int32) (k74 : MM → Prop) (Q : Int32 → MM → Prop) (N : Nat) (ih : Int32 → MM → Prop) (v5 : Int32) (M : MM) : Prop :=
  ((v5 < p1 →
    W_m_oneDay  N M (fun M10 =>
      ih (v5 + 1) M10)) ∧
   (¬ v5 < p1 →
    k74 M))
def W_m_span_58 (p1 : Int32) (p2 : Int32) (u3 : Int32) (u4 : Int32) (k74 : MM → Prop) (Q : Int32 → MM → Prop) : Nat → Int32 → MM → Prop
  | 0, _, _ => True
  | N + 1, v5, M => B_m_span_58 p1 p2 u3 u4 k74 Q N (W_m_span_58 p1 p2 u3 u4 k74 Q N) v5 M
theorem I_m_span_58 (p1 : Int32) (p2 : Int32) (u3 : Int32) (u4 : Int32) (k74 : MM → Prop) (Q : Int32 → MM → Prop) (inv : Int32 → MM → Prop) (hs : ∀ (N : Nat) (ih : Int32 → MM → Prop) (v5 : Int32) (M : MM), (∀ (v5 : Int32) (M : MM), inv v5 M → ih v5 M) → inv v5 M → B_m_span_58 p1 p2 u3 u4 k74 Q N ih v5 M) : ∀ (N : Nat) (v5 : Int32) (M : MM), inv v5 M → W_m_span_58 p1 p2 u3 u4 k74 Q N v5 M := by
  intro N
  induction N with
  | zero => intros; trivial
  | succ N IH =>
    intro v5 M h
    exact hs N _ v5 M IH h
theorem q_m_span_58 {X : Option (List AI)} {N0 : Nat} {p1 : Int32} {p2 : Int32} {u3 : Int32} {u4 : Int32} {k74 : MM → Prop} {Q : Int32 → MM → Prop}  (hk74 : ∀  (M : MM), k74 M → pM X N0 307 74 [(0, .inr (.inl (some 190))), (1, .inl (.inl p1)), (2, .inl (.inl p2)), (3, .inl (.inl u3)), (4, .inl (.inl u4))] [] M (Ri Q)) : ∀ (N : Nat), N ≤ N0 → ∀ (v5 : Int32) (M : MM), W_m_span_58 p1 p2 u3 u4 k74 Q N v5 M → pM X N 307 58 [(0, .inr (.inl (some 190))), (1, .inl (.inl p1)), (2, .inl (.inl p2)), (3, .inl (.inl u3)), (4, .inl (.inl u4)), (5, .inl (.inl v5))] [] M (Ri Q) := by
  intro N
  induction N with
  | zero => intros; exact pM_zero
  | succ N IH =>
    intro hN v5 M h
    replace hN := Nat.le_of_succ_le hN
    replace h : B_m_span_58 p1 p2 u3 u4 k74 Q N (W_m_span_58 p1 p2 u3 u4 k74 Q N) v5 M := h
    refine pM_s (pMs_il rfl rfl ?_)
    refine pM_iln rfl rfl ?_
    refine pM_cge rfl rfl (fun h8 => ?_) (fun h8 => ?_)
    · replace h := h.2 h8
      refine pM_w (F2 := [(0, .inr (.inl (some 190))), (1, .inl (.inl p1)), (2, .inl (.inl p2)), (3, .inl (.inl u3)), (4, .inl (.inl u4))]) (fun L hL => lo_cons (lo_lk hL rfl) (lo_cons (lo_lk hL rfl) (lo_cons (lo_lk hL rfl) (lo_cons (lo_lk hL rfl) (lo_cons (lo_lk hL rfl) lo_nil))))) ?_
      exact pM_le hN (hk74 _ h)
    · replace h := h.1 h8
      refine pM_aln rfl rfl rfl ?_
      refine pM_qRu (as := [.inr (.inl (some 190))]) (T := []) rfl rfl (fun C hC => cl_v hC rfl rfl rfl rfl) rfl (q_m_oneDay  h) (fun M10 h => ?_)
      refine pM_ii rfl rfl rfl ki_1 ?_
      refine pM_go rfl rfl ?_
      refine pM_w (F2 := [(0, .inr (.inl (some 190))), (1, .inl (.inl p1)), (2, .inl (.inl p2)), (3, .inl (.inl u3)), (4, .inl (.inl u4)), (5, .inl (.inl (v5 + 1)))]) (fun L hL => lo_cons (lo_lk hL rfl) (lo_cons (lo_lk hL rfl) (lo_cons (lo_lk hL rfl) (lo_cons (lo_lk hL rfl) (lo_cons (lo_lk hL rfl) (lo_cons (lo_lk hL rfl) lo_nil)))))) ?_
      exact IH hN (v5 + 1) M10 h
def B_m_span_39 (p1 : Int32) (p2 : Int32) (Q : Int32 → MM → Prop) (N : Nat) (ih : Int32 → Int32 → MM → Prop) (v3 : Int32) (v4 : Int32) (M : MM) : Prop :=
  ((6 < v4 →
    Q v3 M) ∧
   (¬ 6 < v4 →
    W_m_span_58 p1 p2 v3 v4 (fun M11 =>
      W_m_bringsBack  N M11 (fun M13 =>
        ((v3 < 0 →
          ih ((M11.1 191 (ni 3)) - (M11.1 194 (ni 3))) (v4 + 1) M13) ∧
         (¬ v3 < 0 →
          ((p2 = 0 →
            ih (mn v3 ((M11.1 191 (ni 3)) - (M11.1 194 (ni 3)))) (v4 + 1) M13) ∧
           (¬ p2 = 0 →
            ih (mx v3 ((M11.1 191 (ni 3)) - (M11.1 194 (ni 3)))) (v4 + 1) M13)))))) Q N 0 (wi M 191 (ni 9) v4)))
def W_m_span_39 (p1 : Int32) (p2 : Int32) (Q : Int32 → MM → Prop) : Nat → Int32 → Int32 → MM → Prop
  | 0, _, _, _ => True
  | N + 1, v3, v4, M => B_m_span_39 p1 p2 Q N (W_m_span_39 p1 p2 Q N) v3 v4 M
theorem I_m_span_39 (p1 : Int32) (p2 : Int32) (Q : Int32 → MM → Prop) (inv : Int32 → Int32 → MM → Prop) (hs : ∀ (N : Nat) (ih : Int32 → Int32 → MM → Prop) (v3 : Int32) (v4 : Int32) (M : MM), (∀ (v3 : Int32) (v4 : Int32) (M : MM), inv v3 v4 M → ih v3 v4 M) → inv v3 v4 M → B_m_span_39 p1 p2 Q N ih v3 v4 M) : ∀ (N : Nat) (v3 : Int32) (v4 : Int32) (M : MM), inv v3 v4 M → W_m_span_39 p1 p2 Q N v3 v4 M := by
  intro N
  induction N with
  | zero => intros; trivial
  | succ N IH =>
    intro v3 v4 M h
    exact hs N _ v3 v4 M IH h
theorem q_m_span_39 {X : Option (List AI)} {N0 : Nat} {p1 : Int32} {p2 : Int32} {Q : Int32 → MM → Prop}   : ∀ (N : Nat), N ≤ N0 → ∀ (v3 : Int32) (v4 : Int32) (M : MM), W_m_span_39 p1 p2 Q N v3 v4 M → pM X N 307 39 [(0, .inr (.inl (some 190))), (1, .inl (.inl p1)), (2, .inl (.inl p2)), (3, .inl (.inl v3)), (4, .inl (.inl v4))] [] M (Ri Q) := by
  intro N
  induction N with
  | zero => intros; exact pM_zero
  | succ N IH =>
    intro hN v3 v4 M h
    replace hN := Nat.le_of_succ_le hN
    replace h : B_m_span_39 p1 p2 Q N (W_m_span_39 p1 p2 Q N) v3 v4 M := h
    refine pM_s (pMs_il rfl rfl ?_)
    refine pM_bi rfl kb_6 ?_
    refine pM_cgt rfl rfl (fun h7 => ?_) (fun h7 => ?_)
    · replace h := h.1 h7
      refine pM_iln rfl rfl ?_
      exact pM_ri rfl (⟨_, rfl, h⟩)
    · replace h := h.2 h7
      refine pM_aln rfl rfl rfl ?_
      refine pM_gr rfl rfl rfl rfl ?_
      refine pM_bi rfl kb_9 ?_
      refine pM_il rfl rfl ?_
      refine pM_sa rfl rfl row_p ?_
      refine pM_ic rfl ki_0 ?_
      refine pM_is rfl rfl ?_
      refine pM_w (F2 := [(0, .inr (.inl (some 190))), (1, .inl (.inl p1)), (2, .inl (.inl p2)), (3, .inl (.inl v3)), (4, .inl (.inl v4)), (5, .inl (.inl 0))]) (fun L hL => lo_cons (lo_lk hL rfl) (lo_cons (lo_lk hL rfl) (lo_cons (lo_lk hL rfl) (lo_cons (lo_lk hL rfl) (lo_cons (lo_lk hL rfl) (lo_cons (lo_lk hL rfl) lo_nil)))))) ?_
      refine q_m_span_58  (fun M11 h => ?_) N (Nat.le_refl N) 0 (wi M 191 (ni 9) v4) h
      · refine pM_aln rfl rfl rfl ?_
        refine pM_gr rfl rfl rfl rfl ?_
        refine pM_ic rfl ki_3 ?_
        refine pM_ai rfl rfl row_p ?_
        refine pM_aln rfl rfl rfl ?_
        refine pM_gr rfl rfl rfl rfl ?_
        refine pM_ic rfl ki_3 ?_
        refine pM_ai rfl rfl row_p ?_
        refine pM_sub rfl ?_
        refine pM_is rfl rfl ?_
        refine pM_aln rfl rfl rfl ?_
        refine pM_qRu (as := [.inr (.inl (some 190))]) (T := []) rfl rfl (fun C hC => cl_v hC rfl rfl rfl rfl) rfl (q_m_bringsBack  h) (fun M13 h => ?_)
        refine pM_iln rfl rfl ?_
        refine pM_zge rfl rfl (fun h14 => ?_) (fun h14 => ?_)
        · replace h := h.2 h14
          refine pM_iln rfl rfl ?_
          refine pM_zeq rfl rfl (fun h15 => ?_) (fun h15 => ?_)
          · replace h := h.1 h15
            refine pM_iln rfl rfl ?_
            refine pM_il rfl rfl ?_
            refine pM_mn rfl rfl ?_
            refine pM_isn rfl rfl ?_
            refine pM_ii rfl rfl rfl ki_1 ?_
            refine pM_go rfl rfl ?_
            refine pM_w (F2 := [(0, .inr (.inl (some 190))), (1, .inl (.inl p1)), (2, .inl (.inl p2)), (3, .inl (.inl (mn v3 ((M11.1 191 (ni 3)) - (M11.1 194 (ni 3)))))), (4, .inl (.inl (v4 + 1)))]) (fun L hL => lo_cons (lo_lk hL rfl) (lo_cons (lo_lk hL rfl) (lo_cons (lo_lk hL rfl) (lo_cons (lo_lk hL rfl) (lo_cons (lo_lk hL rfl) lo_nil))))) ?_
            exact IH hN (mn v3 ((M11.1 191 (ni 3)) - (M11.1 194 (ni 3)))) (v4 + 1) M13 h
          · replace h := h.2 h15
            refine pM_iln rfl rfl ?_
            refine pM_il rfl rfl ?_
            refine pM_mx rfl rfl ?_
            refine pM_go rfl rfl ?_
            refine pM_isn rfl rfl ?_
            refine pM_ii rfl rfl rfl ki_1 ?_
            refine pM_go rfl rfl ?_
            refine pM_w (F2 := [(0, .inr (.inl (some 190))), (1, .inl (.inl p1)), (2, .inl (.inl p2)), (3, .inl (.inl (mx v3 ((M11.1 191 (ni 3)) - (M11.1 194 (ni 3)))))), (4, .inl (.inl (v4 + 1)))]) (fun L hL => lo_cons (lo_lk hL rfl) (lo_cons (lo_lk hL rfl) (lo_cons (lo_lk hL rfl) (lo_cons (lo_lk hL rfl) (lo_cons (lo_lk hL rfl) lo_nil))))) ?_
            exact IH hN (mx v3 ((M11.1 191 (ni 3)) - (M11.1 194 (ni 3)))) (v4 + 1) M13 h
        · replace h := h.1 h14
          refine pM_il rfl rfl ?_
          refine pM_go rfl rfl ?_
          refine pM_isn rfl rfl ?_
          refine pM_ii rfl rfl rfl ki_1 ?_
          refine pM_go rfl rfl ?_
          refine pM_w (F2 := [(0, .inr (.inl (some 190))), (1, .inl (.inl p1)), (2, .inl (.inl p2)), (3, .inl (.inl ((M11.1 191 (ni 3)) - (M11.1 194 (ni 3))))), (4, .inl (.inl (v4 + 1)))]) (fun L hL => lo_cons (lo_lk hL rfl) (lo_cons (lo_lk hL rfl) (lo_cons (lo_lk hL rfl) (lo_cons (lo_lk hL rfl) (lo_cons (lo_lk hL rfl) lo_nil))))) ?_
          exact IH hN ((M11.1 191 (ni 3)) - (M11.1 194 (ni 3))) (v4 + 1) M13 h
/-- 307: EarCodeModel.span(IZ)I -/
def W_m_span (p1 : Int32) (p2 : Int32) (N : Nat) (M : MM) (Q : Int32 → MM → Prop) : Prop :=
  (((V_m_in p1 0 40 (wi M 190 0 0)) = 0 →
    W_m_throwsIf 1 1 N (wi M 190 0 0) (fun r2 M3 =>
      ((r2 = 0 →
        W_m_keepsAll  N M3 (fun M6 =>
          W_m_span_39 p1 p2 Q N (-1) 1 M6)) ∧
       (¬ r2 = 0 →
        Q 0 M3)))) ∧
   (¬ (V_m_in p1 0 40 (wi M 190 0 0)) = 0 →
    W_m_throwsIf 0 1 N (wi M 190 0 0) (fun r16 M17 =>
      ((r16 = 0 →
        W_m_keepsAll  N M17 (fun M20 =>
          W_m_span_39 p1 p2 Q N (-1) 1 M20)) ∧
       (¬ r16 = 0 →
        Q 0 M17)))))
theorem q_m_span {X : Option (List AI)} {N : Nat} {M : MM} {p1 : Int32} {p2 : Int32} {Q : Int32 → MM → Prop}  (h : W_m_span p1 p2 N M Q) : pM X N 307 0 (ea_ar 0 [.inr (.inl (some 190)), .inl (.inl p1), .inl (.inl p2)]) [] M (Ri Q) := by
  refine pM_w (F2 := [(0, .inr (.inl (some 190))), (1, .inl (.inl p1)), (2, .inl (.inl p2))]) (fun L hL => lo_cons (lo_lk hL rfl) (lo_cons (lo_lk hL rfl) (lo_cons (lo_lk hL rfl) lo_nil))) ?_
  refine pM_aln rfl rfl rfl ?_
  refine pM_ic rfl ki_0 ?_
  refine pM_pi rfl rfl rfl rfl ?_
  refine pM_aln rfl rfl rfl ?_
  refine pM_iln rfl rfl ?_
  refine pM_ic rfl ki_0 ?_
  refine pM_bi rfl kb_40 ?_
  refine pM_qVi (as := [.inl (.inl p1), .inl (.inl 0), .inl (.inl 40)]) (T := [.inr (.inl (some 190))]) rfl rfl (fun _ _ => rfl) rfl (q_m_in ) ?_
  refine pM_zne rfl rfl (fun h1 => ?_) (fun h1 => ?_)
  · replace h := h.2 h1
    refine pM_ic rfl ki_0 ?_
    refine pM_ic rfl ki_1 ?_
    refine pM_qRi (as := [.inr (.inl (some 190)), .inl (.inl 0), .inl (.inl 1)]) (T := []) rfl rfl (fun C hC => cl_v hC rfl rfl rfl rfl) rfl (q_m_throwsIf  h) (fun r16 M17 h => ?_)
    refine pM_zeq rfl rfl (fun h18 => ?_) (fun h18 => ?_)
    · replace h := h.1 h18
      refine pM_aln rfl rfl rfl ?_
      refine pM_qRu (as := [.inr (.inl (some 190))]) (T := []) rfl rfl (fun C hC => cl_v hC rfl rfl rfl rfl) rfl (q_m_keepsAll  h) (fun M20 h => ?_)
      refine pM_ic rfl ki_m1 ?_
      refine pM_isn rfl rfl ?_
      refine pM_ic rfl ki_1 ?_
      refine pM_is rfl rfl ?_
      refine pM_w (F2 := [(0, .inr (.inl (some 190))), (1, .inl (.inl p1)), (2, .inl (.inl p2)), (3, .inl (.inl (-1))), (4, .inl (.inl 1))]) (fun L hL => lo_cons (lo_lk hL rfl) (lo_cons (lo_lk hL rfl) (lo_cons (lo_lk hL rfl) (lo_cons (lo_lk hL rfl) (lo_cons (lo_lk hL rfl) lo_nil))))) ?_
      refine q_m_span_39   N (Nat.le_refl N) (-1) 1 M20 h
    · replace h := h.2 h18
      refine pM_ic rfl ki_0 ?_
      exact pM_ri rfl (⟨_, rfl, h⟩)
  · replace h := h.1 h1
    refine pM_ic rfl ki_1 ?_
    refine pM_go rfl rfl ?_
    refine pM_ic rfl ki_1 ?_
    refine pM_qRi (as := [.inr (.inl (some 190)), .inl (.inl 1), .inl (.inl 1)]) (T := []) rfl rfl (fun C hC => cl_v hC rfl rfl rfl rfl) rfl (q_m_throwsIf  h) (fun r2 M3 h => ?_)
    refine pM_zeq rfl rfl (fun h4 => ?_) (fun h4 => ?_)
    · replace h := h.1 h4
      refine pM_aln rfl rfl rfl ?_
      refine pM_qRu (as := [.inr (.inl (some 190))]) (T := []) rfl rfl (fun C hC => cl_v hC rfl rfl rfl rfl) rfl (q_m_keepsAll  h) (fun M6 h => ?_)
      refine pM_ic rfl ki_m1 ?_
      refine pM_isn rfl rfl ?_
      refine pM_ic rfl ki_1 ?_
      refine pM_is rfl rfl ?_
      refine pM_w (F2 := [(0, .inr (.inl (some 190))), (1, .inl (.inl p1)), (2, .inl (.inl p2)), (3, .inl (.inl (-1))), (4, .inl (.inl 1))]) (fun L hL => lo_cons (lo_lk hL rfl) (lo_cons (lo_lk hL rfl) (lo_cons (lo_lk hL rfl) (lo_cons (lo_lk hL rfl) (lo_cons (lo_lk hL rfl) lo_nil))))) ?_
      refine q_m_span_39   N (Nat.le_refl N) (-1) 1 M6 h
    · replace h := h.2 h4
      refine pM_ic rfl ki_0 ?_
      exact pM_ri rfl (⟨_, rfl, h⟩)
def B_m_first_11 (k42 : Int32 → MM → Prop) (Q : Int32 → MM → Prop) (N : Nat) (ih : Int32 → MM → Prop) (v1 : Int32) (M : MM) : Prop :=
  ((v1 < 40 →
    (((M.1 191 (ni 3)) = (M.1 194 (ni 3)) →
      W_m_oneDay  N M (fun M6 =>
        ih (v1 + 1) M6)) ∧
     (¬ (M.1 191 (ni 3)) = (M.1 194 (ni 3)) →
      k42 v1 M))) ∧
   (¬ v1 < 40 →
    k42 v1 M))
def W_m_first_11 (k42 : Int32 → MM → Prop) (Q : Int32 → MM → Prop) : Nat → Int32 → MM → Prop
  | 0, _, _ => True
  | N + 1, v1, M => B_m_first_11 k42 Q N (W_m_first_11 k42 Q N) v1 M
theorem I_m_first_11 (k42 : Int32 → MM → Prop) (Q : Int32 → MM → Prop) (inv : Int32 → MM → Prop) (hs : ∀ (N : Nat) (ih : Int32 → MM → Prop) (v1 : Int32) (M : MM), (∀ (v1 : Int32) (M : MM), inv v1 M → ih v1 M) → inv v1 M → B_m_first_11 k42 Q N ih v1 M) : ∀ (N : Nat) (v1 : Int32) (M : MM), inv v1 M → W_m_first_11 k42 Q N v1 M := by
  intro N
  induction N with
  | zero => intros; trivial
  | succ N IH =>
    intro v1 M h
    exact hs N _ v1 M IH h
theorem q_m_first_11 {X : Option (List AI)} {N0 : Nat} {k42 : Int32 → MM → Prop} {Q : Int32 → MM → Prop}  (hk42 : ∀ (v1 : Int32) (M : MM), k42 v1 M → pM X N0 308 42 [(0, .inr (.inl (some 190))), (1, .inl (.inl v1))] [] M (Ri Q)) : ∀ (N : Nat), N ≤ N0 → ∀ (v1 : Int32) (M : MM), W_m_first_11 k42 Q N v1 M → pM X N 308 11 [(0, .inr (.inl (some 190))), (1, .inl (.inl v1))] [] M (Ri Q) := by
  intro N
  induction N with
  | zero => intros; exact pM_zero
  | succ N IH =>
    intro hN v1 M h
    replace hN := Nat.le_of_succ_le hN
    replace h : B_m_first_11 k42 Q N (W_m_first_11 k42 Q N) v1 M := h
    refine pM_s (pMs_iln rfl rfl ?_)
    refine pM_bi rfl kb_40 ?_
    refine pM_cge rfl rfl (fun h3 => ?_) (fun h3 => ?_)
    · replace h := h.2 h3
      refine pM_w (F2 := [(0, .inr (.inl (some 190))), (1, .inl (.inl v1))]) (fun L hL => lo_cons (lo_lk hL rfl) (lo_cons (lo_lk hL rfl) lo_nil)) ?_
      exact pM_le hN (hk42 _ _ h)
    · replace h := h.1 h3
      refine pM_aln rfl rfl rfl ?_
      refine pM_gr rfl rfl rfl rfl ?_
      refine pM_ic rfl ki_3 ?_
      refine pM_ai rfl rfl row_p ?_
      refine pM_aln rfl rfl rfl ?_
      refine pM_gr rfl rfl rfl rfl ?_
      refine pM_ic rfl ki_3 ?_
      refine pM_ai rfl rfl row_p ?_
      refine pM_cne rfl rfl (fun h4 => ?_) (fun h4 => ?_)
      · replace h := h.2 h4
        refine pM_w (F2 := [(0, .inr (.inl (some 190))), (1, .inl (.inl v1))]) (fun L hL => lo_cons (lo_lk hL rfl) (lo_cons (lo_lk hL rfl) lo_nil)) ?_
        exact pM_le hN (hk42 _ _ h)
      · replace h := h.1 h4
        refine pM_aln rfl rfl rfl ?_
        refine pM_qRu (as := [.inr (.inl (some 190))]) (T := []) rfl rfl (fun C hC => cl_v hC rfl rfl rfl rfl) rfl (q_m_oneDay  h) (fun M6 h => ?_)
        refine pM_ii rfl rfl rfl ki_1 ?_
        refine pM_go rfl rfl ?_
        refine pM_w (F2 := [(0, .inr (.inl (some 190))), (1, .inl (.inl (v1 + 1)))]) (fun L hL => lo_cons (lo_lk hL rfl) (lo_cons (lo_lk hL rfl) lo_nil)) ?_
        exact IH hN (v1 + 1) M6 h
/-- 308: EarCodeModel.first()I -/
def W_m_first  (N : Nat) (M : MM) (Q : Int32 → MM → Prop) : Prop :=
  W_m_keepsAll  N (wi M 190 0 0) (fun M2 =>
    W_m_first_11 (fun x7 M8 =>
      (((M8.1 194 (ni 3)) < (M8.1 191 (ni 3)) →
        W_m_bringsBack  N M8 (fun M11 =>
          Q x7 M11)) ∧
       (¬ (M8.1 194 (ni 3)) < (M8.1 191 (ni 3)) →
        W_m_bringsBack  N M8 (fun M14 =>
          Q (-1) M14)))) Q N 0 M2)
theorem q_m_first {X : Option (List AI)} {N : Nat} {M : MM}  {Q : Int32 → MM → Prop}  (h : W_m_first  N M Q) : pM X N 308 0 (ea_ar 0 [.inr (.inl (some 190))]) [] M (Ri Q) := by
  refine pM_w (F2 := [(0, .inr (.inl (some 190)))]) (fun L hL => lo_cons (lo_lk hL rfl) lo_nil) ?_
  refine pM_aln rfl rfl rfl ?_
  refine pM_ic rfl ki_0 ?_
  refine pM_pi rfl rfl rfl rfl ?_
  refine pM_aln rfl rfl rfl ?_
  refine pM_qRu (as := [.inr (.inl (some 190))]) (T := []) rfl rfl (fun C hC => cl_v hC rfl rfl rfl rfl) rfl (q_m_keepsAll  h) (fun M2 h => ?_)
  refine pM_ic rfl ki_0 ?_
  refine pM_isn rfl rfl ?_
  refine pM_w (F2 := [(0, .inr (.inl (some 190))), (1, .inl (.inl 0))]) (fun L hL => lo_cons (lo_lk hL rfl) (lo_cons (lo_lk hL rfl) lo_nil)) ?_
  refine q_m_first_11  (fun x7 M8 h => ?_) N (Nat.le_refl N) 0 M2 h
  · refine pM_aln rfl rfl rfl ?_
    refine pM_gr rfl rfl rfl rfl ?_
    refine pM_ic rfl ki_3 ?_
    refine pM_ai rfl rfl row_p ?_
    refine pM_aln rfl rfl rfl ?_
    refine pM_gr rfl rfl rfl rfl ?_
    refine pM_ic rfl ki_3 ?_
    refine pM_ai rfl rfl row_p ?_
    refine pM_cle rfl rfl (fun h9 => ?_) (fun h9 => ?_)
    · replace h := h.2 h9
      refine pM_ic rfl ki_0 ?_
      refine pM_isn rfl rfl ?_
      refine pM_aln rfl rfl rfl ?_
      refine pM_qRu (as := [.inr (.inl (some 190))]) (T := []) rfl rfl (fun C hC => cl_v hC rfl rfl rfl rfl) rfl (q_m_bringsBack  h) (fun M14 h => ?_)
      refine pM_iln rfl rfl ?_
      refine pM_zeq rfl rfl (fun h15 => ?_) (fun h15 => ?_)
      · refine pM_ic rfl ki_m1 ?_
        exact pM_ri rfl (⟨_, rfl, h⟩)
      · exact absurd (by decide) h15
    · replace h := h.1 h9
      refine pM_ic rfl ki_1 ?_
      refine pM_go rfl rfl ?_
      refine pM_isn rfl rfl ?_
      refine pM_aln rfl rfl rfl ?_
      refine pM_qRu (as := [.inr (.inl (some 190))]) (T := []) rfl rfl (fun C hC => cl_v hC rfl rfl rfl rfl) rfl (q_m_bringsBack  h) (fun M11 h => ?_)
      refine pM_iln rfl rfl ?_
      refine pM_zeq rfl rfl (fun h12 => ?_) (fun h12 => ?_)
      · exact absurd h12 (by decide)
      · refine pM_iln rfl rfl ?_
        refine pM_go rfl rfl ?_
        exact pM_ri rfl (⟨_, rfl, h⟩)
/-- 309: EarCodeModel.ofLog(II)I -/
def V_m_ofLog (p1 : Int32) (p2 : Int32) (M : MM) : Int32 :=
  (M.1 191 (ni ((148 + (4 * p1)) + p2)))
theorem q_m_ofLog {X : Option (List AI)} {N : Nat} {M : MM} {p1 : Int32} {p2 : Int32}  : pM X N 309 0 (ea_ar 0 [.inr (.inl (some 190)), .inl (.inl p1), .inl (.inl p2)]) [] M (Vi (V_m_ofLog p1 p2 M) M) := by
  refine pM_w (F2 := [(0, .inr (.inl (some 190))), (1, .inl (.inl p1)), (2, .inl (.inl p2))]) (fun L hL => lo_cons (lo_lk hL rfl) (lo_cons (lo_lk hL rfl) (lo_cons (lo_lk hL rfl) lo_nil))) ?_
  refine pM_aln rfl rfl rfl ?_
  refine pM_gr rfl rfl rfl rfl ?_
  refine pM_si rfl ks_148 ?_
  refine pM_ic rfl ki_4 ?_
  refine pM_iln rfl rfl ?_
  refine pM_mul rfl ?_
  refine pM_add rfl ?_
  refine pM_iln rfl rfl ?_
  refine pM_add rfl ?_
  refine pM_ai rfl rfl row_p ?_
  exact pM_rVi rfl (rfl)
def B_m_led_37 (p1 : Int32) (M : MM) (Q : Int32 → MM → Prop) (N : Nat) (ih : Int32 → Int32 → Prop) (v2 : Int32) (v3 : Int32) : Prop :=
  ((v3 < (M.1 191 (ni 6)) →
    ((p1 = (-1) →
      ih (v2 ||| (sl 1 (V_m_ofLog v3 3 M))) (v3 + 1)) ∧
     (¬ p1 = (-1) →
      (((V_m_ofLog v3 1 M) = p1 →
        ih (v2 ||| (sl 1 (V_m_ofLog v3 3 M))) (v3 + 1)) ∧
       (¬ (V_m_ofLog v3 1 M) = p1 →
        ih (v2 ||| 0) (v3 + 1)))))) ∧
   (¬ v3 < (M.1 191 (ni 6)) →
    Q v2 M))
def W_m_led_37 (p1 : Int32) (M : MM) (Q : Int32 → MM → Prop) : Nat → Int32 → Int32 → Prop
  | 0, _, _ => True
  | N + 1, v2, v3 => B_m_led_37 p1 M Q N (W_m_led_37 p1 M Q N) v2 v3
theorem I_m_led_37 (p1 : Int32) (M : MM) (Q : Int32 → MM → Prop) (inv : Int32 → Int32 → Prop) (hs : ∀ (N : Nat) (ih : Int32 → Int32 → Prop) (v2 : Int32) (v3 : Int32), (∀ (v2 : Int32) (v3 : Int32), inv v2 v3 → ih v2 v3) → inv v2 v3 → B_m_led_37 p1 M Q N ih v2 v3) : ∀ (N : Nat) (v2 : Int32) (v3 : Int32), inv v2 v3 → W_m_led_37 p1 M Q N v2 v3 := by
  intro N
  induction N with
  | zero => intros; trivial
  | succ N IH =>
    intro v2 v3 h
    exact hs N _ v2 v3 IH h
theorem q_m_led_37 {X : Option (List AI)} {N0 : Nat} {p1 : Int32} {M : MM} {Q : Int32 → MM → Prop}   : ∀ (N : Nat), N ≤ N0 → ∀ (v2 : Int32) (v3 : Int32), W_m_led_37 p1 M Q N v2 v3 → pM X N 310 37 [(0, .inr (.inl (some 190))), (1, .inl (.inl p1)), (2, .inl (.inl v2)), (3, .inl (.inl v3))] [] M (Ri Q) := by
  intro N
  induction N with
  | zero => intros; exact pM_zero
  | succ N IH =>
    intro hN v2 v3 h
    replace hN := Nat.le_of_succ_le hN
    replace h : B_m_led_37 p1 M Q N (W_m_led_37 p1 M Q N) v2 v3 := h
    refine pM_s (pMs_iln rfl rfl ?_)
    refine pM_aln rfl rfl rfl ?_
    refine pM_gr rfl rfl rfl rfl ?_
    refine pM_bi rfl kb_6 ?_
    refine pM_ai rfl rfl row_p ?_
    refine pM_cge rfl rfl (fun h5 => ?_) (fun h5 => ?_)
    · replace h := h.2 h5
      refine pM_iln rfl rfl ?_
      exact pM_ri rfl (⟨_, rfl, h⟩)
    · replace h := h.1 h5
      refine pM_iln rfl rfl ?_
      refine pM_iln rfl rfl ?_
      refine pM_ic rfl ki_m1 ?_
      refine pM_ceq rfl rfl (fun h6 => ?_) (fun h6 => ?_)
      · replace h := h.1 h6
        refine pM_ic rfl ki_1 ?_
        refine pM_aln rfl rfl rfl ?_
        refine pM_iln rfl rfl ?_
        refine pM_ic rfl ki_3 ?_
        refine pM_qVi (as := [.inr (.inl (some 190)), .inl (.inl v3), .inl (.inl 3)]) (T := [.inl (.inl 1), .inl (.inl v2)]) rfl rfl (fun C hC => cl_v hC rfl rfl rfl rfl) rfl (q_m_ofLog ) ?_
        refine pM_shl rfl ?_
        refine pM_go rfl rfl ?_
        refine pM_or rfl ?_
        refine pM_isn rfl rfl ?_
        refine pM_ii rfl rfl rfl ki_1 ?_
        refine pM_go rfl rfl ?_
        refine pM_w (F2 := [(0, .inr (.inl (some 190))), (1, .inl (.inl p1)), (2, .inl (.inl (v2 ||| (sl 1 (V_m_ofLog v3 3 M))))), (3, .inl (.inl (v3 + 1)))]) (fun L hL => lo_cons (lo_lk hL rfl) (lo_cons (lo_lk hL rfl) (lo_cons (lo_lk hL rfl) (lo_cons (lo_lk hL rfl) lo_nil)))) ?_
        exact IH hN (v2 ||| (sl 1 (V_m_ofLog v3 3 M))) (v3 + 1) h
      · replace h := h.2 h6
        refine pM_aln rfl rfl rfl ?_
        refine pM_iln rfl rfl ?_
        refine pM_ic rfl ki_1 ?_
        refine pM_qVi (as := [.inr (.inl (some 190)), .inl (.inl v3), .inl (.inl 1)]) (T := [.inl (.inl v2)]) rfl rfl (fun C hC => cl_v hC rfl rfl rfl rfl) rfl (q_m_ofLog ) ?_
        refine pM_iln rfl rfl ?_
        refine pM_cne rfl rfl (fun h7 => ?_) (fun h7 => ?_)
        · replace h := h.2 h7
          refine pM_ic rfl ki_0 ?_
          refine pM_or rfl ?_
          refine pM_isn rfl rfl ?_
          refine pM_ii rfl rfl rfl ki_1 ?_
          refine pM_go rfl rfl ?_
          refine pM_w (F2 := [(0, .inr (.inl (some 190))), (1, .inl (.inl p1)), (2, .inl (.inl (v2 ||| 0))), (3, .inl (.inl (v3 + 1)))]) (fun L hL => lo_cons (lo_lk hL rfl) (lo_cons (lo_lk hL rfl) (lo_cons (lo_lk hL rfl) (lo_cons (lo_lk hL rfl) lo_nil)))) ?_
          exact IH hN (v2 ||| 0) (v3 + 1) h
        · replace h := h.1 h7
          refine pM_ic rfl ki_1 ?_
          refine pM_aln rfl rfl rfl ?_
          refine pM_iln rfl rfl ?_
          refine pM_ic rfl ki_3 ?_
          refine pM_qVi (as := [.inr (.inl (some 190)), .inl (.inl v3), .inl (.inl 3)]) (T := [.inl (.inl 1), .inl (.inl v2)]) rfl rfl (fun C hC => cl_v hC rfl rfl rfl rfl) rfl (q_m_ofLog ) ?_
          refine pM_shl rfl ?_
          refine pM_go rfl rfl ?_
          refine pM_or rfl ?_
          refine pM_isn rfl rfl ?_
          refine pM_ii rfl rfl rfl ki_1 ?_
          refine pM_go rfl rfl ?_
          refine pM_w (F2 := [(0, .inr (.inl (some 190))), (1, .inl (.inl p1)), (2, .inl (.inl (v2 ||| (sl 1 (V_m_ofLog v3 3 M))))), (3, .inl (.inl (v3 + 1)))]) (fun L hL => lo_cons (lo_lk hL rfl) (lo_cons (lo_lk hL rfl) (lo_cons (lo_lk hL rfl) (lo_cons (lo_lk hL rfl) lo_nil)))) ?_
          exact IH hN (v2 ||| (sl 1 (V_m_ofLog v3 3 M))) (v3 + 1) h
/-- 310: EarCodeModel.led(I)I -/
def W_m_led (p1 : Int32) (N : Nat) (M : MM) (Q : Int32 → MM → Prop) : Prop :=
  ((p1 = (-1) →
    W_m_throwsIf 0 1 N (wi M 190 0 0) (fun r2 M3 =>
      ((r2 = 0 →
        W_m_led_37 p1 M3 Q N 0 0) ∧
       (¬ r2 = 0 →
        Q 0 M3)))) ∧
   (¬ p1 = (-1) →
    (((V_m_noCitizen p1 (wi M 190 0 0)) = 0 →
      W_m_throwsIf 0 1 N (wi M 190 0 0) (fun r9 M10 =>
        ((r9 = 0 →
          W_m_led_37 p1 M10 Q N 0 0) ∧
         (¬ r9 = 0 →
          Q 0 M10)))) ∧
     (¬ (V_m_noCitizen p1 (wi M 190 0 0)) = 0 →
      W_m_throwsIf 1 1 N (wi M 190 0 0) (fun r12 M13 =>
        ((r12 = 0 →
          W_m_led_37 p1 M13 Q N 0 0) ∧
         (¬ r12 = 0 →
          Q 0 M13)))))))
theorem q_m_led {X : Option (List AI)} {N : Nat} {M : MM} {p1 : Int32} {Q : Int32 → MM → Prop}  (h : W_m_led p1 N M Q) : pM X N 310 0 (ea_ar 0 [.inr (.inl (some 190)), .inl (.inl p1)]) [] M (Ri Q) := by
  refine pM_w (F2 := [(0, .inr (.inl (some 190))), (1, .inl (.inl p1))]) (fun L hL => lo_cons (lo_lk hL rfl) (lo_cons (lo_lk hL rfl) lo_nil)) ?_
  refine pM_aln rfl rfl rfl ?_
  refine pM_ic rfl ki_0 ?_
  refine pM_pi rfl rfl rfl rfl ?_
  refine pM_aln rfl rfl rfl ?_
  refine pM_iln rfl rfl ?_
  refine pM_ic rfl ki_m1 ?_
  refine pM_ceq rfl rfl (fun h1 => ?_) (fun h1 => ?_)
  · replace h := h.1 h1
    refine pM_ic rfl ki_0 ?_
    refine pM_ic rfl ki_1 ?_
    refine pM_qRi (as := [.inr (.inl (some 190)), .inl (.inl 0), .inl (.inl 1)]) (T := []) rfl rfl (fun C hC => cl_v hC rfl rfl rfl rfl) rfl (q_m_throwsIf  h) (fun r2 M3 h => ?_)
    refine pM_zeq rfl rfl (fun h4 => ?_) (fun h4 => ?_)
    · replace h := h.1 h4
      refine pM_ic rfl ki_0 ?_
      refine pM_isn rfl rfl ?_
      refine pM_ic rfl ki_0 ?_
      refine pM_isn rfl rfl ?_
      refine pM_w (F2 := [(0, .inr (.inl (some 190))), (1, .inl (.inl p1)), (2, .inl (.inl 0)), (3, .inl (.inl 0))]) (fun L hL => lo_cons (lo_lk hL rfl) (lo_cons (lo_lk hL rfl) (lo_cons (lo_lk hL rfl) (lo_cons (lo_lk hL rfl) lo_nil)))) ?_
      refine q_m_led_37   N (Nat.le_refl N) 0 0 h
    · replace h := h.2 h4
      refine pM_ic rfl ki_0 ?_
      exact pM_ri rfl (⟨_, rfl, h⟩)
  · replace h := h.2 h1
    refine pM_aln rfl rfl rfl ?_
    refine pM_iln rfl rfl ?_
    refine pM_qVi (as := [.inr (.inl (some 190)), .inl (.inl p1)]) (T := [.inr (.inl (some 190))]) rfl rfl (fun C hC => cl_v hC rfl rfl rfl rfl) rfl (q_m_noCitizen ) ?_
    refine pM_zeq rfl rfl (fun h8 => ?_) (fun h8 => ?_)
    · replace h := h.1 h8
      refine pM_ic rfl ki_0 ?_
      refine pM_ic rfl ki_1 ?_
      refine pM_qRi (as := [.inr (.inl (some 190)), .inl (.inl 0), .inl (.inl 1)]) (T := []) rfl rfl (fun C hC => cl_v hC rfl rfl rfl rfl) rfl (q_m_throwsIf  h) (fun r9 M10 h => ?_)
      refine pM_zeq rfl rfl (fun h11 => ?_) (fun h11 => ?_)
      · replace h := h.1 h11
        refine pM_ic rfl ki_0 ?_
        refine pM_isn rfl rfl ?_
        refine pM_ic rfl ki_0 ?_
        refine pM_isn rfl rfl ?_
        refine pM_w (F2 := [(0, .inr (.inl (some 190))), (1, .inl (.inl p1)), (2, .inl (.inl 0)), (3, .inl (.inl 0))]) (fun L hL => lo_cons (lo_lk hL rfl) (lo_cons (lo_lk hL rfl) (lo_cons (lo_lk hL rfl) (lo_cons (lo_lk hL rfl) lo_nil)))) ?_
        refine q_m_led_37   N (Nat.le_refl N) 0 0 h
      · replace h := h.2 h11
        refine pM_ic rfl ki_0 ?_
        exact pM_ri rfl (⟨_, rfl, h⟩)
    · replace h := h.2 h8
      refine pM_ic rfl ki_1 ?_
      refine pM_go rfl rfl ?_
      refine pM_ic rfl ki_1 ?_
      refine pM_qRi (as := [.inr (.inl (some 190)), .inl (.inl 1), .inl (.inl 1)]) (T := []) rfl rfl (fun C hC => cl_v hC rfl rfl rfl rfl) rfl (q_m_throwsIf  h) (fun r12 M13 h => ?_)
      refine pM_zeq rfl rfl (fun h14 => ?_) (fun h14 => ?_)
      · replace h := h.1 h14
        refine pM_ic rfl ki_0 ?_
        refine pM_isn rfl rfl ?_
        refine pM_ic rfl ki_0 ?_
        refine pM_isn rfl rfl ?_
        refine pM_w (F2 := [(0, .inr (.inl (some 190))), (1, .inl (.inl p1)), (2, .inl (.inl 0)), (3, .inl (.inl 0))]) (fun L hL => lo_cons (lo_lk hL rfl) (lo_cons (lo_lk hL rfl) (lo_cons (lo_lk hL rfl) (lo_cons (lo_lk hL rfl) lo_nil)))) ?_
        refine q_m_led_37   N (Nat.le_refl N) 0 0 h
      · replace h := h.2 h14
        refine pM_ic rfl ki_0 ?_
        exact pM_ri rfl (⟨_, rfl, h⟩)
def B_m_takenFor_4 (p1 : Int32) (M : MM) (Q : Int32 → Prop) (N : Nat) (ih : Int32 → Int32 → Prop) (v2 : Int32) (v3 : Int32) : Prop :=
  ((v3 < (M.1 191 (ni 6)) →
    (((V_m_ofLog v3 3 M) = p1 →
      ih (v2 + 1) (v3 + 1)) ∧
     (¬ (V_m_ofLog v3 3 M) = p1 →
      ih (v2 + 0) (v3 + 1)))) ∧
   (¬ v3 < (M.1 191 (ni 6)) →
    Q v2))
def W_m_takenFor_4 (p1 : Int32) (M : MM) (Q : Int32 → Prop) : Nat → Int32 → Int32 → Prop
  | 0, _, _ => True
  | N + 1, v2, v3 => B_m_takenFor_4 p1 M Q N (W_m_takenFor_4 p1 M Q N) v2 v3
theorem I_m_takenFor_4 (p1 : Int32) (M : MM) (Q : Int32 → Prop) (inv : Int32 → Int32 → Prop) (hs : ∀ (N : Nat) (ih : Int32 → Int32 → Prop) (v2 : Int32) (v3 : Int32), (∀ (v2 : Int32) (v3 : Int32), inv v2 v3 → ih v2 v3) → inv v2 v3 → B_m_takenFor_4 p1 M Q N ih v2 v3) : ∀ (N : Nat) (v2 : Int32) (v3 : Int32), inv v2 v3 → W_m_takenFor_4 p1 M Q N v2 v3 := by
  intro N
  induction N with
  | zero => intros; trivial
  | succ N IH =>
    intro v2 v3 h
    exact hs N _ v2 v3 IH h
theorem q_m_takenFor_4 {X : Option (List AI)} {N0 : Nat} {p1 : Int32} {M : MM} {Q : Int32 → Prop}   : ∀ (N : Nat), N ≤ N0 → ∀ (v2 : Int32) (v3 : Int32), W_m_takenFor_4 p1 M Q N v2 v3 → pM X N 311 4 [(0, .inr (.inl (some 190))), (1, .inl (.inl p1)), (2, .inl (.inl v2)), (3, .inl (.inl v3))] [] M (Pi Q M) := by
  intro N
  induction N with
  | zero => intros; exact pM_zero
  | succ N IH =>
    intro hN v2 v3 h
    replace hN := Nat.le_of_succ_le hN
    replace h : B_m_takenFor_4 p1 M Q N (W_m_takenFor_4 p1 M Q N) v2 v3 := h
    refine pM_s (pMs_iln rfl rfl ?_)
    refine pM_aln rfl rfl rfl ?_
    refine pM_gr rfl rfl rfl rfl ?_
    refine pM_bi rfl kb_6 ?_
    refine pM_ai rfl rfl row_p ?_
    refine pM_cge rfl rfl (fun h1 => ?_) (fun h1 => ?_)
    · replace h := h.2 h1
      refine pM_iln rfl rfl ?_
      exact pM_ri rfl (⟨_, rfl, rfl, h⟩)
    · replace h := h.1 h1
      refine pM_iln rfl rfl ?_
      refine pM_aln rfl rfl rfl ?_
      refine pM_iln rfl rfl ?_
      refine pM_ic rfl ki_3 ?_
      refine pM_qVi (as := [.inr (.inl (some 190)), .inl (.inl v3), .inl (.inl 3)]) (T := [.inl (.inl v2)]) rfl rfl (fun C hC => cl_v hC rfl rfl rfl rfl) rfl (q_m_ofLog ) ?_
      refine pM_iln rfl rfl ?_
      refine pM_cne rfl rfl (fun h2 => ?_) (fun h2 => ?_)
      · replace h := h.2 h2
        refine pM_ic rfl ki_0 ?_
        refine pM_add rfl ?_
        refine pM_isn rfl rfl ?_
        refine pM_ii rfl rfl rfl ki_1 ?_
        refine pM_go rfl rfl ?_
        refine pM_w (F2 := [(0, .inr (.inl (some 190))), (1, .inl (.inl p1)), (2, .inl (.inl (v2 + 0))), (3, .inl (.inl (v3 + 1)))]) (fun L hL => lo_cons (lo_lk hL rfl) (lo_cons (lo_lk hL rfl) (lo_cons (lo_lk hL rfl) (lo_cons (lo_lk hL rfl) lo_nil)))) ?_
        exact IH hN (v2 + 0) (v3 + 1) h
      · replace h := h.1 h2
        refine pM_ic rfl ki_1 ?_
        refine pM_go rfl rfl ?_
        refine pM_add rfl ?_
        refine pM_isn rfl rfl ?_
        refine pM_ii rfl rfl rfl ki_1 ?_
        refine pM_go rfl rfl ?_
        refine pM_w (F2 := [(0, .inr (.inl (some 190))), (1, .inl (.inl p1)), (2, .inl (.inl (v2 + 1))), (3, .inl (.inl (v3 + 1)))]) (fun L hL => lo_cons (lo_lk hL rfl) (lo_cons (lo_lk hL rfl) (lo_cons (lo_lk hL rfl) (lo_cons (lo_lk hL rfl) lo_nil)))) ?_
        exact IH hN (v2 + 1) (v3 + 1) h
/-- 311: EarCodeModel.takenFor(I)I -/
def W_m_takenFor (p1 : Int32) (N : Nat) (M : MM) (Q : Int32 → Prop) : Prop :=
  W_m_takenFor_4 p1 M Q N 0 0
theorem q_m_takenFor {X : Option (List AI)} {N : Nat} {M : MM} {p1 : Int32} {Q : Int32 → Prop}  (h : W_m_takenFor p1 N M Q) : pM X N 311 0 (ea_ar 0 [.inr (.inl (some 190)), .inl (.inl p1)]) [] M (Pi Q M) := by
  refine pM_w (F2 := [(0, .inr (.inl (some 190))), (1, .inl (.inl p1))]) (fun L hL => lo_cons (lo_lk hL rfl) (lo_cons (lo_lk hL rfl) lo_nil)) ?_
  refine pM_ic rfl ki_0 ?_
  refine pM_isn rfl rfl ?_
  refine pM_ic rfl ki_0 ?_
  refine pM_isn rfl rfl ?_
  refine pM_w (F2 := [(0, .inr (.inl (some 190))), (1, .inl (.inl p1)), (2, .inl (.inl 0)), (3, .inl (.inl 0))]) (fun L hL => lo_cons (lo_lk hL rfl) (lo_cons (lo_lk hL rfl) (lo_cons (lo_lk hL rfl) (lo_cons (lo_lk hL rfl) lo_nil)))) ?_
  refine q_m_takenFor_4   N (Nat.le_refl N) 0 0 h
def B_m_worst_9 (M : MM) (Q : Int32 → MM → Prop) (N : Nat) (ih : Int32 → Int32 → Prop) (v1 : Int32) (v2 : Int32) : Prop :=
  ((v2 < (V_m_clauses  M) →
    W_m_takenFor v2 N M (fun r2 =>
      ((0 < r2 →
        ((v1 < 0 →
          ih v2 (v2 + 1)) ∧
         (¬ v1 < 0 →
          W_m_takenFor v2 N M (fun r6 =>
            W_m_takenFor v1 N M (fun r8 =>
              ((r8 < r6 →
                ih v2 (v2 + 1)) ∧
               (¬ r8 < r6 →
                ih v1 (v2 + 1)))))))) ∧
       (¬ 0 < r2 →
        ih v1 (v2 + 1))))) ∧
   (¬ v2 < (V_m_clauses  M) →
    Q v1 M))
def W_m_worst_9 (M : MM) (Q : Int32 → MM → Prop) : Nat → Int32 → Int32 → Prop
  | 0, _, _ => True
  | N + 1, v1, v2 => B_m_worst_9 M Q N (W_m_worst_9 M Q N) v1 v2
theorem I_m_worst_9 (M : MM) (Q : Int32 → MM → Prop) (inv : Int32 → Int32 → Prop) (hs : ∀ (N : Nat) (ih : Int32 → Int32 → Prop) (v1 : Int32) (v2 : Int32), (∀ (v1 : Int32) (v2 : Int32), inv v1 v2 → ih v1 v2) → inv v1 v2 → B_m_worst_9 M Q N ih v1 v2) : ∀ (N : Nat) (v1 : Int32) (v2 : Int32), inv v1 v2 → W_m_worst_9 M Q N v1 v2 := by
  intro N
  induction N with
  | zero => intros; trivial
  | succ N IH =>
    intro v1 v2 h
    exact hs N _ v1 v2 IH h
theorem q_m_worst_9 {X : Option (List AI)} {N0 : Nat} {M : MM} {Q : Int32 → MM → Prop}   : ∀ (N : Nat), N ≤ N0 → ∀ (v1 : Int32) (v2 : Int32), W_m_worst_9 M Q N v1 v2 → pM X N 312 9 [(0, .inr (.inl (some 190))), (1, .inl (.inl v1)), (2, .inl (.inl v2))] [] M (Ri Q) := by
  intro N
  induction N with
  | zero => intros; exact pM_zero
  | succ N IH =>
    intro hN v1 v2 h
    replace hN := Nat.le_of_succ_le hN
    replace h : B_m_worst_9 M Q N (W_m_worst_9 M Q N) v1 v2 := h
    refine pM_s (pMs_iln rfl rfl ?_)
    refine pM_aln rfl rfl rfl ?_
    refine pM_qVi (as := [.inr (.inl (some 190))]) (T := [.inl (.inl v2)]) rfl rfl (fun C hC => cl_v hC rfl rfl rfl rfl) rfl (q_m_clauses ) ?_
    refine pM_cge rfl rfl (fun h1 => ?_) (fun h1 => ?_)
    · replace h := h.2 h1
      refine pM_iln rfl rfl ?_
      exact pM_ri rfl (⟨_, rfl, h⟩)
    · replace h := h.1 h1
      refine pM_aln rfl rfl rfl ?_
      refine pM_iln rfl rfl ?_
      refine pM_qPi (as := [.inr (.inl (some 190)), .inl (.inl v2)]) (T := []) rfl rfl (fun C hC => cl_v hC rfl rfl rfl rfl) rfl (q_m_takenFor  h) (fun r2 h => ?_)
      refine pM_zle rfl rfl (fun h4 => ?_) (fun h4 => ?_)
      · replace h := h.2 h4
        refine pM_ii rfl rfl rfl ki_1 ?_
        refine pM_go rfl rfl ?_
        refine pM_w (F2 := [(0, .inr (.inl (some 190))), (1, .inl (.inl v1)), (2, .inl (.inl (v2 + 1)))]) (fun L hL => lo_cons (lo_lk hL rfl) (lo_cons (lo_lk hL rfl) (lo_cons (lo_lk hL rfl) lo_nil))) ?_
        exact IH hN v1 (v2 + 1) h
      · replace h := h.1 h4
        refine pM_iln rfl rfl ?_
        refine pM_zlt rfl rfl (fun h5 => ?_) (fun h5 => ?_)
        · replace h := h.1 h5
          refine pM_iln rfl rfl ?_
          refine pM_isn rfl rfl ?_
          refine pM_ii rfl rfl rfl ki_1 ?_
          refine pM_go rfl rfl ?_
          refine pM_w (F2 := [(0, .inr (.inl (some 190))), (1, .inl (.inl v2)), (2, .inl (.inl (v2 + 1)))]) (fun L hL => lo_cons (lo_lk hL rfl) (lo_cons (lo_lk hL rfl) (lo_cons (lo_lk hL rfl) lo_nil))) ?_
          exact IH hN v2 (v2 + 1) h
        · replace h := h.2 h5
          refine pM_aln rfl rfl rfl ?_
          refine pM_iln rfl rfl ?_
          refine pM_qPi (as := [.inr (.inl (some 190)), .inl (.inl v2)]) (T := []) rfl rfl (fun C hC => cl_v hC rfl rfl rfl rfl) rfl (q_m_takenFor  h) (fun r6 h => ?_)
          refine pM_aln rfl rfl rfl ?_
          refine pM_iln rfl rfl ?_
          refine pM_qPi (as := [.inr (.inl (some 190)), .inl (.inl v1)]) (T := [.inl (.inl r6)]) rfl rfl (fun C hC => cl_v hC rfl rfl rfl rfl) rfl (q_m_takenFor  h) (fun r8 h => ?_)
          refine pM_cle rfl rfl (fun h10 => ?_) (fun h10 => ?_)
          · replace h := h.2 h10
            refine pM_ii rfl rfl rfl ki_1 ?_
            refine pM_go rfl rfl ?_
            refine pM_w (F2 := [(0, .inr (.inl (some 190))), (1, .inl (.inl v1)), (2, .inl (.inl (v2 + 1)))]) (fun L hL => lo_cons (lo_lk hL rfl) (lo_cons (lo_lk hL rfl) (lo_cons (lo_lk hL rfl) lo_nil))) ?_
            exact IH hN v1 (v2 + 1) h
          · replace h := h.1 h10
            refine pM_iln rfl rfl ?_
            refine pM_isn rfl rfl ?_
            refine pM_ii rfl rfl rfl ki_1 ?_
            refine pM_go rfl rfl ?_
            refine pM_w (F2 := [(0, .inr (.inl (some 190))), (1, .inl (.inl v2)), (2, .inl (.inl (v2 + 1)))]) (fun L hL => lo_cons (lo_lk hL rfl) (lo_cons (lo_lk hL rfl) (lo_cons (lo_lk hL rfl) lo_nil))) ?_
            exact IH hN v2 (v2 + 1) h
/-- 312: EarCodeModel.worst()I -/
def W_m_worst  (N : Nat) (M : MM) (Q : Int32 → MM → Prop) : Prop :=
  W_m_worst_9 (wi M 190 0 0) Q N (-1) 0
theorem q_m_worst {X : Option (List AI)} {N : Nat} {M : MM}  {Q : Int32 → MM → Prop}  (h : W_m_worst  N M Q) : pM X N 312 0 (ea_ar 0 [.inr (.inl (some 190))]) [] M (Ri Q) := by
  refine pM_w (F2 := [(0, .inr (.inl (some 190)))]) (fun L hL => lo_cons (lo_lk hL rfl) lo_nil) ?_
  refine pM_aln rfl rfl rfl ?_
  refine pM_ic rfl ki_0 ?_
  refine pM_pi rfl rfl rfl rfl ?_
  refine pM_ic rfl ki_m1 ?_
  refine pM_isn rfl rfl ?_
  refine pM_ic rfl ki_0 ?_
  refine pM_isn rfl rfl ?_
  refine pM_w (F2 := [(0, .inr (.inl (some 190))), (1, .inl (.inl (-1))), (2, .inl (.inl 0))]) (fun L hL => lo_cons (lo_lk hL rfl) (lo_cons (lo_lk hL rfl) (lo_cons (lo_lk hL rfl) lo_nil))) ?_
  refine q_m_worst_9   N (Nat.le_refl N) (-1) 0 h
/-- 313: EarCodeModel.log(II)I -/
def W_m_log (p1 : Int32) (p2 : Int32) (N : Nat) (M : MM) (Q : Int32 → MM → Prop) : Prop :=
  (((V_m_in p2 0 3 (wi M 190 0 0)) = 0 →
    W_m_throwsIf 1 1 N (wi M 190 0 0) (fun r2 M3 =>
      ((r2 = 0 →
        (((V_m_in p1 0 ((M3.1 191 (ni 6)) - 1) M3) = 0 →
          Q (-1) M3) ∧
         (¬ (V_m_in p1 0 ((M3.1 191 (ni 6)) - 1) M3) = 0 →
          Q (V_m_ofLog p1 p2 M3) M3))) ∧
       (¬ r2 = 0 →
        Q 0 M3)))) ∧
   (¬ (V_m_in p2 0 3 (wi M 190 0 0)) = 0 →
    W_m_throwsIf 0 1 N (wi M 190 0 0) (fun r6 M7 =>
      ((r6 = 0 →
        (((V_m_in p1 0 ((M7.1 191 (ni 6)) - 1) M7) = 0 →
          Q (-1) M7) ∧
         (¬ (V_m_in p1 0 ((M7.1 191 (ni 6)) - 1) M7) = 0 →
          Q (V_m_ofLog p1 p2 M7) M7))) ∧
       (¬ r6 = 0 →
        Q 0 M7)))))
theorem q_m_log {X : Option (List AI)} {N : Nat} {M : MM} {p1 : Int32} {p2 : Int32} {Q : Int32 → MM → Prop}  (h : W_m_log p1 p2 N M Q) : pM X N 313 0 (ea_ar 0 [.inr (.inl (some 190)), .inl (.inl p1), .inl (.inl p2)]) [] M (Ri Q) := by
  refine pM_w (F2 := [(0, .inr (.inl (some 190))), (1, .inl (.inl p1)), (2, .inl (.inl p2))]) (fun L hL => lo_cons (lo_lk hL rfl) (lo_cons (lo_lk hL rfl) (lo_cons (lo_lk hL rfl) lo_nil))) ?_
  refine pM_aln rfl rfl rfl ?_
  refine pM_ic rfl ki_0 ?_
  refine pM_pi rfl rfl rfl rfl ?_
  refine pM_aln rfl rfl rfl ?_
  refine pM_iln rfl rfl ?_
  refine pM_ic rfl ki_0 ?_
  refine pM_ic rfl ki_3 ?_
  refine pM_qVi (as := [.inl (.inl p2), .inl (.inl 0), .inl (.inl 3)]) (T := [.inr (.inl (some 190))]) rfl rfl (fun _ _ => rfl) rfl (q_m_in ) ?_
  refine pM_zne rfl rfl (fun h1 => ?_) (fun h1 => ?_)
  · replace h := h.2 h1
    refine pM_ic rfl ki_0 ?_
    refine pM_ic rfl ki_1 ?_
    refine pM_qRi (as := [.inr (.inl (some 190)), .inl (.inl 0), .inl (.inl 1)]) (T := []) rfl rfl (fun C hC => cl_v hC rfl rfl rfl rfl) rfl (q_m_throwsIf  h) (fun r6 M7 h => ?_)
    refine pM_zeq rfl rfl (fun h8 => ?_) (fun h8 => ?_)
    · replace h := h.1 h8
      refine pM_iln rfl rfl ?_
      refine pM_ic rfl ki_0 ?_
      refine pM_aln rfl rfl rfl ?_
      refine pM_gr rfl rfl rfl rfl ?_
      refine pM_bi rfl kb_6 ?_
      refine pM_ai rfl rfl row_p ?_
      refine pM_ic rfl ki_1 ?_
      refine pM_sub rfl ?_
      refine pM_qVi (as := [.inl (.inl p1), .inl (.inl 0), .inl (.inl ((M7.1 191 (ni 6)) - 1))]) (T := []) rfl rfl (fun _ _ => rfl) rfl (q_m_in ) ?_
      refine pM_zeq rfl rfl (fun h9 => ?_) (fun h9 => ?_)
      · replace h := h.1 h9
        refine pM_ic rfl ki_m1 ?_
        exact pM_ri rfl (⟨_, rfl, h⟩)
      · replace h := h.2 h9
        refine pM_aln rfl rfl rfl ?_
        refine pM_iln rfl rfl ?_
        refine pM_iln rfl rfl ?_
        refine pM_qVi (as := [.inr (.inl (some 190)), .inl (.inl p1), .inl (.inl p2)]) (T := []) rfl rfl (fun C hC => cl_v hC rfl rfl rfl rfl) rfl (q_m_ofLog ) ?_
        refine pM_go rfl rfl ?_
        exact pM_ri rfl (⟨_, rfl, h⟩)
    · replace h := h.2 h8
      refine pM_ic rfl ki_0 ?_
      exact pM_ri rfl (⟨_, rfl, h⟩)
  · replace h := h.1 h1
    refine pM_ic rfl ki_1 ?_
    refine pM_go rfl rfl ?_
    refine pM_ic rfl ki_1 ?_
    refine pM_qRi (as := [.inr (.inl (some 190)), .inl (.inl 1), .inl (.inl 1)]) (T := []) rfl rfl (fun C hC => cl_v hC rfl rfl rfl rfl) rfl (q_m_throwsIf  h) (fun r2 M3 h => ?_)
    refine pM_zeq rfl rfl (fun h4 => ?_) (fun h4 => ?_)
    · replace h := h.1 h4
      refine pM_iln rfl rfl ?_
      refine pM_ic rfl ki_0 ?_
      refine pM_aln rfl rfl rfl ?_
      refine pM_gr rfl rfl rfl rfl ?_
      refine pM_bi rfl kb_6 ?_
      refine pM_ai rfl rfl row_p ?_
      refine pM_ic rfl ki_1 ?_
      refine pM_sub rfl ?_
      refine pM_qVi (as := [.inl (.inl p1), .inl (.inl 0), .inl (.inl ((M3.1 191 (ni 6)) - 1))]) (T := []) rfl rfl (fun _ _ => rfl) rfl (q_m_in ) ?_
      refine pM_zeq rfl rfl (fun h5 => ?_) (fun h5 => ?_)
      · replace h := h.1 h5
        refine pM_ic rfl ki_m1 ?_
        exact pM_ri rfl (⟨_, rfl, h⟩)
      · replace h := h.2 h5
        refine pM_aln rfl rfl rfl ?_
        refine pM_iln rfl rfl ?_
        refine pM_iln rfl rfl ?_
        refine pM_qVi (as := [.inr (.inl (some 190)), .inl (.inl p1), .inl (.inl p2)]) (T := []) rfl rfl (fun C hC => cl_v hC rfl rfl rfl rfl) rfl (q_m_ofLog ) ?_
        refine pM_go rfl rfl ?_
        exact pM_ri rfl (⟨_, rfl, h⟩)
    · replace h := h.2 h4
      refine pM_ic rfl ki_0 ?_
      exact pM_ri rfl (⟨_, rfl, h⟩)
/-- 314: EarCodeModel.seed(I)I -/
def W_m_seed (p1 : Int32) (N : Nat) (M : MM) (Q : Int32 → MM → Prop) : Prop :=
  Q ((wi M 190 0 0).1 191 (ni 9)) (wi (wi M 190 0 0) 191 (ni 9) p1)
theorem q_m_seed {X : Option (List AI)} {N : Nat} {M : MM} {p1 : Int32} {Q : Int32 → MM → Prop}  (h : W_m_seed p1 N M Q) : pM X N 314 0 (ea_ar 0 [.inr (.inl (some 190)), .inl (.inl p1)]) [] M (Ri Q) := by
  refine pM_w (F2 := [(0, .inr (.inl (some 190))), (1, .inl (.inl p1))]) (fun L hL => lo_cons (lo_lk hL rfl) (lo_cons (lo_lk hL rfl) lo_nil)) ?_
  refine pM_aln rfl rfl rfl ?_
  refine pM_ic rfl ki_0 ?_
  refine pM_pi rfl rfl rfl rfl ?_
  refine pM_aln rfl rfl rfl ?_
  refine pM_gr rfl rfl rfl rfl ?_
  refine pM_bi rfl kb_9 ?_
  refine pM_ai rfl rfl row_p ?_
  refine pM_isn rfl rfl ?_
  refine pM_aln rfl rfl rfl ?_
  refine pM_gr rfl rfl rfl rfl ?_
  refine pM_bi rfl kb_9 ?_
  refine pM_iln rfl rfl ?_
  refine pM_sa rfl rfl row_p ?_
  refine pM_iln rfl rfl ?_
  exact pM_ri rfl (⟨_, rfl, h⟩)
/-- 315: EarCodeModel.count(I)I -/
def W_m_count (p1 : Int32) (N : Nat) (M : MM) (Q : Int32 → MM → Prop) : Prop :=
  ((p1 = 0 →
    Q ((wi M 190 0 0).1 190 15) (wi M 190 0 0)) ∧
   (p1 = 1 →
    Q (V_m_citizens  (wi M 190 0 0)) (wi M 190 0 0)) ∧
   (p1 = 2 →
    W_m_alive  N (wi M 190 0 0) (fun r2 =>
      Q (V_Int_bitCount r2 (wi M 190 0 0)) (wi M 190 0 0))) ∧
   (p1 = 3 →
    Q ((wi M 190 0 0).1 191 (ni 1)) (wi M 190 0 0)) ∧
   (p1 = 4 →
    Q ((wi M 190 0 0).1 191 (ni 2)) (wi M 190 0 0)) ∧
   (p1 = 5 →
    W_m_inForce  N (wi M 190 0 0) (fun r4 =>
      Q r4 (wi M 190 0 0))) ∧
   (p1 = 6 →
    W_m_takenNow  N (wi M 190 0 0) (fun r6 =>
      Q r6 (wi M 190 0 0))) ∧
   (p1 = 7 →
    Q ((wi M 190 0 0).1 191 (ni 3)) (wi M 190 0 0)) ∧
   (p1 = 8 →
    Q ((wi M 190 0 0).1 191 (ni 4)) (wi M 190 0 0)) ∧
   (p1 = 9 →
    Q ((wi M 190 0 0).1 191 (ni 5)) (wi M 190 0 0)) ∧
   (p1 = 10 →
    Q ((wi M 190 0 0).1 191 (ni 6)) (wi M 190 0 0)) ∧
   (p1 = 11 →
    Q ((wi M 190 0 0).1 191 (ni 7)) (wi M 190 0 0)) ∧
   (p1 = 12 →
    Q ((wi M 190 0 0).1 191 (ni 8)) (wi M 190 0 0)) ∧
   (p1 = 13 →
    Q ((wi M 190 0 0).1 190 12) (wi M 190 0 0)) ∧
   (¬ p1 = 0 → ¬ p1 = 1 → ¬ p1 = 2 → ¬ p1 = 3 → ¬ p1 = 4 → ¬ p1 = 5 → ¬ p1 = 6 → ¬ p1 = 7 → ¬ p1 = 8 → ¬ p1 = 9 → ¬ p1 = 10 → ¬ p1 = 11 → ¬ p1 = 12 → ¬ p1 = 13 → Q (-1) (wi M 190 0 0)))
theorem q_m_count {X : Option (List AI)} {N : Nat} {M : MM} {p1 : Int32} {Q : Int32 → MM → Prop}  (h : W_m_count p1 N M Q) : pM X N 315 0 (ea_ar 0 [.inr (.inl (some 190)), .inl (.inl p1)]) [] M (Ri Q) := by
  refine pM_w (F2 := [(0, .inr (.inl (some 190))), (1, .inl (.inl p1))]) (fun L hL => lo_cons (lo_lk hL rfl) (lo_cons (lo_lk hL rfl) lo_nil)) ?_
  refine pM_aln rfl rfl rfl ?_
  refine pM_ic rfl ki_0 ?_
  refine pM_pi rfl rfl rfl rfl ?_
  refine pM_iln rfl rfl ?_
  refine pM_sw rfl rfl (fun h1 => ?_) (fun j o t h1 ho hto => ?_)
  · replace h := h.2.2.2.2.2.2.2.2.2.2.2.2.2.2 (sw_o h1 (by decide)) (sw_o h1 (by decide)) (sw_o h1 (by decide)) (sw_o h1 (by decide)) (sw_o h1 (by decide)) (sw_o h1 (by decide)) (sw_o h1 (by decide)) (sw_o h1 (by decide)) (sw_o h1 (by decide)) (sw_o h1 (by decide)) (sw_o h1 (by decide)) (sw_o h1 (by decide)) (sw_o h1 (by decide)) (sw_o h1 (by decide))
    refine pM_ic rfl ki_m1 ?_
    exact pM_ri rfl (⟨_, rfl, h⟩)
  · match j, h1, ho with
    | 0, h1, ho =>
      have e := Option.some.inj ho
      subst e
      have e := Option.some.inj hto
      subst e
      replace h := h.1 (sw_e h1 (by decide))
      refine pM_aln rfl rfl rfl ?_
      refine pM_gi rfl rfl rfl rfl ?_
      exact pM_ri rfl (⟨_, rfl, h⟩)
    | 1, h1, ho =>
      have e := Option.some.inj ho
      subst e
      have e := Option.some.inj hto
      subst e
      replace h := h.2.1 (sw_e h1 (by decide))
      refine pM_aln rfl rfl rfl ?_
      refine pM_qVi (as := [.inr (.inl (some 190))]) (T := []) rfl rfl (fun C hC => cl_v hC rfl rfl rfl rfl) rfl (q_m_citizens ) ?_
      exact pM_ri rfl (⟨_, rfl, h⟩)
    | 2, h1, ho =>
      have e := Option.some.inj ho
      subst e
      have e := Option.some.inj hto
      subst e
      replace h := h.2.2.1 (sw_e h1 (by decide))
      refine pM_aln rfl rfl rfl ?_
      refine pM_qPi (as := [.inr (.inl (some 190))]) (T := []) rfl rfl (fun C hC => cl_v hC rfl rfl rfl rfl) rfl (q_m_alive  h) (fun r2 h => ?_)
      refine pM_qVi (as := [.inl (.inl r2)]) (T := []) rfl rfl (fun _ _ => rfl) rfl (q_Int_bitCount ) ?_
      exact pM_ri rfl (⟨_, rfl, h⟩)
    | 3, h1, ho =>
      have e := Option.some.inj ho
      subst e
      have e := Option.some.inj hto
      subst e
      replace h := h.2.2.2.1 (sw_e h1 (by decide))
      refine pM_aln rfl rfl rfl ?_
      refine pM_gr rfl rfl rfl rfl ?_
      refine pM_ic rfl ki_1 ?_
      refine pM_ai rfl rfl row_p ?_
      exact pM_ri rfl (⟨_, rfl, h⟩)
    | 4, h1, ho =>
      have e := Option.some.inj ho
      subst e
      have e := Option.some.inj hto
      subst e
      replace h := h.2.2.2.2.1 (sw_e h1 (by decide))
      refine pM_aln rfl rfl rfl ?_
      refine pM_gr rfl rfl rfl rfl ?_
      refine pM_ic rfl ki_2 ?_
      refine pM_ai rfl rfl row_p ?_
      exact pM_ri rfl (⟨_, rfl, h⟩)
    | 5, h1, ho =>
      have e := Option.some.inj ho
      subst e
      have e := Option.some.inj hto
      subst e
      replace h := h.2.2.2.2.2.1 (sw_e h1 (by decide))
      refine pM_aln rfl rfl rfl ?_
      refine pM_qPi (as := [.inr (.inl (some 190))]) (T := []) rfl rfl (fun C hC => cl_v hC rfl rfl rfl rfl) rfl (q_m_inForce  h) (fun r4 h => ?_)
      exact pM_ri rfl (⟨_, rfl, h⟩)
    | 6, h1, ho =>
      have e := Option.some.inj ho
      subst e
      have e := Option.some.inj hto
      subst e
      replace h := h.2.2.2.2.2.2.1 (sw_e h1 (by decide))
      refine pM_aln rfl rfl rfl ?_
      refine pM_qPi (as := [.inr (.inl (some 190))]) (T := []) rfl rfl (fun C hC => cl_v hC rfl rfl rfl rfl) rfl (q_m_takenNow  h) (fun r6 h => ?_)
      exact pM_ri rfl (⟨_, rfl, h⟩)
    | 7, h1, ho =>
      have e := Option.some.inj ho
      subst e
      have e := Option.some.inj hto
      subst e
      replace h := h.2.2.2.2.2.2.2.1 (sw_e h1 (by decide))
      refine pM_aln rfl rfl rfl ?_
      refine pM_gr rfl rfl rfl rfl ?_
      refine pM_ic rfl ki_3 ?_
      refine pM_ai rfl rfl row_p ?_
      exact pM_ri rfl (⟨_, rfl, h⟩)
    | 8, h1, ho =>
      have e := Option.some.inj ho
      subst e
      have e := Option.some.inj hto
      subst e
      replace h := h.2.2.2.2.2.2.2.2.1 (sw_e h1 (by decide))
      refine pM_aln rfl rfl rfl ?_
      refine pM_gr rfl rfl rfl rfl ?_
      refine pM_ic rfl ki_4 ?_
      refine pM_ai rfl rfl row_p ?_
      exact pM_ri rfl (⟨_, rfl, h⟩)
    | 9, h1, ho =>
      have e := Option.some.inj ho
      subst e
      have e := Option.some.inj hto
      subst e
      replace h := h.2.2.2.2.2.2.2.2.2.1 (sw_e h1 (by decide))
      refine pM_aln rfl rfl rfl ?_
      refine pM_gr rfl rfl rfl rfl ?_
      refine pM_ic rfl ki_5 ?_
      refine pM_ai rfl rfl row_p ?_
      exact pM_ri rfl (⟨_, rfl, h⟩)
    | 10, h1, ho =>
      have e := Option.some.inj ho
      subst e
      have e := Option.some.inj hto
      subst e
      replace h := h.2.2.2.2.2.2.2.2.2.2.1 (sw_e h1 (by decide))
      refine pM_aln rfl rfl rfl ?_
      refine pM_gr rfl rfl rfl rfl ?_
      refine pM_bi rfl kb_6 ?_
      refine pM_ai rfl rfl row_p ?_
      exact pM_ri rfl (⟨_, rfl, h⟩)
    | 11, h1, ho =>
      have e := Option.some.inj ho
      subst e
      have e := Option.some.inj hto
      subst e
      replace h := h.2.2.2.2.2.2.2.2.2.2.2.1 (sw_e h1 (by decide))
      refine pM_aln rfl rfl rfl ?_
      refine pM_gr rfl rfl rfl rfl ?_
      refine pM_bi rfl kb_7 ?_
      refine pM_ai rfl rfl row_p ?_
      exact pM_ri rfl (⟨_, rfl, h⟩)
    | 12, h1, ho =>
      have e := Option.some.inj ho
      subst e
      have e := Option.some.inj hto
      subst e
      replace h := h.2.2.2.2.2.2.2.2.2.2.2.2.1 (sw_e h1 (by decide))
      refine pM_aln rfl rfl rfl ?_
      refine pM_gr rfl rfl rfl rfl ?_
      refine pM_bi rfl kb_8 ?_
      refine pM_ai rfl rfl row_p ?_
      exact pM_ri rfl (⟨_, rfl, h⟩)
    | 13, h1, ho =>
      have e := Option.some.inj ho
      subst e
      have e := Option.some.inj hto
      subst e
      replace h := h.2.2.2.2.2.2.2.2.2.2.2.2.2.1 (sw_e h1 (by decide))
      refine pM_aln rfl rfl rfl ?_
      refine pM_gi rfl rfl rfl rfl ?_
      exact pM_ri rfl (⟨_, rfl, h⟩)
    | j + 14, _, ho => exact absurd ho (by simp)
