/-! WHAT EACH METHOD COMES TO (gw.py) -/
/-- 262: EarCodeModel.tell(II)I -/
def W_m_tell (p1 : Int32) (p2 : Int32) (N : Nat) (M : MM) (Q : Int32 → MM → Prop) : Prop :=
  (((V_m_noCitizen p1 (wi M 190 0 0)) = 0 →
    (((V_m_noClause p2 (wi M 190 0 0)) = 0 →
      W_m_throwsIf 0 1 N (wi M 190 0 0) (fun r3 M4 =>
        ((r3 = 0 →
          (((V_m_isAlive p1 M4) = 0 →
            W_m_throwsIf 1 2 N M4 (fun r7 M8 =>
              ((r7 = 0 →
                W_m_remembers  N M8 (fun M11 =>
                  W_m_sets p1 1 ((V_m_of p1 1 M11) ||| (sl 1 p2)) N M11 (fun M13 =>
                    Q (V_Int_bitCount (V_m_of p1 1 M13) M13) M13))) ∧
               (¬ r7 = 0 →
                Q 0 M8)))) ∧
           (¬ (V_m_isAlive p1 M4) = 0 →
            (((V_m_knows p1 p2 M4) = 0 →
              W_m_throwsIf 0 2 N M4 (fun r15 M16 =>
                ((r15 = 0 →
                  W_m_remembers  N M16 (fun M19 =>
                    W_m_sets p1 1 ((V_m_of p1 1 M19) ||| (sl 1 p2)) N M19 (fun M21 =>
                      Q (V_Int_bitCount (V_m_of p1 1 M21) M21) M21))) ∧
                 (¬ r15 = 0 →
                  Q 0 M16)))) ∧
             (¬ (V_m_knows p1 p2 M4) = 0 →
              W_m_throwsIf 1 2 N M4 (fun r22 M23 =>
                ((r22 = 0 →
                  W_m_remembers  N M23 (fun M26 =>
                    W_m_sets p1 1 ((V_m_of p1 1 M26) ||| (sl 1 p2)) N M26 (fun M28 =>
                      Q (V_Int_bitCount (V_m_of p1 1 M28) M28) M28))) ∧
                 (¬ r22 = 0 →
                  Q 0 M23)))))))) ∧
         (¬ r3 = 0 →
          Q 0 M4)))) ∧
     (¬ (V_m_noClause p2 (wi M 190 0 0)) = 0 →
      W_m_throwsIf 1 1 N (wi M 190 0 0) (fun r29 M30 =>
        ((r29 = 0 →
          (((V_m_isAlive p1 M30) = 0 →
            W_m_throwsIf 1 2 N M30 (fun r33 M34 =>
              ((r33 = 0 →
                W_m_remembers  N M34 (fun M37 =>
                  W_m_sets p1 1 ((V_m_of p1 1 M37) ||| (sl 1 p2)) N M37 (fun M39 =>
                    Q (V_Int_bitCount (V_m_of p1 1 M39) M39) M39))) ∧
               (¬ r33 = 0 →
                Q 0 M34)))) ∧
           (¬ (V_m_isAlive p1 M30) = 0 →
            (((V_m_knows p1 p2 M30) = 0 →
              W_m_throwsIf 0 2 N M30 (fun r41 M42 =>
                ((r41 = 0 →
                  W_m_remembers  N M42 (fun M45 =>
                    W_m_sets p1 1 ((V_m_of p1 1 M45) ||| (sl 1 p2)) N M45 (fun M47 =>
                      Q (V_Int_bitCount (V_m_of p1 1 M47) M47) M47))) ∧
                 (¬ r41 = 0 →
                  Q 0 M42)))) ∧
             (¬ (V_m_knows p1 p2 M30) = 0 →
              W_m_throwsIf 1 2 N M30 (fun r48 M49 =>
                ((r48 = 0 →
                  W_m_remembers  N M49 (fun M52 =>
                    W_m_sets p1 1 ((V_m_of p1 1 M52) ||| (sl 1 p2)) N M52 (fun M54 =>
                      Q (V_Int_bitCount (V_m_of p1 1 M54) M54) M54))) ∧
                 (¬ r48 = 0 →
                  Q 0 M49)))))))) ∧
         (¬ r29 = 0 →
          Q 0 M30)))))) ∧
   (¬ (V_m_noCitizen p1 (wi M 190 0 0)) = 0 →
    W_m_throwsIf 1 1 N (wi M 190 0 0) (fun r55 M56 =>
      ((r55 = 0 →
        (((V_m_isAlive p1 M56) = 0 →
          W_m_throwsIf 1 2 N M56 (fun r59 M60 =>
            ((r59 = 0 →
              W_m_remembers  N M60 (fun M63 =>
                W_m_sets p1 1 ((V_m_of p1 1 M63) ||| (sl 1 p2)) N M63 (fun M65 =>
                  Q (V_Int_bitCount (V_m_of p1 1 M65) M65) M65))) ∧
             (¬ r59 = 0 →
              Q 0 M60)))) ∧
         (¬ (V_m_isAlive p1 M56) = 0 →
          (((V_m_knows p1 p2 M56) = 0 →
            W_m_throwsIf 0 2 N M56 (fun r67 M68 =>
              ((r67 = 0 →
                W_m_remembers  N M68 (fun M71 =>
                  W_m_sets p1 1 ((V_m_of p1 1 M71) ||| (sl 1 p2)) N M71 (fun M73 =>
                    Q (V_Int_bitCount (V_m_of p1 1 M73) M73) M73))) ∧
               (¬ r67 = 0 →
                Q 0 M68)))) ∧
           (¬ (V_m_knows p1 p2 M56) = 0 →
            W_m_throwsIf 1 2 N M56 (fun r74 M75 =>
              ((r74 = 0 →
                W_m_remembers  N M75 (fun M78 =>
                  W_m_sets p1 1 ((V_m_of p1 1 M78) ||| (sl 1 p2)) N M78 (fun M80 =>
                    Q (V_Int_bitCount (V_m_of p1 1 M80) M80) M80))) ∧
               (¬ r74 = 0 →
                Q 0 M75)))))))) ∧
       (¬ r55 = 0 →
        Q 0 M56)))))
theorem q_m_tell {X : Option (List AI)} {N : Nat} {M : MM} {p1 : Int32} {p2 : Int32} {Q : Int32 → MM → Prop}  (h : W_m_tell p1 p2 N M Q) : pM X N 262 0 (ea_ar 0 [.inr (.inl (some 190)), .inl (.inl p1), .inl (.inl p2)]) [] M (Ri Q) := by
  refine pM_w (F2 := [(0, .inr (.inl (some 190))), (1, .inl (.inl p1)), (2, .inl (.inl p2))]) (fun L hL => lo_cons (lo_lk hL rfl) (lo_cons (lo_lk hL rfl) (lo_cons (lo_lk hL rfl) lo_nil))) ?_
  refine pM_aln rfl rfl rfl ?_
  refine pM_ic rfl ki_0 ?_
  refine pM_pi rfl rfl rfl rfl ?_
  refine pM_aln rfl rfl rfl ?_
  refine pM_aln rfl rfl rfl ?_
  refine pM_iln rfl rfl ?_
  refine pM_qVi (as := [.inr (.inl (some 190)), .inl (.inl p1)]) (T := [.inr (.inl (some 190))]) rfl rfl (fun C hC => cl_v hC rfl rfl rfl rfl) rfl (q_m_noCitizen ) ?_
  refine pM_zne rfl rfl (fun h1 => ?_) (fun h1 => ?_)
  · replace h := h.2 h1
    refine pM_ic rfl ki_1 ?_
    refine pM_go rfl rfl ?_
    refine pM_ic rfl ki_1 ?_
    refine pM_qRi (as := [.inr (.inl (some 190)), .inl (.inl 1), .inl (.inl 1)]) (T := []) rfl rfl (fun C hC => cl_v hC rfl rfl rfl rfl) rfl (q_m_throwsIf  h) (fun r55 M56 h => ?_)
    refine pM_zne rfl rfl (fun h57 => ?_) (fun h57 => ?_)
    · replace h := h.2 h57
      refine pM_ic rfl ki_0 ?_
      exact pM_ri rfl (⟨_, rfl, h⟩)
    · replace h := h.1 h57
      refine pM_aln rfl rfl rfl ?_
      refine pM_aln rfl rfl rfl ?_
      refine pM_iln rfl rfl ?_
      refine pM_qVi (as := [.inr (.inl (some 190)), .inl (.inl p1)]) (T := [.inr (.inl (some 190))]) rfl rfl (fun C hC => cl_v hC rfl rfl rfl rfl) rfl (q_m_isAlive ) ?_
      refine pM_zeq rfl rfl (fun h58 => ?_) (fun h58 => ?_)
      · replace h := h.1 h58
        refine pM_ic rfl ki_1 ?_
        refine pM_go rfl rfl ?_
        refine pM_ic rfl ki_2 ?_
        refine pM_qRi (as := [.inr (.inl (some 190)), .inl (.inl 1), .inl (.inl 2)]) (T := []) rfl rfl (fun C hC => cl_v hC rfl rfl rfl rfl) rfl (q_m_throwsIf  h) (fun r59 M60 h => ?_)
        refine pM_zeq rfl rfl (fun h61 => ?_) (fun h61 => ?_)
        · replace h := h.1 h61
          refine pM_aln rfl rfl rfl ?_
          refine pM_qRu (as := [.inr (.inl (some 190))]) (T := []) rfl rfl (fun C hC => cl_v hC rfl rfl rfl rfl) rfl (q_m_remembers  h) (fun M63 h => ?_)
          refine pM_aln rfl rfl rfl ?_
          refine pM_iln rfl rfl ?_
          refine pM_ic rfl ki_1 ?_
          refine pM_aln rfl rfl rfl ?_
          refine pM_iln rfl rfl ?_
          refine pM_ic rfl ki_1 ?_
          refine pM_qVi (as := [.inr (.inl (some 190)), .inl (.inl p1), .inl (.inl 1)]) (T := [.inl (.inl 1), .inl (.inl p1), .inr (.inl (some 190))]) rfl rfl (fun C hC => cl_v hC rfl rfl rfl rfl) rfl (q_m_of ) ?_
          refine pM_ic rfl ki_1 ?_
          refine pM_iln rfl rfl ?_
          refine pM_shl rfl ?_
          refine pM_or rfl ?_
          refine pM_qRu (as := [.inr (.inl (some 190)), .inl (.inl p1), .inl (.inl 1), .inl (.inl ((V_m_of p1 1 M63) ||| (sl 1 p2)))]) (T := []) rfl rfl (fun C hC => cl_v hC rfl rfl rfl rfl) rfl (q_m_sets  h) (fun M65 h => ?_)
          refine pM_aln rfl rfl rfl ?_
          refine pM_iln rfl rfl ?_
          refine pM_ic rfl ki_1 ?_
          refine pM_qVi (as := [.inr (.inl (some 190)), .inl (.inl p1), .inl (.inl 1)]) (T := []) rfl rfl (fun C hC => cl_v hC rfl rfl rfl rfl) rfl (q_m_of ) ?_
          refine pM_qVi (as := [.inl (.inl (V_m_of p1 1 M65))]) (T := []) rfl rfl (fun _ _ => rfl) rfl (q_Int_bitCount ) ?_
          exact pM_ri rfl (⟨_, rfl, h⟩)
        · replace h := h.2 h61
          refine pM_ic rfl ki_0 ?_
          exact pM_ri rfl (⟨_, rfl, h⟩)
      · replace h := h.2 h58
        refine pM_aln rfl rfl rfl ?_
        refine pM_iln rfl rfl ?_
        refine pM_iln rfl rfl ?_
        refine pM_qVi (as := [.inr (.inl (some 190)), .inl (.inl p1), .inl (.inl p2)]) (T := [.inr (.inl (some 190))]) rfl rfl (fun C hC => cl_v hC rfl rfl rfl rfl) rfl (q_m_knows ) ?_
        refine pM_zeq rfl rfl (fun h66 => ?_) (fun h66 => ?_)
        · replace h := h.1 h66
          refine pM_ic rfl ki_0 ?_
          refine pM_ic rfl ki_2 ?_
          refine pM_qRi (as := [.inr (.inl (some 190)), .inl (.inl 0), .inl (.inl 2)]) (T := []) rfl rfl (fun C hC => cl_v hC rfl rfl rfl rfl) rfl (q_m_throwsIf  h) (fun r67 M68 h => ?_)
          refine pM_zeq rfl rfl (fun h69 => ?_) (fun h69 => ?_)
          · replace h := h.1 h69
            refine pM_aln rfl rfl rfl ?_
            refine pM_qRu (as := [.inr (.inl (some 190))]) (T := []) rfl rfl (fun C hC => cl_v hC rfl rfl rfl rfl) rfl (q_m_remembers  h) (fun M71 h => ?_)
            refine pM_aln rfl rfl rfl ?_
            refine pM_iln rfl rfl ?_
            refine pM_ic rfl ki_1 ?_
            refine pM_aln rfl rfl rfl ?_
            refine pM_iln rfl rfl ?_
            refine pM_ic rfl ki_1 ?_
            refine pM_qVi (as := [.inr (.inl (some 190)), .inl (.inl p1), .inl (.inl 1)]) (T := [.inl (.inl 1), .inl (.inl p1), .inr (.inl (some 190))]) rfl rfl (fun C hC => cl_v hC rfl rfl rfl rfl) rfl (q_m_of ) ?_
            refine pM_ic rfl ki_1 ?_
            refine pM_iln rfl rfl ?_
            refine pM_shl rfl ?_
            refine pM_or rfl ?_
            refine pM_qRu (as := [.inr (.inl (some 190)), .inl (.inl p1), .inl (.inl 1), .inl (.inl ((V_m_of p1 1 M71) ||| (sl 1 p2)))]) (T := []) rfl rfl (fun C hC => cl_v hC rfl rfl rfl rfl) rfl (q_m_sets  h) (fun M73 h => ?_)
            refine pM_aln rfl rfl rfl ?_
            refine pM_iln rfl rfl ?_
            refine pM_ic rfl ki_1 ?_
            refine pM_qVi (as := [.inr (.inl (some 190)), .inl (.inl p1), .inl (.inl 1)]) (T := []) rfl rfl (fun C hC => cl_v hC rfl rfl rfl rfl) rfl (q_m_of ) ?_
            refine pM_qVi (as := [.inl (.inl (V_m_of p1 1 M73))]) (T := []) rfl rfl (fun _ _ => rfl) rfl (q_Int_bitCount ) ?_
            exact pM_ri rfl (⟨_, rfl, h⟩)
          · replace h := h.2 h69
            refine pM_ic rfl ki_0 ?_
            exact pM_ri rfl (⟨_, rfl, h⟩)
        · replace h := h.2 h66
          refine pM_ic rfl ki_1 ?_
          refine pM_go rfl rfl ?_
          refine pM_ic rfl ki_2 ?_
          refine pM_qRi (as := [.inr (.inl (some 190)), .inl (.inl 1), .inl (.inl 2)]) (T := []) rfl rfl (fun C hC => cl_v hC rfl rfl rfl rfl) rfl (q_m_throwsIf  h) (fun r74 M75 h => ?_)
          refine pM_zeq rfl rfl (fun h76 => ?_) (fun h76 => ?_)
          · replace h := h.1 h76
            refine pM_aln rfl rfl rfl ?_
            refine pM_qRu (as := [.inr (.inl (some 190))]) (T := []) rfl rfl (fun C hC => cl_v hC rfl rfl rfl rfl) rfl (q_m_remembers  h) (fun M78 h => ?_)
            refine pM_aln rfl rfl rfl ?_
            refine pM_iln rfl rfl ?_
            refine pM_ic rfl ki_1 ?_
            refine pM_aln rfl rfl rfl ?_
            refine pM_iln rfl rfl ?_
            refine pM_ic rfl ki_1 ?_
            refine pM_qVi (as := [.inr (.inl (some 190)), .inl (.inl p1), .inl (.inl 1)]) (T := [.inl (.inl 1), .inl (.inl p1), .inr (.inl (some 190))]) rfl rfl (fun C hC => cl_v hC rfl rfl rfl rfl) rfl (q_m_of ) ?_
            refine pM_ic rfl ki_1 ?_
            refine pM_iln rfl rfl ?_
            refine pM_shl rfl ?_
            refine pM_or rfl ?_
            refine pM_qRu (as := [.inr (.inl (some 190)), .inl (.inl p1), .inl (.inl 1), .inl (.inl ((V_m_of p1 1 M78) ||| (sl 1 p2)))]) (T := []) rfl rfl (fun C hC => cl_v hC rfl rfl rfl rfl) rfl (q_m_sets  h) (fun M80 h => ?_)
            refine pM_aln rfl rfl rfl ?_
            refine pM_iln rfl rfl ?_
            refine pM_ic rfl ki_1 ?_
            refine pM_qVi (as := [.inr (.inl (some 190)), .inl (.inl p1), .inl (.inl 1)]) (T := []) rfl rfl (fun C hC => cl_v hC rfl rfl rfl rfl) rfl (q_m_of ) ?_
            refine pM_qVi (as := [.inl (.inl (V_m_of p1 1 M80))]) (T := []) rfl rfl (fun _ _ => rfl) rfl (q_Int_bitCount ) ?_
            exact pM_ri rfl (⟨_, rfl, h⟩)
          · replace h := h.2 h76
            refine pM_ic rfl ki_0 ?_
            exact pM_ri rfl (⟨_, rfl, h⟩)
  · replace h := h.1 h1
    refine pM_aln rfl rfl rfl ?_
    refine pM_iln rfl rfl ?_
    refine pM_qVi (as := [.inr (.inl (some 190)), .inl (.inl p2)]) (T := [.inr (.inl (some 190))]) rfl rfl (fun C hC => cl_v hC rfl rfl rfl rfl) rfl (q_m_noClause ) ?_
    refine pM_zeq rfl rfl (fun h2 => ?_) (fun h2 => ?_)
    · replace h := h.1 h2
      refine pM_ic rfl ki_0 ?_
      refine pM_ic rfl ki_1 ?_
      refine pM_qRi (as := [.inr (.inl (some 190)), .inl (.inl 0), .inl (.inl 1)]) (T := []) rfl rfl (fun C hC => cl_v hC rfl rfl rfl rfl) rfl (q_m_throwsIf  h) (fun r3 M4 h => ?_)
      refine pM_zne rfl rfl (fun h5 => ?_) (fun h5 => ?_)
      · replace h := h.2 h5
        refine pM_ic rfl ki_0 ?_
        exact pM_ri rfl (⟨_, rfl, h⟩)
      · replace h := h.1 h5
        refine pM_aln rfl rfl rfl ?_
        refine pM_aln rfl rfl rfl ?_
        refine pM_iln rfl rfl ?_
        refine pM_qVi (as := [.inr (.inl (some 190)), .inl (.inl p1)]) (T := [.inr (.inl (some 190))]) rfl rfl (fun C hC => cl_v hC rfl rfl rfl rfl) rfl (q_m_isAlive ) ?_
        refine pM_zeq rfl rfl (fun h6 => ?_) (fun h6 => ?_)
        · replace h := h.1 h6
          refine pM_ic rfl ki_1 ?_
          refine pM_go rfl rfl ?_
          refine pM_ic rfl ki_2 ?_
          refine pM_qRi (as := [.inr (.inl (some 190)), .inl (.inl 1), .inl (.inl 2)]) (T := []) rfl rfl (fun C hC => cl_v hC rfl rfl rfl rfl) rfl (q_m_throwsIf  h) (fun r7 M8 h => ?_)
          refine pM_zeq rfl rfl (fun h9 => ?_) (fun h9 => ?_)
          · replace h := h.1 h9
            refine pM_aln rfl rfl rfl ?_
            refine pM_qRu (as := [.inr (.inl (some 190))]) (T := []) rfl rfl (fun C hC => cl_v hC rfl rfl rfl rfl) rfl (q_m_remembers  h) (fun M11 h => ?_)
            refine pM_aln rfl rfl rfl ?_
            refine pM_iln rfl rfl ?_
            refine pM_ic rfl ki_1 ?_
            refine pM_aln rfl rfl rfl ?_
            refine pM_iln rfl rfl ?_
            refine pM_ic rfl ki_1 ?_
            refine pM_qVi (as := [.inr (.inl (some 190)), .inl (.inl p1), .inl (.inl 1)]) (T := [.inl (.inl 1), .inl (.inl p1), .inr (.inl (some 190))]) rfl rfl (fun C hC => cl_v hC rfl rfl rfl rfl) rfl (q_m_of ) ?_
            refine pM_ic rfl ki_1 ?_
            refine pM_iln rfl rfl ?_
            refine pM_shl rfl ?_
            refine pM_or rfl ?_
            refine pM_qRu (as := [.inr (.inl (some 190)), .inl (.inl p1), .inl (.inl 1), .inl (.inl ((V_m_of p1 1 M11) ||| (sl 1 p2)))]) (T := []) rfl rfl (fun C hC => cl_v hC rfl rfl rfl rfl) rfl (q_m_sets  h) (fun M13 h => ?_)
            refine pM_aln rfl rfl rfl ?_
            refine pM_iln rfl rfl ?_
            refine pM_ic rfl ki_1 ?_
            refine pM_qVi (as := [.inr (.inl (some 190)), .inl (.inl p1), .inl (.inl 1)]) (T := []) rfl rfl (fun C hC => cl_v hC rfl rfl rfl rfl) rfl (q_m_of ) ?_
            refine pM_qVi (as := [.inl (.inl (V_m_of p1 1 M13))]) (T := []) rfl rfl (fun _ _ => rfl) rfl (q_Int_bitCount ) ?_
            exact pM_ri rfl (⟨_, rfl, h⟩)
          · replace h := h.2 h9
            refine pM_ic rfl ki_0 ?_
            exact pM_ri rfl (⟨_, rfl, h⟩)
        · replace h := h.2 h6
          refine pM_aln rfl rfl rfl ?_
          refine pM_iln rfl rfl ?_
          refine pM_iln rfl rfl ?_
          refine pM_qVi (as := [.inr (.inl (some 190)), .inl (.inl p1), .inl (.inl p2)]) (T := [.inr (.inl (some 190))]) rfl rfl (fun C hC => cl_v hC rfl rfl rfl rfl) rfl (q_m_knows ) ?_
          refine pM_zeq rfl rfl (fun h14 => ?_) (fun h14 => ?_)
          · replace h := h.1 h14
            refine pM_ic rfl ki_0 ?_
            refine pM_ic rfl ki_2 ?_
            refine pM_qRi (as := [.inr (.inl (some 190)), .inl (.inl 0), .inl (.inl 2)]) (T := []) rfl rfl (fun C hC => cl_v hC rfl rfl rfl rfl) rfl (q_m_throwsIf  h) (fun r15 M16 h => ?_)
            refine pM_zeq rfl rfl (fun h17 => ?_) (fun h17 => ?_)
            · replace h := h.1 h17
              refine pM_aln rfl rfl rfl ?_
              refine pM_qRu (as := [.inr (.inl (some 190))]) (T := []) rfl rfl (fun C hC => cl_v hC rfl rfl rfl rfl) rfl (q_m_remembers  h) (fun M19 h => ?_)
              refine pM_aln rfl rfl rfl ?_
              refine pM_iln rfl rfl ?_
              refine pM_ic rfl ki_1 ?_
              refine pM_aln rfl rfl rfl ?_
              refine pM_iln rfl rfl ?_
              refine pM_ic rfl ki_1 ?_
              refine pM_qVi (as := [.inr (.inl (some 190)), .inl (.inl p1), .inl (.inl 1)]) (T := [.inl (.inl 1), .inl (.inl p1), .inr (.inl (some 190))]) rfl rfl (fun C hC => cl_v hC rfl rfl rfl rfl) rfl (q_m_of ) ?_
              refine pM_ic rfl ki_1 ?_
              refine pM_iln rfl rfl ?_
              refine pM_shl rfl ?_
              refine pM_or rfl ?_
              refine pM_qRu (as := [.inr (.inl (some 190)), .inl (.inl p1), .inl (.inl 1), .inl (.inl ((V_m_of p1 1 M19) ||| (sl 1 p2)))]) (T := []) rfl rfl (fun C hC => cl_v hC rfl rfl rfl rfl) rfl (q_m_sets  h) (fun M21 h => ?_)
              refine pM_aln rfl rfl rfl ?_
              refine pM_iln rfl rfl ?_
              refine pM_ic rfl ki_1 ?_
              refine pM_qVi (as := [.inr (.inl (some 190)), .inl (.inl p1), .inl (.inl 1)]) (T := []) rfl rfl (fun C hC => cl_v hC rfl rfl rfl rfl) rfl (q_m_of ) ?_
              refine pM_qVi (as := [.inl (.inl (V_m_of p1 1 M21))]) (T := []) rfl rfl (fun _ _ => rfl) rfl (q_Int_bitCount ) ?_
              exact pM_ri rfl (⟨_, rfl, h⟩)
            · replace h := h.2 h17
              refine pM_ic rfl ki_0 ?_
              exact pM_ri rfl (⟨_, rfl, h⟩)
          · replace h := h.2 h14
            refine pM_ic rfl ki_1 ?_
            refine pM_go rfl rfl ?_
            refine pM_ic rfl ki_2 ?_
            refine pM_qRi (as := [.inr (.inl (some 190)), .inl (.inl 1), .inl (.inl 2)]) (T := []) rfl rfl (fun C hC => cl_v hC rfl rfl rfl rfl) rfl (q_m_throwsIf  h) (fun r22 M23 h => ?_)
            refine pM_zeq rfl rfl (fun h24 => ?_) (fun h24 => ?_)
            · replace h := h.1 h24
              refine pM_aln rfl rfl rfl ?_
              refine pM_qRu (as := [.inr (.inl (some 190))]) (T := []) rfl rfl (fun C hC => cl_v hC rfl rfl rfl rfl) rfl (q_m_remembers  h) (fun M26 h => ?_)
              refine pM_aln rfl rfl rfl ?_
              refine pM_iln rfl rfl ?_
              refine pM_ic rfl ki_1 ?_
              refine pM_aln rfl rfl rfl ?_
              refine pM_iln rfl rfl ?_
              refine pM_ic rfl ki_1 ?_
              refine pM_qVi (as := [.inr (.inl (some 190)), .inl (.inl p1), .inl (.inl 1)]) (T := [.inl (.inl 1), .inl (.inl p1), .inr (.inl (some 190))]) rfl rfl (fun C hC => cl_v hC rfl rfl rfl rfl) rfl (q_m_of ) ?_
              refine pM_ic rfl ki_1 ?_
              refine pM_iln rfl rfl ?_
              refine pM_shl rfl ?_
              refine pM_or rfl ?_
              refine pM_qRu (as := [.inr (.inl (some 190)), .inl (.inl p1), .inl (.inl 1), .inl (.inl ((V_m_of p1 1 M26) ||| (sl 1 p2)))]) (T := []) rfl rfl (fun C hC => cl_v hC rfl rfl rfl rfl) rfl (q_m_sets  h) (fun M28 h => ?_)
              refine pM_aln rfl rfl rfl ?_
              refine pM_iln rfl rfl ?_
              refine pM_ic rfl ki_1 ?_
              refine pM_qVi (as := [.inr (.inl (some 190)), .inl (.inl p1), .inl (.inl 1)]) (T := []) rfl rfl (fun C hC => cl_v hC rfl rfl rfl rfl) rfl (q_m_of ) ?_
              refine pM_qVi (as := [.inl (.inl (V_m_of p1 1 M28))]) (T := []) rfl rfl (fun _ _ => rfl) rfl (q_Int_bitCount ) ?_
              exact pM_ri rfl (⟨_, rfl, h⟩)
            · replace h := h.2 h24
              refine pM_ic rfl ki_0 ?_
              exact pM_ri rfl (⟨_, rfl, h⟩)
    · replace h := h.2 h2
      refine pM_ic rfl ki_1 ?_
      refine pM_go rfl rfl ?_
      refine pM_ic rfl ki_1 ?_
      refine pM_qRi (as := [.inr (.inl (some 190)), .inl (.inl 1), .inl (.inl 1)]) (T := []) rfl rfl (fun C hC => cl_v hC rfl rfl rfl rfl) rfl (q_m_throwsIf  h) (fun r29 M30 h => ?_)
      refine pM_zne rfl rfl (fun h31 => ?_) (fun h31 => ?_)
      · replace h := h.2 h31
        refine pM_ic rfl ki_0 ?_
        exact pM_ri rfl (⟨_, rfl, h⟩)
      · replace h := h.1 h31
        refine pM_aln rfl rfl rfl ?_
        refine pM_aln rfl rfl rfl ?_
        refine pM_iln rfl rfl ?_
        refine pM_qVi (as := [.inr (.inl (some 190)), .inl (.inl p1)]) (T := [.inr (.inl (some 190))]) rfl rfl (fun C hC => cl_v hC rfl rfl rfl rfl) rfl (q_m_isAlive ) ?_
        refine pM_zeq rfl rfl (fun h32 => ?_) (fun h32 => ?_)
        · replace h := h.1 h32
          refine pM_ic rfl ki_1 ?_
          refine pM_go rfl rfl ?_
          refine pM_ic rfl ki_2 ?_
          refine pM_qRi (as := [.inr (.inl (some 190)), .inl (.inl 1), .inl (.inl 2)]) (T := []) rfl rfl (fun C hC => cl_v hC rfl rfl rfl rfl) rfl (q_m_throwsIf  h) (fun r33 M34 h => ?_)
          refine pM_zeq rfl rfl (fun h35 => ?_) (fun h35 => ?_)
          · replace h := h.1 h35
            refine pM_aln rfl rfl rfl ?_
            refine pM_qRu (as := [.inr (.inl (some 190))]) (T := []) rfl rfl (fun C hC => cl_v hC rfl rfl rfl rfl) rfl (q_m_remembers  h) (fun M37 h => ?_)
            refine pM_aln rfl rfl rfl ?_
            refine pM_iln rfl rfl ?_
            refine pM_ic rfl ki_1 ?_
            refine pM_aln rfl rfl rfl ?_
            refine pM_iln rfl rfl ?_
            refine pM_ic rfl ki_1 ?_
            refine pM_qVi (as := [.inr (.inl (some 190)), .inl (.inl p1), .inl (.inl 1)]) (T := [.inl (.inl 1), .inl (.inl p1), .inr (.inl (some 190))]) rfl rfl (fun C hC => cl_v hC rfl rfl rfl rfl) rfl (q_m_of ) ?_
            refine pM_ic rfl ki_1 ?_
            refine pM_iln rfl rfl ?_
            refine pM_shl rfl ?_
            refine pM_or rfl ?_
            refine pM_qRu (as := [.inr (.inl (some 190)), .inl (.inl p1), .inl (.inl 1), .inl (.inl ((V_m_of p1 1 M37) ||| (sl 1 p2)))]) (T := []) rfl rfl (fun C hC => cl_v hC rfl rfl rfl rfl) rfl (q_m_sets  h) (fun M39 h => ?_)
            refine pM_aln rfl rfl rfl ?_
            refine pM_iln rfl rfl ?_
            refine pM_ic rfl ki_1 ?_
            refine pM_qVi (as := [.inr (.inl (some 190)), .inl (.inl p1), .inl (.inl 1)]) (T := []) rfl rfl (fun C hC => cl_v hC rfl rfl rfl rfl) rfl (q_m_of ) ?_
            refine pM_qVi (as := [.inl (.inl (V_m_of p1 1 M39))]) (T := []) rfl rfl (fun _ _ => rfl) rfl (q_Int_bitCount ) ?_
            exact pM_ri rfl (⟨_, rfl, h⟩)
          · replace h := h.2 h35
            refine pM_ic rfl ki_0 ?_
            exact pM_ri rfl (⟨_, rfl, h⟩)
        · replace h := h.2 h32
          refine pM_aln rfl rfl rfl ?_
          refine pM_iln rfl rfl ?_
          refine pM_iln rfl rfl ?_
          refine pM_qVi (as := [.inr (.inl (some 190)), .inl (.inl p1), .inl (.inl p2)]) (T := [.inr (.inl (some 190))]) rfl rfl (fun C hC => cl_v hC rfl rfl rfl rfl) rfl (q_m_knows ) ?_
          refine pM_zeq rfl rfl (fun h40 => ?_) (fun h40 => ?_)
          · replace h := h.1 h40
            refine pM_ic rfl ki_0 ?_
            refine pM_ic rfl ki_2 ?_
            refine pM_qRi (as := [.inr (.inl (some 190)), .inl (.inl 0), .inl (.inl 2)]) (T := []) rfl rfl (fun C hC => cl_v hC rfl rfl rfl rfl) rfl (q_m_throwsIf  h) (fun r41 M42 h => ?_)
            refine pM_zeq rfl rfl (fun h43 => ?_) (fun h43 => ?_)
            · replace h := h.1 h43
              refine pM_aln rfl rfl rfl ?_
              refine pM_qRu (as := [.inr (.inl (some 190))]) (T := []) rfl rfl (fun C hC => cl_v hC rfl rfl rfl rfl) rfl (q_m_remembers  h) (fun M45 h => ?_)
              refine pM_aln rfl rfl rfl ?_
              refine pM_iln rfl rfl ?_
              refine pM_ic rfl ki_1 ?_
              refine pM_aln rfl rfl rfl ?_
              refine pM_iln rfl rfl ?_
              refine pM_ic rfl ki_1 ?_
              refine pM_qVi (as := [.inr (.inl (some 190)), .inl (.inl p1), .inl (.inl 1)]) (T := [.inl (.inl 1), .inl (.inl p1), .inr (.inl (some 190))]) rfl rfl (fun C hC => cl_v hC rfl rfl rfl rfl) rfl (q_m_of ) ?_
              refine pM_ic rfl ki_1 ?_
              refine pM_iln rfl rfl ?_
              refine pM_shl rfl ?_
              refine pM_or rfl ?_
              refine pM_qRu (as := [.inr (.inl (some 190)), .inl (.inl p1), .inl (.inl 1), .inl (.inl ((V_m_of p1 1 M45) ||| (sl 1 p2)))]) (T := []) rfl rfl (fun C hC => cl_v hC rfl rfl rfl rfl) rfl (q_m_sets  h) (fun M47 h => ?_)
              refine pM_aln rfl rfl rfl ?_
              refine pM_iln rfl rfl ?_
              refine pM_ic rfl ki_1 ?_
              refine pM_qVi (as := [.inr (.inl (some 190)), .inl (.inl p1), .inl (.inl 1)]) (T := []) rfl rfl (fun C hC => cl_v hC rfl rfl rfl rfl) rfl (q_m_of ) ?_
              refine pM_qVi (as := [.inl (.inl (V_m_of p1 1 M47))]) (T := []) rfl rfl (fun _ _ => rfl) rfl (q_Int_bitCount ) ?_
              exact pM_ri rfl (⟨_, rfl, h⟩)
            · replace h := h.2 h43
              refine pM_ic rfl ki_0 ?_
              exact pM_ri rfl (⟨_, rfl, h⟩)
          · replace h := h.2 h40
            refine pM_ic rfl ki_1 ?_
            refine pM_go rfl rfl ?_
            refine pM_ic rfl ki_2 ?_
            refine pM_qRi (as := [.inr (.inl (some 190)), .inl (.inl 1), .inl (.inl 2)]) (T := []) rfl rfl (fun C hC => cl_v hC rfl rfl rfl rfl) rfl (q_m_throwsIf  h) (fun r48 M49 h => ?_)
            refine pM_zeq rfl rfl (fun h50 => ?_) (fun h50 => ?_)
            · replace h := h.1 h50
              refine pM_aln rfl rfl rfl ?_
              refine pM_qRu (as := [.inr (.inl (some 190))]) (T := []) rfl rfl (fun C hC => cl_v hC rfl rfl rfl rfl) rfl (q_m_remembers  h) (fun M52 h => ?_)
              refine pM_aln rfl rfl rfl ?_
              refine pM_iln rfl rfl ?_
              refine pM_ic rfl ki_1 ?_
              refine pM_aln rfl rfl rfl ?_
              refine pM_iln rfl rfl ?_
              refine pM_ic rfl ki_1 ?_
              refine pM_qVi (as := [.inr (.inl (some 190)), .inl (.inl p1), .inl (.inl 1)]) (T := [.inl (.inl 1), .inl (.inl p1), .inr (.inl (some 190))]) rfl rfl (fun C hC => cl_v hC rfl rfl rfl rfl) rfl (q_m_of ) ?_
              refine pM_ic rfl ki_1 ?_
              refine pM_iln rfl rfl ?_
              refine pM_shl rfl ?_
              refine pM_or rfl ?_
              refine pM_qRu (as := [.inr (.inl (some 190)), .inl (.inl p1), .inl (.inl 1), .inl (.inl ((V_m_of p1 1 M52) ||| (sl 1 p2)))]) (T := []) rfl rfl (fun C hC => cl_v hC rfl rfl rfl rfl) rfl (q_m_sets  h) (fun M54 h => ?_)
              refine pM_aln rfl rfl rfl ?_
              refine pM_iln rfl rfl ?_
              refine pM_ic rfl ki_1 ?_
              refine pM_qVi (as := [.inr (.inl (some 190)), .inl (.inl p1), .inl (.inl 1)]) (T := []) rfl rfl (fun C hC => cl_v hC rfl rfl rfl rfl) rfl (q_m_of ) ?_
              refine pM_qVi (as := [.inl (.inl (V_m_of p1 1 M54))]) (T := []) rfl rfl (fun _ _ => rfl) rfl (q_Int_bitCount ) ?_
              exact pM_ri rfl (⟨_, rfl, h⟩)
            · replace h := h.2 h50
              refine pM_ic rfl ki_0 ?_
              exact pM_ri rfl (⟨_, rfl, h⟩)
/-- 263: EarCodeModel.die(I)I -/
def W_m_die (p1 : Int32) (N : Nat) (M : MM) (Q : Int32 → MM → Prop) : Prop :=
  W_m_throwsIf (V_m_noCitizen p1 (wi M 190 0 0)) 1 N (wi M 190 0 0) (fun r1 M2 =>
    ((r1 = 0 →
      (((V_m_isAlive p1 M2) = 0 →
        W_m_throwsIf 1 2 N M2 (fun r5 M6 =>
          ((r5 = 0 →
            W_m_remembers  N M6 (fun M9 =>
              W_m_inForce  N M9 (fun r10 =>
                (((V_m_of p1 4 M9) < 0 →
                  W_m_sets p1 4 (-1) N M9 (fun M14 =>
                    W_m_sets p1 3 0 N M14 (fun M16 =>
                      W_m_sets p1 0 0 N M16 (fun M18 =>
                        W_m_inForce  N M18 (fun r19 =>
                          Q (r10 &&& (r19 ^^^ (-1))) M18))))) ∧
                 (¬ (V_m_of p1 4 M9) < 0 →
                  W_m_sets (V_m_of p1 4 M9) 4 (-1) N M9 (fun M22 =>
                    W_m_sets p1 4 (-1) N M22 (fun M24 =>
                      W_m_sets p1 3 0 N M24 (fun M26 =>
                        W_m_sets p1 0 0 N M26 (fun M28 =>
                          W_m_inForce  N M28 (fun r29 =>
                            Q (r10 &&& (r29 ^^^ (-1))) M28)))))))))) ∧
           (¬ r5 = 0 →
            Q 0 M6)))) ∧
       (¬ (V_m_isAlive p1 M2) = 0 →
        W_m_throwsIf 0 2 N M2 (fun r31 M32 =>
          ((r31 = 0 →
            W_m_remembers  N M32 (fun M35 =>
              W_m_inForce  N M35 (fun r36 =>
                (((V_m_of p1 4 M35) < 0 →
                  W_m_sets p1 4 (-1) N M35 (fun M40 =>
                    W_m_sets p1 3 0 N M40 (fun M42 =>
                      W_m_sets p1 0 0 N M42 (fun M44 =>
                        W_m_inForce  N M44 (fun r45 =>
                          Q (r36 &&& (r45 ^^^ (-1))) M44))))) ∧
                 (¬ (V_m_of p1 4 M35) < 0 →
                  W_m_sets (V_m_of p1 4 M35) 4 (-1) N M35 (fun M48 =>
                    W_m_sets p1 4 (-1) N M48 (fun M50 =>
                      W_m_sets p1 3 0 N M50 (fun M52 =>
                        W_m_sets p1 0 0 N M52 (fun M54 =>
                          W_m_inForce  N M54 (fun r55 =>
                            Q (r36 &&& (r55 ^^^ (-1))) M54)))))))))) ∧
           (¬ r31 = 0 →
            Q 0 M32)))))) ∧
     (¬ r1 = 0 →
      Q 0 M2)))
theorem q_m_die {X : Option (List AI)} {N : Nat} {M : MM} {p1 : Int32} {Q : Int32 → MM → Prop}  (h : W_m_die p1 N M Q) : pM X N 263 0 (ea_ar 0 [.inr (.inl (some 190)), .inl (.inl p1)]) [] M (Ri Q) := by
  refine pM_w (F2 := [(0, .inr (.inl (some 190))), (1, .inl (.inl p1))]) (fun L hL => lo_cons (lo_lk hL rfl) (lo_cons (lo_lk hL rfl) lo_nil)) ?_
  refine pM_aln rfl rfl rfl ?_
  refine pM_ic rfl ki_0 ?_
  refine pM_pi rfl rfl rfl rfl ?_
  refine pM_aln rfl rfl rfl ?_
  refine pM_aln rfl rfl rfl ?_
  refine pM_iln rfl rfl ?_
  refine pM_qVi (as := [.inr (.inl (some 190)), .inl (.inl p1)]) (T := [.inr (.inl (some 190))]) rfl rfl (fun C hC => cl_v hC rfl rfl rfl rfl) rfl (q_m_noCitizen ) ?_
  refine pM_ic rfl ki_1 ?_
  refine pM_qRi (as := [.inr (.inl (some 190)), .inl (.inl (V_m_noCitizen p1 (wi M 190 0 0))), .inl (.inl 1)]) (T := []) rfl rfl (fun C hC => cl_v hC rfl rfl rfl rfl) rfl (q_m_throwsIf  h) (fun r1 M2 h => ?_)
  refine pM_zne rfl rfl (fun h3 => ?_) (fun h3 => ?_)
  · replace h := h.2 h3
    refine pM_ic rfl ki_0 ?_
    exact pM_ri rfl (⟨_, rfl, h⟩)
  · replace h := h.1 h3
    refine pM_aln rfl rfl rfl ?_
    refine pM_aln rfl rfl rfl ?_
    refine pM_iln rfl rfl ?_
    refine pM_qVi (as := [.inr (.inl (some 190)), .inl (.inl p1)]) (T := [.inr (.inl (some 190))]) rfl rfl (fun C hC => cl_v hC rfl rfl rfl rfl) rfl (q_m_isAlive ) ?_
    refine pM_zne rfl rfl (fun h4 => ?_) (fun h4 => ?_)
    · replace h := h.2 h4
      refine pM_ic rfl ki_0 ?_
      refine pM_ic rfl ki_2 ?_
      refine pM_qRi (as := [.inr (.inl (some 190)), .inl (.inl 0), .inl (.inl 2)]) (T := []) rfl rfl (fun C hC => cl_v hC rfl rfl rfl rfl) rfl (q_m_throwsIf  h) (fun r31 M32 h => ?_)
      refine pM_zeq rfl rfl (fun h33 => ?_) (fun h33 => ?_)
      · replace h := h.1 h33
        refine pM_aln rfl rfl rfl ?_
        refine pM_qRu (as := [.inr (.inl (some 190))]) (T := []) rfl rfl (fun C hC => cl_v hC rfl rfl rfl rfl) rfl (q_m_remembers  h) (fun M35 h => ?_)
        refine pM_aln rfl rfl rfl ?_
        refine pM_qPi (as := [.inr (.inl (some 190))]) (T := []) rfl rfl (fun C hC => cl_v hC rfl rfl rfl rfl) rfl (q_m_inForce  h) (fun r36 h => ?_)
        refine pM_isn rfl rfl ?_
        refine pM_aln rfl rfl rfl ?_
        refine pM_iln rfl rfl ?_
        refine pM_ic rfl ki_4 ?_
        refine pM_qVi (as := [.inr (.inl (some 190)), .inl (.inl p1), .inl (.inl 4)]) (T := []) rfl rfl (fun C hC => cl_v hC rfl rfl rfl rfl) rfl (q_m_of ) ?_
        refine pM_isn rfl rfl ?_
        refine pM_iln rfl rfl ?_
        refine pM_zlt rfl rfl (fun h38 => ?_) (fun h38 => ?_)
        · replace h := h.1 h38
          refine pM_aln rfl rfl rfl ?_
          refine pM_iln rfl rfl ?_
          refine pM_ic rfl ki_4 ?_
          refine pM_ic rfl ki_m1 ?_
          refine pM_qRu (as := [.inr (.inl (some 190)), .inl (.inl p1), .inl (.inl 4), .inl (.inl (-1))]) (T := []) rfl rfl (fun C hC => cl_v hC rfl rfl rfl rfl) rfl (q_m_sets  h) (fun M40 h => ?_)
          refine pM_aln rfl rfl rfl ?_
          refine pM_iln rfl rfl ?_
          refine pM_ic rfl ki_3 ?_
          refine pM_ic rfl ki_0 ?_
          refine pM_qRu (as := [.inr (.inl (some 190)), .inl (.inl p1), .inl (.inl 3), .inl (.inl 0)]) (T := []) rfl rfl (fun C hC => cl_v hC rfl rfl rfl rfl) rfl (q_m_sets  h) (fun M42 h => ?_)
          refine pM_aln rfl rfl rfl ?_
          refine pM_iln rfl rfl ?_
          refine pM_ic rfl ki_0 ?_
          refine pM_ic rfl ki_0 ?_
          refine pM_qRu (as := [.inr (.inl (some 190)), .inl (.inl p1), .inl (.inl 0), .inl (.inl 0)]) (T := []) rfl rfl (fun C hC => cl_v hC rfl rfl rfl rfl) rfl (q_m_sets  h) (fun M44 h => ?_)
          refine pM_iln rfl rfl ?_
          refine pM_aln rfl rfl rfl ?_
          refine pM_qPi (as := [.inr (.inl (some 190))]) (T := [.inl (.inl r36)]) rfl rfl (fun C hC => cl_v hC rfl rfl rfl rfl) rfl (q_m_inForce  h) (fun r45 h => ?_)
          refine pM_ic rfl ki_m1 ?_
          refine pM_xor rfl ?_
          refine pM_and rfl ?_
          exact pM_ri rfl (⟨_, rfl, h⟩)
        · replace h := h.2 h38
          refine pM_aln rfl rfl rfl ?_
          refine pM_iln rfl rfl ?_
          refine pM_ic rfl ki_4 ?_
          refine pM_ic rfl ki_m1 ?_
          refine pM_qRu (as := [.inr (.inl (some 190)), .inl (.inl (V_m_of p1 4 M35)), .inl (.inl 4), .inl (.inl (-1))]) (T := []) rfl rfl (fun C hC => cl_v hC rfl rfl rfl rfl) rfl (q_m_sets  h) (fun M48 h => ?_)
          refine pM_aln rfl rfl rfl ?_
          refine pM_iln rfl rfl ?_
          refine pM_ic rfl ki_4 ?_
          refine pM_ic rfl ki_m1 ?_
          refine pM_qRu (as := [.inr (.inl (some 190)), .inl (.inl p1), .inl (.inl 4), .inl (.inl (-1))]) (T := []) rfl rfl (fun C hC => cl_v hC rfl rfl rfl rfl) rfl (q_m_sets  h) (fun M50 h => ?_)
          refine pM_aln rfl rfl rfl ?_
          refine pM_iln rfl rfl ?_
          refine pM_ic rfl ki_3 ?_
          refine pM_ic rfl ki_0 ?_
          refine pM_qRu (as := [.inr (.inl (some 190)), .inl (.inl p1), .inl (.inl 3), .inl (.inl 0)]) (T := []) rfl rfl (fun C hC => cl_v hC rfl rfl rfl rfl) rfl (q_m_sets  h) (fun M52 h => ?_)
          refine pM_aln rfl rfl rfl ?_
          refine pM_iln rfl rfl ?_
          refine pM_ic rfl ki_0 ?_
          refine pM_ic rfl ki_0 ?_
          refine pM_qRu (as := [.inr (.inl (some 190)), .inl (.inl p1), .inl (.inl 0), .inl (.inl 0)]) (T := []) rfl rfl (fun C hC => cl_v hC rfl rfl rfl rfl) rfl (q_m_sets  h) (fun M54 h => ?_)
          refine pM_iln rfl rfl ?_
          refine pM_aln rfl rfl rfl ?_
          refine pM_qPi (as := [.inr (.inl (some 190))]) (T := [.inl (.inl r36)]) rfl rfl (fun C hC => cl_v hC rfl rfl rfl rfl) rfl (q_m_inForce  h) (fun r55 h => ?_)
          refine pM_ic rfl ki_m1 ?_
          refine pM_xor rfl ?_
          refine pM_and rfl ?_
          exact pM_ri rfl (⟨_, rfl, h⟩)
      · replace h := h.2 h33
        refine pM_ic rfl ki_0 ?_
        exact pM_ri rfl (⟨_, rfl, h⟩)
    · replace h := h.1 h4
      refine pM_ic rfl ki_1 ?_
      refine pM_go rfl rfl ?_
      refine pM_ic rfl ki_2 ?_
      refine pM_qRi (as := [.inr (.inl (some 190)), .inl (.inl 1), .inl (.inl 2)]) (T := []) rfl rfl (fun C hC => cl_v hC rfl rfl rfl rfl) rfl (q_m_throwsIf  h) (fun r5 M6 h => ?_)
      refine pM_zeq rfl rfl (fun h7 => ?_) (fun h7 => ?_)
      · replace h := h.1 h7
        refine pM_aln rfl rfl rfl ?_
        refine pM_qRu (as := [.inr (.inl (some 190))]) (T := []) rfl rfl (fun C hC => cl_v hC rfl rfl rfl rfl) rfl (q_m_remembers  h) (fun M9 h => ?_)
        refine pM_aln rfl rfl rfl ?_
        refine pM_qPi (as := [.inr (.inl (some 190))]) (T := []) rfl rfl (fun C hC => cl_v hC rfl rfl rfl rfl) rfl (q_m_inForce  h) (fun r10 h => ?_)
        refine pM_isn rfl rfl ?_
        refine pM_aln rfl rfl rfl ?_
        refine pM_iln rfl rfl ?_
        refine pM_ic rfl ki_4 ?_
        refine pM_qVi (as := [.inr (.inl (some 190)), .inl (.inl p1), .inl (.inl 4)]) (T := []) rfl rfl (fun C hC => cl_v hC rfl rfl rfl rfl) rfl (q_m_of ) ?_
        refine pM_isn rfl rfl ?_
        refine pM_iln rfl rfl ?_
        refine pM_zlt rfl rfl (fun h12 => ?_) (fun h12 => ?_)
        · replace h := h.1 h12
          refine pM_aln rfl rfl rfl ?_
          refine pM_iln rfl rfl ?_
          refine pM_ic rfl ki_4 ?_
          refine pM_ic rfl ki_m1 ?_
          refine pM_qRu (as := [.inr (.inl (some 190)), .inl (.inl p1), .inl (.inl 4), .inl (.inl (-1))]) (T := []) rfl rfl (fun C hC => cl_v hC rfl rfl rfl rfl) rfl (q_m_sets  h) (fun M14 h => ?_)
          refine pM_aln rfl rfl rfl ?_
          refine pM_iln rfl rfl ?_
          refine pM_ic rfl ki_3 ?_
          refine pM_ic rfl ki_0 ?_
          refine pM_qRu (as := [.inr (.inl (some 190)), .inl (.inl p1), .inl (.inl 3), .inl (.inl 0)]) (T := []) rfl rfl (fun C hC => cl_v hC rfl rfl rfl rfl) rfl (q_m_sets  h) (fun M16 h => ?_)
          refine pM_aln rfl rfl rfl ?_
          refine pM_iln rfl rfl ?_
          refine pM_ic rfl ki_0 ?_
          refine pM_ic rfl ki_0 ?_
          refine pM_qRu (as := [.inr (.inl (some 190)), .inl (.inl p1), .inl (.inl 0), .inl (.inl 0)]) (T := []) rfl rfl (fun C hC => cl_v hC rfl rfl rfl rfl) rfl (q_m_sets  h) (fun M18 h => ?_)
          refine pM_iln rfl rfl ?_
          refine pM_aln rfl rfl rfl ?_
          refine pM_qPi (as := [.inr (.inl (some 190))]) (T := [.inl (.inl r10)]) rfl rfl (fun C hC => cl_v hC rfl rfl rfl rfl) rfl (q_m_inForce  h) (fun r19 h => ?_)
          refine pM_ic rfl ki_m1 ?_
          refine pM_xor rfl ?_
          refine pM_and rfl ?_
          exact pM_ri rfl (⟨_, rfl, h⟩)
        · replace h := h.2 h12
          refine pM_aln rfl rfl rfl ?_
          refine pM_iln rfl rfl ?_
          refine pM_ic rfl ki_4 ?_
          refine pM_ic rfl ki_m1 ?_
          refine pM_qRu (as := [.inr (.inl (some 190)), .inl (.inl (V_m_of p1 4 M9)), .inl (.inl 4), .inl (.inl (-1))]) (T := []) rfl rfl (fun C hC => cl_v hC rfl rfl rfl rfl) rfl (q_m_sets  h) (fun M22 h => ?_)
          refine pM_aln rfl rfl rfl ?_
          refine pM_iln rfl rfl ?_
          refine pM_ic rfl ki_4 ?_
          refine pM_ic rfl ki_m1 ?_
          refine pM_qRu (as := [.inr (.inl (some 190)), .inl (.inl p1), .inl (.inl 4), .inl (.inl (-1))]) (T := []) rfl rfl (fun C hC => cl_v hC rfl rfl rfl rfl) rfl (q_m_sets  h) (fun M24 h => ?_)
          refine pM_aln rfl rfl rfl ?_
          refine pM_iln rfl rfl ?_
          refine pM_ic rfl ki_3 ?_
          refine pM_ic rfl ki_0 ?_
          refine pM_qRu (as := [.inr (.inl (some 190)), .inl (.inl p1), .inl (.inl 3), .inl (.inl 0)]) (T := []) rfl rfl (fun C hC => cl_v hC rfl rfl rfl rfl) rfl (q_m_sets  h) (fun M26 h => ?_)
          refine pM_aln rfl rfl rfl ?_
          refine pM_iln rfl rfl ?_
          refine pM_ic rfl ki_0 ?_
          refine pM_ic rfl ki_0 ?_
          refine pM_qRu (as := [.inr (.inl (some 190)), .inl (.inl p1), .inl (.inl 0), .inl (.inl 0)]) (T := []) rfl rfl (fun C hC => cl_v hC rfl rfl rfl rfl) rfl (q_m_sets  h) (fun M28 h => ?_)
          refine pM_iln rfl rfl ?_
          refine pM_aln rfl rfl rfl ?_
          refine pM_qPi (as := [.inr (.inl (some 190))]) (T := [.inl (.inl r10)]) rfl rfl (fun C hC => cl_v hC rfl rfl rfl rfl) rfl (q_m_inForce  h) (fun r29 h => ?_)
          refine pM_ic rfl ki_m1 ?_
          refine pM_xor rfl ?_
          refine pM_and rfl ?_
          exact pM_ri rfl (⟨_, rfl, h⟩)
      · replace h := h.2 h7
        refine pM_ic rfl ki_0 ?_
        exact pM_ri rfl (⟨_, rfl, h⟩)
