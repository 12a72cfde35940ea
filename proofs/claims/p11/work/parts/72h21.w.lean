/-! WHAT EACH METHOD COMES TO (gw.py) -/
def B_m_baby_74 (p1 : Int32) (u2 : Int32) (k98 : MM → Prop) (Q : Int32 → MM → Prop) (N : Nat) (ih : Int32 → MM → Prop) (v3 : Int32) (M : MM) : Prop :=
  ((v3 < 13 →
    W_m_sets u2 v3 (V_m_of p1 v3 M) N M (fun M16 =>
      ih (v3 + 1) M16)) ∧
   (¬ v3 < 13 →
    k98 M))
def W_m_baby_74 (p1 : Int32) (u2 : Int32) (k98 : MM → Prop) (Q : Int32 → MM → Prop) : Nat → Int32 → MM → Prop
  | 0, _, _ => True
  | N + 1, v3, M => B_m_baby_74 p1 u2 k98 Q N (W_m_baby_74 p1 u2 k98 Q N) v3 M
theorem I_m_baby_74 (p1 : Int32) (u2 : Int32) (k98 : MM → Prop) (Q : Int32 → MM → Prop) (inv : Int32 → MM → Prop) (hs : ∀ (N : Nat) (ih : Int32 → MM → Prop) (v3 : Int32) (M : MM), (∀ (v3 : Int32) (M : MM), inv v3 M → ih v3 M) → inv v3 M → B_m_baby_74 p1 u2 k98 Q N ih v3 M) : ∀ (N : Nat) (v3 : Int32) (M : MM), inv v3 M → W_m_baby_74 p1 u2 k98 Q N v3 M := by
  intro N
  induction N with
  | zero => intros; trivial
  | succ N IH =>
    intro v3 M h
    exact hs N _ v3 M IH h
theorem q_m_baby_74 {X : Option (List AI)} {N0 : Nat} {p1 : Int32} {u2 : Int32} {k98 : MM → Prop} {Q : Int32 → MM → Prop}  (hk98 : ∀  (M : MM), k98 M → pM X N0 265 98 [(0, .inr (.inl (some 190))), (2, .inl (.inl u2))] [] M (Ri Q)) : ∀ (N : Nat), N ≤ N0 → ∀ (v3 : Int32) (M : MM), W_m_baby_74 p1 u2 k98 Q N v3 M → pM X N 265 74 [(0, .inr (.inl (some 190))), (1, .inl (.inl p1)), (2, .inl (.inl u2)), (3, .inl (.inl v3))] [] M (Ri Q) := by
  intro N
  induction N with
  | zero => intros; exact pM_zero
  | succ N IH =>
    intro hN v3 M h
    replace hN := Nat.le_of_succ_le hN
    replace h : B_m_baby_74 p1 u2 k98 Q N (W_m_baby_74 p1 u2 k98 Q N) v3 M := h
    refine pM_s (pMs_iln rfl rfl ?_)
    refine pM_bi rfl kb_13 ?_
    refine pM_cge rfl rfl (fun h14 => ?_) (fun h14 => ?_)
    · replace h := h.2 h14
      refine pM_w (F2 := [(0, .inr (.inl (some 190))), (2, .inl (.inl u2))]) (fun L hL => lo_cons (lo_lk hL rfl) (lo_cons (lo_lk hL rfl) lo_nil)) ?_
      exact pM_le hN (hk98 _ h)
    · replace h := h.1 h14
      refine pM_aln rfl rfl rfl ?_
      refine pM_iln rfl rfl ?_
      refine pM_iln rfl rfl ?_
      refine pM_aln rfl rfl rfl ?_
      refine pM_iln rfl rfl ?_
      refine pM_iln rfl rfl ?_
      refine pM_qVi (as := [.inr (.inl (some 190)), .inl (.inl p1), .inl (.inl v3)]) (T := [.inl (.inl v3), .inl (.inl u2), .inr (.inl (some 190))]) rfl rfl (fun C hC => cl_v hC rfl rfl rfl rfl) rfl (q_m_of ) ?_
      refine pM_qRu (as := [.inr (.inl (some 190)), .inl (.inl u2), .inl (.inl v3), .inl (.inl (V_m_of p1 v3 M))]) (T := []) rfl rfl (fun C hC => cl_v hC rfl rfl rfl rfl) rfl (q_m_sets  h) (fun M16 h => ?_)
      refine pM_ii rfl rfl rfl ki_1 ?_
      refine pM_go rfl rfl ?_
      refine pM_w (F2 := [(0, .inr (.inl (some 190))), (1, .inl (.inl p1)), (2, .inl (.inl u2)), (3, .inl (.inl (v3 + 1)))]) (fun L hL => lo_cons (lo_lk hL rfl) (lo_cons (lo_lk hL rfl) (lo_cons (lo_lk hL rfl) (lo_cons (lo_lk hL rfl) lo_nil)))) ?_
      exact IH hN (v3 + 1) M16 h
/-- 265: EarCodeModel.baby(I)I -/
def W_m_baby (p1 : Int32) (N : Nat) (M : MM) (Q : Int32 → MM → Prop) : Prop :=
  W_m_throwsIf (V_m_noCitizen p1 (wi M 190 0 0)) 1 N (wi M 190 0 0) (fun r1 M2 =>
    ((r1 = 0 →
      (((V_m_isAlive p1 M2) = 0 →
        W_m_throwsIf 1 2 N M2 (fun r5 M6 =>
          ((r5 = 0 →
            (((V_m_citizens  M6) = 10 →
              W_m_throwsIf 1 3 N M6 (fun r9 M10 =>
                ((r9 = 0 →
                  W_m_remembers  N M10 (fun M13 =>
                    W_m_baby_74 p1 (V_m_citizens  M13) (fun M17 =>
                      W_m_sets (V_m_citizens  M13) 1 0 N M17 (fun M19 =>
                        W_m_sets (V_m_citizens  M13) 3 0 N M19 (fun M21 =>
                          W_m_sets (V_m_citizens  M13) 4 (-1) N M21 (fun M23 =>
                            W_m_sets (V_m_citizens  M13) 6 0 N M23 (fun M25 =>
                              Q (V_m_citizens  M13) (wi (wj M25 196 (ni (V_m_citizens  M13)) (Int64.ofNat 0)) 191 (ni 0) (((wj M25 196 (ni (V_m_citizens  M13)) (Int64.ofNat 0)).1 191 (ni 0)) + 1))))))) Q N 0 M13)) ∧
                 (¬ r9 = 0 →
                  Q 0 M10)))) ∧
             (¬ (V_m_citizens  M6) = 10 →
              W_m_throwsIf 0 3 N M6 (fun r26 M27 =>
                ((r26 = 0 →
                  W_m_remembers  N M27 (fun M30 =>
                    W_m_baby_74 p1 (V_m_citizens  M30) (fun M31 =>
                      W_m_sets (V_m_citizens  M30) 1 0 N M31 (fun M33 =>
                        W_m_sets (V_m_citizens  M30) 3 0 N M33 (fun M35 =>
                          W_m_sets (V_m_citizens  M30) 4 (-1) N M35 (fun M37 =>
                            W_m_sets (V_m_citizens  M30) 6 0 N M37 (fun M39 =>
                              Q (V_m_citizens  M30) (wi (wj M39 196 (ni (V_m_citizens  M30)) (Int64.ofNat 0)) 191 (ni 0) (((wj M39 196 (ni (V_m_citizens  M30)) (Int64.ofNat 0)).1 191 (ni 0)) + 1))))))) Q N 0 M30)) ∧
                 (¬ r26 = 0 →
                  Q 0 M27)))))) ∧
           (¬ r5 = 0 →
            Q 0 M6)))) ∧
       (¬ (V_m_isAlive p1 M2) = 0 →
        W_m_throwsIf 0 2 N M2 (fun r40 M41 =>
          ((r40 = 0 →
            (((V_m_citizens  M41) = 10 →
              W_m_throwsIf 1 3 N M41 (fun r44 M45 =>
                ((r44 = 0 →
                  W_m_remembers  N M45 (fun M48 =>
                    W_m_baby_74 p1 (V_m_citizens  M48) (fun M49 =>
                      W_m_sets (V_m_citizens  M48) 1 0 N M49 (fun M51 =>
                        W_m_sets (V_m_citizens  M48) 3 0 N M51 (fun M53 =>
                          W_m_sets (V_m_citizens  M48) 4 (-1) N M53 (fun M55 =>
                            W_m_sets (V_m_citizens  M48) 6 0 N M55 (fun M57 =>
                              Q (V_m_citizens  M48) (wi (wj M57 196 (ni (V_m_citizens  M48)) (Int64.ofNat 0)) 191 (ni 0) (((wj M57 196 (ni (V_m_citizens  M48)) (Int64.ofNat 0)).1 191 (ni 0)) + 1))))))) Q N 0 M48)) ∧
                 (¬ r44 = 0 →
                  Q 0 M45)))) ∧
             (¬ (V_m_citizens  M41) = 10 →
              W_m_throwsIf 0 3 N M41 (fun r58 M59 =>
                ((r58 = 0 →
                  W_m_remembers  N M59 (fun M62 =>
                    W_m_baby_74 p1 (V_m_citizens  M62) (fun M63 =>
                      W_m_sets (V_m_citizens  M62) 1 0 N M63 (fun M65 =>
                        W_m_sets (V_m_citizens  M62) 3 0 N M65 (fun M67 =>
                          W_m_sets (V_m_citizens  M62) 4 (-1) N M67 (fun M69 =>
                            W_m_sets (V_m_citizens  M62) 6 0 N M69 (fun M71 =>
                              Q (V_m_citizens  M62) (wi (wj M71 196 (ni (V_m_citizens  M62)) (Int64.ofNat 0)) 191 (ni 0) (((wj M71 196 (ni (V_m_citizens  M62)) (Int64.ofNat 0)).1 191 (ni 0)) + 1))))))) Q N 0 M62)) ∧
                 (¬ r58 = 0 →
                  Q 0 M59)))))) ∧
           (¬ r40 = 0 →
            Q 0 M41)))))) ∧
     (¬ r1 = 0 →
      Q 0 M2)))
theorem q_m_baby {X : Option (List AI)} {N : Nat} {M : MM} {p1 : Int32} {Q : Int32 → MM → Prop}  (h : W_m_baby p1 N M Q) : pM X N 265 0 (ea_ar 0 [.inr (.inl (some 190)), .inl (.inl p1)]) [] M (Ri Q) := by
  refine pM_w (F2 := [(0, .inr (.inl (some 190))), (1, .inl (.inl p1))]) (fun L hL => lo_cons (lo_lk hL rfl) (lo_cons (lo_lk hL rfl) lo_nil)) ?_
  refine pM_aln rfl rfl rfl ?_
  refine pM_ic rfl ki_0 ?_
  refine pM_pi rfl rfl rfl rfl ?_
  refine pM_aln rfl rfl rfl ?_
  refine pM_aln rfl rfl rfl ?_
  refine pM_iln rfl rfl ?_
  refine pM_qVi (as := [.inr (.inl (some 190)), .inl (.inl p1)]) (T := [.inr (.inl (some 190))]) rfl rfl (fun C hC => cl_v hC rfl rfl rfl rfl) rfl (q_m_noCitizen ) ?_
  refine pM_ic rfl ki_1 ?_
  refine pM_qRi (as := [.inr (.inl (some 190)), .inl (.inl (V_m_noCitizen p1 (wi M 190 0 0))), .inl (.inl 1)]) (T := []) rfl rfl (fun C hC => cl_v hC rfl rfl rfl rfl) rfl (q_m_throwsIf  h) (fun r1 M2 h => ?_)
  refine pM_zne rfl rfl (fun h3 => ?_) (fun h3 => ?_)
  · replace h := h.2 h3
    refine pM_ic rfl ki_0 ?_
    exact pM_ri rfl (⟨_, rfl, h⟩)
  · replace h := h.1 h3
    refine pM_aln rfl rfl rfl ?_
    refine pM_aln rfl rfl rfl ?_
    refine pM_iln rfl rfl ?_
    refine pM_qVi (as := [.inr (.inl (some 190)), .inl (.inl p1)]) (T := [.inr (.inl (some 190))]) rfl rfl (fun C hC => cl_v hC rfl rfl rfl rfl) rfl (q_m_isAlive ) ?_
    refine pM_zne rfl rfl (fun h4 => ?_) (fun h4 => ?_)
    · replace h := h.2 h4
      refine pM_ic rfl ki_0 ?_
      refine pM_ic rfl ki_2 ?_
      refine pM_qRi (as := [.inr (.inl (some 190)), .inl (.inl 0), .inl (.inl 2)]) (T := []) rfl rfl (fun C hC => cl_v hC rfl rfl rfl rfl) rfl (q_m_throwsIf  h) (fun r40 M41 h => ?_)
      refine pM_zne rfl rfl (fun h42 => ?_) (fun h42 => ?_)
      · replace h := h.2 h42
        refine pM_ic rfl ki_0 ?_
        exact pM_ri rfl (⟨_, rfl, h⟩)
      · replace h := h.1 h42
        refine pM_aln rfl rfl rfl ?_
        refine pM_aln rfl rfl rfl ?_
        refine pM_qVi (as := [.inr (.inl (some 190))]) (T := [.inr (.inl (some 190))]) rfl rfl (fun C hC => cl_v hC rfl rfl rfl rfl) rfl (q_m_citizens ) ?_
        refine pM_bi rfl kb_10 ?_
        refine pM_cne rfl rfl (fun h43 => ?_) (fun h43 => ?_)
        · replace h := h.2 h43
          refine pM_ic rfl ki_0 ?_
          refine pM_ic rfl ki_3 ?_
          refine pM_qRi (as := [.inr (.inl (some 190)), .inl (.inl 0), .inl (.inl 3)]) (T := []) rfl rfl (fun C hC => cl_v hC rfl rfl rfl rfl) rfl (q_m_throwsIf  h) (fun r58 M59 h => ?_)
          refine pM_zeq rfl rfl (fun h60 => ?_) (fun h60 => ?_)
          · replace h := h.1 h60
            refine pM_aln rfl rfl rfl ?_
            refine pM_qRu (as := [.inr (.inl (some 190))]) (T := []) rfl rfl (fun C hC => cl_v hC rfl rfl rfl rfl) rfl (q_m_remembers  h) (fun M62 h => ?_)
            refine pM_aln rfl rfl rfl ?_
            refine pM_qVi (as := [.inr (.inl (some 190))]) (T := []) rfl rfl (fun C hC => cl_v hC rfl rfl rfl rfl) rfl (q_m_citizens ) ?_
            refine pM_isn rfl rfl ?_
            refine pM_ic rfl ki_0 ?_
            refine pM_isn rfl rfl ?_
            refine pM_w (F2 := [(0, .inr (.inl (some 190))), (1, .inl (.inl p1)), (2, .inl (.inl (V_m_citizens  M62))), (3, .inl (.inl 0))]) (fun L hL => lo_cons (lo_lk hL rfl) (lo_cons (lo_lk hL rfl) (lo_cons (lo_lk hL rfl) (lo_cons (lo_lk hL rfl) lo_nil)))) ?_
            refine q_m_baby_74  (fun M63 h => ?_) N (Nat.le_refl N) 0 M62 h
            · refine pM_aln rfl rfl rfl ?_
              refine pM_iln rfl rfl ?_
              refine pM_ic rfl ki_1 ?_
              refine pM_ic rfl ki_0 ?_
              refine pM_qRu (as := [.inr (.inl (some 190)), .inl (.inl (V_m_citizens  M62)), .inl (.inl 1), .inl (.inl 0)]) (T := []) rfl rfl (fun C hC => cl_v hC rfl rfl rfl rfl) rfl (q_m_sets  h) (fun M65 h => ?_)
              refine pM_aln rfl rfl rfl ?_
              refine pM_iln rfl rfl ?_
              refine pM_ic rfl ki_3 ?_
              refine pM_ic rfl ki_0 ?_
              refine pM_qRu (as := [.inr (.inl (some 190)), .inl (.inl (V_m_citizens  M62)), .inl (.inl 3), .inl (.inl 0)]) (T := []) rfl rfl (fun C hC => cl_v hC rfl rfl rfl rfl) rfl (q_m_sets  h) (fun M67 h => ?_)
              refine pM_aln rfl rfl rfl ?_
              refine pM_iln rfl rfl ?_
              refine pM_ic rfl ki_4 ?_
              refine pM_ic rfl ki_m1 ?_
              refine pM_qRu (as := [.inr (.inl (some 190)), .inl (.inl (V_m_citizens  M62)), .inl (.inl 4), .inl (.inl (-1))]) (T := []) rfl rfl (fun C hC => cl_v hC rfl rfl rfl rfl) rfl (q_m_sets  h) (fun M69 h => ?_)
              refine pM_aln rfl rfl rfl ?_
              refine pM_iln rfl rfl ?_
              refine pM_bi rfl kb_6 ?_
              refine pM_ic rfl ki_0 ?_
              refine pM_qRu (as := [.inr (.inl (some 190)), .inl (.inl (V_m_citizens  M62)), .inl (.inl 6), .inl (.inl 0)]) (T := []) rfl rfl (fun C hC => cl_v hC rfl rfl rfl rfl) rfl (q_m_sets  h) (fun M71 h => ?_)
              refine pM_aln rfl rfl rfl ?_
              refine pM_gr rfl rfl rfl rfl ?_
              refine pM_iln rfl rfl ?_
              refine pM_lc rfl ?_
              refine pM_sg rfl rfl ?_
              refine pM_aln rfl rfl rfl ?_
              refine pM_gr rfl rfl rfl rfl ?_
              refine pM_ic rfl ki_0 ?_
              refine pM_p (pc' := 140) (S' := [.inl (.inl 0), .inr (.inl (some 191)), .inl (.inl 0), .inr (.inl (some 191))]) rfl rfl (fun _ => rfl) ?_
              refine pM_ai rfl rfl row_p ?_
              refine pM_ic rfl ki_1 ?_
              refine pM_add rfl ?_
              refine pM_sa rfl rfl row_p ?_
              refine pM_iln rfl rfl ?_
              exact pM_ri rfl (⟨_, rfl, h⟩)
          · replace h := h.2 h60
            refine pM_ic rfl ki_0 ?_
            exact pM_ri rfl (⟨_, rfl, h⟩)
        · replace h := h.1 h43
          refine pM_ic rfl ki_1 ?_
          refine pM_go rfl rfl ?_
          refine pM_ic rfl ki_3 ?_
          refine pM_qRi (as := [.inr (.inl (some 190)), .inl (.inl 1), .inl (.inl 3)]) (T := []) rfl rfl (fun C hC => cl_v hC rfl rfl rfl rfl) rfl (q_m_throwsIf  h) (fun r44 M45 h => ?_)
          refine pM_zeq rfl rfl (fun h46 => ?_) (fun h46 => ?_)
          · replace h := h.1 h46
            refine pM_aln rfl rfl rfl ?_
            refine pM_qRu (as := [.inr (.inl (some 190))]) (T := []) rfl rfl (fun C hC => cl_v hC rfl rfl rfl rfl) rfl (q_m_remembers  h) (fun M48 h => ?_)
            refine pM_aln rfl rfl rfl ?_
            refine pM_qVi (as := [.inr (.inl (some 190))]) (T := []) rfl rfl (fun C hC => cl_v hC rfl rfl rfl rfl) rfl (q_m_citizens ) ?_
            refine pM_isn rfl rfl ?_
            refine pM_ic rfl ki_0 ?_
            refine pM_isn rfl rfl ?_
            refine pM_w (F2 := [(0, .inr (.inl (some 190))), (1, .inl (.inl p1)), (2, .inl (.inl (V_m_citizens  M48))), (3, .inl (.inl 0))]) (fun L hL => lo_cons (lo_lk hL rfl) (lo_cons (lo_lk hL rfl) (lo_cons (lo_lk hL rfl) (lo_cons (lo_lk hL rfl) lo_nil)))) ?_
            refine q_m_baby_74  (fun M49 h => ?_) N (Nat.le_refl N) 0 M48 h
            · refine pM_aln rfl rfl rfl ?_
              refine pM_iln rfl rfl ?_
              refine pM_ic rfl ki_1 ?_
              refine pM_ic rfl ki_0 ?_
              refine pM_qRu (as := [.inr (.inl (some 190)), .inl (.inl (V_m_citizens  M48)), .inl (.inl 1), .inl (.inl 0)]) (T := []) rfl rfl (fun C hC => cl_v hC rfl rfl rfl rfl) rfl (q_m_sets  h) (fun M51 h => ?_)
              refine pM_aln rfl rfl rfl ?_
              refine pM_iln rfl rfl ?_
              refine pM_ic rfl ki_3 ?_
              refine pM_ic rfl ki_0 ?_
              refine pM_qRu (as := [.inr (.inl (some 190)), .inl (.inl (V_m_citizens  M48)), .inl (.inl 3), .inl (.inl 0)]) (T := []) rfl rfl (fun C hC => cl_v hC rfl rfl rfl rfl) rfl (q_m_sets  h) (fun M53 h => ?_)
              refine pM_aln rfl rfl rfl ?_
              refine pM_iln rfl rfl ?_
              refine pM_ic rfl ki_4 ?_
              refine pM_ic rfl ki_m1 ?_
              refine pM_qRu (as := [.inr (.inl (some 190)), .inl (.inl (V_m_citizens  M48)), .inl (.inl 4), .inl (.inl (-1))]) (T := []) rfl rfl (fun C hC => cl_v hC rfl rfl rfl rfl) rfl (q_m_sets  h) (fun M55 h => ?_)
              refine pM_aln rfl rfl rfl ?_
              refine pM_iln rfl rfl ?_
              refine pM_bi rfl kb_6 ?_
              refine pM_ic rfl ki_0 ?_
              refine pM_qRu (as := [.inr (.inl (some 190)), .inl (.inl (V_m_citizens  M48)), .inl (.inl 6), .inl (.inl 0)]) (T := []) rfl rfl (fun C hC => cl_v hC rfl rfl rfl rfl) rfl (q_m_sets  h) (fun M57 h => ?_)
              refine pM_aln rfl rfl rfl ?_
              refine pM_gr rfl rfl rfl rfl ?_
              refine pM_iln rfl rfl ?_
              refine pM_lc rfl ?_
              refine pM_sg rfl rfl ?_
              refine pM_aln rfl rfl rfl ?_
              refine pM_gr rfl rfl rfl rfl ?_
              refine pM_ic rfl ki_0 ?_
              refine pM_p (pc' := 140) (S' := [.inl (.inl 0), .inr (.inl (some 191)), .inl (.inl 0), .inr (.inl (some 191))]) rfl rfl (fun _ => rfl) ?_
              refine pM_ai rfl rfl row_p ?_
              refine pM_ic rfl ki_1 ?_
              refine pM_add rfl ?_
              refine pM_sa rfl rfl row_p ?_
              refine pM_iln rfl rfl ?_
              exact pM_ri rfl (⟨_, rfl, h⟩)
          · replace h := h.2 h46
            refine pM_ic rfl ki_0 ?_
            exact pM_ri rfl (⟨_, rfl, h⟩)
    · replace h := h.1 h4
      refine pM_ic rfl ki_1 ?_
      refine pM_go rfl rfl ?_
      refine pM_ic rfl ki_2 ?_
      refine pM_qRi (as := [.inr (.inl (some 190)), .inl (.inl 1), .inl (.inl 2)]) (T := []) rfl rfl (fun C hC => cl_v hC rfl rfl rfl rfl) rfl (q_m_throwsIf  h) (fun r5 M6 h => ?_)
      refine pM_zne rfl rfl (fun h7 => ?_) (fun h7 => ?_)
      · replace h := h.2 h7
        refine pM_ic rfl ki_0 ?_
        exact pM_ri rfl (⟨_, rfl, h⟩)
      · replace h := h.1 h7
        refine pM_aln rfl rfl rfl ?_
        refine pM_aln rfl rfl rfl ?_
        refine pM_qVi (as := [.inr (.inl (some 190))]) (T := [.inr (.inl (some 190))]) rfl rfl (fun C hC => cl_v hC rfl rfl rfl rfl) rfl (q_m_citizens ) ?_
        refine pM_bi rfl kb_10 ?_
        refine pM_cne rfl rfl (fun h8 => ?_) (fun h8 => ?_)
        · replace h := h.2 h8
          refine pM_ic rfl ki_0 ?_
          refine pM_ic rfl ki_3 ?_
          refine pM_qRi (as := [.inr (.inl (some 190)), .inl (.inl 0), .inl (.inl 3)]) (T := []) rfl rfl (fun C hC => cl_v hC rfl rfl rfl rfl) rfl (q_m_throwsIf  h) (fun r26 M27 h => ?_)
          refine pM_zeq rfl rfl (fun h28 => ?_) (fun h28 => ?_)
          · replace h := h.1 h28
            refine pM_aln rfl rfl rfl ?_
            refine pM_qRu (as := [.inr (.inl (some 190))]) (T := []) rfl rfl (fun C hC => cl_v hC rfl rfl rfl rfl) rfl (q_m_remembers  h) (fun M30 h => ?_)
            refine pM_aln rfl rfl rfl ?_
            refine pM_qVi (as := [.inr (.inl (some 190))]) (T := []) rfl rfl (fun C hC => cl_v hC rfl rfl rfl rfl) rfl (q_m_citizens ) ?_
            refine pM_isn rfl rfl ?_
            refine pM_ic rfl ki_0 ?_
            refine pM_isn rfl rfl ?_
            refine pM_w (F2 := [(0, .inr (.inl (some 190))), (1, .inl (.inl p1)), (2, .inl (.inl (V_m_citizens  M30))), (3, .inl (.inl 0))]) (fun L hL => lo_cons (lo_lk hL rfl) (lo_cons (lo_lk hL rfl) (lo_cons (lo_lk hL rfl) (lo_cons (lo_lk hL rfl) lo_nil)))) ?_
            refine q_m_baby_74  (fun M31 h => ?_) N (Nat.le_refl N) 0 M30 h
            · refine pM_aln rfl rfl rfl ?_
              refine pM_iln rfl rfl ?_
              refine pM_ic rfl ki_1 ?_
              refine pM_ic rfl ki_0 ?_
              refine pM_qRu (as := [.inr (.inl (some 190)), .inl (.inl (V_m_citizens  M30)), .inl (.inl 1), .inl (.inl 0)]) (T := []) rfl rfl (fun C hC => cl_v hC rfl rfl rfl rfl) rfl (q_m_sets  h) (fun M33 h => ?_)
              refine pM_aln rfl rfl rfl ?_
              refine pM_iln rfl rfl ?_
              refine pM_ic rfl ki_3 ?_
              refine pM_ic rfl ki_0 ?_
              refine pM_qRu (as := [.inr (.inl (some 190)), .inl (.inl (V_m_citizens  M30)), .inl (.inl 3), .inl (.inl 0)]) (T := []) rfl rfl (fun C hC => cl_v hC rfl rfl rfl rfl) rfl (q_m_sets  h) (fun M35 h => ?_)
              refine pM_aln rfl rfl rfl ?_
              refine pM_iln rfl rfl ?_
              refine pM_ic rfl ki_4 ?_
              refine pM_ic rfl ki_m1 ?_
              refine pM_qRu (as := [.inr (.inl (some 190)), .inl (.inl (V_m_citizens  M30)), .inl (.inl 4), .inl (.inl (-1))]) (T := []) rfl rfl (fun C hC => cl_v hC rfl rfl rfl rfl) rfl (q_m_sets  h) (fun M37 h => ?_)
              refine pM_aln rfl rfl rfl ?_
              refine pM_iln rfl rfl ?_
              refine pM_bi rfl kb_6 ?_
              refine pM_ic rfl ki_0 ?_
              refine pM_qRu (as := [.inr (.inl (some 190)), .inl (.inl (V_m_citizens  M30)), .inl (.inl 6), .inl (.inl 0)]) (T := []) rfl rfl (fun C hC => cl_v hC rfl rfl rfl rfl) rfl (q_m_sets  h) (fun M39 h => ?_)
              refine pM_aln rfl rfl rfl ?_
              refine pM_gr rfl rfl rfl rfl ?_
              refine pM_iln rfl rfl ?_
              refine pM_lc rfl ?_
              refine pM_sg rfl rfl ?_
              refine pM_aln rfl rfl rfl ?_
              refine pM_gr rfl rfl rfl rfl ?_
              refine pM_ic rfl ki_0 ?_
              refine pM_p (pc' := 140) (S' := [.inl (.inl 0), .inr (.inl (some 191)), .inl (.inl 0), .inr (.inl (some 191))]) rfl rfl (fun _ => rfl) ?_
              refine pM_ai rfl rfl row_p ?_
              refine pM_ic rfl ki_1 ?_
              refine pM_add rfl ?_
              refine pM_sa rfl rfl row_p ?_
              refine pM_iln rfl rfl ?_
              exact pM_ri rfl (⟨_, rfl, h⟩)
          · replace h := h.2 h28
            refine pM_ic rfl ki_0 ?_
            exact pM_ri rfl (⟨_, rfl, h⟩)
        · replace h := h.1 h8
          refine pM_ic rfl ki_1 ?_
          refine pM_go rfl rfl ?_
          refine pM_ic rfl ki_3 ?_
          refine pM_qRi (as := [.inr (.inl (some 190)), .inl (.inl 1), .inl (.inl 3)]) (T := []) rfl rfl (fun C hC => cl_v hC rfl rfl rfl rfl) rfl (q_m_throwsIf  h) (fun r9 M10 h => ?_)
          refine pM_zeq rfl rfl (fun h11 => ?_) (fun h11 => ?_)
          · replace h := h.1 h11
            refine pM_aln rfl rfl rfl ?_
            refine pM_qRu (as := [.inr (.inl (some 190))]) (T := []) rfl rfl (fun C hC => cl_v hC rfl rfl rfl rfl) rfl (q_m_remembers  h) (fun M13 h => ?_)
            refine pM_aln rfl rfl rfl ?_
            refine pM_qVi (as := [.inr (.inl (some 190))]) (T := []) rfl rfl (fun C hC => cl_v hC rfl rfl rfl rfl) rfl (q_m_citizens ) ?_
            refine pM_isn rfl rfl ?_
            refine pM_ic rfl ki_0 ?_
            refine pM_isn rfl rfl ?_
            refine pM_w (F2 := [(0, .inr (.inl (some 190))), (1, .inl (.inl p1)), (2, .inl (.inl (V_m_citizens  M13))), (3, .inl (.inl 0))]) (fun L hL => lo_cons (lo_lk hL rfl) (lo_cons (lo_lk hL rfl) (lo_cons (lo_lk hL rfl) (lo_cons (lo_lk hL rfl) lo_nil)))) ?_
            refine q_m_baby_74  (fun M17 h => ?_) N (Nat.le_refl N) 0 M13 h
            · refine pM_aln rfl rfl rfl ?_
              refine pM_iln rfl rfl ?_
              refine pM_ic rfl ki_1 ?_
              refine pM_ic rfl ki_0 ?_
              refine pM_qRu (as := [.inr (.inl (some 190)), .inl (.inl (V_m_citizens  M13)), .inl (.inl 1), .inl (.inl 0)]) (T := []) rfl rfl (fun C hC => cl_v hC rfl rfl rfl rfl) rfl (q_m_sets  h) (fun M19 h => ?_)
              refine pM_aln rfl rfl rfl ?_
              refine pM_iln rfl rfl ?_
              refine pM_ic rfl ki_3 ?_
              refine pM_ic rfl ki_0 ?_
              refine pM_qRu (as := [.inr (.inl (some 190)), .inl (.inl (V_m_citizens  M13)), .inl (.inl 3), .inl (.inl 0)]) (T := []) rfl rfl (fun C hC => cl_v hC rfl rfl rfl rfl) rfl (q_m_sets  h) (fun M21 h => ?_)
              refine pM_aln rfl rfl rfl ?_
              refine pM_iln rfl rfl ?_
              refine pM_ic rfl ki_4 ?_
              refine pM_ic rfl ki_m1 ?_
              refine pM_qRu (as := [.inr (.inl (some 190)), .inl (.inl (V_m_citizens  M13)), .inl (.inl 4), .inl (.inl (-1))]) (T := []) rfl rfl (fun C hC => cl_v hC rfl rfl rfl rfl) rfl (q_m_sets  h) (fun M23 h => ?_)
              refine pM_aln rfl rfl rfl ?_
              refine pM_iln rfl rfl ?_
              refine pM_bi rfl kb_6 ?_
              refine pM_ic rfl ki_0 ?_
              refine pM_qRu (as := [.inr (.inl (some 190)), .inl (.inl (V_m_citizens  M13)), .inl (.inl 6), .inl (.inl 0)]) (T := []) rfl rfl (fun C hC => cl_v hC rfl rfl rfl rfl) rfl (q_m_sets  h) (fun M25 h => ?_)
              refine pM_aln rfl rfl rfl ?_
              refine pM_gr rfl rfl rfl rfl ?_
              refine pM_iln rfl rfl ?_
              refine pM_lc rfl ?_
              refine pM_sg rfl rfl ?_
              refine pM_aln rfl rfl rfl ?_
              refine pM_gr rfl rfl rfl rfl ?_
              refine pM_ic rfl ki_0 ?_
              refine pM_p (pc' := 140) (S' := [.inl (.inl 0), .inr (.inl (some 191)), .inl (.inl 0), .inr (.inl (some 191))]) rfl rfl (fun _ => rfl) ?_
              refine pM_ai rfl rfl row_p ?_
              refine pM_ic rfl ki_1 ?_
              refine pM_add rfl ?_
              refine pM_sa rfl rfl row_p ?_
              refine pM_iln rfl rfl ?_
              exact pM_ri rfl (⟨_, rfl, h⟩)
          · replace h := h.2 h11
            refine pM_ic rfl ki_0 ?_
            exact pM_ri rfl (⟨_, rfl, h⟩)
/-- 266: EarCodeModel.release(I)I -/
def W_m_release (p1 : Int32) (N : Nat) (M : MM) (Q : Int32 → MM → Prop) : Prop :=
  W_m_throwsIf (V_m_noCitizen p1 (wi M 190 0 0)) 1 N (wi M 190 0 0) (fun r1 M2 =>
    ((r1 = 0 →
      (((V_m_isAlive p1 M2) = 0 →
        W_m_throwsIf 1 2 N M2 (fun r5 M6 =>
          ((r5 = 0 →
            W_m_remembers  N M6 (fun M9 =>
              W_m_sets p1 3 0 N M9 (fun M11 =>
                Q (V_m_of p1 3 M9) M11))) ∧
           (¬ r5 = 0 →
            Q 0 M6)))) ∧
       (¬ (V_m_isAlive p1 M2) = 0 →
        (((V_m_of p1 3 M2) = 0 →
          W_m_throwsIf 1 2 N M2 (fun r13 M14 =>
            ((r13 = 0 →
              W_m_remembers  N M14 (fun M17 =>
                W_m_sets p1 3 0 N M17 (fun M19 =>
                  Q (V_m_of p1 3 M17) M19))) ∧
             (¬ r13 = 0 →
              Q 0 M14)))) ∧
         (¬ (V_m_of p1 3 M2) = 0 →
          W_m_throwsIf 0 2 N M2 (fun r20 M21 =>
            ((r20 = 0 →
              W_m_remembers  N M21 (fun M24 =>
                W_m_sets p1 3 0 N M24 (fun M26 =>
                  Q (V_m_of p1 3 M24) M26))) ∧
             (¬ r20 = 0 →
              Q 0 M21)))))))) ∧
     (¬ r1 = 0 →
      Q 0 M2)))
theorem q_m_release {X : Option (List AI)} {N : Nat} {M : MM} {p1 : Int32} {Q : Int32 → MM → Prop}  (h : W_m_release p1 N M Q) : pM X N 266 0 (ea_ar 0 [.inr (.inl (some 190)), .inl (.inl p1)]) [] M (Ri Q) := by
  refine pM_w (F2 := [(0, .inr (.inl (some 190))), (1, .inl (.inl p1))]) (fun L hL => lo_cons (lo_lk hL rfl) (lo_cons (lo_lk hL rfl) lo_nil)) ?_
  refine pM_aln rfl rfl rfl ?_
  refine pM_ic rfl ki_0 ?_
  refine pM_pi rfl rfl rfl rfl ?_
  refine pM_aln rfl rfl rfl ?_
  refine pM_aln rfl rfl rfl ?_
  refine pM_iln rfl rfl ?_
  refine pM_qVi (as := [.inr (.inl (some 190)), .inl (.inl p1)]) (T := [.inr (.inl (some 190))]) rfl rfl (fun C hC => cl_v hC rfl rfl rfl rfl) rfl (q_m_noCitizen ) ?_
  refine pM_ic rfl ki_1 ?_
  refine pM_qRi (as := [.inr (.inl (some 190)), .inl (.inl (V_m_noCitizen p1 (wi M 190 0 0))), .inl (.inl 1)]) (T := []) rfl rfl (fun C hC => cl_v hC rfl rfl rfl rfl) rfl (q_m_throwsIf  h) (fun r1 M2 h => ?_)
  refine pM_zne rfl rfl (fun h3 => ?_) (fun h3 => ?_)
  · replace h := h.2 h3
    refine pM_ic rfl ki_0 ?_
    exact pM_ri rfl (⟨_, rfl, h⟩)
  · replace h := h.1 h3
    refine pM_aln rfl rfl rfl ?_
    refine pM_aln rfl rfl rfl ?_
    refine pM_iln rfl rfl ?_
    refine pM_qVi (as := [.inr (.inl (some 190)), .inl (.inl p1)]) (T := [.inr (.inl (some 190))]) rfl rfl (fun C hC => cl_v hC rfl rfl rfl rfl) rfl (q_m_isAlive ) ?_
    refine pM_zeq rfl rfl (fun h4 => ?_) (fun h4 => ?_)
    · replace h := h.1 h4
      refine pM_ic rfl ki_1 ?_
      refine pM_go rfl rfl ?_
      refine pM_ic rfl ki_2 ?_
      refine pM_qRi (as := [.inr (.inl (some 190)), .inl (.inl 1), .inl (.inl 2)]) (T := []) rfl rfl (fun C hC => cl_v hC rfl rfl rfl rfl) rfl (q_m_throwsIf  h) (fun r5 M6 h => ?_)
      refine pM_zeq rfl rfl (fun h7 => ?_) (fun h7 => ?_)
      · replace h := h.1 h7
        refine pM_aln rfl rfl rfl ?_
        refine pM_qRu (as := [.inr (.inl (some 190))]) (T := []) rfl rfl (fun C hC => cl_v hC rfl rfl rfl rfl) rfl (q_m_remembers  h) (fun M9 h => ?_)
        refine pM_aln rfl rfl rfl ?_
        refine pM_iln rfl rfl ?_
        refine pM_ic rfl ki_3 ?_
        refine pM_qVi (as := [.inr (.inl (some 190)), .inl (.inl p1), .inl (.inl 3)]) (T := []) rfl rfl (fun C hC => cl_v hC rfl rfl rfl rfl) rfl (q_m_of ) ?_
        refine pM_isn rfl rfl ?_
        refine pM_aln rfl rfl rfl ?_
        refine pM_iln rfl rfl ?_
        refine pM_ic rfl ki_3 ?_
        refine pM_ic rfl ki_0 ?_
        refine pM_qRu (as := [.inr (.inl (some 190)), .inl (.inl p1), .inl (.inl 3), .inl (.inl 0)]) (T := []) rfl rfl (fun C hC => cl_v hC rfl rfl rfl rfl) rfl (q_m_sets  h) (fun M11 h => ?_)
        refine pM_iln rfl rfl ?_
        exact pM_ri rfl (⟨_, rfl, h⟩)
      · replace h := h.2 h7
        refine pM_ic rfl ki_0 ?_
        exact pM_ri rfl (⟨_, rfl, h⟩)
    · replace h := h.2 h4
      refine pM_aln rfl rfl rfl ?_
      refine pM_iln rfl rfl ?_
      refine pM_ic rfl ki_3 ?_
      refine pM_qVi (as := [.inr (.inl (some 190)), .inl (.inl p1), .inl (.inl 3)]) (T := [.inr (.inl (some 190))]) rfl rfl (fun C hC => cl_v hC rfl rfl rfl rfl) rfl (q_m_of ) ?_
      refine pM_zne rfl rfl (fun h12 => ?_) (fun h12 => ?_)
      · replace h := h.2 h12
        refine pM_ic rfl ki_0 ?_
        refine pM_ic rfl ki_2 ?_
        refine pM_qRi (as := [.inr (.inl (some 190)), .inl (.inl 0), .inl (.inl 2)]) (T := []) rfl rfl (fun C hC => cl_v hC rfl rfl rfl rfl) rfl (q_m_throwsIf  h) (fun r20 M21 h => ?_)
        refine pM_zeq rfl rfl (fun h22 => ?_) (fun h22 => ?_)
        · replace h := h.1 h22
          refine pM_aln rfl rfl rfl ?_
          refine pM_qRu (as := [.inr (.inl (some 190))]) (T := []) rfl rfl (fun C hC => cl_v hC rfl rfl rfl rfl) rfl (q_m_remembers  h) (fun M24 h => ?_)
          refine pM_aln rfl rfl rfl ?_
          refine pM_iln rfl rfl ?_
          refine pM_ic rfl ki_3 ?_
          refine pM_qVi (as := [.inr (.inl (some 190)), .inl (.inl p1), .inl (.inl 3)]) (T := []) rfl rfl (fun C hC => cl_v hC rfl rfl rfl rfl) rfl (q_m_of ) ?_
          refine pM_isn rfl rfl ?_
          refine pM_aln rfl rfl rfl ?_
          refine pM_iln rfl rfl ?_
          refine pM_ic rfl ki_3 ?_
          refine pM_ic rfl ki_0 ?_
          refine pM_qRu (as := [.inr (.inl (some 190)), .inl (.inl p1), .inl (.inl 3), .inl (.inl 0)]) (T := []) rfl rfl (fun C hC => cl_v hC rfl rfl rfl rfl) rfl (q_m_sets  h) (fun M26 h => ?_)
          refine pM_iln rfl rfl ?_
          exact pM_ri rfl (⟨_, rfl, h⟩)
        · replace h := h.2 h22
          refine pM_ic rfl ki_0 ?_
          exact pM_ri rfl (⟨_, rfl, h⟩)
      · replace h := h.1 h12
        refine pM_ic rfl ki_1 ?_
        refine pM_go rfl rfl ?_
        refine pM_ic rfl ki_2 ?_
        refine pM_qRi (as := [.inr (.inl (some 190)), .inl (.inl 1), .inl (.inl 2)]) (T := []) rfl rfl (fun C hC => cl_v hC rfl rfl rfl rfl) rfl (q_m_throwsIf  h) (fun r13 M14 h => ?_)
        refine pM_zeq rfl rfl (fun h15 => ?_) (fun h15 => ?_)
        · replace h := h.1 h15
          refine pM_aln rfl rfl rfl ?_
          refine pM_qRu (as := [.inr (.inl (some 190))]) (T := []) rfl rfl (fun C hC => cl_v hC rfl rfl rfl rfl) rfl (q_m_remembers  h) (fun M17 h => ?_)
          refine pM_aln rfl rfl rfl ?_
          refine pM_iln rfl rfl ?_
          refine pM_ic rfl ki_3 ?_
          refine pM_qVi (as := [.inr (.inl (some 190)), .inl (.inl p1), .inl (.inl 3)]) (T := []) rfl rfl (fun C hC => cl_v hC rfl rfl rfl rfl) rfl (q_m_of ) ?_
          refine pM_isn rfl rfl ?_
          refine pM_aln rfl rfl rfl ?_
          refine pM_iln rfl rfl ?_
          refine pM_ic rfl ki_3 ?_
          refine pM_ic rfl ki_0 ?_
          refine pM_qRu (as := [.inr (.inl (some 190)), .inl (.inl p1), .inl (.inl 3), .inl (.inl 0)]) (T := []) rfl rfl (fun C hC => cl_v hC rfl rfl rfl rfl) rfl (q_m_sets  h) (fun M19 h => ?_)
          refine pM_iln rfl rfl ?_
          exact pM_ri rfl (⟨_, rfl, h⟩)
        · replace h := h.2 h15
          refine pM_ic rfl ki_0 ?_
          exact pM_ri rfl (⟨_, rfl, h⟩)
/-- 267: EarCodeModel.keeps(II)Z -/
def W_m_keeps (p1 : Int32) (p2 : Int32) (N : Nat) (M : MM) (Q : Int32 → MM → Prop) : Prop :=
  W_m_may p2 p1 N M (fun r1 M2 =>
    ((r1 = 0 →
      Q 1 M2) ∧
     (¬ r1 = 0 →
      (((V_m_hasMatter (M2.2 196 (ni p1)) p2 M2) = 0 →
        Q 0 M2) ∧
       (¬ (V_m_hasMatter (M2.2 196 (ni p1)) p2 M2) = 0 →
        W_m_draw 100 N M2 (fun r5 M6 =>
          ((r5 < (V_m_of p1 2 M6) →
            Q 1 M6) ∧
           (¬ r5 < (V_m_of p1 2 M6) →
            Q 0 M6))))))))
theorem q_m_keeps {X : Option (List AI)} {N : Nat} {M : MM} {p1 : Int32} {p2 : Int32} {Q : Int32 → MM → Prop}  (h : W_m_keeps p1 p2 N M Q) : pM X N 267 0 (ea_ar 0 [.inr (.inl (some 190)), .inl (.inl p1), .inl (.inl p2)]) [] M (Ri Q) := by
  refine pM_w (F2 := [(0, .inr (.inl (some 190))), (1, .inl (.inl p1)), (2, .inl (.inl p2))]) (fun L hL => lo_cons (lo_lk hL rfl) (lo_cons (lo_lk hL rfl) (lo_cons (lo_lk hL rfl) lo_nil))) ?_
  refine pM_aln rfl rfl rfl ?_
  refine pM_iln rfl rfl ?_
  refine pM_iln rfl rfl ?_
  refine pM_qRi (as := [.inr (.inl (some 190)), .inl (.inl p2), .inl (.inl p1)]) (T := []) rfl rfl (fun C hC => cl_v hC rfl rfl rfl rfl) rfl (q_m_may  h) (fun r1 M2 h => ?_)
  refine pM_zne rfl rfl (fun h3 => ?_) (fun h3 => ?_)
  · replace h := h.2 h3
    refine pM_aln rfl rfl rfl ?_
    refine pM_gr rfl rfl rfl rfl ?_
    refine pM_iln rfl rfl ?_
    refine pM_la rfl rfl ?_
    refine pM_iln rfl rfl ?_
    refine pM_qVi (as := [.inr (.inr (.inl (some (M2.2 196 (ni p1))))), .inl (.inl p2)]) (T := []) rfl rfl (fun _ _ => rfl) rfl (q_m_hasMatter ) ?_
    refine pM_zeq rfl rfl (fun h4 => ?_) (fun h4 => ?_)
    · replace h := h.1 h4
      refine pM_ic rfl ki_0 ?_
      exact pM_ri rfl (⟨_, rfl, h⟩)
    · replace h := h.2 h4
      refine pM_aln rfl rfl rfl ?_
      refine pM_bi rfl kb_100 ?_
      refine pM_qRi (as := [.inr (.inl (some 190)), .inl (.inl 100)]) (T := []) rfl rfl (fun C hC => cl_v hC rfl rfl rfl rfl) rfl (q_m_draw  h) (fun r5 M6 h => ?_)
      refine pM_aln rfl rfl rfl ?_
      refine pM_iln rfl rfl ?_
      refine pM_ic rfl ki_2 ?_
      refine pM_qVi (as := [.inr (.inl (some 190)), .inl (.inl p1), .inl (.inl 2)]) (T := [.inl (.inl r5)]) rfl rfl (fun C hC => cl_v hC rfl rfl rfl rfl) rfl (q_m_of ) ?_
      refine pM_cge rfl rfl (fun h7 => ?_) (fun h7 => ?_)
      · replace h := h.2 h7
        refine pM_ic rfl ki_0 ?_
        exact pM_ri rfl (⟨_, rfl, h⟩)
      · replace h := h.1 h7
        refine pM_ic rfl ki_1 ?_
        refine pM_go rfl rfl ?_
        exact pM_ri rfl (⟨_, rfl, h⟩)
  · replace h := h.1 h3
    refine pM_ic rfl ki_1 ?_
    exact pM_ri rfl (⟨_, rfl, h⟩)
def B_m_isLogged_5 (p1 : Int32) (p2 : Int32) (p3 : Int32) (k41 : MM → Prop) (Q : MM → Prop) (N : Nat) (ih : Int32 → MM → Prop) (v4 : Int32) (M : MM) : Prop :=
  ((v4 < 4 →
    k41 M) ∧
   (¬ v4 < 4 →
    ih (v4 + (-1)) (wi M 191 (ni (148 + v4)) (M.1 191 (ni ((148 + v4) - 4))))))
def W_m_isLogged_5 (p1 : Int32) (p2 : Int32) (p3 : Int32) (k41 : MM → Prop) (Q : MM → Prop) : Nat → Int32 → MM → Prop
  | 0, _, _ => True
  | N + 1, v4, M => B_m_isLogged_5 p1 p2 p3 k41 Q N (W_m_isLogged_5 p1 p2 p3 k41 Q N) v4 M
theorem I_m_isLogged_5 (p1 : Int32) (p2 : Int32) (p3 : Int32) (k41 : MM → Prop) (Q : MM → Prop) (inv : Int32 → MM → Prop) (hs : ∀ (N : Nat) (ih : Int32 → MM → Prop) (v4 : Int32) (M : MM), (∀ (v4 : Int32) (M : MM), inv v4 M → ih v4 M) → inv v4 M → B_m_isLogged_5 p1 p2 p3 k41 Q N ih v4 M) : ∀ (N : Nat) (v4 : Int32) (M : MM), inv v4 M → W_m_isLogged_5 p1 p2 p3 k41 Q N v4 M := by
  intro N
  induction N with
  | zero => intros; trivial
  | succ N IH =>
    intro v4 M h
    exact hs N _ v4 M IH h
theorem q_m_isLogged_5 {X : Option (List AI)} {N0 : Nat} {p1 : Int32} {p2 : Int32} {p3 : Int32} {k41 : MM → Prop} {Q : MM → Prop}  (hk41 : ∀  (M : MM), k41 M → pM X N0 268 41 [(0, .inr (.inl (some 190))), (1, .inl (.inl p1)), (2, .inl (.inl p2)), (3, .inl (.inl p3))] [] M (Ru Q)) : ∀ (N : Nat), N ≤ N0 → ∀ (v4 : Int32) (M : MM), W_m_isLogged_5 p1 p2 p3 k41 Q N v4 M → pM X N 268 5 [(0, .inr (.inl (some 190))), (1, .inl (.inl p1)), (2, .inl (.inl p2)), (3, .inl (.inl p3)), (4, .inl (.inl v4))] [] M (Ru Q) := by
  intro N
  induction N with
  | zero => intros; exact pM_zero
  | succ N IH =>
    intro hN v4 M h
    replace hN := Nat.le_of_succ_le hN
    replace h : B_m_isLogged_5 p1 p2 p3 k41 Q N (W_m_isLogged_5 p1 p2 p3 k41 Q N) v4 M := h
    refine pM_s (pMs_il rfl rfl ?_)
    refine pM_ic rfl ki_4 ?_
    refine pM_clt rfl rfl (fun h1 => ?_) (fun h1 => ?_)
    · replace h := h.1 h1
      refine pM_w (F2 := [(0, .inr (.inl (some 190))), (1, .inl (.inl p1)), (2, .inl (.inl p2)), (3, .inl (.inl p3))]) (fun L hL => lo_cons (lo_lk hL rfl) (lo_cons (lo_lk hL rfl) (lo_cons (lo_lk hL rfl) (lo_cons (lo_lk hL rfl) lo_nil)))) ?_
      exact pM_le hN (hk41 _ h)
    · replace h := h.2 h1
      refine pM_aln rfl rfl rfl ?_
      refine pM_gr rfl rfl rfl rfl ?_
      refine pM_si rfl ks_148 ?_
      refine pM_il rfl rfl ?_
      refine pM_add rfl ?_
      refine pM_aln rfl rfl rfl ?_
      refine pM_gr rfl rfl rfl rfl ?_
      refine pM_si rfl ks_148 ?_
      refine pM_il rfl rfl ?_
      refine pM_add rfl ?_
      refine pM_ic rfl ki_4 ?_
      refine pM_sub rfl ?_
      refine pM_ai rfl rfl row_p ?_
      refine pM_sa rfl rfl row_p ?_
      refine pM_ii rfl rfl rfl ki_m1 ?_
      refine pM_go rfl rfl ?_
      refine pM_w (F2 := [(0, .inr (.inl (some 190))), (1, .inl (.inl p1)), (2, .inl (.inl p2)), (3, .inl (.inl p3)), (4, .inl (.inl (v4 + (-1))))]) (fun L hL => lo_cons (lo_lk hL rfl) (lo_cons (lo_lk hL rfl) (lo_cons (lo_lk hL rfl) (lo_cons (lo_lk hL rfl) (lo_cons (lo_lk hL rfl) lo_nil))))) ?_
      exact IH hN (v4 + (-1)) (wi M 191 (ni (148 + v4)) (M.1 191 (ni ((148 + v4) - 4)))) h
/-- 268: EarCodeModel.isLogged(III)V -/
def W_m_isLogged (p1 : Int32) (p2 : Int32) (p3 : Int32) (N : Nat) (M : MM) (Q : MM → Prop) : Prop :=
  W_m_isLogged_5 p1 p2 p3 (fun M2 =>
    Q (wi (wi (wi (wi (wi M2 191 (ni 148) (M2.1 191 (ni 2))) 191 (ni 149) p1) 191 (ni 150) p2) 191 (ni 151) p3) 191 (ni 6) (mn 60 (((wi (wi (wi (wi M2 191 (ni 148) (M2.1 191 (ni 2))) 191 (ni 149) p1) 191 (ni 150) p2) 191 (ni 151) p3).1 191 (ni 6)) + 1)))) Q N 239 M
theorem q_m_isLogged {X : Option (List AI)} {N : Nat} {M : MM} {p1 : Int32} {p2 : Int32} {p3 : Int32} {Q : MM → Prop}  (h : W_m_isLogged p1 p2 p3 N M Q) : pM X N 268 0 (ea_ar 0 [.inr (.inl (some 190)), .inl (.inl p1), .inl (.inl p2), .inl (.inl p3)]) [] M (Ru Q) := by
  refine pM_w (F2 := [(0, .inr (.inl (some 190))), (1, .inl (.inl p1)), (2, .inl (.inl p2)), (3, .inl (.inl p3))]) (fun L hL => lo_cons (lo_lk hL rfl) (lo_cons (lo_lk hL rfl) (lo_cons (lo_lk hL rfl) (lo_cons (lo_lk hL rfl) lo_nil)))) ?_
  refine pM_si rfl ks_239 ?_
  refine pM_is rfl rfl ?_
  refine pM_w (F2 := [(0, .inr (.inl (some 190))), (1, .inl (.inl p1)), (2, .inl (.inl p2)), (3, .inl (.inl p3)), (4, .inl (.inl 239))]) (fun L hL => lo_cons (lo_lk hL rfl) (lo_cons (lo_lk hL rfl) (lo_cons (lo_lk hL rfl) (lo_cons (lo_lk hL rfl) (lo_cons (lo_lk hL rfl) lo_nil))))) ?_
  refine q_m_isLogged_5  (fun M2 h => ?_) N (Nat.le_refl N) 239 M h
  · refine pM_aln rfl rfl rfl ?_
    refine pM_gr rfl rfl rfl rfl ?_
    refine pM_si rfl ks_148 ?_
    refine pM_aln rfl rfl rfl ?_
    refine pM_gr rfl rfl rfl rfl ?_
    refine pM_ic rfl ki_2 ?_
    refine pM_ai rfl rfl row_p ?_
    refine pM_sa rfl rfl row_p ?_
    refine pM_aln rfl rfl rfl ?_
    refine pM_gr rfl rfl rfl rfl ?_
    refine pM_si rfl ks_149 ?_
    refine pM_iln rfl rfl ?_
    refine pM_sa rfl rfl row_p ?_
    refine pM_aln rfl rfl rfl ?_
    refine pM_gr rfl rfl rfl rfl ?_
    refine pM_si rfl ks_150 ?_
    refine pM_iln rfl rfl ?_
    refine pM_sa rfl rfl row_p ?_
    refine pM_aln rfl rfl rfl ?_
    refine pM_gr rfl rfl rfl rfl ?_
    refine pM_si rfl ks_151 ?_
    refine pM_iln rfl rfl ?_
    refine pM_sa rfl rfl row_p ?_
    refine pM_aln rfl rfl rfl ?_
    refine pM_gr rfl rfl rfl rfl ?_
    refine pM_bi rfl kb_6 ?_
    refine pM_bi rfl kb_60 ?_
    refine pM_aln rfl rfl rfl ?_
    refine pM_gr rfl rfl rfl rfl ?_
    refine pM_bi rfl kb_6 ?_
    refine pM_ai rfl rfl row_p ?_
    refine pM_ic rfl ki_1 ?_
    refine pM_add rfl ?_
    refine pM_mn rfl rfl ?_
    refine pM_sa rfl rfl row_p ?_
    exact pM_ru rfl (⟨rfl, h⟩)
/-- 316: java/lang/Integer.numberOfTrailingZeros(I)I -/
def V_Int_numberOfTrailingZeros (p0 : Int32) (M : MM) : Int32 :=
  (if 0 < ((p0 ^^^ (-1)) &&& (p0 - 1)) then
    (if 65536 < ((p0 ^^^ (-1)) &&& (p0 - 1)) then
      (if 256 < (su ((p0 ^^^ (-1)) &&& (p0 - 1)) 16) then
        (if 16 < (su (su ((p0 ^^^ (-1)) &&& (p0 - 1)) 16) 8) then
          (if 4 < (su (su (su ((p0 ^^^ (-1)) &&& (p0 - 1)) 16) 8) 4) then
            (((((1 + 16) + 8) + 4) + 2) + (su (su (su (su (su ((p0 ^^^ (-1)) &&& (p0 - 1)) 16) 8) 4) 2) 1))
          else
            ((((1 + 16) + 8) + 4) + (su (su (su (su ((p0 ^^^ (-1)) &&& (p0 - 1)) 16) 8) 4) 1)))
        else
          (if 4 < (su (su ((p0 ^^^ (-1)) &&& (p0 - 1)) 16) 8) then
            ((((1 + 16) + 8) + 2) + (su (su (su (su ((p0 ^^^ (-1)) &&& (p0 - 1)) 16) 8) 2) 1))
          else
            (((1 + 16) + 8) + (su (su (su ((p0 ^^^ (-1)) &&& (p0 - 1)) 16) 8) 1))))
      else
        (if 16 < (su ((p0 ^^^ (-1)) &&& (p0 - 1)) 16) then
          (if 4 < (su (su ((p0 ^^^ (-1)) &&& (p0 - 1)) 16) 4) then
            ((((1 + 16) + 4) + 2) + (su (su (su (su ((p0 ^^^ (-1)) &&& (p0 - 1)) 16) 4) 2) 1))
          else
            (((1 + 16) + 4) + (su (su (su ((p0 ^^^ (-1)) &&& (p0 - 1)) 16) 4) 1)))
        else
          (if 4 < (su ((p0 ^^^ (-1)) &&& (p0 - 1)) 16) then
            (((1 + 16) + 2) + (su (su (su ((p0 ^^^ (-1)) &&& (p0 - 1)) 16) 2) 1))
          else
            ((1 + 16) + (su (su ((p0 ^^^ (-1)) &&& (p0 - 1)) 16) 1)))))
    else
      (if 256 < ((p0 ^^^ (-1)) &&& (p0 - 1)) then
        (if 16 < (su ((p0 ^^^ (-1)) &&& (p0 - 1)) 8) then
          (if 4 < (su (su ((p0 ^^^ (-1)) &&& (p0 - 1)) 8) 4) then
            ((((1 + 8) + 4) + 2) + (su (su (su (su ((p0 ^^^ (-1)) &&& (p0 - 1)) 8) 4) 2) 1))
          else
            (((1 + 8) + 4) + (su (su (su ((p0 ^^^ (-1)) &&& (p0 - 1)) 8) 4) 1)))
        else
          (if 4 < (su ((p0 ^^^ (-1)) &&& (p0 - 1)) 8) then
            (((1 + 8) + 2) + (su (su (su ((p0 ^^^ (-1)) &&& (p0 - 1)) 8) 2) 1))
          else
            ((1 + 8) + (su (su ((p0 ^^^ (-1)) &&& (p0 - 1)) 8) 1))))
      else
        (if 16 < ((p0 ^^^ (-1)) &&& (p0 - 1)) then
          (if 4 < (su ((p0 ^^^ (-1)) &&& (p0 - 1)) 4) then
            (((1 + 4) + 2) + (su (su (su ((p0 ^^^ (-1)) &&& (p0 - 1)) 4) 2) 1))
          else
            ((1 + 4) + (su (su ((p0 ^^^ (-1)) &&& (p0 - 1)) 4) 1)))
        else
          (if 4 < ((p0 ^^^ (-1)) &&& (p0 - 1)) then
            ((1 + 2) + (su (su ((p0 ^^^ (-1)) &&& (p0 - 1)) 2) 1))
          else
            (1 + (su ((p0 ^^^ (-1)) &&& (p0 - 1)) 1))))))
  else
    (((p0 ^^^ (-1)) &&& (p0 - 1)) &&& 32))
theorem q_Int_numberOfTrailingZeros {X : Option (List AI)} {N : Nat} {M : MM} {p0 : Int32}  : pM X N 316 0 (ea_ar 0 [.inl (.inl p0)]) [] M (Vi (V_Int_numberOfTrailingZeros p0 M) M) := by
  refine pM_w (F2 := [(0, .inl (.inl p0))]) (fun L hL => lo_cons (lo_lk hL rfl) lo_nil) ?_
  refine pM_iln rfl rfl ?_
  refine pM_ic rfl ki_m1 ?_
  refine pM_xor rfl ?_
  refine pM_iln rfl rfl ?_
  refine pM_ic rfl ki_1 ?_
  refine pM_sub rfl ?_
  refine pM_and rfl ?_
  refine pM_isn rfl rfl ?_
  refine pM_iln rfl rfl ?_
  refine pM_zgt rfl rfl (fun h1 => ?_) (fun h1 => ?_)
  · refine pM_ic rfl ki_1 ?_
    refine pM_isn rfl rfl ?_
    refine pM_iln rfl rfl ?_
    refine pM_ldw rfl rfl kn_65536 ?_
    refine pM_cle rfl rfl (fun h2 => ?_) (fun h2 => ?_)
    · refine pM_iln rfl rfl ?_
      refine pM_si rfl ks_256 ?_
      refine pM_cle rfl rfl (fun h10 => ?_) (fun h10 => ?_)
      · refine pM_iln rfl rfl ?_
        refine pM_bi rfl kb_16 ?_
        refine pM_cle rfl rfl (fun h14 => ?_) (fun h14 => ?_)
        · refine pM_iln rfl rfl ?_
          refine pM_ic rfl ki_4 ?_
          refine pM_cle rfl rfl (fun h16 => ?_) (fun h16 => ?_)
          · refine pM_iln rfl rfl ?_
            refine pM_iln rfl rfl ?_
            refine pM_ic rfl ki_1 ?_
            refine pM_ushr rfl ?_
            refine pM_add rfl ?_
            exact pM_rVi rfl (Eq.trans (if_pos h1) (Eq.trans (if_neg h2) (Eq.trans (if_neg h10) (Eq.trans (if_neg h14) (Eq.trans (if_neg h16) rfl)))))
          · refine pM_ii rfl rfl rfl ki_2 ?_
            refine pM_iln rfl rfl ?_
            refine pM_ic rfl ki_2 ?_
            refine pM_ushr rfl ?_
            refine pM_isn rfl rfl ?_
            refine pM_iln rfl rfl ?_
            refine pM_iln rfl rfl ?_
            refine pM_ic rfl ki_1 ?_
            refine pM_ushr rfl ?_
            refine pM_add rfl ?_
            exact pM_rVi rfl (Eq.trans (if_pos h1) (Eq.trans (if_neg h2) (Eq.trans (if_neg h10) (Eq.trans (if_neg h14) (Eq.trans (if_pos h16) rfl)))))
        · refine pM_ii rfl rfl rfl ki_4 ?_
          refine pM_iln rfl rfl ?_
          refine pM_ic rfl ki_4 ?_
          refine pM_ushr rfl ?_
          refine pM_isn rfl rfl ?_
          refine pM_iln rfl rfl ?_
          refine pM_ic rfl ki_4 ?_
          refine pM_cle rfl rfl (fun h15 => ?_) (fun h15 => ?_)
          · refine pM_iln rfl rfl ?_
            refine pM_iln rfl rfl ?_
            refine pM_ic rfl ki_1 ?_
            refine pM_ushr rfl ?_
            refine pM_add rfl ?_
            exact pM_rVi rfl (Eq.trans (if_pos h1) (Eq.trans (if_neg h2) (Eq.trans (if_neg h10) (Eq.trans (if_pos h14) (Eq.trans (if_neg h15) rfl)))))
          · refine pM_ii rfl rfl rfl ki_2 ?_
            refine pM_iln rfl rfl ?_
            refine pM_ic rfl ki_2 ?_
            refine pM_ushr rfl ?_
            refine pM_isn rfl rfl ?_
            refine pM_iln rfl rfl ?_
            refine pM_iln rfl rfl ?_
            refine pM_ic rfl ki_1 ?_
            refine pM_ushr rfl ?_
            refine pM_add rfl ?_
            exact pM_rVi rfl (Eq.trans (if_pos h1) (Eq.trans (if_neg h2) (Eq.trans (if_neg h10) (Eq.trans (if_pos h14) (Eq.trans (if_pos h15) rfl)))))
      · refine pM_ii rfl rfl rfl ki_8 ?_
        refine pM_iln rfl rfl ?_
        refine pM_bi rfl kb_8 ?_
        refine pM_ushr rfl ?_
        refine pM_isn rfl rfl ?_
        refine pM_iln rfl rfl ?_
        refine pM_bi rfl kb_16 ?_
        refine pM_cle rfl rfl (fun h11 => ?_) (fun h11 => ?_)
        · refine pM_iln rfl rfl ?_
          refine pM_ic rfl ki_4 ?_
          refine pM_cle rfl rfl (fun h13 => ?_) (fun h13 => ?_)
          · refine pM_iln rfl rfl ?_
            refine pM_iln rfl rfl ?_
            refine pM_ic rfl ki_1 ?_
            refine pM_ushr rfl ?_
            refine pM_add rfl ?_
            exact pM_rVi rfl (Eq.trans (if_pos h1) (Eq.trans (if_neg h2) (Eq.trans (if_pos h10) (Eq.trans (if_neg h11) (Eq.trans (if_neg h13) rfl)))))
          · refine pM_ii rfl rfl rfl ki_2 ?_
            refine pM_iln rfl rfl ?_
            refine pM_ic rfl ki_2 ?_
            refine pM_ushr rfl ?_
            refine pM_isn rfl rfl ?_
            refine pM_iln rfl rfl ?_
            refine pM_iln rfl rfl ?_
            refine pM_ic rfl ki_1 ?_
            refine pM_ushr rfl ?_
            refine pM_add rfl ?_
            exact pM_rVi rfl (Eq.trans (if_pos h1) (Eq.trans (if_neg h2) (Eq.trans (if_pos h10) (Eq.trans (if_neg h11) (Eq.trans (if_pos h13) rfl)))))
        · refine pM_ii rfl rfl rfl ki_4 ?_
          refine pM_iln rfl rfl ?_
          refine pM_ic rfl ki_4 ?_
          refine pM_ushr rfl ?_
          refine pM_isn rfl rfl ?_
          refine pM_iln rfl rfl ?_
          refine pM_ic rfl ki_4 ?_
          refine pM_cle rfl rfl (fun h12 => ?_) (fun h12 => ?_)
          · refine pM_iln rfl rfl ?_
            refine pM_iln rfl rfl ?_
            refine pM_ic rfl ki_1 ?_
            refine pM_ushr rfl ?_
            refine pM_add rfl ?_
            exact pM_rVi rfl (Eq.trans (if_pos h1) (Eq.trans (if_neg h2) (Eq.trans (if_pos h10) (Eq.trans (if_pos h11) (Eq.trans (if_neg h12) rfl)))))
          · refine pM_ii rfl rfl rfl ki_2 ?_
            refine pM_iln rfl rfl ?_
            refine pM_ic rfl ki_2 ?_
            refine pM_ushr rfl ?_
            refine pM_isn rfl rfl ?_
            refine pM_iln rfl rfl ?_
            refine pM_iln rfl rfl ?_
            refine pM_ic rfl ki_1 ?_
            refine pM_ushr rfl ?_
            refine pM_add rfl ?_
            exact pM_rVi rfl (Eq.trans (if_pos h1) (Eq.trans (if_neg h2) (Eq.trans (if_pos h10) (Eq.trans (if_pos h11) (Eq.trans (if_pos h12) rfl)))))
    · refine pM_ii rfl rfl rfl ki_16 ?_
      refine pM_iln rfl rfl ?_
      refine pM_bi rfl kb_16 ?_
      refine pM_ushr rfl ?_
      refine pM_isn rfl rfl ?_
      refine pM_iln rfl rfl ?_
      refine pM_si rfl ks_256 ?_
      refine pM_cle rfl rfl (fun h3 => ?_) (fun h3 => ?_)
      · refine pM_iln rfl rfl ?_
        refine pM_bi rfl kb_16 ?_
        refine pM_cle rfl rfl (fun h7 => ?_) (fun h7 => ?_)
        · refine pM_iln rfl rfl ?_
          refine pM_ic rfl ki_4 ?_
          refine pM_cle rfl rfl (fun h9 => ?_) (fun h9 => ?_)
          · refine pM_iln rfl rfl ?_
            refine pM_iln rfl rfl ?_
            refine pM_ic rfl ki_1 ?_
            refine pM_ushr rfl ?_
            refine pM_add rfl ?_
            exact pM_rVi rfl (Eq.trans (if_pos h1) (Eq.trans (if_pos h2) (Eq.trans (if_neg h3) (Eq.trans (if_neg h7) (Eq.trans (if_neg h9) rfl)))))
          · refine pM_ii rfl rfl rfl ki_2 ?_
            refine pM_iln rfl rfl ?_
            refine pM_ic rfl ki_2 ?_
            refine pM_ushr rfl ?_
            refine pM_isn rfl rfl ?_
            refine pM_iln rfl rfl ?_
            refine pM_iln rfl rfl ?_
            refine pM_ic rfl ki_1 ?_
            refine pM_ushr rfl ?_
            refine pM_add rfl ?_
            exact pM_rVi rfl (Eq.trans (if_pos h1) (Eq.trans (if_pos h2) (Eq.trans (if_neg h3) (Eq.trans (if_neg h7) (Eq.trans (if_pos h9) rfl)))))
        · refine pM_ii rfl rfl rfl ki_4 ?_
          refine pM_iln rfl rfl ?_
          refine pM_ic rfl ki_4 ?_
          refine pM_ushr rfl ?_
          refine pM_isn rfl rfl ?_
          refine pM_iln rfl rfl ?_
          refine pM_ic rfl ki_4 ?_
          refine pM_cle rfl rfl (fun h8 => ?_) (fun h8 => ?_)
          · refine pM_iln rfl rfl ?_
            refine pM_iln rfl rfl ?_
            refine pM_ic rfl ki_1 ?_
            refine pM_ushr rfl ?_
            refine pM_add rfl ?_
            exact pM_rVi rfl (Eq.trans (if_pos h1) (Eq.trans (if_pos h2) (Eq.trans (if_neg h3) (Eq.trans (if_pos h7) (Eq.trans (if_neg h8) rfl)))))
          · refine pM_ii rfl rfl rfl ki_2 ?_
            refine pM_iln rfl rfl ?_
            refine pM_ic rfl ki_2 ?_
            refine pM_ushr rfl ?_
            refine pM_isn rfl rfl ?_
            refine pM_iln rfl rfl ?_
            refine pM_iln rfl rfl ?_
            refine pM_ic rfl ki_1 ?_
            refine pM_ushr rfl ?_
            refine pM_add rfl ?_
            exact pM_rVi rfl (Eq.trans (if_pos h1) (Eq.trans (if_pos h2) (Eq.trans (if_neg h3) (Eq.trans (if_pos h7) (Eq.trans (if_pos h8) rfl)))))
      · refine pM_ii rfl rfl rfl ki_8 ?_
        refine pM_iln rfl rfl ?_
        refine pM_bi rfl kb_8 ?_
        refine pM_ushr rfl ?_
        refine pM_isn rfl rfl ?_
        refine pM_iln rfl rfl ?_
        refine pM_bi rfl kb_16 ?_
        refine pM_cle rfl rfl (fun h4 => ?_) (fun h4 => ?_)
        · refine pM_iln rfl rfl ?_
          refine pM_ic rfl ki_4 ?_
          refine pM_cle rfl rfl (fun h6 => ?_) (fun h6 => ?_)
          · refine pM_iln rfl rfl ?_
            refine pM_iln rfl rfl ?_
            refine pM_ic rfl ki_1 ?_
            refine pM_ushr rfl ?_
            refine pM_add rfl ?_
            exact pM_rVi rfl (Eq.trans (if_pos h1) (Eq.trans (if_pos h2) (Eq.trans (if_pos h3) (Eq.trans (if_neg h4) (Eq.trans (if_neg h6) rfl)))))
          · refine pM_ii rfl rfl rfl ki_2 ?_
            refine pM_iln rfl rfl ?_
            refine pM_ic rfl ki_2 ?_
            refine pM_ushr rfl ?_
            refine pM_isn rfl rfl ?_
            refine pM_iln rfl rfl ?_
            refine pM_iln rfl rfl ?_
            refine pM_ic rfl ki_1 ?_
            refine pM_ushr rfl ?_
            refine pM_add rfl ?_
            exact pM_rVi rfl (Eq.trans (if_pos h1) (Eq.trans (if_pos h2) (Eq.trans (if_pos h3) (Eq.trans (if_neg h4) (Eq.trans (if_pos h6) rfl)))))
        · refine pM_ii rfl rfl rfl ki_4 ?_
          refine pM_iln rfl rfl ?_
          refine pM_ic rfl ki_4 ?_
          refine pM_ushr rfl ?_
          refine pM_isn rfl rfl ?_
          refine pM_iln rfl rfl ?_
          refine pM_ic rfl ki_4 ?_
          refine pM_cle rfl rfl (fun h5 => ?_) (fun h5 => ?_)
          · refine pM_iln rfl rfl ?_
            refine pM_iln rfl rfl ?_
            refine pM_ic rfl ki_1 ?_
            refine pM_ushr rfl ?_
            refine pM_add rfl ?_
            exact pM_rVi rfl (Eq.trans (if_pos h1) (Eq.trans (if_pos h2) (Eq.trans (if_pos h3) (Eq.trans (if_pos h4) (Eq.trans (if_neg h5) rfl)))))
          · refine pM_ii rfl rfl rfl ki_2 ?_
            refine pM_iln rfl rfl ?_
            refine pM_ic rfl ki_2 ?_
            refine pM_ushr rfl ?_
            refine pM_isn rfl rfl ?_
            refine pM_iln rfl rfl ?_
            refine pM_iln rfl rfl ?_
            refine pM_ic rfl ki_1 ?_
            refine pM_ushr rfl ?_
            refine pM_add rfl ?_
            exact pM_rVi rfl (Eq.trans (if_pos h1) (Eq.trans (if_pos h2) (Eq.trans (if_pos h3) (Eq.trans (if_pos h4) (Eq.trans (if_pos h5) rfl)))))
  · refine pM_iln rfl rfl ?_
    refine pM_bi rfl kb_32 ?_
    refine pM_and rfl ?_
    exact pM_rVi rfl (Eq.trans (if_neg h1) rfl)
def B_m_breaks_74 (p1 : Int32) (p2 : Int32) (p3 : Int32) (Q : MM → Prop) (N : Nat) (ih : Int32 → MM → Prop) (v4 : Int32) (M : MM) : Prop :=
  ((v4 < (V_m_citizens  M) →
    (((V_m_has (M.1 190 29) v4 M) = 0 →
      ih (v4 + 1) M) ∧
     (¬ (V_m_has (M.1 190 29) v4 M) = 0 →
      (((rm (V_m_doesIn v4 0 M) 8) = (rm p2 8) →
        ih (v4 + 1) (wj M 196 (ni v4) ((M.2 196 (ni v4)) ||| (ll (Int64.ofNat 1) p2)))) ∧
       (¬ (rm (V_m_doesIn v4 0 M) 8) = (rm p2 8) →
        ih (v4 + 1) M))))) ∧
   (¬ v4 < (V_m_citizens  M) →
    Q M))
def W_m_breaks_74 (p1 : Int32) (p2 : Int32) (p3 : Int32) (Q : MM → Prop) : Nat → Int32 → MM → Prop
  | 0, _, _ => True
  | N + 1, v4, M => B_m_breaks_74 p1 p2 p3 Q N (W_m_breaks_74 p1 p2 p3 Q N) v4 M
theorem I_m_breaks_74 (p1 : Int32) (p2 : Int32) (p3 : Int32) (Q : MM → Prop) (inv : Int32 → MM → Prop) (hs : ∀ (N : Nat) (ih : Int32 → MM → Prop) (v4 : Int32) (M : MM), (∀ (v4 : Int32) (M : MM), inv v4 M → ih v4 M) → inv v4 M → B_m_breaks_74 p1 p2 p3 Q N ih v4 M) : ∀ (N : Nat) (v4 : Int32) (M : MM), inv v4 M → W_m_breaks_74 p1 p2 p3 Q N v4 M := by
  intro N
  induction N with
  | zero => intros; trivial
  | succ N IH =>
    intro v4 M h
    exact hs N _ v4 M IH h
theorem q_m_breaks_74 {X : Option (List AI)} {N0 : Nat} {p1 : Int32} {p2 : Int32} {p3 : Int32} {Q : MM → Prop}   : ∀ (N : Nat), N ≤ N0 → ∀ (v4 : Int32) (M : MM), W_m_breaks_74 p1 p2 p3 Q N v4 M → pM X N 269 74 [(0, .inr (.inl (some 190))), (2, .inl (.inl p2)), (4, .inl (.inl v4))] [] M (Ru Q) := by
  intro N
  induction N with
  | zero => intros; exact pM_zero
  | succ N IH =>
    intro hN v4 M h
    replace hN := Nat.le_of_succ_le hN
    replace h : B_m_breaks_74 p1 p2 p3 Q N (W_m_breaks_74 p1 p2 p3 Q N) v4 M := h
    refine pM_s (pMs_il rfl rfl ?_)
    refine pM_aln rfl rfl rfl ?_
    refine pM_qVi (as := [.inr (.inl (some 190))]) (T := [.inl (.inl v4)]) rfl rfl (fun C hC => cl_v hC rfl rfl rfl rfl) rfl (q_m_citizens ) ?_
    refine pM_cge rfl rfl (fun h8 => ?_) (fun h8 => ?_)
    · replace h := h.2 h8
      exact pM_ru rfl (⟨rfl, h⟩)
    · replace h := h.1 h8
      refine pM_aln rfl rfl rfl ?_
      refine pM_gi rfl rfl rfl rfl ?_
      refine pM_il rfl rfl ?_
      refine pM_qVi (as := [.inl (.inl (M.1 190 29)), .inl (.inl v4)]) (T := []) rfl rfl (fun _ _ => rfl) rfl (q_m_has ) ?_
      refine pM_zeq rfl rfl (fun h9 => ?_) (fun h9 => ?_)
      · replace h := h.1 h9
        refine pM_ii rfl rfl rfl ki_1 ?_
        refine pM_go rfl rfl ?_
        refine pM_w (F2 := [(0, .inr (.inl (some 190))), (2, .inl (.inl p2)), (4, .inl (.inl (v4 + 1)))]) (fun L hL => lo_cons (lo_lk hL rfl) (lo_cons (lo_lk hL rfl) (lo_cons (lo_lk hL rfl) lo_nil))) ?_
        exact IH hN (v4 + 1) M h
      · replace h := h.2 h9
        refine pM_aln rfl rfl rfl ?_
        refine pM_il rfl rfl ?_
        refine pM_ic rfl ki_0 ?_
        refine pM_qVi (as := [.inr (.inl (some 190)), .inl (.inl v4), .inl (.inl 0)]) (T := []) rfl rfl (fun C hC => cl_v hC rfl rfl rfl rfl) rfl (q_m_doesIn ) ?_
        refine pM_bi rfl kb_8 ?_
        refine pM_rem rfl ?_
        refine pM_iln rfl rfl ?_
        refine pM_bi rfl kb_8 ?_
        refine pM_rem rfl ?_
        refine pM_cne rfl rfl (fun h10 => ?_) (fun h10 => ?_)
        · replace h := h.2 h10
          refine pM_ii rfl rfl rfl ki_1 ?_
          refine pM_go rfl rfl ?_
          refine pM_w (F2 := [(0, .inr (.inl (some 190))), (2, .inl (.inl p2)), (4, .inl (.inl (v4 + 1)))]) (fun L hL => lo_cons (lo_lk hL rfl) (lo_cons (lo_lk hL rfl) (lo_cons (lo_lk hL rfl) lo_nil))) ?_
          exact IH hN (v4 + 1) M h
        · replace h := h.1 h10
          refine pM_aln rfl rfl rfl ?_
          refine pM_gr rfl rfl rfl rfl ?_
          refine pM_il rfl rfl ?_
          refine pM_p (pc' := 119) (S' := [.inl (.inl v4), .inr (.inl (some 196)), .inl (.inl v4), .inr (.inl (some 196))]) rfl rfl (fun _ => rfl) ?_
          refine pM_la rfl rfl ?_
          refine pM_lc rfl ?_
          refine pM_iln rfl rfl ?_
          refine pM_p (pc' := 123) (S' := [.inr (.inr (.inl (some (ll (Int64.ofNat 1) p2)))), .inr (.inr (.inl (some (M.2 196 (ni v4))))), .inl (.inl v4), .inr (.inl (some 196))]) rfl rfl (fun _ => rfl) ?_
          refine pM_p (pc' := 124) (S' := [.inr (.inr (.inl (some ((M.2 196 (ni v4)) ||| (ll (Int64.ofNat 1) p2))))), .inl (.inl v4), .inr (.inl (some 196))]) rfl rfl (fun _ => rfl) ?_
          refine pM_sg rfl rfl ?_
          refine pM_ii rfl rfl rfl ki_1 ?_
          refine pM_go rfl rfl ?_
          refine pM_w (F2 := [(0, .inr (.inl (some 190))), (2, .inl (.inl p2)), (4, .inl (.inl (v4 + 1)))]) (fun L hL => lo_cons (lo_lk hL rfl) (lo_cons (lo_lk hL rfl) (lo_cons (lo_lk hL rfl) lo_nil))) ?_
          exact IH hN (v4 + 1) (wj M 196 (ni v4) ((M.2 196 (ni v4)) ||| (ll (Int64.ofNat 1) p2))) h
/-- 269: EarCodeModel.breaks(III)V -/
def W_m_breaks (p1 : Int32) (p2 : Int32) (p3 : Int32) (N : Nat) (M : MM) (Q : MM → Prop) : Prop :=
  W_m_draw 100 N (wi M 191 (ni 4) ((M.1 191 (ni 4)) + (M.1 191 (ni (10 + (p2 / 8)))))) (fun r1 M2 =>
    ((r1 < (M2.1 191 (ni 7)) →
      W_m_sets p1 3 ((wi M2 191 (ni 3) ((M2.1 191 (ni 3)) + 1)).1 191 (ni 8)) N (wi M2 191 (ni 3) ((M2.1 191 (ni 3)) + 1)) (fun M5 =>
        W_m_isLogged p1 p2 (V_Int_numberOfTrailingZeros p3 M5) N M5 (fun M7 =>
          W_m_breaks_74 p1 p2 p3 Q N 0 M7))) ∧
     (¬ r1 < (M2.1 191 (ni 7)) →
      Q M2)))
theorem q_m_breaks {X : Option (List AI)} {N : Nat} {M : MM} {p1 : Int32} {p2 : Int32} {p3 : Int32} {Q : MM → Prop}  (h : W_m_breaks p1 p2 p3 N M Q) : pM X N 269 0 (ea_ar 0 [.inr (.inl (some 190)), .inl (.inl p1), .inl (.inl p2), .inl (.inl p3)]) [] M (Ru Q) := by
  refine pM_w (F2 := [(0, .inr (.inl (some 190))), (1, .inl (.inl p1)), (2, .inl (.inl p2)), (3, .inl (.inl p3))]) (fun L hL => lo_cons (lo_lk hL rfl) (lo_cons (lo_lk hL rfl) (lo_cons (lo_lk hL rfl) (lo_cons (lo_lk hL rfl) lo_nil)))) ?_
  refine pM_aln rfl rfl rfl ?_
  refine pM_gr rfl rfl rfl rfl ?_
  refine pM_ic rfl ki_4 ?_
  refine pM_p (pc' := 6) (S' := [.inl (.inl 4), .inr (.inl (some 191)), .inl (.inl 4), .inr (.inl (some 191))]) rfl rfl (fun _ => rfl) ?_
  refine pM_ai rfl rfl row_p ?_
  refine pM_aln rfl rfl rfl ?_
  refine pM_gr rfl rfl rfl rfl ?_
  refine pM_bi rfl kb_10 ?_
  refine pM_iln rfl rfl ?_
  refine pM_bi rfl kb_8 ?_
  refine pM_div rfl ?_
  refine pM_add rfl ?_
  refine pM_ai rfl rfl row_p ?_
  refine pM_add rfl ?_
  refine pM_sa rfl rfl row_p ?_
  refine pM_aln rfl rfl rfl ?_
  refine pM_bi rfl kb_100 ?_
  refine pM_qRi (as := [.inr (.inl (some 190)), .inl (.inl 100)]) (T := []) rfl rfl (fun C hC => cl_v hC rfl rfl rfl rfl) rfl (q_m_draw  h) (fun r1 M2 h => ?_)
  refine pM_aln rfl rfl rfl ?_
  refine pM_gr rfl rfl rfl rfl ?_
  refine pM_bi rfl kb_7 ?_
  refine pM_ai rfl rfl row_p ?_
  refine pM_clt rfl rfl (fun h3 => ?_) (fun h3 => ?_)
  · replace h := h.1 h3
    refine pM_aln rfl rfl rfl ?_
    refine pM_gr rfl rfl rfl rfl ?_
    refine pM_ic rfl ki_3 ?_
    refine pM_p (pc' := 44) (S' := [.inl (.inl 3), .inr (.inl (some 191)), .inl (.inl 3), .inr (.inl (some 191))]) rfl rfl (fun _ => rfl) ?_
    refine pM_ai rfl rfl row_p ?_
    refine pM_ic rfl ki_1 ?_
    refine pM_add rfl ?_
    refine pM_sa rfl rfl row_p ?_
    refine pM_aln rfl rfl rfl ?_
    refine pM_iln rfl rfl ?_
    refine pM_ic rfl ki_3 ?_
    refine pM_aln rfl rfl rfl ?_
    refine pM_gr rfl rfl rfl rfl ?_
    refine pM_bi rfl kb_8 ?_
    refine pM_ai rfl rfl row_p ?_
    refine pM_qRu (as := [.inr (.inl (some 190)), .inl (.inl p1), .inl (.inl 3), .inl (.inl ((wi M2 191 (ni 3) ((M2.1 191 (ni 3)) + 1)).1 191 (ni 8)))]) (T := []) rfl rfl (fun C hC => cl_v hC rfl rfl rfl rfl) rfl (q_m_sets  h) (fun M5 h => ?_)
    refine pM_aln rfl rfl rfl ?_
    refine pM_iln rfl rfl ?_
    refine pM_iln rfl rfl ?_
    refine pM_iln rfl rfl ?_
    refine pM_qVi (as := [.inl (.inl p3)]) (T := [.inl (.inl p2), .inl (.inl p1), .inr (.inl (some 190))]) rfl rfl (fun _ _ => rfl) rfl (q_Int_numberOfTrailingZeros ) ?_
    refine pM_qRu (as := [.inr (.inl (some 190)), .inl (.inl p1), .inl (.inl p2), .inl (.inl (V_Int_numberOfTrailingZeros p3 M5))]) (T := []) rfl rfl (fun C hC => cl_v hC rfl rfl rfl rfl) rfl (q_m_isLogged  h) (fun M7 h => ?_)
    refine pM_ic rfl ki_0 ?_
    refine pM_is rfl rfl ?_
    refine pM_w (F2 := [(0, .inr (.inl (some 190))), (2, .inl (.inl p2)), (4, .inl (.inl 0))]) (fun L hL => lo_cons (lo_lk hL rfl) (lo_cons (lo_lk hL rfl) (lo_cons (lo_lk hL rfl) lo_nil))) ?_
    refine q_m_breaks_74   N (Nat.le_refl N) 0 M7 h
  · replace h := h.2 h3
    exact pM_ru rfl (⟨rfl, h⟩)
def B_m_oneDay_12 (k97 : MM → Prop) (Q : MM → Prop) (N : Nat) (ih : Int32 → MM → Prop) (v1 : Int32) (M : MM) : Prop :=
  ((v1 < (V_m_citizens  M) →
    (((V_m_isAlive v1 M) = 0 →
      ih (v1 + 1) M) ∧
     (¬ (V_m_isAlive v1 M) = 0 →
      ((0 < (V_m_of v1 3 M) →
        ih (v1 + 1) M) ∧
       (¬ 0 < (V_m_of v1 3 M) →
        W_m_keeps v1 (V_m_doesIn v1 0 (wi M 190 29 ((M.1 190 29) ||| (sl 1 v1)))) N (wi M 190 29 ((M.1 190 29) ||| (sl 1 v1))) (fun r4 M5 =>
          ((r4 = 0 →
            ih (v1 + 1) (wi M5 190 30 ((M5.1 190 30) ||| (sl 1 v1)))) ∧
           (¬ r4 = 0 →
            ih (v1 + 1) (wi M5 191 (ni 5) ((M5.1 191 (ni 5)) + 1)))))))))) ∧
   (¬ v1 < (V_m_citizens  M) →
    k97 M))
def W_m_oneDay_12 (k97 : MM → Prop) (Q : MM → Prop) : Nat → Int32 → MM → Prop
  | 0, _, _ => True
  | N + 1, v1, M => B_m_oneDay_12 k97 Q N (W_m_oneDay_12 k97 Q N) v1 M
theorem I_m_oneDay_12 (k97 : MM → Prop) (Q : MM → Prop) (inv : Int32 → MM → Prop) (hs : ∀ (N : Nat) (ih : Int32 → MM → Prop) (v1 : Int32) (M : MM), (∀ (v1 : Int32) (M : MM), inv v1 M → ih v1 M) → inv v1 M → B_m_oneDay_12 k97 Q N ih v1 M) : ∀ (N : Nat) (v1 : Int32) (M : MM), inv v1 M → W_m_oneDay_12 k97 Q N v1 M := by
  intro N
  induction N with
  | zero => intros; trivial
  | succ N IH =>
    intro v1 M h
    exact hs N _ v1 M IH h
theorem q_m_oneDay_12 {X : Option (List AI)} {N0 : Nat} {k97 : MM → Prop} {Q : MM → Prop}  (hk97 : ∀  (M : MM), k97 M → pM X N0 270 97 [(0, .inr (.inl (some 190)))] [] M (Ru Q)) : ∀ (N : Nat), N ≤ N0 → ∀ (v1 : Int32) (M : MM), W_m_oneDay_12 k97 Q N v1 M → pM X N 270 12 [(0, .inr (.inl (some 190))), (1, .inl (.inl v1))] [] M (Ru Q) := by
  intro N
  induction N with
  | zero => intros; exact pM_zero
  | succ N IH =>
    intro hN v1 M h
    replace hN := Nat.le_of_succ_le hN
    replace h : B_m_oneDay_12 k97 Q N (W_m_oneDay_12 k97 Q N) v1 M := h
    refine pM_s (pMs_iln rfl rfl ?_)
    refine pM_aln rfl rfl rfl ?_
    refine pM_qVi (as := [.inr (.inl (some 190))]) (T := [.inl (.inl v1)]) rfl rfl (fun C hC => cl_v hC rfl rfl rfl rfl) rfl (q_m_citizens ) ?_
    refine pM_cge rfl rfl (fun h1 => ?_) (fun h1 => ?_)
    · replace h := h.2 h1
      refine pM_w (F2 := [(0, .inr (.inl (some 190)))]) (fun L hL => lo_cons (lo_lk hL rfl) lo_nil) ?_
      exact pM_le hN (hk97 _ h)
    · replace h := h.1 h1
      refine pM_aln rfl rfl rfl ?_
      refine pM_iln rfl rfl ?_
      refine pM_qVi (as := [.inr (.inl (some 190)), .inl (.inl v1)]) (T := []) rfl rfl (fun C hC => cl_v hC rfl rfl rfl rfl) rfl (q_m_isAlive ) ?_
      refine pM_zeq rfl rfl (fun h2 => ?_) (fun h2 => ?_)
      · replace h := h.1 h2
        refine pM_ii rfl rfl rfl ki_1 ?_
        refine pM_go rfl rfl ?_
        refine pM_w (F2 := [(0, .inr (.inl (some 190))), (1, .inl (.inl (v1 + 1)))]) (fun L hL => lo_cons (lo_lk hL rfl) (lo_cons (lo_lk hL rfl) lo_nil)) ?_
        exact IH hN (v1 + 1) M h
      · replace h := h.2 h2
        refine pM_aln rfl rfl rfl ?_
        refine pM_iln rfl rfl ?_
        refine pM_ic rfl ki_3 ?_
        refine pM_qVi (as := [.inr (.inl (some 190)), .inl (.inl v1), .inl (.inl 3)]) (T := []) rfl rfl (fun C hC => cl_v hC rfl rfl rfl rfl) rfl (q_m_of ) ?_
        refine pM_zle rfl rfl (fun h3 => ?_) (fun h3 => ?_)
        · replace h := h.2 h3
          refine pM_aln rfl rfl rfl ?_
          refine pM_p (pc' := 42) (S' := [.inr (.inl (some 190)), .inr (.inl (some 190))]) rfl rfl (fun _ => rfl) ?_
          refine pM_gi rfl rfl rfl rfl ?_
          refine pM_ic rfl ki_1 ?_
          refine pM_iln rfl rfl ?_
          refine pM_shl rfl ?_
          refine pM_or rfl ?_
          refine pM_pi rfl rfl rfl rfl ?_
          refine pM_aln rfl rfl rfl ?_
          refine pM_iln rfl rfl ?_
          refine pM_aln rfl rfl rfl ?_
          refine pM_iln rfl rfl ?_
          refine pM_ic rfl ki_0 ?_
          refine pM_qVi (as := [.inr (.inl (some 190)), .inl (.inl v1), .inl (.inl 0)]) (T := [.inl (.inl v1), .inr (.inl (some 190))]) rfl rfl (fun C hC => cl_v hC rfl rfl rfl rfl) rfl (q_m_doesIn ) ?_
          refine pM_qRi (as := [.inr (.inl (some 190)), .inl (.inl v1), .inl (.inl (V_m_doesIn v1 0 (wi M 190 29 ((M.1 190 29) ||| (sl 1 v1)))))]) (T := []) rfl rfl (fun C hC => cl_v hC rfl rfl rfl rfl) rfl (q_m_keeps  h) (fun r4 M5 h => ?_)
          refine pM_zeq rfl rfl (fun h6 => ?_) (fun h6 => ?_)
          · replace h := h.1 h6
            refine pM_aln rfl rfl rfl ?_
            refine pM_p (pc' := 81) (S' := [.inr (.inl (some 190)), .inr (.inl (some 190))]) rfl rfl (fun _ => rfl) ?_
            refine pM_gi rfl rfl rfl rfl ?_
            refine pM_ic rfl ki_1 ?_
            refine pM_iln rfl rfl ?_
            refine pM_shl rfl ?_
            refine pM_or rfl ?_
            refine pM_pi rfl rfl rfl rfl ?_
            refine pM_ii rfl rfl rfl ki_1 ?_
            refine pM_go rfl rfl ?_
            refine pM_w (F2 := [(0, .inr (.inl (some 190))), (1, .inl (.inl (v1 + 1)))]) (fun L hL => lo_cons (lo_lk hL rfl) (lo_cons (lo_lk hL rfl) lo_nil)) ?_
            exact IH hN (v1 + 1) (wi M5 190 30 ((M5.1 190 30) ||| (sl 1 v1))) h
          · replace h := h.2 h6
            refine pM_aln rfl rfl rfl ?_
            refine pM_gr rfl rfl rfl rfl ?_
            refine pM_ic rfl ki_5 ?_
            refine pM_p (pc' := 72) (S' := [.inl (.inl 5), .inr (.inl (some 191)), .inl (.inl 5), .inr (.inl (some 191))]) rfl rfl (fun _ => rfl) ?_
            refine pM_ai rfl rfl row_p ?_
            refine pM_ic rfl ki_1 ?_
            refine pM_add rfl ?_
            refine pM_sa rfl rfl row_p ?_
            refine pM_go rfl rfl ?_
            refine pM_ii rfl rfl rfl ki_1 ?_
            refine pM_go rfl rfl ?_
            refine pM_w (F2 := [(0, .inr (.inl (some 190))), (1, .inl (.inl (v1 + 1)))]) (fun L hL => lo_cons (lo_lk hL rfl) (lo_cons (lo_lk hL rfl) lo_nil)) ?_
            exact IH hN (v1 + 1) (wi M5 191 (ni 5) ((M5.1 191 (ni 5)) + 1)) h
        · replace h := h.1 h3
          refine pM_go rfl rfl ?_
          refine pM_ii rfl rfl rfl ki_1 ?_
          refine pM_go rfl rfl ?_
          refine pM_w (F2 := [(0, .inr (.inl (some 190))), (1, .inl (.inl (v1 + 1)))]) (fun L hL => lo_cons (lo_lk hL rfl) (lo_cons (lo_lk hL rfl) lo_nil)) ?_
          exact IH hN (v1 + 1) M h
def B_m_oneDay_104 (u1 : Int32) (k162 : MM → Prop) (Q : MM → Prop) (N : Nat) (ih : Int32 → MM → Prop) (v2 : Int32) (M : MM) : Prop :=
  ((v2 < (V_m_citizens  M) →
    (((V_m_has (M.1 190 30) v2 M) = 0 →
      ih (v2 + 1) M) ∧
     (¬ (V_m_has (M.1 190 30) v2 M) = 0 →
      W_m_forbidsNow u1 (V_m_doesIn v2 0 M) v2 N M (fun r13 M14 =>
        ((r13 = 0 →
          ih (v2 + 1) M14) ∧
         (¬ r13 = 0 →
          W_m_breaks v2 (V_m_doesIn v2 0 M14) r13 N M14 (fun M17 =>
            ih (v2 + 1) M17))))))) ∧
   (¬ v2 < (V_m_citizens  M) →
    k162 M))
def W_m_oneDay_104 (u1 : Int32) (k162 : MM → Prop) (Q : MM → Prop) : Nat → Int32 → MM → Prop
  | 0, _, _ => True
  | N + 1, v2, M => B_m_oneDay_104 u1 k162 Q N (W_m_oneDay_104 u1 k162 Q N) v2 M
theorem I_m_oneDay_104 (u1 : Int32) (k162 : MM → Prop) (Q : MM → Prop) (inv : Int32 → MM → Prop) (hs : ∀ (N : Nat) (ih : Int32 → MM → Prop) (v2 : Int32) (M : MM), (∀ (v2 : Int32) (M : MM), inv v2 M → ih v2 M) → inv v2 M → B_m_oneDay_104 u1 k162 Q N ih v2 M) : ∀ (N : Nat) (v2 : Int32) (M : MM), inv v2 M → W_m_oneDay_104 u1 k162 Q N v2 M := by
  intro N
  induction N with
  | zero => intros; trivial
  | succ N IH =>
    intro v2 M h
    exact hs N _ v2 M IH h
theorem q_m_oneDay_104 {X : Option (List AI)} {N0 : Nat} {u1 : Int32} {k162 : MM → Prop} {Q : MM → Prop}  (hk162 : ∀  (M : MM), k162 M → pM X N0 270 162 [(0, .inr (.inl (some 190)))] [] M (Ru Q)) : ∀ (N : Nat), N ≤ N0 → ∀ (v2 : Int32) (M : MM), W_m_oneDay_104 u1 k162 Q N v2 M → pM X N 270 104 [(0, .inr (.inl (some 190))), (1, .inl (.inl u1)), (2, .inl (.inl v2))] [] M (Ru Q) := by
  intro N
  induction N with
  | zero => intros; exact pM_zero
  | succ N IH =>
    intro hN v2 M h
    replace hN := Nat.le_of_succ_le hN
    replace h : B_m_oneDay_104 u1 k162 Q N (W_m_oneDay_104 u1 k162 Q N) v2 M := h
    refine pM_s (pMs_iln rfl rfl ?_)
    refine pM_aln rfl rfl rfl ?_
    refine pM_qVi (as := [.inr (.inl (some 190))]) (T := [.inl (.inl v2)]) rfl rfl (fun C hC => cl_v hC rfl rfl rfl rfl) rfl (q_m_citizens ) ?_
    refine pM_cge rfl rfl (fun h10 => ?_) (fun h10 => ?_)
    · replace h := h.2 h10
      refine pM_w (F2 := [(0, .inr (.inl (some 190)))]) (fun L hL => lo_cons (lo_lk hL rfl) lo_nil) ?_
      exact pM_le hN (hk162 _ h)
    · replace h := h.1 h10
      refine pM_aln rfl rfl rfl ?_
      refine pM_gi rfl rfl rfl rfl ?_
      refine pM_iln rfl rfl ?_
      refine pM_qVi (as := [.inl (.inl (M.1 190 30)), .inl (.inl v2)]) (T := []) rfl rfl (fun _ _ => rfl) rfl (q_m_has ) ?_
      refine pM_zeq rfl rfl (fun h11 => ?_) (fun h11 => ?_)
      · replace h := h.1 h11
        refine pM_ic rfl ki_0 ?_
        refine pM_isn rfl rfl ?_
        refine pM_iln rfl rfl ?_
        refine pM_zeq rfl rfl (fun h12 => ?_) (fun h12 => ?_)
        · refine pM_ii rfl rfl rfl ki_1 ?_
          refine pM_go rfl rfl ?_
          refine pM_w (F2 := [(0, .inr (.inl (some 190))), (1, .inl (.inl u1)), (2, .inl (.inl (v2 + 1)))]) (fun L hL => lo_cons (lo_lk hL rfl) (lo_cons (lo_lk hL rfl) (lo_cons (lo_lk hL rfl) lo_nil))) ?_
          exact IH hN (v2 + 1) M h
        · exact absurd (by decide) h12
      · replace h := h.2 h11
        refine pM_aln rfl rfl rfl ?_
        refine pM_iln rfl rfl ?_
        refine pM_aln rfl rfl rfl ?_
        refine pM_iln rfl rfl ?_
        refine pM_ic rfl ki_0 ?_
        refine pM_qVi (as := [.inr (.inl (some 190)), .inl (.inl v2), .inl (.inl 0)]) (T := [.inl (.inl u1), .inr (.inl (some 190))]) rfl rfl (fun C hC => cl_v hC rfl rfl rfl rfl) rfl (q_m_doesIn ) ?_
        refine pM_iln rfl rfl ?_
        refine pM_qRi (as := [.inr (.inl (some 190)), .inl (.inl u1), .inl (.inl (V_m_doesIn v2 0 M)), .inl (.inl v2)]) (T := []) rfl rfl (fun C hC => cl_v hC rfl rfl rfl rfl) rfl (q_m_forbidsNow  h) (fun r13 M14 h => ?_)
        refine pM_go rfl rfl ?_
        refine pM_isn rfl rfl ?_
        refine pM_iln rfl rfl ?_
        refine pM_zeq rfl rfl (fun h15 => ?_) (fun h15 => ?_)
        · replace h := h.1 h15
          refine pM_ii rfl rfl rfl ki_1 ?_
          refine pM_go rfl rfl ?_
          refine pM_w (F2 := [(0, .inr (.inl (some 190))), (1, .inl (.inl u1)), (2, .inl (.inl (v2 + 1)))]) (fun L hL => lo_cons (lo_lk hL rfl) (lo_cons (lo_lk hL rfl) (lo_cons (lo_lk hL rfl) lo_nil))) ?_
          exact IH hN (v2 + 1) M14 h
        · replace h := h.2 h15
          refine pM_aln rfl rfl rfl ?_
          refine pM_iln rfl rfl ?_
          refine pM_aln rfl rfl rfl ?_
          refine pM_iln rfl rfl ?_
          refine pM_ic rfl ki_0 ?_
          refine pM_qVi (as := [.inr (.inl (some 190)), .inl (.inl v2), .inl (.inl 0)]) (T := [.inl (.inl v2), .inr (.inl (some 190))]) rfl rfl (fun C hC => cl_v hC rfl rfl rfl rfl) rfl (q_m_doesIn ) ?_
          refine pM_iln rfl rfl ?_
          refine pM_qRu (as := [.inr (.inl (some 190)), .inl (.inl v2), .inl (.inl (V_m_doesIn v2 0 M14)), .inl (.inl r13)]) (T := []) rfl rfl (fun C hC => cl_v hC rfl rfl rfl rfl) rfl (q_m_breaks  h) (fun M17 h => ?_)
          refine pM_ii rfl rfl rfl ki_1 ?_
          refine pM_go rfl rfl ?_
          refine pM_w (F2 := [(0, .inr (.inl (some 190))), (1, .inl (.inl u1)), (2, .inl (.inl (v2 + 1)))]) (fun L hL => lo_cons (lo_lk hL rfl) (lo_cons (lo_lk hL rfl) (lo_cons (lo_lk hL rfl) lo_nil))) ?_
          exact IH hN (v2 + 1) M17 h
def B_m_oneDay_164 (Q : MM → Prop) (N : Nat) (ih : Int32 → MM → Prop) (v2 : Int32) (M : MM) : Prop :=
  ((v2 < (V_m_citizens  M) →
    (((V_m_has (M.1 190 29) v2 M) = 0 →
      W_m_sets v2 3 (mx 0 ((V_m_of v2 3 M) - 1)) N M (fun M22 =>
        W_m_sets v2 6 (rm ((V_m_of v2 6 M22) + 1) (V_m_of v2 5 M22)) N M22 (fun M24 =>
          ih (v2 + 1) M24))) ∧
     (¬ (V_m_has (M.1 190 29) v2 M) = 0 →
      W_m_sets v2 6 (rm ((V_m_of v2 6 M) + 1) (V_m_of v2 5 M)) N M (fun M26 =>
        ih (v2 + 1) M26)))) ∧
   (¬ v2 < (V_m_citizens  M) →
    Q (wi M 191 (ni 2) ((M.1 191 (ni 2)) + 1))))
def W_m_oneDay_164 (Q : MM → Prop) : Nat → Int32 → MM → Prop
  | 0, _, _ => True
  | N + 1, v2, M => B_m_oneDay_164 Q N (W_m_oneDay_164 Q N) v2 M
theorem I_m_oneDay_164 (Q : MM → Prop) (inv : Int32 → MM → Prop) (hs : ∀ (N : Nat) (ih : Int32 → MM → Prop) (v2 : Int32) (M : MM), (∀ (v2 : Int32) (M : MM), inv v2 M → ih v2 M) → inv v2 M → B_m_oneDay_164 Q N ih v2 M) : ∀ (N : Nat) (v2 : Int32) (M : MM), inv v2 M → W_m_oneDay_164 Q N v2 M := by
  intro N
  induction N with
  | zero => intros; trivial
  | succ N IH =>
    intro v2 M h
    exact hs N _ v2 M IH h
theorem q_m_oneDay_164 {X : Option (List AI)} {N0 : Nat} {Q : MM → Prop}   : ∀ (N : Nat), N ≤ N0 → ∀ (v2 : Int32) (M : MM), W_m_oneDay_164 Q N v2 M → pM X N 270 164 [(0, .inr (.inl (some 190))), (2, .inl (.inl v2))] [] M (Ru Q) := by
  intro N
  induction N with
  | zero => intros; exact pM_zero
  | succ N IH =>
    intro hN v2 M h
    replace hN := Nat.le_of_succ_le hN
    replace h : B_m_oneDay_164 Q N (W_m_oneDay_164 Q N) v2 M := h
    refine pM_s (pMs_iln rfl rfl ?_)
    refine pM_aln rfl rfl rfl ?_
    refine pM_qVi (as := [.inr (.inl (some 190))]) (T := [.inl (.inl v2)]) rfl rfl (fun C hC => cl_v hC rfl rfl rfl rfl) rfl (q_m_citizens ) ?_
    refine pM_cge rfl rfl (fun h19 => ?_) (fun h19 => ?_)
    · replace h := h.2 h19
      refine pM_aln rfl rfl rfl ?_
      refine pM_gr rfl rfl rfl rfl ?_
      refine pM_ic rfl ki_2 ?_
      refine pM_p (pc' := 236) (S' := [.inl (.inl 2), .inr (.inl (some 191)), .inl (.inl 2), .inr (.inl (some 191))]) rfl rfl (fun _ => rfl) ?_
      refine pM_ai rfl rfl row_p ?_
      refine pM_ic rfl ki_1 ?_
      refine pM_add rfl ?_
      refine pM_sa rfl rfl row_p ?_
      exact pM_ru rfl (⟨rfl, h⟩)
    · replace h := h.1 h19
      refine pM_aln rfl rfl rfl ?_
      refine pM_gi rfl rfl rfl rfl ?_
      refine pM_iln rfl rfl ?_
      refine pM_qVi (as := [.inl (.inl (M.1 190 29)), .inl (.inl v2)]) (T := []) rfl rfl (fun _ _ => rfl) rfl (q_m_has ) ?_
      refine pM_zne rfl rfl (fun h20 => ?_) (fun h20 => ?_)
      · replace h := h.2 h20
        refine pM_aln rfl rfl rfl ?_
        refine pM_iln rfl rfl ?_
        refine pM_bi rfl kb_6 ?_
        refine pM_aln rfl rfl rfl ?_
        refine pM_iln rfl rfl ?_
        refine pM_bi rfl kb_6 ?_
        refine pM_qVi (as := [.inr (.inl (some 190)), .inl (.inl v2), .inl (.inl 6)]) (T := [.inl (.inl 6), .inl (.inl v2), .inr (.inl (some 190))]) rfl rfl (fun C hC => cl_v hC rfl rfl rfl rfl) rfl (q_m_of ) ?_
        refine pM_ic rfl ki_1 ?_
        refine pM_add rfl ?_
        refine pM_aln rfl rfl rfl ?_
        refine pM_iln rfl rfl ?_
        refine pM_ic rfl ki_5 ?_
        refine pM_qVi (as := [.inr (.inl (some 190)), .inl (.inl v2), .inl (.inl 5)]) (T := [.inl (.inl ((V_m_of v2 6 M) + 1)), .inl (.inl 6), .inl (.inl v2), .inr (.inl (some 190))]) rfl rfl (fun C hC => cl_v hC rfl rfl rfl rfl) rfl (q_m_of ) ?_
        refine pM_rem rfl ?_
        refine pM_qRu (as := [.inr (.inl (some 190)), .inl (.inl v2), .inl (.inl 6), .inl (.inl (rm ((V_m_of v2 6 M) + 1) (V_m_of v2 5 M)))]) (T := []) rfl rfl (fun C hC => cl_v hC rfl rfl rfl rfl) rfl (q_m_sets  h) (fun M26 h => ?_)
        refine pM_ii rfl rfl rfl ki_1 ?_
        refine pM_go rfl rfl ?_
        refine pM_w (F2 := [(0, .inr (.inl (some 190))), (2, .inl (.inl (v2 + 1)))]) (fun L hL => lo_cons (lo_lk hL rfl) (lo_cons (lo_lk hL rfl) lo_nil)) ?_
        exact IH hN (v2 + 1) M26 h
      · replace h := h.1 h20
        refine pM_aln rfl rfl rfl ?_
        refine pM_iln rfl rfl ?_
        refine pM_ic rfl ki_3 ?_
        refine pM_ic rfl ki_0 ?_
        refine pM_aln rfl rfl rfl ?_
        refine pM_iln rfl rfl ?_
        refine pM_ic rfl ki_3 ?_
        refine pM_qVi (as := [.inr (.inl (some 190)), .inl (.inl v2), .inl (.inl 3)]) (T := [.inl (.inl 0), .inl (.inl 3), .inl (.inl v2), .inr (.inl (some 190))]) rfl rfl (fun C hC => cl_v hC rfl rfl rfl rfl) rfl (q_m_of ) ?_
        refine pM_ic rfl ki_1 ?_
        refine pM_sub rfl ?_
        refine pM_mx rfl rfl ?_
        refine pM_qRu (as := [.inr (.inl (some 190)), .inl (.inl v2), .inl (.inl 3), .inl (.inl (mx 0 ((V_m_of v2 3 M) - 1)))]) (T := []) rfl rfl (fun C hC => cl_v hC rfl rfl rfl rfl) rfl (q_m_sets  h) (fun M22 h => ?_)
        refine pM_aln rfl rfl rfl ?_
        refine pM_iln rfl rfl ?_
        refine pM_bi rfl kb_6 ?_
        refine pM_aln rfl rfl rfl ?_
        refine pM_iln rfl rfl ?_
        refine pM_bi rfl kb_6 ?_
        refine pM_qVi (as := [.inr (.inl (some 190)), .inl (.inl v2), .inl (.inl 6)]) (T := [.inl (.inl 6), .inl (.inl v2), .inr (.inl (some 190))]) rfl rfl (fun C hC => cl_v hC rfl rfl rfl rfl) rfl (q_m_of ) ?_
        refine pM_ic rfl ki_1 ?_
        refine pM_add rfl ?_
        refine pM_aln rfl rfl rfl ?_
        refine pM_iln rfl rfl ?_
        refine pM_ic rfl ki_5 ?_
        refine pM_qVi (as := [.inr (.inl (some 190)), .inl (.inl v2), .inl (.inl 5)]) (T := [.inl (.inl ((V_m_of v2 6 M22) + 1)), .inl (.inl 6), .inl (.inl v2), .inr (.inl (some 190))]) rfl rfl (fun C hC => cl_v hC rfl rfl rfl rfl) rfl (q_m_of ) ?_
        refine pM_rem rfl ?_
        refine pM_qRu (as := [.inr (.inl (some 190)), .inl (.inl v2), .inl (.inl 6), .inl (.inl (rm ((V_m_of v2 6 M22) + 1) (V_m_of v2 5 M22)))]) (T := []) rfl rfl (fun C hC => cl_v hC rfl rfl rfl rfl) rfl (q_m_sets  h) (fun M24 h => ?_)
        refine pM_ii rfl rfl rfl ki_1 ?_
        refine pM_go rfl rfl ?_
        refine pM_w (F2 := [(0, .inr (.inl (some 190))), (2, .inl (.inl (v2 + 1)))]) (fun L hL => lo_cons (lo_lk hL rfl) (lo_cons (lo_lk hL rfl) lo_nil)) ?_
        exact IH hN (v2 + 1) M24 h
/-- 270: EarCodeModel.oneDay()V -/
def W_m_oneDay  (N : Nat) (M : MM) (Q : MM → Prop) : Prop :=
  W_m_oneDay_12 (fun M7 =>
    W_m_inForce  N M7 (fun r8 =>
      W_m_oneDay_104 r8 (fun M18 =>
        W_m_oneDay_164 Q N 0 M18) Q N 0 M7)) Q N 0 (wi (wi M 190 29 0) 190 30 0)
theorem q_m_oneDay {X : Option (List AI)} {N : Nat} {M : MM}  {Q : MM → Prop}  (h : W_m_oneDay  N M Q) : pM X N 270 0 (ea_ar 0 [.inr (.inl (some 190))]) [] M (Ru Q) := by
  refine pM_w (F2 := [(0, .inr (.inl (some 190)))]) (fun L hL => lo_cons (lo_lk hL rfl) lo_nil) ?_
  refine pM_aln rfl rfl rfl ?_
  refine pM_ic rfl ki_0 ?_
  refine pM_pi rfl rfl rfl rfl ?_
  refine pM_aln rfl rfl rfl ?_
  refine pM_ic rfl ki_0 ?_
  refine pM_pi rfl rfl rfl rfl ?_
  refine pM_ic rfl ki_0 ?_
  refine pM_isn rfl rfl ?_
  refine pM_w (F2 := [(0, .inr (.inl (some 190))), (1, .inl (.inl 0))]) (fun L hL => lo_cons (lo_lk hL rfl) (lo_cons (lo_lk hL rfl) lo_nil)) ?_
  refine q_m_oneDay_12  (fun M7 h => ?_) N (Nat.le_refl N) 0 (wi (wi M 190 29 0) 190 30 0) h
  · refine pM_aln rfl rfl rfl ?_
    refine pM_qPi (as := [.inr (.inl (some 190))]) (T := []) rfl rfl (fun C hC => cl_v hC rfl rfl rfl rfl) rfl (q_m_inForce  h) (fun r8 h => ?_)
    refine pM_isn rfl rfl ?_
    refine pM_ic rfl ki_0 ?_
    refine pM_isn rfl rfl ?_
    refine pM_w (F2 := [(0, .inr (.inl (some 190))), (1, .inl (.inl r8)), (2, .inl (.inl 0))]) (fun L hL => lo_cons (lo_lk hL rfl) (lo_cons (lo_lk hL rfl) (lo_cons (lo_lk hL rfl) lo_nil))) ?_
    refine q_m_oneDay_104  (fun M18 h => ?_) N (Nat.le_refl N) 0 M7 h
    · refine pM_ic rfl ki_0 ?_
      refine pM_isn rfl rfl ?_
      refine pM_w (F2 := [(0, .inr (.inl (some 190))), (2, .inl (.inl 0))]) (fun L hL => lo_cons (lo_lk hL rfl) (lo_cons (lo_lk hL rfl) lo_nil)) ?_
      refine q_m_oneDay_164   N (Nat.le_refl N) 0 M18 h
def B_m_days_43 (p1 : Int32) (u2 : Int32) (Q : Int32 → MM → Prop) (N : Nat) (ih : Int32 → MM → Prop) (v3 : Int32) (M : MM) : Prop :=
  ((v3 < p1 →
    W_m_oneDay  N M (fun M9 =>
      ih (v3 + 1) M9)) ∧
   (¬ v3 < p1 →
    Q ((M.1 191 (ni 3)) - u2) M))
def W_m_days_43 (p1 : Int32) (u2 : Int32) (Q : Int32 → MM → Prop) : Nat → Int32 → MM → Prop
  | 0, _, _ => True
  | N + 1, v3, M => B_m_days_43 p1 u2 Q N (W_m_days_43 p1 u2 Q N) v3 M
theorem I_m_days_43 (p1 : Int32) (u2 : Int32) (Q : Int32 → MM → Prop) (inv : Int32 → MM → Prop) (hs : ∀ (N : Nat) (ih : Int32 → MM → Prop) (v3 : Int32) (M : MM), (∀ (v3 : Int32) (M : MM), inv v3 M → ih v3 M) → inv v3 M → B_m_days_43 p1 u2 Q N ih v3 M) : ∀ (N : Nat) (v3 : Int32) (M : MM), inv v3 M → W_m_days_43 p1 u2 Q N v3 M := by
  intro N
  induction N with
  | zero => intros; trivial
  | succ N IH =>
    intro v3 M h
    exact hs N _ v3 M IH h
theorem q_m_days_43 {X : Option (List AI)} {N0 : Nat} {p1 : Int32} {u2 : Int32} {Q : Int32 → MM → Prop}   : ∀ (N : Nat), N ≤ N0 → ∀ (v3 : Int32) (M : MM), W_m_days_43 p1 u2 Q N v3 M → pM X N 271 43 [(0, .inr (.inl (some 190))), (1, .inl (.inl p1)), (2, .inl (.inl u2)), (3, .inl (.inl v3))] [] M (Ri Q) := by
  intro N
  induction N with
  | zero => intros; exact pM_zero
  | succ N IH =>
    intro hN v3 M h
    replace hN := Nat.le_of_succ_le hN
    replace h : B_m_days_43 p1 u2 Q N (W_m_days_43 p1 u2 Q N) v3 M := h
    refine pM_s (pMs_iln rfl rfl ?_)
    refine pM_iln rfl rfl ?_
    refine pM_cge rfl rfl (fun h7 => ?_) (fun h7 => ?_)
    · replace h := h.2 h7
      refine pM_aln rfl rfl rfl ?_
      refine pM_gr rfl rfl rfl rfl ?_
      refine pM_ic rfl ki_3 ?_
      refine pM_ai rfl rfl row_p ?_
      refine pM_iln rfl rfl ?_
      refine pM_sub rfl ?_
      exact pM_ri rfl (⟨_, rfl, h⟩)
    · replace h := h.1 h7
      refine pM_aln rfl rfl rfl ?_
      refine pM_qRu (as := [.inr (.inl (some 190))]) (T := []) rfl rfl (fun C hC => cl_v hC rfl rfl rfl rfl) rfl (q_m_oneDay  h) (fun M9 h => ?_)
      refine pM_ii rfl rfl rfl ki_1 ?_
      refine pM_go rfl rfl ?_
      refine pM_w (F2 := [(0, .inr (.inl (some 190))), (1, .inl (.inl p1)), (2, .inl (.inl u2)), (3, .inl (.inl (v3 + 1)))]) (fun L hL => lo_cons (lo_lk hL rfl) (lo_cons (lo_lk hL rfl) (lo_cons (lo_lk hL rfl) (lo_cons (lo_lk hL rfl) lo_nil)))) ?_
      exact IH hN (v3 + 1) M9 h
/-- 271: EarCodeModel.days(I)I -/
def W_m_days (p1 : Int32) (N : Nat) (M : MM) (Q : Int32 → MM → Prop) : Prop :=
  (((V_m_in p1 1 50 (wi M 190 0 0)) = 0 →
    W_m_throwsIf 1 1 N (wi M 190 0 0) (fun r2 M3 =>
      ((r2 = 0 →
        W_m_remembers  N M3 (fun M6 =>
          W_m_days_43 p1 (M6.1 191 (ni 3)) Q N 0 M6)) ∧
       (¬ r2 = 0 →
        Q 0 M3)))) ∧
   (¬ (V_m_in p1 1 50 (wi M 190 0 0)) = 0 →
    W_m_throwsIf 0 1 N (wi M 190 0 0) (fun r10 M11 =>
      ((r10 = 0 →
        W_m_remembers  N M11 (fun M14 =>
          W_m_days_43 p1 (M14.1 191 (ni 3)) Q N 0 M14)) ∧
       (¬ r10 = 0 →
        Q 0 M11)))))
theorem q_m_days {X : Option (List AI)} {N : Nat} {M : MM} {p1 : Int32} {Q : Int32 → MM → Prop}  (h : W_m_days p1 N M Q) : pM X N 271 0 (ea_ar 0 [.inr (.inl (some 190)), .inl (.inl p1)]) [] M (Ri Q) := by
  refine pM_w (F2 := [(0, .inr (.inl (some 190))), (1, .inl (.inl p1))]) (fun L hL => lo_cons (lo_lk hL rfl) (lo_cons (lo_lk hL rfl) lo_nil)) ?_
  refine pM_aln rfl rfl rfl ?_
  refine pM_ic rfl ki_0 ?_
  refine pM_pi rfl rfl rfl rfl ?_
  refine pM_aln rfl rfl rfl ?_
  refine pM_iln rfl rfl ?_
  refine pM_ic rfl ki_1 ?_
  refine pM_bi rfl kb_50 ?_
  refine pM_qVi (as := [.inl (.inl p1), .inl (.inl 1), .inl (.inl 50)]) (T := [.inr (.inl (some 190))]) rfl rfl (fun _ _ => rfl) rfl (q_m_in ) ?_
  refine pM_zne rfl rfl (fun h1 => ?_) (fun h1 => ?_)
  · replace h := h.2 h1
    refine pM_ic rfl ki_0 ?_
    refine pM_ic rfl ki_1 ?_
    refine pM_qRi (as := [.inr (.inl (some 190)), .inl (.inl 0), .inl (.inl 1)]) (T := []) rfl rfl (fun C hC => cl_v hC rfl rfl rfl rfl) rfl (q_m_throwsIf  h) (fun r10 M11 h => ?_)
    refine pM_zeq rfl rfl (fun h12 => ?_) (fun h12 => ?_)
    · replace h := h.1 h12
      refine pM_aln rfl rfl rfl ?_
      refine pM_qRu (as := [.inr (.inl (some 190))]) (T := []) rfl rfl (fun C hC => cl_v hC rfl rfl rfl rfl) rfl (q_m_remembers  h) (fun M14 h => ?_)
      refine pM_aln rfl rfl rfl ?_
      refine pM_gr rfl rfl rfl rfl ?_
      refine pM_ic rfl ki_3 ?_
      refine pM_ai rfl rfl row_p ?_
      refine pM_isn rfl rfl ?_
      refine pM_ic rfl ki_0 ?_
      refine pM_isn rfl rfl ?_
      refine pM_w (F2 := [(0, .inr (.inl (some 190))), (1, .inl (.inl p1)), (2, .inl (.inl (M14.1 191 (ni 3)))), (3, .inl (.inl 0))]) (fun L hL => lo_cons (lo_lk hL rfl) (lo_cons (lo_lk hL rfl) (lo_cons (lo_lk hL rfl) (lo_cons (lo_lk hL rfl) lo_nil)))) ?_
      refine q_m_days_43   N (Nat.le_refl N) 0 M14 h
    · replace h := h.2 h12
      refine pM_ic rfl ki_0 ?_
      exact pM_ri rfl (⟨_, rfl, h⟩)
  · replace h := h.1 h1
    refine pM_ic rfl ki_1 ?_
    refine pM_go rfl rfl ?_
    refine pM_ic rfl ki_1 ?_
    refine pM_qRi (as := [.inr (.inl (some 190)), .inl (.inl 1), .inl (.inl 1)]) (T := []) rfl rfl (fun C hC => cl_v hC rfl rfl rfl rfl) rfl (q_m_throwsIf  h) (fun r2 M3 h => ?_)
    refine pM_zeq rfl rfl (fun h4 => ?_) (fun h4 => ?_)
    · replace h := h.1 h4
      refine pM_aln rfl rfl rfl ?_
      refine pM_qRu (as := [.inr (.inl (some 190))]) (T := []) rfl rfl (fun C hC => cl_v hC rfl rfl rfl rfl) rfl (q_m_remembers  h) (fun M6 h => ?_)
      refine pM_aln rfl rfl rfl ?_
      refine pM_gr rfl rfl rfl rfl ?_
      refine pM_ic rfl ki_3 ?_
      refine pM_ai rfl rfl row_p ?_
      refine pM_isn rfl rfl ?_
      refine pM_ic rfl ki_0 ?_
      refine pM_isn rfl rfl ?_
      refine pM_w (F2 := [(0, .inr (.inl (some 190))), (1, .inl (.inl p1)), (2, .inl (.inl (M6.1 191 (ni 3)))), (3, .inl (.inl 0))]) (fun L hL => lo_cons (lo_lk hL rfl) (lo_cons (lo_lk hL rfl) (lo_cons (lo_lk hL rfl) (lo_cons (lo_lk hL rfl) lo_nil)))) ?_
      refine q_m_days_43   N (Nat.le_refl N) 0 M6 h
    · replace h := h.2 h4
      refine pM_ic rfl ki_0 ?_
      exact pM_ri rfl (⟨_, rfl, h⟩)
