/-! WHAT EACH METHOD COMES TO (gw.py) -/
def B_m_readCond_385_9 (Q : Int32 → MM → Prop) (N : Nat) (ih : MM → Prop) (M : MM) : Prop :=
  W_m_passes 12138383 N M (fun r4 M5 =>
    ((r4 = 0 →
      Q 1 M5) ∧
     (¬ r4 = 0 →
      W_m_readAllOf_386  N M5 (fun r7 M8 =>
        ((r7 = 0 →
          Q 0 M8) ∧
         (¬ r7 = 0 →
          W_m_emits 11 0 N M8 (fun M11 =>
            ih M11)))))))
def W_m_readCond_385_9 (Q : Int32 → MM → Prop) : Nat → MM → Prop
  | 0, _ => True
  | N + 1, M => B_m_readCond_385_9 Q N (W_m_readCond_385_9 Q N) M
theorem I_m_readCond_385_9 (Q : Int32 → MM → Prop) (inv : MM → Prop) (hs : ∀ (N : Nat) (ih : MM → Prop) (M : MM), (∀ (M : MM), inv M → ih M) → inv M → B_m_readCond_385_9 Q N ih M) : ∀ (N : Nat) (M : MM), inv M → W_m_readCond_385_9 Q N M := by
  intro N
  induction N with
  | zero => intros; trivial
  | succ N IH =>
    intro M h
    exact hs N _ M IH h
theorem q_m_readCond_385_9 {X : Option (List AI)} {N0 : Nat} {Q : Int32 → MM → Prop}   : ∀ (N : Nat), N ≤ N0 → ∀ (M : MM), W_m_readCond_385_9 Q N M → pM X N 385 9 [(0, .inr (.inl (some 190)))] [] M (Ri Q) := by
  intro N
  induction N with
  | zero => intros; exact pM_zero
  | succ N IH =>
    intro hN M h
    replace hN := Nat.le_of_succ_le hN
    replace h : B_m_readCond_385_9 Q N (W_m_readCond_385_9 Q N) M := h
    refine pM_s (pMs_aln rfl rfl rfl ?_)
    refine pM_lds rfl rfl ?_
    refine pM_qRi (as := [.inr (.inl (some 190)), .inr (.inr (.inr (.inr 12138384)))]) (T := []) rfl rfl (fun C hC => cl_v hC rfl rfl rfl rfl) rfl (q_m_passes (by decide) h) (fun r4 M5 h => ?_)
    refine pM_zeq rfl rfl (fun h6 => ?_) (fun h6 => ?_)
    · replace h := h.1 h6
      refine pM_ic rfl ki_1 ?_
      exact pM_ri rfl (⟨_, rfl, h⟩)
    · replace h := h.2 h6
      refine pM_aln rfl rfl rfl ?_
      refine pM_qRi (as := [.inr (.inl (some 190))]) (T := []) rfl rfl (fun C hC => cl_v hC rfl rfl rfl rfl) rfl (q_m_readAllOf_386  h) (fun r7 M8 h => ?_)
      refine pM_zne rfl rfl (fun h9 => ?_) (fun h9 => ?_)
      · replace h := h.2 h9
        refine pM_aln rfl rfl rfl ?_
        refine pM_bi rfl kb_11 ?_
        refine pM_ic rfl ki_0 ?_
        refine pM_qRu (as := [.inr (.inl (some 190)), .inl (.inl 11), .inl (.inl 0)]) (T := []) rfl rfl (fun C hC => cl_v hC rfl rfl rfl rfl) rfl (q_m_emits  h) (fun M11 h => ?_)
        refine pM_go rfl rfl ?_
        refine pM_w (F2 := [(0, .inr (.inl (some 190)))]) (fun L hL => lo_cons (lo_lk hL rfl) lo_nil) ?_
        exact IH hN M11 h
      · replace h := h.1 h9
        refine pM_ic rfl ki_0 ?_
        exact pM_ri rfl (⟨_, rfl, h⟩)
/-- 385: EarCodeModel.readCond()Z -/
def W_m_readCond_385  (N : Nat) (M : MM) (Q : Int32 → MM → Prop) : Prop :=
  W_m_readAllOf_386  N M (fun r1 M2 =>
    ((r1 = 0 →
      Q 0 M2) ∧
     (¬ r1 = 0 →
      W_m_readCond_385_9 Q N M2)))
theorem q_m_readCond_385 {X : Option (List AI)} {N : Nat} {M : MM}  {Q : Int32 → MM → Prop}  (h : W_m_readCond_385  N M Q) : pM X N 385 0 (ea_ar 0 [.inr (.inl (some 190))]) [] M (Ri Q) := by
  refine pM_w (F2 := [(0, .inr (.inl (some 190)))]) (fun L hL => lo_cons (lo_lk hL rfl) lo_nil) ?_
  refine pM_aln rfl rfl rfl ?_
  refine pM_qRi (as := [.inr (.inl (some 190))]) (T := []) rfl rfl (fun C hC => cl_v hC rfl rfl rfl rfl) rfl (q_m_readAllOf_386  h) (fun r1 M2 h => ?_)
  refine pM_zne rfl rfl (fun h3 => ?_) (fun h3 => ?_)
  · replace h := h.2 h3
    refine pM_w (F2 := [(0, .inr (.inl (some 190)))]) (fun L hL => lo_cons (lo_lk hL rfl) lo_nil) ?_
    refine q_m_readCond_385_9   N (Nat.le_refl N) M2 h
  · replace h := h.1 h3
    refine pM_ic rfl ki_0 ?_
    exact pM_ri rfl (⟨_, rfl, h⟩)
/-- 384: EarCodeModel.readAtom()Z -/
def W_m_readAtom_384  (N : Nat) (M : MM) (Q : Int32 → MM → Prop) : Prop :=
  W_m_sign 40 N M (fun r1 M2 =>
    ((r1 = 0 →
      W_m_passes 3124213513 N M2 (fun r4 M5 =>
        ((r4 = 0 →
          W_m_passes 204756940403467 N M5 (fun r7 M8 =>
            ((r7 = 0 →
              W_m_readSum  N M8 (fun r10 M11 =>
                ((r10 = 0 →
                  Q 0 M11) ∧
                 (¬ r10 = 0 →
                  W_m_sign 60 N M11 (fun r13 M14 =>
                    ((r13 = 0 →
                      W_m_sign 62 N M14 (fun r16 M17 =>
                        ((r16 = 0 →
                          Q 0 M17) ∧
                         (¬ r16 = 0 →
                          W_m_readSum  N M17 (fun r19 M20 =>
                            ((r19 = 0 →
                              Q 0 M20) ∧
                             (¬ r19 = 0 →
                              ((r13 = 0 →
                                W_m_emits 8 0 N M20 (fun M24 =>
                                  Q 1 M24)) ∧
                               (¬ r13 = 0 →
                                W_m_emits 7 0 N M20 (fun M26 =>
                                  Q 1 M26)))))))))) ∧
                     (¬ r13 = 0 →
                      W_m_readSum  N M14 (fun r27 M28 =>
                        ((r27 = 0 →
                          Q 0 M28) ∧
                         (¬ r27 = 0 →
                          ((r13 = 0 →
                            W_m_emits 8 0 N M28 (fun M32 =>
                              Q 1 M32)) ∧
                           (¬ r13 = 0 →
                            W_m_emits 7 0 N M28 (fun M34 =>
                              Q 1 M34))))))))))))) ∧
             (¬ r7 = 0 →
              W_m_emits 4 0 N M8 (fun M36 =>
                Q 1 M36))))) ∧
         (¬ r4 = 0 →
          (((M5.1 190 22) = 6 →
            Q 0 M5) ∧
           (¬ (M5.1 190 22) = 6 →
            W_m_readAtom_387  N (wi M5 190 22 ((M5.1 190 22) + 1)) (fun r38 M39 =>
              ((r38 = 0 →
                Q 0 M39) ∧
               (¬ r38 = 0 →
                W_m_emits 9 0 N (wi M39 190 22 ((M39.1 190 22) - 1)) (fun M42 =>
                  Q 1 M42)))))))))) ∧
     (¬ r1 = 0 →
      (((M2.1 190 22) = 6 →
        Q 0 M2) ∧
       (¬ (M2.1 190 22) = 6 →
        W_m_readCond_385  N (wi M2 190 22 ((M2.1 190 22) + 1)) (fun r44 M45 =>
          ((r44 = 0 →
            Q 0 M45) ∧
           (¬ r44 = 0 →
            W_m_sign 41 N (wi M45 190 22 ((M45.1 190 22) - 1)) (fun r47 M48 =>
              Q r47 M48)))))))))
theorem q_m_readAtom_384 {X : Option (List AI)} {N : Nat} {M : MM}  {Q : Int32 → MM → Prop}  (h : W_m_readAtom_384  N M Q) : pM X N 384 0 (ea_ar 0 [.inr (.inl (some 190))]) [] M (Ri Q) := by
  refine pM_w (F2 := [(0, .inr (.inl (some 190)))]) (fun L hL => lo_cons (lo_lk hL rfl) lo_nil) ?_
  refine pM_aln rfl rfl rfl ?_
  refine pM_bi rfl kb_40 ?_
  refine pM_qRi (as := [.inr (.inl (some 190)), .inl (.inl 40)]) (T := []) rfl rfl (fun C hC => cl_v hC rfl rfl rfl rfl) rfl (q_m_sign  h) (fun r1 M2 h => ?_)
  refine pM_zeq rfl rfl (fun h3 => ?_) (fun h3 => ?_)
  · replace h := h.1 h3
    refine pM_aln rfl rfl rfl ?_
    refine pM_lds rfl rfl ?_
    refine pM_qRi (as := [.inr (.inl (some 190)), .inr (.inr (.inr (.inr 3124213514)))]) (T := []) rfl rfl (fun C hC => cl_v hC rfl rfl rfl rfl) rfl (q_m_passes (by decide) h) (fun r4 M5 h => ?_)
    refine pM_zeq rfl rfl (fun h6 => ?_) (fun h6 => ?_)
    · replace h := h.1 h6
      refine pM_aln rfl rfl rfl ?_
      refine pM_lds rfl rfl ?_
      refine pM_qRi (as := [.inr (.inl (some 190)), .inr (.inr (.inr (.inr 204756940403468)))]) (T := []) rfl rfl (fun C hC => cl_v hC rfl rfl rfl rfl) rfl (q_m_passes (by decide) h) (fun r7 M8 h => ?_)
      refine pM_zeq rfl rfl (fun h9 => ?_) (fun h9 => ?_)
      · replace h := h.1 h9
        refine pM_aln rfl rfl rfl ?_
        refine pM_qRi (as := [.inr (.inl (some 190))]) (T := []) rfl rfl (fun C hC => cl_v hC rfl rfl rfl rfl) rfl (q_m_readSum  h) (fun r10 M11 h => ?_)
        refine pM_zne rfl rfl (fun h12 => ?_) (fun h12 => ?_)
        · replace h := h.2 h12
          refine pM_aln rfl rfl rfl ?_
          refine pM_bi rfl kb_60 ?_
          refine pM_qRi (as := [.inr (.inl (some 190)), .inl (.inl 60)]) (T := []) rfl rfl (fun C hC => cl_v hC rfl rfl rfl rfl) rfl (q_m_sign  h) (fun r13 M14 h => ?_)
          refine pM_isn rfl rfl ?_
          refine pM_iln rfl rfl ?_
          refine pM_zne rfl rfl (fun h15 => ?_) (fun h15 => ?_)
          · replace h := h.2 h15
            refine pM_aln rfl rfl rfl ?_
            refine pM_qRi (as := [.inr (.inl (some 190))]) (T := []) rfl rfl (fun C hC => cl_v hC rfl rfl rfl rfl) rfl (q_m_readSum  h) (fun r27 M28 h => ?_)
            refine pM_zne rfl rfl (fun h29 => ?_) (fun h29 => ?_)
            · replace h := h.2 h29
              refine pM_aln rfl rfl rfl ?_
              refine pM_iln rfl rfl ?_
              refine pM_zeq rfl rfl (fun h30 => ?_) (fun h30 => ?_)
              · replace h := h.1 h30
                refine pM_bi rfl kb_8 ?_
                refine pM_ic rfl ki_0 ?_
                refine pM_qRu (as := [.inr (.inl (some 190)), .inl (.inl 8), .inl (.inl 0)]) (T := []) rfl rfl (fun C hC => cl_v hC rfl rfl rfl rfl) rfl (q_m_emits  h) (fun M32 h => ?_)
                refine pM_ic rfl ki_1 ?_
                exact pM_ri rfl (⟨_, rfl, h⟩)
              · replace h := h.2 h30
                refine pM_bi rfl kb_7 ?_
                refine pM_go rfl rfl ?_
                refine pM_ic rfl ki_0 ?_
                refine pM_qRu (as := [.inr (.inl (some 190)), .inl (.inl 7), .inl (.inl 0)]) (T := []) rfl rfl (fun C hC => cl_v hC rfl rfl rfl rfl) rfl (q_m_emits  h) (fun M34 h => ?_)
                refine pM_ic rfl ki_1 ?_
                exact pM_ri rfl (⟨_, rfl, h⟩)
            · replace h := h.1 h29
              refine pM_ic rfl ki_0 ?_
              exact pM_ri rfl (⟨_, rfl, h⟩)
          · replace h := h.1 h15
            refine pM_aln rfl rfl rfl ?_
            refine pM_bi rfl kb_62 ?_
            refine pM_qRi (as := [.inr (.inl (some 190)), .inl (.inl 62)]) (T := []) rfl rfl (fun C hC => cl_v hC rfl rfl rfl rfl) rfl (q_m_sign  h) (fun r16 M17 h => ?_)
            refine pM_zeq rfl rfl (fun h18 => ?_) (fun h18 => ?_)
            · replace h := h.1 h18
              refine pM_ic rfl ki_0 ?_
              exact pM_ri rfl (⟨_, rfl, h⟩)
            · replace h := h.2 h18
              refine pM_aln rfl rfl rfl ?_
              refine pM_qRi (as := [.inr (.inl (some 190))]) (T := []) rfl rfl (fun C hC => cl_v hC rfl rfl rfl rfl) rfl (q_m_readSum  h) (fun r19 M20 h => ?_)
              refine pM_zne rfl rfl (fun h21 => ?_) (fun h21 => ?_)
              · replace h := h.2 h21
                refine pM_aln rfl rfl rfl ?_
                refine pM_iln rfl rfl ?_
                refine pM_zeq rfl rfl (fun h22 => ?_) (fun h22 => ?_)
                · replace h := h.1 h22
                  refine pM_bi rfl kb_8 ?_
                  refine pM_ic rfl ki_0 ?_
                  refine pM_qRu (as := [.inr (.inl (some 190)), .inl (.inl 8), .inl (.inl 0)]) (T := []) rfl rfl (fun C hC => cl_v hC rfl rfl rfl rfl) rfl (q_m_emits  h) (fun M24 h => ?_)
                  refine pM_ic rfl ki_1 ?_
                  exact pM_ri rfl (⟨_, rfl, h⟩)
                · replace h := h.2 h22
                  refine pM_bi rfl kb_7 ?_
                  refine pM_go rfl rfl ?_
                  refine pM_ic rfl ki_0 ?_
                  refine pM_qRu (as := [.inr (.inl (some 190)), .inl (.inl 7), .inl (.inl 0)]) (T := []) rfl rfl (fun C hC => cl_v hC rfl rfl rfl rfl) rfl (q_m_emits  h) (fun M26 h => ?_)
                  refine pM_ic rfl ki_1 ?_
                  exact pM_ri rfl (⟨_, rfl, h⟩)
              · replace h := h.1 h21
                refine pM_ic rfl ki_0 ?_
                exact pM_ri rfl (⟨_, rfl, h⟩)
        · replace h := h.1 h12
          refine pM_ic rfl ki_0 ?_
          exact pM_ri rfl (⟨_, rfl, h⟩)
      · replace h := h.2 h9
        refine pM_aln rfl rfl rfl ?_
        refine pM_ic rfl ki_4 ?_
        refine pM_ic rfl ki_0 ?_
        refine pM_qRu (as := [.inr (.inl (some 190)), .inl (.inl 4), .inl (.inl 0)]) (T := []) rfl rfl (fun C hC => cl_v hC rfl rfl rfl rfl) rfl (q_m_emits  h) (fun M36 h => ?_)
        refine pM_ic rfl ki_1 ?_
        exact pM_ri rfl (⟨_, rfl, h⟩)
    · replace h := h.2 h6
      refine pM_aln rfl rfl rfl ?_
      refine pM_gi rfl rfl rfl rfl ?_
      refine pM_bi rfl kb_6 ?_
      refine pM_cne rfl rfl (fun h37 => ?_) (fun h37 => ?_)
      · replace h := h.2 h37
        refine pM_aln rfl rfl rfl ?_
        refine pM_p (pc' := 78) (S' := [.inr (.inl (some 190)), .inr (.inl (some 190))]) rfl rfl (fun _ => rfl) ?_
        refine pM_gi rfl rfl rfl rfl ?_
        refine pM_ic rfl ki_1 ?_
        refine pM_add rfl ?_
        refine pM_pi rfl rfl rfl rfl ?_
        refine pM_aln rfl rfl rfl ?_
        refine pM_qRi (as := [.inr (.inl (some 190))]) (T := []) rfl rfl (fun C hC => cl_v hC rfl rfl rfl rfl) rfl (q_m_readAtom_387  h) (fun r38 M39 h => ?_)
        refine pM_zne rfl rfl (fun h40 => ?_) (fun h40 => ?_)
        · replace h := h.2 h40
          refine pM_aln rfl rfl rfl ?_
          refine pM_p (pc' := 97) (S' := [.inr (.inl (some 190)), .inr (.inl (some 190))]) rfl rfl (fun _ => rfl) ?_
          refine pM_gi rfl rfl rfl rfl ?_
          refine pM_ic rfl ki_1 ?_
          refine pM_sub rfl ?_
          refine pM_pi rfl rfl rfl rfl ?_
          refine pM_aln rfl rfl rfl ?_
          refine pM_bi rfl kb_9 ?_
          refine pM_ic rfl ki_0 ?_
          refine pM_qRu (as := [.inr (.inl (some 190)), .inl (.inl 9), .inl (.inl 0)]) (T := []) rfl rfl (fun C hC => cl_v hC rfl rfl rfl rfl) rfl (q_m_emits  h) (fun M42 h => ?_)
          refine pM_ic rfl ki_1 ?_
          exact pM_ri rfl (⟨_, rfl, h⟩)
        · replace h := h.1 h40
          refine pM_ic rfl ki_0 ?_
          exact pM_ri rfl (⟨_, rfl, h⟩)
      · replace h := h.1 h37
        refine pM_ic rfl ki_0 ?_
        exact pM_ri rfl (⟨_, rfl, h⟩)
  · replace h := h.2 h3
    refine pM_aln rfl rfl rfl ?_
    refine pM_gi rfl rfl rfl rfl ?_
    refine pM_bi rfl kb_6 ?_
    refine pM_cne rfl rfl (fun h43 => ?_) (fun h43 => ?_)
    · replace h := h.2 h43
      refine pM_aln rfl rfl rfl ?_
      refine pM_p (pc' := 22) (S' := [.inr (.inl (some 190)), .inr (.inl (some 190))]) rfl rfl (fun _ => rfl) ?_
      refine pM_gi rfl rfl rfl rfl ?_
      refine pM_ic rfl ki_1 ?_
      refine pM_add rfl ?_
      refine pM_pi rfl rfl rfl rfl ?_
      refine pM_aln rfl rfl rfl ?_
      refine pM_qRi (as := [.inr (.inl (some 190))]) (T := []) rfl rfl (fun C hC => cl_v hC rfl rfl rfl rfl) rfl (q_m_readCond_385  h) (fun r44 M45 h => ?_)
      refine pM_zne rfl rfl (fun h46 => ?_) (fun h46 => ?_)
      · replace h := h.2 h46
        refine pM_aln rfl rfl rfl ?_
        refine pM_p (pc' := 41) (S' := [.inr (.inl (some 190)), .inr (.inl (some 190))]) rfl rfl (fun _ => rfl) ?_
        refine pM_gi rfl rfl rfl rfl ?_
        refine pM_ic rfl ki_1 ?_
        refine pM_sub rfl ?_
        refine pM_pi rfl rfl rfl rfl ?_
        refine pM_aln rfl rfl rfl ?_
        refine pM_bi rfl kb_41 ?_
        refine pM_qRi (as := [.inr (.inl (some 190)), .inl (.inl 41)]) (T := []) rfl rfl (fun C hC => cl_v hC rfl rfl rfl rfl) rfl (q_m_sign  h) (fun r47 M48 h => ?_)
        exact pM_ri rfl (⟨_, rfl, h⟩)
      · replace h := h.1 h46
        refine pM_ic rfl ki_0 ?_
        exact pM_ri rfl (⟨_, rfl, h⟩)
    · replace h := h.1 h43
      refine pM_ic rfl ki_0 ?_
      exact pM_ri rfl (⟨_, rfl, h⟩)
def B_m_readAllOf_383_9 (Q : Int32 → MM → Prop) (N : Nat) (ih : MM → Prop) (M : MM) : Prop :=
  W_m_passes 2989961357 N M (fun r4 M5 =>
    ((r4 = 0 →
      Q 1 M5) ∧
     (¬ r4 = 0 →
      W_m_readAtom_384  N M5 (fun r7 M8 =>
        ((r7 = 0 →
          Q 0 M8) ∧
         (¬ r7 = 0 →
          W_m_emits 10 0 N M8 (fun M11 =>
            ih M11)))))))
def W_m_readAllOf_383_9 (Q : Int32 → MM → Prop) : Nat → MM → Prop
  | 0, _ => True
  | N + 1, M => B_m_readAllOf_383_9 Q N (W_m_readAllOf_383_9 Q N) M
theorem I_m_readAllOf_383_9 (Q : Int32 → MM → Prop) (inv : MM → Prop) (hs : ∀ (N : Nat) (ih : MM → Prop) (M : MM), (∀ (M : MM), inv M → ih M) → inv M → B_m_readAllOf_383_9 Q N ih M) : ∀ (N : Nat) (M : MM), inv M → W_m_readAllOf_383_9 Q N M := by
  intro N
  induction N with
  | zero => intros; trivial
  | succ N IH =>
    intro M h
    exact hs N _ M IH h
theorem q_m_readAllOf_383_9 {X : Option (List AI)} {N0 : Nat} {Q : Int32 → MM → Prop}   : ∀ (N : Nat), N ≤ N0 → ∀ (M : MM), W_m_readAllOf_383_9 Q N M → pM X N 383 9 [(0, .inr (.inl (some 190)))] [] M (Ri Q) := by
  intro N
  induction N with
  | zero => intros; exact pM_zero
  | succ N IH =>
    intro hN M h
    replace hN := Nat.le_of_succ_le hN
    replace h : B_m_readAllOf_383_9 Q N (W_m_readAllOf_383_9 Q N) M := h
    refine pM_s (pMs_aln rfl rfl rfl ?_)
    refine pM_lds rfl rfl ?_
    refine pM_qRi (as := [.inr (.inl (some 190)), .inr (.inr (.inr (.inr 2989961358)))]) (T := []) rfl rfl (fun C hC => cl_v hC rfl rfl rfl rfl) rfl (q_m_passes (by decide) h) (fun r4 M5 h => ?_)
    refine pM_zeq rfl rfl (fun h6 => ?_) (fun h6 => ?_)
    · replace h := h.1 h6
      refine pM_ic rfl ki_1 ?_
      exact pM_ri rfl (⟨_, rfl, h⟩)
    · replace h := h.2 h6
      refine pM_aln rfl rfl rfl ?_
      refine pM_qRi (as := [.inr (.inl (some 190))]) (T := []) rfl rfl (fun C hC => cl_v hC rfl rfl rfl rfl) rfl (q_m_readAtom_384  h) (fun r7 M8 h => ?_)
      refine pM_zne rfl rfl (fun h9 => ?_) (fun h9 => ?_)
      · replace h := h.2 h9
        refine pM_aln rfl rfl rfl ?_
        refine pM_bi rfl kb_10 ?_
        refine pM_ic rfl ki_0 ?_
        refine pM_qRu (as := [.inr (.inl (some 190)), .inl (.inl 10), .inl (.inl 0)]) (T := []) rfl rfl (fun C hC => cl_v hC rfl rfl rfl rfl) rfl (q_m_emits  h) (fun M11 h => ?_)
        refine pM_go rfl rfl ?_
        refine pM_w (F2 := [(0, .inr (.inl (some 190)))]) (fun L hL => lo_cons (lo_lk hL rfl) lo_nil) ?_
        exact IH hN M11 h
      · replace h := h.1 h9
        refine pM_ic rfl ki_0 ?_
        exact pM_ri rfl (⟨_, rfl, h⟩)
/-- 383: EarCodeModel.readAllOf()Z -/
def W_m_readAllOf_383  (N : Nat) (M : MM) (Q : Int32 → MM → Prop) : Prop :=
  W_m_readAtom_384  N M (fun r1 M2 =>
    ((r1 = 0 →
      Q 0 M2) ∧
     (¬ r1 = 0 →
      W_m_readAllOf_383_9 Q N M2)))
theorem q_m_readAllOf_383 {X : Option (List AI)} {N : Nat} {M : MM}  {Q : Int32 → MM → Prop}  (h : W_m_readAllOf_383  N M Q) : pM X N 383 0 (ea_ar 0 [.inr (.inl (some 190))]) [] M (Ri Q) := by
  refine pM_w (F2 := [(0, .inr (.inl (some 190)))]) (fun L hL => lo_cons (lo_lk hL rfl) lo_nil) ?_
  refine pM_aln rfl rfl rfl ?_
  refine pM_qRi (as := [.inr (.inl (some 190))]) (T := []) rfl rfl (fun C hC => cl_v hC rfl rfl rfl rfl) rfl (q_m_readAtom_384  h) (fun r1 M2 h => ?_)
  refine pM_zne rfl rfl (fun h3 => ?_) (fun h3 => ?_)
  · replace h := h.2 h3
    refine pM_w (F2 := [(0, .inr (.inl (some 190)))]) (fun L hL => lo_cons (lo_lk hL rfl) lo_nil) ?_
    refine q_m_readAllOf_383_9   N (Nat.le_refl N) M2 h
  · replace h := h.1 h3
    refine pM_ic rfl ki_0 ?_
    exact pM_ri rfl (⟨_, rfl, h⟩)
def B_m_readCond_382_9 (Q : Int32 → MM → Prop) (N : Nat) (ih : MM → Prop) (M : MM) : Prop :=
  W_m_passes 12138383 N M (fun r4 M5 =>
    ((r4 = 0 →
      Q 1 M5) ∧
     (¬ r4 = 0 →
      W_m_readAllOf_383  N M5 (fun r7 M8 =>
        ((r7 = 0 →
          Q 0 M8) ∧
         (¬ r7 = 0 →
          W_m_emits 11 0 N M8 (fun M11 =>
            ih M11)))))))
def W_m_readCond_382_9 (Q : Int32 → MM → Prop) : Nat → MM → Prop
  | 0, _ => True
  | N + 1, M => B_m_readCond_382_9 Q N (W_m_readCond_382_9 Q N) M
theorem I_m_readCond_382_9 (Q : Int32 → MM → Prop) (inv : MM → Prop) (hs : ∀ (N : Nat) (ih : MM → Prop) (M : MM), (∀ (M : MM), inv M → ih M) → inv M → B_m_readCond_382_9 Q N ih M) : ∀ (N : Nat) (M : MM), inv M → W_m_readCond_382_9 Q N M := by
  intro N
  induction N with
  | zero => intros; trivial
  | succ N IH =>
    intro M h
    exact hs N _ M IH h
theorem q_m_readCond_382_9 {X : Option (List AI)} {N0 : Nat} {Q : Int32 → MM → Prop}   : ∀ (N : Nat), N ≤ N0 → ∀ (M : MM), W_m_readCond_382_9 Q N M → pM X N 382 9 [(0, .inr (.inl (some 190)))] [] M (Ri Q) := by
  intro N
  induction N with
  | zero => intros; exact pM_zero
  | succ N IH =>
    intro hN M h
    replace hN := Nat.le_of_succ_le hN
    replace h : B_m_readCond_382_9 Q N (W_m_readCond_382_9 Q N) M := h
    refine pM_s (pMs_aln rfl rfl rfl ?_)
    refine pM_lds rfl rfl ?_
    refine pM_qRi (as := [.inr (.inl (some 190)), .inr (.inr (.inr (.inr 12138384)))]) (T := []) rfl rfl (fun C hC => cl_v hC rfl rfl rfl rfl) rfl (q_m_passes (by decide) h) (fun r4 M5 h => ?_)
    refine pM_zeq rfl rfl (fun h6 => ?_) (fun h6 => ?_)
    · replace h := h.1 h6
      refine pM_ic rfl ki_1 ?_
      exact pM_ri rfl (⟨_, rfl, h⟩)
    · replace h := h.2 h6
      refine pM_aln rfl rfl rfl ?_
      refine pM_qRi (as := [.inr (.inl (some 190))]) (T := []) rfl rfl (fun C hC => cl_v hC rfl rfl rfl rfl) rfl (q_m_readAllOf_383  h) (fun r7 M8 h => ?_)
      refine pM_zne rfl rfl (fun h9 => ?_) (fun h9 => ?_)
      · replace h := h.2 h9
        refine pM_aln rfl rfl rfl ?_
        refine pM_bi rfl kb_11 ?_
        refine pM_ic rfl ki_0 ?_
        refine pM_qRu (as := [.inr (.inl (some 190)), .inl (.inl 11), .inl (.inl 0)]) (T := []) rfl rfl (fun C hC => cl_v hC rfl rfl rfl rfl) rfl (q_m_emits  h) (fun M11 h => ?_)
        refine pM_go rfl rfl ?_
        refine pM_w (F2 := [(0, .inr (.inl (some 190)))]) (fun L hL => lo_cons (lo_lk hL rfl) lo_nil) ?_
        exact IH hN M11 h
      · replace h := h.1 h9
        refine pM_ic rfl ki_0 ?_
        exact pM_ri rfl (⟨_, rfl, h⟩)
/-- 382: EarCodeModel.readCond()Z -/
def W_m_readCond_382  (N : Nat) (M : MM) (Q : Int32 → MM → Prop) : Prop :=
  W_m_readAllOf_383  N M (fun r1 M2 =>
    ((r1 = 0 →
      Q 0 M2) ∧
     (¬ r1 = 0 →
      W_m_readCond_382_9 Q N M2)))
theorem q_m_readCond_382 {X : Option (List AI)} {N : Nat} {M : MM}  {Q : Int32 → MM → Prop}  (h : W_m_readCond_382  N M Q) : pM X N 382 0 (ea_ar 0 [.inr (.inl (some 190))]) [] M (Ri Q) := by
  refine pM_w (F2 := [(0, .inr (.inl (some 190)))]) (fun L hL => lo_cons (lo_lk hL rfl) lo_nil) ?_
  refine pM_aln rfl rfl rfl ?_
  refine pM_qRi (as := [.inr (.inl (some 190))]) (T := []) rfl rfl (fun C hC => cl_v hC rfl rfl rfl rfl) rfl (q_m_readAllOf_383  h) (fun r1 M2 h => ?_)
  refine pM_zne rfl rfl (fun h3 => ?_) (fun h3 => ?_)
  · replace h := h.2 h3
    refine pM_w (F2 := [(0, .inr (.inl (some 190)))]) (fun L hL => lo_cons (lo_lk hL rfl) lo_nil) ?_
    refine q_m_readCond_382_9   N (Nat.le_refl N) M2 h
  · replace h := h.1 h3
    refine pM_ic rfl ki_0 ?_
    exact pM_ri rfl (⟨_, rfl, h⟩)
/-- 381: EarCodeModel.readAtom()Z -/
def W_m_readAtom_381  (N : Nat) (M : MM) (Q : Int32 → MM → Prop) : Prop :=
  W_m_sign 40 N M (fun r1 M2 =>
    ((r1 = 0 →
      W_m_passes 3124213513 N M2 (fun r4 M5 =>
        ((r4 = 0 →
          W_m_passes 204756940403467 N M5 (fun r7 M8 =>
            ((r7 = 0 →
              W_m_readSum  N M8 (fun r10 M11 =>
                ((r10 = 0 →
                  Q 0 M11) ∧
                 (¬ r10 = 0 →
                  W_m_sign 60 N M11 (fun r13 M14 =>
                    ((r13 = 0 →
                      W_m_sign 62 N M14 (fun r16 M17 =>
                        ((r16 = 0 →
                          Q 0 M17) ∧
                         (¬ r16 = 0 →
                          W_m_readSum  N M17 (fun r19 M20 =>
                            ((r19 = 0 →
                              Q 0 M20) ∧
                             (¬ r19 = 0 →
                              ((r13 = 0 →
                                W_m_emits 8 0 N M20 (fun M24 =>
                                  Q 1 M24)) ∧
                               (¬ r13 = 0 →
                                W_m_emits 7 0 N M20 (fun M26 =>
                                  Q 1 M26)))))))))) ∧
                     (¬ r13 = 0 →
                      W_m_readSum  N M14 (fun r27 M28 =>
                        ((r27 = 0 →
                          Q 0 M28) ∧
                         (¬ r27 = 0 →
                          ((r13 = 0 →
                            W_m_emits 8 0 N M28 (fun M32 =>
                              Q 1 M32)) ∧
                           (¬ r13 = 0 →
                            W_m_emits 7 0 N M28 (fun M34 =>
                              Q 1 M34))))))))))))) ∧
             (¬ r7 = 0 →
              W_m_emits 4 0 N M8 (fun M36 =>
                Q 1 M36))))) ∧
         (¬ r4 = 0 →
          (((M5.1 190 22) = 6 →
            Q 0 M5) ∧
           (¬ (M5.1 190 22) = 6 →
            W_m_readAtom_384  N (wi M5 190 22 ((M5.1 190 22) + 1)) (fun r38 M39 =>
              ((r38 = 0 →
                Q 0 M39) ∧
               (¬ r38 = 0 →
                W_m_emits 9 0 N (wi M39 190 22 ((M39.1 190 22) - 1)) (fun M42 =>
                  Q 1 M42)))))))))) ∧
     (¬ r1 = 0 →
      (((M2.1 190 22) = 6 →
        Q 0 M2) ∧
       (¬ (M2.1 190 22) = 6 →
        W_m_readCond_382  N (wi M2 190 22 ((M2.1 190 22) + 1)) (fun r44 M45 =>
          ((r44 = 0 →
            Q 0 M45) ∧
           (¬ r44 = 0 →
            W_m_sign 41 N (wi M45 190 22 ((M45.1 190 22) - 1)) (fun r47 M48 =>
              Q r47 M48)))))))))
theorem q_m_readAtom_381 {X : Option (List AI)} {N : Nat} {M : MM}  {Q : Int32 → MM → Prop}  (h : W_m_readAtom_381  N M Q) : pM X N 381 0 (ea_ar 0 [.inr (.inl (some 190))]) [] M (Ri Q) := by
  refine pM_w (F2 := [(0, .inr (.inl (some 190)))]) (fun L hL => lo_cons (lo_lk hL rfl) lo_nil) ?_
  refine pM_aln rfl rfl rfl ?_
  refine pM_bi rfl kb_40 ?_
  refine pM_qRi (as := [.inr (.inl (some 190)), .inl (.inl 40)]) (T := []) rfl rfl (fun C hC => cl_v hC rfl rfl rfl rfl) rfl (q_m_sign  h) (fun r1 M2 h => ?_)
  refine pM_zeq rfl rfl (fun h3 => ?_) (fun h3 => ?_)
  · replace h := h.1 h3
    refine pM_aln rfl rfl rfl ?_
    refine pM_lds rfl rfl ?_
    refine pM_qRi (as := [.inr (.inl (some 190)), .inr (.inr (.inr (.inr 3124213514)))]) (T := []) rfl rfl (fun C hC => cl_v hC rfl rfl rfl rfl) rfl (q_m_passes (by decide) h) (fun r4 M5 h => ?_)
    refine pM_zeq rfl rfl (fun h6 => ?_) (fun h6 => ?_)
    · replace h := h.1 h6
      refine pM_aln rfl rfl rfl ?_
      refine pM_lds rfl rfl ?_
      refine pM_qRi (as := [.inr (.inl (some 190)), .inr (.inr (.inr (.inr 204756940403468)))]) (T := []) rfl rfl (fun C hC => cl_v hC rfl rfl rfl rfl) rfl (q_m_passes (by decide) h) (fun r7 M8 h => ?_)
      refine pM_zeq rfl rfl (fun h9 => ?_) (fun h9 => ?_)
      · replace h := h.1 h9
        refine pM_aln rfl rfl rfl ?_
        refine pM_qRi (as := [.inr (.inl (some 190))]) (T := []) rfl rfl (fun C hC => cl_v hC rfl rfl rfl rfl) rfl (q_m_readSum  h) (fun r10 M11 h => ?_)
        refine pM_zne rfl rfl (fun h12 => ?_) (fun h12 => ?_)
        · replace h := h.2 h12
          refine pM_aln rfl rfl rfl ?_
          refine pM_bi rfl kb_60 ?_
          refine pM_qRi (as := [.inr (.inl (some 190)), .inl (.inl 60)]) (T := []) rfl rfl (fun C hC => cl_v hC rfl rfl rfl rfl) rfl (q_m_sign  h) (fun r13 M14 h => ?_)
          refine pM_isn rfl rfl ?_
          refine pM_iln rfl rfl ?_
          refine pM_zne rfl rfl (fun h15 => ?_) (fun h15 => ?_)
          · replace h := h.2 h15
            refine pM_aln rfl rfl rfl ?_
            refine pM_qRi (as := [.inr (.inl (some 190))]) (T := []) rfl rfl (fun C hC => cl_v hC rfl rfl rfl rfl) rfl (q_m_readSum  h) (fun r27 M28 h => ?_)
            refine pM_zne rfl rfl (fun h29 => ?_) (fun h29 => ?_)
            · replace h := h.2 h29
              refine pM_aln rfl rfl rfl ?_
              refine pM_iln rfl rfl ?_
              refine pM_zeq rfl rfl (fun h30 => ?_) (fun h30 => ?_)
              · replace h := h.1 h30
                refine pM_bi rfl kb_8 ?_
                refine pM_ic rfl ki_0 ?_
                refine pM_qRu (as := [.inr (.inl (some 190)), .inl (.inl 8), .inl (.inl 0)]) (T := []) rfl rfl (fun C hC => cl_v hC rfl rfl rfl rfl) rfl (q_m_emits  h) (fun M32 h => ?_)
                refine pM_ic rfl ki_1 ?_
                exact pM_ri rfl (⟨_, rfl, h⟩)
              · replace h := h.2 h30
                refine pM_bi rfl kb_7 ?_
                refine pM_go rfl rfl ?_
                refine pM_ic rfl ki_0 ?_
                refine pM_qRu (as := [.inr (.inl (some 190)), .inl (.inl 7), .inl (.inl 0)]) (T := []) rfl rfl (fun C hC => cl_v hC rfl rfl rfl rfl) rfl (q_m_emits  h) (fun M34 h => ?_)
                refine pM_ic rfl ki_1 ?_
                exact pM_ri rfl (⟨_, rfl, h⟩)
            · replace h := h.1 h29
              refine pM_ic rfl ki_0 ?_
              exact pM_ri rfl (⟨_, rfl, h⟩)
          · replace h := h.1 h15
            refine pM_aln rfl rfl rfl ?_
            refine pM_bi rfl kb_62 ?_
            refine pM_qRi (as := [.inr (.inl (some 190)), .inl (.inl 62)]) (T := []) rfl rfl (fun C hC => cl_v hC rfl rfl rfl rfl) rfl (q_m_sign  h) (fun r16 M17 h => ?_)
            refine pM_zeq rfl rfl (fun h18 => ?_) (fun h18 => ?_)
            · replace h := h.1 h18
              refine pM_ic rfl ki_0 ?_
              exact pM_ri rfl (⟨_, rfl, h⟩)
            · replace h := h.2 h18
              refine pM_aln rfl rfl rfl ?_
              refine pM_qRi (as := [.inr (.inl (some 190))]) (T := []) rfl rfl (fun C hC => cl_v hC rfl rfl rfl rfl) rfl (q_m_readSum  h) (fun r19 M20 h => ?_)
              refine pM_zne rfl rfl (fun h21 => ?_) (fun h21 => ?_)
              · replace h := h.2 h21
                refine pM_aln rfl rfl rfl ?_
                refine pM_iln rfl rfl ?_
                refine pM_zeq rfl rfl (fun h22 => ?_) (fun h22 => ?_)
                · replace h := h.1 h22
                  refine pM_bi rfl kb_8 ?_
                  refine pM_ic rfl ki_0 ?_
                  refine pM_qRu (as := [.inr (.inl (some 190)), .inl (.inl 8), .inl (.inl 0)]) (T := []) rfl rfl (fun C hC => cl_v hC rfl rfl rfl rfl) rfl (q_m_emits  h) (fun M24 h => ?_)
                  refine pM_ic rfl ki_1 ?_
                  exact pM_ri rfl (⟨_, rfl, h⟩)
                · replace h := h.2 h22
                  refine pM_bi rfl kb_7 ?_
                  refine pM_go rfl rfl ?_
                  refine pM_ic rfl ki_0 ?_
                  refine pM_qRu (as := [.inr (.inl (some 190)), .inl (.inl 7), .inl (.inl 0)]) (T := []) rfl rfl (fun C hC => cl_v hC rfl rfl rfl rfl) rfl (q_m_emits  h) (fun M26 h => ?_)
                  refine pM_ic rfl ki_1 ?_
                  exact pM_ri rfl (⟨_, rfl, h⟩)
              · replace h := h.1 h21
                refine pM_ic rfl ki_0 ?_
                exact pM_ri rfl (⟨_, rfl, h⟩)
        · replace h := h.1 h12
          refine pM_ic rfl ki_0 ?_
          exact pM_ri rfl (⟨_, rfl, h⟩)
      · replace h := h.2 h9
        refine pM_aln rfl rfl rfl ?_
        refine pM_ic rfl ki_4 ?_
        refine pM_ic rfl ki_0 ?_
        refine pM_qRu (as := [.inr (.inl (some 190)), .inl (.inl 4), .inl (.inl 0)]) (T := []) rfl rfl (fun C hC => cl_v hC rfl rfl rfl rfl) rfl (q_m_emits  h) (fun M36 h => ?_)
        refine pM_ic rfl ki_1 ?_
        exact pM_ri rfl (⟨_, rfl, h⟩)
    · replace h := h.2 h6
      refine pM_aln rfl rfl rfl ?_
      refine pM_gi rfl rfl rfl rfl ?_
      refine pM_bi rfl kb_6 ?_
      refine pM_cne rfl rfl (fun h37 => ?_) (fun h37 => ?_)
      · replace h := h.2 h37
        refine pM_aln rfl rfl rfl ?_
        refine pM_p (pc' := 78) (S' := [.inr (.inl (some 190)), .inr (.inl (some 190))]) rfl rfl (fun _ => rfl) ?_
        refine pM_gi rfl rfl rfl rfl ?_
        refine pM_ic rfl ki_1 ?_
        refine pM_add rfl ?_
        refine pM_pi rfl rfl rfl rfl ?_
        refine pM_aln rfl rfl rfl ?_
        refine pM_qRi (as := [.inr (.inl (some 190))]) (T := []) rfl rfl (fun C hC => cl_v hC rfl rfl rfl rfl) rfl (q_m_readAtom_384  h) (fun r38 M39 h => ?_)
        refine pM_zne rfl rfl (fun h40 => ?_) (fun h40 => ?_)
        · replace h := h.2 h40
          refine pM_aln rfl rfl rfl ?_
          refine pM_p (pc' := 97) (S' := [.inr (.inl (some 190)), .inr (.inl (some 190))]) rfl rfl (fun _ => rfl) ?_
          refine pM_gi rfl rfl rfl rfl ?_
          refine pM_ic rfl ki_1 ?_
          refine pM_sub rfl ?_
          refine pM_pi rfl rfl rfl rfl ?_
          refine pM_aln rfl rfl rfl ?_
          refine pM_bi rfl kb_9 ?_
          refine pM_ic rfl ki_0 ?_
          refine pM_qRu (as := [.inr (.inl (some 190)), .inl (.inl 9), .inl (.inl 0)]) (T := []) rfl rfl (fun C hC => cl_v hC rfl rfl rfl rfl) rfl (q_m_emits  h) (fun M42 h => ?_)
          refine pM_ic rfl ki_1 ?_
          exact pM_ri rfl (⟨_, rfl, h⟩)
        · replace h := h.1 h40
          refine pM_ic rfl ki_0 ?_
          exact pM_ri rfl (⟨_, rfl, h⟩)
      · replace h := h.1 h37
        refine pM_ic rfl ki_0 ?_
        exact pM_ri rfl (⟨_, rfl, h⟩)
  · replace h := h.2 h3
    refine pM_aln rfl rfl rfl ?_
    refine pM_gi rfl rfl rfl rfl ?_
    refine pM_bi rfl kb_6 ?_
    refine pM_cne rfl rfl (fun h43 => ?_) (fun h43 => ?_)
    · replace h := h.2 h43
      refine pM_aln rfl rfl rfl ?_
      refine pM_p (pc' := 22) (S' := [.inr (.inl (some 190)), .inr (.inl (some 190))]) rfl rfl (fun _ => rfl) ?_
      refine pM_gi rfl rfl rfl rfl ?_
      refine pM_ic rfl ki_1 ?_
      refine pM_add rfl ?_
      refine pM_pi rfl rfl rfl rfl ?_
      refine pM_aln rfl rfl rfl ?_
      refine pM_qRi (as := [.inr (.inl (some 190))]) (T := []) rfl rfl (fun C hC => cl_v hC rfl rfl rfl rfl) rfl (q_m_readCond_382  h) (fun r44 M45 h => ?_)
      refine pM_zne rfl rfl (fun h46 => ?_) (fun h46 => ?_)
      · replace h := h.2 h46
        refine pM_aln rfl rfl rfl ?_
        refine pM_p (pc' := 41) (S' := [.inr (.inl (some 190)), .inr (.inl (some 190))]) rfl rfl (fun _ => rfl) ?_
        refine pM_gi rfl rfl rfl rfl ?_
        refine pM_ic rfl ki_1 ?_
        refine pM_sub rfl ?_
        refine pM_pi rfl rfl rfl rfl ?_
        refine pM_aln rfl rfl rfl ?_
        refine pM_bi rfl kb_41 ?_
        refine pM_qRi (as := [.inr (.inl (some 190)), .inl (.inl 41)]) (T := []) rfl rfl (fun C hC => cl_v hC rfl rfl rfl rfl) rfl (q_m_sign  h) (fun r47 M48 h => ?_)
        exact pM_ri rfl (⟨_, rfl, h⟩)
      · replace h := h.1 h46
        refine pM_ic rfl ki_0 ?_
        exact pM_ri rfl (⟨_, rfl, h⟩)
    · replace h := h.1 h43
      refine pM_ic rfl ki_0 ?_
      exact pM_ri rfl (⟨_, rfl, h⟩)
def B_m_readAllOf_380_9 (Q : Int32 → MM → Prop) (N : Nat) (ih : MM → Prop) (M : MM) : Prop :=
  W_m_passes 2989961357 N M (fun r4 M5 =>
    ((r4 = 0 →
      Q 1 M5) ∧
     (¬ r4 = 0 →
      W_m_readAtom_381  N M5 (fun r7 M8 =>
        ((r7 = 0 →
          Q 0 M8) ∧
         (¬ r7 = 0 →
          W_m_emits 10 0 N M8 (fun M11 =>
            ih M11)))))))
def W_m_readAllOf_380_9 (Q : Int32 → MM → Prop) : Nat → MM → Prop
  | 0, _ => True
  | N + 1, M => B_m_readAllOf_380_9 Q N (W_m_readAllOf_380_9 Q N) M
theorem I_m_readAllOf_380_9 (Q : Int32 → MM → Prop) (inv : MM → Prop) (hs : ∀ (N : Nat) (ih : MM → Prop) (M : MM), (∀ (M : MM), inv M → ih M) → inv M → B_m_readAllOf_380_9 Q N ih M) : ∀ (N : Nat) (M : MM), inv M → W_m_readAllOf_380_9 Q N M := by
  intro N
  induction N with
  | zero => intros; trivial
  | succ N IH =>
    intro M h
    exact hs N _ M IH h
theorem q_m_readAllOf_380_9 {X : Option (List AI)} {N0 : Nat} {Q : Int32 → MM → Prop}   : ∀ (N : Nat), N ≤ N0 → ∀ (M : MM), W_m_readAllOf_380_9 Q N M → pM X N 380 9 [(0, .inr (.inl (some 190)))] [] M (Ri Q) := by
  intro N
  induction N with
  | zero => intros; exact pM_zero
  | succ N IH =>
    intro hN M h
    replace hN := Nat.le_of_succ_le hN
    replace h : B_m_readAllOf_380_9 Q N (W_m_readAllOf_380_9 Q N) M := h
    refine pM_s (pMs_aln rfl rfl rfl ?_)
    refine pM_lds rfl rfl ?_
    refine pM_qRi (as := [.inr (.inl (some 190)), .inr (.inr (.inr (.inr 2989961358)))]) (T := []) rfl rfl (fun C hC => cl_v hC rfl rfl rfl rfl) rfl (q_m_passes (by decide) h) (fun r4 M5 h => ?_)
    refine pM_zeq rfl rfl (fun h6 => ?_) (fun h6 => ?_)
    · replace h := h.1 h6
      refine pM_ic rfl ki_1 ?_
      exact pM_ri rfl (⟨_, rfl, h⟩)
    · replace h := h.2 h6
      refine pM_aln rfl rfl rfl ?_
      refine pM_qRi (as := [.inr (.inl (some 190))]) (T := []) rfl rfl (fun C hC => cl_v hC rfl rfl rfl rfl) rfl (q_m_readAtom_381  h) (fun r7 M8 h => ?_)
      refine pM_zne rfl rfl (fun h9 => ?_) (fun h9 => ?_)
      · replace h := h.2 h9
        refine pM_aln rfl rfl rfl ?_
        refine pM_bi rfl kb_10 ?_
        refine pM_ic rfl ki_0 ?_
        refine pM_qRu (as := [.inr (.inl (some 190)), .inl (.inl 10), .inl (.inl 0)]) (T := []) rfl rfl (fun C hC => cl_v hC rfl rfl rfl rfl) rfl (q_m_emits  h) (fun M11 h => ?_)
        refine pM_go rfl rfl ?_
        refine pM_w (F2 := [(0, .inr (.inl (some 190)))]) (fun L hL => lo_cons (lo_lk hL rfl) lo_nil) ?_
        exact IH hN M11 h
      · replace h := h.1 h9
        refine pM_ic rfl ki_0 ?_
        exact pM_ri rfl (⟨_, rfl, h⟩)
/-- 380: EarCodeModel.readAllOf()Z -/
def W_m_readAllOf_380  (N : Nat) (M : MM) (Q : Int32 → MM → Prop) : Prop :=
  W_m_readAtom_381  N M (fun r1 M2 =>
    ((r1 = 0 →
      Q 0 M2) ∧
     (¬ r1 = 0 →
      W_m_readAllOf_380_9 Q N M2)))
theorem q_m_readAllOf_380 {X : Option (List AI)} {N : Nat} {M : MM}  {Q : Int32 → MM → Prop}  (h : W_m_readAllOf_380  N M Q) : pM X N 380 0 (ea_ar 0 [.inr (.inl (some 190))]) [] M (Ri Q) := by
  refine pM_w (F2 := [(0, .inr (.inl (some 190)))]) (fun L hL => lo_cons (lo_lk hL rfl) lo_nil) ?_
  refine pM_aln rfl rfl rfl ?_
  refine pM_qRi (as := [.inr (.inl (some 190))]) (T := []) rfl rfl (fun C hC => cl_v hC rfl rfl rfl rfl) rfl (q_m_readAtom_381  h) (fun r1 M2 h => ?_)
  refine pM_zne rfl rfl (fun h3 => ?_) (fun h3 => ?_)
  · replace h := h.2 h3
    refine pM_w (F2 := [(0, .inr (.inl (some 190)))]) (fun L hL => lo_cons (lo_lk hL rfl) lo_nil) ?_
    refine q_m_readAllOf_380_9   N (Nat.le_refl N) M2 h
  · replace h := h.1 h3
    refine pM_ic rfl ki_0 ?_
    exact pM_ri rfl (⟨_, rfl, h⟩)
def B_m_readCond_379_9 (Q : Int32 → MM → Prop) (N : Nat) (ih : MM → Prop) (M : MM) : Prop :=
  W_m_passes 12138383 N M (fun r4 M5 =>
    ((r4 = 0 →
      Q 1 M5) ∧
     (¬ r4 = 0 →
      W_m_readAllOf_380  N M5 (fun r7 M8 =>
        ((r7 = 0 →
          Q 0 M8) ∧
         (¬ r7 = 0 →
          W_m_emits 11 0 N M8 (fun M11 =>
            ih M11)))))))
def W_m_readCond_379_9 (Q : Int32 → MM → Prop) : Nat → MM → Prop
  | 0, _ => True
  | N + 1, M => B_m_readCond_379_9 Q N (W_m_readCond_379_9 Q N) M
theorem I_m_readCond_379_9 (Q : Int32 → MM → Prop) (inv : MM → Prop) (hs : ∀ (N : Nat) (ih : MM → Prop) (M : MM), (∀ (M : MM), inv M → ih M) → inv M → B_m_readCond_379_9 Q N ih M) : ∀ (N : Nat) (M : MM), inv M → W_m_readCond_379_9 Q N M := by
  intro N
  induction N with
  | zero => intros; trivial
  | succ N IH =>
    intro M h
    exact hs N _ M IH h
theorem q_m_readCond_379_9 {X : Option (List AI)} {N0 : Nat} {Q : Int32 → MM → Prop}   : ∀ (N : Nat), N ≤ N0 → ∀ (M : MM), W_m_readCond_379_9 Q N M → pM X N 379 9 [(0, .inr (.inl (some 190)))] [] M (Ri Q) := by
  intro N
  induction N with
  | zero => intros; exact pM_zero
  | succ N IH =>
    intro hN M h
    replace hN := Nat.le_of_succ_le hN
    replace h : B_m_readCond_379_9 Q N (W_m_readCond_379_9 Q N) M := h
    refine pM_s (pMs_aln rfl rfl rfl ?_)
    refine pM_lds rfl rfl ?_
    refine pM_qRi (as := [.inr (.inl (some 190)), .inr (.inr (.inr (.inr 12138384)))]) (T := []) rfl rfl (fun C hC => cl_v hC rfl rfl rfl rfl) rfl (q_m_passes (by decide) h) (fun r4 M5 h => ?_)
    refine pM_zeq rfl rfl (fun h6 => ?_) (fun h6 => ?_)
    · replace h := h.1 h6
      refine pM_ic rfl ki_1 ?_
      exact pM_ri rfl (⟨_, rfl, h⟩)
    · replace h := h.2 h6
      refine pM_aln rfl rfl rfl ?_
      refine pM_qRi (as := [.inr (.inl (some 190))]) (T := []) rfl rfl (fun C hC => cl_v hC rfl rfl rfl rfl) rfl (q_m_readAllOf_380  h) (fun r7 M8 h => ?_)
      refine pM_zne rfl rfl (fun h9 => ?_) (fun h9 => ?_)
      · replace h := h.2 h9
        refine pM_aln rfl rfl rfl ?_
        refine pM_bi rfl kb_11 ?_
        refine pM_ic rfl ki_0 ?_
        refine pM_qRu (as := [.inr (.inl (some 190)), .inl (.inl 11), .inl (.inl 0)]) (T := []) rfl rfl (fun C hC => cl_v hC rfl rfl rfl rfl) rfl (q_m_emits  h) (fun M11 h => ?_)
        refine pM_go rfl rfl ?_
        refine pM_w (F2 := [(0, .inr (.inl (some 190)))]) (fun L hL => lo_cons (lo_lk hL rfl) lo_nil) ?_
        exact IH hN M11 h
      · replace h := h.1 h9
        refine pM_ic rfl ki_0 ?_
        exact pM_ri rfl (⟨_, rfl, h⟩)
/-- 379: EarCodeModel.readCond()Z -/
def W_m_readCond_379  (N : Nat) (M : MM) (Q : Int32 → MM → Prop) : Prop :=
  W_m_readAllOf_380  N M (fun r1 M2 =>
    ((r1 = 0 →
      Q 0 M2) ∧
     (¬ r1 = 0 →
      W_m_readCond_379_9 Q N M2)))
theorem q_m_readCond_379 {X : Option (List AI)} {N : Nat} {M : MM}  {Q : Int32 → MM → Prop}  (h : W_m_readCond_379  N M Q) : pM X N 379 0 (ea_ar 0 [.inr (.inl (some 190))]) [] M (Ri Q) := by
  refine pM_w (F2 := [(0, .inr (.inl (some 190)))]) (fun L hL => lo_cons (lo_lk hL rfl) lo_nil) ?_
  refine pM_aln rfl rfl rfl ?_
  refine pM_qRi (as := [.inr (.inl (some 190))]) (T := []) rfl rfl (fun C hC => cl_v hC rfl rfl rfl rfl) rfl (q_m_readAllOf_380  h) (fun r1 M2 h => ?_)
  refine pM_zne rfl rfl (fun h3 => ?_) (fun h3 => ?_)
  · replace h := h.2 h3
    refine pM_w (F2 := [(0, .inr (.inl (some 190)))]) (fun L hL => lo_cons (lo_lk hL rfl) lo_nil) ?_
    refine q_m_readCond_379_9   N (Nat.le_refl N) M2 h
  · replace h := h.1 h3
    refine pM_ic rfl ki_0 ?_
    exact pM_ri rfl (⟨_, rfl, h⟩)
/-- 378: EarCodeModel.readAtom()Z -/
def W_m_readAtom_378  (N : Nat) (M : MM) (Q : Int32 → MM → Prop) : Prop :=
  W_m_sign 40 N M (fun r1 M2 =>
    ((r1 = 0 →
      W_m_passes 3124213513 N M2 (fun r4 M5 =>
        ((r4 = 0 →
          W_m_passes 204756940403467 N M5 (fun r7 M8 =>
            ((r7 = 0 →
              W_m_readSum  N M8 (fun r10 M11 =>
                ((r10 = 0 →
                  Q 0 M11) ∧
                 (¬ r10 = 0 →
                  W_m_sign 60 N M11 (fun r13 M14 =>
                    ((r13 = 0 →
                      W_m_sign 62 N M14 (fun r16 M17 =>
                        ((r16 = 0 →
                          Q 0 M17) ∧
                         (¬ r16 = 0 →
                          W_m_readSum  N M17 (fun r19 M20 =>
                            ((r19 = 0 →
                              Q 0 M20) ∧
                             (¬ r19 = 0 →
                              ((r13 = 0 →
                                W_m_emits 8 0 N M20 (fun M24 =>
                                  Q 1 M24)) ∧
                               (¬ r13 = 0 →
                                W_m_emits 7 0 N M20 (fun M26 =>
                                  Q 1 M26)))))))))) ∧
                     (¬ r13 = 0 →
                      W_m_readSum  N M14 (fun r27 M28 =>
                        ((r27 = 0 →
                          Q 0 M28) ∧
                         (¬ r27 = 0 →
                          ((r13 = 0 →
                            W_m_emits 8 0 N M28 (fun M32 =>
                              Q 1 M32)) ∧
                           (¬ r13 = 0 →
                            W_m_emits 7 0 N M28 (fun M34 =>
                              Q 1 M34))))))))))))) ∧
             (¬ r7 = 0 →
              W_m_emits 4 0 N M8 (fun M36 =>
                Q 1 M36))))) ∧
         (¬ r4 = 0 →
          (((M5.1 190 22) = 6 →
            Q 0 M5) ∧
           (¬ (M5.1 190 22) = 6 →
            W_m_readAtom_381  N (wi M5 190 22 ((M5.1 190 22) + 1)) (fun r38 M39 =>
              ((r38 = 0 →
                Q 0 M39) ∧
               (¬ r38 = 0 →
                W_m_emits 9 0 N (wi M39 190 22 ((M39.1 190 22) - 1)) (fun M42 =>
                  Q 1 M42)))))))))) ∧
     (¬ r1 = 0 →
      (((M2.1 190 22) = 6 →
        Q 0 M2) ∧
       (¬ (M2.1 190 22) = 6 →
        W_m_readCond_379  N (wi M2 190 22 ((M2.1 190 22) + 1)) (fun r44 M45 =>
          ((r44 = 0 →
            Q 0 M45) ∧
           (¬ r44 = 0 →
            W_m_sign 41 N (wi M45 190 22 ((M45.1 190 22) - 1)) (fun r47 M48 =>
              Q r47 M48)))))))))
theorem q_m_readAtom_378 {X : Option (List AI)} {N : Nat} {M : MM}  {Q : Int32 → MM → Prop}  (h : W_m_readAtom_378  N M Q) : pM X N 378 0 (ea_ar 0 [.inr (.inl (some 190))]) [] M (Ri Q) := by
  refine pM_w (F2 := [(0, .inr (.inl (some 190)))]) (fun L hL => lo_cons (lo_lk hL rfl) lo_nil) ?_
  refine pM_aln rfl rfl rfl ?_
  refine pM_bi rfl kb_40 ?_
  refine pM_qRi (as := [.inr (.inl (some 190)), .inl (.inl 40)]) (T := []) rfl rfl (fun C hC => cl_v hC rfl rfl rfl rfl) rfl (q_m_sign  h) (fun r1 M2 h => ?_)
  refine pM_zeq rfl rfl (fun h3 => ?_) (fun h3 => ?_)
  · replace h := h.1 h3
    refine pM_aln rfl rfl rfl ?_
    refine pM_lds rfl rfl ?_
    refine pM_qRi (as := [.inr (.inl (some 190)), .inr (.inr (.inr (.inr 3124213514)))]) (T := []) rfl rfl (fun C hC => cl_v hC rfl rfl rfl rfl) rfl (q_m_passes (by decide) h) (fun r4 M5 h => ?_)
    refine pM_zeq rfl rfl (fun h6 => ?_) (fun h6 => ?_)
    · replace h := h.1 h6
      refine pM_aln rfl rfl rfl ?_
      refine pM_lds rfl rfl ?_
      refine pM_qRi (as := [.inr (.inl (some 190)), .inr (.inr (.inr (.inr 204756940403468)))]) (T := []) rfl rfl (fun C hC => cl_v hC rfl rfl rfl rfl) rfl (q_m_passes (by decide) h) (fun r7 M8 h => ?_)
      refine pM_zeq rfl rfl (fun h9 => ?_) (fun h9 => ?_)
      · replace h := h.1 h9
        refine pM_aln rfl rfl rfl ?_
        refine pM_qRi (as := [.inr (.inl (some 190))]) (T := []) rfl rfl (fun C hC => cl_v hC rfl rfl rfl rfl) rfl (q_m_readSum  h) (fun r10 M11 h => ?_)
        refine pM_zne rfl rfl (fun h12 => ?_) (fun h12 => ?_)
        · replace h := h.2 h12
          refine pM_aln rfl rfl rfl ?_
          refine pM_bi rfl kb_60 ?_
          refine pM_qRi (as := [.inr (.inl (some 190)), .inl (.inl 60)]) (T := []) rfl rfl (fun C hC => cl_v hC rfl rfl rfl rfl) rfl (q_m_sign  h) (fun r13 M14 h => ?_)
          refine pM_isn rfl rfl ?_
          refine pM_iln rfl rfl ?_
          refine pM_zne rfl rfl (fun h15 => ?_) (fun h15 => ?_)
          · replace h := h.2 h15
            refine pM_aln rfl rfl rfl ?_
            refine pM_qRi (as := [.inr (.inl (some 190))]) (T := []) rfl rfl (fun C hC => cl_v hC rfl rfl rfl rfl) rfl (q_m_readSum  h) (fun r27 M28 h => ?_)
            refine pM_zne rfl rfl (fun h29 => ?_) (fun h29 => ?_)
            · replace h := h.2 h29
              refine pM_aln rfl rfl rfl ?_
              refine pM_iln rfl rfl ?_
              refine pM_zeq rfl rfl (fun h30 => ?_) (fun h30 => ?_)
              · replace h := h.1 h30
                refine pM_bi rfl kb_8 ?_
                refine pM_ic rfl ki_0 ?_
                refine pM_qRu (as := [.inr (.inl (some 190)), .inl (.inl 8), .inl (.inl 0)]) (T := []) rfl rfl (fun C hC => cl_v hC rfl rfl rfl rfl) rfl (q_m_emits  h) (fun M32 h => ?_)
                refine pM_ic rfl ki_1 ?_
                exact pM_ri rfl (⟨_, rfl, h⟩)
              · replace h := h.2 h30
                refine pM_bi rfl kb_7 ?_
                refine pM_go rfl rfl ?_
                refine pM_ic rfl ki_0 ?_
                refine pM_qRu (as := [.inr (.inl (some 190)), .inl (.inl 7), .inl (.inl 0)]) (T := []) rfl rfl (fun C hC => cl_v hC rfl rfl rfl rfl) rfl (q_m_emits  h) (fun M34 h => ?_)
                refine pM_ic rfl ki_1 ?_
                exact pM_ri rfl (⟨_, rfl, h⟩)
            · replace h := h.1 h29
              refine pM_ic rfl ki_0 ?_
              exact pM_ri rfl (⟨_, rfl, h⟩)
          · replace h := h.1 h15
            refine pM_aln rfl rfl rfl ?_
            refine pM_bi rfl kb_62 ?_
            refine pM_qRi (as := [.inr (.inl (some 190)), .inl (.inl 62)]) (T := []) rfl rfl (fun C hC => cl_v hC rfl rfl rfl rfl) rfl (q_m_sign  h) (fun r16 M17 h => ?_)
            refine pM_zeq rfl rfl (fun h18 => ?_) (fun h18 => ?_)
            · replace h := h.1 h18
              refine pM_ic rfl ki_0 ?_
              exact pM_ri rfl (⟨_, rfl, h⟩)
            · replace h := h.2 h18
              refine pM_aln rfl rfl rfl ?_
              refine pM_qRi (as := [.inr (.inl (some 190))]) (T := []) rfl rfl (fun C hC => cl_v hC rfl rfl rfl rfl) rfl (q_m_readSum  h) (fun r19 M20 h => ?_)
              refine pM_zne rfl rfl (fun h21 => ?_) (fun h21 => ?_)
              · replace h := h.2 h21
                refine pM_aln rfl rfl rfl ?_
                refine pM_iln rfl rfl ?_
                refine pM_zeq rfl rfl (fun h22 => ?_) (fun h22 => ?_)
                · replace h := h.1 h22
                  refine pM_bi rfl kb_8 ?_
                  refine pM_ic rfl ki_0 ?_
                  refine pM_qRu (as := [.inr (.inl (some 190)), .inl (.inl 8), .inl (.inl 0)]) (T := []) rfl rfl (fun C hC => cl_v hC rfl rfl rfl rfl) rfl (q_m_emits  h) (fun M24 h => ?_)
                  refine pM_ic rfl ki_1 ?_
                  exact pM_ri rfl (⟨_, rfl, h⟩)
                · replace h := h.2 h22
                  refine pM_bi rfl kb_7 ?_
                  refine pM_go rfl rfl ?_
                  refine pM_ic rfl ki_0 ?_
                  refine pM_qRu (as := [.inr (.inl (some 190)), .inl (.inl 7), .inl (.inl 0)]) (T := []) rfl rfl (fun C hC => cl_v hC rfl rfl rfl rfl) rfl (q_m_emits  h) (fun M26 h => ?_)
                  refine pM_ic rfl ki_1 ?_
                  exact pM_ri rfl (⟨_, rfl, h⟩)
              · replace h := h.1 h21
                refine pM_ic rfl ki_0 ?_
                exact pM_ri rfl (⟨_, rfl, h⟩)
        · replace h := h.1 h12
          refine pM_ic rfl ki_0 ?_
          exact pM_ri rfl (⟨_, rfl, h⟩)
      · replace h := h.2 h9
        refine pM_aln rfl rfl rfl ?_
        refine pM_ic rfl ki_4 ?_
        refine pM_ic rfl ki_0 ?_
        refine pM_qRu (as := [.inr (.inl (some 190)), .inl (.inl 4), .inl (.inl 0)]) (T := []) rfl rfl (fun C hC => cl_v hC rfl rfl rfl rfl) rfl (q_m_emits  h) (fun M36 h => ?_)
        refine pM_ic rfl ki_1 ?_
        exact pM_ri rfl (⟨_, rfl, h⟩)
    · replace h := h.2 h6
      refine pM_aln rfl rfl rfl ?_
      refine pM_gi rfl rfl rfl rfl ?_
      refine pM_bi rfl kb_6 ?_
      refine pM_cne rfl rfl (fun h37 => ?_) (fun h37 => ?_)
      · replace h := h.2 h37
        refine pM_aln rfl rfl rfl ?_
        refine pM_p (pc' := 78) (S' := [.inr (.inl (some 190)), .inr (.inl (some 190))]) rfl rfl (fun _ => rfl) ?_
        refine pM_gi rfl rfl rfl rfl ?_
        refine pM_ic rfl ki_1 ?_
        refine pM_add rfl ?_
        refine pM_pi rfl rfl rfl rfl ?_
        refine pM_aln rfl rfl rfl ?_
        refine pM_qRi (as := [.inr (.inl (some 190))]) (T := []) rfl rfl (fun C hC => cl_v hC rfl rfl rfl rfl) rfl (q_m_readAtom_381  h) (fun r38 M39 h => ?_)
        refine pM_zne rfl rfl (fun h40 => ?_) (fun h40 => ?_)
        · replace h := h.2 h40
          refine pM_aln rfl rfl rfl ?_
          refine pM_p (pc' := 97) (S' := [.inr (.inl (some 190)), .inr (.inl (some 190))]) rfl rfl (fun _ => rfl) ?_
          refine pM_gi rfl rfl rfl rfl ?_
          refine pM_ic rfl ki_1 ?_
          refine pM_sub rfl ?_
          refine pM_pi rfl rfl rfl rfl ?_
          refine pM_aln rfl rfl rfl ?_
          refine pM_bi rfl kb_9 ?_
          refine pM_ic rfl ki_0 ?_
          refine pM_qRu (as := [.inr (.inl (some 190)), .inl (.inl 9), .inl (.inl 0)]) (T := []) rfl rfl (fun C hC => cl_v hC rfl rfl rfl rfl) rfl (q_m_emits  h) (fun M42 h => ?_)
          refine pM_ic rfl ki_1 ?_
          exact pM_ri rfl (⟨_, rfl, h⟩)
        · replace h := h.1 h40
          refine pM_ic rfl ki_0 ?_
          exact pM_ri rfl (⟨_, rfl, h⟩)
      · replace h := h.1 h37
        refine pM_ic rfl ki_0 ?_
        exact pM_ri rfl (⟨_, rfl, h⟩)
  · replace h := h.2 h3
    refine pM_aln rfl rfl rfl ?_
    refine pM_gi rfl rfl rfl rfl ?_
    refine pM_bi rfl kb_6 ?_
    refine pM_cne rfl rfl (fun h43 => ?_) (fun h43 => ?_)
    · replace h := h.2 h43
      refine pM_aln rfl rfl rfl ?_
      refine pM_p (pc' := 22) (S' := [.inr (.inl (some 190)), .inr (.inl (some 190))]) rfl rfl (fun _ => rfl) ?_
      refine pM_gi rfl rfl rfl rfl ?_
      refine pM_ic rfl ki_1 ?_
      refine pM_add rfl ?_
      refine pM_pi rfl rfl rfl rfl ?_
      refine pM_aln rfl rfl rfl ?_
      refine pM_qRi (as := [.inr (.inl (some 190))]) (T := []) rfl rfl (fun C hC => cl_v hC rfl rfl rfl rfl) rfl (q_m_readCond_379  h) (fun r44 M45 h => ?_)
      refine pM_zne rfl rfl (fun h46 => ?_) (fun h46 => ?_)
      · replace h := h.2 h46
        refine pM_aln rfl rfl rfl ?_
        refine pM_p (pc' := 41) (S' := [.inr (.inl (some 190)), .inr (.inl (some 190))]) rfl rfl (fun _ => rfl) ?_
        refine pM_gi rfl rfl rfl rfl ?_
        refine pM_ic rfl ki_1 ?_
        refine pM_sub rfl ?_
        refine pM_pi rfl rfl rfl rfl ?_
        refine pM_aln rfl rfl rfl ?_
        refine pM_bi rfl kb_41 ?_
        refine pM_qRi (as := [.inr (.inl (some 190)), .inl (.inl 41)]) (T := []) rfl rfl (fun C hC => cl_v hC rfl rfl rfl rfl) rfl (q_m_sign  h) (fun r47 M48 h => ?_)
        exact pM_ri rfl (⟨_, rfl, h⟩)
      · replace h := h.1 h46
        refine pM_ic rfl ki_0 ?_
        exact pM_ri rfl (⟨_, rfl, h⟩)
    · replace h := h.1 h43
      refine pM_ic rfl ki_0 ?_
      exact pM_ri rfl (⟨_, rfl, h⟩)
def B_m_readAllOf_377_9 (Q : Int32 → MM → Prop) (N : Nat) (ih : MM → Prop) (M : MM) : Prop :=
  W_m_passes 2989961357 N M (fun r4 M5 =>
    ((r4 = 0 →
      Q 1 M5) ∧
     (¬ r4 = 0 →
      W_m_readAtom_378  N M5 (fun r7 M8 =>
        ((r7 = 0 →
          Q 0 M8) ∧
         (¬ r7 = 0 →
          W_m_emits 10 0 N M8 (fun M11 =>
            ih M11)))))))
def W_m_readAllOf_377_9 (Q : Int32 → MM → Prop) : Nat → MM → Prop
  | 0, _ => True
  | N + 1, M => B_m_readAllOf_377_9 Q N (W_m_readAllOf_377_9 Q N) M
theorem I_m_readAllOf_377_9 (Q : Int32 → MM → Prop) (inv : MM → Prop) (hs : ∀ (N : Nat) (ih : MM → Prop) (M : MM), (∀ (M : MM), inv M → ih M) → inv M → B_m_readAllOf_377_9 Q N ih M) : ∀ (N : Nat) (M : MM), inv M → W_m_readAllOf_377_9 Q N M := by
  intro N
  induction N with
  | zero => intros; trivial
  | succ N IH =>
    intro M h
    exact hs N _ M IH h
theorem q_m_readAllOf_377_9 {X : Option (List AI)} {N0 : Nat} {Q : Int32 → MM → Prop}   : ∀ (N : Nat), N ≤ N0 → ∀ (M : MM), W_m_readAllOf_377_9 Q N M → pM X N 377 9 [(0, .inr (.inl (some 190)))] [] M (Ri Q) := by
  intro N
  induction N with
  | zero => intros; exact pM_zero
  | succ N IH =>
    intro hN M h
    replace hN := Nat.le_of_succ_le hN
    replace h : B_m_readAllOf_377_9 Q N (W_m_readAllOf_377_9 Q N) M := h
    refine pM_s (pMs_aln rfl rfl rfl ?_)
    refine pM_lds rfl rfl ?_
    refine pM_qRi (as := [.inr (.inl (some 190)), .inr (.inr (.inr (.inr 2989961358)))]) (T := []) rfl rfl (fun C hC => cl_v hC rfl rfl rfl rfl) rfl (q_m_passes (by decide) h) (fun r4 M5 h => ?_)
    refine pM_zeq rfl rfl (fun h6 => ?_) (fun h6 => ?_)
    · replace h := h.1 h6
      refine pM_ic rfl ki_1 ?_
      exact pM_ri rfl (⟨_, rfl, h⟩)
    · replace h := h.2 h6
      refine pM_aln rfl rfl rfl ?_
      refine pM_qRi (as := [.inr (.inl (some 190))]) (T := []) rfl rfl (fun C hC => cl_v hC rfl rfl rfl rfl) rfl (q_m_readAtom_378  h) (fun r7 M8 h => ?_)
      refine pM_zne rfl rfl (fun h9 => ?_) (fun h9 => ?_)
      · replace h := h.2 h9
        refine pM_aln rfl rfl rfl ?_
        refine pM_bi rfl kb_10 ?_
        refine pM_ic rfl ki_0 ?_
        refine pM_qRu (as := [.inr (.inl (some 190)), .inl (.inl 10), .inl (.inl 0)]) (T := []) rfl rfl (fun C hC => cl_v hC rfl rfl rfl rfl) rfl (q_m_emits  h) (fun M11 h => ?_)
        refine pM_go rfl rfl ?_
        refine pM_w (F2 := [(0, .inr (.inl (some 190)))]) (fun L hL => lo_cons (lo_lk hL rfl) lo_nil) ?_
        exact IH hN M11 h
      · replace h := h.1 h9
        refine pM_ic rfl ki_0 ?_
        exact pM_ri rfl (⟨_, rfl, h⟩)
/-- 377: EarCodeModel.readAllOf()Z -/
def W_m_readAllOf_377  (N : Nat) (M : MM) (Q : Int32 → MM → Prop) : Prop :=
  W_m_readAtom_378  N M (fun r1 M2 =>
    ((r1 = 0 →
      Q 0 M2) ∧
     (¬ r1 = 0 →
      W_m_readAllOf_377_9 Q N M2)))
theorem q_m_readAllOf_377 {X : Option (List AI)} {N : Nat} {M : MM}  {Q : Int32 → MM → Prop}  (h : W_m_readAllOf_377  N M Q) : pM X N 377 0 (ea_ar 0 [.inr (.inl (some 190))]) [] M (Ri Q) := by
  refine pM_w (F2 := [(0, .inr (.inl (some 190)))]) (fun L hL => lo_cons (lo_lk hL rfl) lo_nil) ?_
  refine pM_aln rfl rfl rfl ?_
  refine pM_qRi (as := [.inr (.inl (some 190))]) (T := []) rfl rfl (fun C hC => cl_v hC rfl rfl rfl rfl) rfl (q_m_readAtom_378  h) (fun r1 M2 h => ?_)
  refine pM_zne rfl rfl (fun h3 => ?_) (fun h3 => ?_)
  · replace h := h.2 h3
    refine pM_w (F2 := [(0, .inr (.inl (some 190)))]) (fun L hL => lo_cons (lo_lk hL rfl) lo_nil) ?_
    refine q_m_readAllOf_377_9   N (Nat.le_refl N) M2 h
  · replace h := h.1 h3
    refine pM_ic rfl ki_0 ?_
    exact pM_ri rfl (⟨_, rfl, h⟩)
def B_m_readCond_376_9 (Q : Int32 → MM → Prop) (N : Nat) (ih : MM → Prop) (M : MM) : Prop :=
  W_m_passes 12138383 N M (fun r4 M5 =>
    ((r4 = 0 →
      Q 1 M5) ∧
     (¬ r4 = 0 →
      W_m_readAllOf_377  N M5 (fun r7 M8 =>
        ((r7 = 0 →
          Q 0 M8) ∧
         (¬ r7 = 0 →
          W_m_emits 11 0 N M8 (fun M11 =>
            ih M11)))))))
def W_m_readCond_376_9 (Q : Int32 → MM → Prop) : Nat → MM → Prop
  | 0, _ => True
  | N + 1, M => B_m_readCond_376_9 Q N (W_m_readCond_376_9 Q N) M
theorem I_m_readCond_376_9 (Q : Int32 → MM → Prop) (inv : MM → Prop) (hs : ∀ (N : Nat) (ih : MM → Prop) (M : MM), (∀ (M : MM), inv M → ih M) → inv M → B_m_readCond_376_9 Q N ih M) : ∀ (N : Nat) (M : MM), inv M → W_m_readCond_376_9 Q N M := by
  intro N
  induction N with
  | zero => intros; trivial
  | succ N IH =>
    intro M h
    exact hs N _ M IH h
theorem q_m_readCond_376_9 {X : Option (List AI)} {N0 : Nat} {Q : Int32 → MM → Prop}   : ∀ (N : Nat), N ≤ N0 → ∀ (M : MM), W_m_readCond_376_9 Q N M → pM X N 376 9 [(0, .inr (.inl (some 190)))] [] M (Ri Q) := by
  intro N
  induction N with
  | zero => intros; exact pM_zero
  | succ N IH =>
    intro hN M h
    replace hN := Nat.le_of_succ_le hN
    replace h : B_m_readCond_376_9 Q N (W_m_readCond_376_9 Q N) M := h
    refine pM_s (pMs_aln rfl rfl rfl ?_)
    refine pM_lds rfl rfl ?_
    refine pM_qRi (as := [.inr (.inl (some 190)), .inr (.inr (.inr (.inr 12138384)))]) (T := []) rfl rfl (fun C hC => cl_v hC rfl rfl rfl rfl) rfl (q_m_passes (by decide) h) (fun r4 M5 h => ?_)
    refine pM_zeq rfl rfl (fun h6 => ?_) (fun h6 => ?_)
    · replace h := h.1 h6
      refine pM_ic rfl ki_1 ?_
      exact pM_ri rfl (⟨_, rfl, h⟩)
    · replace h := h.2 h6
      refine pM_aln rfl rfl rfl ?_
      refine pM_qRi (as := [.inr (.inl (some 190))]) (T := []) rfl rfl (fun C hC => cl_v hC rfl rfl rfl rfl) rfl (q_m_readAllOf_377  h) (fun r7 M8 h => ?_)
      refine pM_zne rfl rfl (fun h9 => ?_) (fun h9 => ?_)
      · replace h := h.2 h9
        refine pM_aln rfl rfl rfl ?_
        refine pM_bi rfl kb_11 ?_
        refine pM_ic rfl ki_0 ?_
        refine pM_qRu (as := [.inr (.inl (some 190)), .inl (.inl 11), .inl (.inl 0)]) (T := []) rfl rfl (fun C hC => cl_v hC rfl rfl rfl rfl) rfl (q_m_emits  h) (fun M11 h => ?_)
        refine pM_go rfl rfl ?_
        refine pM_w (F2 := [(0, .inr (.inl (some 190)))]) (fun L hL => lo_cons (lo_lk hL rfl) lo_nil) ?_
        exact IH hN M11 h
      · replace h := h.1 h9
        refine pM_ic rfl ki_0 ?_
        exact pM_ri rfl (⟨_, rfl, h⟩)
/-- 376: EarCodeModel.readCond()Z -/
def W_m_readCond_376  (N : Nat) (M : MM) (Q : Int32 → MM → Prop) : Prop :=
  W_m_readAllOf_377  N M (fun r1 M2 =>
    ((r1 = 0 →
      Q 0 M2) ∧
     (¬ r1 = 0 →
      W_m_readCond_376_9 Q N M2)))
theorem q_m_readCond_376 {X : Option (List AI)} {N : Nat} {M : MM}  {Q : Int32 → MM → Prop}  (h : W_m_readCond_376  N M Q) : pM X N 376 0 (ea_ar 0 [.inr (.inl (some 190))]) [] M (Ri Q) := by
  refine pM_w (F2 := [(0, .inr (.inl (some 190)))]) (fun L hL => lo_cons (lo_lk hL rfl) lo_nil) ?_
  refine pM_aln rfl rfl rfl ?_
  refine pM_qRi (as := [.inr (.inl (some 190))]) (T := []) rfl rfl (fun C hC => cl_v hC rfl rfl rfl rfl) rfl (q_m_readAllOf_377  h) (fun r1 M2 h => ?_)
  refine pM_zne rfl rfl (fun h3 => ?_) (fun h3 => ?_)
  · replace h := h.2 h3
    refine pM_w (F2 := [(0, .inr (.inl (some 190)))]) (fun L hL => lo_cons (lo_lk hL rfl) lo_nil) ?_
    refine q_m_readCond_376_9   N (Nat.le_refl N) M2 h
  · replace h := h.1 h3
    refine pM_ic rfl ki_0 ?_
    exact pM_ri rfl (⟨_, rfl, h⟩)
/-- 375: EarCodeModel.readAtom()Z -/
def W_m_readAtom_375  (N : Nat) (M : MM) (Q : Int32 → MM → Prop) : Prop :=
  W_m_sign 40 N M (fun r1 M2 =>
    ((r1 = 0 →
      W_m_passes 3124213513 N M2 (fun r4 M5 =>
        ((r4 = 0 →
          W_m_passes 204756940403467 N M5 (fun r7 M8 =>
            ((r7 = 0 →
              W_m_readSum  N M8 (fun r10 M11 =>
                ((r10 = 0 →
                  Q 0 M11) ∧
                 (¬ r10 = 0 →
                  W_m_sign 60 N M11 (fun r13 M14 =>
                    ((r13 = 0 →
                      W_m_sign 62 N M14 (fun r16 M17 =>
                        ((r16 = 0 →
                          Q 0 M17) ∧
                         (¬ r16 = 0 →
                          W_m_readSum  N M17 (fun r19 M20 =>
                            ((r19 = 0 →
                              Q 0 M20) ∧
                             (¬ r19 = 0 →
                              ((r13 = 0 →
                                W_m_emits 8 0 N M20 (fun M24 =>
                                  Q 1 M24)) ∧
                               (¬ r13 = 0 →
                                W_m_emits 7 0 N M20 (fun M26 =>
                                  Q 1 M26)))))))))) ∧
                     (¬ r13 = 0 →
                      W_m_readSum  N M14 (fun r27 M28 =>
                        ((r27 = 0 →
                          Q 0 M28) ∧
                         (¬ r27 = 0 →
                          ((r13 = 0 →
                            W_m_emits 8 0 N M28 (fun M32 =>
                              Q 1 M32)) ∧
                           (¬ r13 = 0 →
                            W_m_emits 7 0 N M28 (fun M34 =>
                              Q 1 M34))))))))))))) ∧
             (¬ r7 = 0 →
              W_m_emits 4 0 N M8 (fun M36 =>
                Q 1 M36))))) ∧
         (¬ r4 = 0 →
          (((M5.1 190 22) = 6 →
            Q 0 M5) ∧
           (¬ (M5.1 190 22) = 6 →
            W_m_readAtom_378  N (wi M5 190 22 ((M5.1 190 22) + 1)) (fun r38 M39 =>
              ((r38 = 0 →
                Q 0 M39) ∧
               (¬ r38 = 0 →
                W_m_emits 9 0 N (wi M39 190 22 ((M39.1 190 22) - 1)) (fun M42 =>
                  Q 1 M42)))))))))) ∧
     (¬ r1 = 0 →
      (((M2.1 190 22) = 6 →
        Q 0 M2) ∧
       (¬ (M2.1 190 22) = 6 →
        W_m_readCond_376  N (wi M2 190 22 ((M2.1 190 22) + 1)) (fun r44 M45 =>
          ((r44 = 0 →
            Q 0 M45) ∧
           (¬ r44 = 0 →
            W_m_sign 41 N (wi M45 190 22 ((M45.1 190 22) - 1)) (fun r47 M48 =>
              Q r47 M48)))))))))
theorem q_m_readAtom_375 {X : Option (List AI)} {N : Nat} {M : MM}  {Q : Int32 → MM → Prop}  (h : W_m_readAtom_375  N M Q) : pM X N 375 0 (ea_ar 0 [.inr (.inl (some 190))]) [] M (Ri Q) := by
  refine pM_w (F2 := [(0, .inr (.inl (some 190)))]) (fun L hL => lo_cons (lo_lk hL rfl) lo_nil) ?_
  refine pM_aln rfl rfl rfl ?_
  refine pM_bi rfl kb_40 ?_
  refine pM_qRi (as := [.inr (.inl (some 190)), .inl (.inl 40)]) (T := []) rfl rfl (fun C hC => cl_v hC rfl rfl rfl rfl) rfl (q_m_sign  h) (fun r1 M2 h => ?_)
  refine pM_zeq rfl rfl (fun h3 => ?_) (fun h3 => ?_)
  · replace h := h.1 h3
    refine pM_aln rfl rfl rfl ?_
    refine pM_lds rfl rfl ?_
    refine pM_qRi (as := [.inr (.inl (some 190)), .inr (.inr (.inr (.inr 3124213514)))]) (T := []) rfl rfl (fun C hC => cl_v hC rfl rfl rfl rfl) rfl (q_m_passes (by decide) h) (fun r4 M5 h => ?_)
    refine pM_zeq rfl rfl (fun h6 => ?_) (fun h6 => ?_)
    · replace h := h.1 h6
      refine pM_aln rfl rfl rfl ?_
      refine pM_lds rfl rfl ?_
      refine pM_qRi (as := [.inr (.inl (some 190)), .inr (.inr (.inr (.inr 204756940403468)))]) (T := []) rfl rfl (fun C hC => cl_v hC rfl rfl rfl rfl) rfl (q_m_passes (by decide) h) (fun r7 M8 h => ?_)
      refine pM_zeq rfl rfl (fun h9 => ?_) (fun h9 => ?_)
      · replace h := h.1 h9
        refine pM_aln rfl rfl rfl ?_
        refine pM_qRi (as := [.inr (.inl (some 190))]) (T := []) rfl rfl (fun C hC => cl_v hC rfl rfl rfl rfl) rfl (q_m_readSum  h) (fun r10 M11 h => ?_)
        refine pM_zne rfl rfl (fun h12 => ?_) (fun h12 => ?_)
        · replace h := h.2 h12
          refine pM_aln rfl rfl rfl ?_
          refine pM_bi rfl kb_60 ?_
          refine pM_qRi (as := [.inr (.inl (some 190)), .inl (.inl 60)]) (T := []) rfl rfl (fun C hC => cl_v hC rfl rfl rfl rfl) rfl (q_m_sign  h) (fun r13 M14 h => ?_)
          refine pM_isn rfl rfl ?_
          refine pM_iln rfl rfl ?_
          refine pM_zne rfl rfl (fun h15 => ?_) (fun h15 => ?_)
          · replace h := h.2 h15
            refine pM_aln rfl rfl rfl ?_
            refine pM_qRi (as := [.inr (.inl (some 190))]) (T := []) rfl rfl (fun C hC => cl_v hC rfl rfl rfl rfl) rfl (q_m_readSum  h) (fun r27 M28 h => ?_)
            refine pM_zne rfl rfl (fun h29 => ?_) (fun h29 => ?_)
            · replace h := h.2 h29
              refine pM_aln rfl rfl rfl ?_
              refine pM_iln rfl rfl ?_
              refine pM_zeq rfl rfl (fun h30 => ?_) (fun h30 => ?_)
              · replace h := h.1 h30
                refine pM_bi rfl kb_8 ?_
                refine pM_ic rfl ki_0 ?_
                refine pM_qRu (as := [.inr (.inl (some 190)), .inl (.inl 8), .inl (.inl 0)]) (T := []) rfl rfl (fun C hC => cl_v hC rfl rfl rfl rfl) rfl (q_m_emits  h) (fun M32 h => ?_)
                refine pM_ic rfl ki_1 ?_
                exact pM_ri rfl (⟨_, rfl, h⟩)
              · replace h := h.2 h30
                refine pM_bi rfl kb_7 ?_
                refine pM_go rfl rfl ?_
                refine pM_ic rfl ki_0 ?_
                refine pM_qRu (as := [.inr (.inl (some 190)), .inl (.inl 7), .inl (.inl 0)]) (T := []) rfl rfl (fun C hC => cl_v hC rfl rfl rfl rfl) rfl (q_m_emits  h) (fun M34 h => ?_)
                refine pM_ic rfl ki_1 ?_
                exact pM_ri rfl (⟨_, rfl, h⟩)
            · replace h := h.1 h29
              refine pM_ic rfl ki_0 ?_
              exact pM_ri rfl (⟨_, rfl, h⟩)
          · replace h := h.1 h15
            refine pM_aln rfl rfl rfl ?_
            refine pM_bi rfl kb_62 ?_
            refine pM_qRi (as := [.inr (.inl (some 190)), .inl (.inl 62)]) (T := []) rfl rfl (fun C hC => cl_v hC rfl rfl rfl rfl) rfl (q_m_sign  h) (fun r16 M17 h => ?_)
            refine pM_zeq rfl rfl (fun h18 => ?_) (fun h18 => ?_)
            · replace h := h.1 h18
              refine pM_ic rfl ki_0 ?_
              exact pM_ri rfl (⟨_, rfl, h⟩)
            · replace h := h.2 h18
              refine pM_aln rfl rfl rfl ?_
              refine pM_qRi (as := [.inr (.inl (some 190))]) (T := []) rfl rfl (fun C hC => cl_v hC rfl rfl rfl rfl) rfl (q_m_readSum  h) (fun r19 M20 h => ?_)
              refine pM_zne rfl rfl (fun h21 => ?_) (fun h21 => ?_)
              · replace h := h.2 h21
                refine pM_aln rfl rfl rfl ?_
                refine pM_iln rfl rfl ?_
                refine pM_zeq rfl rfl (fun h22 => ?_) (fun h22 => ?_)
                · replace h := h.1 h22
                  refine pM_bi rfl kb_8 ?_
                  refine pM_ic rfl ki_0 ?_
                  refine pM_qRu (as := [.inr (.inl (some 190)), .inl (.inl 8), .inl (.inl 0)]) (T := []) rfl rfl (fun C hC => cl_v hC rfl rfl rfl rfl) rfl (q_m_emits  h) (fun M24 h => ?_)
                  refine pM_ic rfl ki_1 ?_
                  exact pM_ri rfl (⟨_, rfl, h⟩)
                · replace h := h.2 h22
                  refine pM_bi rfl kb_7 ?_
                  refine pM_go rfl rfl ?_
                  refine pM_ic rfl ki_0 ?_
                  refine pM_qRu (as := [.inr (.inl (some 190)), .inl (.inl 7), .inl (.inl 0)]) (T := []) rfl rfl (fun C hC => cl_v hC rfl rfl rfl rfl) rfl (q_m_emits  h) (fun M26 h => ?_)
                  refine pM_ic rfl ki_1 ?_
                  exact pM_ri rfl (⟨_, rfl, h⟩)
              · replace h := h.1 h21
                refine pM_ic rfl ki_0 ?_
                exact pM_ri rfl (⟨_, rfl, h⟩)
        · replace h := h.1 h12
          refine pM_ic rfl ki_0 ?_
          exact pM_ri rfl (⟨_, rfl, h⟩)
      · replace h := h.2 h9
        refine pM_aln rfl rfl rfl ?_
        refine pM_ic rfl ki_4 ?_
        refine pM_ic rfl ki_0 ?_
        refine pM_qRu (as := [.inr (.inl (some 190)), .inl (.inl 4), .inl (.inl 0)]) (T := []) rfl rfl (fun C hC => cl_v hC rfl rfl rfl rfl) rfl (q_m_emits  h) (fun M36 h => ?_)
        refine pM_ic rfl ki_1 ?_
        exact pM_ri rfl (⟨_, rfl, h⟩)
    · replace h := h.2 h6
      refine pM_aln rfl rfl rfl ?_
      refine pM_gi rfl rfl rfl rfl ?_
      refine pM_bi rfl kb_6 ?_
      refine pM_cne rfl rfl (fun h37 => ?_) (fun h37 => ?_)
      · replace h := h.2 h37
        refine pM_aln rfl rfl rfl ?_
        refine pM_p (pc' := 78) (S' := [.inr (.inl (some 190)), .inr (.inl (some 190))]) rfl rfl (fun _ => rfl) ?_
        refine pM_gi rfl rfl rfl rfl ?_
        refine pM_ic rfl ki_1 ?_
        refine pM_add rfl ?_
        refine pM_pi rfl rfl rfl rfl ?_
        refine pM_aln rfl rfl rfl ?_
        refine pM_qRi (as := [.inr (.inl (some 190))]) (T := []) rfl rfl (fun C hC => cl_v hC rfl rfl rfl rfl) rfl (q_m_readAtom_378  h) (fun r38 M39 h => ?_)
        refine pM_zne rfl rfl (fun h40 => ?_) (fun h40 => ?_)
        · replace h := h.2 h40
          refine pM_aln rfl rfl rfl ?_
          refine pM_p (pc' := 97) (S' := [.inr (.inl (some 190)), .inr (.inl (some 190))]) rfl rfl (fun _ => rfl) ?_
          refine pM_gi rfl rfl rfl rfl ?_
          refine pM_ic rfl ki_1 ?_
          refine pM_sub rfl ?_
          refine pM_pi rfl rfl rfl rfl ?_
          refine pM_aln rfl rfl rfl ?_
          refine pM_bi rfl kb_9 ?_
          refine pM_ic rfl ki_0 ?_
          refine pM_qRu (as := [.inr (.inl (some 190)), .inl (.inl 9), .inl (.inl 0)]) (T := []) rfl rfl (fun C hC => cl_v hC rfl rfl rfl rfl) rfl (q_m_emits  h) (fun M42 h => ?_)
          refine pM_ic rfl ki_1 ?_
          exact pM_ri rfl (⟨_, rfl, h⟩)
        · replace h := h.1 h40
          refine pM_ic rfl ki_0 ?_
          exact pM_ri rfl (⟨_, rfl, h⟩)
      · replace h := h.1 h37
        refine pM_ic rfl ki_0 ?_
        exact pM_ri rfl (⟨_, rfl, h⟩)
  · replace h := h.2 h3
    refine pM_aln rfl rfl rfl ?_
    refine pM_gi rfl rfl rfl rfl ?_
    refine pM_bi rfl kb_6 ?_
    refine pM_cne rfl rfl (fun h43 => ?_) (fun h43 => ?_)
    · replace h := h.2 h43
      refine pM_aln rfl rfl rfl ?_
      refine pM_p (pc' := 22) (S' := [.inr (.inl (some 190)), .inr (.inl (some 190))]) rfl rfl (fun _ => rfl) ?_
      refine pM_gi rfl rfl rfl rfl ?_
      refine pM_ic rfl ki_1 ?_
      refine pM_add rfl ?_
      refine pM_pi rfl rfl rfl rfl ?_
      refine pM_aln rfl rfl rfl ?_
      refine pM_qRi (as := [.inr (.inl (some 190))]) (T := []) rfl rfl (fun C hC => cl_v hC rfl rfl rfl rfl) rfl (q_m_readCond_376  h) (fun r44 M45 h => ?_)
      refine pM_zne rfl rfl (fun h46 => ?_) (fun h46 => ?_)
      · replace h := h.2 h46
        refine pM_aln rfl rfl rfl ?_
        refine pM_p (pc' := 41) (S' := [.inr (.inl (some 190)), .inr (.inl (some 190))]) rfl rfl (fun _ => rfl) ?_
        refine pM_gi rfl rfl rfl rfl ?_
        refine pM_ic rfl ki_1 ?_
        refine pM_sub rfl ?_
        refine pM_pi rfl rfl rfl rfl ?_
        refine pM_aln rfl rfl rfl ?_
        refine pM_bi rfl kb_41 ?_
        refine pM_qRi (as := [.inr (.inl (some 190)), .inl (.inl 41)]) (T := []) rfl rfl (fun C hC => cl_v hC rfl rfl rfl rfl) rfl (q_m_sign  h) (fun r47 M48 h => ?_)
        exact pM_ri rfl (⟨_, rfl, h⟩)
      · replace h := h.1 h46
        refine pM_ic rfl ki_0 ?_
        exact pM_ri rfl (⟨_, rfl, h⟩)
    · replace h := h.1 h43
      refine pM_ic rfl ki_0 ?_
      exact pM_ri rfl (⟨_, rfl, h⟩)
def B_m_readAllOf_374_9 (Q : Int32 → MM → Prop) (N : Nat) (ih : MM → Prop) (M : MM) : Prop :=
  W_m_passes 2989961357 N M (fun r4 M5 =>
    ((r4 = 0 →
      Q 1 M5) ∧
     (¬ r4 = 0 →
      W_m_readAtom_375  N M5 (fun r7 M8 =>
        ((r7 = 0 →
          Q 0 M8) ∧
         (¬ r7 = 0 →
          W_m_emits 10 0 N M8 (fun M11 =>
            ih M11)))))))
def W_m_readAllOf_374_9 (Q : Int32 → MM → Prop) : Nat → MM → Prop
  | 0, _ => True
  | N + 1, M => B_m_readAllOf_374_9 Q N (W_m_readAllOf_374_9 Q N) M
theorem I_m_readAllOf_374_9 (Q : Int32 → MM → Prop) (inv : MM → Prop) (hs : ∀ (N : Nat) (ih : MM → Prop) (M : MM), (∀ (M : MM), inv M → ih M) → inv M → B_m_readAllOf_374_9 Q N ih M) : ∀ (N : Nat) (M : MM), inv M → W_m_readAllOf_374_9 Q N M := by
  intro N
  induction N with
  | zero => intros; trivial
  | succ N IH =>
    intro M h
    exact hs N _ M IH h
theorem q_m_readAllOf_374_9 {X : Option (List AI)} {N0 : Nat} {Q : Int32 → MM → Prop}   : ∀ (N : Nat), N ≤ N0 → ∀ (M : MM), W_m_readAllOf_374_9 Q N M → pM X N 374 9 [(0, .inr (.inl (some 190)))] [] M (Ri Q) := by
  intro N
  induction N with
  | zero => intros; exact pM_zero
  | succ N IH =>
    intro hN M h
    replace hN := Nat.le_of_succ_le hN
    replace h : B_m_readAllOf_374_9 Q N (W_m_readAllOf_374_9 Q N) M := h
    refine pM_s (pMs_aln rfl rfl rfl ?_)
    refine pM_lds rfl rfl ?_
    refine pM_qRi (as := [.inr (.inl (some 190)), .inr (.inr (.inr (.inr 2989961358)))]) (T := []) rfl rfl (fun C hC => cl_v hC rfl rfl rfl rfl) rfl (q_m_passes (by decide) h) (fun r4 M5 h => ?_)
    refine pM_zeq rfl rfl (fun h6 => ?_) (fun h6 => ?_)
    · replace h := h.1 h6
      refine pM_ic rfl ki_1 ?_
      exact pM_ri rfl (⟨_, rfl, h⟩)
    · replace h := h.2 h6
      refine pM_aln rfl rfl rfl ?_
      refine pM_qRi (as := [.inr (.inl (some 190))]) (T := []) rfl rfl (fun C hC => cl_v hC rfl rfl rfl rfl) rfl (q_m_readAtom_375  h) (fun r7 M8 h => ?_)
      refine pM_zne rfl rfl (fun h9 => ?_) (fun h9 => ?_)
      · replace h := h.2 h9
        refine pM_aln rfl rfl rfl ?_
        refine pM_bi rfl kb_10 ?_
        refine pM_ic rfl ki_0 ?_
        refine pM_qRu (as := [.inr (.inl (some 190)), .inl (.inl 10), .inl (.inl 0)]) (T := []) rfl rfl (fun C hC => cl_v hC rfl rfl rfl rfl) rfl (q_m_emits  h) (fun M11 h => ?_)
        refine pM_go rfl rfl ?_
        refine pM_w (F2 := [(0, .inr (.inl (some 190)))]) (fun L hL => lo_cons (lo_lk hL rfl) lo_nil) ?_
        exact IH hN M11 h
      · replace h := h.1 h9
        refine pM_ic rfl ki_0 ?_
        exact pM_ri rfl (⟨_, rfl, h⟩)
/-- 374: EarCodeModel.readAllOf()Z -/
def W_m_readAllOf_374  (N : Nat) (M : MM) (Q : Int32 → MM → Prop) : Prop :=
  W_m_readAtom_375  N M (fun r1 M2 =>
    ((r1 = 0 →
      Q 0 M2) ∧
     (¬ r1 = 0 →
      W_m_readAllOf_374_9 Q N M2)))
theorem q_m_readAllOf_374 {X : Option (List AI)} {N : Nat} {M : MM}  {Q : Int32 → MM → Prop}  (h : W_m_readAllOf_374  N M Q) : pM X N 374 0 (ea_ar 0 [.inr (.inl (some 190))]) [] M (Ri Q) := by
  refine pM_w (F2 := [(0, .inr (.inl (some 190)))]) (fun L hL => lo_cons (lo_lk hL rfl) lo_nil) ?_
  refine pM_aln rfl rfl rfl ?_
  refine pM_qRi (as := [.inr (.inl (some 190))]) (T := []) rfl rfl (fun C hC => cl_v hC rfl rfl rfl rfl) rfl (q_m_readAtom_375  h) (fun r1 M2 h => ?_)
  refine pM_zne rfl rfl (fun h3 => ?_) (fun h3 => ?_)
  · replace h := h.2 h3
    refine pM_w (F2 := [(0, .inr (.inl (some 190)))]) (fun L hL => lo_cons (lo_lk hL rfl) lo_nil) ?_
    refine q_m_readAllOf_374_9   N (Nat.le_refl N) M2 h
  · replace h := h.1 h3
    refine pM_ic rfl ki_0 ?_
    exact pM_ri rfl (⟨_, rfl, h⟩)
def B_m_readCond_373_9 (Q : Int32 → MM → Prop) (N : Nat) (ih : MM → Prop) (M : MM) : Prop :=
  W_m_passes 12138383 N M (fun r4 M5 =>
    ((r4 = 0 →
      Q 1 M5) ∧
     (¬ r4 = 0 →
      W_m_readAllOf_374  N M5 (fun r7 M8 =>
        ((r7 = 0 →
          Q 0 M8) ∧
         (¬ r7 = 0 →
          W_m_emits 11 0 N M8 (fun M11 =>
            ih M11)))))))
def W_m_readCond_373_9 (Q : Int32 → MM → Prop) : Nat → MM → Prop
  | 0, _ => True
  | N + 1, M => B_m_readCond_373_9 Q N (W_m_readCond_373_9 Q N) M
theorem I_m_readCond_373_9 (Q : Int32 → MM → Prop) (inv : MM → Prop) (hs : ∀ (N : Nat) (ih : MM → Prop) (M : MM), (∀ (M : MM), inv M → ih M) → inv M → B_m_readCond_373_9 Q N ih M) : ∀ (N : Nat) (M : MM), inv M → W_m_readCond_373_9 Q N M := by
  intro N
  induction N with
  | zero => intros; trivial
  | succ N IH =>
    intro M h
    exact hs N _ M IH h
theorem q_m_readCond_373_9 {X : Option (List AI)} {N0 : Nat} {Q : Int32 → MM → Prop}   : ∀ (N : Nat), N ≤ N0 → ∀ (M : MM), W_m_readCond_373_9 Q N M → pM X N 373 9 [(0, .inr (.inl (some 190)))] [] M (Ri Q) := by
  intro N
  induction N with
  | zero => intros; exact pM_zero
  | succ N IH =>
    intro hN M h
    replace hN := Nat.le_of_succ_le hN
    replace h : B_m_readCond_373_9 Q N (W_m_readCond_373_9 Q N) M := h
    refine pM_s (pMs_aln rfl rfl rfl ?_)
    refine pM_lds rfl rfl ?_
    refine pM_qRi (as := [.inr (.inl (some 190)), .inr (.inr (.inr (.inr 12138384)))]) (T := []) rfl rfl (fun C hC => cl_v hC rfl rfl rfl rfl) rfl (q_m_passes (by decide) h) (fun r4 M5 h => ?_)
    refine pM_zeq rfl rfl (fun h6 => ?_) (fun h6 => ?_)
    · replace h := h.1 h6
      refine pM_ic rfl ki_1 ?_
      exact pM_ri rfl (⟨_, rfl, h⟩)
    · replace h := h.2 h6
      refine pM_aln rfl rfl rfl ?_
      refine pM_qRi (as := [.inr (.inl (some 190))]) (T := []) rfl rfl (fun C hC => cl_v hC rfl rfl rfl rfl) rfl (q_m_readAllOf_374  h) (fun r7 M8 h => ?_)
      refine pM_zne rfl rfl (fun h9 => ?_) (fun h9 => ?_)
      · replace h := h.2 h9
        refine pM_aln rfl rfl rfl ?_
        refine pM_bi rfl kb_11 ?_
        refine pM_ic rfl ki_0 ?_
        refine pM_qRu (as := [.inr (.inl (some 190)), .inl (.inl 11), .inl (.inl 0)]) (T := []) rfl rfl (fun C hC => cl_v hC rfl rfl rfl rfl) rfl (q_m_emits  h) (fun M11 h => ?_)
        refine pM_go rfl rfl ?_
        refine pM_w (F2 := [(0, .inr (.inl (some 190)))]) (fun L hL => lo_cons (lo_lk hL rfl) lo_nil) ?_
        exact IH hN M11 h
      · replace h := h.1 h9
        refine pM_ic rfl ki_0 ?_
        exact pM_ri rfl (⟨_, rfl, h⟩)
/-- 373: EarCodeModel.readCond()Z -/
def W_m_readCond_373  (N : Nat) (M : MM) (Q : Int32 → MM → Prop) : Prop :=
  W_m_readAllOf_374  N M (fun r1 M2 =>
    ((r1 = 0 →
      Q 0 M2) ∧
     (¬ r1 = 0 →
      W_m_readCond_373_9 Q N M2)))
theorem q_m_readCond_373 {X : Option (List AI)} {N : Nat} {M : MM}  {Q : Int32 → MM → Prop}  (h : W_m_readCond_373  N M Q) : pM X N 373 0 (ea_ar 0 [.inr (.inl (some 190))]) [] M (Ri Q) := by
  refine pM_w (F2 := [(0, .inr (.inl (some 190)))]) (fun L hL => lo_cons (lo_lk hL rfl) lo_nil) ?_
  refine pM_aln rfl rfl rfl ?_
  refine pM_qRi (as := [.inr (.inl (some 190))]) (T := []) rfl rfl (fun C hC => cl_v hC rfl rfl rfl rfl) rfl (q_m_readAllOf_374  h) (fun r1 M2 h => ?_)
  refine pM_zne rfl rfl (fun h3 => ?_) (fun h3 => ?_)
  · replace h := h.2 h3
    refine pM_w (F2 := [(0, .inr (.inl (some 190)))]) (fun L hL => lo_cons (lo_lk hL rfl) lo_nil) ?_
    refine q_m_readCond_373_9   N (Nat.le_refl N) M2 h
  · replace h := h.1 h3
    refine pM_ic rfl ki_0 ?_
    exact pM_ri rfl (⟨_, rfl, h⟩)
/-- 372: EarCodeModel.readAtom()Z -/
def W_m_readAtom_372  (N : Nat) (M : MM) (Q : Int32 → MM → Prop) : Prop :=
  W_m_sign 40 N M (fun r1 M2 =>
    ((r1 = 0 →
      W_m_passes 3124213513 N M2 (fun r4 M5 =>
        ((r4 = 0 →
          W_m_passes 204756940403467 N M5 (fun r7 M8 =>
            ((r7 = 0 →
              W_m_readSum  N M8 (fun r10 M11 =>
                ((r10 = 0 →
                  Q 0 M11) ∧
                 (¬ r10 = 0 →
                  W_m_sign 60 N M11 (fun r13 M14 =>
                    ((r13 = 0 →
                      W_m_sign 62 N M14 (fun r16 M17 =>
                        ((r16 = 0 →
                          Q 0 M17) ∧
                         (¬ r16 = 0 →
                          W_m_readSum  N M17 (fun r19 M20 =>
                            ((r19 = 0 →
                              Q 0 M20) ∧
                             (¬ r19 = 0 →
                              ((r13 = 0 →
                                W_m_emits 8 0 N M20 (fun M24 =>
                                  Q 1 M24)) ∧
                               (¬ r13 = 0 →
                                W_m_emits 7 0 N M20 (fun M26 =>
                                  Q 1 M26)))))))))) ∧
                     (¬ r13 = 0 →
                      W_m_readSum  N M14 (fun r27 M28 =>
                        ((r27 = 0 →
                          Q 0 M28) ∧
                         (¬ r27 = 0 →
                          ((r13 = 0 →
                            W_m_emits 8 0 N M28 (fun M32 =>
                              Q 1 M32)) ∧
                           (¬ r13 = 0 →
                            W_m_emits 7 0 N M28 (fun M34 =>
                              Q 1 M34))))))))))))) ∧
             (¬ r7 = 0 →
              W_m_emits 4 0 N M8 (fun M36 =>
                Q 1 M36))))) ∧
         (¬ r4 = 0 →
          (((M5.1 190 22) = 6 →
            Q 0 M5) ∧
           (¬ (M5.1 190 22) = 6 →
            W_m_readAtom_375  N (wi M5 190 22 ((M5.1 190 22) + 1)) (fun r38 M39 =>
              ((r38 = 0 →
                Q 0 M39) ∧
               (¬ r38 = 0 →
                W_m_emits 9 0 N (wi M39 190 22 ((M39.1 190 22) - 1)) (fun M42 =>
                  Q 1 M42)))))))))) ∧
     (¬ r1 = 0 →
      (((M2.1 190 22) = 6 →
        Q 0 M2) ∧
       (¬ (M2.1 190 22) = 6 →
        W_m_readCond_373  N (wi M2 190 22 ((M2.1 190 22) + 1)) (fun r44 M45 =>
          ((r44 = 0 →
            Q 0 M45) ∧
           (¬ r44 = 0 →
            W_m_sign 41 N (wi M45 190 22 ((M45.1 190 22) - 1)) (fun r47 M48 =>
              Q r47 M48)))))))))
theorem q_m_readAtom_372 {X : Option (List AI)} {N : Nat} {M : MM}  {Q : Int32 → MM → Prop}  (h : W_m_readAtom_372  N M Q) : pM X N 372 0 (ea_ar 0 [.inr (.inl (some 190))]) [] M (Ri Q) := by
  refine pM_w (F2 := [(0, .inr (.inl (some 190)))]) (fun L hL => lo_cons (lo_lk hL rfl) lo_nil) ?_
  refine pM_aln rfl rfl rfl ?_
  refine pM_bi rfl kb_40 ?_
  refine pM_qRi (as := [.inr (.inl (some 190)), .inl (.inl 40)]) (T := []) rfl rfl (fun C hC => cl_v hC rfl rfl rfl rfl) rfl (q_m_sign  h) (fun r1 M2 h => ?_)
  refine pM_zeq rfl rfl (fun h3 => ?_) (fun h3 => ?_)
  · replace h := h.1 h3
    refine pM_aln rfl rfl rfl ?_
    refine pM_lds rfl rfl ?_
    refine pM_qRi (as := [.inr (.inl (some 190)), .inr (.inr (.inr (.inr 3124213514)))]) (T := []) rfl rfl (fun C hC => cl_v hC rfl rfl rfl rfl) rfl (q_m_passes (by decide) h) (fun r4 M5 h => ?_)
    refine pM_zeq rfl rfl (fun h6 => ?_) (fun h6 => ?_)
    · replace h := h.1 h6
      refine pM_aln rfl rfl rfl ?_
      refine pM_lds rfl rfl ?_
      refine pM_qRi (as := [.inr (.inl (some 190)), .inr (.inr (.inr (.inr 204756940403468)))]) (T := []) rfl rfl (fun C hC => cl_v hC rfl rfl rfl rfl) rfl (q_m_passes (by decide) h) (fun r7 M8 h => ?_)
      refine pM_zeq rfl rfl (fun h9 => ?_) (fun h9 => ?_)
      · replace h := h.1 h9
        refine pM_aln rfl rfl rfl ?_
        refine pM_qRi (as := [.inr (.inl (some 190))]) (T := []) rfl rfl (fun C hC => cl_v hC rfl rfl rfl rfl) rfl (q_m_readSum  h) (fun r10 M11 h => ?_)
        refine pM_zne rfl rfl (fun h12 => ?_) (fun h12 => ?_)
        · replace h := h.2 h12
          refine pM_aln rfl rfl rfl ?_
          refine pM_bi rfl kb_60 ?_
          refine pM_qRi (as := [.inr (.inl (some 190)), .inl (.inl 60)]) (T := []) rfl rfl (fun C hC => cl_v hC rfl rfl rfl rfl) rfl (q_m_sign  h) (fun r13 M14 h => ?_)
          refine pM_isn rfl rfl ?_
          refine pM_iln rfl rfl ?_
          refine pM_zne rfl rfl (fun h15 => ?_) (fun h15 => ?_)
          · replace h := h.2 h15
            refine pM_aln rfl rfl rfl ?_
            refine pM_qRi (as := [.inr (.inl (some 190))]) (T := []) rfl rfl (fun C hC => cl_v hC rfl rfl rfl rfl) rfl (q_m_readSum  h) (fun r27 M28 h => ?_)
            refine pM_zne rfl rfl (fun h29 => ?_) (fun h29 => ?_)
            · replace h := h.2 h29
              refine pM_aln rfl rfl rfl ?_
              refine pM_iln rfl rfl ?_
              refine pM_zeq rfl rfl (fun h30 => ?_) (fun h30 => ?_)
              · replace h := h.1 h30
                refine pM_bi rfl kb_8 ?_
                refine pM_ic rfl ki_0 ?_
                refine pM_qRu (as := [.inr (.inl (some 190)), .inl (.inl 8), .inl (.inl 0)]) (T := []) rfl rfl (fun C hC => cl_v hC rfl rfl rfl rfl) rfl (q_m_emits  h) (fun M32 h => ?_)
                refine pM_ic rfl ki_1 ?_
                exact pM_ri rfl (⟨_, rfl, h⟩)
              · replace h := h.2 h30
                refine pM_bi rfl kb_7 ?_
                refine pM_go rfl rfl ?_
                refine pM_ic rfl ki_0 ?_
                refine pM_qRu (as := [.inr (.inl (some 190)), .inl (.inl 7), .inl (.inl 0)]) (T := []) rfl rfl (fun C hC => cl_v hC rfl rfl rfl rfl) rfl (q_m_emits  h) (fun M34 h => ?_)
                refine pM_ic rfl ki_1 ?_
                exact pM_ri rfl (⟨_, rfl, h⟩)
            · replace h := h.1 h29
              refine pM_ic rfl ki_0 ?_
              exact pM_ri rfl (⟨_, rfl, h⟩)
          · replace h := h.1 h15
            refine pM_aln rfl rfl rfl ?_
            refine pM_bi rfl kb_62 ?_
            refine pM_qRi (as := [.inr (.inl (some 190)), .inl (.inl 62)]) (T := []) rfl rfl (fun C hC => cl_v hC rfl rfl rfl rfl) rfl (q_m_sign  h) (fun r16 M17 h => ?_)
            refine pM_zeq rfl rfl (fun h18 => ?_) (fun h18 => ?_)
            · replace h := h.1 h18
              refine pM_ic rfl ki_0 ?_
              exact pM_ri rfl (⟨_, rfl, h⟩)
            · replace h := h.2 h18
              refine pM_aln rfl rfl rfl ?_
              refine pM_qRi (as := [.inr (.inl (some 190))]) (T := []) rfl rfl (fun C hC => cl_v hC rfl rfl rfl rfl) rfl (q_m_readSum  h) (fun r19 M20 h => ?_)
              refine pM_zne rfl rfl (fun h21 => ?_) (fun h21 => ?_)
              · replace h := h.2 h21
                refine pM_aln rfl rfl rfl ?_
                refine pM_iln rfl rfl ?_
                refine pM_zeq rfl rfl (fun h22 => ?_) (fun h22 => ?_)
                · replace h := h.1 h22
                  refine pM_bi rfl kb_8 ?_
                  refine pM_ic rfl ki_0 ?_
                  refine pM_qRu (as := [.inr (.inl (some 190)), .inl (.inl 8), .inl (.inl 0)]) (T := []) rfl rfl (fun C hC => cl_v hC rfl rfl rfl rfl) rfl (q_m_emits  h) (fun M24 h => ?_)
                  refine pM_ic rfl ki_1 ?_
                  exact pM_ri rfl (⟨_, rfl, h⟩)
                · replace h := h.2 h22
                  refine pM_bi rfl kb_7 ?_
                  refine pM_go rfl rfl ?_
                  refine pM_ic rfl ki_0 ?_
                  refine pM_qRu (as := [.inr (.inl (some 190)), .inl (.inl 7), .inl (.inl 0)]) (T := []) rfl rfl (fun C hC => cl_v hC rfl rfl rfl rfl) rfl (q_m_emits  h) (fun M26 h => ?_)
                  refine pM_ic rfl ki_1 ?_
                  exact pM_ri rfl (⟨_, rfl, h⟩)
              · replace h := h.1 h21
                refine pM_ic rfl ki_0 ?_
                exact pM_ri rfl (⟨_, rfl, h⟩)
        · replace h := h.1 h12
          refine pM_ic rfl ki_0 ?_
          exact pM_ri rfl (⟨_, rfl, h⟩)
      · replace h := h.2 h9
        refine pM_aln rfl rfl rfl ?_
        refine pM_ic rfl ki_4 ?_
        refine pM_ic rfl ki_0 ?_
        refine pM_qRu (as := [.inr (.inl (some 190)), .inl (.inl 4), .inl (.inl 0)]) (T := []) rfl rfl (fun C hC => cl_v hC rfl rfl rfl rfl) rfl (q_m_emits  h) (fun M36 h => ?_)
        refine pM_ic rfl ki_1 ?_
        exact pM_ri rfl (⟨_, rfl, h⟩)
    · replace h := h.2 h6
      refine pM_aln rfl rfl rfl ?_
      refine pM_gi rfl rfl rfl rfl ?_
      refine pM_bi rfl kb_6 ?_
      refine pM_cne rfl rfl (fun h37 => ?_) (fun h37 => ?_)
      · replace h := h.2 h37
        refine pM_aln rfl rfl rfl ?_
        refine pM_p (pc' := 78) (S' := [.inr (.inl (some 190)), .inr (.inl (some 190))]) rfl rfl (fun _ => rfl) ?_
        refine pM_gi rfl rfl rfl rfl ?_
        refine pM_ic rfl ki_1 ?_
        refine pM_add rfl ?_
        refine pM_pi rfl rfl rfl rfl ?_
        refine pM_aln rfl rfl rfl ?_
        refine pM_qRi (as := [.inr (.inl (some 190))]) (T := []) rfl rfl (fun C hC => cl_v hC rfl rfl rfl rfl) rfl (q_m_readAtom_375  h) (fun r38 M39 h => ?_)
        refine pM_zne rfl rfl (fun h40 => ?_) (fun h40 => ?_)
        · replace h := h.2 h40
          refine pM_aln rfl rfl rfl ?_
          refine pM_p (pc' := 97) (S' := [.inr (.inl (some 190)), .inr (.inl (some 190))]) rfl rfl (fun _ => rfl) ?_
          refine pM_gi rfl rfl rfl rfl ?_
          refine pM_ic rfl ki_1 ?_
          refine pM_sub rfl ?_
          refine pM_pi rfl rfl rfl rfl ?_
          refine pM_aln rfl rfl rfl ?_
          refine pM_bi rfl kb_9 ?_
          refine pM_ic rfl ki_0 ?_
          refine pM_qRu (as := [.inr (.inl (some 190)), .inl (.inl 9), .inl (.inl 0)]) (T := []) rfl rfl (fun C hC => cl_v hC rfl rfl rfl rfl) rfl (q_m_emits  h) (fun M42 h => ?_)
          refine pM_ic rfl ki_1 ?_
          exact pM_ri rfl (⟨_, rfl, h⟩)
        · replace h := h.1 h40
          refine pM_ic rfl ki_0 ?_
          exact pM_ri rfl (⟨_, rfl, h⟩)
      · replace h := h.1 h37
        refine pM_ic rfl ki_0 ?_
        exact pM_ri rfl (⟨_, rfl, h⟩)
  · replace h := h.2 h3
    refine pM_aln rfl rfl rfl ?_
    refine pM_gi rfl rfl rfl rfl ?_
    refine pM_bi rfl kb_6 ?_
    refine pM_cne rfl rfl (fun h43 => ?_) (fun h43 => ?_)
    · replace h := h.2 h43
      refine pM_aln rfl rfl rfl ?_
      refine pM_p (pc' := 22) (S' := [.inr (.inl (some 190)), .inr (.inl (some 190))]) rfl rfl (fun _ => rfl) ?_
      refine pM_gi rfl rfl rfl rfl ?_
      refine pM_ic rfl ki_1 ?_
      refine pM_add rfl ?_
      refine pM_pi rfl rfl rfl rfl ?_
      refine pM_aln rfl rfl rfl ?_
      refine pM_qRi (as := [.inr (.inl (some 190))]) (T := []) rfl rfl (fun C hC => cl_v hC rfl rfl rfl rfl) rfl (q_m_readCond_373  h) (fun r44 M45 h => ?_)
      refine pM_zne rfl rfl (fun h46 => ?_) (fun h46 => ?_)
      · replace h := h.2 h46
        refine pM_aln rfl rfl rfl ?_
        refine pM_p (pc' := 41) (S' := [.inr (.inl (some 190)), .inr (.inl (some 190))]) rfl rfl (fun _ => rfl) ?_
        refine pM_gi rfl rfl rfl rfl ?_
        refine pM_ic rfl ki_1 ?_
        refine pM_sub rfl ?_
        refine pM_pi rfl rfl rfl rfl ?_
        refine pM_aln rfl rfl rfl ?_
        refine pM_bi rfl kb_41 ?_
        refine pM_qRi (as := [.inr (.inl (some 190)), .inl (.inl 41)]) (T := []) rfl rfl (fun C hC => cl_v hC rfl rfl rfl rfl) rfl (q_m_sign  h) (fun r47 M48 h => ?_)
        exact pM_ri rfl (⟨_, rfl, h⟩)
      · replace h := h.1 h46
        refine pM_ic rfl ki_0 ?_
        exact pM_ri rfl (⟨_, rfl, h⟩)
    · replace h := h.1 h43
      refine pM_ic rfl ki_0 ?_
      exact pM_ri rfl (⟨_, rfl, h⟩)
