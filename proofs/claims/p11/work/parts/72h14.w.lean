/-! WHAT EACH METHOD COMES TO (gw.py) -/
def B_m_readAllOf_371_9 (Q : Int32 → MM → Prop) (N : Nat) (ih : MM → Prop) (M : MM) : Prop :=
  W_m_passes 2989961357 N M (fun r4 M5 =>
    ((r4 = 0 →
      Q 1 M5) ∧
     (¬ r4 = 0 →
      W_m_readAtom_372  N M5 (fun r7 M8 =>
        ((r7 = 0 →
          Q 0 M8) ∧
         (¬ r7 = 0 →
          W_m_emits 10 0 N M8 (fun M11 =>
            ih M11)))))))
def W_m_readAllOf_371_9 (Q : Int32 → MM → Prop) : Nat → MM → Prop
  | 0, _ => True
  | N + 1, M => B_m_readAllOf_371_9 Q N (W_m_readAllOf_371_9 Q N) M
theorem I_m_readAllOf_371_9 (Q : Int32 → MM → Prop) (inv : MM → Prop) (hs : ∀ (N : Nat) (ih : MM → Prop) (M : MM), (∀ (M : MM), inv M → ih M) → inv M → B_m_readAllOf_371_9 Q N ih M) : ∀ (N : Nat) (M : MM), inv M → W_m_readAllOf_371_9 Q N M := by
  intro N
  induction N with
  | zero => intros; trivial
  | succ N IH =>
    intro M h
    exact hs N _ M IH h
theorem q_m_readAllOf_371_9 {X : Option (List AI)} {N0 : Nat} {Q : Int32 → MM → Prop}   : ∀ (N : Nat), N ≤ N0 → ∀ (M : MM), W_m_readAllOf_371_9 Q N M → pM X N 371 9 [(0, .inr (.inl (some 190)))] [] M (Ri Q) := by
  intro N
  induction N with
  | zero => intros; exact pM_zero
  | succ N IH =>
    intro hN M h
    replace hN := Nat.le_of_succ_le hN
    replace h : B_m_readAllOf_371_9 Q N (W_m_readAllOf_371_9 Q N) M := h
    refine pM_s (pMs_aln rfl rfl rfl ?_)
    refine pM_lds rfl rfl ?_
    refine pM_qRi (as := [.inr (.inl (some 190)), .inr (.inr (.inr (.inr 2989961358)))]) (T := []) rfl rfl (fun C hC => cl_v hC rfl rfl rfl rfl) rfl (q_m_passes (by decide) h) (fun r4 M5 h => ?_)
    refine pM_zeq rfl rfl (fun h6 => ?_) (fun h6 => ?_)
    · replace h := h.1 h6
      refine pM_ic rfl ki_1 ?_
      exact pM_ri rfl (⟨_, rfl, h⟩)
    · replace h := h.2 h6
      refine pM_aln rfl rfl rfl ?_
      refine pM_qRi (as := [.inr (.inl (some 190))]) (T := []) rfl rfl (fun C hC => cl_v hC rfl rfl rfl rfl) rfl (q_m_readAtom_372  h) (fun r7 M8 h => ?_)
      refine pM_zne rfl rfl (fun h9 => ?_) (fun h9 => ?_)
      · replace h := h.2 h9
        refine pM_aln rfl rfl rfl ?_
        refine pM_bi rfl kb_10 ?_
        refine pM_ic rfl ki_0 ?_
        refine pM_qRu (as := [.inr (.inl (some 190)), .inl (.inl 10), .inl (.inl 0)]) (T := []) rfl rfl (fun C hC => cl_v hC rfl rfl rfl rfl) rfl (q_m_emits  h) (fun M11 h => ?_)
        refine pM_go rfl rfl ?_
        refine pM_w (F2 := [(0, .inr (.inl (some 190)))]) (fun L hL => lo_cons (lo_lk hL rfl) lo_nil) ?_
        exact IH hN M11 h
      · replace h := h.1 h9
        refine pM_ic rfl ki_0 ?_
        exact pM_ri rfl (⟨_, rfl, h⟩)
/-- 371: EarCodeModel.readAllOf()Z -/
def W_m_readAllOf_371  (N : Nat) (M : MM) (Q : Int32 → MM → Prop) : Prop :=
  W_m_readAtom_372  N M (fun r1 M2 =>
    ((r1 = 0 →
      Q 0 M2) ∧
     (¬ r1 = 0 →
      W_m_readAllOf_371_9 Q N M2)))
theorem q_m_readAllOf_371 {X : Option (List AI)} {N : Nat} {M : MM}  {Q : Int32 → MM → Prop}  (h : W_m_readAllOf_371  N M Q) : pM X N 371 0 (ea_ar 0 [.inr (.inl (some 190))]) [] M (Ri Q) := by
  refine pM_w (F2 := [(0, .inr (.inl (some 190)))]) (fun L hL => lo_cons (lo_lk hL rfl) lo_nil) ?_
  refine pM_aln rfl rfl rfl ?_
  refine pM_qRi (as := [.inr (.inl (some 190))]) (T := []) rfl rfl (fun C hC => cl_v hC rfl rfl rfl rfl) rfl (q_m_readAtom_372  h) (fun r1 M2 h => ?_)
  refine pM_zne rfl rfl (fun h3 => ?_) (fun h3 => ?_)
  · replace h := h.2 h3
    refine pM_w (F2 := [(0, .inr (.inl (some 190)))]) (fun L hL => lo_cons (lo_lk hL rfl) lo_nil) ?_
    refine q_m_readAllOf_371_9   N (Nat.le_refl N) M2 h
  · replace h := h.1 h3
    refine pM_ic rfl ki_0 ?_
    exact pM_ri rfl (⟨_, rfl, h⟩)
def B_m_readCond_370_9 (Q : Int32 → MM → Prop) (N : Nat) (ih : MM → Prop) (M : MM) : Prop :=
  W_m_passes 12138383 N M (fun r4 M5 =>
    ((r4 = 0 →
      Q 1 M5) ∧
     (¬ r4 = 0 →
      W_m_readAllOf_371  N M5 (fun r7 M8 =>
        ((r7 = 0 →
          Q 0 M8) ∧
         (¬ r7 = 0 →
          W_m_emits 11 0 N M8 (fun M11 =>
            ih M11)))))))
def W_m_readCond_370_9 (Q : Int32 → MM → Prop) : Nat → MM → Prop
  | 0, _ => True
  | N + 1, M => B_m_readCond_370_9 Q N (W_m_readCond_370_9 Q N) M
theorem I_m_readCond_370_9 (Q : Int32 → MM → Prop) (inv : MM → Prop) (hs : ∀ (N : Nat) (ih : MM → Prop) (M : MM), (∀ (M : MM), inv M → ih M) → inv M → B_m_readCond_370_9 Q N ih M) : ∀ (N : Nat) (M : MM), inv M → W_m_readCond_370_9 Q N M := by
  intro N
  induction N with
  | zero => intros; trivial
  | succ N IH =>
    intro M h
    exact hs N _ M IH h
theorem q_m_readCond_370_9 {X : Option (List AI)} {N0 : Nat} {Q : Int32 → MM → Prop}   : ∀ (N : Nat), N ≤ N0 → ∀ (M : MM), W_m_readCond_370_9 Q N M → pM X N 370 9 [(0, .inr (.inl (some 190)))] [] M (Ri Q) := by
  intro N
  induction N with
  | zero => intros; exact pM_zero
  | succ N IH =>
    intro hN M h
    replace hN := Nat.le_of_succ_le hN
    replace h : B_m_readCond_370_9 Q N (W_m_readCond_370_9 Q N) M := h
    refine pM_s (pMs_aln rfl rfl rfl ?_)
    refine pM_lds rfl rfl ?_
    refine pM_qRi (as := [.inr (.inl (some 190)), .inr (.inr (.inr (.inr 12138384)))]) (T := []) rfl rfl (fun C hC => cl_v hC rfl rfl rfl rfl) rfl (q_m_passes (by decide) h) (fun r4 M5 h => ?_)
    refine pM_zeq rfl rfl (fun h6 => ?_) (fun h6 => ?_)
    · replace h := h.1 h6
      refine pM_ic rfl ki_1 ?_
      exact pM_ri rfl (⟨_, rfl, h⟩)
    · replace h := h.2 h6
      refine pM_aln rfl rfl rfl ?_
      refine pM_qRi (as := [.inr (.inl (some 190))]) (T := []) rfl rfl (fun C hC => cl_v hC rfl rfl rfl rfl) rfl (q_m_readAllOf_371  h) (fun r7 M8 h => ?_)
      refine pM_zne rfl rfl (fun h9 => ?_) (fun h9 => ?_)
      · replace h := h.2 h9
        refine pM_aln rfl rfl rfl ?_
        refine pM_bi rfl kb_11 ?_
        refine pM_ic rfl ki_0 ?_
        refine pM_qRu (as := [.inr (.inl (some 190)), .inl (.inl 11), .inl (.inl 0)]) (T := []) rfl rfl (fun C hC => cl_v hC rfl rfl rfl rfl) rfl (q_m_emits  h) (fun M11 h => ?_)
        refine pM_go rfl rfl ?_
        refine pM_w (F2 := [(0, .inr (.inl (some 190)))]) (fun L hL => lo_cons (lo_lk hL rfl) lo_nil) ?_
        exact IH hN M11 h
      · replace h := h.1 h9
        refine pM_ic rfl ki_0 ?_
        exact pM_ri rfl (⟨_, rfl, h⟩)
/-- 370: EarCodeModel.readCond()Z -/
def W_m_readCond_370  (N : Nat) (M : MM) (Q : Int32 → MM → Prop) : Prop :=
  W_m_readAllOf_371  N M (fun r1 M2 =>
    ((r1 = 0 →
      Q 0 M2) ∧
     (¬ r1 = 0 →
      W_m_readCond_370_9 Q N M2)))
theorem q_m_readCond_370 {X : Option (List AI)} {N : Nat} {M : MM}  {Q : Int32 → MM → Prop}  (h : W_m_readCond_370  N M Q) : pM X N 370 0 (ea_ar 0 [.inr (.inl (some 190))]) [] M (Ri Q) := by
  refine pM_w (F2 := [(0, .inr (.inl (some 190)))]) (fun L hL => lo_cons (lo_lk hL rfl) lo_nil) ?_
  refine pM_aln rfl rfl rfl ?_
  refine pM_qRi (as := [.inr (.inl (some 190))]) (T := []) rfl rfl (fun C hC => cl_v hC rfl rfl rfl rfl) rfl (q_m_readAllOf_371  h) (fun r1 M2 h => ?_)
  refine pM_zne rfl rfl (fun h3 => ?_) (fun h3 => ?_)
  · replace h := h.2 h3
    refine pM_w (F2 := [(0, .inr (.inl (some 190)))]) (fun L hL => lo_cons (lo_lk hL rfl) lo_nil) ?_
    refine q_m_readCond_370_9   N (Nat.le_refl N) M2 h
  · replace h := h.1 h3
    refine pM_ic rfl ki_0 ?_
    exact pM_ri rfl (⟨_, rfl, h⟩)
/-- 227: EarCodeModel.readAtom()Z -/
def W_m_readAtom  (N : Nat) (M : MM) (Q : Int32 → MM → Prop) : Prop :=
  W_m_sign 40 N M (fun r1 M2 =>
    ((r1 = 0 →
      W_m_passes 3124213513 N M2 (fun r4 M5 =>
        ((r4 = 0 →
          W_m_passes 204756940403467 N M5 (fun r7 M8 =>
            ((r7 = 0 →
              W_m_readSum  N M8 (fun r10 M11 =>
                ((r10 = 0 →
                  Q 0 M11) ∧
                 (¬ r10 = 0 →
                  W_m_sign 60 N M11 (fun r13 M14 =>
                    ((r13 = 0 →
                      W_m_sign 62 N M14 (fun r16 M17 =>
                        ((r16 = 0 →
                          Q 0 M17) ∧
                         (¬ r16 = 0 →
                          W_m_readSum  N M17 (fun r19 M20 =>
                            ((r19 = 0 →
                              Q 0 M20) ∧
                             (¬ r19 = 0 →
                              ((r13 = 0 →
                                W_m_emits 8 0 N M20 (fun M24 =>
                                  Q 1 M24)) ∧
                               (¬ r13 = 0 →
                                W_m_emits 7 0 N M20 (fun M26 =>
                                  Q 1 M26)))))))))) ∧
                     (¬ r13 = 0 →
                      W_m_readSum  N M14 (fun r27 M28 =>
                        ((r27 = 0 →
                          Q 0 M28) ∧
                         (¬ r27 = 0 →
                          ((r13 = 0 →
                            W_m_emits 8 0 N M28 (fun M32 =>
                              Q 1 M32)) ∧
                           (¬ r13 = 0 →
                            W_m_emits 7 0 N M28 (fun M34 =>
                              Q 1 M34))))))))))))) ∧
             (¬ r7 = 0 →
              W_m_emits 4 0 N M8 (fun M36 =>
                Q 1 M36))))) ∧
         (¬ r4 = 0 →
          (((M5.1 190 22) = 6 →
            Q 0 M5) ∧
           (¬ (M5.1 190 22) = 6 →
            W_m_readAtom_372  N (wi M5 190 22 ((M5.1 190 22) + 1)) (fun r38 M39 =>
              ((r38 = 0 →
                Q 0 M39) ∧
               (¬ r38 = 0 →
                W_m_emits 9 0 N (wi M39 190 22 ((M39.1 190 22) - 1)) (fun M42 =>
                  Q 1 M42)))))))))) ∧
     (¬ r1 = 0 →
      (((M2.1 190 22) = 6 →
        Q 0 M2) ∧
       (¬ (M2.1 190 22) = 6 →
        W_m_readCond_370  N (wi M2 190 22 ((M2.1 190 22) + 1)) (fun r44 M45 =>
          ((r44 = 0 →
            Q 0 M45) ∧
           (¬ r44 = 0 →
            W_m_sign 41 N (wi M45 190 22 ((M45.1 190 22) - 1)) (fun r47 M48 =>
              Q r47 M48)))))))))
theorem q_m_readAtom {X : Option (List AI)} {N : Nat} {M : MM}  {Q : Int32 → MM → Prop}  (h : W_m_readAtom  N M Q) : pM X N 227 0 (ea_ar 0 [.inr (.inl (some 190))]) [] M (Ri Q) := by
  refine pM_w (F2 := [(0, .inr (.inl (some 190)))]) (fun L hL => lo_cons (lo_lk hL rfl) lo_nil) ?_
  refine pM_aln rfl rfl rfl ?_
  refine pM_bi rfl kb_40 ?_
  refine pM_qRi (as := [.inr (.inl (some 190)), .inl (.inl 40)]) (T := []) rfl rfl (fun C hC => cl_v hC rfl rfl rfl rfl) rfl (q_m_sign  h) (fun r1 M2 h => ?_)
  refine pM_zeq rfl rfl (fun h3 => ?_) (fun h3 => ?_)
  · replace h := h.1 h3
    refine pM_aln rfl rfl rfl ?_
    refine pM_lds rfl rfl ?_
    refine pM_qRi (as := [.inr (.inl (some 190)), .inr (.inr (.inr (.inr 3124213514)))]) (T := []) rfl rfl (fun C hC => cl_v hC rfl rfl rfl rfl) rfl (q_m_passes (by decide) h) (fun r4 M5 h => ?_)
    refine pM_zeq rfl rfl (fun h6 => ?_) (fun h6 => ?_)
    · replace h := h.1 h6
      refine pM_aln rfl rfl rfl ?_
      refine pM_lds rfl rfl ?_
      refine pM_qRi (as := [.inr (.inl (some 190)), .inr (.inr (.inr (.inr 204756940403468)))]) (T := []) rfl rfl (fun C hC => cl_v hC rfl rfl rfl rfl) rfl (q_m_passes (by decide) h) (fun r7 M8 h => ?_)
      refine pM_zeq rfl rfl (fun h9 => ?_) (fun h9 => ?_)
      · replace h := h.1 h9
        refine pM_aln rfl rfl rfl ?_
        refine pM_qRi (as := [.inr (.inl (some 190))]) (T := []) rfl rfl (fun C hC => cl_v hC rfl rfl rfl rfl) rfl (q_m_readSum  h) (fun r10 M11 h => ?_)
        refine pM_zne rfl rfl (fun h12 => ?_) (fun h12 => ?_)
        · replace h := h.2 h12
          refine pM_aln rfl rfl rfl ?_
          refine pM_bi rfl kb_60 ?_
          refine pM_qRi (as := [.inr (.inl (some 190)), .inl (.inl 60)]) (T := []) rfl rfl (fun C hC => cl_v hC rfl rfl rfl rfl) rfl (q_m_sign  h) (fun r13 M14 h => ?_)
          refine pM_isn rfl rfl ?_
          refine pM_iln rfl rfl ?_
          refine pM_zne rfl rfl (fun h15 => ?_) (fun h15 => ?_)
          · replace h := h.2 h15
            refine pM_aln rfl rfl rfl ?_
            refine pM_qRi (as := [.inr (.inl (some 190))]) (T := []) rfl rfl (fun C hC => cl_v hC rfl rfl rfl rfl) rfl (q_m_readSum  h) (fun r27 M28 h => ?_)
            refine pM_zne rfl rfl (fun h29 => ?_) (fun h29 => ?_)
            · replace h := h.2 h29
              refine pM_aln rfl rfl rfl ?_
              refine pM_iln rfl rfl ?_
              refine pM_zeq rfl rfl (fun h30 => ?_) (fun h30 => ?_)
              · replace h := h.1 h30
                refine pM_bi rfl kb_8 ?_
                refine pM_ic rfl ki_0 ?_
                refine pM_qRu (as := [.inr (.inl (some 190)), .inl (.inl 8), .inl (.inl 0)]) (T := []) rfl rfl (fun C hC => cl_v hC rfl rfl rfl rfl) rfl (q_m_emits  h) (fun M32 h => ?_)
                refine pM_ic rfl ki_1 ?_
                exact pM_ri rfl (⟨_, rfl, h⟩)
              · replace h := h.2 h30
                refine pM_bi rfl kb_7 ?_
                refine pM_go rfl rfl ?_
                refine pM_ic rfl ki_0 ?_
                refine pM_qRu (as := [.inr (.inl (some 190)), .inl (.inl 7), .inl (.inl 0)]) (T := []) rfl rfl (fun C hC => cl_v hC rfl rfl rfl rfl) rfl (q_m_emits  h) (fun M34 h => ?_)
                refine pM_ic rfl ki_1 ?_
                exact pM_ri rfl (⟨_, rfl, h⟩)
            · replace h := h.1 h29
              refine pM_ic rfl ki_0 ?_
              exact pM_ri rfl (⟨_, rfl, h⟩)
          · replace h := h.1 h15
            refine pM_aln rfl rfl rfl ?_
            refine pM_bi rfl kb_62 ?_
            refine pM_qRi (as := [.inr (.inl (some 190)), .inl (.inl 62)]) (T := []) rfl rfl (fun C hC => cl_v hC rfl rfl rfl rfl) rfl (q_m_sign  h) (fun r16 M17 h => ?_)
            refine pM_zeq rfl rfl (fun h18 => ?_) (fun h18 => ?_)
            · replace h := h.1 h18
              refine pM_ic rfl ki_0 ?_
              exact pM_ri rfl (⟨_, rfl, h⟩)
            · replace h := h.2 h18
              refine pM_aln rfl rfl rfl ?_
              refine pM_qRi (as := [.inr (.inl (some 190))]) (T := []) rfl rfl (fun C hC => cl_v hC rfl rfl rfl rfl) rfl (q_m_readSum  h) (fun r19 M20 h => ?_)
              refine pM_zne rfl rfl (fun h21 => ?_) (fun h21 => ?_)
              · replace h := h.2 h21
                refine pM_aln rfl rfl rfl ?_
                refine pM_iln rfl rfl ?_
                refine pM_zeq rfl rfl (fun h22 => ?_) (fun h22 => ?_)
                · replace h := h.1 h22
                  refine pM_bi rfl kb_8 ?_
                  refine pM_ic rfl ki_0 ?_
                  refine pM_qRu (as := [.inr (.inl (some 190)), .inl (.inl 8), .inl (.inl 0)]) (T := []) rfl rfl (fun C hC => cl_v hC rfl rfl rfl rfl) rfl (q_m_emits  h) (fun M24 h => ?_)
                  refine pM_ic rfl ki_1 ?_
                  exact pM_ri rfl (⟨_, rfl, h⟩)
                · replace h := h.2 h22
                  refine pM_bi rfl kb_7 ?_
                  refine pM_go rfl rfl ?_
                  refine pM_ic rfl ki_0 ?_
                  refine pM_qRu (as := [.inr (.inl (some 190)), .inl (.inl 7), .inl (.inl 0)]) (T := []) rfl rfl (fun C hC => cl_v hC rfl rfl rfl rfl) rfl (q_m_emits  h) (fun M26 h => ?_)
                  refine pM_ic rfl ki_1 ?_
                  exact pM_ri rfl (⟨_, rfl, h⟩)
              · replace h := h.1 h21
                refine pM_ic rfl ki_0 ?_
                exact pM_ri rfl (⟨_, rfl, h⟩)
        · replace h := h.1 h12
          refine pM_ic rfl ki_0 ?_
          exact pM_ri rfl (⟨_, rfl, h⟩)
      · replace h := h.2 h9
        refine pM_aln rfl rfl rfl ?_
        refine pM_ic rfl ki_4 ?_
        refine pM_ic rfl ki_0 ?_
        refine pM_qRu (as := [.inr (.inl (some 190)), .inl (.inl 4), .inl (.inl 0)]) (T := []) rfl rfl (fun C hC => cl_v hC rfl rfl rfl rfl) rfl (q_m_emits  h) (fun M36 h => ?_)
        refine pM_ic rfl ki_1 ?_
        exact pM_ri rfl (⟨_, rfl, h⟩)
    · replace h := h.2 h6
      refine pM_aln rfl rfl rfl ?_
      refine pM_gi rfl rfl rfl rfl ?_
      refine pM_bi rfl kb_6 ?_
      refine pM_cne rfl rfl (fun h37 => ?_) (fun h37 => ?_)
      · replace h := h.2 h37
        refine pM_aln rfl rfl rfl ?_
        refine pM_p (pc' := 78) (S' := [.inr (.inl (some 190)), .inr (.inl (some 190))]) rfl rfl (fun _ => rfl) ?_
        refine pM_gi rfl rfl rfl rfl ?_
        refine pM_ic rfl ki_1 ?_
        refine pM_add rfl ?_
        refine pM_pi rfl rfl rfl rfl ?_
        refine pM_aln rfl rfl rfl ?_
        refine pM_qRi (as := [.inr (.inl (some 190))]) (T := []) rfl rfl (fun C hC => cl_v hC rfl rfl rfl rfl) rfl (q_m_readAtom_372  h) (fun r38 M39 h => ?_)
        refine pM_zne rfl rfl (fun h40 => ?_) (fun h40 => ?_)
        · replace h := h.2 h40
          refine pM_aln rfl rfl rfl ?_
          refine pM_p (pc' := 97) (S' := [.inr (.inl (some 190)), .inr (.inl (some 190))]) rfl rfl (fun _ => rfl) ?_
          refine pM_gi rfl rfl rfl rfl ?_
          refine pM_ic rfl ki_1 ?_
          refine pM_sub rfl ?_
          refine pM_pi rfl rfl rfl rfl ?_
          refine pM_aln rfl rfl rfl ?_
          refine pM_bi rfl kb_9 ?_
          refine pM_ic rfl ki_0 ?_
          refine pM_qRu (as := [.inr (.inl (some 190)), .inl (.inl 9), .inl (.inl 0)]) (T := []) rfl rfl (fun C hC => cl_v hC rfl rfl rfl rfl) rfl (q_m_emits  h) (fun M42 h => ?_)
          refine pM_ic rfl ki_1 ?_
          exact pM_ri rfl (⟨_, rfl, h⟩)
        · replace h := h.1 h40
          refine pM_ic rfl ki_0 ?_
          exact pM_ri rfl (⟨_, rfl, h⟩)
      · replace h := h.1 h37
        refine pM_ic rfl ki_0 ?_
        exact pM_ri rfl (⟨_, rfl, h⟩)
  · replace h := h.2 h3
    refine pM_aln rfl rfl rfl ?_
    refine pM_gi rfl rfl rfl rfl ?_
    refine pM_bi rfl kb_6 ?_
    refine pM_cne rfl rfl (fun h43 => ?_) (fun h43 => ?_)
    · replace h := h.2 h43
      refine pM_aln rfl rfl rfl ?_
      refine pM_p (pc' := 22) (S' := [.inr (.inl (some 190)), .inr (.inl (some 190))]) rfl rfl (fun _ => rfl) ?_
      refine pM_gi rfl rfl rfl rfl ?_
      refine pM_ic rfl ki_1 ?_
      refine pM_add rfl ?_
      refine pM_pi rfl rfl rfl rfl ?_
      refine pM_aln rfl rfl rfl ?_
      refine pM_qRi (as := [.inr (.inl (some 190))]) (T := []) rfl rfl (fun C hC => cl_v hC rfl rfl rfl rfl) rfl (q_m_readCond_370  h) (fun r44 M45 h => ?_)
      refine pM_zne rfl rfl (fun h46 => ?_) (fun h46 => ?_)
      · replace h := h.2 h46
        refine pM_aln rfl rfl rfl ?_
        refine pM_p (pc' := 41) (S' := [.inr (.inl (some 190)), .inr (.inl (some 190))]) rfl rfl (fun _ => rfl) ?_
        refine pM_gi rfl rfl rfl rfl ?_
        refine pM_ic rfl ki_1 ?_
        refine pM_sub rfl ?_
        refine pM_pi rfl rfl rfl rfl ?_
        refine pM_aln rfl rfl rfl ?_
        refine pM_bi rfl kb_41 ?_
        refine pM_qRi (as := [.inr (.inl (some 190)), .inl (.inl 41)]) (T := []) rfl rfl (fun C hC => cl_v hC rfl rfl rfl rfl) rfl (q_m_sign  h) (fun r47 M48 h => ?_)
        exact pM_ri rfl (⟨_, rfl, h⟩)
      · replace h := h.1 h46
        refine pM_ic rfl ki_0 ?_
        exact pM_ri rfl (⟨_, rfl, h⟩)
    · replace h := h.1 h43
      refine pM_ic rfl ki_0 ?_
      exact pM_ri rfl (⟨_, rfl, h⟩)
def B_m_readAllOf_9 (Q : Int32 → MM → Prop) (N : Nat) (ih : MM → Prop) (M : MM) : Prop :=
  W_m_passes 2989961357 N M (fun r4 M5 =>
    ((r4 = 0 →
      Q 1 M5) ∧
     (¬ r4 = 0 →
      W_m_readAtom  N M5 (fun r7 M8 =>
        ((r7 = 0 →
          Q 0 M8) ∧
         (¬ r7 = 0 →
          W_m_emits 10 0 N M8 (fun M11 =>
            ih M11)))))))
def W_m_readAllOf_9 (Q : Int32 → MM → Prop) : Nat → MM → Prop
  | 0, _ => True
  | N + 1, M => B_m_readAllOf_9 Q N (W_m_readAllOf_9 Q N) M
theorem I_m_readAllOf_9 (Q : Int32 → MM → Prop) (inv : MM → Prop) (hs : ∀ (N : Nat) (ih : MM → Prop) (M : MM), (∀ (M : MM), inv M → ih M) → inv M → B_m_readAllOf_9 Q N ih M) : ∀ (N : Nat) (M : MM), inv M → W_m_readAllOf_9 Q N M := by
  intro N
  induction N with
  | zero => intros; trivial
  | succ N IH =>
    intro M h
    exact hs N _ M IH h
theorem q_m_readAllOf_9 {X : Option (List AI)} {N0 : Nat} {Q : Int32 → MM → Prop}   : ∀ (N : Nat), N ≤ N0 → ∀ (M : MM), W_m_readAllOf_9 Q N M → pM X N 228 9 [(0, .inr (.inl (some 190)))] [] M (Ri Q) := by
  intro N
  induction N with
  | zero => intros; exact pM_zero
  | succ N IH =>
    intro hN M h
    replace hN := Nat.le_of_succ_le hN
    replace h : B_m_readAllOf_9 Q N (W_m_readAllOf_9 Q N) M := h
    refine pM_s (pMs_aln rfl rfl rfl ?_)
    refine pM_lds rfl rfl ?_
    refine pM_qRi (as := [.inr (.inl (some 190)), .inr (.inr (.inr (.inr 2989961358)))]) (T := []) rfl rfl (fun C hC => cl_v hC rfl rfl rfl rfl) rfl (q_m_passes (by decide) h) (fun r4 M5 h => ?_)
    refine pM_zeq rfl rfl (fun h6 => ?_) (fun h6 => ?_)
    · replace h := h.1 h6
      refine pM_ic rfl ki_1 ?_
      exact pM_ri rfl (⟨_, rfl, h⟩)
    · replace h := h.2 h6
      refine pM_aln rfl rfl rfl ?_
      refine pM_qRi (as := [.inr (.inl (some 190))]) (T := []) rfl rfl (fun C hC => cl_v hC rfl rfl rfl rfl) rfl (q_m_readAtom  h) (fun r7 M8 h => ?_)
      refine pM_zne rfl rfl (fun h9 => ?_) (fun h9 => ?_)
      · replace h := h.2 h9
        refine pM_aln rfl rfl rfl ?_
        refine pM_bi rfl kb_10 ?_
        refine pM_ic rfl ki_0 ?_
        refine pM_qRu (as := [.inr (.inl (some 190)), .inl (.inl 10), .inl (.inl 0)]) (T := []) rfl rfl (fun C hC => cl_v hC rfl rfl rfl rfl) rfl (q_m_emits  h) (fun M11 h => ?_)
        refine pM_go rfl rfl ?_
        refine pM_w (F2 := [(0, .inr (.inl (some 190)))]) (fun L hL => lo_cons (lo_lk hL rfl) lo_nil) ?_
        exact IH hN M11 h
      · replace h := h.1 h9
        refine pM_ic rfl ki_0 ?_
        exact pM_ri rfl (⟨_, rfl, h⟩)
/-- 228: EarCodeModel.readAllOf()Z -/
def W_m_readAllOf  (N : Nat) (M : MM) (Q : Int32 → MM → Prop) : Prop :=
  W_m_readAtom  N M (fun r1 M2 =>
    ((r1 = 0 →
      Q 0 M2) ∧
     (¬ r1 = 0 →
      W_m_readAllOf_9 Q N M2)))
theorem q_m_readAllOf {X : Option (List AI)} {N : Nat} {M : MM}  {Q : Int32 → MM → Prop}  (h : W_m_readAllOf  N M Q) : pM X N 228 0 (ea_ar 0 [.inr (.inl (some 190))]) [] M (Ri Q) := by
  refine pM_w (F2 := [(0, .inr (.inl (some 190)))]) (fun L hL => lo_cons (lo_lk hL rfl) lo_nil) ?_
  refine pM_aln rfl rfl rfl ?_
  refine pM_qRi (as := [.inr (.inl (some 190))]) (T := []) rfl rfl (fun C hC => cl_v hC rfl rfl rfl rfl) rfl (q_m_readAtom  h) (fun r1 M2 h => ?_)
  refine pM_zne rfl rfl (fun h3 => ?_) (fun h3 => ?_)
  · replace h := h.2 h3
    refine pM_w (F2 := [(0, .inr (.inl (some 190)))]) (fun L hL => lo_cons (lo_lk hL rfl) lo_nil) ?_
    refine q_m_readAllOf_9   N (Nat.le_refl N) M2 h
  · replace h := h.1 h3
    refine pM_ic rfl ki_0 ?_
    exact pM_ri rfl (⟨_, rfl, h⟩)
def B_m_readCond_9 (Q : Int32 → MM → Prop) (N : Nat) (ih : MM → Prop) (M : MM) : Prop :=
  W_m_passes 12138383 N M (fun r4 M5 =>
    ((r4 = 0 →
      Q 1 M5) ∧
     (¬ r4 = 0 →
      W_m_readAllOf  N M5 (fun r7 M8 =>
        ((r7 = 0 →
          Q 0 M8) ∧
         (¬ r7 = 0 →
          W_m_emits 11 0 N M8 (fun M11 =>
            ih M11)))))))
def W_m_readCond_9 (Q : Int32 → MM → Prop) : Nat → MM → Prop
  | 0, _ => True
  | N + 1, M => B_m_readCond_9 Q N (W_m_readCond_9 Q N) M
theorem I_m_readCond_9 (Q : Int32 → MM → Prop) (inv : MM → Prop) (hs : ∀ (N : Nat) (ih : MM → Prop) (M : MM), (∀ (M : MM), inv M → ih M) → inv M → B_m_readCond_9 Q N ih M) : ∀ (N : Nat) (M : MM), inv M → W_m_readCond_9 Q N M := by
  intro N
  induction N with
  | zero => intros; trivial
  | succ N IH =>
    intro M h
    exact hs N _ M IH h
theorem q_m_readCond_9 {X : Option (List AI)} {N0 : Nat} {Q : Int32 → MM → Prop}   : ∀ (N : Nat), N ≤ N0 → ∀ (M : MM), W_m_readCond_9 Q N M → pM X N 229 9 [(0, .inr (.inl (some 190)))] [] M (Ri Q) := by
  intro N
  induction N with
  | zero => intros; exact pM_zero
  | succ N IH =>
    intro hN M h
    replace hN := Nat.le_of_succ_le hN
    replace h : B_m_readCond_9 Q N (W_m_readCond_9 Q N) M := h
    refine pM_s (pMs_aln rfl rfl rfl ?_)
    refine pM_lds rfl rfl ?_
    refine pM_qRi (as := [.inr (.inl (some 190)), .inr (.inr (.inr (.inr 12138384)))]) (T := []) rfl rfl (fun C hC => cl_v hC rfl rfl rfl rfl) rfl (q_m_passes (by decide) h) (fun r4 M5 h => ?_)
    refine pM_zeq rfl rfl (fun h6 => ?_) (fun h6 => ?_)
    · replace h := h.1 h6
      refine pM_ic rfl ki_1 ?_
      exact pM_ri rfl (⟨_, rfl, h⟩)
    · replace h := h.2 h6
      refine pM_aln rfl rfl rfl ?_
      refine pM_qRi (as := [.inr (.inl (some 190))]) (T := []) rfl rfl (fun C hC => cl_v hC rfl rfl rfl rfl) rfl (q_m_readAllOf  h) (fun r7 M8 h => ?_)
      refine pM_zne rfl rfl (fun h9 => ?_) (fun h9 => ?_)
      · replace h := h.2 h9
        refine pM_aln rfl rfl rfl ?_
        refine pM_bi rfl kb_11 ?_
        refine pM_ic rfl ki_0 ?_
        refine pM_qRu (as := [.inr (.inl (some 190)), .inl (.inl 11), .inl (.inl 0)]) (T := []) rfl rfl (fun C hC => cl_v hC rfl rfl rfl rfl) rfl (q_m_emits  h) (fun M11 h => ?_)
        refine pM_go rfl rfl ?_
        refine pM_w (F2 := [(0, .inr (.inl (some 190)))]) (fun L hL => lo_cons (lo_lk hL rfl) lo_nil) ?_
        exact IH hN M11 h
      · replace h := h.1 h9
        refine pM_ic rfl ki_0 ?_
        exact pM_ri rfl (⟨_, rfl, h⟩)
/-- 229: EarCodeModel.readCond()Z -/
def W_m_readCond  (N : Nat) (M : MM) (Q : Int32 → MM → Prop) : Prop :=
  W_m_readAllOf  N M (fun r1 M2 =>
    ((r1 = 0 →
      Q 0 M2) ∧
     (¬ r1 = 0 →
      W_m_readCond_9 Q N M2)))
theorem q_m_readCond {X : Option (List AI)} {N : Nat} {M : MM}  {Q : Int32 → MM → Prop}  (h : W_m_readCond  N M Q) : pM X N 229 0 (ea_ar 0 [.inr (.inl (some 190))]) [] M (Ri Q) := by
  refine pM_w (F2 := [(0, .inr (.inl (some 190)))]) (fun L hL => lo_cons (lo_lk hL rfl) lo_nil) ?_
  refine pM_aln rfl rfl rfl ?_
  refine pM_qRi (as := [.inr (.inl (some 190))]) (T := []) rfl rfl (fun C hC => cl_v hC rfl rfl rfl rfl) rfl (q_m_readAllOf  h) (fun r1 M2 h => ?_)
  refine pM_zne rfl rfl (fun h3 => ?_) (fun h3 => ?_)
  · replace h := h.2 h3
    refine pM_w (F2 := [(0, .inr (.inl (some 190)))]) (fun L hL => lo_cons (lo_lk hL rfl) lo_nil) ?_
    refine q_m_readCond_9   N (Nat.le_refl N) M2 h
  · replace h := h.1 h3
    refine pM_ic rfl ki_0 ?_
    exact pM_ri rfl (⟨_, rfl, h⟩)
/-- 230: EarCodeModel.readClause(I)Z -/
def W_m_readClause (p1 : Int32) (N : Nat) (M : MM) (Q : Int32 → MM → Prop) : Prop :=
  ((p1 = 12 →
    Q 0 M) ∧
   (¬ p1 = 12 →
    W_m_isWord 52280337941016721 N M (fun r2 =>
      ((r2 = 0 →
        W_m_isWord 203627540166419 N M (fun r5 =>
          ((r5 = 0 →
            Q 0 M) ∧
           (¬ r5 = 0 →
            ((r2 = 0 →
              W_m_number 0 7 N (wi M 201 (ni (4 * p1)) 0) (fun r9 M10 =>
                ((((wi M10 201 (ni ((4 * p1) + 1)) r9).1 201 (ni ((4 * p1) + 1))) < 0 →
                  Q 0 (wi M10 201 (ni ((4 * p1) + 1)) r9)) ∧
                 (¬ ((wi M10 201 (ni ((4 * p1) + 1)) r9).1 201 (ni ((4 * p1) + 1))) < 0 →
                  W_m_passes 11744405 N (wi (wi (wi M10 201 (ni ((4 * p1) + 1)) r9) 201 (ni ((4 * p1) + 2)) ((wi M10 201 (ni ((4 * p1) + 1)) r9).1 190 25)) 190 22 0) (fun r12 M13 =>
                    ((r12 = 0 →
                      Q 1 (wi M13 201 (ni ((4 * p1) + 3)) (M13.1 190 25))) ∧
                     (¬ r12 = 0 →
                      W_m_readCond  N M13 (fun r15 M16 =>
                        ((r15 = 0 →
                          Q 0 M16) ∧
                         (¬ r15 = 0 →
                          Q 1 (wi M16 201 (ni ((4 * p1) + 3)) (M16.1 190 25)))))))))))) ∧
             (¬ r2 = 0 →
              W_m_number 0 7 N (wi M 201 (ni (4 * p1)) 1) (fun r18 M19 =>
                ((((wi M19 201 (ni ((4 * p1) + 1)) r18).1 201 (ni ((4 * p1) + 1))) < 0 →
                  Q 0 (wi M19 201 (ni ((4 * p1) + 1)) r18)) ∧
                 (¬ ((wi M19 201 (ni ((4 * p1) + 1)) r18).1 201 (ni ((4 * p1) + 1))) < 0 →
                  W_m_passes 11744405 N (wi (wi (wi M19 201 (ni ((4 * p1) + 1)) r18) 201 (ni ((4 * p1) + 2)) ((wi M19 201 (ni ((4 * p1) + 1)) r18).1 190 25)) 190 22 0) (fun r21 M22 =>
                    ((r21 = 0 →
                      Q 1 (wi M22 201 (ni ((4 * p1) + 3)) (M22.1 190 25))) ∧
                     (¬ r21 = 0 →
                      W_m_readCond  N M22 (fun r24 M25 =>
                        ((r24 = 0 →
                          Q 0 M25) ∧
                         (¬ r24 = 0 →
                          Q 1 (wi M25 201 (ni ((4 * p1) + 3)) (M25.1 190 25))))))))))))))))) ∧
       (¬ r2 = 0 →
        ((r2 = 0 →
          W_m_number 0 7 N (wi M 201 (ni (4 * p1)) 0) (fun r28 M29 =>
            ((((wi M29 201 (ni ((4 * p1) + 1)) r28).1 201 (ni ((4 * p1) + 1))) < 0 →
              Q 0 (wi M29 201 (ni ((4 * p1) + 1)) r28)) ∧
             (¬ ((wi M29 201 (ni ((4 * p1) + 1)) r28).1 201 (ni ((4 * p1) + 1))) < 0 →
              W_m_passes 11744405 N (wi (wi (wi M29 201 (ni ((4 * p1) + 1)) r28) 201 (ni ((4 * p1) + 2)) ((wi M29 201 (ni ((4 * p1) + 1)) r28).1 190 25)) 190 22 0) (fun r31 M32 =>
                ((r31 = 0 →
                  Q 1 (wi M32 201 (ni ((4 * p1) + 3)) (M32.1 190 25))) ∧
                 (¬ r31 = 0 →
                  W_m_readCond  N M32 (fun r34 M35 =>
                    ((r34 = 0 →
                      Q 0 M35) ∧
                     (¬ r34 = 0 →
                      Q 1 (wi M35 201 (ni ((4 * p1) + 3)) (M35.1 190 25)))))))))))) ∧
         (¬ r2 = 0 →
          W_m_number 0 7 N (wi M 201 (ni (4 * p1)) 1) (fun r37 M38 =>
            ((((wi M38 201 (ni ((4 * p1) + 1)) r37).1 201 (ni ((4 * p1) + 1))) < 0 →
              Q 0 (wi M38 201 (ni ((4 * p1) + 1)) r37)) ∧
             (¬ ((wi M38 201 (ni ((4 * p1) + 1)) r37).1 201 (ni ((4 * p1) + 1))) < 0 →
              W_m_passes 11744405 N (wi (wi (wi M38 201 (ni ((4 * p1) + 1)) r37) 201 (ni ((4 * p1) + 2)) ((wi M38 201 (ni ((4 * p1) + 1)) r37).1 190 25)) 190 22 0) (fun r40 M41 =>
                ((r40 = 0 →
                  Q 1 (wi M41 201 (ni ((4 * p1) + 3)) (M41.1 190 25))) ∧
                 (¬ r40 = 0 →
                  W_m_readCond  N M41 (fun r43 M44 =>
                    ((r43 = 0 →
                      Q 0 M44) ∧
                     (¬ r43 = 0 →
                      Q 1 (wi M44 201 (ni ((4 * p1) + 3)) (M44.1 190 25))))))))))))))))))
theorem q_m_readClause {X : Option (List AI)} {N : Nat} {M : MM} {p1 : Int32} {Q : Int32 → MM → Prop}  (h : W_m_readClause p1 N M Q) : pM X N 230 0 (ea_ar 0 [.inr (.inl (some 190)), .inl (.inl p1)]) [] M (Ri Q) := by
  refine pM_w (F2 := [(0, .inr (.inl (some 190))), (1, .inl (.inl p1))]) (fun L hL => lo_cons (lo_lk hL rfl) (lo_cons (lo_lk hL rfl) lo_nil)) ?_
  refine pM_iln rfl rfl ?_
  refine pM_bi rfl kb_12 ?_
  refine pM_cne rfl rfl (fun h1 => ?_) (fun h1 => ?_)
  · replace h := h.2 h1
    refine pM_aln rfl rfl rfl ?_
    refine pM_lds rfl rfl ?_
    refine pM_qPi (as := [.inr (.inl (some 190)), .inr (.inr (.inr (.inr 52280337941016722)))]) (T := []) rfl rfl (fun C hC => cl_v hC rfl rfl rfl rfl) rfl (q_m_isWord (by decide) h) (fun r2 h => ?_)
    refine pM_isn rfl rfl ?_
    refine pM_iln rfl rfl ?_
    refine pM_zne rfl rfl (fun h4 => ?_) (fun h4 => ?_)
    · replace h := h.2 h4
      refine pM_aln rfl rfl rfl ?_
      refine pM_gr rfl rfl rfl rfl ?_
      refine pM_ic rfl ki_4 ?_
      refine pM_iln rfl rfl ?_
      refine pM_mul rfl ?_
      refine pM_iln rfl rfl ?_
      refine pM_zeq rfl rfl (fun h27 => ?_) (fun h27 => ?_)
      · replace h := h.1 h27
        refine pM_ic rfl ki_0 ?_
        refine pM_sa rfl rfl (one_p _) ?_
        refine pM_aln rfl rfl rfl ?_
        refine pM_gr rfl rfl rfl rfl ?_
        refine pM_ic rfl ki_4 ?_
        refine pM_iln rfl rfl ?_
        refine pM_mul rfl ?_
        refine pM_ic rfl ki_1 ?_
        refine pM_add rfl ?_
        refine pM_aln rfl rfl rfl ?_
        refine pM_ic rfl ki_0 ?_
        refine pM_bi rfl kb_7 ?_
        refine pM_qRi (as := [.inr (.inl (some 190)), .inl (.inl 0), .inl (.inl 7)]) (T := [.inl (.inl ((4 * p1) + 1)), .inr (.inl (some 201))]) rfl rfl (fun C hC => cl_v hC rfl rfl rfl rfl) rfl (q_m_number  h) (fun r28 M29 h => ?_)
        refine pM_sa rfl rfl (one_p _) ?_
        refine pM_aln rfl rfl rfl ?_
        refine pM_gr rfl rfl rfl rfl ?_
        refine pM_ic rfl ki_4 ?_
        refine pM_iln rfl rfl ?_
        refine pM_mul rfl ?_
        refine pM_ic rfl ki_1 ?_
        refine pM_add rfl ?_
        refine pM_ai rfl rfl (one_p _) ?_
        refine pM_zge rfl rfl (fun h30 => ?_) (fun h30 => ?_)
        · replace h := h.2 h30
          refine pM_aln rfl rfl rfl ?_
          refine pM_gr rfl rfl rfl rfl ?_
          refine pM_ic rfl ki_4 ?_
          refine pM_iln rfl rfl ?_
          refine pM_mul rfl ?_
          refine pM_ic rfl ki_2 ?_
          refine pM_add rfl ?_
          refine pM_aln rfl rfl rfl ?_
          refine pM_gi rfl rfl rfl rfl ?_
          refine pM_sa rfl rfl (one_p _) ?_
          refine pM_aln rfl rfl rfl ?_
          refine pM_ic rfl ki_0 ?_
          refine pM_pi rfl rfl rfl rfl ?_
          refine pM_aln rfl rfl rfl ?_
          refine pM_lds rfl rfl ?_
          refine pM_qRi (as := [.inr (.inl (some 190)), .inr (.inr (.inr (.inr 11744406)))]) (T := []) rfl rfl (fun C hC => cl_v hC rfl rfl rfl rfl) rfl (q_m_passes (by decide) h) (fun r31 M32 h => ?_)
          refine pM_zeq rfl rfl (fun h33 => ?_) (fun h33 => ?_)
          · replace h := h.1 h33
            refine pM_aln rfl rfl rfl ?_
            refine pM_gr rfl rfl rfl rfl ?_
            refine pM_ic rfl ki_4 ?_
            refine pM_iln rfl rfl ?_
            refine pM_mul rfl ?_
            refine pM_ic rfl ki_3 ?_
            refine pM_add rfl ?_
            refine pM_aln rfl rfl rfl ?_
            refine pM_gi rfl rfl rfl rfl ?_
            refine pM_sa rfl rfl (one_p _) ?_
            refine pM_ic rfl ki_1 ?_
            exact pM_ri rfl (⟨_, rfl, h⟩)
          · replace h := h.2 h33
            refine pM_aln rfl rfl rfl ?_
            refine pM_qRi (as := [.inr (.inl (some 190))]) (T := []) rfl rfl (fun C hC => cl_v hC rfl rfl rfl rfl) rfl (q_m_readCond  h) (fun r34 M35 h => ?_)
            refine pM_zne rfl rfl (fun h36 => ?_) (fun h36 => ?_)
            · replace h := h.2 h36
              refine pM_aln rfl rfl rfl ?_
              refine pM_gr rfl rfl rfl rfl ?_
              refine pM_ic rfl ki_4 ?_
              refine pM_iln rfl rfl ?_
              refine pM_mul rfl ?_
              refine pM_ic rfl ki_3 ?_
              refine pM_add rfl ?_
              refine pM_aln rfl rfl rfl ?_
              refine pM_gi rfl rfl rfl rfl ?_
              refine pM_sa rfl rfl (one_p _) ?_
              refine pM_ic rfl ki_1 ?_
              exact pM_ri rfl (⟨_, rfl, h⟩)
            · replace h := h.1 h36
              refine pM_ic rfl ki_0 ?_
              exact pM_ri rfl (⟨_, rfl, h⟩)
        · replace h := h.1 h30
          refine pM_ic rfl ki_0 ?_
          exact pM_ri rfl (⟨_, rfl, h⟩)
      · replace h := h.2 h27
        refine pM_ic rfl ki_1 ?_
        refine pM_go rfl rfl ?_
        refine pM_sa rfl rfl (one_p _) ?_
        refine pM_aln rfl rfl rfl ?_
        refine pM_gr rfl rfl rfl rfl ?_
        refine pM_ic rfl ki_4 ?_
        refine pM_iln rfl rfl ?_
        refine pM_mul rfl ?_
        refine pM_ic rfl ki_1 ?_
        refine pM_add rfl ?_
        refine pM_aln rfl rfl rfl ?_
        refine pM_ic rfl ki_0 ?_
        refine pM_bi rfl kb_7 ?_
        refine pM_qRi (as := [.inr (.inl (some 190)), .inl (.inl 0), .inl (.inl 7)]) (T := [.inl (.inl ((4 * p1) + 1)), .inr (.inl (some 201))]) rfl rfl (fun C hC => cl_v hC rfl rfl rfl rfl) rfl (q_m_number  h) (fun r37 M38 h => ?_)
        refine pM_sa rfl rfl (one_p _) ?_
        refine pM_aln rfl rfl rfl ?_
        refine pM_gr rfl rfl rfl rfl ?_
        refine pM_ic rfl ki_4 ?_
        refine pM_iln rfl rfl ?_
        refine pM_mul rfl ?_
        refine pM_ic rfl ki_1 ?_
        refine pM_add rfl ?_
        refine pM_ai rfl rfl (one_p _) ?_
        refine pM_zge rfl rfl (fun h39 => ?_) (fun h39 => ?_)
        · replace h := h.2 h39
          refine pM_aln rfl rfl rfl ?_
          refine pM_gr rfl rfl rfl rfl ?_
          refine pM_ic rfl ki_4 ?_
          refine pM_iln rfl rfl ?_
          refine pM_mul rfl ?_
          refine pM_ic rfl ki_2 ?_
          refine pM_add rfl ?_
          refine pM_aln rfl rfl rfl ?_
          refine pM_gi rfl rfl rfl rfl ?_
          refine pM_sa rfl rfl (one_p _) ?_
          refine pM_aln rfl rfl rfl ?_
          refine pM_ic rfl ki_0 ?_
          refine pM_pi rfl rfl rfl rfl ?_
          refine pM_aln rfl rfl rfl ?_
          refine pM_lds rfl rfl ?_
          refine pM_qRi (as := [.inr (.inl (some 190)), .inr (.inr (.inr (.inr 11744406)))]) (T := []) rfl rfl (fun C hC => cl_v hC rfl rfl rfl rfl) rfl (q_m_passes (by decide) h) (fun r40 M41 h => ?_)
          refine pM_zeq rfl rfl (fun h42 => ?_) (fun h42 => ?_)
          · replace h := h.1 h42
            refine pM_aln rfl rfl rfl ?_
            refine pM_gr rfl rfl rfl rfl ?_
            refine pM_ic rfl ki_4 ?_
            refine pM_iln rfl rfl ?_
            refine pM_mul rfl ?_
            refine pM_ic rfl ki_3 ?_
            refine pM_add rfl ?_
            refine pM_aln rfl rfl rfl ?_
            refine pM_gi rfl rfl rfl rfl ?_
            refine pM_sa rfl rfl (one_p _) ?_
            refine pM_ic rfl ki_1 ?_
            exact pM_ri rfl (⟨_, rfl, h⟩)
          · replace h := h.2 h42
            refine pM_aln rfl rfl rfl ?_
            refine pM_qRi (as := [.inr (.inl (some 190))]) (T := []) rfl rfl (fun C hC => cl_v hC rfl rfl rfl rfl) rfl (q_m_readCond  h) (fun r43 M44 h => ?_)
            refine pM_zne rfl rfl (fun h45 => ?_) (fun h45 => ?_)
            · replace h := h.2 h45
              refine pM_aln rfl rfl rfl ?_
              refine pM_gr rfl rfl rfl rfl ?_
              refine pM_ic rfl ki_4 ?_
              refine pM_iln rfl rfl ?_
              refine pM_mul rfl ?_
              refine pM_ic rfl ki_3 ?_
              refine pM_add rfl ?_
              refine pM_aln rfl rfl rfl ?_
              refine pM_gi rfl rfl rfl rfl ?_
              refine pM_sa rfl rfl (one_p _) ?_
              refine pM_ic rfl ki_1 ?_
              exact pM_ri rfl (⟨_, rfl, h⟩)
            · replace h := h.1 h45
              refine pM_ic rfl ki_0 ?_
              exact pM_ri rfl (⟨_, rfl, h⟩)
        · replace h := h.1 h39
          refine pM_ic rfl ki_0 ?_
          exact pM_ri rfl (⟨_, rfl, h⟩)
    · replace h := h.1 h4
      refine pM_aln rfl rfl rfl ?_
      refine pM_lds rfl rfl ?_
      refine pM_qPi (as := [.inr (.inl (some 190)), .inr (.inr (.inr (.inr 203627540166420)))]) (T := []) rfl rfl (fun C hC => cl_v hC rfl rfl rfl rfl) rfl (q_m_isWord (by decide) h) (fun r5 h => ?_)
      refine pM_zne rfl rfl (fun h7 => ?_) (fun h7 => ?_)
      · replace h := h.2 h7
        refine pM_aln rfl rfl rfl ?_
        refine pM_gr rfl rfl rfl rfl ?_
        refine pM_ic rfl ki_4 ?_
        refine pM_iln rfl rfl ?_
        refine pM_mul rfl ?_
        refine pM_iln rfl rfl ?_
        refine pM_zeq rfl rfl (fun h8 => ?_) (fun h8 => ?_)
        · replace h := h.1 h8
          refine pM_ic rfl ki_0 ?_
          refine pM_sa rfl rfl (one_p _) ?_
          refine pM_aln rfl rfl rfl ?_
          refine pM_gr rfl rfl rfl rfl ?_
          refine pM_ic rfl ki_4 ?_
          refine pM_iln rfl rfl ?_
          refine pM_mul rfl ?_
          refine pM_ic rfl ki_1 ?_
          refine pM_add rfl ?_
          refine pM_aln rfl rfl rfl ?_
          refine pM_ic rfl ki_0 ?_
          refine pM_bi rfl kb_7 ?_
          refine pM_qRi (as := [.inr (.inl (some 190)), .inl (.inl 0), .inl (.inl 7)]) (T := [.inl (.inl ((4 * p1) + 1)), .inr (.inl (some 201))]) rfl rfl (fun C hC => cl_v hC rfl rfl rfl rfl) rfl (q_m_number  h) (fun r9 M10 h => ?_)
          refine pM_sa rfl rfl (one_p _) ?_
          refine pM_aln rfl rfl rfl ?_
          refine pM_gr rfl rfl rfl rfl ?_
          refine pM_ic rfl ki_4 ?_
          refine pM_iln rfl rfl ?_
          refine pM_mul rfl ?_
          refine pM_ic rfl ki_1 ?_
          refine pM_add rfl ?_
          refine pM_ai rfl rfl (one_p _) ?_
          refine pM_zge rfl rfl (fun h11 => ?_) (fun h11 => ?_)
          · replace h := h.2 h11
            refine pM_aln rfl rfl rfl ?_
            refine pM_gr rfl rfl rfl rfl ?_
            refine pM_ic rfl ki_4 ?_
            refine pM_iln rfl rfl ?_
            refine pM_mul rfl ?_
            refine pM_ic rfl ki_2 ?_
            refine pM_add rfl ?_
            refine pM_aln rfl rfl rfl ?_
            refine pM_gi rfl rfl rfl rfl ?_
            refine pM_sa rfl rfl (one_p _) ?_
            refine pM_aln rfl rfl rfl ?_
            refine pM_ic rfl ki_0 ?_
            refine pM_pi rfl rfl rfl rfl ?_
            refine pM_aln rfl rfl rfl ?_
            refine pM_lds rfl rfl ?_
            refine pM_qRi (as := [.inr (.inl (some 190)), .inr (.inr (.inr (.inr 11744406)))]) (T := []) rfl rfl (fun C hC => cl_v hC rfl rfl rfl rfl) rfl (q_m_passes (by decide) h) (fun r12 M13 h => ?_)
            refine pM_zeq rfl rfl (fun h14 => ?_) (fun h14 => ?_)
            · replace h := h.1 h14
              refine pM_aln rfl rfl rfl ?_
              refine pM_gr rfl rfl rfl rfl ?_
              refine pM_ic rfl ki_4 ?_
              refine pM_iln rfl rfl ?_
              refine pM_mul rfl ?_
              refine pM_ic rfl ki_3 ?_
              refine pM_add rfl ?_
              refine pM_aln rfl rfl rfl ?_
              refine pM_gi rfl rfl rfl rfl ?_
              refine pM_sa rfl rfl (one_p _) ?_
              refine pM_ic rfl ki_1 ?_
              exact pM_ri rfl (⟨_, rfl, h⟩)
            · replace h := h.2 h14
              refine pM_aln rfl rfl rfl ?_
              refine pM_qRi (as := [.inr (.inl (some 190))]) (T := []) rfl rfl (fun C hC => cl_v hC rfl rfl rfl rfl) rfl (q_m_readCond  h) (fun r15 M16 h => ?_)
              refine pM_zne rfl rfl (fun h17 => ?_) (fun h17 => ?_)
              · replace h := h.2 h17
                refine pM_aln rfl rfl rfl ?_
                refine pM_gr rfl rfl rfl rfl ?_
                refine pM_ic rfl ki_4 ?_
                refine pM_iln rfl rfl ?_
                refine pM_mul rfl ?_
                refine pM_ic rfl ki_3 ?_
                refine pM_add rfl ?_
                refine pM_aln rfl rfl rfl ?_
                refine pM_gi rfl rfl rfl rfl ?_
                refine pM_sa rfl rfl (one_p _) ?_
                refine pM_ic rfl ki_1 ?_
                exact pM_ri rfl (⟨_, rfl, h⟩)
              · replace h := h.1 h17
                refine pM_ic rfl ki_0 ?_
                exact pM_ri rfl (⟨_, rfl, h⟩)
          · replace h := h.1 h11
            refine pM_ic rfl ki_0 ?_
            exact pM_ri rfl (⟨_, rfl, h⟩)
        · replace h := h.2 h8
          refine pM_ic rfl ki_1 ?_
          refine pM_go rfl rfl ?_
          refine pM_sa rfl rfl (one_p _) ?_
          refine pM_aln rfl rfl rfl ?_
          refine pM_gr rfl rfl rfl rfl ?_
          refine pM_ic rfl ki_4 ?_
          refine pM_iln rfl rfl ?_
          refine pM_mul rfl ?_
          refine pM_ic rfl ki_1 ?_
          refine pM_add rfl ?_
          refine pM_aln rfl rfl rfl ?_
          refine pM_ic rfl ki_0 ?_
          refine pM_bi rfl kb_7 ?_
          refine pM_qRi (as := [.inr (.inl (some 190)), .inl (.inl 0), .inl (.inl 7)]) (T := [.inl (.inl ((4 * p1) + 1)), .inr (.inl (some 201))]) rfl rfl (fun C hC => cl_v hC rfl rfl rfl rfl) rfl (q_m_number  h) (fun r18 M19 h => ?_)
          refine pM_sa rfl rfl (one_p _) ?_
          refine pM_aln rfl rfl rfl ?_
          refine pM_gr rfl rfl rfl rfl ?_
          refine pM_ic rfl ki_4 ?_
          refine pM_iln rfl rfl ?_
          refine pM_mul rfl ?_
          refine pM_ic rfl ki_1 ?_
          refine pM_add rfl ?_
          refine pM_ai rfl rfl (one_p _) ?_
          refine pM_zge rfl rfl (fun h20 => ?_) (fun h20 => ?_)
          · replace h := h.2 h20
            refine pM_aln rfl rfl rfl ?_
            refine pM_gr rfl rfl rfl rfl ?_
            refine pM_ic rfl ki_4 ?_
            refine pM_iln rfl rfl ?_
            refine pM_mul rfl ?_
            refine pM_ic rfl ki_2 ?_
            refine pM_add rfl ?_
            refine pM_aln rfl rfl rfl ?_
            refine pM_gi rfl rfl rfl rfl ?_
            refine pM_sa rfl rfl (one_p _) ?_
            refine pM_aln rfl rfl rfl ?_
            refine pM_ic rfl ki_0 ?_
            refine pM_pi rfl rfl rfl rfl ?_
            refine pM_aln rfl rfl rfl ?_
            refine pM_lds rfl rfl ?_
            refine pM_qRi (as := [.inr (.inl (some 190)), .inr (.inr (.inr (.inr 11744406)))]) (T := []) rfl rfl (fun C hC => cl_v hC rfl rfl rfl rfl) rfl (q_m_passes (by decide) h) (fun r21 M22 h => ?_)
            refine pM_zeq rfl rfl (fun h23 => ?_) (fun h23 => ?_)
            · replace h := h.1 h23
              refine pM_aln rfl rfl rfl ?_
              refine pM_gr rfl rfl rfl rfl ?_
              refine pM_ic rfl ki_4 ?_
              refine pM_iln rfl rfl ?_
              refine pM_mul rfl ?_
              refine pM_ic rfl ki_3 ?_
              refine pM_add rfl ?_
              refine pM_aln rfl rfl rfl ?_
              refine pM_gi rfl rfl rfl rfl ?_
              refine pM_sa rfl rfl (one_p _) ?_
              refine pM_ic rfl ki_1 ?_
              exact pM_ri rfl (⟨_, rfl, h⟩)
            · replace h := h.2 h23
              refine pM_aln rfl rfl rfl ?_
              refine pM_qRi (as := [.inr (.inl (some 190))]) (T := []) rfl rfl (fun C hC => cl_v hC rfl rfl rfl rfl) rfl (q_m_readCond  h) (fun r24 M25 h => ?_)
              refine pM_zne rfl rfl (fun h26 => ?_) (fun h26 => ?_)
              · replace h := h.2 h26
                refine pM_aln rfl rfl rfl ?_
                refine pM_gr rfl rfl rfl rfl ?_
                refine pM_ic rfl ki_4 ?_
                refine pM_iln rfl rfl ?_
                refine pM_mul rfl ?_
                refine pM_ic rfl ki_3 ?_
                refine pM_add rfl ?_
                refine pM_aln rfl rfl rfl ?_
                refine pM_gi rfl rfl rfl rfl ?_
                refine pM_sa rfl rfl (one_p _) ?_
                refine pM_ic rfl ki_1 ?_
                exact pM_ri rfl (⟨_, rfl, h⟩)
              · replace h := h.1 h26
                refine pM_ic rfl ki_0 ?_
                exact pM_ri rfl (⟨_, rfl, h⟩)
          · replace h := h.1 h20
            refine pM_ic rfl ki_0 ?_
            exact pM_ri rfl (⟨_, rfl, h⟩)
      · replace h := h.1 h7
        refine pM_ic rfl ki_0 ?_
        exact pM_ri rfl (⟨_, rfl, h⟩)
  · replace h := h.1 h1
    refine pM_ic rfl ki_0 ?_
    exact pM_ri rfl (⟨_, rfl, h⟩)
def B_m_readHabit_2 (p1 : Int32) (Q : Int32 → MM → Prop) (N : Nat) (ih : Int32 → MM → Prop) (v2 : Int32) (M : MM) : Prop :=
  ((v2 = 6 →
    Q 0 M) ∧
   (¬ v2 = 6 →
    W_m_matterTold  N M (fun r3 M4 =>
      ((r3 < 0 →
        Q 0 M4) ∧
       (¬ r3 < 0 →
        W_m_sets p1 (7 + v2) r3 N M4 (fun M7 =>
          W_m_isFigure  N M7 (fun r8 M9 =>
            ((r8 = 0 →
              W_m_sets p1 5 (v2 + 1) N M9 (fun M12 =>
                Q 1 M12)) ∧
             (¬ r8 = 0 →
              ih (v2 + 1) M9)))))))))
def W_m_readHabit_2 (p1 : Int32) (Q : Int32 → MM → Prop) : Nat → Int32 → MM → Prop
  | 0, _, _ => True
  | N + 1, v2, M => B_m_readHabit_2 p1 Q N (W_m_readHabit_2 p1 Q N) v2 M
theorem I_m_readHabit_2 (p1 : Int32) (Q : Int32 → MM → Prop) (inv : Int32 → MM → Prop) (hs : ∀ (N : Nat) (ih : Int32 → MM → Prop) (v2 : Int32) (M : MM), (∀ (v2 : Int32) (M : MM), inv v2 M → ih v2 M) → inv v2 M → B_m_readHabit_2 p1 Q N ih v2 M) : ∀ (N : Nat) (v2 : Int32) (M : MM), inv v2 M → W_m_readHabit_2 p1 Q N v2 M := by
  intro N
  induction N with
  | zero => intros; trivial
  | succ N IH =>
    intro v2 M h
    exact hs N _ v2 M IH h
theorem q_m_readHabit_2 {X : Option (List AI)} {N0 : Nat} {p1 : Int32} {Q : Int32 → MM → Prop}   : ∀ (N : Nat), N ≤ N0 → ∀ (v2 : Int32) (M : MM), W_m_readHabit_2 p1 Q N v2 M → pM X N 231 2 [(0, .inr (.inl (some 190))), (1, .inl (.inl p1)), (2, .inl (.inl v2))] [] M (Ri Q) := by
  intro N
  induction N with
  | zero => intros; exact pM_zero
  | succ N IH =>
    intro hN v2 M h
    replace hN := Nat.le_of_succ_le hN
    replace h : B_m_readHabit_2 p1 Q N (W_m_readHabit_2 p1 Q N) v2 M := h
    refine pM_s (pMs_iln rfl rfl ?_)
    refine pM_bi rfl kb_6 ?_
    refine pM_cne rfl rfl (fun h1 => ?_) (fun h1 => ?_)
    · replace h := h.2 h1
      refine pM_aln rfl rfl rfl ?_
      refine pM_qRi (as := [.inr (.inl (some 190))]) (T := []) rfl rfl (fun C hC => cl_v hC rfl rfl rfl rfl) rfl (q_m_matterTold  h) (fun r3 M4 h => ?_)
      refine pM_isn rfl rfl ?_
      refine pM_iln rfl rfl ?_
      refine pM_zge rfl rfl (fun h5 => ?_) (fun h5 => ?_)
      · replace h := h.2 h5
        refine pM_aln rfl rfl rfl ?_
        refine pM_iln rfl rfl ?_
        refine pM_bi rfl kb_7 ?_
        refine pM_iln rfl rfl ?_
        refine pM_add rfl ?_
        refine pM_iln rfl rfl ?_
        refine pM_qRu (as := [.inr (.inl (some 190)), .inl (.inl p1), .inl (.inl (7 + v2)), .inl (.inl r3)]) (T := []) rfl rfl (fun C hC => cl_v hC rfl rfl rfl rfl) rfl (q_m_sets  h) (fun M7 h => ?_)
        refine pM_ii rfl rfl rfl ki_1 ?_
        refine pM_aln rfl rfl rfl ?_
        refine pM_qRi (as := [.inr (.inl (some 190))]) (T := []) rfl rfl (fun C hC => cl_v hC rfl rfl rfl rfl) rfl (q_m_isFigure  h) (fun r8 M9 h => ?_)
        refine pM_zne rfl rfl (fun h10 => ?_) (fun h10 => ?_)
        · replace h := h.2 h10
          refine pM_w (F2 := [(0, .inr (.inl (some 190))), (1, .inl (.inl p1)), (2, .inl (.inl (v2 + 1)))]) (fun L hL => lo_cons (lo_lk hL rfl) (lo_cons (lo_lk hL rfl) (lo_cons (lo_lk hL rfl) lo_nil))) ?_
          exact IH hN (v2 + 1) M9 h
        · replace h := h.1 h10
          refine pM_aln rfl rfl rfl ?_
          refine pM_iln rfl rfl ?_
          refine pM_ic rfl ki_5 ?_
          refine pM_iln rfl rfl ?_
          refine pM_qRu (as := [.inr (.inl (some 190)), .inl (.inl p1), .inl (.inl 5), .inl (.inl (v2 + 1))]) (T := []) rfl rfl (fun C hC => cl_v hC rfl rfl rfl rfl) rfl (q_m_sets  h) (fun M12 h => ?_)
          refine pM_ic rfl ki_1 ?_
          exact pM_ri rfl (⟨_, rfl, h⟩)
      · replace h := h.1 h5
        refine pM_ic rfl ki_0 ?_
        exact pM_ri rfl (⟨_, rfl, h⟩)
    · replace h := h.1 h1
      refine pM_ic rfl ki_m1 ?_
      refine pM_go rfl rfl ?_
      refine pM_isn rfl rfl ?_
      refine pM_iln rfl rfl ?_
      refine pM_zge rfl rfl (fun h2 => ?_) (fun h2 => ?_)
      · exact absurd (by decide) h2
      · refine pM_ic rfl ki_0 ?_
        exact pM_ri rfl (⟨_, rfl, h⟩)
/-- 231: EarCodeModel.readHabit(I)Z -/
def W_m_readHabit (p1 : Int32) (N : Nat) (M : MM) (Q : Int32 → MM → Prop) : Prop :=
  W_m_readHabit_2 p1 Q N 0 M
theorem q_m_readHabit {X : Option (List AI)} {N : Nat} {M : MM} {p1 : Int32} {Q : Int32 → MM → Prop}  (h : W_m_readHabit p1 N M Q) : pM X N 231 0 (ea_ar 0 [.inr (.inl (some 190)), .inl (.inl p1)]) [] M (Ri Q) := by
  refine pM_w (F2 := [(0, .inr (.inl (some 190))), (1, .inl (.inl p1))]) (fun L hL => lo_cons (lo_lk hL rfl) (lo_cons (lo_lk hL rfl) lo_nil)) ?_
  refine pM_ic rfl ki_0 ?_
  refine pM_isn rfl rfl ?_
  refine pM_w (F2 := [(0, .inr (.inl (some 190))), (1, .inl (.inl p1)), (2, .inl (.inl 0))]) (fun L hL => lo_cons (lo_lk hL rfl) (lo_cons (lo_lk hL rfl) (lo_cons (lo_lk hL rfl) lo_nil))) ?_
  refine q_m_readHabit_2   N (Nat.le_refl N) 0 M h
def B_m_readKnows_0 (p1 : Int32) (Q : Int32 → MM → Prop) (N : Nat) (ih : MM → Prop) (M : MM) : Prop :=
  W_m_number 0 ((V_m_clauses  M) - 1) N M (fun r1 M2 =>
    ((r1 < 0 →
      Q 0 M2) ∧
     (¬ r1 < 0 →
      W_m_sets p1 1 ((V_m_of p1 1 M2) ||| (sl 1 r1)) N M2 (fun M5 =>
        W_m_isFigure  N M5 (fun r6 M7 =>
          ((r6 = 0 →
            Q 1 M7) ∧
           (¬ r6 = 0 →
            ih M7)))))))
def W_m_readKnows_0 (p1 : Int32) (Q : Int32 → MM → Prop) : Nat → MM → Prop
  | 0, _ => True
  | N + 1, M => B_m_readKnows_0 p1 Q N (W_m_readKnows_0 p1 Q N) M
theorem I_m_readKnows_0 (p1 : Int32) (Q : Int32 → MM → Prop) (inv : MM → Prop) (hs : ∀ (N : Nat) (ih : MM → Prop) (M : MM), (∀ (M : MM), inv M → ih M) → inv M → B_m_readKnows_0 p1 Q N ih M) : ∀ (N : Nat) (M : MM), inv M → W_m_readKnows_0 p1 Q N M := by
  intro N
  induction N with
  | zero => intros; trivial
  | succ N IH =>
    intro M h
    exact hs N _ M IH h
theorem q_m_readKnows_0 {X : Option (List AI)} {N0 : Nat} {p1 : Int32} {Q : Int32 → MM → Prop}   : ∀ (N : Nat), N ≤ N0 → ∀ (M : MM), W_m_readKnows_0 p1 Q N M → pM X N 232 0 [(0, .inr (.inl (some 190))), (1, .inl (.inl p1))] [] M (Ri Q) := by
  intro N
  induction N with
  | zero => intros; exact pM_zero
  | succ N IH =>
    intro hN M h
    replace hN := Nat.le_of_succ_le hN
    replace h : B_m_readKnows_0 p1 Q N (W_m_readKnows_0 p1 Q N) M := h
    refine pM_s (pMs_aln rfl rfl rfl ?_)
    refine pM_ic rfl ki_0 ?_
    refine pM_aln rfl rfl rfl ?_
    refine pM_qVi (as := [.inr (.inl (some 190))]) (T := [.inl (.inl 0), .inr (.inl (some 190))]) rfl rfl (fun C hC => cl_v hC rfl rfl rfl rfl) rfl (q_m_clauses ) ?_
    refine pM_ic rfl ki_1 ?_
    refine pM_sub rfl ?_
    refine pM_qRi (as := [.inr (.inl (some 190)), .inl (.inl 0), .inl (.inl ((V_m_clauses  M) - 1))]) (T := []) rfl rfl (fun C hC => cl_v hC rfl rfl rfl rfl) rfl (q_m_number  h) (fun r1 M2 h => ?_)
    refine pM_isn rfl rfl ?_
    refine pM_iln rfl rfl ?_
    refine pM_zge rfl rfl (fun h3 => ?_) (fun h3 => ?_)
    · replace h := h.2 h3
      refine pM_aln rfl rfl rfl ?_
      refine pM_iln rfl rfl ?_
      refine pM_ic rfl ki_1 ?_
      refine pM_aln rfl rfl rfl ?_
      refine pM_iln rfl rfl ?_
      refine pM_ic rfl ki_1 ?_
      refine pM_qVi (as := [.inr (.inl (some 190)), .inl (.inl p1), .inl (.inl 1)]) (T := [.inl (.inl 1), .inl (.inl p1), .inr (.inl (some 190))]) rfl rfl (fun C hC => cl_v hC rfl rfl rfl rfl) rfl (q_m_of ) ?_
      refine pM_ic rfl ki_1 ?_
      refine pM_iln rfl rfl ?_
      refine pM_shl rfl ?_
      refine pM_or rfl ?_
      refine pM_qRu (as := [.inr (.inl (some 190)), .inl (.inl p1), .inl (.inl 1), .inl (.inl ((V_m_of p1 1 M2) ||| (sl 1 r1)))]) (T := []) rfl rfl (fun C hC => cl_v hC rfl rfl rfl rfl) rfl (q_m_sets  h) (fun M5 h => ?_)
      refine pM_aln rfl rfl rfl ?_
      refine pM_qRi (as := [.inr (.inl (some 190))]) (T := []) rfl rfl (fun C hC => cl_v hC rfl rfl rfl rfl) rfl (q_m_isFigure  h) (fun r6 M7 h => ?_)
      refine pM_zne rfl rfl (fun h8 => ?_) (fun h8 => ?_)
      · replace h := h.2 h8
        refine pM_w (F2 := [(0, .inr (.inl (some 190))), (1, .inl (.inl p1))]) (fun L hL => lo_cons (lo_lk hL rfl) (lo_cons (lo_lk hL rfl) lo_nil)) ?_
        exact IH hN M7 h
      · replace h := h.1 h8
        refine pM_ic rfl ki_1 ?_
        exact pM_ri rfl (⟨_, rfl, h⟩)
    · replace h := h.1 h3
      refine pM_ic rfl ki_0 ?_
      exact pM_ri rfl (⟨_, rfl, h⟩)
/-- 232: EarCodeModel.readKnows(I)Z -/
def W_m_readKnows (p1 : Int32) (N : Nat) (M : MM) (Q : Int32 → MM → Prop) : Prop :=
  W_m_readKnows_0 p1 Q N M
theorem q_m_readKnows {X : Option (List AI)} {N : Nat} {M : MM} {p1 : Int32} {Q : Int32 → MM → Prop}  (h : W_m_readKnows p1 N M Q) : pM X N 232 0 (ea_ar 0 [.inr (.inl (some 190)), .inl (.inl p1)]) [] M (Ri Q) := by
  refine pM_w (F2 := [(0, .inr (.inl (some 190))), (1, .inl (.inl p1))]) (fun L hL => lo_cons (lo_lk hL rfl) (lo_cons (lo_lk hL rfl) lo_nil)) ?_
  refine pM_w (F2 := [(0, .inr (.inl (some 190))), (1, .inl (.inl p1))]) (fun L hL => lo_cons (lo_lk hL rfl) (lo_cons (lo_lk hL rfl) lo_nil)) ?_
  refine q_m_readKnows_0   N (Nat.le_refl N) M h
def B_m_readCitizen_15 (u1 : Int32) (k34 : MM → Prop) (Q : Int32 → MM → Prop) (N : Nat) (ih : Int32 → MM → Prop) (v2 : Int32) (M : MM) : Prop :=
  ((v2 < 13 →
    W_m_sets u1 v2 0 N M (fun M4 =>
      ih (v2 + 1) M4)) ∧
   (¬ v2 < 13 →
    k34 M))
def W_m_readCitizen_15 (u1 : Int32) (k34 : MM → Prop) (Q : Int32 → MM → Prop) : Nat → Int32 → MM → Prop
  | 0, _, _ => True
  | N + 1, v2, M => B_m_readCitizen_15 u1 k34 Q N (W_m_readCitizen_15 u1 k34 Q N) v2 M
theorem I_m_readCitizen_15 (u1 : Int32) (k34 : MM → Prop) (Q : Int32 → MM → Prop) (inv : Int32 → MM → Prop) (hs : ∀ (N : Nat) (ih : Int32 → MM → Prop) (v2 : Int32) (M : MM), (∀ (v2 : Int32) (M : MM), inv v2 M → ih v2 M) → inv v2 M → B_m_readCitizen_15 u1 k34 Q N ih v2 M) : ∀ (N : Nat) (v2 : Int32) (M : MM), inv v2 M → W_m_readCitizen_15 u1 k34 Q N v2 M := by
  intro N
  induction N with
  | zero => intros; trivial
  | succ N IH =>
    intro v2 M h
    exact hs N _ v2 M IH h
theorem q_m_readCitizen_15 {X : Option (List AI)} {N0 : Nat} {u1 : Int32} {k34 : MM → Prop} {Q : Int32 → MM → Prop}  (hk34 : ∀  (M : MM), k34 M → pM X N0 233 34 [(0, .inr (.inl (some 190))), (1, .inl (.inl u1))] [] M (Ri Q)) : ∀ (N : Nat), N ≤ N0 → ∀ (v2 : Int32) (M : MM), W_m_readCitizen_15 u1 k34 Q N v2 M → pM X N 233 15 [(0, .inr (.inl (some 190))), (1, .inl (.inl u1)), (2, .inl (.inl v2))] [] M (Ri Q) := by
  intro N
  induction N with
  | zero => intros; exact pM_zero
  | succ N IH =>
    intro hN v2 M h
    replace hN := Nat.le_of_succ_le hN
    replace h : B_m_readCitizen_15 u1 k34 Q N (W_m_readCitizen_15 u1 k34 Q N) v2 M := h
    refine pM_s (pMs_iln rfl rfl ?_)
    refine pM_bi rfl kb_13 ?_
    refine pM_cge rfl rfl (fun h2 => ?_) (fun h2 => ?_)
    · replace h := h.2 h2
      refine pM_w (F2 := [(0, .inr (.inl (some 190))), (1, .inl (.inl u1))]) (fun L hL => lo_cons (lo_lk hL rfl) (lo_cons (lo_lk hL rfl) lo_nil)) ?_
      exact pM_le hN (hk34 _ h)
    · replace h := h.1 h2
      refine pM_aln rfl rfl rfl ?_
      refine pM_iln rfl rfl ?_
      refine pM_iln rfl rfl ?_
      refine pM_ic rfl ki_0 ?_
      refine pM_qRu (as := [.inr (.inl (some 190)), .inl (.inl u1), .inl (.inl v2), .inl (.inl 0)]) (T := []) rfl rfl (fun C hC => cl_v hC rfl rfl rfl rfl) rfl (q_m_sets  h) (fun M4 h => ?_)
      refine pM_ii rfl rfl rfl ki_1 ?_
      refine pM_go rfl rfl ?_
      refine pM_w (F2 := [(0, .inr (.inl (some 190))), (1, .inl (.inl u1)), (2, .inl (.inl (v2 + 1)))]) (fun L hL => lo_cons (lo_lk hL rfl) (lo_cons (lo_lk hL rfl) (lo_cons (lo_lk hL rfl) lo_nil))) ?_
      exact IH hN (v2 + 1) M4 h
/-- 233: EarCodeModel.readCitizen()Z -/
def W_m_readCitizen  (N : Nat) (M : MM) (Q : Int32 → MM → Prop) : Prop :=
  (((V_m_citizens  M) = 10 →
    Q 0 M) ∧
   (¬ (V_m_citizens  M) = 10 →
    W_m_readCitizen_15 (V_m_citizens  M) (fun M5 =>
      W_m_sets (V_m_citizens  M) 0 1 N (wj M5 196 (ni (V_m_citizens  M)) (Int64.ofNat 0)) (fun M7 =>
        W_m_sets (V_m_citizens  M) 4 (-1) N M7 (fun M9 =>
          W_m_letters  N M9 (fun M11 =>
            W_m_isWord 795385967383 N M11 (fun r12 =>
              ((r12 = 0 →
                Q 0 M11) ∧
               (¬ r12 = 0 →
                W_m_number 0 100 N M11 (fun r15 M16 =>
                  W_m_sets (V_m_citizens  M) 2 r15 N M16 (fun M18 =>
                    (((V_m_of (V_m_citizens  M) 2 M18) < 0 →
                      Q 0 M18) ∧
                     (¬ (V_m_of (V_m_citizens  M) 2 M18) < 0 →
                      W_m_letters  N M18 (fun M21 =>
                        W_m_isWord 797567332889 N M21 (fun r22 =>
                          ((r22 = 0 →
                            Q 0 M21) ∧
                           (¬ r22 = 0 →
                            W_m_readHabit (V_m_citizens  M) N M21 (fun r25 M26 =>
                              ((r25 = 0 →
                                Q 0 M26) ∧
                               (¬ r25 = 0 →
                                W_m_passes 204215892260251 N M26 (fun r28 M29 =>
                                  ((r28 = 0 →
                                    Q 1 (wi M29 191 (ni 0) ((M29.1 191 (ni 0)) + 1))) ∧
                                   (¬ r28 = 0 →
                                    W_m_readKnows (V_m_citizens  M) N M29 (fun r31 M32 =>
                                      ((r31 = 0 →
                                        Q 0 M32) ∧
                                       (¬ r31 = 0 →
                                        Q 1 (wi M32 191 (ni 0) ((M32.1 191 (ni 0)) + 1)))))))))))))))))))))))))) Q N 0 M))
theorem q_m_readCitizen {X : Option (List AI)} {N : Nat} {M : MM}  {Q : Int32 → MM → Prop}  (h : W_m_readCitizen  N M Q) : pM X N 233 0 (ea_ar 0 [.inr (.inl (some 190))]) [] M (Ri Q) := by
  refine pM_w (F2 := [(0, .inr (.inl (some 190)))]) (fun L hL => lo_cons (lo_lk hL rfl) lo_nil) ?_
  refine pM_aln rfl rfl rfl ?_
  refine pM_qVi (as := [.inr (.inl (some 190))]) (T := []) rfl rfl (fun C hC => cl_v hC rfl rfl rfl rfl) rfl (q_m_citizens ) ?_
  refine pM_isn rfl rfl ?_
  refine pM_iln rfl rfl ?_
  refine pM_bi rfl kb_10 ?_
  refine pM_cne rfl rfl (fun h1 => ?_) (fun h1 => ?_)
  · replace h := h.2 h1
    refine pM_ic rfl ki_0 ?_
    refine pM_isn rfl rfl ?_
    refine pM_w (F2 := [(0, .inr (.inl (some 190))), (1, .inl (.inl (V_m_citizens  M))), (2, .inl (.inl 0))]) (fun L hL => lo_cons (lo_lk hL rfl) (lo_cons (lo_lk hL rfl) (lo_cons (lo_lk hL rfl) lo_nil))) ?_
    refine q_m_readCitizen_15  (fun M5 h => ?_) N (Nat.le_refl N) 0 M h
    · refine pM_aln rfl rfl rfl ?_
      refine pM_gr rfl rfl rfl rfl ?_
      refine pM_iln rfl rfl ?_
      refine pM_lc rfl ?_
      refine pM_sg rfl rfl ?_
      refine pM_aln rfl rfl rfl ?_
      refine pM_iln rfl rfl ?_
      refine pM_ic rfl ki_0 ?_
      refine pM_ic rfl ki_1 ?_
      refine pM_qRu (as := [.inr (.inl (some 190)), .inl (.inl (V_m_citizens  M)), .inl (.inl 0), .inl (.inl 1)]) (T := []) rfl rfl (fun C hC => cl_v hC rfl rfl rfl rfl) rfl (q_m_sets  h) (fun M7 h => ?_)
      refine pM_aln rfl rfl rfl ?_
      refine pM_iln rfl rfl ?_
      refine pM_ic rfl ki_4 ?_
      refine pM_ic rfl ki_m1 ?_
      refine pM_qRu (as := [.inr (.inl (some 190)), .inl (.inl (V_m_citizens  M)), .inl (.inl 4), .inl (.inl (-1))]) (T := []) rfl rfl (fun C hC => cl_v hC rfl rfl rfl rfl) rfl (q_m_sets  h) (fun M9 h => ?_)
      refine pM_aln rfl rfl rfl ?_
      refine pM_qRu (as := [.inr (.inl (some 190))]) (T := []) rfl rfl (fun C hC => cl_v hC rfl rfl rfl rfl) rfl (q_m_letters  h) (fun M11 h => ?_)
      refine pM_aln rfl rfl rfl ?_
      refine pM_lds rfl rfl ?_
      refine pM_qPi (as := [.inr (.inl (some 190)), .inr (.inr (.inr (.inr 795385967384)))]) (T := []) rfl rfl (fun C hC => cl_v hC rfl rfl rfl rfl) rfl (q_m_isWord (by decide) h) (fun r12 h => ?_)
      refine pM_zne rfl rfl (fun h14 => ?_) (fun h14 => ?_)
      · replace h := h.2 h14
        refine pM_aln rfl rfl rfl ?_
        refine pM_iln rfl rfl ?_
        refine pM_ic rfl ki_2 ?_
        refine pM_aln rfl rfl rfl ?_
        refine pM_ic rfl ki_0 ?_
        refine pM_bi rfl kb_100 ?_
        refine pM_qRi (as := [.inr (.inl (some 190)), .inl (.inl 0), .inl (.inl 100)]) (T := [.inl (.inl 2), .inl (.inl (V_m_citizens  M)), .inr (.inl (some 190))]) rfl rfl (fun C hC => cl_v hC rfl rfl rfl rfl) rfl (q_m_number  h) (fun r15 M16 h => ?_)
        refine pM_qRu (as := [.inr (.inl (some 190)), .inl (.inl (V_m_citizens  M)), .inl (.inl 2), .inl (.inl r15)]) (T := []) rfl rfl (fun C hC => cl_v hC rfl rfl rfl rfl) rfl (q_m_sets  h) (fun M18 h => ?_)
        refine pM_aln rfl rfl rfl ?_
        refine pM_iln rfl rfl ?_
        refine pM_ic rfl ki_2 ?_
        refine pM_qVi (as := [.inr (.inl (some 190)), .inl (.inl (V_m_citizens  M)), .inl (.inl 2)]) (T := []) rfl rfl (fun C hC => cl_v hC rfl rfl rfl rfl) rfl (q_m_of ) ?_
        refine pM_zge rfl rfl (fun h19 => ?_) (fun h19 => ?_)
        · replace h := h.2 h19
          refine pM_aln rfl rfl rfl ?_
          refine pM_qRu (as := [.inr (.inl (some 190))]) (T := []) rfl rfl (fun C hC => cl_v hC rfl rfl rfl rfl) rfl (q_m_letters  h) (fun M21 h => ?_)
          refine pM_aln rfl rfl rfl ?_
          refine pM_lds rfl rfl ?_
          refine pM_qPi (as := [.inr (.inl (some 190)), .inr (.inr (.inr (.inr 797567332890)))]) (T := []) rfl rfl (fun C hC => cl_v hC rfl rfl rfl rfl) rfl (q_m_isWord (by decide) h) (fun r22 h => ?_)
          refine pM_zeq rfl rfl (fun h24 => ?_) (fun h24 => ?_)
          · replace h := h.1 h24
            refine pM_ic rfl ki_0 ?_
            exact pM_ri rfl (⟨_, rfl, h⟩)
          · replace h := h.2 h24
            refine pM_aln rfl rfl rfl ?_
            refine pM_iln rfl rfl ?_
            refine pM_qRi (as := [.inr (.inl (some 190)), .inl (.inl (V_m_citizens  M))]) (T := []) rfl rfl (fun C hC => cl_v hC rfl rfl rfl rfl) rfl (q_m_readHabit  h) (fun r25 M26 h => ?_)
            refine pM_zne rfl rfl (fun h27 => ?_) (fun h27 => ?_)
            · replace h := h.2 h27
              refine pM_aln rfl rfl rfl ?_
              refine pM_lds rfl rfl ?_
              refine pM_qRi (as := [.inr (.inl (some 190)), .inr (.inr (.inr (.inr 204215892260252)))]) (T := []) rfl rfl (fun C hC => cl_v hC rfl rfl rfl rfl) rfl (q_m_passes (by decide) h) (fun r28 M29 h => ?_)
              refine pM_zeq rfl rfl (fun h30 => ?_) (fun h30 => ?_)
              · replace h := h.1 h30
                refine pM_aln rfl rfl rfl ?_
                refine pM_gr rfl rfl rfl rfl ?_
                refine pM_ic rfl ki_0 ?_
                refine pM_p (pc' := 142) (S' := [.inl (.inl 0), .inr (.inl (some 191)), .inl (.inl 0), .inr (.inl (some 191))]) rfl rfl (fun _ => rfl) ?_
                refine pM_ai rfl rfl row_p ?_
                refine pM_ic rfl ki_1 ?_
                refine pM_add rfl ?_
                refine pM_sa rfl rfl row_p ?_
                refine pM_ic rfl ki_1 ?_
                exact pM_ri rfl (⟨_, rfl, h⟩)
              · replace h := h.2 h30
                refine pM_aln rfl rfl rfl ?_
                refine pM_iln rfl rfl ?_
                refine pM_qRi (as := [.inr (.inl (some 190)), .inl (.inl (V_m_citizens  M))]) (T := []) rfl rfl (fun C hC => cl_v hC rfl rfl rfl rfl) rfl (q_m_readKnows  h) (fun r31 M32 h => ?_)
                refine pM_zne rfl rfl (fun h33 => ?_) (fun h33 => ?_)
                · replace h := h.2 h33
                  refine pM_aln rfl rfl rfl ?_
                  refine pM_gr rfl rfl rfl rfl ?_
                  refine pM_ic rfl ki_0 ?_
                  refine pM_p (pc' := 142) (S' := [.inl (.inl 0), .inr (.inl (some 191)), .inl (.inl 0), .inr (.inl (some 191))]) rfl rfl (fun _ => rfl) ?_
                  refine pM_ai rfl rfl row_p ?_
                  refine pM_ic rfl ki_1 ?_
                  refine pM_add rfl ?_
                  refine pM_sa rfl rfl row_p ?_
                  refine pM_ic rfl ki_1 ?_
                  exact pM_ri rfl (⟨_, rfl, h⟩)
                · replace h := h.1 h33
                  refine pM_ic rfl ki_0 ?_
                  exact pM_ri rfl (⟨_, rfl, h⟩)
            · replace h := h.1 h27
              refine pM_ic rfl ki_0 ?_
              exact pM_ri rfl (⟨_, rfl, h⟩)
        · replace h := h.1 h19
          refine pM_ic rfl ki_0 ?_
          exact pM_ri rfl (⟨_, rfl, h⟩)
      · replace h := h.1 h14
        refine pM_ic rfl ki_0 ?_
        exact pM_ri rfl (⟨_, rfl, h⟩)
  · replace h := h.1 h1
    refine pM_ic rfl ki_0 ?_
    exact pM_ri rfl (⟨_, rfl, h⟩)
/-- 234: EarCodeModel.citizenTold()I -/
def W_m_citizenTold  (N : Nat) (M : MM) (Q : Int32 → MM → Prop) : Prop :=
  W_m_number 0 ((V_m_citizens  M) - 1) N M (fun r1 M2 =>
    ((r1 < 0 →
      Q (-1) M2) ∧
     (¬ r1 < 0 →
      (((V_m_isAlive r1 M2) = 0 →
        Q (-1) M2) ∧
       (¬ (V_m_isAlive r1 M2) = 0 →
        Q r1 M2)))))
theorem q_m_citizenTold {X : Option (List AI)} {N : Nat} {M : MM}  {Q : Int32 → MM → Prop}  (h : W_m_citizenTold  N M Q) : pM X N 234 0 (ea_ar 0 [.inr (.inl (some 190))]) [] M (Ri Q) := by
  refine pM_w (F2 := [(0, .inr (.inl (some 190)))]) (fun L hL => lo_cons (lo_lk hL rfl) lo_nil) ?_
  refine pM_aln rfl rfl rfl ?_
  refine pM_ic rfl ki_0 ?_
  refine pM_aln rfl rfl rfl ?_
  refine pM_qVi (as := [.inr (.inl (some 190))]) (T := [.inl (.inl 0), .inr (.inl (some 190))]) rfl rfl (fun C hC => cl_v hC rfl rfl rfl rfl) rfl (q_m_citizens ) ?_
  refine pM_ic rfl ki_1 ?_
  refine pM_sub rfl ?_
  refine pM_qRi (as := [.inr (.inl (some 190)), .inl (.inl 0), .inl (.inl ((V_m_citizens  M) - 1))]) (T := []) rfl rfl (fun C hC => cl_v hC rfl rfl rfl rfl) rfl (q_m_number  h) (fun r1 M2 h => ?_)
  refine pM_isn rfl rfl ?_
  refine pM_iln rfl rfl ?_
  refine pM_zlt rfl rfl (fun h3 => ?_) (fun h3 => ?_)
  · replace h := h.1 h3
    refine pM_ic rfl ki_m1 ?_
    refine pM_go rfl rfl ?_
    exact pM_ri rfl (⟨_, rfl, h⟩)
  · replace h := h.2 h3
    refine pM_aln rfl rfl rfl ?_
    refine pM_iln rfl rfl ?_
    refine pM_qVi (as := [.inr (.inl (some 190)), .inl (.inl r1)]) (T := []) rfl rfl (fun C hC => cl_v hC rfl rfl rfl rfl) rfl (q_m_isAlive ) ?_
    refine pM_zne rfl rfl (fun h4 => ?_) (fun h4 => ?_)
    · replace h := h.2 h4
      refine pM_iln rfl rfl ?_
      exact pM_ri rfl (⟨_, rfl, h⟩)
    · replace h := h.1 h4
      refine pM_ic rfl ki_m1 ?_
      refine pM_go rfl rfl ?_
      exact pM_ri rfl (⟨_, rfl, h⟩)
/-- 235: EarCodeModel.isSingle(I)Z -/
def V_m_isSingle (p1 : Int32) (M : MM) : Int32 :=
  (if p1 < 0 then
    0
  else
    (if (V_m_of p1 4 M) < 0 then
      1
    else
      0))
theorem q_m_isSingle {X : Option (List AI)} {N : Nat} {M : MM} {p1 : Int32}  : pM X N 235 0 (ea_ar 0 [.inr (.inl (some 190)), .inl (.inl p1)]) [] M (Vi (V_m_isSingle p1 M) M) := by
  refine pM_w (F2 := [(0, .inr (.inl (some 190))), (1, .inl (.inl p1))]) (fun L hL => lo_cons (lo_lk hL rfl) (lo_cons (lo_lk hL rfl) lo_nil)) ?_
  refine pM_iln rfl rfl ?_
  refine pM_zlt rfl rfl (fun h1 => ?_) (fun h1 => ?_)
  · refine pM_ic rfl ki_0 ?_
    exact pM_rVi rfl (Eq.trans (if_pos h1) rfl)
  · refine pM_aln rfl rfl rfl ?_
    refine pM_iln rfl rfl ?_
    refine pM_ic rfl ki_4 ?_
    refine pM_qVi (as := [.inr (.inl (some 190)), .inl (.inl p1), .inl (.inl 4)]) (T := []) rfl rfl (fun C hC => cl_v hC rfl rfl rfl rfl) rfl (q_m_of ) ?_
    refine pM_zge rfl rfl (fun h2 => ?_) (fun h2 => ?_)
    · refine pM_ic rfl ki_0 ?_
      exact pM_rVi rfl (Eq.trans (if_neg h1) (Eq.trans (if_neg h2) rfl))
    · refine pM_ic rfl ki_1 ?_
      refine pM_go rfl rfl ?_
      exact pM_rVi rfl (Eq.trans (if_neg h1) (Eq.trans (if_pos h2) rfl))
/-- 236: EarCodeModel.weds(II)V -/
def W_m_weds (p1 : Int32) (p2 : Int32) (N : Nat) (M : MM) (Q : MM → Prop) : Prop :=
  W_m_sets p1 4 p2 N M (fun M2 =>
    W_m_sets p2 4 p1 N M2 (fun M4 =>
      W_m_sets p1 1 ((V_m_of p1 1 M) ||| (V_m_of p2 1 M)) N M4 (fun M6 =>
        W_m_sets p2 1 ((V_m_of p1 1 M) ||| (V_m_of p2 1 M)) N M6 (fun M8 =>
          Q M8))))
theorem q_m_weds {X : Option (List AI)} {N : Nat} {M : MM} {p1 : Int32} {p2 : Int32} {Q : MM → Prop}  (h : W_m_weds p1 p2 N M Q) : pM X N 236 0 (ea_ar 0 [.inr (.inl (some 190)), .inl (.inl p1), .inl (.inl p2)]) [] M (Ru Q) := by
  refine pM_w (F2 := [(0, .inr (.inl (some 190))), (1, .inl (.inl p1)), (2, .inl (.inl p2))]) (fun L hL => lo_cons (lo_lk hL rfl) (lo_cons (lo_lk hL rfl) (lo_cons (lo_lk hL rfl) lo_nil))) ?_
  refine pM_aln rfl rfl rfl ?_
  refine pM_iln rfl rfl ?_
  refine pM_ic rfl ki_1 ?_
  refine pM_qVi (as := [.inr (.inl (some 190)), .inl (.inl p1), .inl (.inl 1)]) (T := []) rfl rfl (fun C hC => cl_v hC rfl rfl rfl rfl) rfl (q_m_of ) ?_
  refine pM_aln rfl rfl rfl ?_
  refine pM_iln rfl rfl ?_
  refine pM_ic rfl ki_1 ?_
  refine pM_qVi (as := [.inr (.inl (some 190)), .inl (.inl p2), .inl (.inl 1)]) (T := [.inl (.inl (V_m_of p1 1 M))]) rfl rfl (fun C hC => cl_v hC rfl rfl rfl rfl) rfl (q_m_of ) ?_
  refine pM_or rfl ?_
  refine pM_isn rfl rfl ?_
  refine pM_aln rfl rfl rfl ?_
  refine pM_iln rfl rfl ?_
  refine pM_ic rfl ki_4 ?_
  refine pM_iln rfl rfl ?_
  refine pM_qRu (as := [.inr (.inl (some 190)), .inl (.inl p1), .inl (.inl 4), .inl (.inl p2)]) (T := []) rfl rfl (fun C hC => cl_v hC rfl rfl rfl rfl) rfl (q_m_sets  h) (fun M2 h => ?_)
  refine pM_aln rfl rfl rfl ?_
  refine pM_iln rfl rfl ?_
  refine pM_ic rfl ki_4 ?_
  refine pM_iln rfl rfl ?_
  refine pM_qRu (as := [.inr (.inl (some 190)), .inl (.inl p2), .inl (.inl 4), .inl (.inl p1)]) (T := []) rfl rfl (fun C hC => cl_v hC rfl rfl rfl rfl) rfl (q_m_sets  h) (fun M4 h => ?_)
  refine pM_aln rfl rfl rfl ?_
  refine pM_iln rfl rfl ?_
  refine pM_ic rfl ki_1 ?_
  refine pM_iln rfl rfl ?_
  refine pM_qRu (as := [.inr (.inl (some 190)), .inl (.inl p1), .inl (.inl 1), .inl (.inl ((V_m_of p1 1 M) ||| (V_m_of p2 1 M)))]) (T := []) rfl rfl (fun C hC => cl_v hC rfl rfl rfl rfl) rfl (q_m_sets  h) (fun M6 h => ?_)
  refine pM_aln rfl rfl rfl ?_
  refine pM_iln rfl rfl ?_
  refine pM_ic rfl ki_1 ?_
  refine pM_iln rfl rfl ?_
  refine pM_qRu (as := [.inr (.inl (some 190)), .inl (.inl p2), .inl (.inl 1), .inl (.inl ((V_m_of p1 1 M) ||| (V_m_of p2 1 M)))]) (T := []) rfl rfl (fun C hC => cl_v hC rfl rfl rfl rfl) rfl (q_m_sets  h) (fun M8 h => ?_)
  exact pM_ru rfl (⟨rfl, h⟩)
/-- 237: EarCodeModel.readWed()Z -/
def W_m_readWed  (N : Nat) (M : MM) (Q : Int32 → MM → Prop) : Prop :=
  W_m_citizenTold  N M (fun r1 M2 =>
    (((V_m_isSingle r1 M2) = 0 →
      Q 0 M2) ∧
     (¬ (V_m_isSingle r1 M2) = 0 →
      W_m_citizenTold  N M2 (fun r4 M5 =>
        (((V_m_isSingle r4 M5) = 0 →
          Q 0 M5) ∧
         (¬ (V_m_isSingle r4 M5) = 0 →
          ((r1 = r4 →
            Q 0 M5) ∧
           (¬ r1 = r4 →
            W_m_weds r1 r4 N M5 (fun M9 =>
              Q 1 M9)))))))))
theorem q_m_readWed {X : Option (List AI)} {N : Nat} {M : MM}  {Q : Int32 → MM → Prop}  (h : W_m_readWed  N M Q) : pM X N 237 0 (ea_ar 0 [.inr (.inl (some 190))]) [] M (Ri Q) := by
  refine pM_w (F2 := [(0, .inr (.inl (some 190)))]) (fun L hL => lo_cons (lo_lk hL rfl) lo_nil) ?_
  refine pM_aln rfl rfl rfl ?_
  refine pM_qRi (as := [.inr (.inl (some 190))]) (T := []) rfl rfl (fun C hC => cl_v hC rfl rfl rfl rfl) rfl (q_m_citizenTold  h) (fun r1 M2 h => ?_)
  refine pM_isn rfl rfl ?_
  refine pM_aln rfl rfl rfl ?_
  refine pM_iln rfl rfl ?_
  refine pM_qVi (as := [.inr (.inl (some 190)), .inl (.inl r1)]) (T := []) rfl rfl (fun C hC => cl_v hC rfl rfl rfl rfl) rfl (q_m_isSingle ) ?_
  refine pM_zne rfl rfl (fun h3 => ?_) (fun h3 => ?_)
  · replace h := h.2 h3
    refine pM_aln rfl rfl rfl ?_
    refine pM_qRi (as := [.inr (.inl (some 190))]) (T := []) rfl rfl (fun C hC => cl_v hC rfl rfl rfl rfl) rfl (q_m_citizenTold  h) (fun r4 M5 h => ?_)
    refine pM_isn rfl rfl ?_
    refine pM_aln rfl rfl rfl ?_
    refine pM_iln rfl rfl ?_
    refine pM_qVi (as := [.inr (.inl (some 190)), .inl (.inl r4)]) (T := []) rfl rfl (fun C hC => cl_v hC rfl rfl rfl rfl) rfl (q_m_isSingle ) ?_
    refine pM_zeq rfl rfl (fun h6 => ?_) (fun h6 => ?_)
    · replace h := h.1 h6
      refine pM_ic rfl ki_0 ?_
      exact pM_ri rfl (⟨_, rfl, h⟩)
    · replace h := h.2 h6
      refine pM_iln rfl rfl ?_
      refine pM_iln rfl rfl ?_
      refine pM_cne rfl rfl (fun h7 => ?_) (fun h7 => ?_)
      · replace h := h.2 h7
        refine pM_aln rfl rfl rfl ?_
        refine pM_iln rfl rfl ?_
        refine pM_iln rfl rfl ?_
        refine pM_qRu (as := [.inr (.inl (some 190)), .inl (.inl r1), .inl (.inl r4)]) (T := []) rfl rfl (fun C hC => cl_v hC rfl rfl rfl rfl) rfl (q_m_weds  h) (fun M9 h => ?_)
        refine pM_ic rfl ki_1 ?_
        exact pM_ri rfl (⟨_, rfl, h⟩)
      · replace h := h.1 h7
        refine pM_ic rfl ki_0 ?_
        exact pM_ri rfl (⟨_, rfl, h⟩)
  · replace h := h.1 h3
    refine pM_ic rfl ki_0 ?_
    exact pM_ri rfl (⟨_, rfl, h⟩)
/-- 238: EarCodeModel.readSeen()Z -/
def W_m_readSeen  (N : Nat) (M : MM) (Q : Int32 → MM → Prop) : Prop :=
  W_m_citizenTold  N M (fun r1 M2 =>
    ((r1 < 0 →
      Q 0 M2) ∧
     (¬ r1 < 0 →
      W_m_matterTold  N M2 (fun r6 M7 =>
        ((r6 < 0 →
          ((r6 < 0 →
            Q 0 M7) ∧
           (¬ r6 < 0 →
            Q 1 M7))) ∧
         (¬ r6 < 0 →
          ((r6 < 0 →
            Q 0 (wj M7 196 (ni r1) ((M7.2 196 (ni r1)) ||| (ll (Int64.ofNat 1) r6)))) ∧
           (¬ r6 < 0 →
            Q 1 (wj M7 196 (ni r1) ((M7.2 196 (ni r1)) ||| (ll (Int64.ofNat 1) r6)))))))))))
theorem q_m_readSeen {X : Option (List AI)} {N : Nat} {M : MM}  {Q : Int32 → MM → Prop}  (h : W_m_readSeen  N M Q) : pM X N 238 0 (ea_ar 0 [.inr (.inl (some 190))]) [] M (Ri Q) := by
  refine pM_w (F2 := [(0, .inr (.inl (some 190)))]) (fun L hL => lo_cons (lo_lk hL rfl) lo_nil) ?_
  refine pM_aln rfl rfl rfl ?_
  refine pM_qRi (as := [.inr (.inl (some 190))]) (T := []) rfl rfl (fun C hC => cl_v hC rfl rfl rfl rfl) rfl (q_m_citizenTold  h) (fun r1 M2 h => ?_)
  refine pM_isn rfl rfl ?_
  refine pM_iln rfl rfl ?_
  refine pM_zge rfl rfl (fun h3 => ?_) (fun h3 => ?_)
  · replace h := h.2 h3
    refine pM_aln rfl rfl rfl ?_
    refine pM_qRi (as := [.inr (.inl (some 190))]) (T := []) rfl rfl (fun C hC => cl_v hC rfl rfl rfl rfl) rfl (q_m_matterTold  h) (fun r6 M7 h => ?_)
    refine pM_isn rfl rfl ?_
    refine pM_iln rfl rfl ?_
    refine pM_zlt rfl rfl (fun h8 => ?_) (fun h8 => ?_)
    · replace h := h.1 h8
      refine pM_iln rfl rfl ?_
      refine pM_zlt rfl rfl (fun h9 => ?_) (fun h9 => ?_)
      · replace h := h.1 h9
        refine pM_ic rfl ki_0 ?_
        exact pM_ri rfl (⟨_, rfl, h⟩)
      · replace h := h.2 h9
        refine pM_ic rfl ki_1 ?_
        refine pM_go rfl rfl ?_
        exact pM_ri rfl (⟨_, rfl, h⟩)
    · replace h := h.2 h8
      refine pM_aln rfl rfl rfl ?_
      refine pM_gr rfl rfl rfl rfl ?_
      refine pM_iln rfl rfl ?_
      refine pM_p (pc' := 28) (S' := [.inl (.inl r1), .inr (.inl (some 196)), .inl (.inl r1), .inr (.inl (some 196))]) rfl rfl (fun _ => rfl) ?_
      refine pM_la rfl rfl ?_
      refine pM_lc rfl ?_
      refine pM_iln rfl rfl ?_
      refine pM_p (pc' := 32) (S' := [.inr (.inr (.inl (some (ll (Int64.ofNat 1) r6)))), .inr (.inr (.inl (some (M7.2 196 (ni r1))))), .inl (.inl r1), .inr (.inl (some 196))]) rfl rfl (fun _ => rfl) ?_
      refine pM_p (pc' := 33) (S' := [.inr (.inr (.inl (some ((M7.2 196 (ni r1)) ||| (ll (Int64.ofNat 1) r6))))), .inl (.inl r1), .inr (.inl (some 196))]) rfl rfl (fun _ => rfl) ?_
      refine pM_sg rfl rfl ?_
      refine pM_iln rfl rfl ?_
      refine pM_zlt rfl rfl (fun h10 => ?_) (fun h10 => ?_)
      · replace h := h.1 h10
        refine pM_ic rfl ki_0 ?_
        exact pM_ri rfl (⟨_, rfl, h⟩)
      · replace h := h.2 h10
        refine pM_ic rfl ki_1 ?_
        refine pM_go rfl rfl ?_
        exact pM_ri rfl (⟨_, rfl, h⟩)
  · replace h := h.1 h3
    refine pM_ic rfl ki_m1 ?_
    refine pM_go rfl rfl ?_
    refine pM_isn rfl rfl ?_
    refine pM_iln rfl rfl ?_
    refine pM_zlt rfl rfl (fun h4 => ?_) (fun h4 => ?_)
    · refine pM_iln rfl rfl ?_
      refine pM_zlt rfl rfl (fun h5 => ?_) (fun h5 => ?_)
      · refine pM_ic rfl ki_0 ?_
        exact pM_ri rfl (⟨_, rfl, h⟩)
      · exact absurd (by decide) h5
    · exact absurd (by decide) h4
/-- 239: EarCodeModel.readNumber(III)Z -/
def W_m_readNumber (p1 : Int32) (p2 : Int32) (p3 : Int32) (N : Nat) (M : MM) (Q : Int32 → MM → Prop) : Prop :=
  W_m_number p2 p3 N M (fun r1 M2 =>
    ((r1 < 0 →
      Q 0 (wi M2 191 (ni p1) r1)) ∧
     (¬ r1 < 0 →
      Q 1 (wi M2 191 (ni p1) r1))))
theorem q_m_readNumber {X : Option (List AI)} {N : Nat} {M : MM} {p1 : Int32} {p2 : Int32} {p3 : Int32} {Q : Int32 → MM → Prop}  (h : W_m_readNumber p1 p2 p3 N M Q) : pM X N 239 0 (ea_ar 0 [.inr (.inl (some 190)), .inl (.inl p1), .inl (.inl p2), .inl (.inl p3)]) [] M (Ri Q) := by
  refine pM_w (F2 := [(0, .inr (.inl (some 190))), (1, .inl (.inl p1)), (2, .inl (.inl p2)), (3, .inl (.inl p3))]) (fun L hL => lo_cons (lo_lk hL rfl) (lo_cons (lo_lk hL rfl) (lo_cons (lo_lk hL rfl) (lo_cons (lo_lk hL rfl) lo_nil)))) ?_
  refine pM_aln rfl rfl rfl ?_
  refine pM_iln rfl rfl ?_
  refine pM_iln rfl rfl ?_
  refine pM_qRi (as := [.inr (.inl (some 190)), .inl (.inl p2), .inl (.inl p3)]) (T := []) rfl rfl (fun C hC => cl_v hC rfl rfl rfl rfl) rfl (q_m_number  h) (fun r1 M2 h => ?_)
  refine pM_is rfl rfl ?_
  refine pM_aln rfl rfl rfl ?_
  refine pM_gr rfl rfl rfl rfl ?_
  refine pM_iln rfl rfl ?_
  refine pM_il rfl rfl ?_
  refine pM_sa rfl rfl row_p ?_
  refine pM_il rfl rfl ?_
  refine pM_zlt rfl rfl (fun h3 => ?_) (fun h3 => ?_)
  · replace h := h.1 h3
    refine pM_ic rfl ki_0 ?_
    exact pM_ri rfl (⟨_, rfl, h⟩)
  · replace h := h.2 h3
    refine pM_ic rfl ki_1 ?_
    refine pM_go rfl rfl ?_
    exact pM_ri rfl (⟨_, rfl, h⟩)
/-- 240: EarCodeModel.readRepublicLine(I)Z -/
def W_m_readRepublicLine (p1 : Int32) (N : Nat) (M : MM) (Q : Int32 → MM → Prop) : Prop :=
  ((p1 = 14 →
    Q 0 M) ∧
   (¬ p1 = 14 →
    W_m_isWord 13200821491936309661 N M (fun r2 =>
      ((r2 = 0 →
        W_m_isWord 198125670153119 N M (fun r5 =>
          ((r5 = 0 →
            W_m_isWord 784791157281 N M (fun r8 =>
              ((r8 = 0 →
                W_m_isWord 2989669283 N M (fun r11 =>
                  ((r11 = 0 →
                    W_m_isWord 786829588901 N M (fun r14 =>
                      ((r14 = 0 →
                        W_m_isWord 784791024679 N M (fun r17 =>
                          ((r17 = 0 →
                            Q 0 M) ∧
                           (¬ r17 = 0 →
                            W_m_number 0 7 N M (fun r20 M21 =>
                              ((r20 < 0 →
                                Q 0 M21) ∧
                               (¬ r20 < 0 →
                                W_m_readNumber (10 + r20) 0 99 N M21 (fun r23 M24 =>
                                  ((r23 = 0 →
                                    Q 0 M24) ∧
                                   (¬ r23 = 0 →
                                    Q 1 M24)))))))))) ∧
                       (¬ r14 = 0 →
                        W_m_readSeen  N M (fun r26 M27 =>
                          Q r26 M27))))) ∧
                   (¬ r11 = 0 →
                    W_m_readWed  N M (fun r28 M29 =>
                      Q r28 M29))))) ∧
               (¬ r8 = 0 →
                W_m_readNumber 8 1 30 N M (fun r30 M31 =>
                  Q r30 M31))))) ∧
           (¬ r5 = 0 →
            W_m_readNumber 7 0 100 N M (fun r32 M33 =>
              Q r32 M33))))) ∧
       (¬ r2 = 0 →
        W_m_readCitizen  N M (fun r34 M35 =>
          Q r34 M35))))))
theorem q_m_readRepublicLine {X : Option (List AI)} {N : Nat} {M : MM} {p1 : Int32} {Q : Int32 → MM → Prop}  (h : W_m_readRepublicLine p1 N M Q) : pM X N 240 0 (ea_ar 0 [.inr (.inl (some 190)), .inl (.inl p1)]) [] M (Ri Q) := by
  refine pM_w (F2 := [(0, .inr (.inl (some 190))), (1, .inl (.inl p1))]) (fun L hL => lo_cons (lo_lk hL rfl) (lo_cons (lo_lk hL rfl) lo_nil)) ?_
  refine pM_iln rfl rfl ?_
  refine pM_bi rfl kb_14 ?_
  refine pM_cne rfl rfl (fun h1 => ?_) (fun h1 => ?_)
  · replace h := h.2 h1
    refine pM_aln rfl rfl rfl ?_
    refine pM_ldsw rfl rfl ?_
    refine pM_qPi (as := [.inr (.inl (some 190)), .inr (.inr (.inr (.inr 13200821491936309662)))]) (T := []) rfl rfl (fun C hC => cl_v hC rfl rfl rfl rfl) rfl (q_m_isWord (by decide) h) (fun r2 h => ?_)
    refine pM_zeq rfl rfl (fun h4 => ?_) (fun h4 => ?_)
    · replace h := h.1 h4
      refine pM_aln rfl rfl rfl ?_
      refine pM_ldsw rfl rfl ?_
      refine pM_qPi (as := [.inr (.inl (some 190)), .inr (.inr (.inr (.inr 198125670153120)))]) (T := []) rfl rfl (fun C hC => cl_v hC rfl rfl rfl rfl) rfl (q_m_isWord (by decide) h) (fun r5 h => ?_)
      refine pM_zeq rfl rfl (fun h7 => ?_) (fun h7 => ?_)
      · replace h := h.1 h7
        refine pM_aln rfl rfl rfl ?_
        refine pM_ldsw rfl rfl ?_
        refine pM_qPi (as := [.inr (.inl (some 190)), .inr (.inr (.inr (.inr 784791157282)))]) (T := []) rfl rfl (fun C hC => cl_v hC rfl rfl rfl rfl) rfl (q_m_isWord (by decide) h) (fun r8 h => ?_)
        refine pM_zeq rfl rfl (fun h10 => ?_) (fun h10 => ?_)
        · replace h := h.1 h10
          refine pM_aln rfl rfl rfl ?_
          refine pM_ldsw rfl rfl ?_
          refine pM_qPi (as := [.inr (.inl (some 190)), .inr (.inr (.inr (.inr 2989669284)))]) (T := []) rfl rfl (fun C hC => cl_v hC rfl rfl rfl rfl) rfl (q_m_isWord (by decide) h) (fun r11 h => ?_)
          refine pM_zeq rfl rfl (fun h13 => ?_) (fun h13 => ?_)
          · replace h := h.1 h13
            refine pM_aln rfl rfl rfl ?_
            refine pM_ldsw rfl rfl ?_
            refine pM_qPi (as := [.inr (.inl (some 190)), .inr (.inr (.inr (.inr 786829588902)))]) (T := []) rfl rfl (fun C hC => cl_v hC rfl rfl rfl rfl) rfl (q_m_isWord (by decide) h) (fun r14 h => ?_)
            refine pM_zeq rfl rfl (fun h16 => ?_) (fun h16 => ?_)
            · replace h := h.1 h16
              refine pM_aln rfl rfl rfl ?_
              refine pM_ldsw rfl rfl ?_
              refine pM_qPi (as := [.inr (.inl (some 190)), .inr (.inr (.inr (.inr 784791024680)))]) (T := []) rfl rfl (fun C hC => cl_v hC rfl rfl rfl rfl) rfl (q_m_isWord (by decide) h) (fun r17 h => ?_)
              refine pM_zne rfl rfl (fun h19 => ?_) (fun h19 => ?_)
              · replace h := h.2 h19
                refine pM_aln rfl rfl rfl ?_
                refine pM_ic rfl ki_0 ?_
                refine pM_bi rfl kb_7 ?_
                refine pM_qRi (as := [.inr (.inl (some 190)), .inl (.inl 0), .inl (.inl 7)]) (T := []) rfl rfl (fun C hC => cl_v hC rfl rfl rfl rfl) rfl (q_m_number  h) (fun r20 M21 h => ?_)
                refine pM_isn rfl rfl ?_
                refine pM_iln rfl rfl ?_
                refine pM_zlt rfl rfl (fun h22 => ?_) (fun h22 => ?_)
                · replace h := h.1 h22
                  refine pM_ic rfl ki_0 ?_
                  exact pM_ri rfl (⟨_, rfl, h⟩)
                · replace h := h.2 h22
                  refine pM_aln rfl rfl rfl ?_
                  refine pM_bi rfl kb_10 ?_
                  refine pM_iln rfl rfl ?_
                  refine pM_add rfl ?_
                  refine pM_ic rfl ki_0 ?_
                  refine pM_bi rfl kb_99 ?_
                  refine pM_qRi (as := [.inr (.inl (some 190)), .inl (.inl (10 + r20)), .inl (.inl 0), .inl (.inl 99)]) (T := []) rfl rfl (fun C hC => cl_v hC rfl rfl rfl rfl) rfl (q_m_readNumber  h) (fun r23 M24 h => ?_)
                  refine pM_zeq rfl rfl (fun h25 => ?_) (fun h25 => ?_)
                  · replace h := h.1 h25
                    refine pM_ic rfl ki_0 ?_
                    exact pM_ri rfl (⟨_, rfl, h⟩)
                  · replace h := h.2 h25
                    refine pM_ic rfl ki_1 ?_
                    refine pM_go rfl rfl ?_
                    exact pM_ri rfl (⟨_, rfl, h⟩)
              · replace h := h.1 h19
                refine pM_ic rfl ki_0 ?_
                exact pM_ri rfl (⟨_, rfl, h⟩)
            · replace h := h.2 h16
              refine pM_aln rfl rfl rfl ?_
              refine pM_qRi (as := [.inr (.inl (some 190))]) (T := []) rfl rfl (fun C hC => cl_v hC rfl rfl rfl rfl) rfl (q_m_readSeen  h) (fun r26 M27 h => ?_)
              exact pM_ri rfl (⟨_, rfl, h⟩)
          · replace h := h.2 h13
            refine pM_aln rfl rfl rfl ?_
            refine pM_qRi (as := [.inr (.inl (some 190))]) (T := []) rfl rfl (fun C hC => cl_v hC rfl rfl rfl rfl) rfl (q_m_readWed  h) (fun r28 M29 h => ?_)
            exact pM_ri rfl (⟨_, rfl, h⟩)
        · replace h := h.2 h10
          refine pM_aln rfl rfl rfl ?_
          refine pM_bi rfl kb_8 ?_
          refine pM_ic rfl ki_1 ?_
          refine pM_bi rfl kb_30 ?_
          refine pM_qRi (as := [.inr (.inl (some 190)), .inl (.inl 8), .inl (.inl 1), .inl (.inl 30)]) (T := []) rfl rfl (fun C hC => cl_v hC rfl rfl rfl rfl) rfl (q_m_readNumber  h) (fun r30 M31 h => ?_)
          exact pM_ri rfl (⟨_, rfl, h⟩)
      · replace h := h.2 h7
        refine pM_aln rfl rfl rfl ?_
        refine pM_bi rfl kb_7 ?_
        refine pM_ic rfl ki_0 ?_
        refine pM_bi rfl kb_100 ?_
        refine pM_qRi (as := [.inr (.inl (some 190)), .inl (.inl 7), .inl (.inl 0), .inl (.inl 100)]) (T := []) rfl rfl (fun C hC => cl_v hC rfl rfl rfl rfl) rfl (q_m_readNumber  h) (fun r32 M33 h => ?_)
        exact pM_ri rfl (⟨_, rfl, h⟩)
    · replace h := h.2 h4
      refine pM_aln rfl rfl rfl ?_
      refine pM_qRi (as := [.inr (.inl (some 190))]) (T := []) rfl rfl (fun C hC => cl_v hC rfl rfl rfl rfl) rfl (q_m_readCitizen  h) (fun r34 M35 h => ?_)
      exact pM_ri rfl (⟨_, rfl, h⟩)
  · replace h := h.1 h1
    refine pM_ic rfl ki_0 ?_
    exact pM_ri rfl (⟨_, rfl, h⟩)
/-- 241: EarCodeModel.readLine(ZI)Z -/
def W_m_readLine (p1 : Int32) (p2 : Int32) (N : Nat) (M : MM) (Q : Int32 → MM → Prop) : Prop :=
  W_m_letters  N M (fun M2 =>
    ((p1 = 0 →
      W_m_readRepublicLine p2 N M2 (fun r4 M5 =>
        Q r4 M5)) ∧
     (¬ p1 = 0 →
      W_m_readClause p2 N M2 (fun r6 M7 =>
        Q r6 M7))))
theorem q_m_readLine {X : Option (List AI)} {N : Nat} {M : MM} {p1 : Int32} {p2 : Int32} {Q : Int32 → MM → Prop}  (h : W_m_readLine p1 p2 N M Q) : pM X N 241 0 (ea_ar 0 [.inr (.inl (some 190)), .inl (.inl p1), .inl (.inl p2)]) [] M (Ri Q) := by
  refine pM_w (F2 := [(0, .inr (.inl (some 190))), (1, .inl (.inl p1)), (2, .inl (.inl p2))]) (fun L hL => lo_cons (lo_lk hL rfl) (lo_cons (lo_lk hL rfl) (lo_cons (lo_lk hL rfl) lo_nil))) ?_
  refine pM_aln rfl rfl rfl ?_
  refine pM_qRu (as := [.inr (.inl (some 190))]) (T := []) rfl rfl (fun C hC => cl_v hC rfl rfl rfl rfl) rfl (q_m_letters  h) (fun M2 h => ?_)
  refine pM_iln rfl rfl ?_
  refine pM_zeq rfl rfl (fun h3 => ?_) (fun h3 => ?_)
  · replace h := h.1 h3
    refine pM_aln rfl rfl rfl ?_
    refine pM_iln rfl rfl ?_
    refine pM_qRi (as := [.inr (.inl (some 190)), .inl (.inl p2)]) (T := []) rfl rfl (fun C hC => cl_v hC rfl rfl rfl rfl) rfl (q_m_readRepublicLine  h) (fun r4 M5 h => ?_)
    exact pM_ri rfl (⟨_, rfl, h⟩)
  · replace h := h.2 h3
    refine pM_aln rfl rfl rfl ?_
    refine pM_iln rfl rfl ?_
    refine pM_qRi (as := [.inr (.inl (some 190)), .inl (.inl p2)]) (T := []) rfl rfl (fun C hC => cl_v hC rfl rfl rfl rfl) rfl (q_m_readClause  h) (fun r6 M7 h => ?_)
    refine pM_go rfl rfl ?_
    exact pM_ri rfl (⟨_, rfl, h⟩)
