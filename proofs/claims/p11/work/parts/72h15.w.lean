/-! WHAT EACH METHOD COMES TO (gw.py) -/
def B_m_readAll_28 (p1 : Int32) (Q : Int32 → MM → Prop) (N : Nat) (ih : Int32 → MM → Prop) (v2 : Int32) (M : MM) : Prop :=
  W_m_readLine p1 v2 N M (fun r6 M7 =>
    ((r6 = 0 →
      Q (-1) M7) ∧
     (¬ r6 = 0 →
      W_m_blanks  N M7 (fun M10 =>
        (((M10.1 190 19) = (M10.1 190 20) →
          Q (v2 + 1) M10) ∧
         (¬ (M10.1 190 19) = (M10.1 190 20) →
          (((V_m_isAt 59 59 M10) = 0 →
            Q (-1) M10) ∧
           (¬ (V_m_isAt 59 59 M10) = 0 →
            ih (v2 + 1) (wi M10 190 19 ((M10.1 190 19) + 1))))))))))
def W_m_readAll_28 (p1 : Int32) (Q : Int32 → MM → Prop) : Nat → Int32 → MM → Prop
  | 0, _, _ => True
  | N + 1, v2, M => B_m_readAll_28 p1 Q N (W_m_readAll_28 p1 Q N) v2 M
theorem I_m_readAll_28 (p1 : Int32) (Q : Int32 → MM → Prop) (inv : Int32 → MM → Prop) (hs : ∀ (N : Nat) (ih : Int32 → MM → Prop) (v2 : Int32) (M : MM), (∀ (v2 : Int32) (M : MM), inv v2 M → ih v2 M) → inv v2 M → B_m_readAll_28 p1 Q N ih v2 M) : ∀ (N : Nat) (v2 : Int32) (M : MM), inv v2 M → W_m_readAll_28 p1 Q N v2 M := by
  intro N
  induction N with
  | zero => intros; trivial
  | succ N IH =>
    intro v2 M h
    exact hs N _ v2 M IH h
theorem q_m_readAll_28 {X : Option (List AI)} {N0 : Nat} {p1 : Int32} {Q : Int32 → MM → Prop}   : ∀ (N : Nat), N ≤ N0 → ∀ (v2 : Int32) (M : MM), W_m_readAll_28 p1 Q N v2 M → pM X N 242 28 [(0, .inr (.inl (some 190))), (1, .inl (.inl p1)), (2, .inl (.inl v2))] [] M (Ri Q) := by
  intro N
  induction N with
  | zero => intros; exact pM_zero
  | succ N IH =>
    intro hN v2 M h
    replace hN := Nat.le_of_succ_le hN
    replace h : B_m_readAll_28 p1 Q N (W_m_readAll_28 p1 Q N) v2 M := h
    refine pM_s (pMs_aln rfl rfl rfl ?_)
    refine pM_iln rfl rfl ?_
    refine pM_iln rfl rfl ?_
    refine pM_qRi (as := [.inr (.inl (some 190)), .inl (.inl p1), .inl (.inl v2)]) (T := []) rfl rfl (fun C hC => cl_v hC rfl rfl rfl rfl) rfl (q_m_readLine  h) (fun r6 M7 h => ?_)
    refine pM_zne rfl rfl (fun h8 => ?_) (fun h8 => ?_)
    · replace h := h.2 h8
      refine pM_aln rfl rfl rfl ?_
      refine pM_qRu (as := [.inr (.inl (some 190))]) (T := []) rfl rfl (fun C hC => cl_v hC rfl rfl rfl rfl) rfl (q_m_blanks  h) (fun M10 h => ?_)
      refine pM_aln rfl rfl rfl ?_
      refine pM_gi rfl rfl rfl rfl ?_
      refine pM_aln rfl rfl rfl ?_
      refine pM_gi rfl rfl rfl rfl ?_
      refine pM_cne rfl rfl (fun h11 => ?_) (fun h11 => ?_)
      · replace h := h.2 h11
        refine pM_aln rfl rfl rfl ?_
        refine pM_bi rfl kb_59 ?_
        refine pM_bi rfl kb_59 ?_
        refine pM_qVi (as := [.inr (.inl (some 190)), .inl (.inl 59), .inl (.inl 59)]) (T := []) rfl rfl (fun C hC => cl_v hC rfl rfl rfl rfl) rfl (q_m_isAt ) ?_
        refine pM_zne rfl rfl (fun h12 => ?_) (fun h12 => ?_)
        · replace h := h.2 h12
          refine pM_aln rfl rfl rfl ?_
          refine pM_p (pc' := 73) (S' := [.inr (.inl (some 190)), .inr (.inl (some 190))]) rfl rfl (fun _ => rfl) ?_
          refine pM_gi rfl rfl rfl rfl ?_
          refine pM_ic rfl ki_1 ?_
          refine pM_add rfl ?_
          refine pM_pi rfl rfl rfl rfl ?_
          refine pM_ii rfl rfl rfl ki_1 ?_
          refine pM_go rfl rfl ?_
          refine pM_w (F2 := [(0, .inr (.inl (some 190))), (1, .inl (.inl p1)), (2, .inl (.inl (v2 + 1)))]) (fun L hL => lo_cons (lo_lk hL rfl) (lo_cons (lo_lk hL rfl) (lo_cons (lo_lk hL rfl) lo_nil))) ?_
          exact IH hN (v2 + 1) (wi M10 190 19 ((M10.1 190 19) + 1)) h
        · replace h := h.1 h12
          refine pM_ic rfl ki_m1 ?_
          exact pM_ri rfl (⟨_, rfl, h⟩)
      · replace h := h.1 h11
        refine pM_iln rfl rfl ?_
        refine pM_ic rfl ki_1 ?_
        refine pM_add rfl ?_
        exact pM_ri rfl (⟨_, rfl, h⟩)
    · replace h := h.1 h8
      refine pM_ic rfl ki_m1 ?_
      exact pM_ri rfl (⟨_, rfl, h⟩)
/-- 242: EarCodeModel.readAll(Z)I -/
def W_m_readAll (p1 : Int32) (N : Nat) (M : MM) (Q : Int32 → MM → Prop) : Prop :=
  W_m_uses  N M (fun M2 =>
    W_m_blanks  N (wi M2 190 25 0) (fun M4 =>
      (((M4.1 190 19) = (M4.1 190 20) →
        Q 0 M4) ∧
       (¬ (M4.1 190 19) = (M4.1 190 20) →
        W_m_readAll_28 p1 Q N 0 M4))))
theorem q_m_readAll {X : Option (List AI)} {N : Nat} {M : MM} {p1 : Int32} {Q : Int32 → MM → Prop}  (h : W_m_readAll p1 N M Q) : pM X N 242 0 (ea_ar 0 [.inr (.inl (some 190)), .inl (.inl p1)]) [] M (Ri Q) := by
  refine pM_w (F2 := [(0, .inr (.inl (some 190))), (1, .inl (.inl p1))]) (fun L hL => lo_cons (lo_lk hL rfl) (lo_cons (lo_lk hL rfl) lo_nil)) ?_
  refine pM_aln rfl rfl rfl ?_
  refine pM_qRu (as := [.inr (.inl (some 190))]) (T := []) rfl rfl (fun C hC => cl_v hC rfl rfl rfl rfl) rfl (q_m_uses  h) (fun M2 h => ?_)
  refine pM_aln rfl rfl rfl ?_
  refine pM_ic rfl ki_0 ?_
  refine pM_pi rfl rfl rfl rfl ?_
  refine pM_aln rfl rfl rfl ?_
  refine pM_qRu (as := [.inr (.inl (some 190))]) (T := []) rfl rfl (fun C hC => cl_v hC rfl rfl rfl rfl) rfl (q_m_blanks  h) (fun M4 h => ?_)
  refine pM_aln rfl rfl rfl ?_
  refine pM_gi rfl rfl rfl rfl ?_
  refine pM_aln rfl rfl rfl ?_
  refine pM_gi rfl rfl rfl rfl ?_
  refine pM_cne rfl rfl (fun h5 => ?_) (fun h5 => ?_)
  · replace h := h.2 h5
    refine pM_ic rfl ki_0 ?_
    refine pM_isn rfl rfl ?_
    refine pM_w (F2 := [(0, .inr (.inl (some 190))), (1, .inl (.inl p1)), (2, .inl (.inl 0))]) (fun L hL => lo_cons (lo_lk hL rfl) (lo_cons (lo_lk hL rfl) (lo_cons (lo_lk hL rfl) lo_nil))) ?_
    refine q_m_readAll_28   N (Nat.le_refl N) 0 M4 h
  · replace h := h.1 h5
    refine pM_ic rfl ki_0 ?_
    exact pM_ri rfl (⟨_, rfl, h⟩)
def B_m_code_2 (k29 : MM → Prop) (Q : Int32 → MM → Prop) (N : Nat) (ih : Int32 → MM → Prop) (v1 : Int32) (M : MM) : Prop :=
  ((v1 < 48 →
    ih (v1 + 1) (wi M 205 (ni v1) (M.1 201 (ni v1)))) ∧
   (¬ v1 < 48 →
    k29 M))
def W_m_code_2 (k29 : MM → Prop) (Q : Int32 → MM → Prop) : Nat → Int32 → MM → Prop
  | 0, _, _ => True
  | N + 1, v1, M => B_m_code_2 k29 Q N (W_m_code_2 k29 Q N) v1 M
theorem I_m_code_2 (k29 : MM → Prop) (Q : Int32 → MM → Prop) (inv : Int32 → MM → Prop) (hs : ∀ (N : Nat) (ih : Int32 → MM → Prop) (v1 : Int32) (M : MM), (∀ (v1 : Int32) (M : MM), inv v1 M → ih v1 M) → inv v1 M → B_m_code_2 k29 Q N ih v1 M) : ∀ (N : Nat) (v1 : Int32) (M : MM), inv v1 M → W_m_code_2 k29 Q N v1 M := by
  intro N
  induction N with
  | zero => intros; trivial
  | succ N IH =>
    intro v1 M h
    exact hs N _ v1 M IH h
theorem q_m_code_2 {X : Option (List AI)} {N0 : Nat} {k29 : MM → Prop} {Q : Int32 → MM → Prop}  (hk29 : ∀  (M : MM), k29 M → pM X N0 243 29 [(0, .inr (.inl (some 190)))] [] M (Ri Q)) : ∀ (N : Nat), N ≤ N0 → ∀ (v1 : Int32) (M : MM), W_m_code_2 k29 Q N v1 M → pM X N 243 2 [(0, .inr (.inl (some 190))), (1, .inl (.inl v1))] [] M (Ri Q) := by
  intro N
  induction N with
  | zero => intros; exact pM_zero
  | succ N IH =>
    intro hN v1 M h
    replace hN := Nat.le_of_succ_le hN
    replace h : B_m_code_2 k29 Q N (W_m_code_2 k29 Q N) v1 M := h
    refine pM_s (pMs_iln rfl rfl ?_)
    refine pM_aln rfl rfl rfl ?_
    refine pM_gr rfl rfl rfl rfl ?_
    refine pM_len rfl rfl kn_48 ?_
    refine pM_cge rfl rfl (fun h1 => ?_) (fun h1 => ?_)
    · replace h := h.2 h1
      refine pM_w (F2 := [(0, .inr (.inl (some 190)))]) (fun L hL => lo_cons (lo_lk hL rfl) lo_nil) ?_
      exact pM_le hN (hk29 _ h)
    · replace h := h.1 h1
      refine pM_aln rfl rfl rfl ?_
      refine pM_gr rfl rfl rfl rfl ?_
      refine pM_iln rfl rfl ?_
      refine pM_aln rfl rfl rfl ?_
      refine pM_gr rfl rfl rfl rfl ?_
      refine pM_iln rfl rfl ?_
      refine pM_ai rfl rfl (one_p _) ?_
      refine pM_sa rfl rfl (one_p _) ?_
      refine pM_ii rfl rfl rfl ki_1 ?_
      refine pM_go rfl rfl ?_
      refine pM_w (F2 := [(0, .inr (.inl (some 190))), (1, .inl (.inl (v1 + 1)))]) (fun L hL => lo_cons (lo_lk hL rfl) (lo_cons (lo_lk hL rfl) lo_nil)) ?_
      exact IH hN (v1 + 1) (wi M 205 (ni v1) (M.1 201 (ni v1))) h
def B_m_code_31 (k58 : MM → Prop) (Q : Int32 → MM → Prop) (N : Nat) (ih : Int32 → MM → Prop) (v1 : Int32) (M : MM) : Prop :=
  ((v1 < 800 →
    ih (v1 + 1) (wi M 206 (ni v1) (M.1 202 (ni v1)))) ∧
   (¬ v1 < 800 →
    k58 M))
def W_m_code_31 (k58 : MM → Prop) (Q : Int32 → MM → Prop) : Nat → Int32 → MM → Prop
  | 0, _, _ => True
  | N + 1, v1, M => B_m_code_31 k58 Q N (W_m_code_31 k58 Q N) v1 M
theorem I_m_code_31 (k58 : MM → Prop) (Q : Int32 → MM → Prop) (inv : Int32 → MM → Prop) (hs : ∀ (N : Nat) (ih : Int32 → MM → Prop) (v1 : Int32) (M : MM), (∀ (v1 : Int32) (M : MM), inv v1 M → ih v1 M) → inv v1 M → B_m_code_31 k58 Q N ih v1 M) : ∀ (N : Nat) (v1 : Int32) (M : MM), inv v1 M → W_m_code_31 k58 Q N v1 M := by
  intro N
  induction N with
  | zero => intros; trivial
  | succ N IH =>
    intro v1 M h
    exact hs N _ v1 M IH h
theorem q_m_code_31 {X : Option (List AI)} {N0 : Nat} {k58 : MM → Prop} {Q : Int32 → MM → Prop}  (hk58 : ∀  (M : MM), k58 M → pM X N0 243 58 [(0, .inr (.inl (some 190)))] [] M (Ri Q)) : ∀ (N : Nat), N ≤ N0 → ∀ (v1 : Int32) (M : MM), W_m_code_31 k58 Q N v1 M → pM X N 243 31 [(0, .inr (.inl (some 190))), (1, .inl (.inl v1))] [] M (Ri Q) := by
  intro N
  induction N with
  | zero => intros; exact pM_zero
  | succ N IH =>
    intro hN v1 M h
    replace hN := Nat.le_of_succ_le hN
    replace h : B_m_code_31 k58 Q N (W_m_code_31 k58 Q N) v1 M := h
    refine pM_s (pMs_iln rfl rfl ?_)
    refine pM_aln rfl rfl rfl ?_
    refine pM_gr rfl rfl rfl rfl ?_
    refine pM_len rfl rfl kn_800 ?_
    refine pM_cge rfl rfl (fun h3 => ?_) (fun h3 => ?_)
    · replace h := h.2 h3
      refine pM_w (F2 := [(0, .inr (.inl (some 190)))]) (fun L hL => lo_cons (lo_lk hL rfl) lo_nil) ?_
      exact pM_le hN (hk58 _ h)
    · replace h := h.1 h3
      refine pM_aln rfl rfl rfl ?_
      refine pM_gr rfl rfl rfl rfl ?_
      refine pM_iln rfl rfl ?_
      refine pM_aln rfl rfl rfl ?_
      refine pM_gr rfl rfl rfl rfl ?_
      refine pM_iln rfl rfl ?_
      refine pM_ai rfl rfl (one_p _) ?_
      refine pM_sa rfl rfl (one_p _) ?_
      refine pM_ii rfl rfl rfl ki_1 ?_
      refine pM_go rfl rfl ?_
      refine pM_w (F2 := [(0, .inr (.inl (some 190))), (1, .inl (.inl (v1 + 1)))]) (fun L hL => lo_cons (lo_lk hL rfl) (lo_cons (lo_lk hL rfl) lo_nil)) ?_
      exact IH hN (v1 + 1) (wi M 206 (ni v1) (M.1 202 (ni v1))) h
def B_m_code_126 (k153 : MM → Prop) (Q : Int32 → MM → Prop) (N : Nat) (ih : Int32 → MM → Prop) (v2 : Int32) (M : MM) : Prop :=
  ((v2 < 48 →
    ih (v2 + 1) (wi M 201 (ni v2) (M.1 205 (ni v2)))) ∧
   (¬ v2 < 48 →
    k153 M))
def W_m_code_126 (k153 : MM → Prop) (Q : Int32 → MM → Prop) : Nat → Int32 → MM → Prop
  | 0, _, _ => True
  | N + 1, v2, M => B_m_code_126 k153 Q N (W_m_code_126 k153 Q N) v2 M
theorem I_m_code_126 (k153 : MM → Prop) (Q : Int32 → MM → Prop) (inv : Int32 → MM → Prop) (hs : ∀ (N : Nat) (ih : Int32 → MM → Prop) (v2 : Int32) (M : MM), (∀ (v2 : Int32) (M : MM), inv v2 M → ih v2 M) → inv v2 M → B_m_code_126 k153 Q N ih v2 M) : ∀ (N : Nat) (v2 : Int32) (M : MM), inv v2 M → W_m_code_126 k153 Q N v2 M := by
  intro N
  induction N with
  | zero => intros; trivial
  | succ N IH =>
    intro v2 M h
    exact hs N _ v2 M IH h
theorem q_m_code_126 {X : Option (List AI)} {N0 : Nat} {k153 : MM → Prop} {Q : Int32 → MM → Prop}  (hk153 : ∀  (M : MM), k153 M → pM X N0 243 153 [(0, .inr (.inl (some 190)))] [] M (Ri Q)) : ∀ (N : Nat), N ≤ N0 → ∀ (v2 : Int32) (M : MM), W_m_code_126 k153 Q N v2 M → pM X N 243 126 [(0, .inr (.inl (some 190))), (2, .inl (.inl v2))] [] M (Ri Q) := by
  intro N
  induction N with
  | zero => intros; exact pM_zero
  | succ N IH =>
    intro hN v2 M h
    replace hN := Nat.le_of_succ_le hN
    replace h : B_m_code_126 k153 Q N (W_m_code_126 k153 Q N) v2 M := h
    refine pM_s (pMs_iln rfl rfl ?_)
    refine pM_aln rfl rfl rfl ?_
    refine pM_gr rfl rfl rfl rfl ?_
    refine pM_len rfl rfl kn_48 ?_
    refine pM_cge rfl rfl (fun h17 => ?_) (fun h17 => ?_)
    · replace h := h.2 h17
      refine pM_w (F2 := [(0, .inr (.inl (some 190)))]) (fun L hL => lo_cons (lo_lk hL rfl) lo_nil) ?_
      exact pM_le hN (hk153 _ h)
    · replace h := h.1 h17
      refine pM_aln rfl rfl rfl ?_
      refine pM_gr rfl rfl rfl rfl ?_
      refine pM_iln rfl rfl ?_
      refine pM_aln rfl rfl rfl ?_
      refine pM_gr rfl rfl rfl rfl ?_
      refine pM_iln rfl rfl ?_
      refine pM_ai rfl rfl (one_p _) ?_
      refine pM_sa rfl rfl (one_p _) ?_
      refine pM_ii rfl rfl rfl ki_1 ?_
      refine pM_go rfl rfl ?_
      refine pM_w (F2 := [(0, .inr (.inl (some 190))), (2, .inl (.inl (v2 + 1)))]) (fun L hL => lo_cons (lo_lk hL rfl) (lo_cons (lo_lk hL rfl) lo_nil)) ?_
      exact IH hN (v2 + 1) (wi M 201 (ni v2) (M.1 205 (ni v2))) h
def B_m_code_155 (Q : Int32 → MM → Prop) (N : Nat) (ih : Int32 → MM → Prop) (v2 : Int32) (M : MM) : Prop :=
  ((v2 < 800 →
    ih (v2 + 1) (wi M 202 (ni v2) (M.1 206 (ni v2)))) ∧
   (¬ v2 < 800 →
    Q 0 M))
def W_m_code_155 (Q : Int32 → MM → Prop) : Nat → Int32 → MM → Prop
  | 0, _, _ => True
  | N + 1, v2, M => B_m_code_155 Q N (W_m_code_155 Q N) v2 M
theorem I_m_code_155 (Q : Int32 → MM → Prop) (inv : Int32 → MM → Prop) (hs : ∀ (N : Nat) (ih : Int32 → MM → Prop) (v2 : Int32) (M : MM), (∀ (v2 : Int32) (M : MM), inv v2 M → ih v2 M) → inv v2 M → B_m_code_155 Q N ih v2 M) : ∀ (N : Nat) (v2 : Int32) (M : MM), inv v2 M → W_m_code_155 Q N v2 M := by
  intro N
  induction N with
  | zero => intros; trivial
  | succ N IH =>
    intro v2 M h
    exact hs N _ v2 M IH h
theorem q_m_code_155 {X : Option (List AI)} {N0 : Nat} {Q : Int32 → MM → Prop}   : ∀ (N : Nat), N ≤ N0 → ∀ (v2 : Int32) (M : MM), W_m_code_155 Q N v2 M → pM X N 243 155 [(0, .inr (.inl (some 190))), (2, .inl (.inl v2))] [] M (Ri Q) := by
  intro N
  induction N with
  | zero => intros; exact pM_zero
  | succ N IH =>
    intro hN v2 M h
    replace hN := Nat.le_of_succ_le hN
    replace h : B_m_code_155 Q N (W_m_code_155 Q N) v2 M := h
    refine pM_s (pMs_iln rfl rfl ?_)
    refine pM_aln rfl rfl rfl ?_
    refine pM_gr rfl rfl rfl rfl ?_
    refine pM_len rfl rfl kn_800 ?_
    refine pM_cge rfl rfl (fun h19 => ?_) (fun h19 => ?_)
    · replace h := h.2 h19
      refine pM_ic rfl ki_0 ?_
      exact pM_ri rfl (⟨_, rfl, h⟩)
    · replace h := h.1 h19
      refine pM_aln rfl rfl rfl ?_
      refine pM_gr rfl rfl rfl rfl ?_
      refine pM_iln rfl rfl ?_
      refine pM_aln rfl rfl rfl ?_
      refine pM_gr rfl rfl rfl rfl ?_
      refine pM_iln rfl rfl ?_
      refine pM_ai rfl rfl (one_p _) ?_
      refine pM_sa rfl rfl (one_p _) ?_
      refine pM_ii rfl rfl rfl ki_1 ?_
      refine pM_go rfl rfl ?_
      refine pM_w (F2 := [(0, .inr (.inl (some 190))), (2, .inl (.inl (v2 + 1)))]) (fun L hL => lo_cons (lo_lk hL rfl) (lo_cons (lo_lk hL rfl) lo_nil)) ?_
      exact IH hN (v2 + 1) (wi M 202 (ni v2) (M.1 206 (ni v2))) h
/-- 243: EarCodeModel.code()I -/
def W_m_code  (N : Nat) (M : MM) (Q : Int32 → MM → Prop) : Prop :=
  W_m_code_2 (fun M2 =>
    W_m_code_31 (fun M4 =>
      W_m_readAll 1 N M4 (fun r5 M6 =>
        ((r5 < 0 →
          ((r5 < 0 →
            W_m_throwsIf 1 1 N (wi M6 190 23 (M6.1 190 21)) (fun r9 M10 =>
              ((r9 = 0 →
                (((M10.1 190 15) < 0 →
                  ((0 < (V_m_citizens  M10) →
                    W_m_throwsIf 1 2 N M10 (fun r14 M15 =>
                      ((r14 = 0 →
                        Q r5 (wi (wi M15 190 15 r5) 190 12 0)) ∧
                       (¬ r14 = 0 →
                        W_m_code_126 (fun M18 =>
                          W_m_code_155 Q N 0 M18) Q N 0 M15)))) ∧
                   (¬ 0 < (V_m_citizens  M10) →
                    W_m_throwsIf 0 2 N M10 (fun r20 M21 =>
                      ((r20 = 0 →
                        Q r5 (wi (wi M21 190 15 r5) 190 12 0)) ∧
                       (¬ r20 = 0 →
                        W_m_code_126 (fun M23 =>
                          W_m_code_155 Q N 0 M23) Q N 0 M21)))))) ∧
                 (¬ (M10.1 190 15) < 0 →
                  W_m_throwsIf 1 2 N M10 (fun r24 M25 =>
                    ((r24 = 0 →
                      Q r5 (wi (wi M25 190 15 r5) 190 12 0)) ∧
                     (¬ r24 = 0 →
                      W_m_code_126 (fun M27 =>
                        W_m_code_155 Q N 0 M27) Q N 0 M25)))))) ∧
               (¬ r9 = 0 →
                W_m_code_126 (fun M28 =>
                  W_m_code_155 Q N 0 M28) Q N 0 M10)))) ∧
           (¬ r5 < 0 →
            W_m_throwsIf 0 1 N (wi M6 190 23 (M6.1 190 21)) (fun r29 M30 =>
              ((r29 = 0 →
                (((M30.1 190 15) < 0 →
                  ((0 < (V_m_citizens  M30) →
                    W_m_throwsIf 1 2 N M30 (fun r34 M35 =>
                      ((r34 = 0 →
                        Q r5 (wi (wi M35 190 15 r5) 190 12 0)) ∧
                       (¬ r34 = 0 →
                        W_m_code_126 (fun M37 =>
                          W_m_code_155 Q N 0 M37) Q N 0 M35)))) ∧
                   (¬ 0 < (V_m_citizens  M30) →
                    W_m_throwsIf 0 2 N M30 (fun r38 M39 =>
                      ((r38 = 0 →
                        Q r5 (wi (wi M39 190 15 r5) 190 12 0)) ∧
                       (¬ r38 = 0 →
                        W_m_code_126 (fun M41 =>
                          W_m_code_155 Q N 0 M41) Q N 0 M39)))))) ∧
                 (¬ (M30.1 190 15) < 0 →
                  W_m_throwsIf 1 2 N M30 (fun r42 M43 =>
                    ((r42 = 0 →
                      Q r5 (wi (wi M43 190 15 r5) 190 12 0)) ∧
                     (¬ r42 = 0 →
                      W_m_code_126 (fun M45 =>
                        W_m_code_155 Q N 0 M45) Q N 0 M43)))))) ∧
               (¬ r29 = 0 →
                W_m_code_126 (fun M46 =>
                  W_m_code_155 Q N 0 M46) Q N 0 M30)))))) ∧
         (¬ r5 < 0 →
          ((r5 < 0 →
            W_m_throwsIf 1 1 N (wi M6 190 23 (-1)) (fun r48 M49 =>
              ((r48 = 0 →
                (((M49.1 190 15) < 0 →
                  ((0 < (V_m_citizens  M49) →
                    W_m_throwsIf 1 2 N M49 (fun r53 M54 =>
                      ((r53 = 0 →
                        Q r5 (wi (wi M54 190 15 r5) 190 12 0)) ∧
                       (¬ r53 = 0 →
                        W_m_code_126 (fun M56 =>
                          W_m_code_155 Q N 0 M56) Q N 0 M54)))) ∧
                   (¬ 0 < (V_m_citizens  M49) →
                    W_m_throwsIf 0 2 N M49 (fun r57 M58 =>
                      ((r57 = 0 →
                        Q r5 (wi (wi M58 190 15 r5) 190 12 0)) ∧
                       (¬ r57 = 0 →
                        W_m_code_126 (fun M60 =>
                          W_m_code_155 Q N 0 M60) Q N 0 M58)))))) ∧
                 (¬ (M49.1 190 15) < 0 →
                  W_m_throwsIf 1 2 N M49 (fun r61 M62 =>
                    ((r61 = 0 →
                      Q r5 (wi (wi M62 190 15 r5) 190 12 0)) ∧
                     (¬ r61 = 0 →
                      W_m_code_126 (fun M64 =>
                        W_m_code_155 Q N 0 M64) Q N 0 M62)))))) ∧
               (¬ r48 = 0 →
                W_m_code_126 (fun M65 =>
                  W_m_code_155 Q N 0 M65) Q N 0 M49)))) ∧
           (¬ r5 < 0 →
            W_m_throwsIf 0 1 N (wi M6 190 23 (-1)) (fun r66 M67 =>
              ((r66 = 0 →
                (((M67.1 190 15) < 0 →
                  ((0 < (V_m_citizens  M67) →
                    W_m_throwsIf 1 2 N M67 (fun r71 M72 =>
                      ((r71 = 0 →
                        Q r5 (wi (wi M72 190 15 r5) 190 12 0)) ∧
                       (¬ r71 = 0 →
                        W_m_code_126 (fun M74 =>
                          W_m_code_155 Q N 0 M74) Q N 0 M72)))) ∧
                   (¬ 0 < (V_m_citizens  M67) →
                    W_m_throwsIf 0 2 N M67 (fun r75 M76 =>
                      ((r75 = 0 →
                        Q r5 (wi (wi M76 190 15 r5) 190 12 0)) ∧
                       (¬ r75 = 0 →
                        W_m_code_126 (fun M78 =>
                          W_m_code_155 Q N 0 M78) Q N 0 M76)))))) ∧
                 (¬ (M67.1 190 15) < 0 →
                  W_m_throwsIf 1 2 N M67 (fun r79 M80 =>
                    ((r79 = 0 →
                      Q r5 (wi (wi M80 190 15 r5) 190 12 0)) ∧
                     (¬ r79 = 0 →
                      W_m_code_126 (fun M82 =>
                        W_m_code_155 Q N 0 M82) Q N 0 M80)))))) ∧
               (¬ r66 = 0 →
                W_m_code_126 (fun M83 =>
                  W_m_code_155 Q N 0 M83) Q N 0 M67))))))))) Q N 0 M2) Q N 0 M
theorem q_m_code {X : Option (List AI)} {N : Nat} {M : MM}  {Q : Int32 → MM → Prop}  (h : W_m_code  N M Q) : pM X N 243 0 (ea_ar 0 [.inr (.inl (some 190))]) [] M (Ri Q) := by
  refine pM_w (F2 := [(0, .inr (.inl (some 190)))]) (fun L hL => lo_cons (lo_lk hL rfl) lo_nil) ?_
  refine pM_ic rfl ki_0 ?_
  refine pM_isn rfl rfl ?_
  refine pM_w (F2 := [(0, .inr (.inl (some 190))), (1, .inl (.inl 0))]) (fun L hL => lo_cons (lo_lk hL rfl) (lo_cons (lo_lk hL rfl) lo_nil)) ?_
  refine q_m_code_2  (fun M2 h => ?_) N (Nat.le_refl N) 0 M h
  · refine pM_ic rfl ki_0 ?_
    refine pM_isn rfl rfl ?_
    refine pM_w (F2 := [(0, .inr (.inl (some 190))), (1, .inl (.inl 0))]) (fun L hL => lo_cons (lo_lk hL rfl) (lo_cons (lo_lk hL rfl) lo_nil)) ?_
    refine q_m_code_31  (fun M4 h => ?_) N (Nat.le_refl N) 0 M2 h
    · refine pM_aln rfl rfl rfl ?_
      refine pM_ic rfl ki_1 ?_
      refine pM_qRi (as := [.inr (.inl (some 190)), .inl (.inl 1)]) (T := []) rfl rfl (fun C hC => cl_v hC rfl rfl rfl rfl) rfl (q_m_readAll  h) (fun r5 M6 h => ?_)
      refine pM_isn rfl rfl ?_
      refine pM_aln rfl rfl rfl ?_
      refine pM_iln rfl rfl ?_
      refine pM_zge rfl rfl (fun h7 => ?_) (fun h7 => ?_)
      · replace h := h.2 h7
        refine pM_ic rfl ki_m1 ?_
        refine pM_pi rfl rfl rfl rfl ?_
        refine pM_aln rfl rfl rfl ?_
        refine pM_iln rfl rfl ?_
        refine pM_zge rfl rfl (fun h47 => ?_) (fun h47 => ?_)
        · replace h := h.2 h47
          refine pM_ic rfl ki_0 ?_
          refine pM_ic rfl ki_1 ?_
          refine pM_qRi (as := [.inr (.inl (some 190)), .inl (.inl 0), .inl (.inl 1)]) (T := []) rfl rfl (fun C hC => cl_v hC rfl rfl rfl rfl) rfl (q_m_throwsIf  h) (fun r66 M67 h => ?_)
          refine pM_zne rfl rfl (fun h68 => ?_) (fun h68 => ?_)
          · replace h := h.2 h68
            refine pM_ic rfl ki_0 ?_
            refine pM_isn rfl rfl ?_
            refine pM_w (F2 := [(0, .inr (.inl (some 190))), (2, .inl (.inl 0))]) (fun L hL => lo_cons (lo_lk hL rfl) (lo_cons (lo_lk hL rfl) lo_nil)) ?_
            refine q_m_code_126  (fun M83 h => ?_) N (Nat.le_refl N) 0 M67 h
            · refine pM_ic rfl ki_0 ?_
              refine pM_isn rfl rfl ?_
              refine pM_w (F2 := [(0, .inr (.inl (some 190))), (2, .inl (.inl 0))]) (fun L hL => lo_cons (lo_lk hL rfl) (lo_cons (lo_lk hL rfl) lo_nil)) ?_
              refine q_m_code_155   N (Nat.le_refl N) 0 M83 h
          · replace h := h.1 h68
            refine pM_aln rfl rfl rfl ?_
            refine pM_aln rfl rfl rfl ?_
            refine pM_gi rfl rfl rfl rfl ?_
            refine pM_zge rfl rfl (fun h69 => ?_) (fun h69 => ?_)
            · replace h := h.2 h69
              refine pM_ic rfl ki_1 ?_
              refine pM_go rfl rfl ?_
              refine pM_ic rfl ki_2 ?_
              refine pM_qRi (as := [.inr (.inl (some 190)), .inl (.inl 1), .inl (.inl 2)]) (T := []) rfl rfl (fun C hC => cl_v hC rfl rfl rfl rfl) rfl (q_m_throwsIf  h) (fun r79 M80 h => ?_)
              refine pM_zeq rfl rfl (fun h81 => ?_) (fun h81 => ?_)
              · replace h := h.1 h81
                refine pM_aln rfl rfl rfl ?_
                refine pM_iln rfl rfl ?_
                refine pM_pi rfl rfl rfl rfl ?_
                refine pM_aln rfl rfl rfl ?_
                refine pM_ic rfl ki_0 ?_
                refine pM_pi rfl rfl rfl rfl ?_
                refine pM_iln rfl rfl ?_
                exact pM_ri rfl (⟨_, rfl, h⟩)
              · replace h := h.2 h81
                refine pM_ic rfl ki_0 ?_
                refine pM_isn rfl rfl ?_
                refine pM_w (F2 := [(0, .inr (.inl (some 190))), (2, .inl (.inl 0))]) (fun L hL => lo_cons (lo_lk hL rfl) (lo_cons (lo_lk hL rfl) lo_nil)) ?_
                refine q_m_code_126  (fun M82 h => ?_) N (Nat.le_refl N) 0 M80 h
                · refine pM_ic rfl ki_0 ?_
                  refine pM_isn rfl rfl ?_
                  refine pM_w (F2 := [(0, .inr (.inl (some 190))), (2, .inl (.inl 0))]) (fun L hL => lo_cons (lo_lk hL rfl) (lo_cons (lo_lk hL rfl) lo_nil)) ?_
                  refine q_m_code_155   N (Nat.le_refl N) 0 M82 h
            · replace h := h.1 h69
              refine pM_aln rfl rfl rfl ?_
              refine pM_qVi (as := [.inr (.inl (some 190))]) (T := [.inr (.inl (some 190))]) rfl rfl (fun C hC => cl_v hC rfl rfl rfl rfl) rfl (q_m_citizens ) ?_
              refine pM_zle rfl rfl (fun h70 => ?_) (fun h70 => ?_)
              · replace h := h.2 h70
                refine pM_ic rfl ki_0 ?_
                refine pM_ic rfl ki_2 ?_
                refine pM_qRi (as := [.inr (.inl (some 190)), .inl (.inl 0), .inl (.inl 2)]) (T := []) rfl rfl (fun C hC => cl_v hC rfl rfl rfl rfl) rfl (q_m_throwsIf  h) (fun r75 M76 h => ?_)
                refine pM_zeq rfl rfl (fun h77 => ?_) (fun h77 => ?_)
                · replace h := h.1 h77
                  refine pM_aln rfl rfl rfl ?_
                  refine pM_iln rfl rfl ?_
                  refine pM_pi rfl rfl rfl rfl ?_
                  refine pM_aln rfl rfl rfl ?_
                  refine pM_ic rfl ki_0 ?_
                  refine pM_pi rfl rfl rfl rfl ?_
                  refine pM_iln rfl rfl ?_
                  exact pM_ri rfl (⟨_, rfl, h⟩)
                · replace h := h.2 h77
                  refine pM_ic rfl ki_0 ?_
                  refine pM_isn rfl rfl ?_
                  refine pM_w (F2 := [(0, .inr (.inl (some 190))), (2, .inl (.inl 0))]) (fun L hL => lo_cons (lo_lk hL rfl) (lo_cons (lo_lk hL rfl) lo_nil)) ?_
                  refine q_m_code_126  (fun M78 h => ?_) N (Nat.le_refl N) 0 M76 h
                  · refine pM_ic rfl ki_0 ?_
                    refine pM_isn rfl rfl ?_
                    refine pM_w (F2 := [(0, .inr (.inl (some 190))), (2, .inl (.inl 0))]) (fun L hL => lo_cons (lo_lk hL rfl) (lo_cons (lo_lk hL rfl) lo_nil)) ?_
                    refine q_m_code_155   N (Nat.le_refl N) 0 M78 h
              · replace h := h.1 h70
                refine pM_ic rfl ki_1 ?_
                refine pM_go rfl rfl ?_
                refine pM_ic rfl ki_2 ?_
                refine pM_qRi (as := [.inr (.inl (some 190)), .inl (.inl 1), .inl (.inl 2)]) (T := []) rfl rfl (fun C hC => cl_v hC rfl rfl rfl rfl) rfl (q_m_throwsIf  h) (fun r71 M72 h => ?_)
                refine pM_zeq rfl rfl (fun h73 => ?_) (fun h73 => ?_)
                · replace h := h.1 h73
                  refine pM_aln rfl rfl rfl ?_
                  refine pM_iln rfl rfl ?_
                  refine pM_pi rfl rfl rfl rfl ?_
                  refine pM_aln rfl rfl rfl ?_
                  refine pM_ic rfl ki_0 ?_
                  refine pM_pi rfl rfl rfl rfl ?_
                  refine pM_iln rfl rfl ?_
                  exact pM_ri rfl (⟨_, rfl, h⟩)
                · replace h := h.2 h73
                  refine pM_ic rfl ki_0 ?_
                  refine pM_isn rfl rfl ?_
                  refine pM_w (F2 := [(0, .inr (.inl (some 190))), (2, .inl (.inl 0))]) (fun L hL => lo_cons (lo_lk hL rfl) (lo_cons (lo_lk hL rfl) lo_nil)) ?_
                  refine q_m_code_126  (fun M74 h => ?_) N (Nat.le_refl N) 0 M72 h
                  · refine pM_ic rfl ki_0 ?_
                    refine pM_isn rfl rfl ?_
                    refine pM_w (F2 := [(0, .inr (.inl (some 190))), (2, .inl (.inl 0))]) (fun L hL => lo_cons (lo_lk hL rfl) (lo_cons (lo_lk hL rfl) lo_nil)) ?_
                    refine q_m_code_155   N (Nat.le_refl N) 0 M74 h
        · replace h := h.1 h47
          refine pM_ic rfl ki_1 ?_
          refine pM_go rfl rfl ?_
          refine pM_ic rfl ki_1 ?_
          refine pM_qRi (as := [.inr (.inl (some 190)), .inl (.inl 1), .inl (.inl 1)]) (T := []) rfl rfl (fun C hC => cl_v hC rfl rfl rfl rfl) rfl (q_m_throwsIf  h) (fun r48 M49 h => ?_)
          refine pM_zne rfl rfl (fun h50 => ?_) (fun h50 => ?_)
          · replace h := h.2 h50
            refine pM_ic rfl ki_0 ?_
            refine pM_isn rfl rfl ?_
            refine pM_w (F2 := [(0, .inr (.inl (some 190))), (2, .inl (.inl 0))]) (fun L hL => lo_cons (lo_lk hL rfl) (lo_cons (lo_lk hL rfl) lo_nil)) ?_
            refine q_m_code_126  (fun M65 h => ?_) N (Nat.le_refl N) 0 M49 h
            · refine pM_ic rfl ki_0 ?_
              refine pM_isn rfl rfl ?_
              refine pM_w (F2 := [(0, .inr (.inl (some 190))), (2, .inl (.inl 0))]) (fun L hL => lo_cons (lo_lk hL rfl) (lo_cons (lo_lk hL rfl) lo_nil)) ?_
              refine q_m_code_155   N (Nat.le_refl N) 0 M65 h
          · replace h := h.1 h50
            refine pM_aln rfl rfl rfl ?_
            refine pM_aln rfl rfl rfl ?_
            refine pM_gi rfl rfl rfl rfl ?_
            refine pM_zge rfl rfl (fun h51 => ?_) (fun h51 => ?_)
            · replace h := h.2 h51
              refine pM_ic rfl ki_1 ?_
              refine pM_go rfl rfl ?_
              refine pM_ic rfl ki_2 ?_
              refine pM_qRi (as := [.inr (.inl (some 190)), .inl (.inl 1), .inl (.inl 2)]) (T := []) rfl rfl (fun C hC => cl_v hC rfl rfl rfl rfl) rfl (q_m_throwsIf  h) (fun r61 M62 h => ?_)
              refine pM_zeq rfl rfl (fun h63 => ?_) (fun h63 => ?_)
              · replace h := h.1 h63
                refine pM_aln rfl rfl rfl ?_
                refine pM_iln rfl rfl ?_
                refine pM_pi rfl rfl rfl rfl ?_
                refine pM_aln rfl rfl rfl ?_
                refine pM_ic rfl ki_0 ?_
                refine pM_pi rfl rfl rfl rfl ?_
                refine pM_iln rfl rfl ?_
                exact pM_ri rfl (⟨_, rfl, h⟩)
              · replace h := h.2 h63
                refine pM_ic rfl ki_0 ?_
                refine pM_isn rfl rfl ?_
                refine pM_w (F2 := [(0, .inr (.inl (some 190))), (2, .inl (.inl 0))]) (fun L hL => lo_cons (lo_lk hL rfl) (lo_cons (lo_lk hL rfl) lo_nil)) ?_
                refine q_m_code_126  (fun M64 h => ?_) N (Nat.le_refl N) 0 M62 h
                · refine pM_ic rfl ki_0 ?_
                  refine pM_isn rfl rfl ?_
                  refine pM_w (F2 := [(0, .inr (.inl (some 190))), (2, .inl (.inl 0))]) (fun L hL => lo_cons (lo_lk hL rfl) (lo_cons (lo_lk hL rfl) lo_nil)) ?_
                  refine q_m_code_155   N (Nat.le_refl N) 0 M64 h
            · replace h := h.1 h51
              refine pM_aln rfl rfl rfl ?_
              refine pM_qVi (as := [.inr (.inl (some 190))]) (T := [.inr (.inl (some 190))]) rfl rfl (fun C hC => cl_v hC rfl rfl rfl rfl) rfl (q_m_citizens ) ?_
              refine pM_zle rfl rfl (fun h52 => ?_) (fun h52 => ?_)
              · replace h := h.2 h52
                refine pM_ic rfl ki_0 ?_
                refine pM_ic rfl ki_2 ?_
                refine pM_qRi (as := [.inr (.inl (some 190)), .inl (.inl 0), .inl (.inl 2)]) (T := []) rfl rfl (fun C hC => cl_v hC rfl rfl rfl rfl) rfl (q_m_throwsIf  h) (fun r57 M58 h => ?_)
                refine pM_zeq rfl rfl (fun h59 => ?_) (fun h59 => ?_)
                · replace h := h.1 h59
                  refine pM_aln rfl rfl rfl ?_
                  refine pM_iln rfl rfl ?_
                  refine pM_pi rfl rfl rfl rfl ?_
                  refine pM_aln rfl rfl rfl ?_
                  refine pM_ic rfl ki_0 ?_
                  refine pM_pi rfl rfl rfl rfl ?_
                  refine pM_iln rfl rfl ?_
                  exact pM_ri rfl (⟨_, rfl, h⟩)
                · replace h := h.2 h59
                  refine pM_ic rfl ki_0 ?_
                  refine pM_isn rfl rfl ?_
                  refine pM_w (F2 := [(0, .inr (.inl (some 190))), (2, .inl (.inl 0))]) (fun L hL => lo_cons (lo_lk hL rfl) (lo_cons (lo_lk hL rfl) lo_nil)) ?_
                  refine q_m_code_126  (fun M60 h => ?_) N (Nat.le_refl N) 0 M58 h
                  · refine pM_ic rfl ki_0 ?_
                    refine pM_isn rfl rfl ?_
                    refine pM_w (F2 := [(0, .inr (.inl (some 190))), (2, .inl (.inl 0))]) (fun L hL => lo_cons (lo_lk hL rfl) (lo_cons (lo_lk hL rfl) lo_nil)) ?_
                    refine q_m_code_155   N (Nat.le_refl N) 0 M60 h
              · replace h := h.1 h52
                refine pM_ic rfl ki_1 ?_
                refine pM_go rfl rfl ?_
                refine pM_ic rfl ki_2 ?_
                refine pM_qRi (as := [.inr (.inl (some 190)), .inl (.inl 1), .inl (.inl 2)]) (T := []) rfl rfl (fun C hC => cl_v hC rfl rfl rfl rfl) rfl (q_m_throwsIf  h) (fun r53 M54 h => ?_)
                refine pM_zeq rfl rfl (fun h55 => ?_) (fun h55 => ?_)
                · replace h := h.1 h55
                  refine pM_aln rfl rfl rfl ?_
                  refine pM_iln rfl rfl ?_
                  refine pM_pi rfl rfl rfl rfl ?_
                  refine pM_aln rfl rfl rfl ?_
                  refine pM_ic rfl ki_0 ?_
                  refine pM_pi rfl rfl rfl rfl ?_
                  refine pM_iln rfl rfl ?_
                  exact pM_ri rfl (⟨_, rfl, h⟩)
                · replace h := h.2 h55
                  refine pM_ic rfl ki_0 ?_
                  refine pM_isn rfl rfl ?_
                  refine pM_w (F2 := [(0, .inr (.inl (some 190))), (2, .inl (.inl 0))]) (fun L hL => lo_cons (lo_lk hL rfl) (lo_cons (lo_lk hL rfl) lo_nil)) ?_
                  refine q_m_code_126  (fun M56 h => ?_) N (Nat.le_refl N) 0 M54 h
                  · refine pM_ic rfl ki_0 ?_
                    refine pM_isn rfl rfl ?_
                    refine pM_w (F2 := [(0, .inr (.inl (some 190))), (2, .inl (.inl 0))]) (fun L hL => lo_cons (lo_lk hL rfl) (lo_cons (lo_lk hL rfl) lo_nil)) ?_
                    refine q_m_code_155   N (Nat.le_refl N) 0 M56 h
      · replace h := h.1 h7
        refine pM_aln rfl rfl rfl ?_
        refine pM_gi rfl rfl rfl rfl ?_
        refine pM_go rfl rfl ?_
        refine pM_pi rfl rfl rfl rfl ?_
        refine pM_aln rfl rfl rfl ?_
        refine pM_iln rfl rfl ?_
        refine pM_zge rfl rfl (fun h8 => ?_) (fun h8 => ?_)
        · replace h := h.2 h8
          refine pM_ic rfl ki_0 ?_
          refine pM_ic rfl ki_1 ?_
          refine pM_qRi (as := [.inr (.inl (some 190)), .inl (.inl 0), .inl (.inl 1)]) (T := []) rfl rfl (fun C hC => cl_v hC rfl rfl rfl rfl) rfl (q_m_throwsIf  h) (fun r29 M30 h => ?_)
          refine pM_zne rfl rfl (fun h31 => ?_) (fun h31 => ?_)
          · replace h := h.2 h31
            refine pM_ic rfl ki_0 ?_
            refine pM_isn rfl rfl ?_
            refine pM_w (F2 := [(0, .inr (.inl (some 190))), (2, .inl (.inl 0))]) (fun L hL => lo_cons (lo_lk hL rfl) (lo_cons (lo_lk hL rfl) lo_nil)) ?_
            refine q_m_code_126  (fun M46 h => ?_) N (Nat.le_refl N) 0 M30 h
            · refine pM_ic rfl ki_0 ?_
              refine pM_isn rfl rfl ?_
              refine pM_w (F2 := [(0, .inr (.inl (some 190))), (2, .inl (.inl 0))]) (fun L hL => lo_cons (lo_lk hL rfl) (lo_cons (lo_lk hL rfl) lo_nil)) ?_
              refine q_m_code_155   N (Nat.le_refl N) 0 M46 h
          · replace h := h.1 h31
            refine pM_aln rfl rfl rfl ?_
            refine pM_aln rfl rfl rfl ?_
            refine pM_gi rfl rfl rfl rfl ?_
            refine pM_zge rfl rfl (fun h32 => ?_) (fun h32 => ?_)
            · replace h := h.2 h32
              refine pM_ic rfl ki_1 ?_
              refine pM_go rfl rfl ?_
              refine pM_ic rfl ki_2 ?_
              refine pM_qRi (as := [.inr (.inl (some 190)), .inl (.inl 1), .inl (.inl 2)]) (T := []) rfl rfl (fun C hC => cl_v hC rfl rfl rfl rfl) rfl (q_m_throwsIf  h) (fun r42 M43 h => ?_)
              refine pM_zeq rfl rfl (fun h44 => ?_) (fun h44 => ?_)
              · replace h := h.1 h44
                refine pM_aln rfl rfl rfl ?_
                refine pM_iln rfl rfl ?_
                refine pM_pi rfl rfl rfl rfl ?_
                refine pM_aln rfl rfl rfl ?_
                refine pM_ic rfl ki_0 ?_
                refine pM_pi rfl rfl rfl rfl ?_
                refine pM_iln rfl rfl ?_
                exact pM_ri rfl (⟨_, rfl, h⟩)
              · replace h := h.2 h44
                refine pM_ic rfl ki_0 ?_
                refine pM_isn rfl rfl ?_
                refine pM_w (F2 := [(0, .inr (.inl (some 190))), (2, .inl (.inl 0))]) (fun L hL => lo_cons (lo_lk hL rfl) (lo_cons (lo_lk hL rfl) lo_nil)) ?_
                refine q_m_code_126  (fun M45 h => ?_) N (Nat.le_refl N) 0 M43 h
                · refine pM_ic rfl ki_0 ?_
                  refine pM_isn rfl rfl ?_
                  refine pM_w (F2 := [(0, .inr (.inl (some 190))), (2, .inl (.inl 0))]) (fun L hL => lo_cons (lo_lk hL rfl) (lo_cons (lo_lk hL rfl) lo_nil)) ?_
                  refine q_m_code_155   N (Nat.le_refl N) 0 M45 h
            · replace h := h.1 h32
              refine pM_aln rfl rfl rfl ?_
              refine pM_qVi (as := [.inr (.inl (some 190))]) (T := [.inr (.inl (some 190))]) rfl rfl (fun C hC => cl_v hC rfl rfl rfl rfl) rfl (q_m_citizens ) ?_
              refine pM_zle rfl rfl (fun h33 => ?_) (fun h33 => ?_)
              · replace h := h.2 h33
                refine pM_ic rfl ki_0 ?_
                refine pM_ic rfl ki_2 ?_
                refine pM_qRi (as := [.inr (.inl (some 190)), .inl (.inl 0), .inl (.inl 2)]) (T := []) rfl rfl (fun C hC => cl_v hC rfl rfl rfl rfl) rfl (q_m_throwsIf  h) (fun r38 M39 h => ?_)
                refine pM_zeq rfl rfl (fun h40 => ?_) (fun h40 => ?_)
                · replace h := h.1 h40
                  refine pM_aln rfl rfl rfl ?_
                  refine pM_iln rfl rfl ?_
                  refine pM_pi rfl rfl rfl rfl ?_
                  refine pM_aln rfl rfl rfl ?_
                  refine pM_ic rfl ki_0 ?_
                  refine pM_pi rfl rfl rfl rfl ?_
                  refine pM_iln rfl rfl ?_
                  exact pM_ri rfl (⟨_, rfl, h⟩)
                · replace h := h.2 h40
                  refine pM_ic rfl ki_0 ?_
                  refine pM_isn rfl rfl ?_
                  refine pM_w (F2 := [(0, .inr (.inl (some 190))), (2, .inl (.inl 0))]) (fun L hL => lo_cons (lo_lk hL rfl) (lo_cons (lo_lk hL rfl) lo_nil)) ?_
                  refine q_m_code_126  (fun M41 h => ?_) N (Nat.le_refl N) 0 M39 h
                  · refine pM_ic rfl ki_0 ?_
                    refine pM_isn rfl rfl ?_
                    refine pM_w (F2 := [(0, .inr (.inl (some 190))), (2, .inl (.inl 0))]) (fun L hL => lo_cons (lo_lk hL rfl) (lo_cons (lo_lk hL rfl) lo_nil)) ?_
                    refine q_m_code_155   N (Nat.le_refl N) 0 M41 h
              · replace h := h.1 h33
                refine pM_ic rfl ki_1 ?_
                refine pM_go rfl rfl ?_
                refine pM_ic rfl ki_2 ?_
                refine pM_qRi (as := [.inr (.inl (some 190)), .inl (.inl 1), .inl (.inl 2)]) (T := []) rfl rfl (fun C hC => cl_v hC rfl rfl rfl rfl) rfl (q_m_throwsIf  h) (fun r34 M35 h => ?_)
                refine pM_zeq rfl rfl (fun h36 => ?_) (fun h36 => ?_)
                · replace h := h.1 h36
                  refine pM_aln rfl rfl rfl ?_
                  refine pM_iln rfl rfl ?_
                  refine pM_pi rfl rfl rfl rfl ?_
                  refine pM_aln rfl rfl rfl ?_
                  refine pM_ic rfl ki_0 ?_
                  refine pM_pi rfl rfl rfl rfl ?_
                  refine pM_iln rfl rfl ?_
                  exact pM_ri rfl (⟨_, rfl, h⟩)
                · replace h := h.2 h36
                  refine pM_ic rfl ki_0 ?_
                  refine pM_isn rfl rfl ?_
                  refine pM_w (F2 := [(0, .inr (.inl (some 190))), (2, .inl (.inl 0))]) (fun L hL => lo_cons (lo_lk hL rfl) (lo_cons (lo_lk hL rfl) lo_nil)) ?_
                  refine q_m_code_126  (fun M37 h => ?_) N (Nat.le_refl N) 0 M35 h
                  · refine pM_ic rfl ki_0 ?_
                    refine pM_isn rfl rfl ?_
                    refine pM_w (F2 := [(0, .inr (.inl (some 190))), (2, .inl (.inl 0))]) (fun L hL => lo_cons (lo_lk hL rfl) (lo_cons (lo_lk hL rfl) lo_nil)) ?_
                    refine q_m_code_155   N (Nat.le_refl N) 0 M37 h
        · replace h := h.1 h8
          refine pM_ic rfl ki_1 ?_
          refine pM_go rfl rfl ?_
          refine pM_ic rfl ki_1 ?_
          refine pM_qRi (as := [.inr (.inl (some 190)), .inl (.inl 1), .inl (.inl 1)]) (T := []) rfl rfl (fun C hC => cl_v hC rfl rfl rfl rfl) rfl (q_m_throwsIf  h) (fun r9 M10 h => ?_)
          refine pM_zne rfl rfl (fun h11 => ?_) (fun h11 => ?_)
          · replace h := h.2 h11
            refine pM_ic rfl ki_0 ?_
            refine pM_isn rfl rfl ?_
            refine pM_w (F2 := [(0, .inr (.inl (some 190))), (2, .inl (.inl 0))]) (fun L hL => lo_cons (lo_lk hL rfl) (lo_cons (lo_lk hL rfl) lo_nil)) ?_
            refine q_m_code_126  (fun M28 h => ?_) N (Nat.le_refl N) 0 M10 h
            · refine pM_ic rfl ki_0 ?_
              refine pM_isn rfl rfl ?_
              refine pM_w (F2 := [(0, .inr (.inl (some 190))), (2, .inl (.inl 0))]) (fun L hL => lo_cons (lo_lk hL rfl) (lo_cons (lo_lk hL rfl) lo_nil)) ?_
              refine q_m_code_155   N (Nat.le_refl N) 0 M28 h
          · replace h := h.1 h11
            refine pM_aln rfl rfl rfl ?_
            refine pM_aln rfl rfl rfl ?_
            refine pM_gi rfl rfl rfl rfl ?_
            refine pM_zge rfl rfl (fun h12 => ?_) (fun h12 => ?_)
            · replace h := h.2 h12
              refine pM_ic rfl ki_1 ?_
              refine pM_go rfl rfl ?_
              refine pM_ic rfl ki_2 ?_
              refine pM_qRi (as := [.inr (.inl (some 190)), .inl (.inl 1), .inl (.inl 2)]) (T := []) rfl rfl (fun C hC => cl_v hC rfl rfl rfl rfl) rfl (q_m_throwsIf  h) (fun r24 M25 h => ?_)
              refine pM_zeq rfl rfl (fun h26 => ?_) (fun h26 => ?_)
              · replace h := h.1 h26
                refine pM_aln rfl rfl rfl ?_
                refine pM_iln rfl rfl ?_
                refine pM_pi rfl rfl rfl rfl ?_
                refine pM_aln rfl rfl rfl ?_
                refine pM_ic rfl ki_0 ?_
                refine pM_pi rfl rfl rfl rfl ?_
                refine pM_iln rfl rfl ?_
                exact pM_ri rfl (⟨_, rfl, h⟩)
              · replace h := h.2 h26
                refine pM_ic rfl ki_0 ?_
                refine pM_isn rfl rfl ?_
                refine pM_w (F2 := [(0, .inr (.inl (some 190))), (2, .inl (.inl 0))]) (fun L hL => lo_cons (lo_lk hL rfl) (lo_cons (lo_lk hL rfl) lo_nil)) ?_
                refine q_m_code_126  (fun M27 h => ?_) N (Nat.le_refl N) 0 M25 h
                · refine pM_ic rfl ki_0 ?_
                  refine pM_isn rfl rfl ?_
                  refine pM_w (F2 := [(0, .inr (.inl (some 190))), (2, .inl (.inl 0))]) (fun L hL => lo_cons (lo_lk hL rfl) (lo_cons (lo_lk hL rfl) lo_nil)) ?_
                  refine q_m_code_155   N (Nat.le_refl N) 0 M27 h
            · replace h := h.1 h12
              refine pM_aln rfl rfl rfl ?_
              refine pM_qVi (as := [.inr (.inl (some 190))]) (T := [.inr (.inl (some 190))]) rfl rfl (fun C hC => cl_v hC rfl rfl rfl rfl) rfl (q_m_citizens ) ?_
              refine pM_zle rfl rfl (fun h13 => ?_) (fun h13 => ?_)
              · replace h := h.2 h13
                refine pM_ic rfl ki_0 ?_
                refine pM_ic rfl ki_2 ?_
                refine pM_qRi (as := [.inr (.inl (some 190)), .inl (.inl 0), .inl (.inl 2)]) (T := []) rfl rfl (fun C hC => cl_v hC rfl rfl rfl rfl) rfl (q_m_throwsIf  h) (fun r20 M21 h => ?_)
                refine pM_zeq rfl rfl (fun h22 => ?_) (fun h22 => ?_)
                · replace h := h.1 h22
                  refine pM_aln rfl rfl rfl ?_
                  refine pM_iln rfl rfl ?_
                  refine pM_pi rfl rfl rfl rfl ?_
                  refine pM_aln rfl rfl rfl ?_
                  refine pM_ic rfl ki_0 ?_
                  refine pM_pi rfl rfl rfl rfl ?_
                  refine pM_iln rfl rfl ?_
                  exact pM_ri rfl (⟨_, rfl, h⟩)
                · replace h := h.2 h22
                  refine pM_ic rfl ki_0 ?_
                  refine pM_isn rfl rfl ?_
                  refine pM_w (F2 := [(0, .inr (.inl (some 190))), (2, .inl (.inl 0))]) (fun L hL => lo_cons (lo_lk hL rfl) (lo_cons (lo_lk hL rfl) lo_nil)) ?_
                  refine q_m_code_126  (fun M23 h => ?_) N (Nat.le_refl N) 0 M21 h
                  · refine pM_ic rfl ki_0 ?_
                    refine pM_isn rfl rfl ?_
                    refine pM_w (F2 := [(0, .inr (.inl (some 190))), (2, .inl (.inl 0))]) (fun L hL => lo_cons (lo_lk hL rfl) (lo_cons (lo_lk hL rfl) lo_nil)) ?_
                    refine q_m_code_155   N (Nat.le_refl N) 0 M23 h
              · replace h := h.1 h13
                refine pM_ic rfl ki_1 ?_
                refine pM_go rfl rfl ?_
                refine pM_ic rfl ki_2 ?_
                refine pM_qRi (as := [.inr (.inl (some 190)), .inl (.inl 1), .inl (.inl 2)]) (T := []) rfl rfl (fun C hC => cl_v hC rfl rfl rfl rfl) rfl (q_m_throwsIf  h) (fun r14 M15 h => ?_)
                refine pM_zeq rfl rfl (fun h16 => ?_) (fun h16 => ?_)
                · replace h := h.1 h16
                  refine pM_aln rfl rfl rfl ?_
                  refine pM_iln rfl rfl ?_
                  refine pM_pi rfl rfl rfl rfl ?_
                  refine pM_aln rfl rfl rfl ?_
                  refine pM_ic rfl ki_0 ?_
                  refine pM_pi rfl rfl rfl rfl ?_
                  refine pM_iln rfl rfl ?_
                  exact pM_ri rfl (⟨_, rfl, h⟩)
                · replace h := h.2 h16
                  refine pM_ic rfl ki_0 ?_
                  refine pM_isn rfl rfl ?_
                  refine pM_w (F2 := [(0, .inr (.inl (some 190))), (2, .inl (.inl 0))]) (fun L hL => lo_cons (lo_lk hL rfl) (lo_cons (lo_lk hL rfl) lo_nil)) ?_
                  refine q_m_code_126  (fun M18 h => ?_) N (Nat.le_refl N) 0 M15 h
                  · refine pM_ic rfl ki_0 ?_
                    refine pM_isn rfl rfl ?_
                    refine pM_w (F2 := [(0, .inr (.inl (some 190))), (2, .inl (.inl 0))]) (fun L hL => lo_cons (lo_lk hL rfl) (lo_cons (lo_lk hL rfl) lo_nil)) ?_
                    refine q_m_code_155   N (Nat.le_refl N) 0 M18 h
/-- 244: EarCodeModel.republic()I -/
def W_m_republic  (N : Nat) (M : MM) (Q : Int32 → MM → Prop) : Prop :=
  W_m_likens 191 0 193 0 N M (fun M2 =>
    W_m_likensSeen 196 0 198 0 N M2 (fun M4 =>
      W_m_readAll 0 N M4 (fun r5 M6 =>
        ((r5 < 0 →
          ((r5 < 0 →
            W_m_throwsIf 1 1 N (wi M6 190 23 (M6.1 190 21)) (fun r9 M10 =>
              ((r9 = 0 →
                (((M10.1 191 (ni 1)) = 12 →
                  W_m_throwsIf 1 2 N M10 (fun r13 M14 =>
                    ((r13 = 0 →
                      Q ((wi (wi M14 191 (ni 1) ((M14.1 191 (ni 1)) + 1)) 190 12 0).1 191 (ni 1)) (wi (wi M14 191 (ni 1) ((M14.1 191 (ni 1)) + 1)) 190 12 0)) ∧
                     (¬ r13 = 0 →
                      W_m_likens 193 0 191 0 N M14 (fun M17 =>
                        W_m_likensSeen 198 0 196 0 N M17 (fun M19 =>
                          Q 0 M19)))))) ∧
                 (¬ (M10.1 191 (ni 1)) = 12 →
                  W_m_throwsIf 0 2 N M10 (fun r20 M21 =>
                    ((r20 = 0 →
                      Q ((wi (wi M21 191 (ni 1) ((M21.1 191 (ni 1)) + 1)) 190 12 0).1 191 (ni 1)) (wi (wi M21 191 (ni 1) ((M21.1 191 (ni 1)) + 1)) 190 12 0)) ∧
                     (¬ r20 = 0 →
                      W_m_likens 193 0 191 0 N M21 (fun M24 =>
                        W_m_likensSeen 198 0 196 0 N M24 (fun M26 =>
                          Q 0 M26)))))))) ∧
               (¬ r9 = 0 →
                W_m_likens 193 0 191 0 N M10 (fun M28 =>
                  W_m_likensSeen 198 0 196 0 N M28 (fun M30 =>
                    Q 0 M30)))))) ∧
           (¬ r5 < 0 →
            W_m_throwsIf 0 1 N (wi M6 190 23 (M6.1 190 21)) (fun r31 M32 =>
              ((r31 = 0 →
                (((M32.1 191 (ni 1)) = 12 →
                  W_m_throwsIf 1 2 N M32 (fun r35 M36 =>
                    ((r35 = 0 →
                      Q ((wi (wi M36 191 (ni 1) ((M36.1 191 (ni 1)) + 1)) 190 12 0).1 191 (ni 1)) (wi (wi M36 191 (ni 1) ((M36.1 191 (ni 1)) + 1)) 190 12 0)) ∧
                     (¬ r35 = 0 →
                      W_m_likens 193 0 191 0 N M36 (fun M39 =>
                        W_m_likensSeen 198 0 196 0 N M39 (fun M41 =>
                          Q 0 M41)))))) ∧
                 (¬ (M32.1 191 (ni 1)) = 12 →
                  W_m_throwsIf 0 2 N M32 (fun r42 M43 =>
                    ((r42 = 0 →
                      Q ((wi (wi M43 191 (ni 1) ((M43.1 191 (ni 1)) + 1)) 190 12 0).1 191 (ni 1)) (wi (wi M43 191 (ni 1) ((M43.1 191 (ni 1)) + 1)) 190 12 0)) ∧
                     (¬ r42 = 0 →
                      W_m_likens 193 0 191 0 N M43 (fun M46 =>
                        W_m_likensSeen 198 0 196 0 N M46 (fun M48 =>
                          Q 0 M48)))))))) ∧
               (¬ r31 = 0 →
                W_m_likens 193 0 191 0 N M32 (fun M50 =>
                  W_m_likensSeen 198 0 196 0 N M50 (fun M52 =>
                    Q 0 M52)))))))) ∧
         (¬ r5 < 0 →
          ((r5 < 0 →
            W_m_throwsIf 1 1 N (wi M6 190 23 (-1)) (fun r54 M55 =>
              ((r54 = 0 →
                (((M55.1 191 (ni 1)) = 12 →
                  W_m_throwsIf 1 2 N M55 (fun r58 M59 =>
                    ((r58 = 0 →
                      Q ((wi (wi M59 191 (ni 1) ((M59.1 191 (ni 1)) + 1)) 190 12 0).1 191 (ni 1)) (wi (wi M59 191 (ni 1) ((M59.1 191 (ni 1)) + 1)) 190 12 0)) ∧
                     (¬ r58 = 0 →
                      W_m_likens 193 0 191 0 N M59 (fun M62 =>
                        W_m_likensSeen 198 0 196 0 N M62 (fun M64 =>
                          Q 0 M64)))))) ∧
                 (¬ (M55.1 191 (ni 1)) = 12 →
                  W_m_throwsIf 0 2 N M55 (fun r65 M66 =>
                    ((r65 = 0 →
                      Q ((wi (wi M66 191 (ni 1) ((M66.1 191 (ni 1)) + 1)) 190 12 0).1 191 (ni 1)) (wi (wi M66 191 (ni 1) ((M66.1 191 (ni 1)) + 1)) 190 12 0)) ∧
                     (¬ r65 = 0 →
                      W_m_likens 193 0 191 0 N M66 (fun M69 =>
                        W_m_likensSeen 198 0 196 0 N M69 (fun M71 =>
                          Q 0 M71)))))))) ∧
               (¬ r54 = 0 →
                W_m_likens 193 0 191 0 N M55 (fun M73 =>
                  W_m_likensSeen 198 0 196 0 N M73 (fun M75 =>
                    Q 0 M75)))))) ∧
           (¬ r5 < 0 →
            W_m_throwsIf 0 1 N (wi M6 190 23 (-1)) (fun r76 M77 =>
              ((r76 = 0 →
                (((M77.1 191 (ni 1)) = 12 →
                  W_m_throwsIf 1 2 N M77 (fun r80 M81 =>
                    ((r80 = 0 →
                      Q ((wi (wi M81 191 (ni 1) ((M81.1 191 (ni 1)) + 1)) 190 12 0).1 191 (ni 1)) (wi (wi M81 191 (ni 1) ((M81.1 191 (ni 1)) + 1)) 190 12 0)) ∧
                     (¬ r80 = 0 →
                      W_m_likens 193 0 191 0 N M81 (fun M84 =>
                        W_m_likensSeen 198 0 196 0 N M84 (fun M86 =>
                          Q 0 M86)))))) ∧
                 (¬ (M77.1 191 (ni 1)) = 12 →
                  W_m_throwsIf 0 2 N M77 (fun r87 M88 =>
                    ((r87 = 0 →
                      Q ((wi (wi M88 191 (ni 1) ((M88.1 191 (ni 1)) + 1)) 190 12 0).1 191 (ni 1)) (wi (wi M88 191 (ni 1) ((M88.1 191 (ni 1)) + 1)) 190 12 0)) ∧
                     (¬ r87 = 0 →
                      W_m_likens 193 0 191 0 N M88 (fun M91 =>
                        W_m_likensSeen 198 0 196 0 N M91 (fun M93 =>
                          Q 0 M93)))))))) ∧
               (¬ r76 = 0 →
                W_m_likens 193 0 191 0 N M77 (fun M95 =>
                  W_m_likensSeen 198 0 196 0 N M95 (fun M97 =>
                    Q 0 M97))))))))))))
theorem q_m_republic {X : Option (List AI)} {N : Nat} {M : MM}  {Q : Int32 → MM → Prop}  (h : W_m_republic  N M Q) : pM X N 244 0 (ea_ar 0 [.inr (.inl (some 190))]) [] M (Ri Q) := by
  refine pM_w (F2 := [(0, .inr (.inl (some 190)))]) (fun L hL => lo_cons (lo_lk hL rfl) lo_nil) ?_
  refine pM_aln rfl rfl rfl ?_
  refine pM_gr rfl rfl rfl rfl ?_
  refine pM_ic rfl ki_0 ?_
  refine pM_aln rfl rfl rfl ?_
  refine pM_gr rfl rfl rfl rfl ?_
  refine pM_ic rfl ki_0 ?_
  refine pM_qRu (as := [.inr (.inl (some 191)), .inl (.inl 0), .inr (.inl (some 193)), .inl (.inl 0)]) (T := []) rfl rfl (fun _ _ => rfl) rfl (q_m_likens rfl rfl h) (fun M2 h => ?_)
  refine pM_aln rfl rfl rfl ?_
  refine pM_gr rfl rfl rfl rfl ?_
  refine pM_ic rfl ki_0 ?_
  refine pM_aln rfl rfl rfl ?_
  refine pM_gr rfl rfl rfl rfl ?_
  refine pM_ic rfl ki_0 ?_
  refine pM_qRu (as := [.inr (.inl (some 196)), .inl (.inl 0), .inr (.inl (some 198)), .inl (.inl 0)]) (T := []) rfl rfl (fun _ _ => rfl) rfl (q_m_likensSeen rfl rfl h) (fun M4 h => ?_)
  refine pM_aln rfl rfl rfl ?_
  refine pM_ic rfl ki_0 ?_
  refine pM_qRi (as := [.inr (.inl (some 190)), .inl (.inl 0)]) (T := []) rfl rfl (fun C hC => cl_v hC rfl rfl rfl rfl) rfl (q_m_readAll  h) (fun r5 M6 h => ?_)
  refine pM_isn rfl rfl ?_
  refine pM_aln rfl rfl rfl ?_
  refine pM_iln rfl rfl ?_
  refine pM_zge rfl rfl (fun h7 => ?_) (fun h7 => ?_)
  · replace h := h.2 h7
    refine pM_ic rfl ki_m1 ?_
    refine pM_pi rfl rfl rfl rfl ?_
    refine pM_aln rfl rfl rfl ?_
    refine pM_iln rfl rfl ?_
    refine pM_zge rfl rfl (fun h53 => ?_) (fun h53 => ?_)
    · replace h := h.2 h53
      refine pM_ic rfl ki_0 ?_
      refine pM_ic rfl ki_1 ?_
      refine pM_qRi (as := [.inr (.inl (some 190)), .inl (.inl 0), .inl (.inl 1)]) (T := []) rfl rfl (fun C hC => cl_v hC rfl rfl rfl rfl) rfl (q_m_throwsIf  h) (fun r76 M77 h => ?_)
      refine pM_zne rfl rfl (fun h78 => ?_) (fun h78 => ?_)
      · replace h := h.2 h78
        refine pM_aln rfl rfl rfl ?_
        refine pM_gr rfl rfl rfl rfl ?_
        refine pM_ic rfl ki_0 ?_
        refine pM_aln rfl rfl rfl ?_
        refine pM_gr rfl rfl rfl rfl ?_
        refine pM_ic rfl ki_0 ?_
        refine pM_qRu (as := [.inr (.inl (some 193)), .inl (.inl 0), .inr (.inl (some 191)), .inl (.inl 0)]) (T := []) rfl rfl (fun _ _ => rfl) rfl (q_m_likens rfl rfl h) (fun M95 h => ?_)
        refine pM_aln rfl rfl rfl ?_
        refine pM_gr rfl rfl rfl rfl ?_
        refine pM_ic rfl ki_0 ?_
        refine pM_aln rfl rfl rfl ?_
        refine pM_gr rfl rfl rfl rfl ?_
        refine pM_ic rfl ki_0 ?_
        refine pM_qRu (as := [.inr (.inl (some 198)), .inl (.inl 0), .inr (.inl (some 196)), .inl (.inl 0)]) (T := []) rfl rfl (fun _ _ => rfl) rfl (q_m_likensSeen rfl rfl h) (fun M97 h => ?_)
        refine pM_ic rfl ki_0 ?_
        exact pM_ri rfl (⟨_, rfl, h⟩)
      · replace h := h.1 h78
        refine pM_aln rfl rfl rfl ?_
        refine pM_aln rfl rfl rfl ?_
        refine pM_gr rfl rfl rfl rfl ?_
        refine pM_ic rfl ki_1 ?_
        refine pM_ai rfl rfl row_p ?_
        refine pM_bi rfl kb_12 ?_
        refine pM_cne rfl rfl (fun h79 => ?_) (fun h79 => ?_)
        · replace h := h.2 h79
          refine pM_ic rfl ki_0 ?_
          refine pM_ic rfl ki_2 ?_
          refine pM_qRi (as := [.inr (.inl (some 190)), .inl (.inl 0), .inl (.inl 2)]) (T := []) rfl rfl (fun C hC => cl_v hC rfl rfl rfl rfl) rfl (q_m_throwsIf  h) (fun r87 M88 h => ?_)
          refine pM_zeq rfl rfl (fun h89 => ?_) (fun h89 => ?_)
          · replace h := h.1 h89
            refine pM_aln rfl rfl rfl ?_
            refine pM_gr rfl rfl rfl rfl ?_
            refine pM_ic rfl ki_1 ?_
            refine pM_p (pc' := 123) (S' := [.inl (.inl 1), .inr (.inl (some 191)), .inl (.inl 1), .inr (.inl (some 191))]) rfl rfl (fun _ => rfl) ?_
            refine pM_ai rfl rfl row_p ?_
            refine pM_ic rfl ki_1 ?_
            refine pM_add rfl ?_
            refine pM_sa rfl rfl row_p ?_
            refine pM_aln rfl rfl rfl ?_
            refine pM_ic rfl ki_0 ?_
            refine pM_pi rfl rfl rfl rfl ?_
            refine pM_aln rfl rfl rfl ?_
            refine pM_gr rfl rfl rfl rfl ?_
            refine pM_ic rfl ki_1 ?_
            refine pM_ai rfl rfl row_p ?_
            exact pM_ri rfl (⟨_, rfl, h⟩)
          · replace h := h.2 h89
            refine pM_aln rfl rfl rfl ?_
            refine pM_gr rfl rfl rfl rfl ?_
            refine pM_ic rfl ki_0 ?_
            refine pM_aln rfl rfl rfl ?_
            refine pM_gr rfl rfl rfl rfl ?_
            refine pM_ic rfl ki_0 ?_
            refine pM_qRu (as := [.inr (.inl (some 193)), .inl (.inl 0), .inr (.inl (some 191)), .inl (.inl 0)]) (T := []) rfl rfl (fun _ _ => rfl) rfl (q_m_likens rfl rfl h) (fun M91 h => ?_)
            refine pM_aln rfl rfl rfl ?_
            refine pM_gr rfl rfl rfl rfl ?_
            refine pM_ic rfl ki_0 ?_
            refine pM_aln rfl rfl rfl ?_
            refine pM_gr rfl rfl rfl rfl ?_
            refine pM_ic rfl ki_0 ?_
            refine pM_qRu (as := [.inr (.inl (some 198)), .inl (.inl 0), .inr (.inl (some 196)), .inl (.inl 0)]) (T := []) rfl rfl (fun _ _ => rfl) rfl (q_m_likensSeen rfl rfl h) (fun M93 h => ?_)
            refine pM_ic rfl ki_0 ?_
            exact pM_ri rfl (⟨_, rfl, h⟩)
        · replace h := h.1 h79
          refine pM_ic rfl ki_1 ?_
          refine pM_go rfl rfl ?_
          refine pM_ic rfl ki_2 ?_
          refine pM_qRi (as := [.inr (.inl (some 190)), .inl (.inl 1), .inl (.inl 2)]) (T := []) rfl rfl (fun C hC => cl_v hC rfl rfl rfl rfl) rfl (q_m_throwsIf  h) (fun r80 M81 h => ?_)
          refine pM_zeq rfl rfl (fun h82 => ?_) (fun h82 => ?_)
          · replace h := h.1 h82
            refine pM_aln rfl rfl rfl ?_
            refine pM_gr rfl rfl rfl rfl ?_
            refine pM_ic rfl ki_1 ?_
            refine pM_p (pc' := 123) (S' := [.inl (.inl 1), .inr (.inl (some 191)), .inl (.inl 1), .inr (.inl (some 191))]) rfl rfl (fun _ => rfl) ?_
            refine pM_ai rfl rfl row_p ?_
            refine pM_ic rfl ki_1 ?_
            refine pM_add rfl ?_
            refine pM_sa rfl rfl row_p ?_
            refine pM_aln rfl rfl rfl ?_
            refine pM_ic rfl ki_0 ?_
            refine pM_pi rfl rfl rfl rfl ?_
            refine pM_aln rfl rfl rfl ?_
            refine pM_gr rfl rfl rfl rfl ?_
            refine pM_ic rfl ki_1 ?_
            refine pM_ai rfl rfl row_p ?_
            exact pM_ri rfl (⟨_, rfl, h⟩)
          · replace h := h.2 h82
            refine pM_aln rfl rfl rfl ?_
            refine pM_gr rfl rfl rfl rfl ?_
            refine pM_ic rfl ki_0 ?_
            refine pM_aln rfl rfl rfl ?_
            refine pM_gr rfl rfl rfl rfl ?_
            refine pM_ic rfl ki_0 ?_
            refine pM_qRu (as := [.inr (.inl (some 193)), .inl (.inl 0), .inr (.inl (some 191)), .inl (.inl 0)]) (T := []) rfl rfl (fun _ _ => rfl) rfl (q_m_likens rfl rfl h) (fun M84 h => ?_)
            refine pM_aln rfl rfl rfl ?_
            refine pM_gr rfl rfl rfl rfl ?_
            refine pM_ic rfl ki_0 ?_
            refine pM_aln rfl rfl rfl ?_
            refine pM_gr rfl rfl rfl rfl ?_
            refine pM_ic rfl ki_0 ?_
            refine pM_qRu (as := [.inr (.inl (some 198)), .inl (.inl 0), .inr (.inl (some 196)), .inl (.inl 0)]) (T := []) rfl rfl (fun _ _ => rfl) rfl (q_m_likensSeen rfl rfl h) (fun M86 h => ?_)
            refine pM_ic rfl ki_0 ?_
            exact pM_ri rfl (⟨_, rfl, h⟩)
    · replace h := h.1 h53
      refine pM_ic rfl ki_1 ?_
      refine pM_go rfl rfl ?_
      refine pM_ic rfl ki_1 ?_
      refine pM_qRi (as := [.inr (.inl (some 190)), .inl (.inl 1), .inl (.inl 1)]) (T := []) rfl rfl (fun C hC => cl_v hC rfl rfl rfl rfl) rfl (q_m_throwsIf  h) (fun r54 M55 h => ?_)
      refine pM_zne rfl rfl (fun h56 => ?_) (fun h56 => ?_)
      · replace h := h.2 h56
        refine pM_aln rfl rfl rfl ?_
        refine pM_gr rfl rfl rfl rfl ?_
        refine pM_ic rfl ki_0 ?_
        refine pM_aln rfl rfl rfl ?_
        refine pM_gr rfl rfl rfl rfl ?_
        refine pM_ic rfl ki_0 ?_
        refine pM_qRu (as := [.inr (.inl (some 193)), .inl (.inl 0), .inr (.inl (some 191)), .inl (.inl 0)]) (T := []) rfl rfl (fun _ _ => rfl) rfl (q_m_likens rfl rfl h) (fun M73 h => ?_)
        refine pM_aln rfl rfl rfl ?_
        refine pM_gr rfl rfl rfl rfl ?_
        refine pM_ic rfl ki_0 ?_
        refine pM_aln rfl rfl rfl ?_
        refine pM_gr rfl rfl rfl rfl ?_
        refine pM_ic rfl ki_0 ?_
        refine pM_qRu (as := [.inr (.inl (some 198)), .inl (.inl 0), .inr (.inl (some 196)), .inl (.inl 0)]) (T := []) rfl rfl (fun _ _ => rfl) rfl (q_m_likensSeen rfl rfl h) (fun M75 h => ?_)
        refine pM_ic rfl ki_0 ?_
        exact pM_ri rfl (⟨_, rfl, h⟩)
      · replace h := h.1 h56
        refine pM_aln rfl rfl rfl ?_
        refine pM_aln rfl rfl rfl ?_
        refine pM_gr rfl rfl rfl rfl ?_
        refine pM_ic rfl ki_1 ?_
        refine pM_ai rfl rfl row_p ?_
        refine pM_bi rfl kb_12 ?_
        refine pM_cne rfl rfl (fun h57 => ?_) (fun h57 => ?_)
        · replace h := h.2 h57
          refine pM_ic rfl ki_0 ?_
          refine pM_ic rfl ki_2 ?_
          refine pM_qRi (as := [.inr (.inl (some 190)), .inl (.inl 0), .inl (.inl 2)]) (T := []) rfl rfl (fun C hC => cl_v hC rfl rfl rfl rfl) rfl (q_m_throwsIf  h) (fun r65 M66 h => ?_)
          refine pM_zeq rfl rfl (fun h67 => ?_) (fun h67 => ?_)
          · replace h := h.1 h67
            refine pM_aln rfl rfl rfl ?_
            refine pM_gr rfl rfl rfl rfl ?_
            refine pM_ic rfl ki_1 ?_
            refine pM_p (pc' := 123) (S' := [.inl (.inl 1), .inr (.inl (some 191)), .inl (.inl 1), .inr (.inl (some 191))]) rfl rfl (fun _ => rfl) ?_
            refine pM_ai rfl rfl row_p ?_
            refine pM_ic rfl ki_1 ?_
            refine pM_add rfl ?_
            refine pM_sa rfl rfl row_p ?_
            refine pM_aln rfl rfl rfl ?_
            refine pM_ic rfl ki_0 ?_
            refine pM_pi rfl rfl rfl rfl ?_
            refine pM_aln rfl rfl rfl ?_
            refine pM_gr rfl rfl rfl rfl ?_
            refine pM_ic rfl ki_1 ?_
            refine pM_ai rfl rfl row_p ?_
            exact pM_ri rfl (⟨_, rfl, h⟩)
          · replace h := h.2 h67
            refine pM_aln rfl rfl rfl ?_
            refine pM_gr rfl rfl rfl rfl ?_
            refine pM_ic rfl ki_0 ?_
            refine pM_aln rfl rfl rfl ?_
            refine pM_gr rfl rfl rfl rfl ?_
            refine pM_ic rfl ki_0 ?_
            refine pM_qRu (as := [.inr (.inl (some 193)), .inl (.inl 0), .inr (.inl (some 191)), .inl (.inl 0)]) (T := []) rfl rfl (fun _ _ => rfl) rfl (q_m_likens rfl rfl h) (fun M69 h => ?_)
            refine pM_aln rfl rfl rfl ?_
            refine pM_gr rfl rfl rfl rfl ?_
            refine pM_ic rfl ki_0 ?_
            refine pM_aln rfl rfl rfl ?_
            refine pM_gr rfl rfl rfl rfl ?_
            refine pM_ic rfl ki_0 ?_
            refine pM_qRu (as := [.inr (.inl (some 198)), .inl (.inl 0), .inr (.inl (some 196)), .inl (.inl 0)]) (T := []) rfl rfl (fun _ _ => rfl) rfl (q_m_likensSeen rfl rfl h) (fun M71 h => ?_)
            refine pM_ic rfl ki_0 ?_
            exact pM_ri rfl (⟨_, rfl, h⟩)
        · replace h := h.1 h57
          refine pM_ic rfl ki_1 ?_
          refine pM_go rfl rfl ?_
          refine pM_ic rfl ki_2 ?_
          refine pM_qRi (as := [.inr (.inl (some 190)), .inl (.inl 1), .inl (.inl 2)]) (T := []) rfl rfl (fun C hC => cl_v hC rfl rfl rfl rfl) rfl (q_m_throwsIf  h) (fun r58 M59 h => ?_)
          refine pM_zeq rfl rfl (fun h60 => ?_) (fun h60 => ?_)
          · replace h := h.1 h60
            refine pM_aln rfl rfl rfl ?_
            refine pM_gr rfl rfl rfl rfl ?_
            refine pM_ic rfl ki_1 ?_
            refine pM_p (pc' := 123) (S' := [.inl (.inl 1), .inr (.inl (some 191)), .inl (.inl 1), .inr (.inl (some 191))]) rfl rfl (fun _ => rfl) ?_
            refine pM_ai rfl rfl row_p ?_
            refine pM_ic rfl ki_1 ?_
            refine pM_add rfl ?_
            refine pM_sa rfl rfl row_p ?_
            refine pM_aln rfl rfl rfl ?_
            refine pM_ic rfl ki_0 ?_
            refine pM_pi rfl rfl rfl rfl ?_
            refine pM_aln rfl rfl rfl ?_
            refine pM_gr rfl rfl rfl rfl ?_
            refine pM_ic rfl ki_1 ?_
            refine pM_ai rfl rfl row_p ?_
            exact pM_ri rfl (⟨_, rfl, h⟩)
          · replace h := h.2 h60
            refine pM_aln rfl rfl rfl ?_
            refine pM_gr rfl rfl rfl rfl ?_
            refine pM_ic rfl ki_0 ?_
            refine pM_aln rfl rfl rfl ?_
            refine pM_gr rfl rfl rfl rfl ?_
            refine pM_ic rfl ki_0 ?_
            refine pM_qRu (as := [.inr (.inl (some 193)), .inl (.inl 0), .inr (.inl (some 191)), .inl (.inl 0)]) (T := []) rfl rfl (fun _ _ => rfl) rfl (q_m_likens rfl rfl h) (fun M62 h => ?_)
            refine pM_aln rfl rfl rfl ?_
            refine pM_gr rfl rfl rfl rfl ?_
            refine pM_ic rfl ki_0 ?_
            refine pM_aln rfl rfl rfl ?_
            refine pM_gr rfl rfl rfl rfl ?_
            refine pM_ic rfl ki_0 ?_
            refine pM_qRu (as := [.inr (.inl (some 198)), .inl (.inl 0), .inr (.inl (some 196)), .inl (.inl 0)]) (T := []) rfl rfl (fun _ _ => rfl) rfl (q_m_likensSeen rfl rfl h) (fun M64 h => ?_)
            refine pM_ic rfl ki_0 ?_
            exact pM_ri rfl (⟨_, rfl, h⟩)
  · replace h := h.1 h7
    refine pM_aln rfl rfl rfl ?_
    refine pM_gi rfl rfl rfl rfl ?_
    refine pM_go rfl rfl ?_
    refine pM_pi rfl rfl rfl rfl ?_
    refine pM_aln rfl rfl rfl ?_
    refine pM_iln rfl rfl ?_
    refine pM_zge rfl rfl (fun h8 => ?_) (fun h8 => ?_)
    · replace h := h.2 h8
      refine pM_ic rfl ki_0 ?_
      refine pM_ic rfl ki_1 ?_
      refine pM_qRi (as := [.inr (.inl (some 190)), .inl (.inl 0), .inl (.inl 1)]) (T := []) rfl rfl (fun C hC => cl_v hC rfl rfl rfl rfl) rfl (q_m_throwsIf  h) (fun r31 M32 h => ?_)
      refine pM_zne rfl rfl (fun h33 => ?_) (fun h33 => ?_)
      · replace h := h.2 h33
        refine pM_aln rfl rfl rfl ?_
        refine pM_gr rfl rfl rfl rfl ?_
        refine pM_ic rfl ki_0 ?_
        refine pM_aln rfl rfl rfl ?_
        refine pM_gr rfl rfl rfl rfl ?_
        refine pM_ic rfl ki_0 ?_
        refine pM_qRu (as := [.inr (.inl (some 193)), .inl (.inl 0), .inr (.inl (some 191)), .inl (.inl 0)]) (T := []) rfl rfl (fun _ _ => rfl) rfl (q_m_likens rfl rfl h) (fun M50 h => ?_)
        refine pM_aln rfl rfl rfl ?_
        refine pM_gr rfl rfl rfl rfl ?_
        refine pM_ic rfl ki_0 ?_
        refine pM_aln rfl rfl rfl ?_
        refine pM_gr rfl rfl rfl rfl ?_
        refine pM_ic rfl ki_0 ?_
        refine pM_qRu (as := [.inr (.inl (some 198)), .inl (.inl 0), .inr (.inl (some 196)), .inl (.inl 0)]) (T := []) rfl rfl (fun _ _ => rfl) rfl (q_m_likensSeen rfl rfl h) (fun M52 h => ?_)
        refine pM_ic rfl ki_0 ?_
        exact pM_ri rfl (⟨_, rfl, h⟩)
      · replace h := h.1 h33
        refine pM_aln rfl rfl rfl ?_
        refine pM_aln rfl rfl rfl ?_
        refine pM_gr rfl rfl rfl rfl ?_
        refine pM_ic rfl ki_1 ?_
        refine pM_ai rfl rfl row_p ?_
        refine pM_bi rfl kb_12 ?_
        refine pM_cne rfl rfl (fun h34 => ?_) (fun h34 => ?_)
        · replace h := h.2 h34
          refine pM_ic rfl ki_0 ?_
          refine pM_ic rfl ki_2 ?_
          refine pM_qRi (as := [.inr (.inl (some 190)), .inl (.inl 0), .inl (.inl 2)]) (T := []) rfl rfl (fun C hC => cl_v hC rfl rfl rfl rfl) rfl (q_m_throwsIf  h) (fun r42 M43 h => ?_)
          refine pM_zeq rfl rfl (fun h44 => ?_) (fun h44 => ?_)
          · replace h := h.1 h44
            refine pM_aln rfl rfl rfl ?_
            refine pM_gr rfl rfl rfl rfl ?_
            refine pM_ic rfl ki_1 ?_
            refine pM_p (pc' := 123) (S' := [.inl (.inl 1), .inr (.inl (some 191)), .inl (.inl 1), .inr (.inl (some 191))]) rfl rfl (fun _ => rfl) ?_
            refine pM_ai rfl rfl row_p ?_
            refine pM_ic rfl ki_1 ?_
            refine pM_add rfl ?_
            refine pM_sa rfl rfl row_p ?_
            refine pM_aln rfl rfl rfl ?_
            refine pM_ic rfl ki_0 ?_
            refine pM_pi rfl rfl rfl rfl ?_
            refine pM_aln rfl rfl rfl ?_
            refine pM_gr rfl rfl rfl rfl ?_
            refine pM_ic rfl ki_1 ?_
            refine pM_ai rfl rfl row_p ?_
            exact pM_ri rfl (⟨_, rfl, h⟩)
          · replace h := h.2 h44
            refine pM_aln rfl rfl rfl ?_
            refine pM_gr rfl rfl rfl rfl ?_
            refine pM_ic rfl ki_0 ?_
            refine pM_aln rfl rfl rfl ?_
            refine pM_gr rfl rfl rfl rfl ?_
            refine pM_ic rfl ki_0 ?_
            refine pM_qRu (as := [.inr (.inl (some 193)), .inl (.inl 0), .inr (.inl (some 191)), .inl (.inl 0)]) (T := []) rfl rfl (fun _ _ => rfl) rfl (q_m_likens rfl rfl h) (fun M46 h => ?_)
            refine pM_aln rfl rfl rfl ?_
            refine pM_gr rfl rfl rfl rfl ?_
            refine pM_ic rfl ki_0 ?_
            refine pM_aln rfl rfl rfl ?_
            refine pM_gr rfl rfl rfl rfl ?_
            refine pM_ic rfl ki_0 ?_
            refine pM_qRu (as := [.inr (.inl (some 198)), .inl (.inl 0), .inr (.inl (some 196)), .inl (.inl 0)]) (T := []) rfl rfl (fun _ _ => rfl) rfl (q_m_likensSeen rfl rfl h) (fun M48 h => ?_)
            refine pM_ic rfl ki_0 ?_
            exact pM_ri rfl (⟨_, rfl, h⟩)
        · replace h := h.1 h34
          refine pM_ic rfl ki_1 ?_
          refine pM_go rfl rfl ?_
          refine pM_ic rfl ki_2 ?_
          refine pM_qRi (as := [.inr (.inl (some 190)), .inl (.inl 1), .inl (.inl 2)]) (T := []) rfl rfl (fun C hC => cl_v hC rfl rfl rfl rfl) rfl (q_m_throwsIf  h) (fun r35 M36 h => ?_)
          refine pM_zeq rfl rfl (fun h37 => ?_) (fun h37 => ?_)
          · replace h := h.1 h37
            refine pM_aln rfl rfl rfl ?_
            refine pM_gr rfl rfl rfl rfl ?_
            refine pM_ic rfl ki_1 ?_
            refine pM_p (pc' := 123) (S' := [.inl (.inl 1), .inr (.inl (some 191)), .inl (.inl 1), .inr (.inl (some 191))]) rfl rfl (fun _ => rfl) ?_
            refine pM_ai rfl rfl row_p ?_
            refine pM_ic rfl ki_1 ?_
            refine pM_add rfl ?_
            refine pM_sa rfl rfl row_p ?_
            refine pM_aln rfl rfl rfl ?_
            refine pM_ic rfl ki_0 ?_
            refine pM_pi rfl rfl rfl rfl ?_
            refine pM_aln rfl rfl rfl ?_
            refine pM_gr rfl rfl rfl rfl ?_
            refine pM_ic rfl ki_1 ?_
            refine pM_ai rfl rfl row_p ?_
            exact pM_ri rfl (⟨_, rfl, h⟩)
          · replace h := h.2 h37
            refine pM_aln rfl rfl rfl ?_
            refine pM_gr rfl rfl rfl rfl ?_
            refine pM_ic rfl ki_0 ?_
            refine pM_aln rfl rfl rfl ?_
            refine pM_gr rfl rfl rfl rfl ?_
            refine pM_ic rfl ki_0 ?_
            refine pM_qRu (as := [.inr (.inl (some 193)), .inl (.inl 0), .inr (.inl (some 191)), .inl (.inl 0)]) (T := []) rfl rfl (fun _ _ => rfl) rfl (q_m_likens rfl rfl h) (fun M39 h => ?_)
            refine pM_aln rfl rfl rfl ?_
            refine pM_gr rfl rfl rfl rfl ?_
            refine pM_ic rfl ki_0 ?_
            refine pM_aln rfl rfl rfl ?_
            refine pM_gr rfl rfl rfl rfl ?_
            refine pM_ic rfl ki_0 ?_
            refine pM_qRu (as := [.inr (.inl (some 198)), .inl (.inl 0), .inr (.inl (some 196)), .inl (.inl 0)]) (T := []) rfl rfl (fun _ _ => rfl) rfl (q_m_likensSeen rfl rfl h) (fun M41 h => ?_)
            refine pM_ic rfl ki_0 ?_
            exact pM_ri rfl (⟨_, rfl, h⟩)
    · replace h := h.1 h8
      refine pM_ic rfl ki_1 ?_
      refine pM_go rfl rfl ?_
      refine pM_ic rfl ki_1 ?_
      refine pM_qRi (as := [.inr (.inl (some 190)), .inl (.inl 1), .inl (.inl 1)]) (T := []) rfl rfl (fun C hC => cl_v hC rfl rfl rfl rfl) rfl (q_m_throwsIf  h) (fun r9 M10 h => ?_)
      refine pM_zne rfl rfl (fun h11 => ?_) (fun h11 => ?_)
      · replace h := h.2 h11
        refine pM_aln rfl rfl rfl ?_
        refine pM_gr rfl rfl rfl rfl ?_
        refine pM_ic rfl ki_0 ?_
        refine pM_aln rfl rfl rfl ?_
        refine pM_gr rfl rfl rfl rfl ?_
        refine pM_ic rfl ki_0 ?_
        refine pM_qRu (as := [.inr (.inl (some 193)), .inl (.inl 0), .inr (.inl (some 191)), .inl (.inl 0)]) (T := []) rfl rfl (fun _ _ => rfl) rfl (q_m_likens rfl rfl h) (fun M28 h => ?_)
        refine pM_aln rfl rfl rfl ?_
        refine pM_gr rfl rfl rfl rfl ?_
        refine pM_ic rfl ki_0 ?_
        refine pM_aln rfl rfl rfl ?_
        refine pM_gr rfl rfl rfl rfl ?_
        refine pM_ic rfl ki_0 ?_
        refine pM_qRu (as := [.inr (.inl (some 198)), .inl (.inl 0), .inr (.inl (some 196)), .inl (.inl 0)]) (T := []) rfl rfl (fun _ _ => rfl) rfl (q_m_likensSeen rfl rfl h) (fun M30 h => ?_)
        refine pM_ic rfl ki_0 ?_
        exact pM_ri rfl (⟨_, rfl, h⟩)
      · replace h := h.1 h11
        refine pM_aln rfl rfl rfl ?_
        refine pM_aln rfl rfl rfl ?_
        refine pM_gr rfl rfl rfl rfl ?_
        refine pM_ic rfl ki_1 ?_
        refine pM_ai rfl rfl row_p ?_
        refine pM_bi rfl kb_12 ?_
        refine pM_cne rfl rfl (fun h12 => ?_) (fun h12 => ?_)
        · replace h := h.2 h12
          refine pM_ic rfl ki_0 ?_
          refine pM_ic rfl ki_2 ?_
          refine pM_qRi (as := [.inr (.inl (some 190)), .inl (.inl 0), .inl (.inl 2)]) (T := []) rfl rfl (fun C hC => cl_v hC rfl rfl rfl rfl) rfl (q_m_throwsIf  h) (fun r20 M21 h => ?_)
          refine pM_zeq rfl rfl (fun h22 => ?_) (fun h22 => ?_)
          · replace h := h.1 h22
            refine pM_aln rfl rfl rfl ?_
            refine pM_gr rfl rfl rfl rfl ?_
            refine pM_ic rfl ki_1 ?_
            refine pM_p (pc' := 123) (S' := [.inl (.inl 1), .inr (.inl (some 191)), .inl (.inl 1), .inr (.inl (some 191))]) rfl rfl (fun _ => rfl) ?_
            refine pM_ai rfl rfl row_p ?_
            refine pM_ic rfl ki_1 ?_
            refine pM_add rfl ?_
            refine pM_sa rfl rfl row_p ?_
            refine pM_aln rfl rfl rfl ?_
            refine pM_ic rfl ki_0 ?_
            refine pM_pi rfl rfl rfl rfl ?_
            refine pM_aln rfl rfl rfl ?_
            refine pM_gr rfl rfl rfl rfl ?_
            refine pM_ic rfl ki_1 ?_
            refine pM_ai rfl rfl row_p ?_
            exact pM_ri rfl (⟨_, rfl, h⟩)
          · replace h := h.2 h22
            refine pM_aln rfl rfl rfl ?_
            refine pM_gr rfl rfl rfl rfl ?_
            refine pM_ic rfl ki_0 ?_
            refine pM_aln rfl rfl rfl ?_
            refine pM_gr rfl rfl rfl rfl ?_
            refine pM_ic rfl ki_0 ?_
            refine pM_qRu (as := [.inr (.inl (some 193)), .inl (.inl 0), .inr (.inl (some 191)), .inl (.inl 0)]) (T := []) rfl rfl (fun _ _ => rfl) rfl (q_m_likens rfl rfl h) (fun M24 h => ?_)
            refine pM_aln rfl rfl rfl ?_
            refine pM_gr rfl rfl rfl rfl ?_
            refine pM_ic rfl ki_0 ?_
            refine pM_aln rfl rfl rfl ?_
            refine pM_gr rfl rfl rfl rfl ?_
            refine pM_ic rfl ki_0 ?_
            refine pM_qRu (as := [.inr (.inl (some 198)), .inl (.inl 0), .inr (.inl (some 196)), .inl (.inl 0)]) (T := []) rfl rfl (fun _ _ => rfl) rfl (q_m_likensSeen rfl rfl h) (fun M26 h => ?_)
            refine pM_ic rfl ki_0 ?_
            exact pM_ri rfl (⟨_, rfl, h⟩)
        · replace h := h.1 h12
          refine pM_ic rfl ki_1 ?_
          refine pM_go rfl rfl ?_
          refine pM_ic rfl ki_2 ?_
          refine pM_qRi (as := [.inr (.inl (some 190)), .inl (.inl 1), .inl (.inl 2)]) (T := []) rfl rfl (fun C hC => cl_v hC rfl rfl rfl rfl) rfl (q_m_throwsIf  h) (fun r13 M14 h => ?_)
          refine pM_zeq rfl rfl (fun h15 => ?_) (fun h15 => ?_)
          · replace h := h.1 h15
            refine pM_aln rfl rfl rfl ?_
            refine pM_gr rfl rfl rfl rfl ?_
            refine pM_ic rfl ki_1 ?_
            refine pM_p (pc' := 123) (S' := [.inl (.inl 1), .inr (.inl (some 191)), .inl (.inl 1), .inr (.inl (some 191))]) rfl rfl (fun _ => rfl) ?_
            refine pM_ai rfl rfl row_p ?_
            refine pM_ic rfl ki_1 ?_
            refine pM_add rfl ?_
            refine pM_sa rfl rfl row_p ?_
            refine pM_aln rfl rfl rfl ?_
            refine pM_ic rfl ki_0 ?_
            refine pM_pi rfl rfl rfl rfl ?_
            refine pM_aln rfl rfl rfl ?_
            refine pM_gr rfl rfl rfl rfl ?_
            refine pM_ic rfl ki_1 ?_
            refine pM_ai rfl rfl row_p ?_
            exact pM_ri rfl (⟨_, rfl, h⟩)
          · replace h := h.2 h15
            refine pM_aln rfl rfl rfl ?_
            refine pM_gr rfl rfl rfl rfl ?_
            refine pM_ic rfl ki_0 ?_
            refine pM_aln rfl rfl rfl ?_
            refine pM_gr rfl rfl rfl rfl ?_
            refine pM_ic rfl ki_0 ?_
            refine pM_qRu (as := [.inr (.inl (some 193)), .inl (.inl 0), .inr (.inl (some 191)), .inl (.inl 0)]) (T := []) rfl rfl (fun _ _ => rfl) rfl (q_m_likens rfl rfl h) (fun M17 h => ?_)
            refine pM_aln rfl rfl rfl ?_
            refine pM_gr rfl rfl rfl rfl ?_
            refine pM_ic rfl ki_0 ?_
            refine pM_aln rfl rfl rfl ?_
            refine pM_gr rfl rfl rfl rfl ?_
            refine pM_ic rfl ki_0 ?_
            refine pM_qRu (as := [.inr (.inl (some 198)), .inl (.inl 0), .inr (.inl (some 196)), .inl (.inl 0)]) (T := []) rfl rfl (fun _ _ => rfl) rfl (q_m_likensSeen rfl rfl h) (fun M19 h => ?_)
            refine pM_ic rfl ki_0 ?_
            exact pM_ri rfl (⟨_, rfl, h⟩)
/-- 245: EarCodeModel.factOf(IIIII)I -/
def V_m_factOf (p1 : Int32) (p2 : Int32) (p3 : Int32) (p4 : Int32) (p5 : Int32) (M : MM) : Int32 :=
  (if p1 = 0 then
    p3
  else
    (if p1 = 1 then
      p5
    else
      (if p1 = 2 then
        p4
      else
        (if p1 = 3 then
          (V_Int_bitCount (V_m_of p4 1 M) M)
        else
          (if p1 = 4 then
            (if (rm p5 7) = 0 then
              1
            else
              0)
          else
            p2)))))
theorem q_m_factOf {X : Option (List AI)} {N : Nat} {M : MM} {p1 : Int32} {p2 : Int32} {p3 : Int32} {p4 : Int32} {p5 : Int32}  : pM X N 245 0 (ea_ar 0 [.inr (.inl (some 190)), .inl (.inl p1), .inl (.inl p2), .inl (.inl p3), .inl (.inl p4), .inl (.inl p5)]) [] M (Vi (V_m_factOf p1 p2 p3 p4 p5 M) M) := by
  refine pM_w (F2 := [(0, .inr (.inl (some 190))), (1, .inl (.inl p1)), (2, .inl (.inl p2)), (3, .inl (.inl p3)), (4, .inl (.inl p4)), (5, .inl (.inl p5))]) (fun L hL => lo_cons (lo_lk hL rfl) (lo_cons (lo_lk hL rfl) (lo_cons (lo_lk hL rfl) (lo_cons (lo_lk hL rfl) (lo_cons (lo_lk hL rfl) (lo_cons (lo_lk hL rfl) lo_nil)))))) ?_
  refine pM_iln rfl rfl ?_
  refine pM_sw rfl rfl (fun h1 => ?_) (fun j o t h1 ho hto => ?_)
  · refine pM_iln rfl rfl ?_
    exact pM_rVi rfl (Eq.trans (if_neg (sw_o h1 (by decide))) (Eq.trans (if_neg (sw_o h1 (by decide))) (Eq.trans (if_neg (sw_o h1 (by decide))) (Eq.trans (if_neg (sw_o h1 (by decide))) (Eq.trans (if_neg (sw_o h1 (by decide))) rfl)))))
  · match j, h1, ho with
    | 0, h1, ho =>
      have e := Option.some.inj ho
      subst e
      have e := Option.some.inj hto
      subst e
      refine pM_iln rfl rfl ?_
      exact pM_rVi rfl (Eq.trans (if_pos (sw_e h1 (by decide))) rfl)
    | 1, h1, ho =>
      have e := Option.some.inj ho
      subst e
      have e := Option.some.inj hto
      subst e
      refine pM_il rfl rfl ?_
      exact pM_rVi rfl (Eq.trans (if_neg (sw_n h1 (by decide))) (Eq.trans (if_pos (sw_e h1 (by decide))) rfl))
    | 2, h1, ho =>
      have e := Option.some.inj ho
      subst e
      have e := Option.some.inj hto
      subst e
      refine pM_il rfl rfl ?_
      exact pM_rVi rfl (Eq.trans (if_neg (sw_n h1 (by decide))) (Eq.trans (if_neg (sw_n h1 (by decide))) (Eq.trans (if_pos (sw_e h1 (by decide))) rfl)))
    | 3, h1, ho =>
      have e := Option.some.inj ho
      subst e
      have e := Option.some.inj hto
      subst e
      refine pM_aln rfl rfl rfl ?_
      refine pM_il rfl rfl ?_
      refine pM_ic rfl ki_1 ?_
      refine pM_qVi (as := [.inr (.inl (some 190)), .inl (.inl p4), .inl (.inl 1)]) (T := []) rfl rfl (fun C hC => cl_v hC rfl rfl rfl rfl) rfl (q_m_of ) ?_
      refine pM_qVi (as := [.inl (.inl (V_m_of p4 1 M))]) (T := []) rfl rfl (fun _ _ => rfl) rfl (q_Int_bitCount ) ?_
      exact pM_rVi rfl (Eq.trans (if_neg (sw_n h1 (by decide))) (Eq.trans (if_neg (sw_n h1 (by decide))) (Eq.trans (if_neg (sw_n h1 (by decide))) (Eq.trans (if_pos (sw_e h1 (by decide))) rfl))))
    | 4, h1, ho =>
      have e := Option.some.inj ho
      subst e
      have e := Option.some.inj hto
      subst e
      refine pM_il rfl rfl ?_
      refine pM_bi rfl kb_7 ?_
      refine pM_rem rfl ?_
      refine pM_zne rfl rfl (fun h2 => ?_) (fun h2 => ?_)
      · refine pM_ic rfl ki_0 ?_
        exact pM_rVi rfl (Eq.trans (if_neg (sw_n h1 (by decide))) (Eq.trans (if_neg (sw_n h1 (by decide))) (Eq.trans (if_neg (sw_n h1 (by decide))) (Eq.trans (if_neg (sw_n h1 (by decide))) (Eq.trans (if_pos (sw_e h1 (by decide))) (Eq.trans (if_neg h2) rfl))))))
      · refine pM_ic rfl ki_1 ?_
        refine pM_go rfl rfl ?_
        exact pM_rVi rfl (Eq.trans (if_neg (sw_n h1 (by decide))) (Eq.trans (if_neg (sw_n h1 (by decide))) (Eq.trans (if_neg (sw_n h1 (by decide))) (Eq.trans (if_neg (sw_n h1 (by decide))) (Eq.trans (if_pos (sw_e h1 (by decide))) (Eq.trans (if_pos h2) rfl))))))
    | j + 5, _, ho => exact absurd ho (by simp)
