/-! WHAT EACH METHOD COMES TO (gw.py) -/
def B_m_next_64 (p1 : Int32) (k99 : MM → Prop) (Q : Int32 → MM → Prop) (N : Nat) (ih : Int32 → MM → Prop) (v3 : Int32) (M : MM) : Prop :=
  ((v3 < 64 →
    W_m_nevers  N (wi M 210 (ni v3) 0) (fun r17 =>
      W_m_forbidsNow r17 v3 p1 N (wi M 210 (ni v3) 0) (fun r19 M20 =>
        ih (v3 + 1) (wi M20 211 (ni v3) r19)))) ∧
   (¬ v3 < 64 →
    k99 M))
def W_m_next_64 (p1 : Int32) (k99 : MM → Prop) (Q : Int32 → MM → Prop) : Nat → Int32 → MM → Prop
  | 0, _, _ => True
  | N + 1, v3, M => B_m_next_64 p1 k99 Q N (W_m_next_64 p1 k99 Q N) v3 M
theorem I_m_next_64 (p1 : Int32) (k99 : MM → Prop) (Q : Int32 → MM → Prop) (inv : Int32 → MM → Prop) (hs : ∀ (N : Nat) (ih : Int32 → MM → Prop) (v3 : Int32) (M : MM), (∀ (v3 : Int32) (M : MM), inv v3 M → ih v3 M) → inv v3 M → B_m_next_64 p1 k99 Q N ih v3 M) : ∀ (N : Nat) (v3 : Int32) (M : MM), inv v3 M → W_m_next_64 p1 k99 Q N v3 M := by
  intro N
  induction N with
  | zero => intros; trivial
  | succ N IH =>
    intro v3 M h
    exact hs N _ v3 M IH h
theorem q_m_next_64 {X : Option (List AI)} {N0 : Nat} {p1 : Int32} {k99 : MM → Prop} {Q : Int32 → MM → Prop}  (hk99 : ∀  (M : MM), k99 M → pM X N0 279 99 [(0, .inr (.inl (some 190)))] [] M (Ri Q)) : ∀ (N : Nat), N ≤ N0 → ∀ (v3 : Int32) (M : MM), W_m_next_64 p1 k99 Q N v3 M → pM X N 279 64 [(0, .inr (.inl (some 190))), (1, .inl (.inl p1)), (3, .inl (.inl v3))] [] M (Ri Q) := by
  intro N
  induction N with
  | zero => intros; exact pM_zero
  | succ N IH =>
    intro hN v3 M h
    replace hN := Nat.le_of_succ_le hN
    replace h : B_m_next_64 p1 k99 Q N (W_m_next_64 p1 k99 Q N) v3 M := h
    refine pM_s (pMs_iln rfl rfl ?_)
    refine pM_bi rfl kb_64 ?_
    refine pM_cge rfl rfl (fun h16 => ?_) (fun h16 => ?_)
    · replace h := h.2 h16
      refine pM_w (F2 := [(0, .inr (.inl (some 190)))]) (fun L hL => lo_cons (lo_lk hL rfl) lo_nil) ?_
      exact pM_le hN (hk99 _ h)
    · replace h := h.1 h16
      refine pM_aln rfl rfl rfl ?_
      refine pM_gr rfl rfl rfl rfl ?_
      refine pM_iln rfl rfl ?_
      refine pM_ic rfl ki_0 ?_
      refine pM_sa rfl rfl (one_p _) ?_
      refine pM_aln rfl rfl rfl ?_
      refine pM_gr rfl rfl rfl rfl ?_
      refine pM_iln rfl rfl ?_
      refine pM_aln rfl rfl rfl ?_
      refine pM_aln rfl rfl rfl ?_
      refine pM_qPi (as := [.inr (.inl (some 190))]) (T := [.inr (.inl (some 190)), .inl (.inl v3), .inr (.inl (some 211))]) rfl rfl (fun C hC => cl_v hC rfl rfl rfl rfl) rfl (q_m_nevers  h) (fun r17 h => ?_)
      refine pM_iln rfl rfl ?_
      refine pM_iln rfl rfl ?_
      refine pM_qRi (as := [.inr (.inl (some 190)), .inl (.inl r17), .inl (.inl v3), .inl (.inl p1)]) (T := [.inl (.inl v3), .inr (.inl (some 211))]) rfl rfl (fun C hC => cl_v hC rfl rfl rfl rfl) rfl (q_m_forbidsNow  h) (fun r19 M20 h => ?_)
      refine pM_sa rfl rfl (one_p _) ?_
      refine pM_ii rfl rfl rfl ki_1 ?_
      refine pM_go rfl rfl ?_
      refine pM_w (F2 := [(0, .inr (.inl (some 190))), (1, .inl (.inl p1)), (3, .inl (.inl (v3 + 1)))]) (fun L hL => lo_cons (lo_lk hL rfl) (lo_cons (lo_lk hL rfl) (lo_cons (lo_lk hL rfl) lo_nil))) ?_
      exact IH hN (v3 + 1) (wi M20 211 (ni v3) r19) h
def B_m_next_133 (p1 : Int32) (u3 : Int32) (u4 : Int32) (k174 : MM → Prop) (Q : Int32 → MM → Prop) (N : Nat) (ih : Int32 → MM → Prop) (v5 : Int32) (M : MM) : Prop :=
  ((v5 < 64 →
    ((((M.1 211 (ni v5)) &&& u4) = 0 →
      ih (v5 + 1) (wi M 210 (ni v5) ((M.1 210 (ni v5)) + 0))) ∧
     (¬ ((M.1 211 (ni v5)) &&& u4) = 0 →
      ih (v5 + 1) (wi M 210 (ni v5) ((M.1 210 (ni v5)) + 1))))) ∧
   (¬ v5 < 64 →
    k174 M))
def W_m_next_133 (p1 : Int32) (u3 : Int32) (u4 : Int32) (k174 : MM → Prop) (Q : Int32 → MM → Prop) : Nat → Int32 → MM → Prop
  | 0, _, _ => True
  | N + 1, v5, M => B_m_next_133 p1 u3 u4 k174 Q N (W_m_next_133 p1 u3 u4 k174 Q N) v5 M
theorem I_m_next_133 (p1 : Int32) (u3 : Int32) (u4 : Int32) (k174 : MM → Prop) (Q : Int32 → MM → Prop) (inv : Int32 → MM → Prop) (hs : ∀ (N : Nat) (ih : Int32 → MM → Prop) (v5 : Int32) (M : MM), (∀ (v5 : Int32) (M : MM), inv v5 M → ih v5 M) → inv v5 M → B_m_next_133 p1 u3 u4 k174 Q N ih v5 M) : ∀ (N : Nat) (v5 : Int32) (M : MM), inv v5 M → W_m_next_133 p1 u3 u4 k174 Q N v5 M := by
  intro N
  induction N with
  | zero => intros; trivial
  | succ N IH =>
    intro v5 M h
    exact hs N _ v5 M IH h
theorem q_m_next_133 {X : Option (List AI)} {N0 : Nat} {p1 : Int32} {u3 : Int32} {u4 : Int32} {k174 : MM → Prop} {Q : Int32 → MM → Prop}  (hk174 : ∀  (M : MM), k174 M → pM X N0 279 174 [(0, .inr (.inl (some 190))), (3, .inl (.inl u3)), (4, .inl (.inl u4))] [] M (Ri Q)) : ∀ (N : Nat), N ≤ N0 → ∀ (v5 : Int32) (M : MM), W_m_next_133 p1 u3 u4 k174 Q N v5 M → pM X N 279 133 [(0, .inr (.inl (some 190))), (3, .inl (.inl u3)), (4, .inl (.inl u4)), (5, .inl (.inl v5))] [] M (Ri Q) := by
  intro N
  induction N with
  | zero => intros; exact pM_zero
  | succ N IH =>
    intro hN v5 M h
    replace hN := Nat.le_of_succ_le hN
    replace h : B_m_next_133 p1 u3 u4 k174 Q N (W_m_next_133 p1 u3 u4 k174 Q N) v5 M := h
    refine pM_s (pMs_il rfl rfl ?_)
    refine pM_bi rfl kb_64 ?_
    refine pM_cge rfl rfl (fun h26 => ?_) (fun h26 => ?_)
    · replace h := h.2 h26
      refine pM_w (F2 := [(0, .inr (.inl (some 190))), (3, .inl (.inl u3)), (4, .inl (.inl u4))]) (fun L hL => lo_cons (lo_lk hL rfl) (lo_cons (lo_lk hL rfl) (lo_cons (lo_lk hL rfl) lo_nil))) ?_
      exact pM_le hN (hk174 _ h)
    · replace h := h.1 h26
      refine pM_aln rfl rfl rfl ?_
      refine pM_gr rfl rfl rfl rfl ?_
      refine pM_il rfl rfl ?_
      refine pM_p (pc' := 147) (S' := [.inl (.inl v5), .inr (.inl (some 210)), .inl (.inl v5), .inr (.inl (some 210))]) rfl rfl (fun _ => rfl) ?_
      refine pM_ai rfl rfl (one_p _) ?_
      refine pM_aln rfl rfl rfl ?_
      refine pM_gr rfl rfl rfl rfl ?_
      refine pM_il rfl rfl ?_
      refine pM_ai rfl rfl (one_p _) ?_
      refine pM_il rfl rfl ?_
      refine pM_and rfl ?_
      refine pM_zeq rfl rfl (fun h27 => ?_) (fun h27 => ?_)
      · replace h := h.1 h27
        refine pM_ic rfl ki_0 ?_
        refine pM_add rfl ?_
        refine pM_sa rfl rfl (one_p _) ?_
        refine pM_ii rfl rfl rfl ki_1 ?_
        refine pM_go rfl rfl ?_
        refine pM_w (F2 := [(0, .inr (.inl (some 190))), (3, .inl (.inl u3)), (4, .inl (.inl u4)), (5, .inl (.inl (v5 + 1)))]) (fun L hL => lo_cons (lo_lk hL rfl) (lo_cons (lo_lk hL rfl) (lo_cons (lo_lk hL rfl) (lo_cons (lo_lk hL rfl) lo_nil)))) ?_
        exact IH hN (v5 + 1) (wi M 210 (ni v5) ((M.1 210 (ni v5)) + 0)) h
      · replace h := h.2 h27
        refine pM_ic rfl ki_1 ?_
        refine pM_go rfl rfl ?_
        refine pM_add rfl ?_
        refine pM_sa rfl rfl (one_p _) ?_
        refine pM_ii rfl rfl rfl ki_1 ?_
        refine pM_go rfl rfl ?_
        refine pM_w (F2 := [(0, .inr (.inl (some 190))), (3, .inl (.inl u3)), (4, .inl (.inl u4)), (5, .inl (.inl (v5 + 1)))]) (fun L hL => lo_cons (lo_lk hL rfl) (lo_cons (lo_lk hL rfl) (lo_cons (lo_lk hL rfl) (lo_cons (lo_lk hL rfl) lo_nil)))) ?_
        exact IH hN (v5 + 1) (wi M 210 (ni v5) ((M.1 210 (ni v5)) + 1)) h
def B_m_next_104 (p1 : Int32) (k180 : Int32 → MM → Prop) (Q : Int32 → MM → Prop) (N : Nat) (ih : Int32 → Int32 → MM → Prop) (v3 : Int32) (v4 : Int32) (M : MM) : Prop :=
  ((v4 < (sl 1 (V_m_clauses  M)) →
    W_m_isCode v4 N M (fun r23 =>
      ((r23 = 0 →
        ih v3 (v4 + 1) M) ∧
       (¬ r23 = 0 →
        W_m_next_133 p1 (v3 + 1) v4 (fun M28 =>
          ih (v3 + 1) (v4 + 1) M28) Q N 0 M)))) ∧
   (¬ v4 < (sl 1 (V_m_clauses  M)) →
    k180 v3 M))
def W_m_next_104 (p1 : Int32) (k180 : Int32 → MM → Prop) (Q : Int32 → MM → Prop) : Nat → Int32 → Int32 → MM → Prop
  | 0, _, _, _ => True
  | N + 1, v3, v4, M => B_m_next_104 p1 k180 Q N (W_m_next_104 p1 k180 Q N) v3 v4 M
theorem I_m_next_104 (p1 : Int32) (k180 : Int32 → MM → Prop) (Q : Int32 → MM → Prop) (inv : Int32 → Int32 → MM → Prop) (hs : ∀ (N : Nat) (ih : Int32 → Int32 → MM → Prop) (v3 : Int32) (v4 : Int32) (M : MM), (∀ (v3 : Int32) (v4 : Int32) (M : MM), inv v3 v4 M → ih v3 v4 M) → inv v3 v4 M → B_m_next_104 p1 k180 Q N ih v3 v4 M) : ∀ (N : Nat) (v3 : Int32) (v4 : Int32) (M : MM), inv v3 v4 M → W_m_next_104 p1 k180 Q N v3 v4 M := by
  intro N
  induction N with
  | zero => intros; trivial
  | succ N IH =>
    intro v3 v4 M h
    exact hs N _ v3 v4 M IH h
theorem q_m_next_104 {X : Option (List AI)} {N0 : Nat} {p1 : Int32} {k180 : Int32 → MM → Prop} {Q : Int32 → MM → Prop}  (hk180 : ∀ (v3 : Int32) (M : MM), k180 v3 M → pM X N0 279 180 [(0, .inr (.inl (some 190))), (3, .inl (.inl v3))] [] M (Ri Q)) : ∀ (N : Nat), N ≤ N0 → ∀ (v3 : Int32) (v4 : Int32) (M : MM), W_m_next_104 p1 k180 Q N v3 v4 M → pM X N 279 104 [(0, .inr (.inl (some 190))), (3, .inl (.inl v3)), (4, .inl (.inl v4))] [] M (Ri Q) := by
  intro N
  induction N with
  | zero => intros; exact pM_zero
  | succ N IH =>
    intro hN v3 v4 M h
    replace hN := Nat.le_of_succ_le hN
    replace h : B_m_next_104 p1 k180 Q N (W_m_next_104 p1 k180 Q N) v3 v4 M := h
    refine pM_s (pMs_il rfl rfl ?_)
    refine pM_ic rfl ki_1 ?_
    refine pM_aln rfl rfl rfl ?_
    refine pM_qVi (as := [.inr (.inl (some 190))]) (T := [.inl (.inl 1), .inl (.inl v4)]) rfl rfl (fun C hC => cl_v hC rfl rfl rfl rfl) rfl (q_m_clauses ) ?_
    refine pM_shl rfl ?_
    refine pM_cge rfl rfl (fun h22 => ?_) (fun h22 => ?_)
    · replace h := h.2 h22
      refine pM_w (F2 := [(0, .inr (.inl (some 190))), (3, .inl (.inl v3))]) (fun L hL => lo_cons (lo_lk hL rfl) (lo_cons (lo_lk hL rfl) lo_nil)) ?_
      exact pM_le hN (hk180 _ _ h)
    · replace h := h.1 h22
      refine pM_aln rfl rfl rfl ?_
      refine pM_il rfl rfl ?_
      refine pM_qPi (as := [.inr (.inl (some 190)), .inl (.inl v4)]) (T := []) rfl rfl (fun C hC => cl_v hC rfl rfl rfl rfl) rfl (q_m_isCode  h) (fun r23 h => ?_)
      refine pM_zne rfl rfl (fun h25 => ?_) (fun h25 => ?_)
      · replace h := h.2 h25
        refine pM_ii rfl rfl rfl ki_1 ?_
        refine pM_ic rfl ki_0 ?_
        refine pM_is rfl rfl ?_
        refine pM_w (F2 := [(0, .inr (.inl (some 190))), (3, .inl (.inl (v3 + 1))), (4, .inl (.inl v4)), (5, .inl (.inl 0))]) (fun L hL => lo_cons (lo_lk hL rfl) (lo_cons (lo_lk hL rfl) (lo_cons (lo_lk hL rfl) (lo_cons (lo_lk hL rfl) lo_nil)))) ?_
        refine q_m_next_133  (fun M28 h => ?_) N (Nat.le_refl N) 0 M h
        · refine pM_ii rfl rfl rfl ki_1 ?_
          refine pM_go rfl rfl ?_
          refine pM_w (F2 := [(0, .inr (.inl (some 190))), (3, .inl (.inl (v3 + 1))), (4, .inl (.inl (v4 + 1)))]) (fun L hL => lo_cons (lo_lk hL rfl) (lo_cons (lo_lk hL rfl) (lo_cons (lo_lk hL rfl) lo_nil))) ?_
          exact IH hN (v3 + 1) (v4 + 1) M28 h
      · replace h := h.1 h25
        refine pM_go rfl rfl ?_
        refine pM_ii rfl rfl rfl ki_1 ?_
        refine pM_go rfl rfl ?_
        refine pM_w (F2 := [(0, .inr (.inl (some 190))), (3, .inl (.inl v3)), (4, .inl (.inl (v4 + 1)))]) (fun L hL => lo_cons (lo_lk hL rfl) (lo_cons (lo_lk hL rfl) (lo_cons (lo_lk hL rfl) lo_nil))) ?_
        exact IH hN v3 (v4 + 1) M h
def B_m_next_186 (p1 : Int32) (u3 : Int32) (M : MM) (Q : Int32 → MM → Prop) (N : Nat) (ih : Int32 → Int32 → Prop) (v4 : Int32) (v5 : Int32) : Prop :=
  ((v5 < 64 →
    (((mx (M.1 210 (ni v5)) (u3 - (M.1 210 (ni v5)))) < (mx (M.1 210 (ni v4)) (u3 - (M.1 210 (ni v4)))) →
      ih v5 (v5 + 1)) ∧
     (¬ (mx (M.1 210 (ni v5)) (u3 - (M.1 210 (ni v5)))) < (mx (M.1 210 (ni v4)) (u3 - (M.1 210 (ni v4)))) →
      ih v4 (v5 + 1)))) ∧
   (¬ v5 < 64 →
    ((u3 < 2 →
      Q (-1) M) ∧
     (¬ u3 < 2 →
      Q v4 M))))
def W_m_next_186 (p1 : Int32) (u3 : Int32) (M : MM) (Q : Int32 → MM → Prop) : Nat → Int32 → Int32 → Prop
  | 0, _, _ => True
  | N + 1, v4, v5 => B_m_next_186 p1 u3 M Q N (W_m_next_186 p1 u3 M Q N) v4 v5
theorem I_m_next_186 (p1 : Int32) (u3 : Int32) (M : MM) (Q : Int32 → MM → Prop) (inv : Int32 → Int32 → Prop) (hs : ∀ (N : Nat) (ih : Int32 → Int32 → Prop) (v4 : Int32) (v5 : Int32), (∀ (v4 : Int32) (v5 : Int32), inv v4 v5 → ih v4 v5) → inv v4 v5 → B_m_next_186 p1 u3 M Q N ih v4 v5) : ∀ (N : Nat) (v4 : Int32) (v5 : Int32), inv v4 v5 → W_m_next_186 p1 u3 M Q N v4 v5 := by
  intro N
  induction N with
  | zero => intros; trivial
  | succ N IH =>
    intro v4 v5 h
    exact hs N _ v4 v5 IH h
theorem q_m_next_186 {X : Option (List AI)} {N0 : Nat} {p1 : Int32} {u3 : Int32} {M : MM} {Q : Int32 → MM → Prop}   : ∀ (N : Nat), N ≤ N0 → ∀ (v4 : Int32) (v5 : Int32), W_m_next_186 p1 u3 M Q N v4 v5 → pM X N 279 186 [(0, .inr (.inl (some 190))), (3, .inl (.inl u3)), (4, .inl (.inl v4)), (5, .inl (.inl v5))] [] M (Ri Q) := by
  intro N
  induction N with
  | zero => intros; exact pM_zero
  | succ N IH =>
    intro hN v4 v5 h
    replace hN := Nat.le_of_succ_le hN
    replace h : B_m_next_186 p1 u3 M Q N (W_m_next_186 p1 u3 M Q N) v4 v5 := h
    refine pM_s (pMs_il rfl rfl ?_)
    refine pM_bi rfl kb_64 ?_
    refine pM_cge rfl rfl (fun h31 => ?_) (fun h31 => ?_)
    · replace h := h.2 h31
      refine pM_iln rfl rfl ?_
      refine pM_ic rfl ki_2 ?_
      refine pM_cge rfl rfl (fun h33 => ?_) (fun h33 => ?_)
      · replace h := h.2 h33
        refine pM_il rfl rfl ?_
        exact pM_ri rfl (⟨_, rfl, h⟩)
      · replace h := h.1 h33
        refine pM_ic rfl ki_m1 ?_
        refine pM_go rfl rfl ?_
        exact pM_ri rfl (⟨_, rfl, h⟩)
    · replace h := h.1 h31
      refine pM_aln rfl rfl rfl ?_
      refine pM_gr rfl rfl rfl rfl ?_
      refine pM_il rfl rfl ?_
      refine pM_ai rfl rfl (one_p _) ?_
      refine pM_iln rfl rfl ?_
      refine pM_aln rfl rfl rfl ?_
      refine pM_gr rfl rfl rfl rfl ?_
      refine pM_il rfl rfl ?_
      refine pM_ai rfl rfl (one_p _) ?_
      refine pM_sub rfl ?_
      refine pM_mx rfl rfl ?_
      refine pM_aln rfl rfl rfl ?_
      refine pM_gr rfl rfl rfl rfl ?_
      refine pM_il rfl rfl ?_
      refine pM_ai rfl rfl (one_p _) ?_
      refine pM_iln rfl rfl ?_
      refine pM_aln rfl rfl rfl ?_
      refine pM_gr rfl rfl rfl rfl ?_
      refine pM_il rfl rfl ?_
      refine pM_ai rfl rfl (one_p _) ?_
      refine pM_sub rfl ?_
      refine pM_mx rfl rfl ?_
      refine pM_cge rfl rfl (fun h32 => ?_) (fun h32 => ?_)
      · replace h := h.2 h32
        refine pM_il rfl rfl ?_
        refine pM_is rfl rfl ?_
        refine pM_ii rfl rfl rfl ki_1 ?_
        refine pM_go rfl rfl ?_
        refine pM_w (F2 := [(0, .inr (.inl (some 190))), (3, .inl (.inl u3)), (4, .inl (.inl v4)), (5, .inl (.inl (v5 + 1)))]) (fun L hL => lo_cons (lo_lk hL rfl) (lo_cons (lo_lk hL rfl) (lo_cons (lo_lk hL rfl) (lo_cons (lo_lk hL rfl) lo_nil)))) ?_
        exact IH hN v4 (v5 + 1) h
      · replace h := h.1 h32
        refine pM_il rfl rfl ?_
        refine pM_go rfl rfl ?_
        refine pM_is rfl rfl ?_
        refine pM_ii rfl rfl rfl ki_1 ?_
        refine pM_go rfl rfl ?_
        refine pM_w (F2 := [(0, .inr (.inl (some 190))), (3, .inl (.inl u3)), (4, .inl (.inl v5)), (5, .inl (.inl (v5 + 1)))]) (fun L hL => lo_cons (lo_lk hL rfl) (lo_cons (lo_lk hL rfl) (lo_cons (lo_lk hL rfl) (lo_cons (lo_lk hL rfl) lo_nil)))) ?_
        exact IH hN v5 (v5 + 1) h
/-- 279: EarCodeModel.next(I)I -/
def W_m_next (p1 : Int32) (N : Nat) (M : MM) (Q : Int32 → MM → Prop) : Prop :=
  W_m_isWatched  N M (fun r1 M2 =>
    W_m_throwsIf (V_m_noCitizen p1 M2) 1 N M2 (fun r3 M4 =>
      ((r3 = 0 →
        ((r1 = 0 →
          W_m_throwsIf 1 2 N M4 (fun r7 M8 =>
            ((r7 = 0 →
              (((V_m_isAlive p1 M8) = 0 →
                W_m_throwsIf 1 3 N M8 (fun r11 M12 =>
                  ((r11 = 0 →
                    W_m_laysWatched  N M12 (fun M15 =>
                      W_m_next_64 p1 (fun M21 =>
                        W_m_next_104 p1 (fun x29 M30 =>
                          W_m_next_186 p1 x29 M30 Q N 0 1) Q N 0 0 M21) Q N 0 M15)) ∧
                   (¬ r11 = 0 →
                    Q 0 M12)))) ∧
               (¬ (V_m_isAlive p1 M8) = 0 →
                W_m_throwsIf 0 3 N M8 (fun r34 M35 =>
                  ((r34 = 0 →
                    W_m_laysWatched  N M35 (fun M38 =>
                      W_m_next_64 p1 (fun M39 =>
                        W_m_next_104 p1 (fun x40 M41 =>
                          W_m_next_186 p1 x40 M41 Q N 0 1) Q N 0 0 M39) Q N 0 M38)) ∧
                   (¬ r34 = 0 →
                    Q 0 M35)))))) ∧
             (¬ r7 = 0 →
              Q 0 M8)))) ∧
         (¬ r1 = 0 →
          W_m_throwsIf 0 2 N M4 (fun r42 M43 =>
            ((r42 = 0 →
              (((V_m_isAlive p1 M43) = 0 →
                W_m_throwsIf 1 3 N M43 (fun r46 M47 =>
                  ((r46 = 0 →
                    W_m_laysWatched  N M47 (fun M50 =>
                      W_m_next_64 p1 (fun M51 =>
                        W_m_next_104 p1 (fun x52 M53 =>
                          W_m_next_186 p1 x52 M53 Q N 0 1) Q N 0 0 M51) Q N 0 M50)) ∧
                   (¬ r46 = 0 →
                    Q 0 M47)))) ∧
               (¬ (V_m_isAlive p1 M43) = 0 →
                W_m_throwsIf 0 3 N M43 (fun r54 M55 =>
                  ((r54 = 0 →
                    W_m_laysWatched  N M55 (fun M58 =>
                      W_m_next_64 p1 (fun M59 =>
                        W_m_next_104 p1 (fun x60 M61 =>
                          W_m_next_186 p1 x60 M61 Q N 0 1) Q N 0 0 M59) Q N 0 M58)) ∧
                   (¬ r54 = 0 →
                    Q 0 M55)))))) ∧
             (¬ r42 = 0 →
              Q 0 M43)))))) ∧
       (¬ r3 = 0 →
        Q 0 M4))))
theorem q_m_next {X : Option (List AI)} {N : Nat} {M : MM} {p1 : Int32} {Q : Int32 → MM → Prop}  (h : W_m_next p1 N M Q) : pM X N 279 0 (ea_ar 0 [.inr (.inl (some 190)), .inl (.inl p1)]) [] M (Ri Q) := by
  refine pM_w (F2 := [(0, .inr (.inl (some 190))), (1, .inl (.inl p1))]) (fun L hL => lo_cons (lo_lk hL rfl) (lo_cons (lo_lk hL rfl) lo_nil)) ?_
  refine pM_aln rfl rfl rfl ?_
  refine pM_qRi (as := [.inr (.inl (some 190))]) (T := []) rfl rfl (fun C hC => cl_v hC rfl rfl rfl rfl) rfl (q_m_isWatched  h) (fun r1 M2 h => ?_)
  refine pM_isn rfl rfl ?_
  refine pM_aln rfl rfl rfl ?_
  refine pM_aln rfl rfl rfl ?_
  refine pM_iln rfl rfl ?_
  refine pM_qVi (as := [.inr (.inl (some 190)), .inl (.inl p1)]) (T := [.inr (.inl (some 190))]) rfl rfl (fun C hC => cl_v hC rfl rfl rfl rfl) rfl (q_m_noCitizen ) ?_
  refine pM_ic rfl ki_1 ?_
  refine pM_qRi (as := [.inr (.inl (some 190)), .inl (.inl (V_m_noCitizen p1 M2)), .inl (.inl 1)]) (T := []) rfl rfl (fun C hC => cl_v hC rfl rfl rfl rfl) rfl (q_m_throwsIf  h) (fun r3 M4 h => ?_)
  refine pM_zne rfl rfl (fun h5 => ?_) (fun h5 => ?_)
  · replace h := h.2 h5
    refine pM_ic rfl ki_0 ?_
    exact pM_ri rfl (⟨_, rfl, h⟩)
  · replace h := h.1 h5
    refine pM_aln rfl rfl rfl ?_
    refine pM_iln rfl rfl ?_
    refine pM_zne rfl rfl (fun h6 => ?_) (fun h6 => ?_)
    · replace h := h.2 h6
      refine pM_ic rfl ki_0 ?_
      refine pM_ic rfl ki_2 ?_
      refine pM_qRi (as := [.inr (.inl (some 190)), .inl (.inl 0), .inl (.inl 2)]) (T := []) rfl rfl (fun C hC => cl_v hC rfl rfl rfl rfl) rfl (q_m_throwsIf  h) (fun r42 M43 h => ?_)
      refine pM_zne rfl rfl (fun h44 => ?_) (fun h44 => ?_)
      · replace h := h.2 h44
        refine pM_ic rfl ki_0 ?_
        exact pM_ri rfl (⟨_, rfl, h⟩)
      · replace h := h.1 h44
        refine pM_aln rfl rfl rfl ?_
        refine pM_aln rfl rfl rfl ?_
        refine pM_iln rfl rfl ?_
        refine pM_qVi (as := [.inr (.inl (some 190)), .inl (.inl p1)]) (T := [.inr (.inl (some 190))]) rfl rfl (fun C hC => cl_v hC rfl rfl rfl rfl) rfl (q_m_isAlive ) ?_
        refine pM_zne rfl rfl (fun h45 => ?_) (fun h45 => ?_)
        · replace h := h.2 h45
          refine pM_ic rfl ki_0 ?_
          refine pM_ic rfl ki_3 ?_
          refine pM_qRi (as := [.inr (.inl (some 190)), .inl (.inl 0), .inl (.inl 3)]) (T := []) rfl rfl (fun C hC => cl_v hC rfl rfl rfl rfl) rfl (q_m_throwsIf  h) (fun r54 M55 h => ?_)
          refine pM_zeq rfl rfl (fun h56 => ?_) (fun h56 => ?_)
          · replace h := h.1 h56
            refine pM_aln rfl rfl rfl ?_
            refine pM_qRu (as := [.inr (.inl (some 190))]) (T := []) rfl rfl (fun C hC => cl_v hC rfl rfl rfl rfl) rfl (q_m_laysWatched  h) (fun M58 h => ?_)
            refine pM_ic rfl ki_0 ?_
            refine pM_isn rfl rfl ?_
            refine pM_w (F2 := [(0, .inr (.inl (some 190))), (1, .inl (.inl p1)), (3, .inl (.inl 0))]) (fun L hL => lo_cons (lo_lk hL rfl) (lo_cons (lo_lk hL rfl) (lo_cons (lo_lk hL rfl) lo_nil))) ?_
            refine q_m_next_64  (fun M59 h => ?_) N (Nat.le_refl N) 0 M58 h
            · refine pM_ic rfl ki_0 ?_
              refine pM_isn rfl rfl ?_
              refine pM_ic rfl ki_0 ?_
              refine pM_is rfl rfl ?_
              refine pM_w (F2 := [(0, .inr (.inl (some 190))), (3, .inl (.inl 0)), (4, .inl (.inl 0))]) (fun L hL => lo_cons (lo_lk hL rfl) (lo_cons (lo_lk hL rfl) (lo_cons (lo_lk hL rfl) lo_nil))) ?_
              refine q_m_next_104  (fun x60 M61 h => ?_) N (Nat.le_refl N) 0 0 M59 h
              · refine pM_ic rfl ki_0 ?_
                refine pM_is rfl rfl ?_
                refine pM_ic rfl ki_1 ?_
                refine pM_is rfl rfl ?_
                refine pM_w (F2 := [(0, .inr (.inl (some 190))), (3, .inl (.inl x60)), (4, .inl (.inl 0)), (5, .inl (.inl 1))]) (fun L hL => lo_cons (lo_lk hL rfl) (lo_cons (lo_lk hL rfl) (lo_cons (lo_lk hL rfl) (lo_cons (lo_lk hL rfl) lo_nil)))) ?_
                refine q_m_next_186   N (Nat.le_refl N) 0 1 h
          · replace h := h.2 h56
            refine pM_ic rfl ki_0 ?_
            exact pM_ri rfl (⟨_, rfl, h⟩)
        · replace h := h.1 h45
          refine pM_ic rfl ki_1 ?_
          refine pM_go rfl rfl ?_
          refine pM_ic rfl ki_3 ?_
          refine pM_qRi (as := [.inr (.inl (some 190)), .inl (.inl 1), .inl (.inl 3)]) (T := []) rfl rfl (fun C hC => cl_v hC rfl rfl rfl rfl) rfl (q_m_throwsIf  h) (fun r46 M47 h => ?_)
          refine pM_zeq rfl rfl (fun h48 => ?_) (fun h48 => ?_)
          · replace h := h.1 h48
            refine pM_aln rfl rfl rfl ?_
            refine pM_qRu (as := [.inr (.inl (some 190))]) (T := []) rfl rfl (fun C hC => cl_v hC rfl rfl rfl rfl) rfl (q_m_laysWatched  h) (fun M50 h => ?_)
            refine pM_ic rfl ki_0 ?_
            refine pM_isn rfl rfl ?_
            refine pM_w (F2 := [(0, .inr (.inl (some 190))), (1, .inl (.inl p1)), (3, .inl (.inl 0))]) (fun L hL => lo_cons (lo_lk hL rfl) (lo_cons (lo_lk hL rfl) (lo_cons (lo_lk hL rfl) lo_nil))) ?_
            refine q_m_next_64  (fun M51 h => ?_) N (Nat.le_refl N) 0 M50 h
            · refine pM_ic rfl ki_0 ?_
              refine pM_isn rfl rfl ?_
              refine pM_ic rfl ki_0 ?_
              refine pM_is rfl rfl ?_
              refine pM_w (F2 := [(0, .inr (.inl (some 190))), (3, .inl (.inl 0)), (4, .inl (.inl 0))]) (fun L hL => lo_cons (lo_lk hL rfl) (lo_cons (lo_lk hL rfl) (lo_cons (lo_lk hL rfl) lo_nil))) ?_
              refine q_m_next_104  (fun x52 M53 h => ?_) N (Nat.le_refl N) 0 0 M51 h
              · refine pM_ic rfl ki_0 ?_
                refine pM_is rfl rfl ?_
                refine pM_ic rfl ki_1 ?_
                refine pM_is rfl rfl ?_
                refine pM_w (F2 := [(0, .inr (.inl (some 190))), (3, .inl (.inl x52)), (4, .inl (.inl 0)), (5, .inl (.inl 1))]) (fun L hL => lo_cons (lo_lk hL rfl) (lo_cons (lo_lk hL rfl) (lo_cons (lo_lk hL rfl) (lo_cons (lo_lk hL rfl) lo_nil)))) ?_
                refine q_m_next_186   N (Nat.le_refl N) 0 1 h
          · replace h := h.2 h48
            refine pM_ic rfl ki_0 ?_
            exact pM_ri rfl (⟨_, rfl, h⟩)
    · replace h := h.1 h6
      refine pM_ic rfl ki_1 ?_
      refine pM_go rfl rfl ?_
      refine pM_ic rfl ki_2 ?_
      refine pM_qRi (as := [.inr (.inl (some 190)), .inl (.inl 1), .inl (.inl 2)]) (T := []) rfl rfl (fun C hC => cl_v hC rfl rfl rfl rfl) rfl (q_m_throwsIf  h) (fun r7 M8 h => ?_)
      refine pM_zne rfl rfl (fun h9 => ?_) (fun h9 => ?_)
      · replace h := h.2 h9
        refine pM_ic rfl ki_0 ?_
        exact pM_ri rfl (⟨_, rfl, h⟩)
      · replace h := h.1 h9
        refine pM_aln rfl rfl rfl ?_
        refine pM_aln rfl rfl rfl ?_
        refine pM_iln rfl rfl ?_
        refine pM_qVi (as := [.inr (.inl (some 190)), .inl (.inl p1)]) (T := [.inr (.inl (some 190))]) rfl rfl (fun C hC => cl_v hC rfl rfl rfl rfl) rfl (q_m_isAlive ) ?_
        refine pM_zne rfl rfl (fun h10 => ?_) (fun h10 => ?_)
        · replace h := h.2 h10
          refine pM_ic rfl ki_0 ?_
          refine pM_ic rfl ki_3 ?_
          refine pM_qRi (as := [.inr (.inl (some 190)), .inl (.inl 0), .inl (.inl 3)]) (T := []) rfl rfl (fun C hC => cl_v hC rfl rfl rfl rfl) rfl (q_m_throwsIf  h) (fun r34 M35 h => ?_)
          refine pM_zeq rfl rfl (fun h36 => ?_) (fun h36 => ?_)
          · replace h := h.1 h36
            refine pM_aln rfl rfl rfl ?_
            refine pM_qRu (as := [.inr (.inl (some 190))]) (T := []) rfl rfl (fun C hC => cl_v hC rfl rfl rfl rfl) rfl (q_m_laysWatched  h) (fun M38 h => ?_)
            refine pM_ic rfl ki_0 ?_
            refine pM_isn rfl rfl ?_
            refine pM_w (F2 := [(0, .inr (.inl (some 190))), (1, .inl (.inl p1)), (3, .inl (.inl 0))]) (fun L hL => lo_cons (lo_lk hL rfl) (lo_cons (lo_lk hL rfl) (lo_cons (lo_lk hL rfl) lo_nil))) ?_
            refine q_m_next_64  (fun M39 h => ?_) N (Nat.le_refl N) 0 M38 h
            · refine pM_ic rfl ki_0 ?_
              refine pM_isn rfl rfl ?_
              refine pM_ic rfl ki_0 ?_
              refine pM_is rfl rfl ?_
              refine pM_w (F2 := [(0, .inr (.inl (some 190))), (3, .inl (.inl 0)), (4, .inl (.inl 0))]) (fun L hL => lo_cons (lo_lk hL rfl) (lo_cons (lo_lk hL rfl) (lo_cons (lo_lk hL rfl) lo_nil))) ?_
              refine q_m_next_104  (fun x40 M41 h => ?_) N (Nat.le_refl N) 0 0 M39 h
              · refine pM_ic rfl ki_0 ?_
                refine pM_is rfl rfl ?_
                refine pM_ic rfl ki_1 ?_
                refine pM_is rfl rfl ?_
                refine pM_w (F2 := [(0, .inr (.inl (some 190))), (3, .inl (.inl x40)), (4, .inl (.inl 0)), (5, .inl (.inl 1))]) (fun L hL => lo_cons (lo_lk hL rfl) (lo_cons (lo_lk hL rfl) (lo_cons (lo_lk hL rfl) (lo_cons (lo_lk hL rfl) lo_nil)))) ?_
                refine q_m_next_186   N (Nat.le_refl N) 0 1 h
          · replace h := h.2 h36
            refine pM_ic rfl ki_0 ?_
            exact pM_ri rfl (⟨_, rfl, h⟩)
        · replace h := h.1 h10
          refine pM_ic rfl ki_1 ?_
          refine pM_go rfl rfl ?_
          refine pM_ic rfl ki_3 ?_
          refine pM_qRi (as := [.inr (.inl (some 190)), .inl (.inl 1), .inl (.inl 3)]) (T := []) rfl rfl (fun C hC => cl_v hC rfl rfl rfl rfl) rfl (q_m_throwsIf  h) (fun r11 M12 h => ?_)
          refine pM_zeq rfl rfl (fun h13 => ?_) (fun h13 => ?_)
          · replace h := h.1 h13
            refine pM_aln rfl rfl rfl ?_
            refine pM_qRu (as := [.inr (.inl (some 190))]) (T := []) rfl rfl (fun C hC => cl_v hC rfl rfl rfl rfl) rfl (q_m_laysWatched  h) (fun M15 h => ?_)
            refine pM_ic rfl ki_0 ?_
            refine pM_isn rfl rfl ?_
            refine pM_w (F2 := [(0, .inr (.inl (some 190))), (1, .inl (.inl p1)), (3, .inl (.inl 0))]) (fun L hL => lo_cons (lo_lk hL rfl) (lo_cons (lo_lk hL rfl) (lo_cons (lo_lk hL rfl) lo_nil))) ?_
            refine q_m_next_64  (fun M21 h => ?_) N (Nat.le_refl N) 0 M15 h
            · refine pM_ic rfl ki_0 ?_
              refine pM_isn rfl rfl ?_
              refine pM_ic rfl ki_0 ?_
              refine pM_is rfl rfl ?_
              refine pM_w (F2 := [(0, .inr (.inl (some 190))), (3, .inl (.inl 0)), (4, .inl (.inl 0))]) (fun L hL => lo_cons (lo_lk hL rfl) (lo_cons (lo_lk hL rfl) (lo_cons (lo_lk hL rfl) lo_nil))) ?_
              refine q_m_next_104  (fun x29 M30 h => ?_) N (Nat.le_refl N) 0 0 M21 h
              · refine pM_ic rfl ki_0 ?_
                refine pM_is rfl rfl ?_
                refine pM_ic rfl ki_1 ?_
                refine pM_is rfl rfl ?_
                refine pM_w (F2 := [(0, .inr (.inl (some 190))), (3, .inl (.inl x29)), (4, .inl (.inl 0)), (5, .inl (.inl 1))]) (fun L hL => lo_cons (lo_lk hL rfl) (lo_cons (lo_lk hL rfl) (lo_cons (lo_lk hL rfl) (lo_cons (lo_lk hL rfl) lo_nil)))) ?_
                refine q_m_next_186   N (Nat.le_refl N) 0 1 h
          · replace h := h.2 h13
            refine pM_ic rfl ki_0 ?_
            exact pM_ri rfl (⟨_, rfl, h⟩)
def B_m_cover_52 (u1 : Int32) (u2 : Int32) (u3 : Int32) (M : MM) (k92 : Int32 → Prop) (Q : Int32 → MM → Prop) (N : Nat) (ih : Int32 → Int32 → Prop) (v4 : Int32) (v5 : Int32) : Prop :=
  ((v5 < (V_m_citizens  M) →
    (((V_m_has u3 v5 M) = 0 →
      ih (v4 ||| 0) (v5 + 1)) ∧
     (¬ (V_m_has u3 v5 M) = 0 →
      ih (v4 ||| (V_m_of v5 1 M)) (v5 + 1)))) ∧
   (¬ v5 < (V_m_citizens  M) →
    k92 v4))
def W_m_cover_52 (u1 : Int32) (u2 : Int32) (u3 : Int32) (M : MM) (k92 : Int32 → Prop) (Q : Int32 → MM → Prop) : Nat → Int32 → Int32 → Prop
  | 0, _, _ => True
  | N + 1, v4, v5 => B_m_cover_52 u1 u2 u3 M k92 Q N (W_m_cover_52 u1 u2 u3 M k92 Q N) v4 v5
theorem I_m_cover_52 (u1 : Int32) (u2 : Int32) (u3 : Int32) (M : MM) (k92 : Int32 → Prop) (Q : Int32 → MM → Prop) (inv : Int32 → Int32 → Prop) (hs : ∀ (N : Nat) (ih : Int32 → Int32 → Prop) (v4 : Int32) (v5 : Int32), (∀ (v4 : Int32) (v5 : Int32), inv v4 v5 → ih v4 v5) → inv v4 v5 → B_m_cover_52 u1 u2 u3 M k92 Q N ih v4 v5) : ∀ (N : Nat) (v4 : Int32) (v5 : Int32), inv v4 v5 → W_m_cover_52 u1 u2 u3 M k92 Q N v4 v5 := by
  intro N
  induction N with
  | zero => intros; trivial
  | succ N IH =>
    intro v4 v5 h
    exact hs N _ v4 v5 IH h
theorem q_m_cover_52 {X : Option (List AI)} {N0 : Nat} {u1 : Int32} {u2 : Int32} {u3 : Int32} {M : MM} {k92 : Int32 → Prop} {Q : Int32 → MM → Prop}  (hk92 : ∀ (v4 : Int32), k92 v4 → pM X N0 280 92 [(0, .inr (.inl (some 190))), (1, .inl (.inl u1)), (2, .inl (.inl u2)), (3, .inl (.inl u3)), (4, .inl (.inl v4))] [] M (Ri Q)) : ∀ (N : Nat), N ≤ N0 → ∀ (v4 : Int32) (v5 : Int32), W_m_cover_52 u1 u2 u3 M k92 Q N v4 v5 → pM X N 280 52 [(0, .inr (.inl (some 190))), (1, .inl (.inl u1)), (2, .inl (.inl u2)), (3, .inl (.inl u3)), (4, .inl (.inl v4)), (5, .inl (.inl v5))] [] M (Ri Q) := by
  intro N
  induction N with
  | zero => intros; exact pM_zero
  | succ N IH =>
    intro hN v4 v5 h
    replace hN := Nat.le_of_succ_le hN
    replace h : B_m_cover_52 u1 u2 u3 M k92 Q N (W_m_cover_52 u1 u2 u3 M k92 Q N) v4 v5 := h
    refine pM_s (pMs_il rfl rfl ?_)
    refine pM_aln rfl rfl rfl ?_
    refine pM_qVi (as := [.inr (.inl (some 190))]) (T := [.inl (.inl v5)]) rfl rfl (fun C hC => cl_v hC rfl rfl rfl rfl) rfl (q_m_citizens ) ?_
    refine pM_cge rfl rfl (fun h10 => ?_) (fun h10 => ?_)
    · replace h := h.2 h10
      refine pM_w (F2 := [(0, .inr (.inl (some 190))), (1, .inl (.inl u1)), (2, .inl (.inl u2)), (3, .inl (.inl u3)), (4, .inl (.inl v4))]) (fun L hL => lo_cons (lo_lk hL rfl) (lo_cons (lo_lk hL rfl) (lo_cons (lo_lk hL rfl) (lo_cons (lo_lk hL rfl) (lo_cons (lo_lk hL rfl) lo_nil))))) ?_
      exact pM_le hN (hk92 _ h)
    · replace h := h.1 h10
      refine pM_il rfl rfl ?_
      refine pM_iln rfl rfl ?_
      refine pM_il rfl rfl ?_
      refine pM_qVi (as := [.inl (.inl u3), .inl (.inl v5)]) (T := [.inl (.inl v4)]) rfl rfl (fun _ _ => rfl) rfl (q_m_has ) ?_
      refine pM_zeq rfl rfl (fun h11 => ?_) (fun h11 => ?_)
      · replace h := h.1 h11
        refine pM_ic rfl ki_0 ?_
        refine pM_or rfl ?_
        refine pM_is rfl rfl ?_
        refine pM_ii rfl rfl rfl ki_1 ?_
        refine pM_go rfl rfl ?_
        refine pM_w (F2 := [(0, .inr (.inl (some 190))), (1, .inl (.inl u1)), (2, .inl (.inl u2)), (3, .inl (.inl u3)), (4, .inl (.inl (v4 ||| 0))), (5, .inl (.inl (v5 + 1)))]) (fun L hL => lo_cons (lo_lk hL rfl) (lo_cons (lo_lk hL rfl) (lo_cons (lo_lk hL rfl) (lo_cons (lo_lk hL rfl) (lo_cons (lo_lk hL rfl) (lo_cons (lo_lk hL rfl) lo_nil)))))) ?_
        exact IH hN (v4 ||| 0) (v5 + 1) h
      · replace h := h.2 h11
        refine pM_aln rfl rfl rfl ?_
        refine pM_il rfl rfl ?_
        refine pM_ic rfl ki_1 ?_
        refine pM_qVi (as := [.inr (.inl (some 190)), .inl (.inl v5), .inl (.inl 1)]) (T := [.inl (.inl v4)]) rfl rfl (fun C hC => cl_v hC rfl rfl rfl rfl) rfl (q_m_of ) ?_
        refine pM_go rfl rfl ?_
        refine pM_or rfl ?_
        refine pM_is rfl rfl ?_
        refine pM_ii rfl rfl rfl ki_1 ?_
        refine pM_go rfl rfl ?_
        refine pM_w (F2 := [(0, .inr (.inl (some 190))), (1, .inl (.inl u1)), (2, .inl (.inl u2)), (3, .inl (.inl u3)), (4, .inl (.inl (v4 ||| (V_m_of v5 1 M)))), (5, .inl (.inl (v5 + 1)))]) (fun L hL => lo_cons (lo_lk hL rfl) (lo_cons (lo_lk hL rfl) (lo_cons (lo_lk hL rfl) (lo_cons (lo_lk hL rfl) (lo_cons (lo_lk hL rfl) (lo_cons (lo_lk hL rfl) lo_nil)))))) ?_
        exact IH hN (v4 ||| (V_m_of v5 1 M)) (v5 + 1) h
def B_m_cover_17 (u1 : Int32) (M : MM) (Q : Int32 → MM → Prop) (N : Nat) (ih : Int32 → Int32 → Prop) (v2 : Int32) (v3 : Int32) : Prop :=
  ((v3 < 0 →
    Q v2 M) ∧
   (¬ v3 < 0 →
    W_m_alive  N M (fun r6 =>
      (((v3 &&& (r6 ^^^ (-1))) = 0 →
        (((V_Int_bitCount v2 M) < (V_Int_bitCount v3 M) →
          ih v2 (v3 + (-1))) ∧
         (¬ (V_Int_bitCount v2 M) < (V_Int_bitCount v3 M) →
          W_m_cover_52 u1 v2 v3 M (fun x12 =>
            ((x12 = u1 →
              ih v3 (v3 + (-1))) ∧
             (¬ x12 = u1 →
              ih v2 (v3 + (-1))))) Q N 0 0))) ∧
       (¬ (v3 &&& (r6 ^^^ (-1))) = 0 →
        ih v2 (v3 + (-1)))))))
def W_m_cover_17 (u1 : Int32) (M : MM) (Q : Int32 → MM → Prop) : Nat → Int32 → Int32 → Prop
  | 0, _, _ => True
  | N + 1, v2, v3 => B_m_cover_17 u1 M Q N (W_m_cover_17 u1 M Q N) v2 v3
theorem I_m_cover_17 (u1 : Int32) (M : MM) (Q : Int32 → MM → Prop) (inv : Int32 → Int32 → Prop) (hs : ∀ (N : Nat) (ih : Int32 → Int32 → Prop) (v2 : Int32) (v3 : Int32), (∀ (v2 : Int32) (v3 : Int32), inv v2 v3 → ih v2 v3) → inv v2 v3 → B_m_cover_17 u1 M Q N ih v2 v3) : ∀ (N : Nat) (v2 : Int32) (v3 : Int32), inv v2 v3 → W_m_cover_17 u1 M Q N v2 v3 := by
  intro N
  induction N with
  | zero => intros; trivial
  | succ N IH =>
    intro v2 v3 h
    exact hs N _ v2 v3 IH h
theorem q_m_cover_17 {X : Option (List AI)} {N0 : Nat} {u1 : Int32} {M : MM} {Q : Int32 → MM → Prop}   : ∀ (N : Nat), N ≤ N0 → ∀ (v2 : Int32) (v3 : Int32), W_m_cover_17 u1 M Q N v2 v3 → pM X N 280 17 [(0, .inr (.inl (some 190))), (1, .inl (.inl u1)), (2, .inl (.inl v2)), (3, .inl (.inl v3))] [] M (Ri Q) := by
  intro N
  induction N with
  | zero => intros; exact pM_zero
  | succ N IH =>
    intro hN v2 v3 h
    replace hN := Nat.le_of_succ_le hN
    replace h : B_m_cover_17 u1 M Q N (W_m_cover_17 u1 M Q N) v2 v3 := h
    refine pM_s (pMs_iln rfl rfl ?_)
    refine pM_zlt rfl rfl (fun h5 => ?_) (fun h5 => ?_)
    · replace h := h.1 h5
      refine pM_iln rfl rfl ?_
      exact pM_ri rfl (⟨_, rfl, h⟩)
    · replace h := h.2 h5
      refine pM_iln rfl rfl ?_
      refine pM_aln rfl rfl rfl ?_
      refine pM_qPi (as := [.inr (.inl (some 190))]) (T := [.inl (.inl v3)]) rfl rfl (fun C hC => cl_v hC rfl rfl rfl rfl) rfl (q_m_alive  h) (fun r6 h => ?_)
      refine pM_ic rfl ki_m1 ?_
      refine pM_xor rfl ?_
      refine pM_and rfl ?_
      refine pM_zne rfl rfl (fun h8 => ?_) (fun h8 => ?_)
      · replace h := h.2 h8
        refine pM_ii rfl rfl rfl ki_m1 ?_
        refine pM_go rfl rfl ?_
        refine pM_w (F2 := [(0, .inr (.inl (some 190))), (1, .inl (.inl u1)), (2, .inl (.inl v2)), (3, .inl (.inl (v3 + (-1))))]) (fun L hL => lo_cons (lo_lk hL rfl) (lo_cons (lo_lk hL rfl) (lo_cons (lo_lk hL rfl) (lo_cons (lo_lk hL rfl) lo_nil)))) ?_
        exact IH hN v2 (v3 + (-1)) h
      · replace h := h.1 h8
        refine pM_iln rfl rfl ?_
        refine pM_qVi (as := [.inl (.inl v3)]) (T := []) rfl rfl (fun _ _ => rfl) rfl (q_Int_bitCount ) ?_
        refine pM_iln rfl rfl ?_
        refine pM_qVi (as := [.inl (.inl v2)]) (T := [.inl (.inl (V_Int_bitCount v3 M))]) rfl rfl (fun _ _ => rfl) rfl (q_Int_bitCount ) ?_
        refine pM_cle rfl rfl (fun h9 => ?_) (fun h9 => ?_)
        · replace h := h.2 h9
          refine pM_ic rfl ki_0 ?_
          refine pM_is rfl rfl ?_
          refine pM_ic rfl ki_0 ?_
          refine pM_is rfl rfl ?_
          refine pM_w (F2 := [(0, .inr (.inl (some 190))), (1, .inl (.inl u1)), (2, .inl (.inl v2)), (3, .inl (.inl v3)), (4, .inl (.inl 0)), (5, .inl (.inl 0))]) (fun L hL => lo_cons (lo_lk hL rfl) (lo_cons (lo_lk hL rfl) (lo_cons (lo_lk hL rfl) (lo_cons (lo_lk hL rfl) (lo_cons (lo_lk hL rfl) (lo_cons (lo_lk hL rfl) lo_nil)))))) ?_
          refine q_m_cover_52  (fun x12 h => ?_) N (Nat.le_refl N) 0 0 h
          · refine pM_il rfl rfl ?_
            refine pM_iln rfl rfl ?_
            refine pM_cne rfl rfl (fun h13 => ?_) (fun h13 => ?_)
            · replace h := h.2 h13
              refine pM_iln rfl rfl ?_
              refine pM_isn rfl rfl ?_
              refine pM_ii rfl rfl rfl ki_m1 ?_
              refine pM_go rfl rfl ?_
              refine pM_w (F2 := [(0, .inr (.inl (some 190))), (1, .inl (.inl u1)), (2, .inl (.inl v2)), (3, .inl (.inl (v3 + (-1))))]) (fun L hL => lo_cons (lo_lk hL rfl) (lo_cons (lo_lk hL rfl) (lo_cons (lo_lk hL rfl) (lo_cons (lo_lk hL rfl) lo_nil)))) ?_
              exact IH hN v2 (v3 + (-1)) h
            · replace h := h.1 h13
              refine pM_iln rfl rfl ?_
              refine pM_go rfl rfl ?_
              refine pM_isn rfl rfl ?_
              refine pM_ii rfl rfl rfl ki_m1 ?_
              refine pM_go rfl rfl ?_
              refine pM_w (F2 := [(0, .inr (.inl (some 190))), (1, .inl (.inl u1)), (2, .inl (.inl v3)), (3, .inl (.inl (v3 + (-1))))]) (fun L hL => lo_cons (lo_lk hL rfl) (lo_cons (lo_lk hL rfl) (lo_cons (lo_lk hL rfl) (lo_cons (lo_lk hL rfl) lo_nil)))) ?_
              exact IH hN v3 (v3 + (-1)) h
        · replace h := h.1 h9
          refine pM_go rfl rfl ?_
          refine pM_ii rfl rfl rfl ki_m1 ?_
          refine pM_go rfl rfl ?_
          refine pM_w (F2 := [(0, .inr (.inl (some 190))), (1, .inl (.inl u1)), (2, .inl (.inl v2)), (3, .inl (.inl (v3 + (-1))))]) (fun L hL => lo_cons (lo_lk hL rfl) (lo_cons (lo_lk hL rfl) (lo_cons (lo_lk hL rfl) (lo_cons (lo_lk hL rfl) lo_nil)))) ?_
          exact IH hN v2 (v3 + (-1)) h
/-- 280: EarCodeModel.cover()I -/
def W_m_cover  (N : Nat) (M : MM) (Q : Int32 → MM → Prop) : Prop :=
  W_m_inForce  N (wi M 190 0 0) (fun r1 =>
    W_m_alive  N (wi M 190 0 0) (fun r3 =>
      W_m_cover_17 r1 (wi M 190 0 0) Q N r3 r3))
theorem q_m_cover {X : Option (List AI)} {N : Nat} {M : MM}  {Q : Int32 → MM → Prop}  (h : W_m_cover  N M Q) : pM X N 280 0 (ea_ar 0 [.inr (.inl (some 190))]) [] M (Ri Q) := by
  refine pM_w (F2 := [(0, .inr (.inl (some 190)))]) (fun L hL => lo_cons (lo_lk hL rfl) lo_nil) ?_
  refine pM_aln rfl rfl rfl ?_
  refine pM_ic rfl ki_0 ?_
  refine pM_pi rfl rfl rfl rfl ?_
  refine pM_aln rfl rfl rfl ?_
  refine pM_qPi (as := [.inr (.inl (some 190))]) (T := []) rfl rfl (fun C hC => cl_v hC rfl rfl rfl rfl) rfl (q_m_inForce  h) (fun r1 h => ?_)
  refine pM_isn rfl rfl ?_
  refine pM_aln rfl rfl rfl ?_
  refine pM_qPi (as := [.inr (.inl (some 190))]) (T := []) rfl rfl (fun C hC => cl_v hC rfl rfl rfl rfl) rfl (q_m_alive  h) (fun r3 h => ?_)
  refine pM_isn rfl rfl ?_
  refine pM_iln rfl rfl ?_
  refine pM_isn rfl rfl ?_
  refine pM_w (F2 := [(0, .inr (.inl (some 190))), (1, .inl (.inl r1)), (2, .inl (.inl r3)), (3, .inl (.inl r3))]) (fun L hL => lo_cons (lo_lk hL rfl) (lo_cons (lo_lk hL rfl) (lo_cons (lo_lk hL rfl) (lo_cons (lo_lk hL rfl) lo_nil)))) ?_
  refine q_m_cover_17   N (Nat.le_refl N) r3 r3 h
def B_m_dies_45 (p1 : Int32) (M : MM) (Q : Int32 → MM → Prop) (N : Nat) (ih : Int32 → Int32 → Prop) (v2 : Int32) (v3 : Int32) : Prop :=
  ((v3 < (V_m_clauses  M) →
    W_m_knowers v3 N M (fun r9 =>
      ((r9 = (sl 1 p1) →
        ih (v2 ||| (sl 1 v3)) (v3 + 1)) ∧
       (¬ r9 = (sl 1 p1) →
        ih (v2 ||| 0) (v3 + 1))))) ∧
   (¬ v3 < (V_m_clauses  M) →
    Q v2 M))
def W_m_dies_45 (p1 : Int32) (M : MM) (Q : Int32 → MM → Prop) : Nat → Int32 → Int32 → Prop
  | 0, _, _ => True
  | N + 1, v2, v3 => B_m_dies_45 p1 M Q N (W_m_dies_45 p1 M Q N) v2 v3
theorem I_m_dies_45 (p1 : Int32) (M : MM) (Q : Int32 → MM → Prop) (inv : Int32 → Int32 → Prop) (hs : ∀ (N : Nat) (ih : Int32 → Int32 → Prop) (v2 : Int32) (v3 : Int32), (∀ (v2 : Int32) (v3 : Int32), inv v2 v3 → ih v2 v3) → inv v2 v3 → B_m_dies_45 p1 M Q N ih v2 v3) : ∀ (N : Nat) (v2 : Int32) (v3 : Int32), inv v2 v3 → W_m_dies_45 p1 M Q N v2 v3 := by
  intro N
  induction N with
  | zero => intros; trivial
  | succ N IH =>
    intro v2 v3 h
    exact hs N _ v2 v3 IH h
theorem q_m_dies_45 {X : Option (List AI)} {N0 : Nat} {p1 : Int32} {M : MM} {Q : Int32 → MM → Prop}   : ∀ (N : Nat), N ≤ N0 → ∀ (v2 : Int32) (v3 : Int32), W_m_dies_45 p1 M Q N v2 v3 → pM X N 281 45 [(0, .inr (.inl (some 190))), (1, .inl (.inl p1)), (2, .inl (.inl v2)), (3, .inl (.inl v3))] [] M (Ri Q) := by
  intro N
  induction N with
  | zero => intros; exact pM_zero
  | succ N IH =>
    intro hN v2 v3 h
    replace hN := Nat.le_of_succ_le hN
    replace h : B_m_dies_45 p1 M Q N (W_m_dies_45 p1 M Q N) v2 v3 := h
    refine pM_s (pMs_iln rfl rfl ?_)
    refine pM_aln rfl rfl rfl ?_
    refine pM_qVi (as := [.inr (.inl (some 190))]) (T := [.inl (.inl v3)]) rfl rfl (fun C hC => cl_v hC rfl rfl rfl rfl) rfl (q_m_clauses ) ?_
    refine pM_cge rfl rfl (fun h8 => ?_) (fun h8 => ?_)
    · replace h := h.2 h8
      refine pM_iln rfl rfl ?_
      exact pM_ri rfl (⟨_, rfl, h⟩)
    · replace h := h.1 h8
      refine pM_iln rfl rfl ?_
      refine pM_aln rfl rfl rfl ?_
      refine pM_iln rfl rfl ?_
      refine pM_qPi (as := [.inr (.inl (some 190)), .inl (.inl v3)]) (T := [.inl (.inl v2)]) rfl rfl (fun C hC => cl_v hC rfl rfl rfl rfl) rfl (q_m_knowers  h) (fun r9 h => ?_)
      refine pM_ic rfl ki_1 ?_
      refine pM_iln rfl rfl ?_
      refine pM_shl rfl ?_
      refine pM_cne rfl rfl (fun h11 => ?_) (fun h11 => ?_)
      · replace h := h.2 h11
        refine pM_ic rfl ki_0 ?_
        refine pM_or rfl ?_
        refine pM_isn rfl rfl ?_
        refine pM_ii rfl rfl rfl ki_1 ?_
        refine pM_go rfl rfl ?_
        refine pM_w (F2 := [(0, .inr (.inl (some 190))), (1, .inl (.inl p1)), (2, .inl (.inl (v2 ||| 0))), (3, .inl (.inl (v3 + 1)))]) (fun L hL => lo_cons (lo_lk hL rfl) (lo_cons (lo_lk hL rfl) (lo_cons (lo_lk hL rfl) (lo_cons (lo_lk hL rfl) lo_nil)))) ?_
        exact IH hN (v2 ||| 0) (v3 + 1) h
      · replace h := h.1 h11
        refine pM_ic rfl ki_1 ?_
        refine pM_iln rfl rfl ?_
        refine pM_shl rfl ?_
        refine pM_go rfl rfl ?_
        refine pM_or rfl ?_
        refine pM_isn rfl rfl ?_
        refine pM_ii rfl rfl rfl ki_1 ?_
        refine pM_go rfl rfl ?_
        refine pM_w (F2 := [(0, .inr (.inl (some 190))), (1, .inl (.inl p1)), (2, .inl (.inl (v2 ||| (sl 1 v3)))), (3, .inl (.inl (v3 + 1)))]) (fun L hL => lo_cons (lo_lk hL rfl) (lo_cons (lo_lk hL rfl) (lo_cons (lo_lk hL rfl) (lo_cons (lo_lk hL rfl) lo_nil)))) ?_
        exact IH hN (v2 ||| (sl 1 v3)) (v3 + 1) h
/-- 281: EarCodeModel.dies(I)I -/
def W_m_dies (p1 : Int32) (N : Nat) (M : MM) (Q : Int32 → MM → Prop) : Prop :=
  W_m_throwsIf (V_m_noCitizen p1 (wi M 190 0 0)) 1 N (wi M 190 0 0) (fun r1 M2 =>
    ((r1 = 0 →
      (((V_m_isAlive p1 M2) = 0 →
        W_m_throwsIf 1 2 N M2 (fun r5 M6 =>
          ((r5 = 0 →
            W_m_dies_45 p1 M6 Q N 0 0) ∧
           (¬ r5 = 0 →
            Q 0 M6)))) ∧
       (¬ (V_m_isAlive p1 M2) = 0 →
        W_m_throwsIf 0 2 N M2 (fun r12 M13 =>
          ((r12 = 0 →
            W_m_dies_45 p1 M13 Q N 0 0) ∧
           (¬ r12 = 0 →
            Q 0 M13)))))) ∧
     (¬ r1 = 0 →
      Q 0 M2)))
theorem q_m_dies {X : Option (List AI)} {N : Nat} {M : MM} {p1 : Int32} {Q : Int32 → MM → Prop}  (h : W_m_dies p1 N M Q) : pM X N 281 0 (ea_ar 0 [.inr (.inl (some 190)), .inl (.inl p1)]) [] M (Ri Q) := by
  refine pM_w (F2 := [(0, .inr (.inl (some 190))), (1, .inl (.inl p1))]) (fun L hL => lo_cons (lo_lk hL rfl) (lo_cons (lo_lk hL rfl) lo_nil)) ?_
  refine pM_aln rfl rfl rfl ?_
  refine pM_ic rfl ki_0 ?_
  refine pM_pi rfl rfl rfl rfl ?_
  refine pM_aln rfl rfl rfl ?_
  refine pM_aln rfl rfl rfl ?_
  refine pM_iln rfl rfl ?_
  refine pM_qVi (as := [.inr (.inl (some 190)), .inl (.inl p1)]) (T := [.inr (.inl (some 190))]) rfl rfl (fun C hC => cl_v hC rfl rfl rfl rfl) rfl (q_m_noCitizen ) ?_
  refine pM_ic rfl ki_1 ?_
  refine pM_qRi (as := [.inr (.inl (some 190)), .inl (.inl (V_m_noCitizen p1 (wi M 190 0 0))), .inl (.inl 1)]) (T := []) rfl rfl (fun C hC => cl_v hC rfl rfl rfl rfl) rfl (q_m_throwsIf  h) (fun r1 M2 h => ?_)
  refine pM_zne rfl rfl (fun h3 => ?_) (fun h3 => ?_)
  · replace h := h.2 h3
    refine pM_ic rfl ki_0 ?_
    exact pM_ri rfl (⟨_, rfl, h⟩)
  · replace h := h.1 h3
    refine pM_aln rfl rfl rfl ?_
    refine pM_aln rfl rfl rfl ?_
    refine pM_iln rfl rfl ?_
    refine pM_qVi (as := [.inr (.inl (some 190)), .inl (.inl p1)]) (T := [.inr (.inl (some 190))]) rfl rfl (fun C hC => cl_v hC rfl rfl rfl rfl) rfl (q_m_isAlive ) ?_
    refine pM_zne rfl rfl (fun h4 => ?_) (fun h4 => ?_)
    · replace h := h.2 h4
      refine pM_ic rfl ki_0 ?_
      refine pM_ic rfl ki_2 ?_
      refine pM_qRi (as := [.inr (.inl (some 190)), .inl (.inl 0), .inl (.inl 2)]) (T := []) rfl rfl (fun C hC => cl_v hC rfl rfl rfl rfl) rfl (q_m_throwsIf  h) (fun r12 M13 h => ?_)
      refine pM_zeq rfl rfl (fun h14 => ?_) (fun h14 => ?_)
      · replace h := h.1 h14
        refine pM_ic rfl ki_0 ?_
        refine pM_isn rfl rfl ?_
        refine pM_ic rfl ki_0 ?_
        refine pM_isn rfl rfl ?_
        refine pM_w (F2 := [(0, .inr (.inl (some 190))), (1, .inl (.inl p1)), (2, .inl (.inl 0)), (3, .inl (.inl 0))]) (fun L hL => lo_cons (lo_lk hL rfl) (lo_cons (lo_lk hL rfl) (lo_cons (lo_lk hL rfl) (lo_cons (lo_lk hL rfl) lo_nil)))) ?_
        refine q_m_dies_45   N (Nat.le_refl N) 0 0 h
      · replace h := h.2 h14
        refine pM_ic rfl ki_0 ?_
        exact pM_ri rfl (⟨_, rfl, h⟩)
    · replace h := h.1 h4
      refine pM_ic rfl ki_1 ?_
      refine pM_go rfl rfl ?_
      refine pM_ic rfl ki_2 ?_
      refine pM_qRi (as := [.inr (.inl (some 190)), .inl (.inl 1), .inl (.inl 2)]) (T := []) rfl rfl (fun C hC => cl_v hC rfl rfl rfl rfl) rfl (q_m_throwsIf  h) (fun r5 M6 h => ?_)
      refine pM_zeq rfl rfl (fun h7 => ?_) (fun h7 => ?_)
      · replace h := h.1 h7
        refine pM_ic rfl ki_0 ?_
        refine pM_isn rfl rfl ?_
        refine pM_ic rfl ki_0 ?_
        refine pM_isn rfl rfl ?_
        refine pM_w (F2 := [(0, .inr (.inl (some 190))), (1, .inl (.inl p1)), (2, .inl (.inl 0)), (3, .inl (.inl 0))]) (fun L hL => lo_cons (lo_lk hL rfl) (lo_cons (lo_lk hL rfl) (lo_cons (lo_lk hL rfl) (lo_cons (lo_lk hL rfl) lo_nil)))) ?_
        refine q_m_dies_45   N (Nat.le_refl N) 0 0 h
      · replace h := h.2 h7
        refine pM_ic rfl ki_0 ?_
        exact pM_ri rfl (⟨_, rfl, h⟩)
def B_m_heirs_47 (p1 : Int32) (M : MM) (Q : Int32 → MM → Prop) (N : Nat) (ih : Int32 → Int32 → Prop) (v2 : Int32) (v3 : Int32) : Prop :=
  ((v3 < (V_m_clauses  M) →
    W_m_inForce  N M (fun r9 =>
      (((V_m_has r9 v3 M) = 0 →
        ih (v2 + 0) (v3 + 1)) ∧
       (¬ (V_m_has r9 v3 M) = 0 →
        W_m_knowers v3 N M (fun r12 =>
          ih (v2 + (mx 0 (p1 - (V_Int_bitCount r12 M)))) (v3 + 1)))))) ∧
   (¬ v3 < (V_m_clauses  M) →
    Q v2 M))
def W_m_heirs_47 (p1 : Int32) (M : MM) (Q : Int32 → MM → Prop) : Nat → Int32 → Int32 → Prop
  | 0, _, _ => True
  | N + 1, v2, v3 => B_m_heirs_47 p1 M Q N (W_m_heirs_47 p1 M Q N) v2 v3
theorem I_m_heirs_47 (p1 : Int32) (M : MM) (Q : Int32 → MM → Prop) (inv : Int32 → Int32 → Prop) (hs : ∀ (N : Nat) (ih : Int32 → Int32 → Prop) (v2 : Int32) (v3 : Int32), (∀ (v2 : Int32) (v3 : Int32), inv v2 v3 → ih v2 v3) → inv v2 v3 → B_m_heirs_47 p1 M Q N ih v2 v3) : ∀ (N : Nat) (v2 : Int32) (v3 : Int32), inv v2 v3 → W_m_heirs_47 p1 M Q N v2 v3 := by
  intro N
  induction N with
  | zero => intros; trivial
  | succ N IH =>
    intro v2 v3 h
    exact hs N _ v2 v3 IH h
theorem q_m_heirs_47 {X : Option (List AI)} {N0 : Nat} {p1 : Int32} {M : MM} {Q : Int32 → MM → Prop}   : ∀ (N : Nat), N ≤ N0 → ∀ (v2 : Int32) (v3 : Int32), W_m_heirs_47 p1 M Q N v2 v3 → pM X N 282 47 [(0, .inr (.inl (some 190))), (1, .inl (.inl p1)), (2, .inl (.inl v2)), (3, .inl (.inl v3))] [] M (Ri Q) := by
  intro N
  induction N with
  | zero => intros; exact pM_zero
  | succ N IH =>
    intro hN v2 v3 h
    replace hN := Nat.le_of_succ_le hN
    replace h : B_m_heirs_47 p1 M Q N (W_m_heirs_47 p1 M Q N) v2 v3 := h
    refine pM_s (pMs_iln rfl rfl ?_)
    refine pM_aln rfl rfl rfl ?_
    refine pM_qVi (as := [.inr (.inl (some 190))]) (T := [.inl (.inl v3)]) rfl rfl (fun C hC => cl_v hC rfl rfl rfl rfl) rfl (q_m_clauses ) ?_
    refine pM_cge rfl rfl (fun h8 => ?_) (fun h8 => ?_)
    · replace h := h.2 h8
      refine pM_iln rfl rfl ?_
      exact pM_ri rfl (⟨_, rfl, h⟩)
    · replace h := h.1 h8
      refine pM_iln rfl rfl ?_
      refine pM_aln rfl rfl rfl ?_
      refine pM_qPi (as := [.inr (.inl (some 190))]) (T := [.inl (.inl v2)]) rfl rfl (fun C hC => cl_v hC rfl rfl rfl rfl) rfl (q_m_inForce  h) (fun r9 h => ?_)
      refine pM_iln rfl rfl ?_
      refine pM_qVi (as := [.inl (.inl r9), .inl (.inl v3)]) (T := [.inl (.inl v2)]) rfl rfl (fun _ _ => rfl) rfl (q_m_has ) ?_
      refine pM_zeq rfl rfl (fun h11 => ?_) (fun h11 => ?_)
      · replace h := h.1 h11
        refine pM_ic rfl ki_0 ?_
        refine pM_add rfl ?_
        refine pM_isn rfl rfl ?_
        refine pM_ii rfl rfl rfl ki_1 ?_
        refine pM_go rfl rfl ?_
        refine pM_w (F2 := [(0, .inr (.inl (some 190))), (1, .inl (.inl p1)), (2, .inl (.inl (v2 + 0))), (3, .inl (.inl (v3 + 1)))]) (fun L hL => lo_cons (lo_lk hL rfl) (lo_cons (lo_lk hL rfl) (lo_cons (lo_lk hL rfl) (lo_cons (lo_lk hL rfl) lo_nil)))) ?_
        exact IH hN (v2 + 0) (v3 + 1) h
      · replace h := h.2 h11
        refine pM_ic rfl ki_0 ?_
        refine pM_iln rfl rfl ?_
        refine pM_aln rfl rfl rfl ?_
        refine pM_iln rfl rfl ?_
        refine pM_qPi (as := [.inr (.inl (some 190)), .inl (.inl v3)]) (T := [.inl (.inl p1), .inl (.inl 0), .inl (.inl v2)]) rfl rfl (fun C hC => cl_v hC rfl rfl rfl rfl) rfl (q_m_knowers  h) (fun r12 h => ?_)
        refine pM_qVi (as := [.inl (.inl r12)]) (T := [.inl (.inl p1), .inl (.inl 0), .inl (.inl v2)]) rfl rfl (fun _ _ => rfl) rfl (q_Int_bitCount ) ?_
        refine pM_sub rfl ?_
        refine pM_mx rfl rfl ?_
        refine pM_go rfl rfl ?_
        refine pM_add rfl ?_
        refine pM_isn rfl rfl ?_
        refine pM_ii rfl rfl rfl ki_1 ?_
        refine pM_go rfl rfl ?_
        refine pM_w (F2 := [(0, .inr (.inl (some 190))), (1, .inl (.inl p1)), (2, .inl (.inl (v2 + (mx 0 (p1 - (V_Int_bitCount r12 M)))))), (3, .inl (.inl (v3 + 1)))]) (fun L hL => lo_cons (lo_lk hL rfl) (lo_cons (lo_lk hL rfl) (lo_cons (lo_lk hL rfl) (lo_cons (lo_lk hL rfl) lo_nil)))) ?_
        exact IH hN (v2 + (mx 0 (p1 - (V_Int_bitCount r12 M)))) (v3 + 1) h
/-- 282: EarCodeModel.heirs(I)I -/
def W_m_heirs (p1 : Int32) (N : Nat) (M : MM) (Q : Int32 → MM → Prop) : Prop :=
  (((V_m_in p1 1 10 (wi M 190 0 0)) = 0 →
    W_m_throwsIf 1 1 N (wi M 190 0 0) (fun r2 M3 =>
      ((r2 = 0 →
        W_m_alive  N M3 (fun r5 =>
          (((V_Int_bitCount r5 M3) < p1 →
            Q (-1) M3) ∧
           (¬ (V_Int_bitCount r5 M3) < p1 →
            W_m_heirs_47 p1 M3 Q N 0 0)))) ∧
       (¬ r2 = 0 →
        Q 0 M3)))) ∧
   (¬ (V_m_in p1 1 10 (wi M 190 0 0)) = 0 →
    W_m_throwsIf 0 1 N (wi M 190 0 0) (fun r14 M15 =>
      ((r14 = 0 →
        W_m_alive  N M15 (fun r17 =>
          (((V_Int_bitCount r17 M15) < p1 →
            Q (-1) M15) ∧
           (¬ (V_Int_bitCount r17 M15) < p1 →
            W_m_heirs_47 p1 M15 Q N 0 0)))) ∧
       (¬ r14 = 0 →
        Q 0 M15)))))
theorem q_m_heirs {X : Option (List AI)} {N : Nat} {M : MM} {p1 : Int32} {Q : Int32 → MM → Prop}  (h : W_m_heirs p1 N M Q) : pM X N 282 0 (ea_ar 0 [.inr (.inl (some 190)), .inl (.inl p1)]) [] M (Ri Q) := by
  refine pM_w (F2 := [(0, .inr (.inl (some 190))), (1, .inl (.inl p1))]) (fun L hL => lo_cons (lo_lk hL rfl) (lo_cons (lo_lk hL rfl) lo_nil)) ?_
  refine pM_aln rfl rfl rfl ?_
  refine pM_ic rfl ki_0 ?_
  refine pM_pi rfl rfl rfl rfl ?_
  refine pM_aln rfl rfl rfl ?_
  refine pM_iln rfl rfl ?_
  refine pM_ic rfl ki_1 ?_
  refine pM_bi rfl kb_10 ?_
  refine pM_qVi (as := [.inl (.inl p1), .inl (.inl 1), .inl (.inl 10)]) (T := [.inr (.inl (some 190))]) rfl rfl (fun _ _ => rfl) rfl (q_m_in ) ?_
  refine pM_zne rfl rfl (fun h1 => ?_) (fun h1 => ?_)
  · replace h := h.2 h1
    refine pM_ic rfl ki_0 ?_
    refine pM_ic rfl ki_1 ?_
    refine pM_qRi (as := [.inr (.inl (some 190)), .inl (.inl 0), .inl (.inl 1)]) (T := []) rfl rfl (fun C hC => cl_v hC rfl rfl rfl rfl) rfl (q_m_throwsIf  h) (fun r14 M15 h => ?_)
    refine pM_zeq rfl rfl (fun h16 => ?_) (fun h16 => ?_)
    · replace h := h.1 h16
      refine pM_aln rfl rfl rfl ?_
      refine pM_qPi (as := [.inr (.inl (some 190))]) (T := []) rfl rfl (fun C hC => cl_v hC rfl rfl rfl rfl) rfl (q_m_alive  h) (fun r17 h => ?_)
      refine pM_qVi (as := [.inl (.inl r17)]) (T := []) rfl rfl (fun _ _ => rfl) rfl (q_Int_bitCount ) ?_
      refine pM_iln rfl rfl ?_
      refine pM_cge rfl rfl (fun h19 => ?_) (fun h19 => ?_)
      · replace h := h.2 h19
        refine pM_ic rfl ki_0 ?_
        refine pM_isn rfl rfl ?_
        refine pM_ic rfl ki_0 ?_
        refine pM_isn rfl rfl ?_
        refine pM_w (F2 := [(0, .inr (.inl (some 190))), (1, .inl (.inl p1)), (2, .inl (.inl 0)), (3, .inl (.inl 0))]) (fun L hL => lo_cons (lo_lk hL rfl) (lo_cons (lo_lk hL rfl) (lo_cons (lo_lk hL rfl) (lo_cons (lo_lk hL rfl) lo_nil)))) ?_
        refine q_m_heirs_47   N (Nat.le_refl N) 0 0 h
      · replace h := h.1 h19
        refine pM_ic rfl ki_m1 ?_
        exact pM_ri rfl (⟨_, rfl, h⟩)
    · replace h := h.2 h16
      refine pM_ic rfl ki_0 ?_
      exact pM_ri rfl (⟨_, rfl, h⟩)
  · replace h := h.1 h1
    refine pM_ic rfl ki_1 ?_
    refine pM_go rfl rfl ?_
    refine pM_ic rfl ki_1 ?_
    refine pM_qRi (as := [.inr (.inl (some 190)), .inl (.inl 1), .inl (.inl 1)]) (T := []) rfl rfl (fun C hC => cl_v hC rfl rfl rfl rfl) rfl (q_m_throwsIf  h) (fun r2 M3 h => ?_)
    refine pM_zeq rfl rfl (fun h4 => ?_) (fun h4 => ?_)
    · replace h := h.1 h4
      refine pM_aln rfl rfl rfl ?_
      refine pM_qPi (as := [.inr (.inl (some 190))]) (T := []) rfl rfl (fun C hC => cl_v hC rfl rfl rfl rfl) rfl (q_m_alive  h) (fun r5 h => ?_)
      refine pM_qVi (as := [.inl (.inl r5)]) (T := []) rfl rfl (fun _ _ => rfl) rfl (q_Int_bitCount ) ?_
      refine pM_iln rfl rfl ?_
      refine pM_cge rfl rfl (fun h7 => ?_) (fun h7 => ?_)
      · replace h := h.2 h7
        refine pM_ic rfl ki_0 ?_
        refine pM_isn rfl rfl ?_
        refine pM_ic rfl ki_0 ?_
        refine pM_isn rfl rfl ?_
        refine pM_w (F2 := [(0, .inr (.inl (some 190))), (1, .inl (.inl p1)), (2, .inl (.inl 0)), (3, .inl (.inl 0))]) (fun L hL => lo_cons (lo_lk hL rfl) (lo_cons (lo_lk hL rfl) (lo_cons (lo_lk hL rfl) (lo_cons (lo_lk hL rfl) lo_nil)))) ?_
        refine q_m_heirs_47   N (Nat.le_refl N) 0 0 h
      · replace h := h.1 h7
        refine pM_ic rfl ki_m1 ?_
        exact pM_ri rfl (⟨_, rfl, h⟩)
    · replace h := h.2 h4
      refine pM_ic rfl ki_0 ?_
      exact pM_ri rfl (⟨_, rfl, h⟩)
/-- 283: EarCodeModel.noDays(I)Z -/
def V_m_noDays (p0 : Int32) (M : MM) : Int32 :=
  (if (V_m_in p0 1 60 M) = 0 then
    1
  else
    0)
theorem q_m_noDays {X : Option (List AI)} {N : Nat} {M : MM} {p0 : Int32}  : pM X N 283 0 (ea_ar 0 [.inl (.inl p0)]) [] M (Vi (V_m_noDays p0 M) M) := by
  refine pM_w (F2 := [(0, .inl (.inl p0))]) (fun L hL => lo_cons (lo_lk hL rfl) lo_nil) ?_
  refine pM_iln rfl rfl ?_
  refine pM_ic rfl ki_1 ?_
  refine pM_bi rfl kb_60 ?_
  refine pM_qVi (as := [.inl (.inl p0), .inl (.inl 1), .inl (.inl 60)]) (T := []) rfl rfl (fun _ _ => rfl) rfl (q_m_in ) ?_
  refine pM_zne rfl rfl (fun h1 => ?_) (fun h1 => ?_)
  · refine pM_ic rfl ki_0 ?_
    exact pM_rVi rfl (Eq.trans (if_neg h1) rfl)
  · refine pM_ic rfl ki_1 ?_
    refine pM_go rfl rfl ?_
    exact pM_rVi rfl (Eq.trans (if_pos h1) rfl)
def B_m_riskOf_12 (p1 : Int32) (p2 : Int32) (p3 : Int32) (u4 : Int32) (Q : Int32 → MM → Prop) (N : Nat) (ih : Int32 → Int32 → MM → Prop) (v5 : Int32) (v6 : Int32) (M : MM) : Prop :=
  ((v6 < p2 →
    W_m_forbidding u4 (V_m_doesIn p1 (p3 + v6) M) p1 ((M.1 191 (ni 2)) + v6) N M (fun r4 M5 =>
      ((r4 = 0 →
        ih (v5 + 0) (v6 + 1) M5) ∧
       (¬ r4 = 0 →
        W_m_forbidding (V_m_of p1 1 M5) (V_m_doesIn p1 (p3 + v6) M) p1 ((M.1 191 (ni 2)) + v6) N M5 (fun r7 M8 =>
          ((r7 = 0 →
            ih (v5 + 1) (v6 + 1) M8) ∧
           (¬ r7 = 0 →
            ih (v5 + 0) (v6 + 1) M8))))))) ∧
   (¬ v6 < p2 →
    Q v5 M))
def W_m_riskOf_12 (p1 : Int32) (p2 : Int32) (p3 : Int32) (u4 : Int32) (Q : Int32 → MM → Prop) : Nat → Int32 → Int32 → MM → Prop
  | 0, _, _, _ => True
  | N + 1, v5, v6, M => B_m_riskOf_12 p1 p2 p3 u4 Q N (W_m_riskOf_12 p1 p2 p3 u4 Q N) v5 v6 M
theorem I_m_riskOf_12 (p1 : Int32) (p2 : Int32) (p3 : Int32) (u4 : Int32) (Q : Int32 → MM → Prop) (inv : Int32 → Int32 → MM → Prop) (hs : ∀ (N : Nat) (ih : Int32 → Int32 → MM → Prop) (v5 : Int32) (v6 : Int32) (M : MM), (∀ (v5 : Int32) (v6 : Int32) (M : MM), inv v5 v6 M → ih v5 v6 M) → inv v5 v6 M → B_m_riskOf_12 p1 p2 p3 u4 Q N ih v5 v6 M) : ∀ (N : Nat) (v5 : Int32) (v6 : Int32) (M : MM), inv v5 v6 M → W_m_riskOf_12 p1 p2 p3 u4 Q N v5 v6 M := by
  intro N
  induction N with
  | zero => intros; trivial
  | succ N IH =>
    intro v5 v6 M h
    exact hs N _ v5 v6 M IH h
theorem q_m_riskOf_12 {X : Option (List AI)} {N0 : Nat} {p1 : Int32} {p2 : Int32} {p3 : Int32} {u4 : Int32} {Q : Int32 → MM → Prop}   : ∀ (N : Nat), N ≤ N0 → ∀ (v5 : Int32) (v6 : Int32) (M : MM), W_m_riskOf_12 p1 p2 p3 u4 Q N v5 v6 M → pM X N 284 12 [(0, .inr (.inl (some 190))), (1, .inl (.inl p1)), (2, .inl (.inl p2)), (3, .inl (.inl p3)), (4, .inl (.inl u4)), (5, .inl (.inl v5)), (6, .inl (.inl v6))] [] M (Ri Q) := by
  intro N
  induction N with
  | zero => intros; exact pM_zero
  | succ N IH =>
    intro hN v5 v6 M h
    replace hN := Nat.le_of_succ_le hN
    replace h : B_m_riskOf_12 p1 p2 p3 u4 Q N (W_m_riskOf_12 p1 p2 p3 u4 Q N) v5 v6 M := h
    refine pM_s (pMs_il rfl rfl ?_)
    refine pM_iln rfl rfl ?_
    refine pM_cge rfl rfl (fun h3 => ?_) (fun h3 => ?_)
    · replace h := h.2 h3
      refine pM_il rfl rfl ?_
      exact pM_ri rfl (⟨_, rfl, h⟩)
    · replace h := h.1 h3
      refine pM_aln rfl rfl rfl ?_
      refine pM_iln rfl rfl ?_
      refine pM_iln rfl rfl ?_
      refine pM_il rfl rfl ?_
      refine pM_add rfl ?_
      refine pM_qVi (as := [.inr (.inl (some 190)), .inl (.inl p1), .inl (.inl (p3 + v6))]) (T := []) rfl rfl (fun C hC => cl_v hC rfl rfl rfl rfl) rfl (q_m_doesIn ) ?_
      refine pM_is rfl rfl ?_
      refine pM_aln rfl rfl rfl ?_
      refine pM_gr rfl rfl rfl rfl ?_
      refine pM_ic rfl ki_2 ?_
      refine pM_ai rfl rfl row_p ?_
      refine pM_il rfl rfl ?_
      refine pM_add rfl ?_
      refine pM_is rfl rfl ?_
      refine pM_il rfl rfl ?_
      refine pM_aln rfl rfl rfl ?_
      refine pM_il rfl rfl ?_
      refine pM_il rfl rfl ?_
      refine pM_iln rfl rfl ?_
      refine pM_il rfl rfl ?_
      refine pM_qRi (as := [.inr (.inl (some 190)), .inl (.inl u4), .inl (.inl (V_m_doesIn p1 (p3 + v6) M)), .inl (.inl p1), .inl (.inl ((M.1 191 (ni 2)) + v6))]) (T := [.inl (.inl v5)]) rfl rfl (fun C hC => cl_v hC rfl rfl rfl rfl) rfl (q_m_forbidding  h) (fun r4 M5 h => ?_)
      refine pM_zeq rfl rfl (fun h6 => ?_) (fun h6 => ?_)
      · replace h := h.1 h6
        refine pM_ic rfl ki_0 ?_
        refine pM_add rfl ?_
        refine pM_is rfl rfl ?_
        refine pM_ii rfl rfl rfl ki_1 ?_
        refine pM_go rfl rfl ?_
        refine pM_w (F2 := [(0, .inr (.inl (some 190))), (1, .inl (.inl p1)), (2, .inl (.inl p2)), (3, .inl (.inl p3)), (4, .inl (.inl u4)), (5, .inl (.inl (v5 + 0))), (6, .inl (.inl (v6 + 1)))]) (fun L hL => lo_cons (lo_lk hL rfl) (lo_cons (lo_lk hL rfl) (lo_cons (lo_lk hL rfl) (lo_cons (lo_lk hL rfl) (lo_cons (lo_lk hL rfl) (lo_cons (lo_lk hL rfl) (lo_cons (lo_lk hL rfl) lo_nil))))))) ?_
        exact IH hN (v5 + 0) (v6 + 1) M5 h
      · replace h := h.2 h6
        refine pM_aln rfl rfl rfl ?_
        refine pM_aln rfl rfl rfl ?_
        refine pM_iln rfl rfl ?_
        refine pM_ic rfl ki_1 ?_
        refine pM_qVi (as := [.inr (.inl (some 190)), .inl (.inl p1), .inl (.inl 1)]) (T := [.inr (.inl (some 190)), .inl (.inl v5)]) rfl rfl (fun C hC => cl_v hC rfl rfl rfl rfl) rfl (q_m_of ) ?_
        refine pM_il rfl rfl ?_
        refine pM_iln rfl rfl ?_
        refine pM_il rfl rfl ?_
        refine pM_qRi (as := [.inr (.inl (some 190)), .inl (.inl (V_m_of p1 1 M5)), .inl (.inl (V_m_doesIn p1 (p3 + v6) M)), .inl (.inl p1), .inl (.inl ((M.1 191 (ni 2)) + v6))]) (T := [.inl (.inl v5)]) rfl rfl (fun C hC => cl_v hC rfl rfl rfl rfl) rfl (q_m_forbidding  h) (fun r7 M8 h => ?_)
        refine pM_zne rfl rfl (fun h9 => ?_) (fun h9 => ?_)
        · replace h := h.2 h9
          refine pM_ic rfl ki_0 ?_
          refine pM_add rfl ?_
          refine pM_is rfl rfl ?_
          refine pM_ii rfl rfl rfl ki_1 ?_
          refine pM_go rfl rfl ?_
          refine pM_w (F2 := [(0, .inr (.inl (some 190))), (1, .inl (.inl p1)), (2, .inl (.inl p2)), (3, .inl (.inl p3)), (4, .inl (.inl u4)), (5, .inl (.inl (v5 + 0))), (6, .inl (.inl (v6 + 1)))]) (fun L hL => lo_cons (lo_lk hL rfl) (lo_cons (lo_lk hL rfl) (lo_cons (lo_lk hL rfl) (lo_cons (lo_lk hL rfl) (lo_cons (lo_lk hL rfl) (lo_cons (lo_lk hL rfl) (lo_cons (lo_lk hL rfl) lo_nil))))))) ?_
          exact IH hN (v5 + 0) (v6 + 1) M8 h
        · replace h := h.1 h9
          refine pM_ic rfl ki_1 ?_
          refine pM_go rfl rfl ?_
          refine pM_add rfl ?_
          refine pM_is rfl rfl ?_
          refine pM_ii rfl rfl rfl ki_1 ?_
          refine pM_go rfl rfl ?_
          refine pM_w (F2 := [(0, .inr (.inl (some 190))), (1, .inl (.inl p1)), (2, .inl (.inl p2)), (3, .inl (.inl p3)), (4, .inl (.inl u4)), (5, .inl (.inl (v5 + 1))), (6, .inl (.inl (v6 + 1)))]) (fun L hL => lo_cons (lo_lk hL rfl) (lo_cons (lo_lk hL rfl) (lo_cons (lo_lk hL rfl) (lo_cons (lo_lk hL rfl) (lo_cons (lo_lk hL rfl) (lo_cons (lo_lk hL rfl) (lo_cons (lo_lk hL rfl) lo_nil))))))) ?_
          exact IH hN (v5 + 1) (v6 + 1) M8 h
/-- 284: EarCodeModel.riskOf(III)I -/
def W_m_riskOf (p1 : Int32) (p2 : Int32) (p3 : Int32) (N : Nat) (M : MM) (Q : Int32 → MM → Prop) : Prop :=
  W_m_inForce  N M (fun r1 =>
    W_m_riskOf_12 p1 p2 p3 r1 Q N 0 0 M)
theorem q_m_riskOf {X : Option (List AI)} {N : Nat} {M : MM} {p1 : Int32} {p2 : Int32} {p3 : Int32} {Q : Int32 → MM → Prop}  (h : W_m_riskOf p1 p2 p3 N M Q) : pM X N 284 0 (ea_ar 0 [.inr (.inl (some 190)), .inl (.inl p1), .inl (.inl p2), .inl (.inl p3)]) [] M (Ri Q) := by
  refine pM_w (F2 := [(0, .inr (.inl (some 190))), (1, .inl (.inl p1)), (2, .inl (.inl p2)), (3, .inl (.inl p3))]) (fun L hL => lo_cons (lo_lk hL rfl) (lo_cons (lo_lk hL rfl) (lo_cons (lo_lk hL rfl) (lo_cons (lo_lk hL rfl) lo_nil)))) ?_
  refine pM_aln rfl rfl rfl ?_
  refine pM_qPi (as := [.inr (.inl (some 190))]) (T := []) rfl rfl (fun C hC => cl_v hC rfl rfl rfl rfl) rfl (q_m_inForce  h) (fun r1 h => ?_)
  refine pM_is rfl rfl ?_
  refine pM_ic rfl ki_0 ?_
  refine pM_is rfl rfl ?_
  refine pM_ic rfl ki_0 ?_
  refine pM_is rfl rfl ?_
  refine pM_w (F2 := [(0, .inr (.inl (some 190))), (1, .inl (.inl p1)), (2, .inl (.inl p2)), (3, .inl (.inl p3)), (4, .inl (.inl r1)), (5, .inl (.inl 0)), (6, .inl (.inl 0))]) (fun L hL => lo_cons (lo_lk hL rfl) (lo_cons (lo_lk hL rfl) (lo_cons (lo_lk hL rfl) (lo_cons (lo_lk hL rfl) (lo_cons (lo_lk hL rfl) (lo_cons (lo_lk hL rfl) (lo_cons (lo_lk hL rfl) lo_nil))))))) ?_
  refine q_m_riskOf_12   N (Nat.le_refl N) 0 0 M h
/-- 285: EarCodeModel.risk(II)I -/
def W_m_risk (p1 : Int32) (p2 : Int32) (N : Nat) (M : MM) (Q : Int32 → MM → Prop) : Prop :=
  W_m_throwsIf (V_m_noCitizen p1 (wi M 190 0 0)) 1 N (wi M 190 0 0) (fun r1 M2 =>
    ((r1 = 0 →
      W_m_throwsIf (V_m_noDays p2 M2) 2 N M2 (fun r4 M5 =>
        ((r4 = 0 →
          (((V_m_isAlive p1 M5) = 0 →
            W_m_throwsIf 1 3 N M5 (fun r8 M9 =>
              ((r8 = 0 →
                W_m_riskOf p1 p2 0 N M9 (fun r11 M12 =>
                  Q r11 M12)) ∧
               (¬ r8 = 0 →
                Q 0 M9)))) ∧
           (¬ (V_m_isAlive p1 M5) = 0 →
            W_m_throwsIf 0 3 N M5 (fun r13 M14 =>
              ((r13 = 0 →
                W_m_riskOf p1 p2 0 N M14 (fun r16 M17 =>
                  Q r16 M17)) ∧
               (¬ r13 = 0 →
                Q 0 M14)))))) ∧
         (¬ r4 = 0 →
          Q 0 M5)))) ∧
     (¬ r1 = 0 →
      Q 0 M2)))
theorem q_m_risk {X : Option (List AI)} {N : Nat} {M : MM} {p1 : Int32} {p2 : Int32} {Q : Int32 → MM → Prop}  (h : W_m_risk p1 p2 N M Q) : pM X N 285 0 (ea_ar 0 [.inr (.inl (some 190)), .inl (.inl p1), .inl (.inl p2)]) [] M (Ri Q) := by
  refine pM_w (F2 := [(0, .inr (.inl (some 190))), (1, .inl (.inl p1)), (2, .inl (.inl p2))]) (fun L hL => lo_cons (lo_lk hL rfl) (lo_cons (lo_lk hL rfl) (lo_cons (lo_lk hL rfl) lo_nil))) ?_
  refine pM_aln rfl rfl rfl ?_
  refine pM_ic rfl ki_0 ?_
  refine pM_pi rfl rfl rfl rfl ?_
  refine pM_aln rfl rfl rfl ?_
  refine pM_aln rfl rfl rfl ?_
  refine pM_iln rfl rfl ?_
  refine pM_qVi (as := [.inr (.inl (some 190)), .inl (.inl p1)]) (T := [.inr (.inl (some 190))]) rfl rfl (fun C hC => cl_v hC rfl rfl rfl rfl) rfl (q_m_noCitizen ) ?_
  refine pM_ic rfl ki_1 ?_
  refine pM_qRi (as := [.inr (.inl (some 190)), .inl (.inl (V_m_noCitizen p1 (wi M 190 0 0))), .inl (.inl 1)]) (T := []) rfl rfl (fun C hC => cl_v hC rfl rfl rfl rfl) rfl (q_m_throwsIf  h) (fun r1 M2 h => ?_)
  refine pM_zne rfl rfl (fun h3 => ?_) (fun h3 => ?_)
  · replace h := h.2 h3
    refine pM_ic rfl ki_0 ?_
    exact pM_ri rfl (⟨_, rfl, h⟩)
  · replace h := h.1 h3
    refine pM_aln rfl rfl rfl ?_
    refine pM_iln rfl rfl ?_
    refine pM_qVi (as := [.inl (.inl p2)]) (T := [.inr (.inl (some 190))]) rfl rfl (fun _ _ => rfl) rfl (q_m_noDays ) ?_
    refine pM_ic rfl ki_2 ?_
    refine pM_qRi (as := [.inr (.inl (some 190)), .inl (.inl (V_m_noDays p2 M2)), .inl (.inl 2)]) (T := []) rfl rfl (fun C hC => cl_v hC rfl rfl rfl rfl) rfl (q_m_throwsIf  h) (fun r4 M5 h => ?_)
    refine pM_zne rfl rfl (fun h6 => ?_) (fun h6 => ?_)
    · replace h := h.2 h6
      refine pM_ic rfl ki_0 ?_
      exact pM_ri rfl (⟨_, rfl, h⟩)
    · replace h := h.1 h6
      refine pM_aln rfl rfl rfl ?_
      refine pM_aln rfl rfl rfl ?_
      refine pM_iln rfl rfl ?_
      refine pM_qVi (as := [.inr (.inl (some 190)), .inl (.inl p1)]) (T := [.inr (.inl (some 190))]) rfl rfl (fun C hC => cl_v hC rfl rfl rfl rfl) rfl (q_m_isAlive ) ?_
      refine pM_zne rfl rfl (fun h7 => ?_) (fun h7 => ?_)
      · replace h := h.2 h7
        refine pM_ic rfl ki_0 ?_
        refine pM_ic rfl ki_3 ?_
        refine pM_qRi (as := [.inr (.inl (some 190)), .inl (.inl 0), .inl (.inl 3)]) (T := []) rfl rfl (fun C hC => cl_v hC rfl rfl rfl rfl) rfl (q_m_throwsIf  h) (fun r13 M14 h => ?_)
        refine pM_zeq rfl rfl (fun h15 => ?_) (fun h15 => ?_)
        · replace h := h.1 h15
          refine pM_aln rfl rfl rfl ?_
          refine pM_iln rfl rfl ?_
          refine pM_iln rfl rfl ?_
          refine pM_ic rfl ki_0 ?_
          refine pM_qRi (as := [.inr (.inl (some 190)), .inl (.inl p1), .inl (.inl p2), .inl (.inl 0)]) (T := []) rfl rfl (fun C hC => cl_v hC rfl rfl rfl rfl) rfl (q_m_riskOf  h) (fun r16 M17 h => ?_)
          exact pM_ri rfl (⟨_, rfl, h⟩)
        · replace h := h.2 h15
          refine pM_ic rfl ki_0 ?_
          exact pM_ri rfl (⟨_, rfl, h⟩)
      · replace h := h.1 h7
        refine pM_ic rfl ki_1 ?_
        refine pM_go rfl rfl ?_
        refine pM_ic rfl ki_3 ?_
        refine pM_qRi (as := [.inr (.inl (some 190)), .inl (.inl 1), .inl (.inl 3)]) (T := []) rfl rfl (fun C hC => cl_v hC rfl rfl rfl rfl) rfl (q_m_throwsIf  h) (fun r8 M9 h => ?_)
        refine pM_zeq rfl rfl (fun h10 => ?_) (fun h10 => ?_)
        · replace h := h.1 h10
          refine pM_aln rfl rfl rfl ?_
          refine pM_iln rfl rfl ?_
          refine pM_iln rfl rfl ?_
          refine pM_ic rfl ki_0 ?_
          refine pM_qRi (as := [.inr (.inl (some 190)), .inl (.inl p1), .inl (.inl p2), .inl (.inl 0)]) (T := []) rfl rfl (fun C hC => cl_v hC rfl rfl rfl rfl) rfl (q_m_riskOf  h) (fun r11 M12 h => ?_)
          exact pM_ri rfl (⟨_, rfl, h⟩)
        · replace h := h.2 h10
          refine pM_ic rfl ki_0 ?_
          exact pM_ri rfl (⟨_, rfl, h⟩)
def B_m_safe_64 (p1 : Int32) (p2 : Int32) (u3 : Int32) (Q : Int32 → MM → Prop) (N : Nat) (ih : Int32 → MM → Prop) (v4 : Int32) (M : MM) : Prop :=
  ((v4 < 8 →
    W_m_forbidsNow u3 ((8 * p2) + v4) p1 N M (fun r13 M14 =>
      ((r13 = 0 →
        Q v4 M14) ∧
       (¬ r13 = 0 →
        ih (v4 + 1) M14)))) ∧
   (¬ v4 < 8 →
    Q (-1) M))
def W_m_safe_64 (p1 : Int32) (p2 : Int32) (u3 : Int32) (Q : Int32 → MM → Prop) : Nat → Int32 → MM → Prop
  | 0, _, _ => True
  | N + 1, v4, M => B_m_safe_64 p1 p2 u3 Q N (W_m_safe_64 p1 p2 u3 Q N) v4 M
theorem I_m_safe_64 (p1 : Int32) (p2 : Int32) (u3 : Int32) (Q : Int32 → MM → Prop) (inv : Int32 → MM → Prop) (hs : ∀ (N : Nat) (ih : Int32 → MM → Prop) (v4 : Int32) (M : MM), (∀ (v4 : Int32) (M : MM), inv v4 M → ih v4 M) → inv v4 M → B_m_safe_64 p1 p2 u3 Q N ih v4 M) : ∀ (N : Nat) (v4 : Int32) (M : MM), inv v4 M → W_m_safe_64 p1 p2 u3 Q N v4 M := by
  intro N
  induction N with
  | zero => intros; trivial
  | succ N IH =>
    intro v4 M h
    exact hs N _ v4 M IH h
theorem q_m_safe_64 {X : Option (List AI)} {N0 : Nat} {p1 : Int32} {p2 : Int32} {u3 : Int32} {Q : Int32 → MM → Prop}   : ∀ (N : Nat), N ≤ N0 → ∀ (v4 : Int32) (M : MM), W_m_safe_64 p1 p2 u3 Q N v4 M → pM X N 286 64 [(0, .inr (.inl (some 190))), (1, .inl (.inl p1)), (2, .inl (.inl p2)), (3, .inl (.inl u3)), (4, .inl (.inl v4))] [] M (Ri Q) := by
  intro N
  induction N with
  | zero => intros; exact pM_zero
  | succ N IH =>
    intro hN v4 M h
    replace hN := Nat.le_of_succ_le hN
    replace h : B_m_safe_64 p1 p2 u3 Q N (W_m_safe_64 p1 p2 u3 Q N) v4 M := h
    refine pM_s (pMs_il rfl rfl ?_)
    refine pM_bi rfl kb_8 ?_
    refine pM_cge rfl rfl (fun h12 => ?_) (fun h12 => ?_)
    · replace h := h.2 h12
      refine pM_ic rfl ki_m1 ?_
      exact pM_ri rfl (⟨_, rfl, h⟩)
    · replace h := h.1 h12
      refine pM_aln rfl rfl rfl ?_
      refine pM_iln rfl rfl ?_
      refine pM_bi rfl kb_8 ?_
      refine pM_iln rfl rfl ?_
      refine pM_mul rfl ?_
      refine pM_il rfl rfl ?_
      refine pM_add rfl ?_
      refine pM_iln rfl rfl ?_
      refine pM_qRi (as := [.inr (.inl (some 190)), .inl (.inl u3), .inl (.inl ((8 * p2) + v4)), .inl (.inl p1)]) (T := []) rfl rfl (fun C hC => cl_v hC rfl rfl rfl rfl) rfl (q_m_forbidsNow  h) (fun r13 M14 h => ?_)
      refine pM_zne rfl rfl (fun h15 => ?_) (fun h15 => ?_)
      · replace h := h.2 h15
        refine pM_ii rfl rfl rfl ki_1 ?_
        refine pM_go rfl rfl ?_
        refine pM_w (F2 := [(0, .inr (.inl (some 190))), (1, .inl (.inl p1)), (2, .inl (.inl p2)), (3, .inl (.inl u3)), (4, .inl (.inl (v4 + 1)))]) (fun L hL => lo_cons (lo_lk hL rfl) (lo_cons (lo_lk hL rfl) (lo_cons (lo_lk hL rfl) (lo_cons (lo_lk hL rfl) (lo_cons (lo_lk hL rfl) lo_nil))))) ?_
        exact IH hN (v4 + 1) M14 h
      · replace h := h.1 h15
        refine pM_il rfl rfl ?_
        exact pM_ri rfl (⟨_, rfl, h⟩)
/-- 286: EarCodeModel.safe(II)I -/
def W_m_safe (p1 : Int32) (p2 : Int32) (N : Nat) (M : MM) (Q : Int32 → MM → Prop) : Prop :=
  (((V_m_noCitizen p1 (wi M 190 0 0)) = 0 →
    (((V_m_noEight p2 (wi M 190 0 0)) = 0 →
      W_m_throwsIf 0 1 N (wi M 190 0 0) (fun r3 M4 =>
        ((r3 = 0 →
          (((V_m_isAlive p1 M4) = 0 →
            W_m_throwsIf 1 2 N M4 (fun r7 M8 =>
              ((r7 = 0 →
                W_m_inForce  N M8 (fun r10 =>
                  W_m_safe_64 p1 p2 r10 Q N 0 M8)) ∧
               (¬ r7 = 0 →
                Q 0 M8)))) ∧
           (¬ (V_m_isAlive p1 M4) = 0 →
            W_m_throwsIf 0 2 N M4 (fun r16 M17 =>
              ((r16 = 0 →
                W_m_inForce  N M17 (fun r19 =>
                  W_m_safe_64 p1 p2 r19 Q N 0 M17)) ∧
               (¬ r16 = 0 →
                Q 0 M17)))))) ∧
         (¬ r3 = 0 →
          Q 0 M4)))) ∧
     (¬ (V_m_noEight p2 (wi M 190 0 0)) = 0 →
      W_m_throwsIf 1 1 N (wi M 190 0 0) (fun r21 M22 =>
        ((r21 = 0 →
          (((V_m_isAlive p1 M22) = 0 →
            W_m_throwsIf 1 2 N M22 (fun r25 M26 =>
              ((r25 = 0 →
                W_m_inForce  N M26 (fun r28 =>
                  W_m_safe_64 p1 p2 r28 Q N 0 M26)) ∧
               (¬ r25 = 0 →
                Q 0 M26)))) ∧
           (¬ (V_m_isAlive p1 M22) = 0 →
            W_m_throwsIf 0 2 N M22 (fun r30 M31 =>
              ((r30 = 0 →
                W_m_inForce  N M31 (fun r33 =>
                  W_m_safe_64 p1 p2 r33 Q N 0 M31)) ∧
               (¬ r30 = 0 →
                Q 0 M31)))))) ∧
         (¬ r21 = 0 →
          Q 0 M22)))))) ∧
   (¬ (V_m_noCitizen p1 (wi M 190 0 0)) = 0 →
    W_m_throwsIf 1 1 N (wi M 190 0 0) (fun r35 M36 =>
      ((r35 = 0 →
        (((V_m_isAlive p1 M36) = 0 →
          W_m_throwsIf 1 2 N M36 (fun r39 M40 =>
            ((r39 = 0 →
              W_m_inForce  N M40 (fun r42 =>
                W_m_safe_64 p1 p2 r42 Q N 0 M40)) ∧
             (¬ r39 = 0 →
              Q 0 M40)))) ∧
         (¬ (V_m_isAlive p1 M36) = 0 →
          W_m_throwsIf 0 2 N M36 (fun r44 M45 =>
            ((r44 = 0 →
              W_m_inForce  N M45 (fun r47 =>
                W_m_safe_64 p1 p2 r47 Q N 0 M45)) ∧
             (¬ r44 = 0 →
              Q 0 M45)))))) ∧
       (¬ r35 = 0 →
        Q 0 M36)))))
theorem q_m_safe {X : Option (List AI)} {N : Nat} {M : MM} {p1 : Int32} {p2 : Int32} {Q : Int32 → MM → Prop}  (h : W_m_safe p1 p2 N M Q) : pM X N 286 0 (ea_ar 0 [.inr (.inl (some 190)), .inl (.inl p1), .inl (.inl p2)]) [] M (Ri Q) := by
  refine pM_w (F2 := [(0, .inr (.inl (some 190))), (1, .inl (.inl p1)), (2, .inl (.inl p2))]) (fun L hL => lo_cons (lo_lk hL rfl) (lo_cons (lo_lk hL rfl) (lo_cons (lo_lk hL rfl) lo_nil))) ?_
  refine pM_aln rfl rfl rfl ?_
  refine pM_ic rfl ki_0 ?_
  refine pM_pi rfl rfl rfl rfl ?_
  refine pM_aln rfl rfl rfl ?_
  refine pM_aln rfl rfl rfl ?_
  refine pM_iln rfl rfl ?_
  refine pM_qVi (as := [.inr (.inl (some 190)), .inl (.inl p1)]) (T := [.inr (.inl (some 190))]) rfl rfl (fun C hC => cl_v hC rfl rfl rfl rfl) rfl (q_m_noCitizen ) ?_
  refine pM_zne rfl rfl (fun h1 => ?_) (fun h1 => ?_)
  · replace h := h.2 h1
    refine pM_ic rfl ki_1 ?_
    refine pM_go rfl rfl ?_
    refine pM_ic rfl ki_1 ?_
    refine pM_qRi (as := [.inr (.inl (some 190)), .inl (.inl 1), .inl (.inl 1)]) (T := []) rfl rfl (fun C hC => cl_v hC rfl rfl rfl rfl) rfl (q_m_throwsIf  h) (fun r35 M36 h => ?_)
    refine pM_zne rfl rfl (fun h37 => ?_) (fun h37 => ?_)
    · replace h := h.2 h37
      refine pM_ic rfl ki_0 ?_
      exact pM_ri rfl (⟨_, rfl, h⟩)
    · replace h := h.1 h37
      refine pM_aln rfl rfl rfl ?_
      refine pM_aln rfl rfl rfl ?_
      refine pM_iln rfl rfl ?_
      refine pM_qVi (as := [.inr (.inl (some 190)), .inl (.inl p1)]) (T := [.inr (.inl (some 190))]) rfl rfl (fun C hC => cl_v hC rfl rfl rfl rfl) rfl (q_m_isAlive ) ?_
      refine pM_zne rfl rfl (fun h38 => ?_) (fun h38 => ?_)
      · replace h := h.2 h38
        refine pM_ic rfl ki_0 ?_
        refine pM_ic rfl ki_2 ?_
        refine pM_qRi (as := [.inr (.inl (some 190)), .inl (.inl 0), .inl (.inl 2)]) (T := []) rfl rfl (fun C hC => cl_v hC rfl rfl rfl rfl) rfl (q_m_throwsIf  h) (fun r44 M45 h => ?_)
        refine pM_zeq rfl rfl (fun h46 => ?_) (fun h46 => ?_)
        · replace h := h.1 h46
          refine pM_aln rfl rfl rfl ?_
          refine pM_qPi (as := [.inr (.inl (some 190))]) (T := []) rfl rfl (fun C hC => cl_v hC rfl rfl rfl rfl) rfl (q_m_inForce  h) (fun r47 h => ?_)
          refine pM_isn rfl rfl ?_
          refine pM_ic rfl ki_0 ?_
          refine pM_is rfl rfl ?_
          refine pM_w (F2 := [(0, .inr (.inl (some 190))), (1, .inl (.inl p1)), (2, .inl (.inl p2)), (3, .inl (.inl r47)), (4, .inl (.inl 0))]) (fun L hL => lo_cons (lo_lk hL rfl) (lo_cons (lo_lk hL rfl) (lo_cons (lo_lk hL rfl) (lo_cons (lo_lk hL rfl) (lo_cons (lo_lk hL rfl) lo_nil))))) ?_
          refine q_m_safe_64   N (Nat.le_refl N) 0 M45 h
        · replace h := h.2 h46
          refine pM_ic rfl ki_0 ?_
          exact pM_ri rfl (⟨_, rfl, h⟩)
      · replace h := h.1 h38
        refine pM_ic rfl ki_1 ?_
        refine pM_go rfl rfl ?_
        refine pM_ic rfl ki_2 ?_
        refine pM_qRi (as := [.inr (.inl (some 190)), .inl (.inl 1), .inl (.inl 2)]) (T := []) rfl rfl (fun C hC => cl_v hC rfl rfl rfl rfl) rfl (q_m_throwsIf  h) (fun r39 M40 h => ?_)
        refine pM_zeq rfl rfl (fun h41 => ?_) (fun h41 => ?_)
        · replace h := h.1 h41
          refine pM_aln rfl rfl rfl ?_
          refine pM_qPi (as := [.inr (.inl (some 190))]) (T := []) rfl rfl (fun C hC => cl_v hC rfl rfl rfl rfl) rfl (q_m_inForce  h) (fun r42 h => ?_)
          refine pM_isn rfl rfl ?_
          refine pM_ic rfl ki_0 ?_
          refine pM_is rfl rfl ?_
          refine pM_w (F2 := [(0, .inr (.inl (some 190))), (1, .inl (.inl p1)), (2, .inl (.inl p2)), (3, .inl (.inl r42)), (4, .inl (.inl 0))]) (fun L hL => lo_cons (lo_lk hL rfl) (lo_cons (lo_lk hL rfl) (lo_cons (lo_lk hL rfl) (lo_cons (lo_lk hL rfl) (lo_cons (lo_lk hL rfl) lo_nil))))) ?_
          refine q_m_safe_64   N (Nat.le_refl N) 0 M40 h
        · replace h := h.2 h41
          refine pM_ic rfl ki_0 ?_
          exact pM_ri rfl (⟨_, rfl, h⟩)
  · replace h := h.1 h1
    refine pM_iln rfl rfl ?_
    refine pM_qVi (as := [.inl (.inl p2)]) (T := [.inr (.inl (some 190))]) rfl rfl (fun _ _ => rfl) rfl (q_m_noEight ) ?_
    refine pM_zeq rfl rfl (fun h2 => ?_) (fun h2 => ?_)
    · replace h := h.1 h2
      refine pM_ic rfl ki_0 ?_
      refine pM_ic rfl ki_1 ?_
      refine pM_qRi (as := [.inr (.inl (some 190)), .inl (.inl 0), .inl (.inl 1)]) (T := []) rfl rfl (fun C hC => cl_v hC rfl rfl rfl rfl) rfl (q_m_throwsIf  h) (fun r3 M4 h => ?_)
      refine pM_zne rfl rfl (fun h5 => ?_) (fun h5 => ?_)
      · replace h := h.2 h5
        refine pM_ic rfl ki_0 ?_
        exact pM_ri rfl (⟨_, rfl, h⟩)
      · replace h := h.1 h5
        refine pM_aln rfl rfl rfl ?_
        refine pM_aln rfl rfl rfl ?_
        refine pM_iln rfl rfl ?_
        refine pM_qVi (as := [.inr (.inl (some 190)), .inl (.inl p1)]) (T := [.inr (.inl (some 190))]) rfl rfl (fun C hC => cl_v hC rfl rfl rfl rfl) rfl (q_m_isAlive ) ?_
        refine pM_zne rfl rfl (fun h6 => ?_) (fun h6 => ?_)
        · replace h := h.2 h6
          refine pM_ic rfl ki_0 ?_
          refine pM_ic rfl ki_2 ?_
          refine pM_qRi (as := [.inr (.inl (some 190)), .inl (.inl 0), .inl (.inl 2)]) (T := []) rfl rfl (fun C hC => cl_v hC rfl rfl rfl rfl) rfl (q_m_throwsIf  h) (fun r16 M17 h => ?_)
          refine pM_zeq rfl rfl (fun h18 => ?_) (fun h18 => ?_)
          · replace h := h.1 h18
            refine pM_aln rfl rfl rfl ?_
            refine pM_qPi (as := [.inr (.inl (some 190))]) (T := []) rfl rfl (fun C hC => cl_v hC rfl rfl rfl rfl) rfl (q_m_inForce  h) (fun r19 h => ?_)
            refine pM_isn rfl rfl ?_
            refine pM_ic rfl ki_0 ?_
            refine pM_is rfl rfl ?_
            refine pM_w (F2 := [(0, .inr (.inl (some 190))), (1, .inl (.inl p1)), (2, .inl (.inl p2)), (3, .inl (.inl r19)), (4, .inl (.inl 0))]) (fun L hL => lo_cons (lo_lk hL rfl) (lo_cons (lo_lk hL rfl) (lo_cons (lo_lk hL rfl) (lo_cons (lo_lk hL rfl) (lo_cons (lo_lk hL rfl) lo_nil))))) ?_
            refine q_m_safe_64   N (Nat.le_refl N) 0 M17 h
          · replace h := h.2 h18
            refine pM_ic rfl ki_0 ?_
            exact pM_ri rfl (⟨_, rfl, h⟩)
        · replace h := h.1 h6
          refine pM_ic rfl ki_1 ?_
          refine pM_go rfl rfl ?_
          refine pM_ic rfl ki_2 ?_
          refine pM_qRi (as := [.inr (.inl (some 190)), .inl (.inl 1), .inl (.inl 2)]) (T := []) rfl rfl (fun C hC => cl_v hC rfl rfl rfl rfl) rfl (q_m_throwsIf  h) (fun r7 M8 h => ?_)
          refine pM_zeq rfl rfl (fun h9 => ?_) (fun h9 => ?_)
          · replace h := h.1 h9
            refine pM_aln rfl rfl rfl ?_
            refine pM_qPi (as := [.inr (.inl (some 190))]) (T := []) rfl rfl (fun C hC => cl_v hC rfl rfl rfl rfl) rfl (q_m_inForce  h) (fun r10 h => ?_)
            refine pM_isn rfl rfl ?_
            refine pM_ic rfl ki_0 ?_
            refine pM_is rfl rfl ?_
            refine pM_w (F2 := [(0, .inr (.inl (some 190))), (1, .inl (.inl p1)), (2, .inl (.inl p2)), (3, .inl (.inl r10)), (4, .inl (.inl 0))]) (fun L hL => lo_cons (lo_lk hL rfl) (lo_cons (lo_lk hL rfl) (lo_cons (lo_lk hL rfl) (lo_cons (lo_lk hL rfl) (lo_cons (lo_lk hL rfl) lo_nil))))) ?_
            refine q_m_safe_64   N (Nat.le_refl N) 0 M8 h
          · replace h := h.2 h9
            refine pM_ic rfl ki_0 ?_
            exact pM_ri rfl (⟨_, rfl, h⟩)
    · replace h := h.2 h2
      refine pM_ic rfl ki_1 ?_
      refine pM_go rfl rfl ?_
      refine pM_ic rfl ki_1 ?_
      refine pM_qRi (as := [.inr (.inl (some 190)), .inl (.inl 1), .inl (.inl 1)]) (T := []) rfl rfl (fun C hC => cl_v hC rfl rfl rfl rfl) rfl (q_m_throwsIf  h) (fun r21 M22 h => ?_)
      refine pM_zne rfl rfl (fun h23 => ?_) (fun h23 => ?_)
      · replace h := h.2 h23
        refine pM_ic rfl ki_0 ?_
        exact pM_ri rfl (⟨_, rfl, h⟩)
      · replace h := h.1 h23
        refine pM_aln rfl rfl rfl ?_
        refine pM_aln rfl rfl rfl ?_
        refine pM_iln rfl rfl ?_
        refine pM_qVi (as := [.inr (.inl (some 190)), .inl (.inl p1)]) (T := [.inr (.inl (some 190))]) rfl rfl (fun C hC => cl_v hC rfl rfl rfl rfl) rfl (q_m_isAlive ) ?_
        refine pM_zne rfl rfl (fun h24 => ?_) (fun h24 => ?_)
        · replace h := h.2 h24
          refine pM_ic rfl ki_0 ?_
          refine pM_ic rfl ki_2 ?_
          refine pM_qRi (as := [.inr (.inl (some 190)), .inl (.inl 0), .inl (.inl 2)]) (T := []) rfl rfl (fun C hC => cl_v hC rfl rfl rfl rfl) rfl (q_m_throwsIf  h) (fun r30 M31 h => ?_)
          refine pM_zeq rfl rfl (fun h32 => ?_) (fun h32 => ?_)
          · replace h := h.1 h32
            refine pM_aln rfl rfl rfl ?_
            refine pM_qPi (as := [.inr (.inl (some 190))]) (T := []) rfl rfl (fun C hC => cl_v hC rfl rfl rfl rfl) rfl (q_m_inForce  h) (fun r33 h => ?_)
            refine pM_isn rfl rfl ?_
            refine pM_ic rfl ki_0 ?_
            refine pM_is rfl rfl ?_
            refine pM_w (F2 := [(0, .inr (.inl (some 190))), (1, .inl (.inl p1)), (2, .inl (.inl p2)), (3, .inl (.inl r33)), (4, .inl (.inl 0))]) (fun L hL => lo_cons (lo_lk hL rfl) (lo_cons (lo_lk hL rfl) (lo_cons (lo_lk hL rfl) (lo_cons (lo_lk hL rfl) (lo_cons (lo_lk hL rfl) lo_nil))))) ?_
            refine q_m_safe_64   N (Nat.le_refl N) 0 M31 h
          · replace h := h.2 h32
            refine pM_ic rfl ki_0 ?_
            exact pM_ri rfl (⟨_, rfl, h⟩)
        · replace h := h.1 h24
          refine pM_ic rfl ki_1 ?_
          refine pM_go rfl rfl ?_
          refine pM_ic rfl ki_2 ?_
          refine pM_qRi (as := [.inr (.inl (some 190)), .inl (.inl 1), .inl (.inl 2)]) (T := []) rfl rfl (fun C hC => cl_v hC rfl rfl rfl rfl) rfl (q_m_throwsIf  h) (fun r25 M26 h => ?_)
          refine pM_zeq rfl rfl (fun h27 => ?_) (fun h27 => ?_)
          · replace h := h.1 h27
            refine pM_aln rfl rfl rfl ?_
            refine pM_qPi (as := [.inr (.inl (some 190))]) (T := []) rfl rfl (fun C hC => cl_v hC rfl rfl rfl rfl) rfl (q_m_inForce  h) (fun r28 h => ?_)
            refine pM_isn rfl rfl ?_
            refine pM_ic rfl ki_0 ?_
            refine pM_is rfl rfl ?_
            refine pM_w (F2 := [(0, .inr (.inl (some 190))), (1, .inl (.inl p1)), (2, .inl (.inl p2)), (3, .inl (.inl r28)), (4, .inl (.inl 0))]) (fun L hL => lo_cons (lo_lk hL rfl) (lo_cons (lo_lk hL rfl) (lo_cons (lo_lk hL rfl) (lo_cons (lo_lk hL rfl) (lo_cons (lo_lk hL rfl) lo_nil))))) ?_
            refine q_m_safe_64   N (Nat.le_refl N) 0 M26 h
          · replace h := h.2 h27
            refine pM_ic rfl ki_0 ?_
            exact pM_ri rfl (⟨_, rfl, h⟩)
