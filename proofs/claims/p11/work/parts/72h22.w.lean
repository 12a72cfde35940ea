/-! WHAT EACH METHOD COMES TO (gw.py) -/
def B_m_nobody_36 (u1 : Int32) (u3 : Int32) (k82 : Int32 → MM → Prop) (Q : Int32 → MM → Prop) (N : Nat) (ih : Int32 → Int32 → MM → Prop) (v2 : Int32) (v4 : Int32) (M : MM) : Prop :=
  ((v4 < (V_m_citizens  M) →
    (((V_m_isAlive v4 M) = 0 →
      ih v2 (v4 + 1) M) ∧
     (¬ (V_m_isAlive v4 M) = 0 →
      W_m_forbidsNow u1 u3 v4 N M (fun r9 M10 =>
        ((r9 = 0 →
          ih (v2 &&& ((sl 1 (u3 / 8)) ^^^ (-1))) (v4 + 1) M10) ∧
         (¬ r9 = 0 →
          ih v2 (v4 + 1) M10)))))) ∧
   (¬ v4 < (V_m_citizens  M) →
    k82 v2 M))
def W_m_nobody_36 (u1 : Int32) (u3 : Int32) (k82 : Int32 → MM → Prop) (Q : Int32 → MM → Prop) : Nat → Int32 → Int32 → MM → Prop
  | 0, _, _, _ => True
  | N + 1, v2, v4, M => B_m_nobody_36 u1 u3 k82 Q N (W_m_nobody_36 u1 u3 k82 Q N) v2 v4 M
theorem I_m_nobody_36 (u1 : Int32) (u3 : Int32) (k82 : Int32 → MM → Prop) (Q : Int32 → MM → Prop) (inv : Int32 → Int32 → MM → Prop) (hs : ∀ (N : Nat) (ih : Int32 → Int32 → MM → Prop) (v2 : Int32) (v4 : Int32) (M : MM), (∀ (v2 : Int32) (v4 : Int32) (M : MM), inv v2 v4 M → ih v2 v4 M) → inv v2 v4 M → B_m_nobody_36 u1 u3 k82 Q N ih v2 v4 M) : ∀ (N : Nat) (v2 : Int32) (v4 : Int32) (M : MM), inv v2 v4 M → W_m_nobody_36 u1 u3 k82 Q N v2 v4 M := by
  intro N
  induction N with
  | zero => intros; trivial
  | succ N IH =>
    intro v2 v4 M h
    exact hs N _ v2 v4 M IH h
theorem q_m_nobody_36 {X : Option (List AI)} {N0 : Nat} {u1 : Int32} {u3 : Int32} {k82 : Int32 → MM → Prop} {Q : Int32 → MM → Prop}  (hk82 : ∀ (v2 : Int32) (M : MM), k82 v2 M → pM X N0 272 82 [(0, .inr (.inl (some 190))), (1, .inl (.inl u1)), (2, .inl (.inl v2)), (3, .inl (.inl u3))] [] M (Ri Q)) : ∀ (N : Nat), N ≤ N0 → ∀ (v2 : Int32) (v4 : Int32) (M : MM), W_m_nobody_36 u1 u3 k82 Q N v2 v4 M → pM X N 272 36 [(0, .inr (.inl (some 190))), (1, .inl (.inl u1)), (2, .inl (.inl v2)), (3, .inl (.inl u3)), (4, .inl (.inl v4))] [] M (Ri Q) := by
  intro N
  induction N with
  | zero => intros; exact pM_zero
  | succ N IH =>
    intro hN v2 v4 M h
    replace hN := Nat.le_of_succ_le hN
    replace h : B_m_nobody_36 u1 u3 k82 Q N (W_m_nobody_36 u1 u3 k82 Q N) v2 v4 M := h
    refine pM_s (pMs_il rfl rfl ?_)
    refine pM_aln rfl rfl rfl ?_
    refine pM_qVi (as := [.inr (.inl (some 190))]) (T := [.inl (.inl v4)]) rfl rfl (fun C hC => cl_v hC rfl rfl rfl rfl) rfl (q_m_citizens ) ?_
    refine pM_cge rfl rfl (fun h7 => ?_) (fun h7 => ?_)
    · replace h := h.2 h7
      refine pM_w (F2 := [(0, .inr (.inl (some 190))), (1, .inl (.inl u1)), (2, .inl (.inl v2)), (3, .inl (.inl u3))]) (fun L hL => lo_cons (lo_lk hL rfl) (lo_cons (lo_lk hL rfl) (lo_cons (lo_lk hL rfl) (lo_cons (lo_lk hL rfl) lo_nil)))) ?_
      exact pM_le hN (hk82 _ _ h)
    · replace h := h.1 h7
      refine pM_aln rfl rfl rfl ?_
      refine pM_il rfl rfl ?_
      refine pM_qVi (as := [.inr (.inl (some 190)), .inl (.inl v4)]) (T := []) rfl rfl (fun C hC => cl_v hC rfl rfl rfl rfl) rfl (q_m_isAlive ) ?_
      refine pM_zeq rfl rfl (fun h8 => ?_) (fun h8 => ?_)
      · replace h := h.1 h8
        refine pM_ii rfl rfl rfl ki_1 ?_
        refine pM_go rfl rfl ?_
        refine pM_w (F2 := [(0, .inr (.inl (some 190))), (1, .inl (.inl u1)), (2, .inl (.inl v2)), (3, .inl (.inl u3)), (4, .inl (.inl (v4 + 1)))]) (fun L hL => lo_cons (lo_lk hL rfl) (lo_cons (lo_lk hL rfl) (lo_cons (lo_lk hL rfl) (lo_cons (lo_lk hL rfl) (lo_cons (lo_lk hL rfl) lo_nil))))) ?_
        exact IH hN v2 (v4 + 1) M h
      · replace h := h.2 h8
        refine pM_aln rfl rfl rfl ?_
        refine pM_iln rfl rfl ?_
        refine pM_iln rfl rfl ?_
        refine pM_il rfl rfl ?_
        refine pM_qRi (as := [.inr (.inl (some 190)), .inl (.inl u1), .inl (.inl u3), .inl (.inl v4)]) (T := []) rfl rfl (fun C hC => cl_v hC rfl rfl rfl rfl) rfl (q_m_forbidsNow  h) (fun r9 M10 h => ?_)
        refine pM_zne rfl rfl (fun h11 => ?_) (fun h11 => ?_)
        · replace h := h.2 h11
          refine pM_ii rfl rfl rfl ki_1 ?_
          refine pM_go rfl rfl ?_
          refine pM_w (F2 := [(0, .inr (.inl (some 190))), (1, .inl (.inl u1)), (2, .inl (.inl v2)), (3, .inl (.inl u3)), (4, .inl (.inl (v4 + 1)))]) (fun L hL => lo_cons (lo_lk hL rfl) (lo_cons (lo_lk hL rfl) (lo_cons (lo_lk hL rfl) (lo_cons (lo_lk hL rfl) (lo_cons (lo_lk hL rfl) lo_nil))))) ?_
          exact IH hN v2 (v4 + 1) M10 h
        · replace h := h.1 h11
          refine pM_iln rfl rfl ?_
          refine pM_ic rfl ki_1 ?_
          refine pM_iln rfl rfl ?_
          refine pM_bi rfl kb_8 ?_
          refine pM_div rfl ?_
          refine pM_shl rfl ?_
          refine pM_ic rfl ki_m1 ?_
          refine pM_xor rfl ?_
          refine pM_and rfl ?_
          refine pM_isn rfl rfl ?_
          refine pM_ii rfl rfl rfl ki_1 ?_
          refine pM_go rfl rfl ?_
          refine pM_w (F2 := [(0, .inr (.inl (some 190))), (1, .inl (.inl u1)), (2, .inl (.inl (v2 &&& ((sl 1 (u3 / 8)) ^^^ (-1))))), (3, .inl (.inl u3)), (4, .inl (.inl (v4 + 1)))]) (fun L hL => lo_cons (lo_lk hL rfl) (lo_cons (lo_lk hL rfl) (lo_cons (lo_lk hL rfl) (lo_cons (lo_lk hL rfl) (lo_cons (lo_lk hL rfl) lo_nil))))) ?_
          exact IH hN (v2 &&& ((sl 1 (u3 / 8)) ^^^ (-1))) (v4 + 1) M10 h
def B_m_nobody_27 (u1 : Int32) (Q : Int32 → MM → Prop) (N : Nat) (ih : Int32 → Int32 → MM → Prop) (v2 : Int32) (v3 : Int32) (M : MM) : Prop :=
  ((v3 < 64 →
    W_m_nobody_36 u1 v3 (fun x12 M13 =>
      ih x12 (v3 + 1) M13) Q N v2 0 M) ∧
   (¬ v3 < 64 →
    Q v2 M))
def W_m_nobody_27 (u1 : Int32) (Q : Int32 → MM → Prop) : Nat → Int32 → Int32 → MM → Prop
  | 0, _, _, _ => True
  | N + 1, v2, v3, M => B_m_nobody_27 u1 Q N (W_m_nobody_27 u1 Q N) v2 v3 M
theorem I_m_nobody_27 (u1 : Int32) (Q : Int32 → MM → Prop) (inv : Int32 → Int32 → MM → Prop) (hs : ∀ (N : Nat) (ih : Int32 → Int32 → MM → Prop) (v2 : Int32) (v3 : Int32) (M : MM), (∀ (v2 : Int32) (v3 : Int32) (M : MM), inv v2 v3 M → ih v2 v3 M) → inv v2 v3 M → B_m_nobody_27 u1 Q N ih v2 v3 M) : ∀ (N : Nat) (v2 : Int32) (v3 : Int32) (M : MM), inv v2 v3 M → W_m_nobody_27 u1 Q N v2 v3 M := by
  intro N
  induction N with
  | zero => intros; trivial
  | succ N IH =>
    intro v2 v3 M h
    exact hs N _ v2 v3 M IH h
theorem q_m_nobody_27 {X : Option (List AI)} {N0 : Nat} {u1 : Int32} {Q : Int32 → MM → Prop}   : ∀ (N : Nat), N ≤ N0 → ∀ (v2 : Int32) (v3 : Int32) (M : MM), W_m_nobody_27 u1 Q N v2 v3 M → pM X N 272 27 [(0, .inr (.inl (some 190))), (1, .inl (.inl u1)), (2, .inl (.inl v2)), (3, .inl (.inl v3))] [] M (Ri Q) := by
  intro N
  induction N with
  | zero => intros; exact pM_zero
  | succ N IH =>
    intro hN v2 v3 M h
    replace hN := Nat.le_of_succ_le hN
    replace h : B_m_nobody_27 u1 Q N (W_m_nobody_27 u1 Q N) v2 v3 M := h
    refine pM_s (pMs_iln rfl rfl ?_)
    refine pM_bi rfl kb_64 ?_
    refine pM_cge rfl rfl (fun h6 => ?_) (fun h6 => ?_)
    · replace h := h.2 h6
      refine pM_iln rfl rfl ?_
      exact pM_ri rfl (⟨_, rfl, h⟩)
    · replace h := h.1 h6
      refine pM_ic rfl ki_0 ?_
      refine pM_is rfl rfl ?_
      refine pM_w (F2 := [(0, .inr (.inl (some 190))), (1, .inl (.inl u1)), (2, .inl (.inl v2)), (3, .inl (.inl v3)), (4, .inl (.inl 0))]) (fun L hL => lo_cons (lo_lk hL rfl) (lo_cons (lo_lk hL rfl) (lo_cons (lo_lk hL rfl) (lo_cons (lo_lk hL rfl) (lo_cons (lo_lk hL rfl) lo_nil))))) ?_
      refine q_m_nobody_36  (fun x12 M13 h => ?_) N (Nat.le_refl N) v2 0 M h
      · refine pM_ii rfl rfl rfl ki_1 ?_
        refine pM_go rfl rfl ?_
        refine pM_w (F2 := [(0, .inr (.inl (some 190))), (1, .inl (.inl u1)), (2, .inl (.inl x12)), (3, .inl (.inl (v3 + 1)))]) (fun L hL => lo_cons (lo_lk hL rfl) (lo_cons (lo_lk hL rfl) (lo_cons (lo_lk hL rfl) (lo_cons (lo_lk hL rfl) lo_nil)))) ?_
        exact IH hN x12 (v3 + 1) M13 h
/-- 272: EarCodeModel.nobody()I -/
def W_m_nobody  (N : Nat) (M : MM) (Q : Int32 → MM → Prop) : Prop :=
  W_m_inForce  N (wi M 190 0 0) (fun r1 =>
    W_m_alive  N (wi M 190 0 0) (fun r3 =>
      ((r3 = 0 →
        W_m_nobody_27 r1 Q N 0 0 (wi M 190 0 0)) ∧
       (¬ r3 = 0 →
        W_m_nobody_27 r1 Q N 255 0 (wi M 190 0 0)))))
theorem q_m_nobody {X : Option (List AI)} {N : Nat} {M : MM}  {Q : Int32 → MM → Prop}  (h : W_m_nobody  N M Q) : pM X N 272 0 (ea_ar 0 [.inr (.inl (some 190))]) [] M (Ri Q) := by
  refine pM_w (F2 := [(0, .inr (.inl (some 190)))]) (fun L hL => lo_cons (lo_lk hL rfl) lo_nil) ?_
  refine pM_aln rfl rfl rfl ?_
  refine pM_ic rfl ki_0 ?_
  refine pM_pi rfl rfl rfl rfl ?_
  refine pM_aln rfl rfl rfl ?_
  refine pM_qPi (as := [.inr (.inl (some 190))]) (T := []) rfl rfl (fun C hC => cl_v hC rfl rfl rfl rfl) rfl (q_m_inForce  h) (fun r1 h => ?_)
  refine pM_isn rfl rfl ?_
  refine pM_aln rfl rfl rfl ?_
  refine pM_qPi (as := [.inr (.inl (some 190))]) (T := []) rfl rfl (fun C hC => cl_v hC rfl rfl rfl rfl) rfl (q_m_alive  h) (fun r3 h => ?_)
  refine pM_zne rfl rfl (fun h5 => ?_) (fun h5 => ?_)
  · replace h := h.2 h5
    refine pM_si rfl ks_255 ?_
    refine pM_isn rfl rfl ?_
    refine pM_ic rfl ki_0 ?_
    refine pM_isn rfl rfl ?_
    refine pM_w (F2 := [(0, .inr (.inl (some 190))), (1, .inl (.inl r1)), (2, .inl (.inl 255)), (3, .inl (.inl 0))]) (fun L hL => lo_cons (lo_lk hL rfl) (lo_cons (lo_lk hL rfl) (lo_cons (lo_lk hL rfl) (lo_cons (lo_lk hL rfl) lo_nil)))) ?_
    refine q_m_nobody_27   N (Nat.le_refl N) 255 0 (wi M 190 0 0) h
  · replace h := h.1 h5
    refine pM_ic rfl ki_0 ?_
    refine pM_go rfl rfl ?_
    refine pM_isn rfl rfl ?_
    refine pM_ic rfl ki_0 ?_
    refine pM_isn rfl rfl ?_
    refine pM_w (F2 := [(0, .inr (.inl (some 190))), (1, .inl (.inl r1)), (2, .inl (.inl 0)), (3, .inl (.inl 0))]) (fun L hL => lo_cons (lo_lk hL rfl) (lo_cons (lo_lk hL rfl) (lo_cons (lo_lk hL rfl) (lo_cons (lo_lk hL rfl) lo_nil)))) ?_
    refine q_m_nobody_27   N (Nat.le_refl N) 0 0 (wi M 190 0 0) h
def B_m_relief_7 (k32 : MM → Prop) (Q : Int32 → MM → Prop) (N : Nat) (ih : Int32 → MM → Prop) (v1 : Int32) (M : MM) : Prop :=
  ((v1 < (V_m_clauses  M) →
    W_m_contradicting v1 N M (fun r2 M3 =>
      ih (v1 + 1) (wi M3 208 (ni v1) r2))) ∧
   (¬ v1 < (V_m_clauses  M) →
    k32 M))
def W_m_relief_7 (k32 : MM → Prop) (Q : Int32 → MM → Prop) : Nat → Int32 → MM → Prop
  | 0, _, _ => True
  | N + 1, v1, M => B_m_relief_7 k32 Q N (W_m_relief_7 k32 Q N) v1 M
theorem I_m_relief_7 (k32 : MM → Prop) (Q : Int32 → MM → Prop) (inv : Int32 → MM → Prop) (hs : ∀ (N : Nat) (ih : Int32 → MM → Prop) (v1 : Int32) (M : MM), (∀ (v1 : Int32) (M : MM), inv v1 M → ih v1 M) → inv v1 M → B_m_relief_7 k32 Q N ih v1 M) : ∀ (N : Nat) (v1 : Int32) (M : MM), inv v1 M → W_m_relief_7 k32 Q N v1 M := by
  intro N
  induction N with
  | zero => intros; trivial
  | succ N IH =>
    intro v1 M h
    exact hs N _ v1 M IH h
theorem q_m_relief_7 {X : Option (List AI)} {N0 : Nat} {k32 : MM → Prop} {Q : Int32 → MM → Prop}  (hk32 : ∀  (M : MM), k32 M → pM X N0 273 32 [(0, .inr (.inl (some 190)))] [] M (Ri Q)) : ∀ (N : Nat), N ≤ N0 → ∀ (v1 : Int32) (M : MM), W_m_relief_7 k32 Q N v1 M → pM X N 273 7 [(0, .inr (.inl (some 190))), (1, .inl (.inl v1))] [] M (Ri Q) := by
  intro N
  induction N with
  | zero => intros; exact pM_zero
  | succ N IH =>
    intro hN v1 M h
    replace hN := Nat.le_of_succ_le hN
    replace h : B_m_relief_7 k32 Q N (W_m_relief_7 k32 Q N) v1 M := h
    refine pM_s (pMs_iln rfl rfl ?_)
    refine pM_aln rfl rfl rfl ?_
    refine pM_qVi (as := [.inr (.inl (some 190))]) (T := [.inl (.inl v1)]) rfl rfl (fun C hC => cl_v hC rfl rfl rfl rfl) rfl (q_m_clauses ) ?_
    refine pM_cge rfl rfl (fun h1 => ?_) (fun h1 => ?_)
    · replace h := h.2 h1
      refine pM_w (F2 := [(0, .inr (.inl (some 190)))]) (fun L hL => lo_cons (lo_lk hL rfl) lo_nil) ?_
      exact pM_le hN (hk32 _ h)
    · replace h := h.1 h1
      refine pM_aln rfl rfl rfl ?_
      refine pM_gr rfl rfl rfl rfl ?_
      refine pM_iln rfl rfl ?_
      refine pM_aln rfl rfl rfl ?_
      refine pM_iln rfl rfl ?_
      refine pM_qRi (as := [.inr (.inl (some 190)), .inl (.inl v1)]) (T := [.inl (.inl v1), .inr (.inl (some 208))]) rfl rfl (fun C hC => cl_v hC rfl rfl rfl rfl) rfl (q_m_contradicting  h) (fun r2 M3 h => ?_)
      refine pM_sa rfl rfl (one_p _) ?_
      refine pM_ii rfl rfl rfl ki_1 ?_
      refine pM_go rfl rfl ?_
      refine pM_w (F2 := [(0, .inr (.inl (some 190))), (1, .inl (.inl (v1 + 1)))]) (fun L hL => lo_cons (lo_lk hL rfl) (lo_cons (lo_lk hL rfl) lo_nil)) ?_
      exact IH hN (v1 + 1) (wi M3 208 (ni v1) r2) h
def B_m_relief_66 (u1 : Int32) (u2 : Int32) (M : MM) (k114 : Int32 → Prop) (Q : Int32 → MM → Prop) (N : Nat) (ih : Int32 → Int32 → Prop) (v3 : Int32) (v4 : Int32) : Prop :=
  ((v4 < (V_m_clauses  M) →
    ((v3 = 0 →
      ih 0 (v4 + 1)) ∧
     (¬ v3 = 0 →
      (((V_m_has u2 v4 M) = 0 →
        ((((M.1 208 (ni v4)) &&& (u2 ^^^ (-1))) = 0 →
          ih 1 (v4 + 1)) ∧
         (¬ ((M.1 208 (ni v4)) &&& (u2 ^^^ (-1))) = 0 →
          ih 0 (v4 + 1)))) ∧
       (¬ (V_m_has u2 v4 M) = 0 →
        ih 1 (v4 + 1)))))) ∧
   (¬ v4 < (V_m_clauses  M) →
    k114 v3))
def W_m_relief_66 (u1 : Int32) (u2 : Int32) (M : MM) (k114 : Int32 → Prop) (Q : Int32 → MM → Prop) : Nat → Int32 → Int32 → Prop
  | 0, _, _ => True
  | N + 1, v3, v4 => B_m_relief_66 u1 u2 M k114 Q N (W_m_relief_66 u1 u2 M k114 Q N) v3 v4
theorem I_m_relief_66 (u1 : Int32) (u2 : Int32) (M : MM) (k114 : Int32 → Prop) (Q : Int32 → MM → Prop) (inv : Int32 → Int32 → Prop) (hs : ∀ (N : Nat) (ih : Int32 → Int32 → Prop) (v3 : Int32) (v4 : Int32), (∀ (v3 : Int32) (v4 : Int32), inv v3 v4 → ih v3 v4) → inv v3 v4 → B_m_relief_66 u1 u2 M k114 Q N ih v3 v4) : ∀ (N : Nat) (v3 : Int32) (v4 : Int32), inv v3 v4 → W_m_relief_66 u1 u2 M k114 Q N v3 v4 := by
  intro N
  induction N with
  | zero => intros; trivial
  | succ N IH =>
    intro v3 v4 h
    exact hs N _ v3 v4 IH h
theorem q_m_relief_66 {X : Option (List AI)} {N0 : Nat} {u1 : Int32} {u2 : Int32} {M : MM} {k114 : Int32 → Prop} {Q : Int32 → MM → Prop}  (hk114 : ∀ (v3 : Int32), k114 v3 → pM X N0 273 114 [(0, .inr (.inl (some 190))), (1, .inl (.inl u1)), (2, .inl (.inl u2)), (3, .inl (.inl v3))] [] M (Ri Q)) : ∀ (N : Nat), N ≤ N0 → ∀ (v3 : Int32) (v4 : Int32), W_m_relief_66 u1 u2 M k114 Q N v3 v4 → pM X N 273 66 [(0, .inr (.inl (some 190))), (1, .inl (.inl u1)), (2, .inl (.inl u2)), (3, .inl (.inl v3)), (4, .inl (.inl v4))] [] M (Ri Q) := by
  intro N
  induction N with
  | zero => intros; exact pM_zero
  | succ N IH =>
    intro hN v3 v4 h
    replace hN := Nat.le_of_succ_le hN
    replace h : B_m_relief_66 u1 u2 M k114 Q N (W_m_relief_66 u1 u2 M k114 Q N) v3 v4 := h
    refine pM_s (pMs_il rfl rfl ?_)
    refine pM_aln rfl rfl rfl ?_
    refine pM_qVi (as := [.inr (.inl (some 190))]) (T := [.inl (.inl v4)]) rfl rfl (fun C hC => cl_v hC rfl rfl rfl rfl) rfl (q_m_clauses ) ?_
    refine pM_cge rfl rfl (fun h7 => ?_) (fun h7 => ?_)
    · replace h := h.2 h7
      refine pM_w (F2 := [(0, .inr (.inl (some 190))), (1, .inl (.inl u1)), (2, .inl (.inl u2)), (3, .inl (.inl v3))]) (fun L hL => lo_cons (lo_lk hL rfl) (lo_cons (lo_lk hL rfl) (lo_cons (lo_lk hL rfl) (lo_cons (lo_lk hL rfl) lo_nil)))) ?_
      exact pM_le hN (hk114 _ h)
    · replace h := h.1 h7
      refine pM_iln rfl rfl ?_
      refine pM_zeq rfl rfl (fun h8 => ?_) (fun h8 => ?_)
      · replace h := h.1 h8
        refine pM_ic rfl ki_0 ?_
        refine pM_isn rfl rfl ?_
        refine pM_ii rfl rfl rfl ki_1 ?_
        refine pM_go rfl rfl ?_
        refine pM_w (F2 := [(0, .inr (.inl (some 190))), (1, .inl (.inl u1)), (2, .inl (.inl u2)), (3, .inl (.inl 0)), (4, .inl (.inl (v4 + 1)))]) (fun L hL => lo_cons (lo_lk hL rfl) (lo_cons (lo_lk hL rfl) (lo_cons (lo_lk hL rfl) (lo_cons (lo_lk hL rfl) (lo_cons (lo_lk hL rfl) lo_nil))))) ?_
        exact IH hN 0 (v4 + 1) h
      · replace h := h.2 h8
        refine pM_iln rfl rfl ?_
        refine pM_il rfl rfl ?_
        refine pM_qVi (as := [.inl (.inl u2), .inl (.inl v4)]) (T := []) rfl rfl (fun _ _ => rfl) rfl (q_m_has ) ?_
        refine pM_zne rfl rfl (fun h9 => ?_) (fun h9 => ?_)
        · replace h := h.2 h9
          refine pM_ic rfl ki_1 ?_
          refine pM_go rfl rfl ?_
          refine pM_isn rfl rfl ?_
          refine pM_ii rfl rfl rfl ki_1 ?_
          refine pM_go rfl rfl ?_
          refine pM_w (F2 := [(0, .inr (.inl (some 190))), (1, .inl (.inl u1)), (2, .inl (.inl u2)), (3, .inl (.inl 1)), (4, .inl (.inl (v4 + 1)))]) (fun L hL => lo_cons (lo_lk hL rfl) (lo_cons (lo_lk hL rfl) (lo_cons (lo_lk hL rfl) (lo_cons (lo_lk hL rfl) (lo_cons (lo_lk hL rfl) lo_nil))))) ?_
          exact IH hN 1 (v4 + 1) h
        · replace h := h.1 h9
          refine pM_aln rfl rfl rfl ?_
          refine pM_gr rfl rfl rfl rfl ?_
          refine pM_il rfl rfl ?_
          refine pM_ai rfl rfl (one_p _) ?_
          refine pM_iln rfl rfl ?_
          refine pM_ic rfl ki_m1 ?_
          refine pM_xor rfl ?_
          refine pM_and rfl ?_
          refine pM_zne rfl rfl (fun h10 => ?_) (fun h10 => ?_)
          · replace h := h.2 h10
            refine pM_ic rfl ki_0 ?_
            refine pM_isn rfl rfl ?_
            refine pM_ii rfl rfl rfl ki_1 ?_
            refine pM_go rfl rfl ?_
            refine pM_w (F2 := [(0, .inr (.inl (some 190))), (1, .inl (.inl u1)), (2, .inl (.inl u2)), (3, .inl (.inl 0)), (4, .inl (.inl (v4 + 1)))]) (fun L hL => lo_cons (lo_lk hL rfl) (lo_cons (lo_lk hL rfl) (lo_cons (lo_lk hL rfl) (lo_cons (lo_lk hL rfl) (lo_cons (lo_lk hL rfl) lo_nil))))) ?_
            exact IH hN 0 (v4 + 1) h
          · replace h := h.1 h10
            refine pM_ic rfl ki_1 ?_
            refine pM_go rfl rfl ?_
            refine pM_isn rfl rfl ?_
            refine pM_ii rfl rfl rfl ki_1 ?_
            refine pM_go rfl rfl ?_
            refine pM_w (F2 := [(0, .inr (.inl (some 190))), (1, .inl (.inl u1)), (2, .inl (.inl u2)), (3, .inl (.inl 1)), (4, .inl (.inl (v4 + 1)))]) (fun L hL => lo_cons (lo_lk hL rfl) (lo_cons (lo_lk hL rfl) (lo_cons (lo_lk hL rfl) (lo_cons (lo_lk hL rfl) (lo_cons (lo_lk hL rfl) lo_nil))))) ?_
            exact IH hN 1 (v4 + 1) h
def B_m_relief_43 (M : MM) (Q : Int32 → MM → Prop) (N : Nat) (ih : Int32 → Int32 → Prop) (v1 : Int32) (v2 : Int32) : Prop :=
  ((v2 < 0 →
    Q v1 M) ∧
   (¬ v2 < 0 →
    (((V_Int_bitCount v1 M) < (V_Int_bitCount v2 M) →
      ih v1 (v2 + (-1))) ∧
     (¬ (V_Int_bitCount v1 M) < (V_Int_bitCount v2 M) →
      W_m_relief_66 v1 v2 M (fun x11 =>
        ((x11 = 0 →
          ih v1 (v2 + (-1))) ∧
         (¬ x11 = 0 →
          ih v2 (v2 + (-1))))) Q N 1 0))))
def W_m_relief_43 (M : MM) (Q : Int32 → MM → Prop) : Nat → Int32 → Int32 → Prop
  | 0, _, _ => True
  | N + 1, v1, v2 => B_m_relief_43 M Q N (W_m_relief_43 M Q N) v1 v2
theorem I_m_relief_43 (M : MM) (Q : Int32 → MM → Prop) (inv : Int32 → Int32 → Prop) (hs : ∀ (N : Nat) (ih : Int32 → Int32 → Prop) (v1 : Int32) (v2 : Int32), (∀ (v1 : Int32) (v2 : Int32), inv v1 v2 → ih v1 v2) → inv v1 v2 → B_m_relief_43 M Q N ih v1 v2) : ∀ (N : Nat) (v1 : Int32) (v2 : Int32), inv v1 v2 → W_m_relief_43 M Q N v1 v2 := by
  intro N
  induction N with
  | zero => intros; trivial
  | succ N IH =>
    intro v1 v2 h
    exact hs N _ v1 v2 IH h
theorem q_m_relief_43 {X : Option (List AI)} {N0 : Nat} {M : MM} {Q : Int32 → MM → Prop}   : ∀ (N : Nat), N ≤ N0 → ∀ (v1 : Int32) (v2 : Int32), W_m_relief_43 M Q N v1 v2 → pM X N 273 43 [(0, .inr (.inl (some 190))), (1, .inl (.inl v1)), (2, .inl (.inl v2))] [] M (Ri Q) := by
  intro N
  induction N with
  | zero => intros; exact pM_zero
  | succ N IH =>
    intro hN v1 v2 h
    replace hN := Nat.le_of_succ_le hN
    replace h : B_m_relief_43 M Q N (W_m_relief_43 M Q N) v1 v2 := h
    refine pM_s (pMs_iln rfl rfl ?_)
    refine pM_zlt rfl rfl (fun h5 => ?_) (fun h5 => ?_)
    · replace h := h.1 h5
      refine pM_iln rfl rfl ?_
      exact pM_ri rfl (⟨_, rfl, h⟩)
    · replace h := h.2 h5
      refine pM_iln rfl rfl ?_
      refine pM_qVi (as := [.inl (.inl v2)]) (T := []) rfl rfl (fun _ _ => rfl) rfl (q_Int_bitCount ) ?_
      refine pM_iln rfl rfl ?_
      refine pM_qVi (as := [.inl (.inl v1)]) (T := [.inl (.inl (V_Int_bitCount v2 M))]) rfl rfl (fun _ _ => rfl) rfl (q_Int_bitCount ) ?_
      refine pM_cle rfl rfl (fun h6 => ?_) (fun h6 => ?_)
      · replace h := h.2 h6
        refine pM_ic rfl ki_1 ?_
        refine pM_isn rfl rfl ?_
        refine pM_ic rfl ki_0 ?_
        refine pM_is rfl rfl ?_
        refine pM_w (F2 := [(0, .inr (.inl (some 190))), (1, .inl (.inl v1)), (2, .inl (.inl v2)), (3, .inl (.inl 1)), (4, .inl (.inl 0))]) (fun L hL => lo_cons (lo_lk hL rfl) (lo_cons (lo_lk hL rfl) (lo_cons (lo_lk hL rfl) (lo_cons (lo_lk hL rfl) (lo_cons (lo_lk hL rfl) lo_nil))))) ?_
        refine q_m_relief_66  (fun x11 h => ?_) N (Nat.le_refl N) 1 0 h
        · refine pM_iln rfl rfl ?_
          refine pM_zeq rfl rfl (fun h12 => ?_) (fun h12 => ?_)
          · replace h := h.1 h12
            refine pM_iln rfl rfl ?_
            refine pM_isn rfl rfl ?_
            refine pM_ii rfl rfl rfl ki_m1 ?_
            refine pM_go rfl rfl ?_
            refine pM_w (F2 := [(0, .inr (.inl (some 190))), (1, .inl (.inl v1)), (2, .inl (.inl (v2 + (-1))))]) (fun L hL => lo_cons (lo_lk hL rfl) (lo_cons (lo_lk hL rfl) (lo_cons (lo_lk hL rfl) lo_nil))) ?_
            exact IH hN v1 (v2 + (-1)) h
          · replace h := h.2 h12
            refine pM_iln rfl rfl ?_
            refine pM_go rfl rfl ?_
            refine pM_isn rfl rfl ?_
            refine pM_ii rfl rfl rfl ki_m1 ?_
            refine pM_go rfl rfl ?_
            refine pM_w (F2 := [(0, .inr (.inl (some 190))), (1, .inl (.inl v2)), (2, .inl (.inl (v2 + (-1))))]) (fun L hL => lo_cons (lo_lk hL rfl) (lo_cons (lo_lk hL rfl) (lo_cons (lo_lk hL rfl) lo_nil))) ?_
            exact IH hN v2 (v2 + (-1)) h
      · replace h := h.1 h6
        refine pM_go rfl rfl ?_
        refine pM_ii rfl rfl rfl ki_m1 ?_
        refine pM_go rfl rfl ?_
        refine pM_w (F2 := [(0, .inr (.inl (some 190))), (1, .inl (.inl v1)), (2, .inl (.inl (v2 + (-1))))]) (fun L hL => lo_cons (lo_lk hL rfl) (lo_cons (lo_lk hL rfl) (lo_cons (lo_lk hL rfl) lo_nil))) ?_
        exact IH hN v1 (v2 + (-1)) h
/-- 273: EarCodeModel.relief()I -/
def W_m_relief  (N : Nat) (M : MM) (Q : Int32 → MM → Prop) : Prop :=
  W_m_relief_7 (fun M4 =>
    W_m_relief_43 M4 Q N ((sl 1 (V_m_clauses  M4)) - 1) ((sl 1 (V_m_clauses  M4)) - 1)) Q N 0 (wi M 190 0 0)
theorem q_m_relief {X : Option (List AI)} {N : Nat} {M : MM}  {Q : Int32 → MM → Prop}  (h : W_m_relief  N M Q) : pM X N 273 0 (ea_ar 0 [.inr (.inl (some 190))]) [] M (Ri Q) := by
  refine pM_w (F2 := [(0, .inr (.inl (some 190)))]) (fun L hL => lo_cons (lo_lk hL rfl) lo_nil) ?_
  refine pM_aln rfl rfl rfl ?_
  refine pM_ic rfl ki_0 ?_
  refine pM_pi rfl rfl rfl rfl ?_
  refine pM_ic rfl ki_0 ?_
  refine pM_isn rfl rfl ?_
  refine pM_w (F2 := [(0, .inr (.inl (some 190))), (1, .inl (.inl 0))]) (fun L hL => lo_cons (lo_lk hL rfl) (lo_cons (lo_lk hL rfl) lo_nil)) ?_
  refine q_m_relief_7  (fun M4 h => ?_) N (Nat.le_refl N) 0 (wi M 190 0 0) h
  · refine pM_ic rfl ki_1 ?_
    refine pM_aln rfl rfl rfl ?_
    refine pM_qVi (as := [.inr (.inl (some 190))]) (T := [.inl (.inl 1)]) rfl rfl (fun C hC => cl_v hC rfl rfl rfl rfl) rfl (q_m_clauses ) ?_
    refine pM_shl rfl ?_
    refine pM_ic rfl ki_1 ?_
    refine pM_sub rfl ?_
    refine pM_isn rfl rfl ?_
    refine pM_iln rfl rfl ?_
    refine pM_isn rfl rfl ?_
    refine pM_w (F2 := [(0, .inr (.inl (some 190))), (1, .inl (.inl ((sl 1 (V_m_clauses  M4)) - 1))), (2, .inl (.inl ((sl 1 (V_m_clauses  M4)) - 1)))]) (fun L hL => lo_cons (lo_lk hL rfl) (lo_cons (lo_lk hL rfl) (lo_cons (lo_lk hL rfl) lo_nil))) ?_
    refine q_m_relief_43   N (Nat.le_refl N) ((sl 1 (V_m_clauses  M4)) - 1) ((sl 1 (V_m_clauses  M4)) - 1) h
def B_m_isWatched_21 (M : MM) (Q : Int32 → MM → Prop) (N : Nat) (ih : Int32 → Int32 → Prop) (v1 : Int32) (v2 : Int32) : Prop :=
  (((v2 + 2) < (M.1 190 20) →
    ((v1 = 0 →
      Q v1 M) ∧
     (¬ v1 = 0 →
      (((V_m_noCitizen (M.1 203 (ni v2)) M) = 0 →
        (((V_m_isAlive (M.1 203 (ni v2)) M) = 0 →
          ih 0 (v2 + 3)) ∧
         (¬ (V_m_isAlive (M.1 203 (ni v2)) M) = 0 →
          (((V_m_noMatter (M.1 203 (ni (v2 + 1))) M) = 0 →
            (((V_m_in (M.1 203 (ni (v2 + 2))) 0 1 M) = 0 →
              ih 0 (v2 + 3)) ∧
             (¬ (V_m_in (M.1 203 (ni (v2 + 2))) 0 1 M) = 0 →
              ih 1 (v2 + 3)))) ∧
           (¬ (V_m_noMatter (M.1 203 (ni (v2 + 1))) M) = 0 →
            ih 0 (v2 + 3)))))) ∧
       (¬ (V_m_noCitizen (M.1 203 (ni v2)) M) = 0 →
        ih 0 (v2 + 3)))))) ∧
   (¬ (v2 + 2) < (M.1 190 20) →
    Q v1 M))
def W_m_isWatched_21 (M : MM) (Q : Int32 → MM → Prop) : Nat → Int32 → Int32 → Prop
  | 0, _, _ => True
  | N + 1, v1, v2 => B_m_isWatched_21 M Q N (W_m_isWatched_21 M Q N) v1 v2
theorem I_m_isWatched_21 (M : MM) (Q : Int32 → MM → Prop) (inv : Int32 → Int32 → Prop) (hs : ∀ (N : Nat) (ih : Int32 → Int32 → Prop) (v1 : Int32) (v2 : Int32), (∀ (v1 : Int32) (v2 : Int32), inv v1 v2 → ih v1 v2) → inv v1 v2 → B_m_isWatched_21 M Q N ih v1 v2) : ∀ (N : Nat) (v1 : Int32) (v2 : Int32), inv v1 v2 → W_m_isWatched_21 M Q N v1 v2 := by
  intro N
  induction N with
  | zero => intros; trivial
  | succ N IH =>
    intro v1 v2 h
    exact hs N _ v1 v2 IH h
theorem q_m_isWatched_21 {X : Option (List AI)} {N0 : Nat} {M : MM} {Q : Int32 → MM → Prop}   : ∀ (N : Nat), N ≤ N0 → ∀ (v1 : Int32) (v2 : Int32), W_m_isWatched_21 M Q N v1 v2 → pM X N 274 21 [(0, .inr (.inl (some 190))), (1, .inl (.inl v1)), (2, .inl (.inl v2))] [] M (Ri Q) := by
  intro N
  induction N with
  | zero => intros; exact pM_zero
  | succ N IH =>
    intro hN v1 v2 h
    replace hN := Nat.le_of_succ_le hN
    replace h : B_m_isWatched_21 M Q N (W_m_isWatched_21 M Q N) v1 v2 := h
    refine pM_s (pMs_iln rfl rfl ?_)
    refine pM_ic rfl ki_2 ?_
    refine pM_add rfl ?_
    refine pM_aln rfl rfl rfl ?_
    refine pM_gi rfl rfl rfl rfl ?_
    refine pM_cge rfl rfl (fun h4 => ?_) (fun h4 => ?_)
    · replace h := h.2 h4
      refine pM_iln rfl rfl ?_
      exact pM_ri rfl (⟨_, rfl, h⟩)
    · replace h := h.1 h4
      refine pM_iln rfl rfl ?_
      refine pM_zeq rfl rfl (fun h5 => ?_) (fun h5 => ?_)
      · replace h := h.1 h5
        refine pM_iln rfl rfl ?_
        exact pM_ri rfl (⟨_, rfl, h⟩)
      · replace h := h.2 h5
        refine pM_aln rfl rfl rfl ?_
        refine pM_aln rfl rfl rfl ?_
        refine pM_gr rfl rfl rfl rfl ?_
        refine pM_iln rfl rfl ?_
        refine pM_bl rfl rfl (one_p _) ?_
        refine pM_qVi (as := [.inr (.inl (some 190)), .inl (.inl (M.1 203 (ni v2)))]) (T := []) rfl rfl (fun C hC => cl_v hC rfl rfl rfl rfl) rfl (q_m_noCitizen ) ?_
        refine pM_zne rfl rfl (fun h6 => ?_) (fun h6 => ?_)
        · replace h := h.2 h6
          refine pM_ic rfl ki_0 ?_
          refine pM_isn rfl rfl ?_
          refine pM_ii rfl rfl rfl ki_3 ?_
          refine pM_go rfl rfl ?_
          refine pM_w (F2 := [(0, .inr (.inl (some 190))), (1, .inl (.inl 0)), (2, .inl (.inl (v2 + 3)))]) (fun L hL => lo_cons (lo_lk hL rfl) (lo_cons (lo_lk hL rfl) (lo_cons (lo_lk hL rfl) lo_nil))) ?_
          exact IH hN 0 (v2 + 3) h
        · replace h := h.1 h6
          refine pM_aln rfl rfl rfl ?_
          refine pM_aln rfl rfl rfl ?_
          refine pM_gr rfl rfl rfl rfl ?_
          refine pM_iln rfl rfl ?_
          refine pM_bl rfl rfl (one_p _) ?_
          refine pM_qVi (as := [.inr (.inl (some 190)), .inl (.inl (M.1 203 (ni v2)))]) (T := []) rfl rfl (fun C hC => cl_v hC rfl rfl rfl rfl) rfl (q_m_isAlive ) ?_
          refine pM_zeq rfl rfl (fun h7 => ?_) (fun h7 => ?_)
          · replace h := h.1 h7
            refine pM_ic rfl ki_0 ?_
            refine pM_isn rfl rfl ?_
            refine pM_ii rfl rfl rfl ki_3 ?_
            refine pM_go rfl rfl ?_
            refine pM_w (F2 := [(0, .inr (.inl (some 190))), (1, .inl (.inl 0)), (2, .inl (.inl (v2 + 3)))]) (fun L hL => lo_cons (lo_lk hL rfl) (lo_cons (lo_lk hL rfl) (lo_cons (lo_lk hL rfl) lo_nil))) ?_
            exact IH hN 0 (v2 + 3) h
          · replace h := h.2 h7
            refine pM_aln rfl rfl rfl ?_
            refine pM_gr rfl rfl rfl rfl ?_
            refine pM_iln rfl rfl ?_
            refine pM_ic rfl ki_1 ?_
            refine pM_add rfl ?_
            refine pM_bl rfl rfl (one_p _) ?_
            refine pM_qVi (as := [.inl (.inl (M.1 203 (ni (v2 + 1))))]) (T := []) rfl rfl (fun _ _ => rfl) rfl (q_m_noMatter ) ?_
            refine pM_zne rfl rfl (fun h8 => ?_) (fun h8 => ?_)
            · replace h := h.2 h8
              refine pM_ic rfl ki_0 ?_
              refine pM_isn rfl rfl ?_
              refine pM_ii rfl rfl rfl ki_3 ?_
              refine pM_go rfl rfl ?_
              refine pM_w (F2 := [(0, .inr (.inl (some 190))), (1, .inl (.inl 0)), (2, .inl (.inl (v2 + 3)))]) (fun L hL => lo_cons (lo_lk hL rfl) (lo_cons (lo_lk hL rfl) (lo_cons (lo_lk hL rfl) lo_nil))) ?_
              exact IH hN 0 (v2 + 3) h
            · replace h := h.1 h8
              refine pM_aln rfl rfl rfl ?_
              refine pM_gr rfl rfl rfl rfl ?_
              refine pM_iln rfl rfl ?_
              refine pM_ic rfl ki_2 ?_
              refine pM_add rfl ?_
              refine pM_bl rfl rfl (one_p _) ?_
              refine pM_ic rfl ki_0 ?_
              refine pM_ic rfl ki_1 ?_
              refine pM_qVi (as := [.inl (.inl (M.1 203 (ni (v2 + 2)))), .inl (.inl 0), .inl (.inl 1)]) (T := []) rfl rfl (fun _ _ => rfl) rfl (q_m_in ) ?_
              refine pM_zeq rfl rfl (fun h9 => ?_) (fun h9 => ?_)
              · replace h := h.1 h9
                refine pM_ic rfl ki_0 ?_
                refine pM_isn rfl rfl ?_
                refine pM_ii rfl rfl rfl ki_3 ?_
                refine pM_go rfl rfl ?_
                refine pM_w (F2 := [(0, .inr (.inl (some 190))), (1, .inl (.inl 0)), (2, .inl (.inl (v2 + 3)))]) (fun L hL => lo_cons (lo_lk hL rfl) (lo_cons (lo_lk hL rfl) (lo_cons (lo_lk hL rfl) lo_nil))) ?_
                exact IH hN 0 (v2 + 3) h
              · replace h := h.2 h9
                refine pM_ic rfl ki_1 ?_
                refine pM_go rfl rfl ?_
                refine pM_isn rfl rfl ?_
                refine pM_ii rfl rfl rfl ki_3 ?_
                refine pM_go rfl rfl ?_
                refine pM_w (F2 := [(0, .inr (.inl (some 190))), (1, .inl (.inl 1)), (2, .inl (.inl (v2 + 3)))]) (fun L hL => lo_cons (lo_lk hL rfl) (lo_cons (lo_lk hL rfl) (lo_cons (lo_lk hL rfl) lo_nil))) ?_
                exact IH hN 1 (v2 + 3) h
/-- 274: EarCodeModel.isWatched()Z -/
def W_m_isWatched  (N : Nat) (M : MM) (Q : Int32 → MM → Prop) : Prop :=
  W_m_uses  N M (fun M2 =>
    (((rm (M2.1 190 20) 3) = 0 →
      W_m_isWatched_21 M2 Q N 1 0) ∧
     (¬ (rm (M2.1 190 20) 3) = 0 →
      W_m_isWatched_21 M2 Q N 0 0)))
theorem q_m_isWatched {X : Option (List AI)} {N : Nat} {M : MM}  {Q : Int32 → MM → Prop}  (h : W_m_isWatched  N M Q) : pM X N 274 0 (ea_ar 0 [.inr (.inl (some 190))]) [] M (Ri Q) := by
  refine pM_w (F2 := [(0, .inr (.inl (some 190)))]) (fun L hL => lo_cons (lo_lk hL rfl) lo_nil) ?_
  refine pM_aln rfl rfl rfl ?_
  refine pM_qRu (as := [.inr (.inl (some 190))]) (T := []) rfl rfl (fun C hC => cl_v hC rfl rfl rfl rfl) rfl (q_m_uses  h) (fun M2 h => ?_)
  refine pM_aln rfl rfl rfl ?_
  refine pM_gi rfl rfl rfl rfl ?_
  refine pM_ic rfl ki_3 ?_
  refine pM_rem rfl ?_
  refine pM_zne rfl rfl (fun h3 => ?_) (fun h3 => ?_)
  · replace h := h.2 h3
    refine pM_ic rfl ki_0 ?_
    refine pM_isn rfl rfl ?_
    refine pM_ic rfl ki_0 ?_
    refine pM_isn rfl rfl ?_
    refine pM_w (F2 := [(0, .inr (.inl (some 190))), (1, .inl (.inl 0)), (2, .inl (.inl 0))]) (fun L hL => lo_cons (lo_lk hL rfl) (lo_cons (lo_lk hL rfl) (lo_cons (lo_lk hL rfl) lo_nil))) ?_
    refine q_m_isWatched_21   N (Nat.le_refl N) 0 0 h
  · replace h := h.1 h3
    refine pM_ic rfl ki_1 ?_
    refine pM_go rfl rfl ?_
    refine pM_isn rfl rfl ?_
    refine pM_ic rfl ki_0 ?_
    refine pM_isn rfl rfl ?_
    refine pM_w (F2 := [(0, .inr (.inl (some 190))), (1, .inl (.inl 1)), (2, .inl (.inl 0))]) (fun L hL => lo_cons (lo_lk hL rfl) (lo_cons (lo_lk hL rfl) (lo_cons (lo_lk hL rfl) lo_nil))) ?_
    refine q_m_isWatched_21   N (Nat.le_refl N) 1 0 h
def B_m_nevers_4 (M : MM) (Q : Int32 → Prop) (N : Nat) (ih : Int32 → Int32 → Prop) (v1 : Int32) (v2 : Int32) : Prop :=
  ((v2 < (V_m_clauses  M) →
    (((V_m_demands v2 M) = 0 →
      ih (v1 ||| (sl 1 v2)) (v2 + 1)) ∧
     (¬ (V_m_demands v2 M) = 0 →
      ih (v1 ||| 0) (v2 + 1)))) ∧
   (¬ v2 < (V_m_clauses  M) →
    Q v1))
def W_m_nevers_4 (M : MM) (Q : Int32 → Prop) : Nat → Int32 → Int32 → Prop
  | 0, _, _ => True
  | N + 1, v1, v2 => B_m_nevers_4 M Q N (W_m_nevers_4 M Q N) v1 v2
theorem I_m_nevers_4 (M : MM) (Q : Int32 → Prop) (inv : Int32 → Int32 → Prop) (hs : ∀ (N : Nat) (ih : Int32 → Int32 → Prop) (v1 : Int32) (v2 : Int32), (∀ (v1 : Int32) (v2 : Int32), inv v1 v2 → ih v1 v2) → inv v1 v2 → B_m_nevers_4 M Q N ih v1 v2) : ∀ (N : Nat) (v1 : Int32) (v2 : Int32), inv v1 v2 → W_m_nevers_4 M Q N v1 v2 := by
  intro N
  induction N with
  | zero => intros; trivial
  | succ N IH =>
    intro v1 v2 h
    exact hs N _ v1 v2 IH h
theorem q_m_nevers_4 {X : Option (List AI)} {N0 : Nat} {M : MM} {Q : Int32 → Prop}   : ∀ (N : Nat), N ≤ N0 → ∀ (v1 : Int32) (v2 : Int32), W_m_nevers_4 M Q N v1 v2 → pM X N 275 4 [(0, .inr (.inl (some 190))), (1, .inl (.inl v1)), (2, .inl (.inl v2))] [] M (Pi Q M) := by
  intro N
  induction N with
  | zero => intros; exact pM_zero
  | succ N IH =>
    intro hN v1 v2 h
    replace hN := Nat.le_of_succ_le hN
    replace h : B_m_nevers_4 M Q N (W_m_nevers_4 M Q N) v1 v2 := h
    refine pM_s (pMs_iln rfl rfl ?_)
    refine pM_aln rfl rfl rfl ?_
    refine pM_qVi (as := [.inr (.inl (some 190))]) (T := [.inl (.inl v2)]) rfl rfl (fun C hC => cl_v hC rfl rfl rfl rfl) rfl (q_m_clauses ) ?_
    refine pM_cge rfl rfl (fun h1 => ?_) (fun h1 => ?_)
    · replace h := h.2 h1
      refine pM_iln rfl rfl ?_
      exact pM_ri rfl (⟨_, rfl, rfl, h⟩)
    · replace h := h.1 h1
      refine pM_iln rfl rfl ?_
      refine pM_aln rfl rfl rfl ?_
      refine pM_iln rfl rfl ?_
      refine pM_qVi (as := [.inr (.inl (some 190)), .inl (.inl v2)]) (T := [.inl (.inl v1)]) rfl rfl (fun C hC => cl_v hC rfl rfl rfl rfl) rfl (q_m_demands ) ?_
      refine pM_zeq rfl rfl (fun h2 => ?_) (fun h2 => ?_)
      · replace h := h.1 h2
        refine pM_ic rfl ki_1 ?_
        refine pM_iln rfl rfl ?_
        refine pM_shl rfl ?_
        refine pM_or rfl ?_
        refine pM_isn rfl rfl ?_
        refine pM_ii rfl rfl rfl ki_1 ?_
        refine pM_go rfl rfl ?_
        refine pM_w (F2 := [(0, .inr (.inl (some 190))), (1, .inl (.inl (v1 ||| (sl 1 v2)))), (2, .inl (.inl (v2 + 1)))]) (fun L hL => lo_cons (lo_lk hL rfl) (lo_cons (lo_lk hL rfl) (lo_cons (lo_lk hL rfl) lo_nil))) ?_
        exact IH hN (v1 ||| (sl 1 v2)) (v2 + 1) h
      · replace h := h.2 h2
        refine pM_ic rfl ki_0 ?_
        refine pM_go rfl rfl ?_
        refine pM_or rfl ?_
        refine pM_isn rfl rfl ?_
        refine pM_ii rfl rfl rfl ki_1 ?_
        refine pM_go rfl rfl ?_
        refine pM_w (F2 := [(0, .inr (.inl (some 190))), (1, .inl (.inl (v1 ||| 0))), (2, .inl (.inl (v2 + 1)))]) (fun L hL => lo_cons (lo_lk hL rfl) (lo_cons (lo_lk hL rfl) (lo_cons (lo_lk hL rfl) lo_nil))) ?_
        exact IH hN (v1 ||| 0) (v2 + 1) h
/-- 275: EarCodeModel.nevers()I -/
def W_m_nevers  (N : Nat) (M : MM) (Q : Int32 → Prop) : Prop :=
  W_m_nevers_4 M Q N 0 0
theorem q_m_nevers {X : Option (List AI)} {N : Nat} {M : MM}  {Q : Int32 → Prop}  (h : W_m_nevers  N M Q) : pM X N 275 0 (ea_ar 0 [.inr (.inl (some 190))]) [] M (Pi Q M) := by
  refine pM_w (F2 := [(0, .inr (.inl (some 190)))]) (fun L hL => lo_cons (lo_lk hL rfl) lo_nil) ?_
  refine pM_ic rfl ki_0 ?_
  refine pM_isn rfl rfl ?_
  refine pM_ic rfl ki_0 ?_
  refine pM_isn rfl rfl ?_
  refine pM_w (F2 := [(0, .inr (.inl (some 190))), (1, .inl (.inl 0)), (2, .inl (.inl 0))]) (fun L hL => lo_cons (lo_lk hL rfl) (lo_cons (lo_lk hL rfl) (lo_cons (lo_lk hL rfl) lo_nil))) ?_
  refine q_m_nevers_4   N (Nat.le_refl N) 0 0 h
def B_m_laysWatched_2 (Q : MM → Prop) (N : Nat) (ih : Int32 → MM → Prop) (v1 : Int32) (M : MM) : Prop :=
  ((v1 < (M.1 190 20) →
    W_m_nevers  N M (fun r2 =>
      W_m_forbidsNow r2 (M.1 203 (ni (v1 + 1))) (M.1 203 (ni v1)) N M (fun r4 M5 =>
        ih (v1 + 3) (wi M5 209 (ni v1) r4)))) ∧
   (¬ v1 < (M.1 190 20) →
    Q M))
def W_m_laysWatched_2 (Q : MM → Prop) : Nat → Int32 → MM → Prop
  | 0, _, _ => True
  | N + 1, v1, M => B_m_laysWatched_2 Q N (W_m_laysWatched_2 Q N) v1 M
theorem I_m_laysWatched_2 (Q : MM → Prop) (inv : Int32 → MM → Prop) (hs : ∀ (N : Nat) (ih : Int32 → MM → Prop) (v1 : Int32) (M : MM), (∀ (v1 : Int32) (M : MM), inv v1 M → ih v1 M) → inv v1 M → B_m_laysWatched_2 Q N ih v1 M) : ∀ (N : Nat) (v1 : Int32) (M : MM), inv v1 M → W_m_laysWatched_2 Q N v1 M := by
  intro N
  induction N with
  | zero => intros; trivial
  | succ N IH =>
    intro v1 M h
    exact hs N _ v1 M IH h
theorem q_m_laysWatched_2 {X : Option (List AI)} {N0 : Nat} {Q : MM → Prop}   : ∀ (N : Nat), N ≤ N0 → ∀ (v1 : Int32) (M : MM), W_m_laysWatched_2 Q N v1 M → pM X N 276 2 [(0, .inr (.inl (some 190))), (1, .inl (.inl v1))] [] M (Ru Q) := by
  intro N
  induction N with
  | zero => intros; exact pM_zero
  | succ N IH =>
    intro hN v1 M h
    replace hN := Nat.le_of_succ_le hN
    replace h : B_m_laysWatched_2 Q N (W_m_laysWatched_2 Q N) v1 M := h
    refine pM_s (pMs_iln rfl rfl ?_)
    refine pM_aln rfl rfl rfl ?_
    refine pM_gi rfl rfl rfl rfl ?_
    refine pM_cge rfl rfl (fun h1 => ?_) (fun h1 => ?_)
    · replace h := h.2 h1
      exact pM_ru rfl (⟨rfl, h⟩)
    · replace h := h.1 h1
      refine pM_aln rfl rfl rfl ?_
      refine pM_gr rfl rfl rfl rfl ?_
      refine pM_iln rfl rfl ?_
      refine pM_aln rfl rfl rfl ?_
      refine pM_aln rfl rfl rfl ?_
      refine pM_qPi (as := [.inr (.inl (some 190))]) (T := [.inr (.inl (some 190)), .inl (.inl v1), .inr (.inl (some 209))]) rfl rfl (fun C hC => cl_v hC rfl rfl rfl rfl) rfl (q_m_nevers  h) (fun r2 h => ?_)
      refine pM_aln rfl rfl rfl ?_
      refine pM_gr rfl rfl rfl rfl ?_
      refine pM_iln rfl rfl ?_
      refine pM_ic rfl ki_1 ?_
      refine pM_add rfl ?_
      refine pM_bl rfl rfl (one_p _) ?_
      refine pM_aln rfl rfl rfl ?_
      refine pM_gr rfl rfl rfl rfl ?_
      refine pM_iln rfl rfl ?_
      refine pM_bl rfl rfl (one_p _) ?_
      refine pM_qRi (as := [.inr (.inl (some 190)), .inl (.inl r2), .inl (.inl (M.1 203 (ni (v1 + 1)))), .inl (.inl (M.1 203 (ni v1)))]) (T := [.inl (.inl v1), .inr (.inl (some 209))]) rfl rfl (fun C hC => cl_v hC rfl rfl rfl rfl) rfl (q_m_forbidsNow  h) (fun r4 M5 h => ?_)
      refine pM_sa rfl rfl (one_p _) ?_
      refine pM_ii rfl rfl rfl ki_3 ?_
      refine pM_go rfl rfl ?_
      refine pM_w (F2 := [(0, .inr (.inl (some 190))), (1, .inl (.inl (v1 + 3)))]) (fun L hL => lo_cons (lo_lk hL rfl) (lo_cons (lo_lk hL rfl) lo_nil)) ?_
      exact IH hN (v1 + 3) (wi M5 209 (ni v1) r4) h
/-- 276: EarCodeModel.laysWatched()V -/
def W_m_laysWatched  (N : Nat) (M : MM) (Q : MM → Prop) : Prop :=
  W_m_laysWatched_2 Q N 0 M
theorem q_m_laysWatched {X : Option (List AI)} {N : Nat} {M : MM}  {Q : MM → Prop}  (h : W_m_laysWatched  N M Q) : pM X N 276 0 (ea_ar 0 [.inr (.inl (some 190))]) [] M (Ru Q) := by
  refine pM_w (F2 := [(0, .inr (.inl (some 190)))]) (fun L hL => lo_cons (lo_lk hL rfl) lo_nil) ?_
  refine pM_ic rfl ki_0 ?_
  refine pM_isn rfl rfl ?_
  refine pM_w (F2 := [(0, .inr (.inl (some 190))), (1, .inl (.inl 0))]) (fun L hL => lo_cons (lo_lk hL rfl) (lo_cons (lo_lk hL rfl) lo_nil)) ?_
  refine q_m_laysWatched_2   N (Nat.le_refl N) 0 M h
def B_m_isCode_19 (p1 : Int32) (M : MM) (Q : Int32 → Prop) (N : Nat) (ih : Int32 → Int32 → Prop) (v2 : Int32) (v3 : Int32) : Prop :=
  ((v3 < (M.1 190 20) →
    ((v2 = 0 →
      Q v2) ∧
     (¬ v2 = 0 →
      ((((M.1 209 (ni v3)) &&& p1) = 0 →
        (((M.1 203 (ni (v3 + 2))) = 1 →
          ih 0 (v3 + 3)) ∧
         (¬ (M.1 203 (ni (v3 + 2))) = 1 →
          ih 1 (v3 + 3)))) ∧
       (¬ ((M.1 209 (ni v3)) &&& p1) = 0 →
        (((M.1 203 (ni (v3 + 2))) = 1 →
          ih 1 (v3 + 3)) ∧
         (¬ (M.1 203 (ni (v3 + 2))) = 1 →
          ih 0 (v3 + 3)))))))) ∧
   (¬ v3 < (M.1 190 20) →
    Q v2))
def W_m_isCode_19 (p1 : Int32) (M : MM) (Q : Int32 → Prop) : Nat → Int32 → Int32 → Prop
  | 0, _, _ => True
  | N + 1, v2, v3 => B_m_isCode_19 p1 M Q N (W_m_isCode_19 p1 M Q N) v2 v3
theorem I_m_isCode_19 (p1 : Int32) (M : MM) (Q : Int32 → Prop) (inv : Int32 → Int32 → Prop) (hs : ∀ (N : Nat) (ih : Int32 → Int32 → Prop) (v2 : Int32) (v3 : Int32), (∀ (v2 : Int32) (v3 : Int32), inv v2 v3 → ih v2 v3) → inv v2 v3 → B_m_isCode_19 p1 M Q N ih v2 v3) : ∀ (N : Nat) (v2 : Int32) (v3 : Int32), inv v2 v3 → W_m_isCode_19 p1 M Q N v2 v3 := by
  intro N
  induction N with
  | zero => intros; trivial
  | succ N IH =>
    intro v2 v3 h
    exact hs N _ v2 v3 IH h
theorem q_m_isCode_19 {X : Option (List AI)} {N0 : Nat} {p1 : Int32} {M : MM} {Q : Int32 → Prop}   : ∀ (N : Nat), N ≤ N0 → ∀ (v2 : Int32) (v3 : Int32), W_m_isCode_19 p1 M Q N v2 v3 → pM X N 277 19 [(0, .inr (.inl (some 190))), (1, .inl (.inl p1)), (2, .inl (.inl v2)), (3, .inl (.inl v3))] [] M (Pi Q M) := by
  intro N
  induction N with
  | zero => intros; exact pM_zero
  | succ N IH =>
    intro hN v2 v3 h
    replace hN := Nat.le_of_succ_le hN
    replace h : B_m_isCode_19 p1 M Q N (W_m_isCode_19 p1 M Q N) v2 v3 := h
    refine pM_s (pMs_iln rfl rfl ?_)
    refine pM_aln rfl rfl rfl ?_
    refine pM_gi rfl rfl rfl rfl ?_
    refine pM_cge rfl rfl (fun h4 => ?_) (fun h4 => ?_)
    · replace h := h.2 h4
      refine pM_iln rfl rfl ?_
      exact pM_ri rfl (⟨_, rfl, rfl, h⟩)
    · replace h := h.1 h4
      refine pM_iln rfl rfl ?_
      refine pM_zeq rfl rfl (fun h5 => ?_) (fun h5 => ?_)
      · replace h := h.1 h5
        refine pM_iln rfl rfl ?_
        exact pM_ri rfl (⟨_, rfl, rfl, h⟩)
      · replace h := h.2 h5
        refine pM_aln rfl rfl rfl ?_
        refine pM_gr rfl rfl rfl rfl ?_
        refine pM_iln rfl rfl ?_
        refine pM_ai rfl rfl (one_p _) ?_
        refine pM_iln rfl rfl ?_
        refine pM_and rfl ?_
        refine pM_zeq rfl rfl (fun h6 => ?_) (fun h6 => ?_)
        · replace h := h.1 h6
          refine pM_ic rfl ki_0 ?_
          refine pM_aln rfl rfl rfl ?_
          refine pM_gr rfl rfl rfl rfl ?_
          refine pM_iln rfl rfl ?_
          refine pM_ic rfl ki_2 ?_
          refine pM_add rfl ?_
          refine pM_bl rfl rfl (one_p _) ?_
          refine pM_ic rfl ki_1 ?_
          refine pM_cne rfl rfl (fun h7 => ?_) (fun h7 => ?_)
          · replace h := h.2 h7
            refine pM_ic rfl ki_0 ?_
            refine pM_cne rfl rfl (fun h9 => ?_) (fun h9 => ?_)
            · exact absurd (by decide) h9
            · refine pM_ic rfl ki_1 ?_
              refine pM_go rfl rfl ?_
              refine pM_isn rfl rfl ?_
              refine pM_ii rfl rfl rfl ki_3 ?_
              refine pM_go rfl rfl ?_
              refine pM_w (F2 := [(0, .inr (.inl (some 190))), (1, .inl (.inl p1)), (2, .inl (.inl 1)), (3, .inl (.inl (v3 + 3)))]) (fun L hL => lo_cons (lo_lk hL rfl) (lo_cons (lo_lk hL rfl) (lo_cons (lo_lk hL rfl) (lo_cons (lo_lk hL rfl) lo_nil)))) ?_
              exact IH hN 1 (v3 + 3) h
          · replace h := h.1 h7
            refine pM_ic rfl ki_1 ?_
            refine pM_go rfl rfl ?_
            refine pM_cne rfl rfl (fun h8 => ?_) (fun h8 => ?_)
            · refine pM_ic rfl ki_0 ?_
              refine pM_isn rfl rfl ?_
              refine pM_ii rfl rfl rfl ki_3 ?_
              refine pM_go rfl rfl ?_
              refine pM_w (F2 := [(0, .inr (.inl (some 190))), (1, .inl (.inl p1)), (2, .inl (.inl 0)), (3, .inl (.inl (v3 + 3)))]) (fun L hL => lo_cons (lo_lk hL rfl) (lo_cons (lo_lk hL rfl) (lo_cons (lo_lk hL rfl) (lo_cons (lo_lk hL rfl) lo_nil)))) ?_
              exact IH hN 0 (v3 + 3) h
            · exact absurd h8 (by decide)
        · replace h := h.2 h6
          refine pM_ic rfl ki_1 ?_
          refine pM_go rfl rfl ?_
          refine pM_aln rfl rfl rfl ?_
          refine pM_gr rfl rfl rfl rfl ?_
          refine pM_iln rfl rfl ?_
          refine pM_ic rfl ki_2 ?_
          refine pM_add rfl ?_
          refine pM_bl rfl rfl (one_p _) ?_
          refine pM_ic rfl ki_1 ?_
          refine pM_cne rfl rfl (fun h10 => ?_) (fun h10 => ?_)
          · replace h := h.2 h10
            refine pM_ic rfl ki_0 ?_
            refine pM_cne rfl rfl (fun h12 => ?_) (fun h12 => ?_)
            · refine pM_ic rfl ki_0 ?_
              refine pM_isn rfl rfl ?_
              refine pM_ii rfl rfl rfl ki_3 ?_
              refine pM_go rfl rfl ?_
              refine pM_w (F2 := [(0, .inr (.inl (some 190))), (1, .inl (.inl p1)), (2, .inl (.inl 0)), (3, .inl (.inl (v3 + 3)))]) (fun L hL => lo_cons (lo_lk hL rfl) (lo_cons (lo_lk hL rfl) (lo_cons (lo_lk hL rfl) (lo_cons (lo_lk hL rfl) lo_nil)))) ?_
              exact IH hN 0 (v3 + 3) h
            · exact absurd h12 (by decide)
          · replace h := h.1 h10
            refine pM_ic rfl ki_1 ?_
            refine pM_go rfl rfl ?_
            refine pM_cne rfl rfl (fun h11 => ?_) (fun h11 => ?_)
            · exact absurd (by decide) h11
            · refine pM_ic rfl ki_1 ?_
              refine pM_go rfl rfl ?_
              refine pM_isn rfl rfl ?_
              refine pM_ii rfl rfl rfl ki_3 ?_
              refine pM_go rfl rfl ?_
              refine pM_w (F2 := [(0, .inr (.inl (some 190))), (1, .inl (.inl p1)), (2, .inl (.inl 1)), (3, .inl (.inl (v3 + 3)))]) (fun L hL => lo_cons (lo_lk hL rfl) (lo_cons (lo_lk hL rfl) (lo_cons (lo_lk hL rfl) (lo_cons (lo_lk hL rfl) lo_nil)))) ?_
              exact IH hN 1 (v3 + 3) h
/-- 277: EarCodeModel.isCode(I)Z -/
def W_m_isCode (p1 : Int32) (N : Nat) (M : MM) (Q : Int32 → Prop) : Prop :=
  W_m_nevers  N M (fun r1 =>
    (((p1 &&& (r1 ^^^ (-1))) = 0 →
      W_m_isCode_19 p1 M Q N 1 0) ∧
     (¬ (p1 &&& (r1 ^^^ (-1))) = 0 →
      W_m_isCode_19 p1 M Q N 0 0)))
theorem q_m_isCode {X : Option (List AI)} {N : Nat} {M : MM} {p1 : Int32} {Q : Int32 → Prop}  (h : W_m_isCode p1 N M Q) : pM X N 277 0 (ea_ar 0 [.inr (.inl (some 190)), .inl (.inl p1)]) [] M (Pi Q M) := by
  refine pM_w (F2 := [(0, .inr (.inl (some 190))), (1, .inl (.inl p1))]) (fun L hL => lo_cons (lo_lk hL rfl) (lo_cons (lo_lk hL rfl) lo_nil)) ?_
  refine pM_iln rfl rfl ?_
  refine pM_aln rfl rfl rfl ?_
  refine pM_qPi (as := [.inr (.inl (some 190))]) (T := [.inl (.inl p1)]) rfl rfl (fun C hC => cl_v hC rfl rfl rfl rfl) rfl (q_m_nevers  h) (fun r1 h => ?_)
  refine pM_ic rfl ki_m1 ?_
  refine pM_xor rfl ?_
  refine pM_and rfl ?_
  refine pM_zne rfl rfl (fun h3 => ?_) (fun h3 => ?_)
  · replace h := h.2 h3
    refine pM_ic rfl ki_0 ?_
    refine pM_isn rfl rfl ?_
    refine pM_ic rfl ki_0 ?_
    refine pM_isn rfl rfl ?_
    refine pM_w (F2 := [(0, .inr (.inl (some 190))), (1, .inl (.inl p1)), (2, .inl (.inl 0)), (3, .inl (.inl 0))]) (fun L hL => lo_cons (lo_lk hL rfl) (lo_cons (lo_lk hL rfl) (lo_cons (lo_lk hL rfl) (lo_cons (lo_lk hL rfl) lo_nil)))) ?_
    refine q_m_isCode_19   N (Nat.le_refl N) 0 0 h
  · replace h := h.1 h3
    refine pM_ic rfl ki_1 ?_
    refine pM_go rfl rfl ?_
    refine pM_isn rfl rfl ?_
    refine pM_ic rfl ki_0 ?_
    refine pM_isn rfl rfl ?_
    refine pM_w (F2 := [(0, .inr (.inl (some 190))), (1, .inl (.inl p1)), (2, .inl (.inl 1)), (3, .inl (.inl 0))]) (fun L hL => lo_cons (lo_lk hL rfl) (lo_cons (lo_lk hL rfl) (lo_cons (lo_lk hL rfl) (lo_cons (lo_lk hL rfl) lo_nil)))) ?_
    refine q_m_isCode_19   N (Nat.le_refl N) 1 0 h
def B_m_read_68 (p1 : Int32) (M : MM) (Q : Int32 → MM → Prop) (N : Nat) (ih : Int32 → Int32 → Int32 → Int32 → Prop) (v3 : Int32) (v4 : Int32) (v5 : Int32) (v6 : Int32) : Prop :=
  ((v6 < (sl 1 (V_m_clauses  M)) →
    W_m_isCode v6 N M (fun r14 =>
      ((r14 = 0 →
        ih v3 v4 v5 (v6 + 1)) ∧
       (¬ r14 = 0 →
        ih (v3 + 1) (v4 &&& v6) (v5 ||| v6) (v6 + 1))))) ∧
   (¬ v6 < (sl 1 (V_m_clauses  M)) →
    ((p1 = 0 →
      Q v3 M) ∧
     (¬ p1 = 0 →
      ((v3 = 0 →
        Q v3 M) ∧
       (¬ v3 = 0 →
        ((p1 = 1 →
          Q v4 M) ∧
         (¬ p1 = 1 →
          Q v5 M))))))))
def W_m_read_68 (p1 : Int32) (M : MM) (Q : Int32 → MM → Prop) : Nat → Int32 → Int32 → Int32 → Int32 → Prop
  | 0, _, _, _, _ => True
  | N + 1, v3, v4, v5, v6 => B_m_read_68 p1 M Q N (W_m_read_68 p1 M Q N) v3 v4 v5 v6
theorem I_m_read_68 (p1 : Int32) (M : MM) (Q : Int32 → MM → Prop) (inv : Int32 → Int32 → Int32 → Int32 → Prop) (hs : ∀ (N : Nat) (ih : Int32 → Int32 → Int32 → Int32 → Prop) (v3 : Int32) (v4 : Int32) (v5 : Int32) (v6 : Int32), (∀ (v3 : Int32) (v4 : Int32) (v5 : Int32) (v6 : Int32), inv v3 v4 v5 v6 → ih v3 v4 v5 v6) → inv v3 v4 v5 v6 → B_m_read_68 p1 M Q N ih v3 v4 v5 v6) : ∀ (N : Nat) (v3 : Int32) (v4 : Int32) (v5 : Int32) (v6 : Int32), inv v3 v4 v5 v6 → W_m_read_68 p1 M Q N v3 v4 v5 v6 := by
  intro N
  induction N with
  | zero => intros; trivial
  | succ N IH =>
    intro v3 v4 v5 v6 h
    exact hs N _ v3 v4 v5 v6 IH h
theorem q_m_read_68 {X : Option (List AI)} {N0 : Nat} {p1 : Int32} {M : MM} {Q : Int32 → MM → Prop}   : ∀ (N : Nat), N ≤ N0 → ∀ (v3 : Int32) (v4 : Int32) (v5 : Int32) (v6 : Int32), W_m_read_68 p1 M Q N v3 v4 v5 v6 → pM X N 278 68 [(0, .inr (.inl (some 190))), (1, .inl (.inl p1)), (3, .inl (.inl v3)), (4, .inl (.inl v4)), (5, .inl (.inl v5)), (6, .inl (.inl v6))] [] M (Ri Q) := by
  intro N
  induction N with
  | zero => intros; exact pM_zero
  | succ N IH =>
    intro hN v3 v4 v5 v6 h
    replace hN := Nat.le_of_succ_le hN
    replace h : B_m_read_68 p1 M Q N (W_m_read_68 p1 M Q N) v3 v4 v5 v6 := h
    refine pM_s (pMs_il rfl rfl ?_)
    refine pM_ic rfl ki_1 ?_
    refine pM_aln rfl rfl rfl ?_
    refine pM_qVi (as := [.inr (.inl (some 190))]) (T := [.inl (.inl 1), .inl (.inl v6)]) rfl rfl (fun C hC => cl_v hC rfl rfl rfl rfl) rfl (q_m_clauses ) ?_
    refine pM_shl rfl ?_
    refine pM_cge rfl rfl (fun h13 => ?_) (fun h13 => ?_)
    · replace h := h.2 h13
      refine pM_iln rfl rfl ?_
      refine pM_zeq rfl rfl (fun h17 => ?_) (fun h17 => ?_)
      · replace h := h.1 h17
        refine pM_iln rfl rfl ?_
        refine pM_go rfl rfl ?_
        exact pM_ri rfl (⟨_, rfl, h⟩)
      · replace h := h.2 h17
        refine pM_iln rfl rfl ?_
        refine pM_zne rfl rfl (fun h18 => ?_) (fun h18 => ?_)
        · replace h := h.2 h18
          refine pM_iln rfl rfl ?_
          refine pM_ic rfl ki_1 ?_
          refine pM_cne rfl rfl (fun h19 => ?_) (fun h19 => ?_)
          · replace h := h.2 h19
            refine pM_il rfl rfl ?_
            exact pM_ri rfl (⟨_, rfl, h⟩)
          · replace h := h.1 h19
            refine pM_il rfl rfl ?_
            refine pM_go rfl rfl ?_
            exact pM_ri rfl (⟨_, rfl, h⟩)
        · replace h := h.1 h18
          refine pM_iln rfl rfl ?_
          refine pM_go rfl rfl ?_
          exact pM_ri rfl (⟨_, rfl, h⟩)
    · replace h := h.1 h13
      refine pM_aln rfl rfl rfl ?_
      refine pM_il rfl rfl ?_
      refine pM_qPi (as := [.inr (.inl (some 190)), .inl (.inl v6)]) (T := []) rfl rfl (fun C hC => cl_v hC rfl rfl rfl rfl) rfl (q_m_isCode  h) (fun r14 h => ?_)
      refine pM_zne rfl rfl (fun h16 => ?_) (fun h16 => ?_)
      · replace h := h.2 h16
        refine pM_ii rfl rfl rfl ki_1 ?_
        refine pM_il rfl rfl ?_
        refine pM_il rfl rfl ?_
        refine pM_and rfl ?_
        refine pM_is rfl rfl ?_
        refine pM_il rfl rfl ?_
        refine pM_il rfl rfl ?_
        refine pM_or rfl ?_
        refine pM_is rfl rfl ?_
        refine pM_ii rfl rfl rfl ki_1 ?_
        refine pM_go rfl rfl ?_
        refine pM_w (F2 := [(0, .inr (.inl (some 190))), (1, .inl (.inl p1)), (3, .inl (.inl (v3 + 1))), (4, .inl (.inl (v4 &&& v6))), (5, .inl (.inl (v5 ||| v6))), (6, .inl (.inl (v6 + 1)))]) (fun L hL => lo_cons (lo_lk hL rfl) (lo_cons (lo_lk hL rfl) (lo_cons (lo_lk hL rfl) (lo_cons (lo_lk hL rfl) (lo_cons (lo_lk hL rfl) (lo_cons (lo_lk hL rfl) lo_nil)))))) ?_
        exact IH hN (v3 + 1) (v4 &&& v6) (v5 ||| v6) (v6 + 1) h
      · replace h := h.1 h16
        refine pM_go rfl rfl ?_
        refine pM_ii rfl rfl rfl ki_1 ?_
        refine pM_go rfl rfl ?_
        refine pM_w (F2 := [(0, .inr (.inl (some 190))), (1, .inl (.inl p1)), (3, .inl (.inl v3)), (4, .inl (.inl v4)), (5, .inl (.inl v5)), (6, .inl (.inl (v6 + 1)))]) (fun L hL => lo_cons (lo_lk hL rfl) (lo_cons (lo_lk hL rfl) (lo_cons (lo_lk hL rfl) (lo_cons (lo_lk hL rfl) (lo_cons (lo_lk hL rfl) (lo_cons (lo_lk hL rfl) lo_nil)))))) ?_
        exact IH hN v3 v4 v5 (v6 + 1) h
/-- 278: EarCodeModel.read(I)I -/
def W_m_read (p1 : Int32) (N : Nat) (M : MM) (Q : Int32 → MM → Prop) : Prop :=
  W_m_isWatched  N M (fun r1 M2 =>
    ((r1 = 0 →
      W_m_throwsIf 1 1 N M2 (fun r4 M5 =>
        ((r4 = 0 →
          (((V_m_in p1 0 2 M5) = 0 →
            W_m_throwsIf 1 2 N M5 (fun r8 M9 =>
              ((r8 = 0 →
                W_m_laysWatched  N M9 (fun M12 =>
                  W_m_read_68 p1 M12 Q N 0 ((sl 1 (V_m_clauses  M12)) - 1) 0 0)) ∧
               (¬ r8 = 0 →
                Q 0 M9)))) ∧
           (¬ (V_m_in p1 0 2 M5) = 0 →
            W_m_throwsIf 0 2 N M5 (fun r20 M21 =>
              ((r20 = 0 →
                W_m_laysWatched  N M21 (fun M24 =>
                  W_m_read_68 p1 M24 Q N 0 ((sl 1 (V_m_clauses  M24)) - 1) 0 0)) ∧
               (¬ r20 = 0 →
                Q 0 M21)))))) ∧
         (¬ r4 = 0 →
          Q 0 M5)))) ∧
     (¬ r1 = 0 →
      W_m_throwsIf 0 1 N M2 (fun r25 M26 =>
        ((r25 = 0 →
          (((V_m_in p1 0 2 M26) = 0 →
            W_m_throwsIf 1 2 N M26 (fun r29 M30 =>
              ((r29 = 0 →
                W_m_laysWatched  N M30 (fun M33 =>
                  W_m_read_68 p1 M33 Q N 0 ((sl 1 (V_m_clauses  M33)) - 1) 0 0)) ∧
               (¬ r29 = 0 →
                Q 0 M30)))) ∧
           (¬ (V_m_in p1 0 2 M26) = 0 →
            W_m_throwsIf 0 2 N M26 (fun r34 M35 =>
              ((r34 = 0 →
                W_m_laysWatched  N M35 (fun M38 =>
                  W_m_read_68 p1 M38 Q N 0 ((sl 1 (V_m_clauses  M38)) - 1) 0 0)) ∧
               (¬ r34 = 0 →
                Q 0 M35)))))) ∧
         (¬ r25 = 0 →
          Q 0 M26))))))
theorem q_m_read {X : Option (List AI)} {N : Nat} {M : MM} {p1 : Int32} {Q : Int32 → MM → Prop}  (h : W_m_read p1 N M Q) : pM X N 278 0 (ea_ar 0 [.inr (.inl (some 190)), .inl (.inl p1)]) [] M (Ri Q) := by
  refine pM_w (F2 := [(0, .inr (.inl (some 190))), (1, .inl (.inl p1))]) (fun L hL => lo_cons (lo_lk hL rfl) (lo_cons (lo_lk hL rfl) lo_nil)) ?_
  refine pM_aln rfl rfl rfl ?_
  refine pM_qRi (as := [.inr (.inl (some 190))]) (T := []) rfl rfl (fun C hC => cl_v hC rfl rfl rfl rfl) rfl (q_m_isWatched  h) (fun r1 M2 h => ?_)
  refine pM_isn rfl rfl ?_
  refine pM_aln rfl rfl rfl ?_
  refine pM_iln rfl rfl ?_
  refine pM_zne rfl rfl (fun h3 => ?_) (fun h3 => ?_)
  · replace h := h.2 h3
    refine pM_ic rfl ki_0 ?_
    refine pM_ic rfl ki_1 ?_
    refine pM_qRi (as := [.inr (.inl (some 190)), .inl (.inl 0), .inl (.inl 1)]) (T := []) rfl rfl (fun C hC => cl_v hC rfl rfl rfl rfl) rfl (q_m_throwsIf  h) (fun r25 M26 h => ?_)
    refine pM_zne rfl rfl (fun h27 => ?_) (fun h27 => ?_)
    · replace h := h.2 h27
      refine pM_ic rfl ki_0 ?_
      exact pM_ri rfl (⟨_, rfl, h⟩)
    · replace h := h.1 h27
      refine pM_aln rfl rfl rfl ?_
      refine pM_iln rfl rfl ?_
      refine pM_ic rfl ki_0 ?_
      refine pM_ic rfl ki_2 ?_
      refine pM_qVi (as := [.inl (.inl p1), .inl (.inl 0), .inl (.inl 2)]) (T := [.inr (.inl (some 190))]) rfl rfl (fun _ _ => rfl) rfl (q_m_in ) ?_
      refine pM_zne rfl rfl (fun h28 => ?_) (fun h28 => ?_)
      · replace h := h.2 h28
        refine pM_ic rfl ki_0 ?_
        refine pM_ic rfl ki_2 ?_
        refine pM_qRi (as := [.inr (.inl (some 190)), .inl (.inl 0), .inl (.inl 2)]) (T := []) rfl rfl (fun C hC => cl_v hC rfl rfl rfl rfl) rfl (q_m_throwsIf  h) (fun r34 M35 h => ?_)
        refine pM_zeq rfl rfl (fun h36 => ?_) (fun h36 => ?_)
        · replace h := h.1 h36
          refine pM_aln rfl rfl rfl ?_
          refine pM_qRu (as := [.inr (.inl (some 190))]) (T := []) rfl rfl (fun C hC => cl_v hC rfl rfl rfl rfl) rfl (q_m_laysWatched  h) (fun M38 h => ?_)
          refine pM_ic rfl ki_0 ?_
          refine pM_isn rfl rfl ?_
          refine pM_ic rfl ki_1 ?_
          refine pM_aln rfl rfl rfl ?_
          refine pM_qVi (as := [.inr (.inl (some 190))]) (T := [.inl (.inl 1)]) rfl rfl (fun C hC => cl_v hC rfl rfl rfl rfl) rfl (q_m_clauses ) ?_
          refine pM_shl rfl ?_
          refine pM_ic rfl ki_1 ?_
          refine pM_sub rfl ?_
          refine pM_is rfl rfl ?_
          refine pM_ic rfl ki_0 ?_
          refine pM_is rfl rfl ?_
          refine pM_ic rfl ki_0 ?_
          refine pM_is rfl rfl ?_
          refine pM_w (F2 := [(0, .inr (.inl (some 190))), (1, .inl (.inl p1)), (3, .inl (.inl 0)), (4, .inl (.inl ((sl 1 (V_m_clauses  M38)) - 1))), (5, .inl (.inl 0)), (6, .inl (.inl 0))]) (fun L hL => lo_cons (lo_lk hL rfl) (lo_cons (lo_lk hL rfl) (lo_cons (lo_lk hL rfl) (lo_cons (lo_lk hL rfl) (lo_cons (lo_lk hL rfl) (lo_cons (lo_lk hL rfl) lo_nil)))))) ?_
          refine q_m_read_68   N (Nat.le_refl N) 0 ((sl 1 (V_m_clauses  M38)) - 1) 0 0 h
        · replace h := h.2 h36
          refine pM_ic rfl ki_0 ?_
          exact pM_ri rfl (⟨_, rfl, h⟩)
      · replace h := h.1 h28
        refine pM_ic rfl ki_1 ?_
        refine pM_go rfl rfl ?_
        refine pM_ic rfl ki_2 ?_
        refine pM_qRi (as := [.inr (.inl (some 190)), .inl (.inl 1), .inl (.inl 2)]) (T := []) rfl rfl (fun C hC => cl_v hC rfl rfl rfl rfl) rfl (q_m_throwsIf  h) (fun r29 M30 h => ?_)
        refine pM_zeq rfl rfl (fun h31 => ?_) (fun h31 => ?_)
        · replace h := h.1 h31
          refine pM_aln rfl rfl rfl ?_
          refine pM_qRu (as := [.inr (.inl (some 190))]) (T := []) rfl rfl (fun C hC => cl_v hC rfl rfl rfl rfl) rfl (q_m_laysWatched  h) (fun M33 h => ?_)
          refine pM_ic rfl ki_0 ?_
          refine pM_isn rfl rfl ?_
          refine pM_ic rfl ki_1 ?_
          refine pM_aln rfl rfl rfl ?_
          refine pM_qVi (as := [.inr (.inl (some 190))]) (T := [.inl (.inl 1)]) rfl rfl (fun C hC => cl_v hC rfl rfl rfl rfl) rfl (q_m_clauses ) ?_
          refine pM_shl rfl ?_
          refine pM_ic rfl ki_1 ?_
          refine pM_sub rfl ?_
          refine pM_is rfl rfl ?_
          refine pM_ic rfl ki_0 ?_
          refine pM_is rfl rfl ?_
          refine pM_ic rfl ki_0 ?_
          refine pM_is rfl rfl ?_
          refine pM_w (F2 := [(0, .inr (.inl (some 190))), (1, .inl (.inl p1)), (3, .inl (.inl 0)), (4, .inl (.inl ((sl 1 (V_m_clauses  M33)) - 1))), (5, .inl (.inl 0)), (6, .inl (.inl 0))]) (fun L hL => lo_cons (lo_lk hL rfl) (lo_cons (lo_lk hL rfl) (lo_cons (lo_lk hL rfl) (lo_cons (lo_lk hL rfl) (lo_cons (lo_lk hL rfl) (lo_cons (lo_lk hL rfl) lo_nil)))))) ?_
          refine q_m_read_68   N (Nat.le_refl N) 0 ((sl 1 (V_m_clauses  M33)) - 1) 0 0 h
        · replace h := h.2 h31
          refine pM_ic rfl ki_0 ?_
          exact pM_ri rfl (⟨_, rfl, h⟩)
  · replace h := h.1 h3
    refine pM_ic rfl ki_1 ?_
    refine pM_go rfl rfl ?_
    refine pM_ic rfl ki_1 ?_
    refine pM_qRi (as := [.inr (.inl (some 190)), .inl (.inl 1), .inl (.inl 1)]) (T := []) rfl rfl (fun C hC => cl_v hC rfl rfl rfl rfl) rfl (q_m_throwsIf  h) (fun r4 M5 h => ?_)
    refine pM_zne rfl rfl (fun h6 => ?_) (fun h6 => ?_)
    · replace h := h.2 h6
      refine pM_ic rfl ki_0 ?_
      exact pM_ri rfl (⟨_, rfl, h⟩)
    · replace h := h.1 h6
      refine pM_aln rfl rfl rfl ?_
      refine pM_iln rfl rfl ?_
      refine pM_ic rfl ki_0 ?_
      refine pM_ic rfl ki_2 ?_
      refine pM_qVi (as := [.inl (.inl p1), .inl (.inl 0), .inl (.inl 2)]) (T := [.inr (.inl (some 190))]) rfl rfl (fun _ _ => rfl) rfl (q_m_in ) ?_
      refine pM_zne rfl rfl (fun h7 => ?_) (fun h7 => ?_)
      · replace h := h.2 h7
        refine pM_ic rfl ki_0 ?_
        refine pM_ic rfl ki_2 ?_
        refine pM_qRi (as := [.inr (.inl (some 190)), .inl (.inl 0), .inl (.inl 2)]) (T := []) rfl rfl (fun C hC => cl_v hC rfl rfl rfl rfl) rfl (q_m_throwsIf  h) (fun r20 M21 h => ?_)
        refine pM_zeq rfl rfl (fun h22 => ?_) (fun h22 => ?_)
        · replace h := h.1 h22
          refine pM_aln rfl rfl rfl ?_
          refine pM_qRu (as := [.inr (.inl (some 190))]) (T := []) rfl rfl (fun C hC => cl_v hC rfl rfl rfl rfl) rfl (q_m_laysWatched  h) (fun M24 h => ?_)
          refine pM_ic rfl ki_0 ?_
          refine pM_isn rfl rfl ?_
          refine pM_ic rfl ki_1 ?_
          refine pM_aln rfl rfl rfl ?_
          refine pM_qVi (as := [.inr (.inl (some 190))]) (T := [.inl (.inl 1)]) rfl rfl (fun C hC => cl_v hC rfl rfl rfl rfl) rfl (q_m_clauses ) ?_
          refine pM_shl rfl ?_
          refine pM_ic rfl ki_1 ?_
          refine pM_sub rfl ?_
          refine pM_is rfl rfl ?_
          refine pM_ic rfl ki_0 ?_
          refine pM_is rfl rfl ?_
          refine pM_ic rfl ki_0 ?_
          refine pM_is rfl rfl ?_
          refine pM_w (F2 := [(0, .inr (.inl (some 190))), (1, .inl (.inl p1)), (3, .inl (.inl 0)), (4, .inl (.inl ((sl 1 (V_m_clauses  M24)) - 1))), (5, .inl (.inl 0)), (6, .inl (.inl 0))]) (fun L hL => lo_cons (lo_lk hL rfl) (lo_cons (lo_lk hL rfl) (lo_cons (lo_lk hL rfl) (lo_cons (lo_lk hL rfl) (lo_cons (lo_lk hL rfl) (lo_cons (lo_lk hL rfl) lo_nil)))))) ?_
          refine q_m_read_68   N (Nat.le_refl N) 0 ((sl 1 (V_m_clauses  M24)) - 1) 0 0 h
        · replace h := h.2 h22
          refine pM_ic rfl ki_0 ?_
          exact pM_ri rfl (⟨_, rfl, h⟩)
      · replace h := h.1 h7
        refine pM_ic rfl ki_1 ?_
        refine pM_go rfl rfl ?_
        refine pM_ic rfl ki_2 ?_
        refine pM_qRi (as := [.inr (.inl (some 190)), .inl (.inl 1), .inl (.inl 2)]) (T := []) rfl rfl (fun C hC => cl_v hC rfl rfl rfl rfl) rfl (q_m_throwsIf  h) (fun r8 M9 h => ?_)
        refine pM_zeq rfl rfl (fun h10 => ?_) (fun h10 => ?_)
        · replace h := h.1 h10
          refine pM_aln rfl rfl rfl ?_
          refine pM_qRu (as := [.inr (.inl (some 190))]) (T := []) rfl rfl (fun C hC => cl_v hC rfl rfl rfl rfl) rfl (q_m_laysWatched  h) (fun M12 h => ?_)
          refine pM_ic rfl ki_0 ?_
          refine pM_isn rfl rfl ?_
          refine pM_ic rfl ki_1 ?_
          refine pM_aln rfl rfl rfl ?_
          refine pM_qVi (as := [.inr (.inl (some 190))]) (T := [.inl (.inl 1)]) rfl rfl (fun C hC => cl_v hC rfl rfl rfl rfl) rfl (q_m_clauses ) ?_
          refine pM_shl rfl ?_
          refine pM_ic rfl ki_1 ?_
          refine pM_sub rfl ?_
          refine pM_is rfl rfl ?_
          refine pM_ic rfl ki_0 ?_
          refine pM_is rfl rfl ?_
          refine pM_ic rfl ki_0 ?_
          refine pM_is rfl rfl ?_
          refine pM_w (F2 := [(0, .inr (.inl (some 190))), (1, .inl (.inl p1)), (3, .inl (.inl 0)), (4, .inl (.inl ((sl 1 (V_m_clauses  M12)) - 1))), (5, .inl (.inl 0)), (6, .inl (.inl 0))]) (fun L hL => lo_cons (lo_lk hL rfl) (lo_cons (lo_lk hL rfl) (lo_cons (lo_lk hL rfl) (lo_cons (lo_lk hL rfl) (lo_cons (lo_lk hL rfl) (lo_cons (lo_lk hL rfl) lo_nil)))))) ?_
          refine q_m_read_68   N (Nat.le_refl N) 0 ((sl 1 (V_m_clauses  M12)) - 1) 0 0 h
        · replace h := h.2 h10
          refine pM_ic rfl ki_0 ?_
          exact pM_ri rfl (⟨_, rfl, h⟩)
