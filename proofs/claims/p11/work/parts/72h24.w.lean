/-! WHAT EACH METHOD COMES TO (gw.py) -/
def B_m_better_58 (p1 : Int32) (p2 : Int32) (Q : Int32 → MM → Prop) (N : Nat) (ih : Int32 → Int32 → MM → Prop) (v3 : Int32) (v4 : Int32) (M : MM) : Prop :=
  ((v4 < (V_m_of p1 5 M) →
    W_m_riskOf p1 p2 v4 N M (fun r12 M13 =>
      W_m_riskOf p1 p2 v3 N M13 (fun r14 M15 =>
        ((r12 < r14 →
          ih v4 (v4 + 1) M15) ∧
         (¬ r12 < r14 →
          ih v3 (v4 + 1) M15))))) ∧
   (¬ v4 < (V_m_of p1 5 M) →
    Q v3 M))
def W_m_better_58 (p1 : Int32) (p2 : Int32) (Q : Int32 → MM → Prop) : Nat → Int32 → Int32 → MM → Prop
  | 0, _, _, _ => True
  | N + 1, v3, v4, M => B_m_better_58 p1 p2 Q N (W_m_better_58 p1 p2 Q N) v3 v4 M
theorem I_m_better_58 (p1 : Int32) (p2 : Int32) (Q : Int32 → MM → Prop) (inv : Int32 → Int32 → MM → Prop) (hs : ∀ (N : Nat) (ih : Int32 → Int32 → MM → Prop) (v3 : Int32) (v4 : Int32) (M : MM), (∀ (v3 : Int32) (v4 : Int32) (M : MM), inv v3 v4 M → ih v3 v4 M) → inv v3 v4 M → B_m_better_58 p1 p2 Q N ih v3 v4 M) : ∀ (N : Nat) (v3 : Int32) (v4 : Int32) (M : MM), inv v3 v4 M → W_m_better_58 p1 p2 Q N v3 v4 M := by
  intro N
  induction N with
  | zero => intros; trivial
  | succ N IH =>
    intro v3 v4 M h
    exact hs N _ v3 v4 M IH h
theorem q_m_better_58 {X : Option (List AI)} {N0 : Nat} {p1 : Int32} {p2 : Int32} {Q : Int32 → MM → Prop}   : ∀ (N : Nat), N ≤ N0 → ∀ (v3 : Int32) (v4 : Int32) (M : MM), W_m_better_58 p1 p2 Q N v3 v4 M → pM X N 287 58 [(0, .inr (.inl (some 190))), (1, .inl (.inl p1)), (2, .inl (.inl p2)), (3, .inl (.inl v3)), (4, .inl (.inl v4))] [] M (Ri Q) := by
  intro N
  induction N with
  | zero => intros; exact pM_zero
  | succ N IH =>
    intro hN v3 v4 M h
    replace hN := Nat.le_of_succ_le hN
    replace h : B_m_better_58 p1 p2 Q N (W_m_better_58 p1 p2 Q N) v3 v4 M := h
    refine pM_s (pMs_il rfl rfl ?_)
    refine pM_aln rfl rfl rfl ?_
    refine pM_iln rfl rfl ?_
    refine pM_ic rfl ki_5 ?_
    refine pM_qVi (as := [.inr (.inl (some 190)), .inl (.inl p1), .inl (.inl 5)]) (T := [.inl (.inl v4)]) rfl rfl (fun C hC => cl_v hC rfl rfl rfl rfl) rfl (q_m_of ) ?_
    refine pM_cge rfl rfl (fun h11 => ?_) (fun h11 => ?_)
    · replace h := h.2 h11
      refine pM_iln rfl rfl ?_
      exact pM_ri rfl (⟨_, rfl, h⟩)
    · replace h := h.1 h11
      refine pM_aln rfl rfl rfl ?_
      refine pM_iln rfl rfl ?_
      refine pM_iln rfl rfl ?_
      refine pM_il rfl rfl ?_
      refine pM_qRi (as := [.inr (.inl (some 190)), .inl (.inl p1), .inl (.inl p2), .inl (.inl v4)]) (T := []) rfl rfl (fun C hC => cl_v hC rfl rfl rfl rfl) rfl (q_m_riskOf  h) (fun r12 M13 h => ?_)
      refine pM_aln rfl rfl rfl ?_
      refine pM_iln rfl rfl ?_
      refine pM_iln rfl rfl ?_
      refine pM_iln rfl rfl ?_
      refine pM_qRi (as := [.inr (.inl (some 190)), .inl (.inl p1), .inl (.inl p2), .inl (.inl v3)]) (T := [.inl (.inl r12)]) rfl rfl (fun C hC => cl_v hC rfl rfl rfl rfl) rfl (q_m_riskOf  h) (fun r14 M15 h => ?_)
      refine pM_cge rfl rfl (fun h16 => ?_) (fun h16 => ?_)
      · replace h := h.2 h16
        refine pM_iln rfl rfl ?_
        refine pM_isn rfl rfl ?_
        refine pM_ii rfl rfl rfl ki_1 ?_
        refine pM_go rfl rfl ?_
        refine pM_w (F2 := [(0, .inr (.inl (some 190))), (1, .inl (.inl p1)), (2, .inl (.inl p2)), (3, .inl (.inl v3)), (4, .inl (.inl (v4 + 1)))]) (fun L hL => lo_cons (lo_lk hL rfl) (lo_cons (lo_lk hL rfl) (lo_cons (lo_lk hL rfl) (lo_cons (lo_lk hL rfl) (lo_cons (lo_lk hL rfl) lo_nil))))) ?_
        exact IH hN v3 (v4 + 1) M15 h
      · replace h := h.1 h16
        refine pM_il rfl rfl ?_
        refine pM_go rfl rfl ?_
        refine pM_isn rfl rfl ?_
        refine pM_ii rfl rfl rfl ki_1 ?_
        refine pM_go rfl rfl ?_
        refine pM_w (F2 := [(0, .inr (.inl (some 190))), (1, .inl (.inl p1)), (2, .inl (.inl p2)), (3, .inl (.inl v4)), (4, .inl (.inl (v4 + 1)))]) (fun L hL => lo_cons (lo_lk hL rfl) (lo_cons (lo_lk hL rfl) (lo_cons (lo_lk hL rfl) (lo_cons (lo_lk hL rfl) (lo_cons (lo_lk hL rfl) lo_nil))))) ?_
        exact IH hN v4 (v4 + 1) M15 h
/-- 287: EarCodeModel.better(II)I -/
def W_m_better (p1 : Int32) (p2 : Int32) (N : Nat) (M : MM) (Q : Int32 → MM → Prop) : Prop :=
  W_m_throwsIf (V_m_noCitizen p1 (wi M 190 0 0)) 1 N (wi M 190 0 0) (fun r1 M2 =>
    ((r1 = 0 →
      W_m_throwsIf (V_m_noDays p2 M2) 2 N M2 (fun r4 M5 =>
        ((r4 = 0 →
          (((V_m_isAlive p1 M5) = 0 →
            W_m_throwsIf 1 3 N M5 (fun r8 M9 =>
              ((r8 = 0 →
                W_m_better_58 p1 p2 Q N 0 1 M9) ∧
               (¬ r8 = 0 →
                Q 0 M9)))) ∧
           (¬ (V_m_isAlive p1 M5) = 0 →
            W_m_throwsIf 0 3 N M5 (fun r17 M18 =>
              ((r17 = 0 →
                W_m_better_58 p1 p2 Q N 0 1 M18) ∧
               (¬ r17 = 0 →
                Q 0 M18)))))) ∧
         (¬ r4 = 0 →
          Q 0 M5)))) ∧
     (¬ r1 = 0 →
      Q 0 M2)))
theorem q_m_better {X : Option (List AI)} {N : Nat} {M : MM} {p1 : Int32} {p2 : Int32} {Q : Int32 → MM → Prop}  (h : W_m_better p1 p2 N M Q) : pM X N 287 0 (ea_ar 0 [.inr (.inl (some 190)), .inl (.inl p1), .inl (.inl p2)]) [] M (Ri Q) := by
  refine pM_w (F2 := [(0, .inr (.inl (some 190))), (1, .inl (.inl p1)), (2, .inl (.inl p2))]) (fun L hL => lo_cons (lo_lk hL rfl) (lo_cons (lo_lk hL rfl) (lo_cons (lo_lk hL rfl) lo_nil))) ?_
  refine pM_aln rfl rfl rfl ?_
  refine pM_ic rfl ki_0 ?_
  refine pM_pi rfl rfl rfl rfl ?_
  refine pM_aln rfl rfl rfl ?_
  refine pM_aln rfl rfl rfl ?_
  refine pM_iln rfl rfl ?_
  refine pM_qVi (as := [.inr (.inl (some 190)), .inl (.inl p1)]) (T := [.inr (.inl (some 190))]) rfl rfl (fun C hC => cl_v hC rfl rfl rfl rfl) rfl (q_m_noCitizen ) ?_
  refine pM_ic rfl ki_1 ?_
  refine pM_qRi (as := [.inr (.inl (some 190)), .inl (.inl (V_m_noCitizen p1 (wi M 190 0 0))), .inl (.inl 1)]) (T := []) rfl rfl (fun C hC => cl_v hC rfl rfl rfl rfl) rfl (q_m_throwsIf  h) (fun r1 M2 h => ?_)
  refine pM_zne rfl rfl (fun h3 => ?_) (fun h3 => ?_)
  · replace h := h.2 h3
    refine pM_ic rfl ki_0 ?_
    exact pM_ri rfl (⟨_, rfl, h⟩)
  · replace h := h.1 h3
    refine pM_aln rfl rfl rfl ?_
    refine pM_iln rfl rfl ?_
    refine pM_qVi (as := [.inl (.inl p2)]) (T := [.inr (.inl (some 190))]) rfl rfl (fun _ _ => rfl) rfl (q_m_noDays ) ?_
    refine pM_ic rfl ki_2 ?_
    refine pM_qRi (as := [.inr (.inl (some 190)), .inl (.inl (V_m_noDays p2 M2)), .inl (.inl 2)]) (T := []) rfl rfl (fun C hC => cl_v hC rfl rfl rfl rfl) rfl (q_m_throwsIf  h) (fun r4 M5 h => ?_)
    refine pM_zne rfl rfl (fun h6 => ?_) (fun h6 => ?_)
    · replace h := h.2 h6
      refine pM_ic rfl ki_0 ?_
      exact pM_ri rfl (⟨_, rfl, h⟩)
    · replace h := h.1 h6
      refine pM_aln rfl rfl rfl ?_
      refine pM_aln rfl rfl rfl ?_
      refine pM_iln rfl rfl ?_
      refine pM_qVi (as := [.inr (.inl (some 190)), .inl (.inl p1)]) (T := [.inr (.inl (some 190))]) rfl rfl (fun C hC => cl_v hC rfl rfl rfl rfl) rfl (q_m_isAlive ) ?_
      refine pM_zne rfl rfl (fun h7 => ?_) (fun h7 => ?_)
      · replace h := h.2 h7
        refine pM_ic rfl ki_0 ?_
        refine pM_ic rfl ki_3 ?_
        refine pM_qRi (as := [.inr (.inl (some 190)), .inl (.inl 0), .inl (.inl 3)]) (T := []) rfl rfl (fun C hC => cl_v hC rfl rfl rfl rfl) rfl (q_m_throwsIf  h) (fun r17 M18 h => ?_)
        refine pM_zeq rfl rfl (fun h19 => ?_) (fun h19 => ?_)
        · replace h := h.1 h19
          refine pM_ic rfl ki_0 ?_
          refine pM_isn rfl rfl ?_
          refine pM_ic rfl ki_1 ?_
          refine pM_is rfl rfl ?_
          refine pM_w (F2 := [(0, .inr (.inl (some 190))), (1, .inl (.inl p1)), (2, .inl (.inl p2)), (3, .inl (.inl 0)), (4, .inl (.inl 1))]) (fun L hL => lo_cons (lo_lk hL rfl) (lo_cons (lo_lk hL rfl) (lo_cons (lo_lk hL rfl) (lo_cons (lo_lk hL rfl) (lo_cons (lo_lk hL rfl) lo_nil))))) ?_
          refine q_m_better_58   N (Nat.le_refl N) 0 1 M18 h
        · replace h := h.2 h19
          refine pM_ic rfl ki_0 ?_
          exact pM_ri rfl (⟨_, rfl, h⟩)
      · replace h := h.1 h7
        refine pM_ic rfl ki_1 ?_
        refine pM_go rfl rfl ?_
        refine pM_ic rfl ki_3 ?_
        refine pM_qRi (as := [.inr (.inl (some 190)), .inl (.inl 1), .inl (.inl 3)]) (T := []) rfl rfl (fun C hC => cl_v hC rfl rfl rfl rfl) rfl (q_m_throwsIf  h) (fun r8 M9 h => ?_)
        refine pM_zeq rfl rfl (fun h10 => ?_) (fun h10 => ?_)
        · replace h := h.1 h10
          refine pM_ic rfl ki_0 ?_
          refine pM_isn rfl rfl ?_
          refine pM_ic rfl ki_1 ?_
          refine pM_is rfl rfl ?_
          refine pM_w (F2 := [(0, .inr (.inl (some 190))), (1, .inl (.inl p1)), (2, .inl (.inl p2)), (3, .inl (.inl 0)), (4, .inl (.inl 1))]) (fun L hL => lo_cons (lo_lk hL rfl) (lo_cons (lo_lk hL rfl) (lo_cons (lo_lk hL rfl) (lo_cons (lo_lk hL rfl) (lo_cons (lo_lk hL rfl) lo_nil))))) ?_
          refine q_m_better_58   N (Nat.le_refl N) 0 1 M9 h
        · replace h := h.2 h10
          refine pM_ic rfl ki_0 ?_
          exact pM_ri rfl (⟨_, rfl, h⟩)
def B_m_telling_76 (p1 : Int32) (p2 : Int32) (u3 : Int32) (u6 : Int32) (u7 : Int32) (u8 : Int32) (k178 : Int32 → Int32 → MM → Prop) (Q : Int32 → MM → Prop) (N : Nat) (ih : Int32 → Int32 → Int32 → MM → Prop) (v4 : Int32) (v5 : Int32) (v9 : Int32) (M : MM) : Prop :=
  ((v9 < (V_m_clauses  M) →
    (((V_m_has u7 v9 M) = 0 →
      (((V_m_has u3 v9 M) = 0 →
        ih v4 v5 (v9 + 1) M) ∧
       (¬ (V_m_has u3 v9 M) = 0 →
        W_m_sets u6 1 (u7 ||| (sl 1 v9)) N M (fun M14 =>
          W_m_riskOf u6 p1 0 N M14 (fun r15 M16 =>
            W_m_sets u6 1 u7 N M16 (fun M18 =>
              ((v4 < 0 →
                ih ((100 * u6) + v9) (u8 - r15) (v9 + 1) M18) ∧
               (¬ v4 < 0 →
                ((v5 < (u8 - r15) →
                  ih ((100 * u6) + v9) (u8 - r15) (v9 + 1) M18) ∧
                 (¬ v5 < (u8 - r15) →
                  ih v4 v5 (v9 + 1) M18)))))))))) ∧
     (¬ (V_m_has u7 v9 M) = 0 →
      ih v4 v5 (v9 + 1) M))) ∧
   (¬ v9 < (V_m_clauses  M) →
    k178 v4 v5 M))
def W_m_telling_76 (p1 : Int32) (p2 : Int32) (u3 : Int32) (u6 : Int32) (u7 : Int32) (u8 : Int32) (k178 : Int32 → Int32 → MM → Prop) (Q : Int32 → MM → Prop) : Nat → Int32 → Int32 → Int32 → MM → Prop
  | 0, _, _, _, _ => True
  | N + 1, v4, v5, v9, M => B_m_telling_76 p1 p2 u3 u6 u7 u8 k178 Q N (W_m_telling_76 p1 p2 u3 u6 u7 u8 k178 Q N) v4 v5 v9 M
theorem I_m_telling_76 (p1 : Int32) (p2 : Int32) (u3 : Int32) (u6 : Int32) (u7 : Int32) (u8 : Int32) (k178 : Int32 → Int32 → MM → Prop) (Q : Int32 → MM → Prop) (inv : Int32 → Int32 → Int32 → MM → Prop) (hs : ∀ (N : Nat) (ih : Int32 → Int32 → Int32 → MM → Prop) (v4 : Int32) (v5 : Int32) (v9 : Int32) (M : MM), (∀ (v4 : Int32) (v5 : Int32) (v9 : Int32) (M : MM), inv v4 v5 v9 M → ih v4 v5 v9 M) → inv v4 v5 v9 M → B_m_telling_76 p1 p2 u3 u6 u7 u8 k178 Q N ih v4 v5 v9 M) : ∀ (N : Nat) (v4 : Int32) (v5 : Int32) (v9 : Int32) (M : MM), inv v4 v5 v9 M → W_m_telling_76 p1 p2 u3 u6 u7 u8 k178 Q N v4 v5 v9 M := by
  intro N
  induction N with
  | zero => intros; trivial
  | succ N IH =>
    intro v4 v5 v9 M h
    exact hs N _ v4 v5 v9 M IH h
theorem q_m_telling_76 {X : Option (List AI)} {N0 : Nat} {p1 : Int32} {p2 : Int32} {u3 : Int32} {u6 : Int32} {u7 : Int32} {u8 : Int32} {k178 : Int32 → Int32 → MM → Prop} {Q : Int32 → MM → Prop}  (hk178 : ∀ (v4 : Int32) (v5 : Int32) (M : MM), k178 v4 v5 M → pM X N0 288 178 [(0, .inr (.inl (some 190))), (1, .inl (.inl p1)), (2, .inl (.inl p2)), (3, .inl (.inl u3)), (4, .inl (.inl v4)), (5, .inl (.inl v5)), (6, .inl (.inl u6))] [] M (Ri Q)) : ∀ (N : Nat), N ≤ N0 → ∀ (v4 : Int32) (v5 : Int32) (v9 : Int32) (M : MM), W_m_telling_76 p1 p2 u3 u6 u7 u8 k178 Q N v4 v5 v9 M → pM X N 288 76 [(0, .inr (.inl (some 190))), (1, .inl (.inl p1)), (2, .inl (.inl p2)), (3, .inl (.inl u3)), (4, .inl (.inl v4)), (5, .inl (.inl v5)), (6, .inl (.inl u6)), (7, .inl (.inl u7)), (8, .inl (.inl u8)), (9, .inl (.inl v9))] [] M (Ri Q) := by
  intro N
  induction N with
  | zero => intros; exact pM_zero
  | succ N IH =>
    intro hN v4 v5 v9 M h
    replace hN := Nat.le_of_succ_le hN
    replace h : B_m_telling_76 p1 p2 u3 u6 u7 u8 k178 Q N (W_m_telling_76 p1 p2 u3 u6 u7 u8 k178 Q N) v4 v5 v9 M := h
    refine pM_s (pMs_il rfl rfl ?_)
    refine pM_aln rfl rfl rfl ?_
    refine pM_qVi (as := [.inr (.inl (some 190))]) (T := [.inl (.inl v9)]) rfl rfl (fun C hC => cl_v hC rfl rfl rfl rfl) rfl (q_m_clauses ) ?_
    refine pM_cge rfl rfl (fun h10 => ?_) (fun h10 => ?_)
    · replace h := h.2 h10
      refine pM_w (F2 := [(0, .inr (.inl (some 190))), (1, .inl (.inl p1)), (2, .inl (.inl p2)), (3, .inl (.inl u3)), (4, .inl (.inl v4)), (5, .inl (.inl v5)), (6, .inl (.inl u6))]) (fun L hL => lo_cons (lo_lk hL rfl) (lo_cons (lo_lk hL rfl) (lo_cons (lo_lk hL rfl) (lo_cons (lo_lk hL rfl) (lo_cons (lo_lk hL rfl) (lo_cons (lo_lk hL rfl) (lo_cons (lo_lk hL rfl) lo_nil))))))) ?_
      exact pM_le hN (hk178 _ _ _ h)
    · replace h := h.1 h10
      refine pM_il rfl rfl ?_
      refine pM_il rfl rfl ?_
      refine pM_qVi (as := [.inl (.inl u7), .inl (.inl v9)]) (T := []) rfl rfl (fun _ _ => rfl) rfl (q_m_has ) ?_
      refine pM_zne rfl rfl (fun h11 => ?_) (fun h11 => ?_)
      · replace h := h.2 h11
        refine pM_ii rfl rfl rfl ki_1 ?_
        refine pM_go rfl rfl ?_
        refine pM_w (F2 := [(0, .inr (.inl (some 190))), (1, .inl (.inl p1)), (2, .inl (.inl p2)), (3, .inl (.inl u3)), (4, .inl (.inl v4)), (5, .inl (.inl v5)), (6, .inl (.inl u6)), (7, .inl (.inl u7)), (8, .inl (.inl u8)), (9, .inl (.inl (v9 + 1)))]) (fun L hL => lo_cons (lo_lk hL rfl) (lo_cons (lo_lk hL rfl) (lo_cons (lo_lk hL rfl) (lo_cons (lo_lk hL rfl) (lo_cons (lo_lk hL rfl) (lo_cons (lo_lk hL rfl) (lo_cons (lo_lk hL rfl) (lo_cons (lo_lk hL rfl) (lo_cons (lo_lk hL rfl) (lo_cons (lo_lk hL rfl) lo_nil)))))))))) ?_
        exact IH hN v4 v5 (v9 + 1) M h
      · replace h := h.1 h11
        refine pM_iln rfl rfl ?_
        refine pM_il rfl rfl ?_
        refine pM_qVi (as := [.inl (.inl u3), .inl (.inl v9)]) (T := []) rfl rfl (fun _ _ => rfl) rfl (q_m_has ) ?_
        refine pM_zne rfl rfl (fun h12 => ?_) (fun h12 => ?_)
        · replace h := h.2 h12
          refine pM_aln rfl rfl rfl ?_
          refine pM_il rfl rfl ?_
          refine pM_ic rfl ki_1 ?_
          refine pM_il rfl rfl ?_
          refine pM_ic rfl ki_1 ?_
          refine pM_il rfl rfl ?_
          refine pM_shl rfl ?_
          refine pM_or rfl ?_
          refine pM_qRu (as := [.inr (.inl (some 190)), .inl (.inl u6), .inl (.inl 1), .inl (.inl (u7 ||| (sl 1 v9)))]) (T := []) rfl rfl (fun C hC => cl_v hC rfl rfl rfl rfl) rfl (q_m_sets  h) (fun M14 h => ?_)
          refine pM_il rfl rfl ?_
          refine pM_aln rfl rfl rfl ?_
          refine pM_il rfl rfl ?_
          refine pM_iln rfl rfl ?_
          refine pM_ic rfl ki_0 ?_
          refine pM_qRi (as := [.inr (.inl (some 190)), .inl (.inl u6), .inl (.inl p1), .inl (.inl 0)]) (T := [.inl (.inl u8)]) rfl rfl (fun C hC => cl_v hC rfl rfl rfl rfl) rfl (q_m_riskOf  h) (fun r15 M16 h => ?_)
          refine pM_sub rfl ?_
          refine pM_is rfl rfl ?_
          refine pM_aln rfl rfl rfl ?_
          refine pM_il rfl rfl ?_
          refine pM_ic rfl ki_1 ?_
          refine pM_il rfl rfl ?_
          refine pM_qRu (as := [.inr (.inl (some 190)), .inl (.inl u6), .inl (.inl 1), .inl (.inl u7)]) (T := []) rfl rfl (fun C hC => cl_v hC rfl rfl rfl rfl) rfl (q_m_sets  h) (fun M18 h => ?_)
          refine pM_il rfl rfl ?_
          refine pM_zlt rfl rfl (fun h19 => ?_) (fun h19 => ?_)
          · replace h := h.1 h19
            refine pM_bi rfl kb_100 ?_
            refine pM_il rfl rfl ?_
            refine pM_mul rfl ?_
            refine pM_il rfl rfl ?_
            refine pM_add rfl ?_
            refine pM_is rfl rfl ?_
            refine pM_il rfl rfl ?_
            refine pM_is rfl rfl ?_
            refine pM_ii rfl rfl rfl ki_1 ?_
            refine pM_go rfl rfl ?_
            refine pM_w (F2 := [(0, .inr (.inl (some 190))), (1, .inl (.inl p1)), (2, .inl (.inl p2)), (3, .inl (.inl u3)), (4, .inl (.inl ((100 * u6) + v9))), (5, .inl (.inl (u8 - r15))), (6, .inl (.inl u6)), (7, .inl (.inl u7)), (8, .inl (.inl u8)), (9, .inl (.inl (v9 + 1)))]) (fun L hL => lo_cons (lo_lk hL rfl) (lo_cons (lo_lk hL rfl) (lo_cons (lo_lk hL rfl) (lo_cons (lo_lk hL rfl) (lo_cons (lo_lk hL rfl) (lo_cons (lo_lk hL rfl) (lo_cons (lo_lk hL rfl) (lo_cons (lo_lk hL rfl) (lo_cons (lo_lk hL rfl) (lo_cons (lo_lk hL rfl) lo_nil)))))))))) ?_
            exact IH hN ((100 * u6) + v9) (u8 - r15) (v9 + 1) M18 h
          · replace h := h.2 h19
            refine pM_il rfl rfl ?_
            refine pM_il rfl rfl ?_
            refine pM_cgt rfl rfl (fun h20 => ?_) (fun h20 => ?_)
            · replace h := h.1 h20
              refine pM_bi rfl kb_100 ?_
              refine pM_il rfl rfl ?_
              refine pM_mul rfl ?_
              refine pM_il rfl rfl ?_
              refine pM_add rfl ?_
              refine pM_is rfl rfl ?_
              refine pM_il rfl rfl ?_
              refine pM_is rfl rfl ?_
              refine pM_ii rfl rfl rfl ki_1 ?_
              refine pM_go rfl rfl ?_
              refine pM_w (F2 := [(0, .inr (.inl (some 190))), (1, .inl (.inl p1)), (2, .inl (.inl p2)), (3, .inl (.inl u3)), (4, .inl (.inl ((100 * u6) + v9))), (5, .inl (.inl (u8 - r15))), (6, .inl (.inl u6)), (7, .inl (.inl u7)), (8, .inl (.inl u8)), (9, .inl (.inl (v9 + 1)))]) (fun L hL => lo_cons (lo_lk hL rfl) (lo_cons (lo_lk hL rfl) (lo_cons (lo_lk hL rfl) (lo_cons (lo_lk hL rfl) (lo_cons (lo_lk hL rfl) (lo_cons (lo_lk hL rfl) (lo_cons (lo_lk hL rfl) (lo_cons (lo_lk hL rfl) (lo_cons (lo_lk hL rfl) (lo_cons (lo_lk hL rfl) lo_nil)))))))))) ?_
              exact IH hN ((100 * u6) + v9) (u8 - r15) (v9 + 1) M18 h
            · replace h := h.2 h20
              refine pM_go rfl rfl ?_
              refine pM_ii rfl rfl rfl ki_1 ?_
              refine pM_go rfl rfl ?_
              refine pM_w (F2 := [(0, .inr (.inl (some 190))), (1, .inl (.inl p1)), (2, .inl (.inl p2)), (3, .inl (.inl u3)), (4, .inl (.inl v4)), (5, .inl (.inl v5)), (6, .inl (.inl u6)), (7, .inl (.inl u7)), (8, .inl (.inl u8)), (9, .inl (.inl (v9 + 1)))]) (fun L hL => lo_cons (lo_lk hL rfl) (lo_cons (lo_lk hL rfl) (lo_cons (lo_lk hL rfl) (lo_cons (lo_lk hL rfl) (lo_cons (lo_lk hL rfl) (lo_cons (lo_lk hL rfl) (lo_cons (lo_lk hL rfl) (lo_cons (lo_lk hL rfl) (lo_cons (lo_lk hL rfl) (lo_cons (lo_lk hL rfl) lo_nil)))))))))) ?_
              exact IH hN v4 v5 (v9 + 1) M18 h
        · replace h := h.1 h12
          refine pM_go rfl rfl ?_
          refine pM_ii rfl rfl rfl ki_1 ?_
          refine pM_go rfl rfl ?_
          refine pM_w (F2 := [(0, .inr (.inl (some 190))), (1, .inl (.inl p1)), (2, .inl (.inl p2)), (3, .inl (.inl u3)), (4, .inl (.inl v4)), (5, .inl (.inl v5)), (6, .inl (.inl u6)), (7, .inl (.inl u7)), (8, .inl (.inl u8)), (9, .inl (.inl (v9 + 1)))]) (fun L hL => lo_cons (lo_lk hL rfl) (lo_cons (lo_lk hL rfl) (lo_cons (lo_lk hL rfl) (lo_cons (lo_lk hL rfl) (lo_cons (lo_lk hL rfl) (lo_cons (lo_lk hL rfl) (lo_cons (lo_lk hL rfl) (lo_cons (lo_lk hL rfl) (lo_cons (lo_lk hL rfl) (lo_cons (lo_lk hL rfl) lo_nil)))))))))) ?_
          exact IH hN v4 v5 (v9 + 1) M h
def B_m_telling_33 (p1 : Int32) (p2 : Int32) (u3 : Int32) (Q : Int32 → MM → Prop) (N : Nat) (ih : Int32 → Int32 → Int32 → MM → Prop) (v4 : Int32) (v5 : Int32) (v6 : Int32) (M : MM) : Prop :=
  ((v6 < (V_m_citizens  M) →
    (((V_m_isAlive v6 M) = 0 →
      ih v4 v5 (v6 + 1) M) ∧
     (¬ (V_m_isAlive v6 M) = 0 →
      W_m_riskOf v6 p1 0 N M (fun r8 M9 =>
        W_m_telling_76 p1 p2 u3 v6 (V_m_of v6 1 M) r8 (fun x21 x22 M23 =>
          ih x21 x22 (v6 + 1) M23) Q N v4 v5 0 M9)))) ∧
   (¬ v6 < (V_m_citizens  M) →
    ((p2 = 0 →
      Q v4 M) ∧
     (¬ p2 = 0 →
      Q v5 M))))
def W_m_telling_33 (p1 : Int32) (p2 : Int32) (u3 : Int32) (Q : Int32 → MM → Prop) : Nat → Int32 → Int32 → Int32 → MM → Prop
  | 0, _, _, _, _ => True
  | N + 1, v4, v5, v6, M => B_m_telling_33 p1 p2 u3 Q N (W_m_telling_33 p1 p2 u3 Q N) v4 v5 v6 M
theorem I_m_telling_33 (p1 : Int32) (p2 : Int32) (u3 : Int32) (Q : Int32 → MM → Prop) (inv : Int32 → Int32 → Int32 → MM → Prop) (hs : ∀ (N : Nat) (ih : Int32 → Int32 → Int32 → MM → Prop) (v4 : Int32) (v5 : Int32) (v6 : Int32) (M : MM), (∀ (v4 : Int32) (v5 : Int32) (v6 : Int32) (M : MM), inv v4 v5 v6 M → ih v4 v5 v6 M) → inv v4 v5 v6 M → B_m_telling_33 p1 p2 u3 Q N ih v4 v5 v6 M) : ∀ (N : Nat) (v4 : Int32) (v5 : Int32) (v6 : Int32) (M : MM), inv v4 v5 v6 M → W_m_telling_33 p1 p2 u3 Q N v4 v5 v6 M := by
  intro N
  induction N with
  | zero => intros; trivial
  | succ N IH =>
    intro v4 v5 v6 M h
    exact hs N _ v4 v5 v6 M IH h
theorem q_m_telling_33 {X : Option (List AI)} {N0 : Nat} {p1 : Int32} {p2 : Int32} {u3 : Int32} {Q : Int32 → MM → Prop}   : ∀ (N : Nat), N ≤ N0 → ∀ (v4 : Int32) (v5 : Int32) (v6 : Int32) (M : MM), W_m_telling_33 p1 p2 u3 Q N v4 v5 v6 M → pM X N 288 33 [(0, .inr (.inl (some 190))), (1, .inl (.inl p1)), (2, .inl (.inl p2)), (3, .inl (.inl u3)), (4, .inl (.inl v4)), (5, .inl (.inl v5)), (6, .inl (.inl v6))] [] M (Ri Q) := by
  intro N
  induction N with
  | zero => intros; exact pM_zero
  | succ N IH =>
    intro hN v4 v5 v6 M h
    replace hN := Nat.le_of_succ_le hN
    replace h : B_m_telling_33 p1 p2 u3 Q N (W_m_telling_33 p1 p2 u3 Q N) v4 v5 v6 M := h
    refine pM_s (pMs_il rfl rfl ?_)
    refine pM_aln rfl rfl rfl ?_
    refine pM_qVi (as := [.inr (.inl (some 190))]) (T := [.inl (.inl v6)]) rfl rfl (fun C hC => cl_v hC rfl rfl rfl rfl) rfl (q_m_citizens ) ?_
    refine pM_cge rfl rfl (fun h6 => ?_) (fun h6 => ?_)
    · replace h := h.2 h6
      refine pM_iln rfl rfl ?_
      refine pM_zeq rfl rfl (fun h24 => ?_) (fun h24 => ?_)
      · replace h := h.1 h24
        refine pM_il rfl rfl ?_
        exact pM_ri rfl (⟨_, rfl, h⟩)
      · replace h := h.2 h24
        refine pM_il rfl rfl ?_
        refine pM_go rfl rfl ?_
        exact pM_ri rfl (⟨_, rfl, h⟩)
    · replace h := h.1 h6
      refine pM_aln rfl rfl rfl ?_
      refine pM_il rfl rfl ?_
      refine pM_qVi (as := [.inr (.inl (some 190)), .inl (.inl v6)]) (T := []) rfl rfl (fun C hC => cl_v hC rfl rfl rfl rfl) rfl (q_m_isAlive ) ?_
      refine pM_zne rfl rfl (fun h7 => ?_) (fun h7 => ?_)
      · replace h := h.2 h7
        refine pM_aln rfl rfl rfl ?_
        refine pM_il rfl rfl ?_
        refine pM_ic rfl ki_1 ?_
        refine pM_qVi (as := [.inr (.inl (some 190)), .inl (.inl v6), .inl (.inl 1)]) (T := []) rfl rfl (fun C hC => cl_v hC rfl rfl rfl rfl) rfl (q_m_of ) ?_
        refine pM_is rfl rfl ?_
        refine pM_aln rfl rfl rfl ?_
        refine pM_il rfl rfl ?_
        refine pM_iln rfl rfl ?_
        refine pM_ic rfl ki_0 ?_
        refine pM_qRi (as := [.inr (.inl (some 190)), .inl (.inl v6), .inl (.inl p1), .inl (.inl 0)]) (T := []) rfl rfl (fun C hC => cl_v hC rfl rfl rfl rfl) rfl (q_m_riskOf  h) (fun r8 M9 h => ?_)
        refine pM_is rfl rfl ?_
        refine pM_ic rfl ki_0 ?_
        refine pM_is rfl rfl ?_
        refine pM_w (F2 := [(0, .inr (.inl (some 190))), (1, .inl (.inl p1)), (2, .inl (.inl p2)), (3, .inl (.inl u3)), (4, .inl (.inl v4)), (5, .inl (.inl v5)), (6, .inl (.inl v6)), (7, .inl (.inl (V_m_of v6 1 M))), (8, .inl (.inl r8)), (9, .inl (.inl 0))]) (fun L hL => lo_cons (lo_lk hL rfl) (lo_cons (lo_lk hL rfl) (lo_cons (lo_lk hL rfl) (lo_cons (lo_lk hL rfl) (lo_cons (lo_lk hL rfl) (lo_cons (lo_lk hL rfl) (lo_cons (lo_lk hL rfl) (lo_cons (lo_lk hL rfl) (lo_cons (lo_lk hL rfl) (lo_cons (lo_lk hL rfl) lo_nil)))))))))) ?_
        refine q_m_telling_76  (fun x21 x22 M23 h => ?_) N (Nat.le_refl N) v4 v5 0 M9 h
        · refine pM_ii rfl rfl rfl ki_1 ?_
          refine pM_go rfl rfl ?_
          refine pM_w (F2 := [(0, .inr (.inl (some 190))), (1, .inl (.inl p1)), (2, .inl (.inl p2)), (3, .inl (.inl u3)), (4, .inl (.inl x21)), (5, .inl (.inl x22)), (6, .inl (.inl (v6 + 1)))]) (fun L hL => lo_cons (lo_lk hL rfl) (lo_cons (lo_lk hL rfl) (lo_cons (lo_lk hL rfl) (lo_cons (lo_lk hL rfl) (lo_cons (lo_lk hL rfl) (lo_cons (lo_lk hL rfl) (lo_cons (lo_lk hL rfl) lo_nil))))))) ?_
          exact IH hN x21 x22 (v6 + 1) M23 h
      · replace h := h.1 h7
        refine pM_go rfl rfl ?_
        refine pM_ii rfl rfl rfl ki_1 ?_
        refine pM_go rfl rfl ?_
        refine pM_w (F2 := [(0, .inr (.inl (some 190))), (1, .inl (.inl p1)), (2, .inl (.inl p2)), (3, .inl (.inl u3)), (4, .inl (.inl v4)), (5, .inl (.inl v5)), (6, .inl (.inl (v6 + 1)))]) (fun L hL => lo_cons (lo_lk hL rfl) (lo_cons (lo_lk hL rfl) (lo_cons (lo_lk hL rfl) (lo_cons (lo_lk hL rfl) (lo_cons (lo_lk hL rfl) (lo_cons (lo_lk hL rfl) (lo_cons (lo_lk hL rfl) lo_nil))))))) ?_
        exact IH hN v4 v5 (v6 + 1) M h
/-- 288: EarCodeModel.telling(IZ)I -/
def W_m_telling (p1 : Int32) (p2 : Int32) (N : Nat) (M : MM) (Q : Int32 → MM → Prop) : Prop :=
  W_m_throwsIf (V_m_noDays p1 (wi M 190 0 0)) 1 N (wi M 190 0 0) (fun r1 M2 =>
    ((r1 = 0 →
      W_m_inForce  N M2 (fun r4 =>
        W_m_telling_33 p1 p2 r4 Q N (-1) 0 0 M2)) ∧
     (¬ r1 = 0 →
      Q 0 M2)))
theorem q_m_telling {X : Option (List AI)} {N : Nat} {M : MM} {p1 : Int32} {p2 : Int32} {Q : Int32 → MM → Prop}  (h : W_m_telling p1 p2 N M Q) : pM X N 288 0 (ea_ar 0 [.inr (.inl (some 190)), .inl (.inl p1), .inl (.inl p2)]) [] M (Ri Q) := by
  refine pM_w (F2 := [(0, .inr (.inl (some 190))), (1, .inl (.inl p1)), (2, .inl (.inl p2))]) (fun L hL => lo_cons (lo_lk hL rfl) (lo_cons (lo_lk hL rfl) (lo_cons (lo_lk hL rfl) lo_nil))) ?_
  refine pM_aln rfl rfl rfl ?_
  refine pM_ic rfl ki_0 ?_
  refine pM_pi rfl rfl rfl rfl ?_
  refine pM_aln rfl rfl rfl ?_
  refine pM_iln rfl rfl ?_
  refine pM_qVi (as := [.inl (.inl p1)]) (T := [.inr (.inl (some 190))]) rfl rfl (fun _ _ => rfl) rfl (q_m_noDays ) ?_
  refine pM_ic rfl ki_1 ?_
  refine pM_qRi (as := [.inr (.inl (some 190)), .inl (.inl (V_m_noDays p1 (wi M 190 0 0))), .inl (.inl 1)]) (T := []) rfl rfl (fun C hC => cl_v hC rfl rfl rfl rfl) rfl (q_m_throwsIf  h) (fun r1 M2 h => ?_)
  refine pM_zeq rfl rfl (fun h3 => ?_) (fun h3 => ?_)
  · replace h := h.1 h3
    refine pM_aln rfl rfl rfl ?_
    refine pM_qPi (as := [.inr (.inl (some 190))]) (T := []) rfl rfl (fun C hC => cl_v hC rfl rfl rfl rfl) rfl (q_m_inForce  h) (fun r4 h => ?_)
    refine pM_isn rfl rfl ?_
    refine pM_ic rfl ki_m1 ?_
    refine pM_is rfl rfl ?_
    refine pM_ic rfl ki_0 ?_
    refine pM_is rfl rfl ?_
    refine pM_ic rfl ki_0 ?_
    refine pM_is rfl rfl ?_
    refine pM_w (F2 := [(0, .inr (.inl (some 190))), (1, .inl (.inl p1)), (2, .inl (.inl p2)), (3, .inl (.inl r4)), (4, .inl (.inl (-1))), (5, .inl (.inl 0)), (6, .inl (.inl 0))]) (fun L hL => lo_cons (lo_lk hL rfl) (lo_cons (lo_lk hL rfl) (lo_cons (lo_lk hL rfl) (lo_cons (lo_lk hL rfl) (lo_cons (lo_lk hL rfl) (lo_cons (lo_lk hL rfl) (lo_cons (lo_lk hL rfl) lo_nil))))))) ?_
    refine q_m_telling_33   N (Nat.le_refl N) (-1) 0 0 M2 h
  · replace h := h.2 h3
    refine pM_ic rfl ki_0 ?_
    exact pM_ri rfl (⟨_, rfl, h⟩)
def B_m_deduced_45 (p1 : Int32) (Q : Int32 → MM → Prop) (N : Nat) (ih : Int32 → Int32 → MM → Prop) (v2 : Int32) (v3 : Int32) (M : MM) : Prop :=
  ((v3 < 64 →
    (((V_m_hasMatter (M.2 196 (ni p1)) v3 M) = 0 →
      ih (v2 ||| 0) (v3 + 1) M) ∧
     (¬ (V_m_hasMatter (M.2 196 (ni p1)) v3 M) = 0 →
      W_m_inForce  N M (fun r10 =>
        W_m_forbidsNow (r10 &&& ((V_m_of p1 1 M) ^^^ (-1))) v3 p1 N M (fun r12 M13 =>
          ih (v2 ||| r12) (v3 + 1) M13))))) ∧
   (¬ v3 < 64 →
    Q v2 M))
def W_m_deduced_45 (p1 : Int32) (Q : Int32 → MM → Prop) : Nat → Int32 → Int32 → MM → Prop
  | 0, _, _, _ => True
  | N + 1, v2, v3, M => B_m_deduced_45 p1 Q N (W_m_deduced_45 p1 Q N) v2 v3 M
theorem I_m_deduced_45 (p1 : Int32) (Q : Int32 → MM → Prop) (inv : Int32 → Int32 → MM → Prop) (hs : ∀ (N : Nat) (ih : Int32 → Int32 → MM → Prop) (v2 : Int32) (v3 : Int32) (M : MM), (∀ (v2 : Int32) (v3 : Int32) (M : MM), inv v2 v3 M → ih v2 v3 M) → inv v2 v3 M → B_m_deduced_45 p1 Q N ih v2 v3 M) : ∀ (N : Nat) (v2 : Int32) (v3 : Int32) (M : MM), inv v2 v3 M → W_m_deduced_45 p1 Q N v2 v3 M := by
  intro N
  induction N with
  | zero => intros; trivial
  | succ N IH =>
    intro v2 v3 M h
    exact hs N _ v2 v3 M IH h
theorem q_m_deduced_45 {X : Option (List AI)} {N0 : Nat} {p1 : Int32} {Q : Int32 → MM → Prop}   : ∀ (N : Nat), N ≤ N0 → ∀ (v2 : Int32) (v3 : Int32) (M : MM), W_m_deduced_45 p1 Q N v2 v3 M → pM X N 289 45 [(0, .inr (.inl (some 190))), (1, .inl (.inl p1)), (2, .inl (.inl v2)), (3, .inl (.inl v3))] [] M (Ri Q) := by
  intro N
  induction N with
  | zero => intros; exact pM_zero
  | succ N IH =>
    intro hN v2 v3 M h
    replace hN := Nat.le_of_succ_le hN
    replace h : B_m_deduced_45 p1 Q N (W_m_deduced_45 p1 Q N) v2 v3 M := h
    refine pM_s (pMs_iln rfl rfl ?_)
    refine pM_bi rfl kb_64 ?_
    refine pM_cge rfl rfl (fun h8 => ?_) (fun h8 => ?_)
    · replace h := h.2 h8
      refine pM_iln rfl rfl ?_
      exact pM_ri rfl (⟨_, rfl, h⟩)
    · replace h := h.1 h8
      refine pM_iln rfl rfl ?_
      refine pM_aln rfl rfl rfl ?_
      refine pM_gr rfl rfl rfl rfl ?_
      refine pM_iln rfl rfl ?_
      refine pM_la rfl rfl ?_
      refine pM_iln rfl rfl ?_
      refine pM_qVi (as := [.inr (.inr (.inl (some (M.2 196 (ni p1))))), .inl (.inl v3)]) (T := [.inl (.inl v2)]) rfl rfl (fun _ _ => rfl) rfl (q_m_hasMatter ) ?_
      refine pM_zeq rfl rfl (fun h9 => ?_) (fun h9 => ?_)
      · replace h := h.1 h9
        refine pM_ic rfl ki_0 ?_
        refine pM_or rfl ?_
        refine pM_isn rfl rfl ?_
        refine pM_ii rfl rfl rfl ki_1 ?_
        refine pM_go rfl rfl ?_
        refine pM_w (F2 := [(0, .inr (.inl (some 190))), (1, .inl (.inl p1)), (2, .inl (.inl (v2 ||| 0))), (3, .inl (.inl (v3 + 1)))]) (fun L hL => lo_cons (lo_lk hL rfl) (lo_cons (lo_lk hL rfl) (lo_cons (lo_lk hL rfl) (lo_cons (lo_lk hL rfl) lo_nil)))) ?_
        exact IH hN (v2 ||| 0) (v3 + 1) M h
      · replace h := h.2 h9
        refine pM_aln rfl rfl rfl ?_
        refine pM_aln rfl rfl rfl ?_
        refine pM_qPi (as := [.inr (.inl (some 190))]) (T := [.inr (.inl (some 190)), .inl (.inl v2)]) rfl rfl (fun C hC => cl_v hC rfl rfl rfl rfl) rfl (q_m_inForce  h) (fun r10 h => ?_)
        refine pM_aln rfl rfl rfl ?_
        refine pM_iln rfl rfl ?_
        refine pM_ic rfl ki_1 ?_
        refine pM_qVi (as := [.inr (.inl (some 190)), .inl (.inl p1), .inl (.inl 1)]) (T := [.inl (.inl r10), .inr (.inl (some 190)), .inl (.inl v2)]) rfl rfl (fun C hC => cl_v hC rfl rfl rfl rfl) rfl (q_m_of ) ?_
        refine pM_ic rfl ki_m1 ?_
        refine pM_xor rfl ?_
        refine pM_and rfl ?_
        refine pM_iln rfl rfl ?_
        refine pM_iln rfl rfl ?_
        refine pM_qRi (as := [.inr (.inl (some 190)), .inl (.inl (r10 &&& ((V_m_of p1 1 M) ^^^ (-1)))), .inl (.inl v3), .inl (.inl p1)]) (T := [.inl (.inl v2)]) rfl rfl (fun C hC => cl_v hC rfl rfl rfl rfl) rfl (q_m_forbidsNow  h) (fun r12 M13 h => ?_)
        refine pM_go rfl rfl ?_
        refine pM_or rfl ?_
        refine pM_isn rfl rfl ?_
        refine pM_ii rfl rfl rfl ki_1 ?_
        refine pM_go rfl rfl ?_
        refine pM_w (F2 := [(0, .inr (.inl (some 190))), (1, .inl (.inl p1)), (2, .inl (.inl (v2 ||| r12))), (3, .inl (.inl (v3 + 1)))]) (fun L hL => lo_cons (lo_lk hL rfl) (lo_cons (lo_lk hL rfl) (lo_cons (lo_lk hL rfl) (lo_cons (lo_lk hL rfl) lo_nil)))) ?_
        exact IH hN (v2 ||| r12) (v3 + 1) M13 h
/-- 289: EarCodeModel.deduced(I)I -/
def W_m_deduced (p1 : Int32) (N : Nat) (M : MM) (Q : Int32 → MM → Prop) : Prop :=
  W_m_throwsIf (V_m_noCitizen p1 (wi M 190 0 0)) 1 N (wi M 190 0 0) (fun r1 M2 =>
    ((r1 = 0 →
      (((V_m_isAlive p1 M2) = 0 →
        W_m_throwsIf 1 2 N M2 (fun r5 M6 =>
          ((r5 = 0 →
            W_m_deduced_45 p1 Q N 0 0 M6) ∧
           (¬ r5 = 0 →
            Q 0 M6)))) ∧
       (¬ (V_m_isAlive p1 M2) = 0 →
        W_m_throwsIf 0 2 N M2 (fun r14 M15 =>
          ((r14 = 0 →
            W_m_deduced_45 p1 Q N 0 0 M15) ∧
           (¬ r14 = 0 →
            Q 0 M15)))))) ∧
     (¬ r1 = 0 →
      Q 0 M2)))
theorem q_m_deduced {X : Option (List AI)} {N : Nat} {M : MM} {p1 : Int32} {Q : Int32 → MM → Prop}  (h : W_m_deduced p1 N M Q) : pM X N 289 0 (ea_ar 0 [.inr (.inl (some 190)), .inl (.inl p1)]) [] M (Ri Q) := by
  refine pM_w (F2 := [(0, .inr (.inl (some 190))), (1, .inl (.inl p1))]) (fun L hL => lo_cons (lo_lk hL rfl) (lo_cons (lo_lk hL rfl) lo_nil)) ?_
  refine pM_aln rfl rfl rfl ?_
  refine pM_ic rfl ki_0 ?_
  refine pM_pi rfl rfl rfl rfl ?_
  refine pM_aln rfl rfl rfl ?_
  refine pM_aln rfl rfl rfl ?_
  refine pM_iln rfl rfl ?_
  refine pM_qVi (as := [.inr (.inl (some 190)), .inl (.inl p1)]) (T := [.inr (.inl (some 190))]) rfl rfl (fun C hC => cl_v hC rfl rfl rfl rfl) rfl (q_m_noCitizen ) ?_
  refine pM_ic rfl ki_1 ?_
  refine pM_qRi (as := [.inr (.inl (some 190)), .inl (.inl (V_m_noCitizen p1 (wi M 190 0 0))), .inl (.inl 1)]) (T := []) rfl rfl (fun C hC => cl_v hC rfl rfl rfl rfl) rfl (q_m_throwsIf  h) (fun r1 M2 h => ?_)
  refine pM_zne rfl rfl (fun h3 => ?_) (fun h3 => ?_)
  · replace h := h.2 h3
    refine pM_ic rfl ki_0 ?_
    exact pM_ri rfl (⟨_, rfl, h⟩)
  · replace h := h.1 h3
    refine pM_aln rfl rfl rfl ?_
    refine pM_aln rfl rfl rfl ?_
    refine pM_iln rfl rfl ?_
    refine pM_qVi (as := [.inr (.inl (some 190)), .inl (.inl p1)]) (T := [.inr (.inl (some 190))]) rfl rfl (fun C hC => cl_v hC rfl rfl rfl rfl) rfl (q_m_isAlive ) ?_
    refine pM_zne rfl rfl (fun h4 => ?_) (fun h4 => ?_)
    · replace h := h.2 h4
      refine pM_ic rfl ki_0 ?_
      refine pM_ic rfl ki_2 ?_
      refine pM_qRi (as := [.inr (.inl (some 190)), .inl (.inl 0), .inl (.inl 2)]) (T := []) rfl rfl (fun C hC => cl_v hC rfl rfl rfl rfl) rfl (q_m_throwsIf  h) (fun r14 M15 h => ?_)
      refine pM_zeq rfl rfl (fun h16 => ?_) (fun h16 => ?_)
      · replace h := h.1 h16
        refine pM_ic rfl ki_0 ?_
        refine pM_isn rfl rfl ?_
        refine pM_ic rfl ki_0 ?_
        refine pM_isn rfl rfl ?_
        refine pM_w (F2 := [(0, .inr (.inl (some 190))), (1, .inl (.inl p1)), (2, .inl (.inl 0)), (3, .inl (.inl 0))]) (fun L hL => lo_cons (lo_lk hL rfl) (lo_cons (lo_lk hL rfl) (lo_cons (lo_lk hL rfl) (lo_cons (lo_lk hL rfl) lo_nil)))) ?_
        refine q_m_deduced_45   N (Nat.le_refl N) 0 0 M15 h
      · replace h := h.2 h16
        refine pM_ic rfl ki_0 ?_
        exact pM_ri rfl (⟨_, rfl, h⟩)
    · replace h := h.1 h4
      refine pM_ic rfl ki_1 ?_
      refine pM_go rfl rfl ?_
      refine pM_ic rfl ki_2 ?_
      refine pM_qRi (as := [.inr (.inl (some 190)), .inl (.inl 1), .inl (.inl 2)]) (T := []) rfl rfl (fun C hC => cl_v hC rfl rfl rfl rfl) rfl (q_m_throwsIf  h) (fun r5 M6 h => ?_)
      refine pM_zeq rfl rfl (fun h7 => ?_) (fun h7 => ?_)
      · replace h := h.1 h7
        refine pM_ic rfl ki_0 ?_
        refine pM_isn rfl rfl ?_
        refine pM_ic rfl ki_0 ?_
        refine pM_isn rfl rfl ?_
        refine pM_w (F2 := [(0, .inr (.inl (some 190))), (1, .inl (.inl p1)), (2, .inl (.inl 0)), (3, .inl (.inl 0))]) (fun L hL => lo_cons (lo_lk hL rfl) (lo_cons (lo_lk hL rfl) (lo_cons (lo_lk hL rfl) (lo_cons (lo_lk hL rfl) lo_nil)))) ?_
        refine q_m_deduced_45   N (Nat.le_refl N) 0 0 M6 h
      · replace h := h.2 h7
        refine pM_ic rfl ki_0 ?_
        exact pM_ri rfl (⟨_, rfl, h⟩)
def B_m_hush_45 (p1 : Int32) (u3 : Int32) (k92 : Int32 → MM → Prop) (Q : Int32 → MM → Prop) (N : Nat) (ih : Int32 → Int32 → MM → Prop) (v2 : Int32) (v4 : Int32) (M : MM) : Prop :=
  ((v4 < (V_m_citizens  M) →
    (((V_m_isAlive v4 M) = 0 →
      ih v2 (v4 + 1) M) ∧
     (¬ (V_m_isAlive v4 M) = 0 →
      W_m_may ((8 * p1) + u3) v4 N M (fun r10 M11 =>
        ((r10 = 0 →
          ih v2 (v4 + 1) M11) ∧
         (¬ r10 = 0 →
          ih (v2 &&& ((sl 1 u3) ^^^ (-1))) (v4 + 1) M11)))))) ∧
   (¬ v4 < (V_m_citizens  M) →
    k92 v2 M))
def W_m_hush_45 (p1 : Int32) (u3 : Int32) (k92 : Int32 → MM → Prop) (Q : Int32 → MM → Prop) : Nat → Int32 → Int32 → MM → Prop
  | 0, _, _, _ => True
  | N + 1, v2, v4, M => B_m_hush_45 p1 u3 k92 Q N (W_m_hush_45 p1 u3 k92 Q N) v2 v4 M
theorem I_m_hush_45 (p1 : Int32) (u3 : Int32) (k92 : Int32 → MM → Prop) (Q : Int32 → MM → Prop) (inv : Int32 → Int32 → MM → Prop) (hs : ∀ (N : Nat) (ih : Int32 → Int32 → MM → Prop) (v2 : Int32) (v4 : Int32) (M : MM), (∀ (v2 : Int32) (v4 : Int32) (M : MM), inv v2 v4 M → ih v2 v4 M) → inv v2 v4 M → B_m_hush_45 p1 u3 k92 Q N ih v2 v4 M) : ∀ (N : Nat) (v2 : Int32) (v4 : Int32) (M : MM), inv v2 v4 M → W_m_hush_45 p1 u3 k92 Q N v2 v4 M := by
  intro N
  induction N with
  | zero => intros; trivial
  | succ N IH =>
    intro v2 v4 M h
    exact hs N _ v2 v4 M IH h
theorem q_m_hush_45 {X : Option (List AI)} {N0 : Nat} {p1 : Int32} {u3 : Int32} {k92 : Int32 → MM → Prop} {Q : Int32 → MM → Prop}  (hk92 : ∀ (v2 : Int32) (M : MM), k92 v2 M → pM X N0 290 92 [(0, .inr (.inl (some 190))), (1, .inl (.inl p1)), (2, .inl (.inl v2)), (3, .inl (.inl u3))] [] M (Ri Q)) : ∀ (N : Nat), N ≤ N0 → ∀ (v2 : Int32) (v4 : Int32) (M : MM), W_m_hush_45 p1 u3 k92 Q N v2 v4 M → pM X N 290 45 [(0, .inr (.inl (some 190))), (1, .inl (.inl p1)), (2, .inl (.inl v2)), (3, .inl (.inl u3)), (4, .inl (.inl v4))] [] M (Ri Q) := by
  intro N
  induction N with
  | zero => intros; exact pM_zero
  | succ N IH =>
    intro hN v2 v4 M h
    replace hN := Nat.le_of_succ_le hN
    replace h : B_m_hush_45 p1 u3 k92 Q N (W_m_hush_45 p1 u3 k92 Q N) v2 v4 M := h
    refine pM_s (pMs_il rfl rfl ?_)
    refine pM_aln rfl rfl rfl ?_
    refine pM_qVi (as := [.inr (.inl (some 190))]) (T := [.inl (.inl v4)]) rfl rfl (fun C hC => cl_v hC rfl rfl rfl rfl) rfl (q_m_citizens ) ?_
    refine pM_cge rfl rfl (fun h8 => ?_) (fun h8 => ?_)
    · replace h := h.2 h8
      refine pM_w (F2 := [(0, .inr (.inl (some 190))), (1, .inl (.inl p1)), (2, .inl (.inl v2)), (3, .inl (.inl u3))]) (fun L hL => lo_cons (lo_lk hL rfl) (lo_cons (lo_lk hL rfl) (lo_cons (lo_lk hL rfl) (lo_cons (lo_lk hL rfl) lo_nil)))) ?_
      exact pM_le hN (hk92 _ _ h)
    · replace h := h.1 h8
      refine pM_aln rfl rfl rfl ?_
      refine pM_il rfl rfl ?_
      refine pM_qVi (as := [.inr (.inl (some 190)), .inl (.inl v4)]) (T := []) rfl rfl (fun C hC => cl_v hC rfl rfl rfl rfl) rfl (q_m_isAlive ) ?_
      refine pM_zeq rfl rfl (fun h9 => ?_) (fun h9 => ?_)
      · replace h := h.1 h9
        refine pM_ii rfl rfl rfl ki_1 ?_
        refine pM_go rfl rfl ?_
        refine pM_w (F2 := [(0, .inr (.inl (some 190))), (1, .inl (.inl p1)), (2, .inl (.inl v2)), (3, .inl (.inl u3)), (4, .inl (.inl (v4 + 1)))]) (fun L hL => lo_cons (lo_lk hL rfl) (lo_cons (lo_lk hL rfl) (lo_cons (lo_lk hL rfl) (lo_cons (lo_lk hL rfl) (lo_cons (lo_lk hL rfl) lo_nil))))) ?_
        exact IH hN v2 (v4 + 1) M h
      · replace h := h.2 h9
        refine pM_aln rfl rfl rfl ?_
        refine pM_bi rfl kb_8 ?_
        refine pM_iln rfl rfl ?_
        refine pM_mul rfl ?_
        refine pM_iln rfl rfl ?_
        refine pM_add rfl ?_
        refine pM_il rfl rfl ?_
        refine pM_qRi (as := [.inr (.inl (some 190)), .inl (.inl ((8 * p1) + u3)), .inl (.inl v4)]) (T := []) rfl rfl (fun C hC => cl_v hC rfl rfl rfl rfl) rfl (q_m_may  h) (fun r10 M11 h => ?_)
        refine pM_zeq rfl rfl (fun h12 => ?_) (fun h12 => ?_)
        · replace h := h.1 h12
          refine pM_ii rfl rfl rfl ki_1 ?_
          refine pM_go rfl rfl ?_
          refine pM_w (F2 := [(0, .inr (.inl (some 190))), (1, .inl (.inl p1)), (2, .inl (.inl v2)), (3, .inl (.inl u3)), (4, .inl (.inl (v4 + 1)))]) (fun L hL => lo_cons (lo_lk hL rfl) (lo_cons (lo_lk hL rfl) (lo_cons (lo_lk hL rfl) (lo_cons (lo_lk hL rfl) (lo_cons (lo_lk hL rfl) lo_nil))))) ?_
          exact IH hN v2 (v4 + 1) M11 h
        · replace h := h.2 h12
          refine pM_iln rfl rfl ?_
          refine pM_ic rfl ki_1 ?_
          refine pM_iln rfl rfl ?_
          refine pM_shl rfl ?_
          refine pM_ic rfl ki_m1 ?_
          refine pM_xor rfl ?_
          refine pM_and rfl ?_
          refine pM_isn rfl rfl ?_
          refine pM_ii rfl rfl rfl ki_1 ?_
          refine pM_go rfl rfl ?_
          refine pM_w (F2 := [(0, .inr (.inl (some 190))), (1, .inl (.inl p1)), (2, .inl (.inl (v2 &&& ((sl 1 u3) ^^^ (-1))))), (3, .inl (.inl u3)), (4, .inl (.inl (v4 + 1)))]) (fun L hL => lo_cons (lo_lk hL rfl) (lo_cons (lo_lk hL rfl) (lo_cons (lo_lk hL rfl) (lo_cons (lo_lk hL rfl) (lo_cons (lo_lk hL rfl) lo_nil))))) ?_
          exact IH hN (v2 &&& ((sl 1 u3) ^^^ (-1))) (v4 + 1) M11 h
def B_m_hush_36 (p1 : Int32) (Q : Int32 → MM → Prop) (N : Nat) (ih : Int32 → Int32 → MM → Prop) (v2 : Int32) (v3 : Int32) (M : MM) : Prop :=
  ((v3 < 8 →
    W_m_hush_45 p1 v3 (fun x13 M14 =>
      ih x13 (v3 + 1) M14) Q N v2 0 M) ∧
   (¬ v3 < 8 →
    Q v2 M))
def W_m_hush_36 (p1 : Int32) (Q : Int32 → MM → Prop) : Nat → Int32 → Int32 → MM → Prop
  | 0, _, _, _ => True
  | N + 1, v2, v3, M => B_m_hush_36 p1 Q N (W_m_hush_36 p1 Q N) v2 v3 M
theorem I_m_hush_36 (p1 : Int32) (Q : Int32 → MM → Prop) (inv : Int32 → Int32 → MM → Prop) (hs : ∀ (N : Nat) (ih : Int32 → Int32 → MM → Prop) (v2 : Int32) (v3 : Int32) (M : MM), (∀ (v2 : Int32) (v3 : Int32) (M : MM), inv v2 v3 M → ih v2 v3 M) → inv v2 v3 M → B_m_hush_36 p1 Q N ih v2 v3 M) : ∀ (N : Nat) (v2 : Int32) (v3 : Int32) (M : MM), inv v2 v3 M → W_m_hush_36 p1 Q N v2 v3 M := by
  intro N
  induction N with
  | zero => intros; trivial
  | succ N IH =>
    intro v2 v3 M h
    exact hs N _ v2 v3 M IH h
theorem q_m_hush_36 {X : Option (List AI)} {N0 : Nat} {p1 : Int32} {Q : Int32 → MM → Prop}   : ∀ (N : Nat), N ≤ N0 → ∀ (v2 : Int32) (v3 : Int32) (M : MM), W_m_hush_36 p1 Q N v2 v3 M → pM X N 290 36 [(0, .inr (.inl (some 190))), (1, .inl (.inl p1)), (2, .inl (.inl v2)), (3, .inl (.inl v3))] [] M (Ri Q) := by
  intro N
  induction N with
  | zero => intros; exact pM_zero
  | succ N IH =>
    intro hN v2 v3 M h
    replace hN := Nat.le_of_succ_le hN
    replace h : B_m_hush_36 p1 Q N (W_m_hush_36 p1 Q N) v2 v3 M := h
    refine pM_s (pMs_iln rfl rfl ?_)
    refine pM_bi rfl kb_8 ?_
    refine pM_cge rfl rfl (fun h7 => ?_) (fun h7 => ?_)
    · replace h := h.2 h7
      refine pM_iln rfl rfl ?_
      exact pM_ri rfl (⟨_, rfl, h⟩)
    · replace h := h.1 h7
      refine pM_ic rfl ki_0 ?_
      refine pM_is rfl rfl ?_
      refine pM_w (F2 := [(0, .inr (.inl (some 190))), (1, .inl (.inl p1)), (2, .inl (.inl v2)), (3, .inl (.inl v3)), (4, .inl (.inl 0))]) (fun L hL => lo_cons (lo_lk hL rfl) (lo_cons (lo_lk hL rfl) (lo_cons (lo_lk hL rfl) (lo_cons (lo_lk hL rfl) (lo_cons (lo_lk hL rfl) lo_nil))))) ?_
      refine q_m_hush_45  (fun x13 M14 h => ?_) N (Nat.le_refl N) v2 0 M h
      · refine pM_ii rfl rfl rfl ki_1 ?_
        refine pM_go rfl rfl ?_
        refine pM_w (F2 := [(0, .inr (.inl (some 190))), (1, .inl (.inl p1)), (2, .inl (.inl x13)), (3, .inl (.inl (v3 + 1)))]) (fun L hL => lo_cons (lo_lk hL rfl) (lo_cons (lo_lk hL rfl) (lo_cons (lo_lk hL rfl) (lo_cons (lo_lk hL rfl) lo_nil)))) ?_
        exact IH hN x13 (v3 + 1) M14 h
/-- 290: EarCodeModel.hush(I)I -/
def W_m_hush (p1 : Int32) (N : Nat) (M : MM) (Q : Int32 → MM → Prop) : Prop :=
  W_m_throwsIf (V_m_noEight p1 (wi M 190 0 0)) 1 N (wi M 190 0 0) (fun r1 M2 =>
    ((r1 = 0 →
      W_m_alive  N M2 (fun r4 =>
        ((r4 = 0 →
          W_m_hush_36 p1 Q N 0 0 M2) ∧
         (¬ r4 = 0 →
          W_m_hush_36 p1 Q N 255 0 M2)))) ∧
     (¬ r1 = 0 →
      Q 0 M2)))
theorem q_m_hush {X : Option (List AI)} {N : Nat} {M : MM} {p1 : Int32} {Q : Int32 → MM → Prop}  (h : W_m_hush p1 N M Q) : pM X N 290 0 (ea_ar 0 [.inr (.inl (some 190)), .inl (.inl p1)]) [] M (Ri Q) := by
  refine pM_w (F2 := [(0, .inr (.inl (some 190))), (1, .inl (.inl p1))]) (fun L hL => lo_cons (lo_lk hL rfl) (lo_cons (lo_lk hL rfl) lo_nil)) ?_
  refine pM_aln rfl rfl rfl ?_
  refine pM_ic rfl ki_0 ?_
  refine pM_pi rfl rfl rfl rfl ?_
  refine pM_aln rfl rfl rfl ?_
  refine pM_iln rfl rfl ?_
  refine pM_qVi (as := [.inl (.inl p1)]) (T := [.inr (.inl (some 190))]) rfl rfl (fun _ _ => rfl) rfl (q_m_noEight ) ?_
  refine pM_ic rfl ki_1 ?_
  refine pM_qRi (as := [.inr (.inl (some 190)), .inl (.inl (V_m_noEight p1 (wi M 190 0 0))), .inl (.inl 1)]) (T := []) rfl rfl (fun C hC => cl_v hC rfl rfl rfl rfl) rfl (q_m_throwsIf  h) (fun r1 M2 h => ?_)
  refine pM_zeq rfl rfl (fun h3 => ?_) (fun h3 => ?_)
  · replace h := h.1 h3
    refine pM_aln rfl rfl rfl ?_
    refine pM_qPi (as := [.inr (.inl (some 190))]) (T := []) rfl rfl (fun C hC => cl_v hC rfl rfl rfl rfl) rfl (q_m_alive  h) (fun r4 h => ?_)
    refine pM_zne rfl rfl (fun h6 => ?_) (fun h6 => ?_)
    · replace h := h.2 h6
      refine pM_si rfl ks_255 ?_
      refine pM_isn rfl rfl ?_
      refine pM_ic rfl ki_0 ?_
      refine pM_isn rfl rfl ?_
      refine pM_w (F2 := [(0, .inr (.inl (some 190))), (1, .inl (.inl p1)), (2, .inl (.inl 255)), (3, .inl (.inl 0))]) (fun L hL => lo_cons (lo_lk hL rfl) (lo_cons (lo_lk hL rfl) (lo_cons (lo_lk hL rfl) (lo_cons (lo_lk hL rfl) lo_nil)))) ?_
      refine q_m_hush_36   N (Nat.le_refl N) 255 0 M2 h
    · replace h := h.1 h6
      refine pM_ic rfl ki_0 ?_
      refine pM_go rfl rfl ?_
      refine pM_isn rfl rfl ?_
      refine pM_ic rfl ki_0 ?_
      refine pM_isn rfl rfl ?_
      refine pM_w (F2 := [(0, .inr (.inl (some 190))), (1, .inl (.inl p1)), (2, .inl (.inl 0)), (3, .inl (.inl 0))]) (fun L hL => lo_cons (lo_lk hL rfl) (lo_cons (lo_lk hL rfl) (lo_cons (lo_lk hL rfl) (lo_cons (lo_lk hL rfl) lo_nil)))) ?_
      refine q_m_hush_36   N (Nat.le_refl N) 0 0 M2 h
  · replace h := h.2 h3
    refine pM_ic rfl ki_0 ?_
    exact pM_ri rfl (⟨_, rfl, h⟩)
def B_m_usual_21 (p1 : Int32) (k40 : MM → Prop) (Q : Int32 → MM → Prop) (N : Nat) (ih : Int32 → MM → Prop) (v2 : Int32) (M : MM) : Prop :=
  ((v2 < 8 →
    ih (v2 + 1) (wi M 212 (ni v2) 0)) ∧
   (¬ v2 < 8 →
    k40 M))
def W_m_usual_21 (p1 : Int32) (k40 : MM → Prop) (Q : Int32 → MM → Prop) : Nat → Int32 → MM → Prop
  | 0, _, _ => True
  | N + 1, v2, M => B_m_usual_21 p1 k40 Q N (W_m_usual_21 p1 k40 Q N) v2 M
theorem I_m_usual_21 (p1 : Int32) (k40 : MM → Prop) (Q : Int32 → MM → Prop) (inv : Int32 → MM → Prop) (hs : ∀ (N : Nat) (ih : Int32 → MM → Prop) (v2 : Int32) (M : MM), (∀ (v2 : Int32) (M : MM), inv v2 M → ih v2 M) → inv v2 M → B_m_usual_21 p1 k40 Q N ih v2 M) : ∀ (N : Nat) (v2 : Int32) (M : MM), inv v2 M → W_m_usual_21 p1 k40 Q N v2 M := by
  intro N
  induction N with
  | zero => intros; trivial
  | succ N IH =>
    intro v2 M h
    exact hs N _ v2 M IH h
theorem q_m_usual_21 {X : Option (List AI)} {N0 : Nat} {p1 : Int32} {k40 : MM → Prop} {Q : Int32 → MM → Prop}  (hk40 : ∀  (M : MM), k40 M → pM X N0 291 40 [(0, .inr (.inl (some 190))), (1, .inl (.inl p1))] [] M (Ri Q)) : ∀ (N : Nat), N ≤ N0 → ∀ (v2 : Int32) (M : MM), W_m_usual_21 p1 k40 Q N v2 M → pM X N 291 21 [(0, .inr (.inl (some 190))), (1, .inl (.inl p1)), (2, .inl (.inl v2))] [] M (Ri Q) := by
  intro N
  induction N with
  | zero => intros; exact pM_zero
  | succ N IH =>
    intro hN v2 M h
    replace hN := Nat.le_of_succ_le hN
    replace h : B_m_usual_21 p1 k40 Q N (W_m_usual_21 p1 k40 Q N) v2 M := h
    refine pM_s (pMs_iln rfl rfl ?_)
    refine pM_bi rfl kb_8 ?_
    refine pM_cge rfl rfl (fun h4 => ?_) (fun h4 => ?_)
    · replace h := h.2 h4
      refine pM_w (F2 := [(0, .inr (.inl (some 190))), (1, .inl (.inl p1))]) (fun L hL => lo_cons (lo_lk hL rfl) (lo_cons (lo_lk hL rfl) lo_nil)) ?_
      exact pM_le hN (hk40 _ h)
    · replace h := h.1 h4
      refine pM_aln rfl rfl rfl ?_
      refine pM_gr rfl rfl rfl rfl ?_
      refine pM_iln rfl rfl ?_
      refine pM_ic rfl ki_0 ?_
      refine pM_sa rfl rfl (one_p _) ?_
      refine pM_ii rfl rfl rfl ki_1 ?_
      refine pM_go rfl rfl ?_
      refine pM_w (F2 := [(0, .inr (.inl (some 190))), (1, .inl (.inl p1)), (2, .inl (.inl (v2 + 1)))]) (fun L hL => lo_cons (lo_lk hL rfl) (lo_cons (lo_lk hL rfl) (lo_cons (lo_lk hL rfl) lo_nil))) ?_
      exact IH hN (v2 + 1) (wi M 212 (ni v2) 0) h
def B_m_usual_52 (p1 : Int32) (u2 : Int32) (k113 : MM → Prop) (Q : Int32 → MM → Prop) (N : Nat) (ih : Int32 → MM → Prop) (v3 : Int32) (M : MM) : Prop :=
  (((V_m_isAlive u2 M) = 0 →
    k113 M) ∧
   (¬ (V_m_isAlive u2 M) = 0 →
    ((v3 < (V_m_of u2 5 M) →
      (((rm (V_m_of u2 (7 + v3) M) 8) = p1 →
        ih (v3 + 1) (wi M 212 (ni ((V_m_of u2 (7 + v3) M) / 8)) ((M.1 212 (ni ((V_m_of u2 (7 + v3) M) / 8))) + 1))) ∧
       (¬ (rm (V_m_of u2 (7 + v3) M) 8) = p1 →
        ih (v3 + 1) M))) ∧
     (¬ v3 < (V_m_of u2 5 M) →
      k113 M))))
def W_m_usual_52 (p1 : Int32) (u2 : Int32) (k113 : MM → Prop) (Q : Int32 → MM → Prop) : Nat → Int32 → MM → Prop
  | 0, _, _ => True
  | N + 1, v3, M => B_m_usual_52 p1 u2 k113 Q N (W_m_usual_52 p1 u2 k113 Q N) v3 M
theorem I_m_usual_52 (p1 : Int32) (u2 : Int32) (k113 : MM → Prop) (Q : Int32 → MM → Prop) (inv : Int32 → MM → Prop) (hs : ∀ (N : Nat) (ih : Int32 → MM → Prop) (v3 : Int32) (M : MM), (∀ (v3 : Int32) (M : MM), inv v3 M → ih v3 M) → inv v3 M → B_m_usual_52 p1 u2 k113 Q N ih v3 M) : ∀ (N : Nat) (v3 : Int32) (M : MM), inv v3 M → W_m_usual_52 p1 u2 k113 Q N v3 M := by
  intro N
  induction N with
  | zero => intros; trivial
  | succ N IH =>
    intro v3 M h
    exact hs N _ v3 M IH h
theorem q_m_usual_52 {X : Option (List AI)} {N0 : Nat} {p1 : Int32} {u2 : Int32} {k113 : MM → Prop} {Q : Int32 → MM → Prop}  (hk113 : ∀  (M : MM), k113 M → pM X N0 291 113 [(0, .inr (.inl (some 190))), (1, .inl (.inl p1)), (2, .inl (.inl u2))] [] M (Ri Q)) : ∀ (N : Nat), N ≤ N0 → ∀ (v3 : Int32) (M : MM), W_m_usual_52 p1 u2 k113 Q N v3 M → pM X N 291 52 [(0, .inr (.inl (some 190))), (1, .inl (.inl p1)), (2, .inl (.inl u2)), (3, .inl (.inl v3))] [] M (Ri Q) := by
  intro N
  induction N with
  | zero => intros; exact pM_zero
  | succ N IH =>
    intro hN v3 M h
    replace hN := Nat.le_of_succ_le hN
    replace h : B_m_usual_52 p1 u2 k113 Q N (W_m_usual_52 p1 u2 k113 Q N) v3 M := h
    refine pM_s (pMs_aln rfl rfl rfl ?_)
    refine pM_iln rfl rfl ?_
    refine pM_qVi (as := [.inr (.inl (some 190)), .inl (.inl u2)]) (T := []) rfl rfl (fun C hC => cl_v hC rfl rfl rfl rfl) rfl (q_m_isAlive ) ?_
    refine pM_zeq rfl rfl (fun h7 => ?_) (fun h7 => ?_)
    · replace h := h.1 h7
      refine pM_w (F2 := [(0, .inr (.inl (some 190))), (1, .inl (.inl p1)), (2, .inl (.inl u2))]) (fun L hL => lo_cons (lo_lk hL rfl) (lo_cons (lo_lk hL rfl) (lo_cons (lo_lk hL rfl) lo_nil))) ?_
      exact pM_le hN (hk113 _ h)
    · replace h := h.2 h7
      refine pM_iln rfl rfl ?_
      refine pM_aln rfl rfl rfl ?_
      refine pM_iln rfl rfl ?_
      refine pM_ic rfl ki_5 ?_
      refine pM_qVi (as := [.inr (.inl (some 190)), .inl (.inl u2), .inl (.inl 5)]) (T := [.inl (.inl v3)]) rfl rfl (fun C hC => cl_v hC rfl rfl rfl rfl) rfl (q_m_of ) ?_
      refine pM_cge rfl rfl (fun h8 => ?_) (fun h8 => ?_)
      · replace h := h.2 h8
        refine pM_w (F2 := [(0, .inr (.inl (some 190))), (1, .inl (.inl p1)), (2, .inl (.inl u2))]) (fun L hL => lo_cons (lo_lk hL rfl) (lo_cons (lo_lk hL rfl) (lo_cons (lo_lk hL rfl) lo_nil))) ?_
        exact pM_le hN (hk113 _ h)
      · replace h := h.1 h8
        refine pM_aln rfl rfl rfl ?_
        refine pM_iln rfl rfl ?_
        refine pM_bi rfl kb_7 ?_
        refine pM_iln rfl rfl ?_
        refine pM_add rfl ?_
        refine pM_qVi (as := [.inr (.inl (some 190)), .inl (.inl u2), .inl (.inl (7 + v3))]) (T := []) rfl rfl (fun C hC => cl_v hC rfl rfl rfl rfl) rfl (q_m_of ) ?_
        refine pM_bi rfl kb_8 ?_
        refine pM_rem rfl ?_
        refine pM_iln rfl rfl ?_
        refine pM_cne rfl rfl (fun h9 => ?_) (fun h9 => ?_)
        · replace h := h.2 h9
          refine pM_ii rfl rfl rfl ki_1 ?_
          refine pM_go rfl rfl ?_
          refine pM_w (F2 := [(0, .inr (.inl (some 190))), (1, .inl (.inl p1)), (2, .inl (.inl u2)), (3, .inl (.inl (v3 + 1)))]) (fun L hL => lo_cons (lo_lk hL rfl) (lo_cons (lo_lk hL rfl) (lo_cons (lo_lk hL rfl) (lo_cons (lo_lk hL rfl) lo_nil)))) ?_
          exact IH hN (v3 + 1) M h
        · replace h := h.1 h9
          refine pM_aln rfl rfl rfl ?_
          refine pM_gr rfl rfl rfl rfl ?_
          refine pM_aln rfl rfl rfl ?_
          refine pM_iln rfl rfl ?_
          refine pM_bi rfl kb_7 ?_
          refine pM_iln rfl rfl ?_
          refine pM_add rfl ?_
          refine pM_qVi (as := [.inr (.inl (some 190)), .inl (.inl u2), .inl (.inl (7 + v3))]) (T := [.inr (.inl (some 212))]) rfl rfl (fun C hC => cl_v hC rfl rfl rfl rfl) rfl (q_m_of ) ?_
          refine pM_bi rfl kb_8 ?_
          refine pM_div rfl ?_
          refine pM_p (pc' := 103) (S' := [.inl (.inl ((V_m_of u2 (7 + v3) M) / 8)), .inr (.inl (some 212)), .inl (.inl ((V_m_of u2 (7 + v3) M) / 8)), .inr (.inl (some 212))]) rfl rfl (fun _ => rfl) ?_
          refine pM_ai rfl rfl (one_p _) ?_
          refine pM_ic rfl ki_1 ?_
          refine pM_add rfl ?_
          refine pM_sa rfl rfl (one_p _) ?_
          refine pM_ii rfl rfl rfl ki_1 ?_
          refine pM_go rfl rfl ?_
          refine pM_w (F2 := [(0, .inr (.inl (some 190))), (1, .inl (.inl p1)), (2, .inl (.inl u2)), (3, .inl (.inl (v3 + 1)))]) (fun L hL => lo_cons (lo_lk hL rfl) (lo_cons (lo_lk hL rfl) (lo_cons (lo_lk hL rfl) (lo_cons (lo_lk hL rfl) lo_nil)))) ?_
          exact IH hN (v3 + 1) (wi M 212 (ni ((V_m_of u2 (7 + v3) M) / 8)) ((M.1 212 (ni ((V_m_of u2 (7 + v3) M) / 8))) + 1)) h
def B_m_usual_42 (p1 : Int32) (k119 : MM → Prop) (Q : Int32 → MM → Prop) (N : Nat) (ih : Int32 → MM → Prop) (v2 : Int32) (M : MM) : Prop :=
  ((v2 < (V_m_citizens  M) →
    W_m_usual_52 p1 v2 (fun M10 =>
      ih (v2 + 1) M10) Q N 0 M) ∧
   (¬ v2 < (V_m_citizens  M) →
    k119 M))
def W_m_usual_42 (p1 : Int32) (k119 : MM → Prop) (Q : Int32 → MM → Prop) : Nat → Int32 → MM → Prop
  | 0, _, _ => True
  | N + 1, v2, M => B_m_usual_42 p1 k119 Q N (W_m_usual_42 p1 k119 Q N) v2 M
theorem I_m_usual_42 (p1 : Int32) (k119 : MM → Prop) (Q : Int32 → MM → Prop) (inv : Int32 → MM → Prop) (hs : ∀ (N : Nat) (ih : Int32 → MM → Prop) (v2 : Int32) (M : MM), (∀ (v2 : Int32) (M : MM), inv v2 M → ih v2 M) → inv v2 M → B_m_usual_42 p1 k119 Q N ih v2 M) : ∀ (N : Nat) (v2 : Int32) (M : MM), inv v2 M → W_m_usual_42 p1 k119 Q N v2 M := by
  intro N
  induction N with
  | zero => intros; trivial
  | succ N IH =>
    intro v2 M h
    exact hs N _ v2 M IH h
theorem q_m_usual_42 {X : Option (List AI)} {N0 : Nat} {p1 : Int32} {k119 : MM → Prop} {Q : Int32 → MM → Prop}  (hk119 : ∀  (M : MM), k119 M → pM X N0 291 119 [(0, .inr (.inl (some 190)))] [] M (Ri Q)) : ∀ (N : Nat), N ≤ N0 → ∀ (v2 : Int32) (M : MM), W_m_usual_42 p1 k119 Q N v2 M → pM X N 291 42 [(0, .inr (.inl (some 190))), (1, .inl (.inl p1)), (2, .inl (.inl v2))] [] M (Ri Q) := by
  intro N
  induction N with
  | zero => intros; exact pM_zero
  | succ N IH =>
    intro hN v2 M h
    replace hN := Nat.le_of_succ_le hN
    replace h : B_m_usual_42 p1 k119 Q N (W_m_usual_42 p1 k119 Q N) v2 M := h
    refine pM_s (pMs_iln rfl rfl ?_)
    refine pM_aln rfl rfl rfl ?_
    refine pM_qVi (as := [.inr (.inl (some 190))]) (T := [.inl (.inl v2)]) rfl rfl (fun C hC => cl_v hC rfl rfl rfl rfl) rfl (q_m_citizens ) ?_
    refine pM_cge rfl rfl (fun h6 => ?_) (fun h6 => ?_)
    · replace h := h.2 h6
      refine pM_w (F2 := [(0, .inr (.inl (some 190)))]) (fun L hL => lo_cons (lo_lk hL rfl) lo_nil) ?_
      exact pM_le hN (hk119 _ h)
    · replace h := h.1 h6
      refine pM_ic rfl ki_0 ?_
      refine pM_isn rfl rfl ?_
      refine pM_w (F2 := [(0, .inr (.inl (some 190))), (1, .inl (.inl p1)), (2, .inl (.inl v2)), (3, .inl (.inl 0))]) (fun L hL => lo_cons (lo_lk hL rfl) (lo_cons (lo_lk hL rfl) (lo_cons (lo_lk hL rfl) (lo_cons (lo_lk hL rfl) lo_nil)))) ?_
      refine q_m_usual_52  (fun M10 h => ?_) N (Nat.le_refl N) 0 M h
      · refine pM_ii rfl rfl rfl ki_1 ?_
        refine pM_go rfl rfl ?_
        refine pM_w (F2 := [(0, .inr (.inl (some 190))), (1, .inl (.inl p1)), (2, .inl (.inl (v2 + 1)))]) (fun L hL => lo_cons (lo_lk hL rfl) (lo_cons (lo_lk hL rfl) (lo_cons (lo_lk hL rfl) lo_nil))) ?_
        exact IH hN (v2 + 1) M10 h
def B_m_usual_123 (p1 : Int32) (M : MM) (Q : Int32 → MM → Prop) (N : Nat) (ih : Int32 → Int32 → Prop) (v2 : Int32) (v3 : Int32) : Prop :=
  ((v3 < 8 →
    ((0 < (M.1 212 (ni v3)) →
      ((v2 < 0 →
        ih v3 (v3 + 1)) ∧
       (¬ v2 < 0 →
        (((M.1 212 (ni v2)) < (M.1 212 (ni v3)) →
          ih v3 (v3 + 1)) ∧
         (¬ (M.1 212 (ni v2)) < (M.1 212 (ni v3)) →
          ih v2 (v3 + 1)))))) ∧
     (¬ 0 < (M.1 212 (ni v3)) →
      ih v2 (v3 + 1)))) ∧
   (¬ v3 < 8 →
    Q v2 M))
def W_m_usual_123 (p1 : Int32) (M : MM) (Q : Int32 → MM → Prop) : Nat → Int32 → Int32 → Prop
  | 0, _, _ => True
  | N + 1, v2, v3 => B_m_usual_123 p1 M Q N (W_m_usual_123 p1 M Q N) v2 v3
theorem I_m_usual_123 (p1 : Int32) (M : MM) (Q : Int32 → MM → Prop) (inv : Int32 → Int32 → Prop) (hs : ∀ (N : Nat) (ih : Int32 → Int32 → Prop) (v2 : Int32) (v3 : Int32), (∀ (v2 : Int32) (v3 : Int32), inv v2 v3 → ih v2 v3) → inv v2 v3 → B_m_usual_123 p1 M Q N ih v2 v3) : ∀ (N : Nat) (v2 : Int32) (v3 : Int32), inv v2 v3 → W_m_usual_123 p1 M Q N v2 v3 := by
  intro N
  induction N with
  | zero => intros; trivial
  | succ N IH =>
    intro v2 v3 h
    exact hs N _ v2 v3 IH h
theorem q_m_usual_123 {X : Option (List AI)} {N0 : Nat} {p1 : Int32} {M : MM} {Q : Int32 → MM → Prop}   : ∀ (N : Nat), N ≤ N0 → ∀ (v2 : Int32) (v3 : Int32), W_m_usual_123 p1 M Q N v2 v3 → pM X N 291 123 [(0, .inr (.inl (some 190))), (2, .inl (.inl v2)), (3, .inl (.inl v3))] [] M (Ri Q) := by
  intro N
  induction N with
  | zero => intros; exact pM_zero
  | succ N IH =>
    intro hN v2 v3 h
    replace hN := Nat.le_of_succ_le hN
    replace h : B_m_usual_123 p1 M Q N (W_m_usual_123 p1 M Q N) v2 v3 := h
    refine pM_s (pMs_iln rfl rfl ?_)
    refine pM_bi rfl kb_8 ?_
    refine pM_cge rfl rfl (fun h12 => ?_) (fun h12 => ?_)
    · replace h := h.2 h12
      refine pM_iln rfl rfl ?_
      exact pM_ri rfl (⟨_, rfl, h⟩)
    · replace h := h.1 h12
      refine pM_aln rfl rfl rfl ?_
      refine pM_gr rfl rfl rfl rfl ?_
      refine pM_iln rfl rfl ?_
      refine pM_ai rfl rfl (one_p _) ?_
      refine pM_zle rfl rfl (fun h13 => ?_) (fun h13 => ?_)
      · replace h := h.2 h13
        refine pM_ii rfl rfl rfl ki_1 ?_
        refine pM_go rfl rfl ?_
        refine pM_w (F2 := [(0, .inr (.inl (some 190))), (2, .inl (.inl v2)), (3, .inl (.inl (v3 + 1)))]) (fun L hL => lo_cons (lo_lk hL rfl) (lo_cons (lo_lk hL rfl) (lo_cons (lo_lk hL rfl) lo_nil))) ?_
        exact IH hN v2 (v3 + 1) h
      · replace h := h.1 h13
        refine pM_iln rfl rfl ?_
        refine pM_zlt rfl rfl (fun h14 => ?_) (fun h14 => ?_)
        · replace h := h.1 h14
          refine pM_iln rfl rfl ?_
          refine pM_isn rfl rfl ?_
          refine pM_ii rfl rfl rfl ki_1 ?_
          refine pM_go rfl rfl ?_
          refine pM_w (F2 := [(0, .inr (.inl (some 190))), (2, .inl (.inl v3)), (3, .inl (.inl (v3 + 1)))]) (fun L hL => lo_cons (lo_lk hL rfl) (lo_cons (lo_lk hL rfl) (lo_cons (lo_lk hL rfl) lo_nil))) ?_
          exact IH hN v3 (v3 + 1) h
        · replace h := h.2 h14
          refine pM_aln rfl rfl rfl ?_
          refine pM_gr rfl rfl rfl rfl ?_
          refine pM_iln rfl rfl ?_
          refine pM_ai rfl rfl (one_p _) ?_
          refine pM_aln rfl rfl rfl ?_
          refine pM_gr rfl rfl rfl rfl ?_
          refine pM_iln rfl rfl ?_
          refine pM_ai rfl rfl (one_p _) ?_
          refine pM_cle rfl rfl (fun h15 => ?_) (fun h15 => ?_)
          · replace h := h.2 h15
            refine pM_ii rfl rfl rfl ki_1 ?_
            refine pM_go rfl rfl ?_
            refine pM_w (F2 := [(0, .inr (.inl (some 190))), (2, .inl (.inl v2)), (3, .inl (.inl (v3 + 1)))]) (fun L hL => lo_cons (lo_lk hL rfl) (lo_cons (lo_lk hL rfl) (lo_cons (lo_lk hL rfl) lo_nil))) ?_
            exact IH hN v2 (v3 + 1) h
          · replace h := h.1 h15
            refine pM_iln rfl rfl ?_
            refine pM_isn rfl rfl ?_
            refine pM_ii rfl rfl rfl ki_1 ?_
            refine pM_go rfl rfl ?_
            refine pM_w (F2 := [(0, .inr (.inl (some 190))), (2, .inl (.inl v3)), (3, .inl (.inl (v3 + 1)))]) (fun L hL => lo_cons (lo_lk hL rfl) (lo_cons (lo_lk hL rfl) (lo_cons (lo_lk hL rfl) lo_nil))) ?_
            exact IH hN v3 (v3 + 1) h
/-- 291: EarCodeModel.usual(I)I -/
def W_m_usual (p1 : Int32) (N : Nat) (M : MM) (Q : Int32 → MM → Prop) : Prop :=
  W_m_throwsIf (V_m_noEight p1 (wi M 190 0 0)) 1 N (wi M 190 0 0) (fun r1 M2 =>
    ((r1 = 0 →
      W_m_usual_21 p1 (fun M5 =>
        W_m_usual_42 p1 (fun M11 =>
          W_m_usual_123 p1 M11 Q N (-1) 0) Q N 0 M5) Q N 0 M2) ∧
     (¬ r1 = 0 →
      Q 0 M2)))
theorem q_m_usual {X : Option (List AI)} {N : Nat} {M : MM} {p1 : Int32} {Q : Int32 → MM → Prop}  (h : W_m_usual p1 N M Q) : pM X N 291 0 (ea_ar 0 [.inr (.inl (some 190)), .inl (.inl p1)]) [] M (Ri Q) := by
  refine pM_w (F2 := [(0, .inr (.inl (some 190))), (1, .inl (.inl p1))]) (fun L hL => lo_cons (lo_lk hL rfl) (lo_cons (lo_lk hL rfl) lo_nil)) ?_
  refine pM_aln rfl rfl rfl ?_
  refine pM_ic rfl ki_0 ?_
  refine pM_pi rfl rfl rfl rfl ?_
  refine pM_aln rfl rfl rfl ?_
  refine pM_iln rfl rfl ?_
  refine pM_qVi (as := [.inl (.inl p1)]) (T := [.inr (.inl (some 190))]) rfl rfl (fun _ _ => rfl) rfl (q_m_noEight ) ?_
  refine pM_ic rfl ki_1 ?_
  refine pM_qRi (as := [.inr (.inl (some 190)), .inl (.inl (V_m_noEight p1 (wi M 190 0 0))), .inl (.inl 1)]) (T := []) rfl rfl (fun C hC => cl_v hC rfl rfl rfl rfl) rfl (q_m_throwsIf  h) (fun r1 M2 h => ?_)
  refine pM_zeq rfl rfl (fun h3 => ?_) (fun h3 => ?_)
  · replace h := h.1 h3
    refine pM_ic rfl ki_0 ?_
    refine pM_isn rfl rfl ?_
    refine pM_w (F2 := [(0, .inr (.inl (some 190))), (1, .inl (.inl p1)), (2, .inl (.inl 0))]) (fun L hL => lo_cons (lo_lk hL rfl) (lo_cons (lo_lk hL rfl) (lo_cons (lo_lk hL rfl) lo_nil))) ?_
    refine q_m_usual_21  (fun M5 h => ?_) N (Nat.le_refl N) 0 M2 h
    · refine pM_ic rfl ki_0 ?_
      refine pM_isn rfl rfl ?_
      refine pM_w (F2 := [(0, .inr (.inl (some 190))), (1, .inl (.inl p1)), (2, .inl (.inl 0))]) (fun L hL => lo_cons (lo_lk hL rfl) (lo_cons (lo_lk hL rfl) (lo_cons (lo_lk hL rfl) lo_nil))) ?_
      refine q_m_usual_42  (fun M11 h => ?_) N (Nat.le_refl N) 0 M5 h
      · refine pM_ic rfl ki_m1 ?_
        refine pM_isn rfl rfl ?_
        refine pM_ic rfl ki_0 ?_
        refine pM_isn rfl rfl ?_
        refine pM_w (F2 := [(0, .inr (.inl (some 190))), (2, .inl (.inl (-1))), (3, .inl (.inl 0))]) (fun L hL => lo_cons (lo_lk hL rfl) (lo_cons (lo_lk hL rfl) (lo_cons (lo_lk hL rfl) lo_nil))) ?_
        refine q_m_usual_123   N (Nat.le_refl N) (-1) 0 h
  · replace h := h.2 h3
    refine pM_ic rfl ki_0 ?_
    exact pM_ri rfl (⟨_, rfl, h⟩)
def B_m_feared_15 (p1 : Int32) (M : MM) (Q : Int64 → MM → Prop) (N : Nat) (ih : Int64 → Int64 → Int32 → Prop) (v2 : Int64) (v4 : Int64) (v6 : Int32) : Prop :=
  ((v6 < (V_m_citizens  M) →
    (((V_m_isAlive v6 M) = 0 →
      ih v2 v4 (v6 + 1)) ∧
     (¬ (V_m_isAlive v6 M) = 0 →
      ih (v2 &&& (M.2 196 (ni v6))) (v4 ||| (M.2 196 (ni v6))) (v6 + 1)))) ∧
   (¬ v6 < (V_m_citizens  M) →
    W_m_alive  N M (fun r3 =>
      ((r3 = 0 →
        Q (Int64.ofNat 0) M) ∧
       (¬ r3 = 0 →
        ((p1 = 0 →
          Q (v4 ^^^ (Int64.ofNat 18446744073709551615)) M) ∧
         (¬ p1 = 0 →
          Q v2 M)))))))
def W_m_feared_15 (p1 : Int32) (M : MM) (Q : Int64 → MM → Prop) : Nat → Int64 → Int64 → Int32 → Prop
  | 0, _, _, _ => True
  | N + 1, v2, v4, v6 => B_m_feared_15 p1 M Q N (W_m_feared_15 p1 M Q N) v2 v4 v6
theorem I_m_feared_15 (p1 : Int32) (M : MM) (Q : Int64 → MM → Prop) (inv : Int64 → Int64 → Int32 → Prop) (hs : ∀ (N : Nat) (ih : Int64 → Int64 → Int32 → Prop) (v2 : Int64) (v4 : Int64) (v6 : Int32), (∀ (v2 : Int64) (v4 : Int64) (v6 : Int32), inv v2 v4 v6 → ih v2 v4 v6) → inv v2 v4 v6 → B_m_feared_15 p1 M Q N ih v2 v4 v6) : ∀ (N : Nat) (v2 : Int64) (v4 : Int64) (v6 : Int32), inv v2 v4 v6 → W_m_feared_15 p1 M Q N v2 v4 v6 := by
  intro N
  induction N with
  | zero => intros; trivial
  | succ N IH =>
    intro v2 v4 v6 h
    exact hs N _ v2 v4 v6 IH h
theorem q_m_feared_15 {X : Option (List AI)} {N0 : Nat} {p1 : Int32} {M : MM} {Q : Int64 → MM → Prop}   : ∀ (N : Nat), N ≤ N0 → ∀ (v2 : Int64) (v4 : Int64) (v6 : Int32), W_m_feared_15 p1 M Q N v2 v4 v6 → pM X N 292 15 [(0, .inr (.inl (some 190))), (1, .inl (.inl p1)), (2, .inr (.inr (.inl (some v2)))), (4, .inr (.inr (.inl (some v4)))), (6, .inl (.inl v6))] [] M (Rl Q) := by
  intro N
  induction N with
  | zero => intros; exact pM_zero
  | succ N IH =>
    intro hN v2 v4 v6 h
    replace hN := Nat.le_of_succ_le hN
    replace h : B_m_feared_15 p1 M Q N (W_m_feared_15 p1 M Q N) v2 v4 v6 := h
    refine pM_s (pMs_il rfl rfl ?_)
    refine pM_aln rfl rfl rfl ?_
    refine pM_qVi (as := [.inr (.inl (some 190))]) (T := [.inl (.inl v6)]) rfl rfl (fun C hC => cl_v hC rfl rfl rfl rfl) rfl (q_m_citizens ) ?_
    refine pM_cge rfl rfl (fun h1 => ?_) (fun h1 => ?_)
    · replace h := h.2 h1
      refine pM_aln rfl rfl rfl ?_
      refine pM_qPi (as := [.inr (.inl (some 190))]) (T := []) rfl rfl (fun C hC => cl_v hC rfl rfl rfl rfl) rfl (q_m_alive  h) (fun r3 h => ?_)
      refine pM_zne rfl rfl (fun h5 => ?_) (fun h5 => ?_)
      · replace h := h.2 h5
        refine pM_iln rfl rfl ?_
        refine pM_zeq rfl rfl (fun h6 => ?_) (fun h6 => ?_)
        · replace h := h.1 h6
          refine pM_ll rfl rfl ?_
          refine pM_ldl rfl rfl ?_
          refine pM_p (pc' := 89) (S' := [.inr (.inr (.inl (some (v4 ^^^ (Int64.ofNat 18446744073709551615)))))]) rfl rfl (fun _ => rfl) ?_
          exact pM_rl rfl (⟨_, rfl, h⟩)
        · replace h := h.2 h6
          refine pM_lln rfl rfl ?_
          refine pM_go rfl rfl ?_
          exact pM_rl rfl (⟨_, rfl, h⟩)
      · replace h := h.1 h5
        refine pM_lc rfl ?_
        refine pM_go rfl rfl ?_
        exact pM_rl rfl (⟨_, rfl, h⟩)
    · replace h := h.1 h1
      refine pM_aln rfl rfl rfl ?_
      refine pM_il rfl rfl ?_
      refine pM_qVi (as := [.inr (.inl (some 190)), .inl (.inl v6)]) (T := []) rfl rfl (fun C hC => cl_v hC rfl rfl rfl rfl) rfl (q_m_isAlive ) ?_
      refine pM_zne rfl rfl (fun h2 => ?_) (fun h2 => ?_)
      · replace h := h.2 h2
        refine pM_lln rfl rfl ?_
        refine pM_aln rfl rfl rfl ?_
        refine pM_gr rfl rfl rfl rfl ?_
        refine pM_il rfl rfl ?_
        refine pM_la rfl rfl ?_
        refine pM_p (pc' := 45) (S' := [.inr (.inr (.inl (some (v2 &&& (M.2 196 (ni v6))))))]) rfl rfl (fun _ => rfl) ?_
        refine pM_lsn rfl rfl ?_
        refine pM_ll rfl rfl ?_
        refine pM_aln rfl rfl rfl ?_
        refine pM_gr rfl rfl rfl rfl ?_
        refine pM_il rfl rfl ?_
        refine pM_la rfl rfl ?_
        refine pM_p (pc' := 56) (S' := [.inr (.inr (.inl (some (v4 ||| (M.2 196 (ni v6))))))]) rfl rfl (fun _ => rfl) ?_
        refine pM_ls rfl rfl ?_
        refine pM_ii rfl rfl rfl ki_1 ?_
        refine pM_go rfl rfl ?_
        refine pM_w (F2 := [(0, .inr (.inl (some 190))), (1, .inl (.inl p1)), (2, .inr (.inr (.inl (some (v2 &&& (M.2 196 (ni v6))))))), (4, .inr (.inr (.inl (some (v4 ||| (M.2 196 (ni v6))))))), (6, .inl (.inl (v6 + 1)))]) (fun L hL => lo_cons (lo_lk hL rfl) (lo_cons (lo_lk hL rfl) (lo_cons (lo_lk hL rfl) (lo_cons (lo_lk hL rfl) (lo_cons (lo_lk hL rfl) lo_nil))))) ?_
        exact IH hN (v2 &&& (M.2 196 (ni v6))) (v4 ||| (M.2 196 (ni v6))) (v6 + 1) h
      · replace h := h.1 h2
        refine pM_go rfl rfl ?_
        refine pM_ii rfl rfl rfl ki_1 ?_
        refine pM_go rfl rfl ?_
        refine pM_w (F2 := [(0, .inr (.inl (some 190))), (1, .inl (.inl p1)), (2, .inr (.inr (.inl (some v2)))), (4, .inr (.inr (.inl (some v4)))), (6, .inl (.inl (v6 + 1)))]) (fun L hL => lo_cons (lo_lk hL rfl) (lo_cons (lo_lk hL rfl) (lo_cons (lo_lk hL rfl) (lo_cons (lo_lk hL rfl) (lo_cons (lo_lk hL rfl) lo_nil))))) ?_
        exact IH hN v2 v4 (v6 + 1) h
/-- 292: EarCodeModel.feared(Z)J -/
def W_m_feared (p1 : Int32) (N : Nat) (M : MM) (Q : Int64 → MM → Prop) : Prop :=
  W_m_feared_15 p1 (wi M 190 0 0) Q N (Int64.ofNat 18446744073709551615) (Int64.ofNat 0) 0
theorem q_m_feared {X : Option (List AI)} {N : Nat} {M : MM} {p1 : Int32} {Q : Int64 → MM → Prop}  (h : W_m_feared p1 N M Q) : pM X N 292 0 (ea_ar 0 [.inr (.inl (some 190)), .inl (.inl p1)]) [] M (Rl Q) := by
  refine pM_w (F2 := [(0, .inr (.inl (some 190))), (1, .inl (.inl p1))]) (fun L hL => lo_cons (lo_lk hL rfl) (lo_cons (lo_lk hL rfl) lo_nil)) ?_
  refine pM_aln rfl rfl rfl ?_
  refine pM_ic rfl ki_0 ?_
  refine pM_pi rfl rfl rfl rfl ?_
  refine pM_ldl rfl rfl ?_
  refine pM_lsn rfl rfl ?_
  refine pM_lc rfl ?_
  refine pM_ls rfl rfl ?_
  refine pM_ic rfl ki_0 ?_
  refine pM_is rfl rfl ?_
  refine pM_w (F2 := [(0, .inr (.inl (some 190))), (1, .inl (.inl p1)), (2, .inr (.inr (.inl (some (Int64.ofNat 18446744073709551615))))), (4, .inr (.inr (.inl (some (Int64.ofNat 0))))), (6, .inl (.inl 0))]) (fun L hL => lo_cons (lo_lk hL rfl) (lo_cons (lo_lk hL rfl) (lo_cons (lo_lk hL rfl) (lo_cons (lo_lk hL rfl) (lo_cons (lo_lk hL rfl) lo_nil))))) ?_
  refine q_m_feared_15   N (Nat.le_refl N) (Int64.ofNat 18446744073709551615) (Int64.ofNat 0) 0 h
def B_m_halfOfOthers_28 (p1 : Int32) (u2 : Int32) (u3 : Int64) (u5 : Int32) (M : MM) (k83 : Int32 → Prop) (Q : Int64 → Prop) (N : Nat) (ih : Int32 → Int32 → Prop) (v6 : Int32) (v7 : Int32) : Prop :=
  ((v7 < (V_m_citizens  M) →
    ((v7 = p1 →
      ih (v6 + 0) (v7 + 1)) ∧
     (¬ v7 = p1 →
      (((V_m_isAlive v7 M) = 0 →
        ih (v6 + 0) (v7 + 1)) ∧
       (¬ (V_m_isAlive v7 M) = 0 →
        (((V_m_hasMatter (M.2 213 (ni v7)) u5 M) = 0 →
          ih (v6 + 0) (v7 + 1)) ∧
         (¬ (V_m_hasMatter (M.2 213 (ni v7)) u5 M) = 0 →
          ih (v6 + 1) (v7 + 1)))))))) ∧
   (¬ v7 < (V_m_citizens  M) →
    k83 v6))
def W_m_halfOfOthers_28 (p1 : Int32) (u2 : Int32) (u3 : Int64) (u5 : Int32) (M : MM) (k83 : Int32 → Prop) (Q : Int64 → Prop) : Nat → Int32 → Int32 → Prop
  | 0, _, _ => True
  | N + 1, v6, v7 => B_m_halfOfOthers_28 p1 u2 u3 u5 M k83 Q N (W_m_halfOfOthers_28 p1 u2 u3 u5 M k83 Q N) v6 v7
theorem I_m_halfOfOthers_28 (p1 : Int32) (u2 : Int32) (u3 : Int64) (u5 : Int32) (M : MM) (k83 : Int32 → Prop) (Q : Int64 → Prop) (inv : Int32 → Int32 → Prop) (hs : ∀ (N : Nat) (ih : Int32 → Int32 → Prop) (v6 : Int32) (v7 : Int32), (∀ (v6 : Int32) (v7 : Int32), inv v6 v7 → ih v6 v7) → inv v6 v7 → B_m_halfOfOthers_28 p1 u2 u3 u5 M k83 Q N ih v6 v7) : ∀ (N : Nat) (v6 : Int32) (v7 : Int32), inv v6 v7 → W_m_halfOfOthers_28 p1 u2 u3 u5 M k83 Q N v6 v7 := by
  intro N
  induction N with
  | zero => intros; trivial
  | succ N IH =>
    intro v6 v7 h
    exact hs N _ v6 v7 IH h
theorem q_m_halfOfOthers_28 {X : Option (List AI)} {N0 : Nat} {p1 : Int32} {u2 : Int32} {u3 : Int64} {u5 : Int32} {M : MM} {k83 : Int32 → Prop} {Q : Int64 → Prop}  (hk83 : ∀ (v6 : Int32), k83 v6 → pM X N0 293 83 [(0, .inr (.inl (some 190))), (1, .inl (.inl p1)), (2, .inl (.inl u2)), (3, .inr (.inr (.inl (some u3)))), (5, .inl (.inl u5)), (6, .inl (.inl v6))] [] M (Pl Q M)) : ∀ (N : Nat), N ≤ N0 → ∀ (v6 : Int32) (v7 : Int32), W_m_halfOfOthers_28 p1 u2 u3 u5 M k83 Q N v6 v7 → pM X N 293 28 [(0, .inr (.inl (some 190))), (1, .inl (.inl p1)), (2, .inl (.inl u2)), (3, .inr (.inr (.inl (some u3)))), (5, .inl (.inl u5)), (6, .inl (.inl v6)), (7, .inl (.inl v7))] [] M (Pl Q M) := by
  intro N
  induction N with
  | zero => intros; exact pM_zero
  | succ N IH =>
    intro hN v6 v7 h
    replace hN := Nat.le_of_succ_le hN
    replace h : B_m_halfOfOthers_28 p1 u2 u3 u5 M k83 Q N (W_m_halfOfOthers_28 p1 u2 u3 u5 M k83 Q N) v6 v7 := h
    refine pM_s (pMs_il rfl rfl ?_)
    refine pM_aln rfl rfl rfl ?_
    refine pM_qVi (as := [.inr (.inl (some 190))]) (T := [.inl (.inl v7)]) rfl rfl (fun C hC => cl_v hC rfl rfl rfl rfl) rfl (q_m_citizens ) ?_
    refine pM_cge rfl rfl (fun h4 => ?_) (fun h4 => ?_)
    · replace h := h.2 h4
      refine pM_w (F2 := [(0, .inr (.inl (some 190))), (1, .inl (.inl p1)), (2, .inl (.inl u2)), (3, .inr (.inr (.inl (some u3)))), (5, .inl (.inl u5)), (6, .inl (.inl v6))]) (fun L hL => lo_cons (lo_lk hL rfl) (lo_cons (lo_lk hL rfl) (lo_cons (lo_lk hL rfl) (lo_cons (lo_lk hL rfl) (lo_cons (lo_lk hL rfl) (lo_cons (lo_lk hL rfl) lo_nil)))))) ?_
      exact pM_le hN (hk83 _ h)
    · replace h := h.1 h4
      refine pM_il rfl rfl ?_
      refine pM_il rfl rfl ?_
      refine pM_iln rfl rfl ?_
      refine pM_ceq rfl rfl (fun h5 => ?_) (fun h5 => ?_)
      · replace h := h.1 h5
        refine pM_ic rfl ki_0 ?_
        refine pM_add rfl ?_
        refine pM_is rfl rfl ?_
        refine pM_ii rfl rfl rfl ki_1 ?_
        refine pM_go rfl rfl ?_
        refine pM_w (F2 := [(0, .inr (.inl (some 190))), (1, .inl (.inl p1)), (2, .inl (.inl u2)), (3, .inr (.inr (.inl (some u3)))), (5, .inl (.inl u5)), (6, .inl (.inl (v6 + 0))), (7, .inl (.inl (v7 + 1)))]) (fun L hL => lo_cons (lo_lk hL rfl) (lo_cons (lo_lk hL rfl) (lo_cons (lo_lk hL rfl) (lo_cons (lo_lk hL rfl) (lo_cons (lo_lk hL rfl) (lo_cons (lo_lk hL rfl) (lo_cons (lo_lk hL rfl) lo_nil))))))) ?_
        exact IH hN (v6 + 0) (v7 + 1) h
      · replace h := h.2 h5
        refine pM_aln rfl rfl rfl ?_
        refine pM_il rfl rfl ?_
        refine pM_qVi (as := [.inr (.inl (some 190)), .inl (.inl v7)]) (T := [.inl (.inl v6)]) rfl rfl (fun C hC => cl_v hC rfl rfl rfl rfl) rfl (q_m_isAlive ) ?_
        refine pM_zeq rfl rfl (fun h6 => ?_) (fun h6 => ?_)
        · replace h := h.1 h6
          refine pM_ic rfl ki_0 ?_
          refine pM_add rfl ?_
          refine pM_is rfl rfl ?_
          refine pM_ii rfl rfl rfl ki_1 ?_
          refine pM_go rfl rfl ?_
          refine pM_w (F2 := [(0, .inr (.inl (some 190))), (1, .inl (.inl p1)), (2, .inl (.inl u2)), (3, .inr (.inr (.inl (some u3)))), (5, .inl (.inl u5)), (6, .inl (.inl (v6 + 0))), (7, .inl (.inl (v7 + 1)))]) (fun L hL => lo_cons (lo_lk hL rfl) (lo_cons (lo_lk hL rfl) (lo_cons (lo_lk hL rfl) (lo_cons (lo_lk hL rfl) (lo_cons (lo_lk hL rfl) (lo_cons (lo_lk hL rfl) (lo_cons (lo_lk hL rfl) lo_nil))))))) ?_
          exact IH hN (v6 + 0) (v7 + 1) h
        · replace h := h.2 h6
          refine pM_aln rfl rfl rfl ?_
          refine pM_gr rfl rfl rfl rfl ?_
          refine pM_il rfl rfl ?_
          refine pM_la rfl rfl ?_
          refine pM_il rfl rfl ?_
          refine pM_qVi (as := [.inr (.inr (.inl (some (M.2 213 (ni v7))))), .inl (.inl u5)]) (T := [.inl (.inl v6)]) rfl rfl (fun _ _ => rfl) rfl (q_m_hasMatter ) ?_
          refine pM_zeq rfl rfl (fun h7 => ?_) (fun h7 => ?_)
          · replace h := h.1 h7
            refine pM_ic rfl ki_0 ?_
            refine pM_add rfl ?_
            refine pM_is rfl rfl ?_
            refine pM_ii rfl rfl rfl ki_1 ?_
            refine pM_go rfl rfl ?_
            refine pM_w (F2 := [(0, .inr (.inl (some 190))), (1, .inl (.inl p1)), (2, .inl (.inl u2)), (3, .inr (.inr (.inl (some u3)))), (5, .inl (.inl u5)), (6, .inl (.inl (v6 + 0))), (7, .inl (.inl (v7 + 1)))]) (fun L hL => lo_cons (lo_lk hL rfl) (lo_cons (lo_lk hL rfl) (lo_cons (lo_lk hL rfl) (lo_cons (lo_lk hL rfl) (lo_cons (lo_lk hL rfl) (lo_cons (lo_lk hL rfl) (lo_cons (lo_lk hL rfl) lo_nil))))))) ?_
            exact IH hN (v6 + 0) (v7 + 1) h
          · replace h := h.2 h7
            refine pM_ic rfl ki_1 ?_
            refine pM_go rfl rfl ?_
            refine pM_add rfl ?_
            refine pM_is rfl rfl ?_
            refine pM_ii rfl rfl rfl ki_1 ?_
            refine pM_go rfl rfl ?_
            refine pM_w (F2 := [(0, .inr (.inl (some 190))), (1, .inl (.inl p1)), (2, .inl (.inl u2)), (3, .inr (.inr (.inl (some u3)))), (5, .inl (.inl u5)), (6, .inl (.inl (v6 + 1))), (7, .inl (.inl (v7 + 1)))]) (fun L hL => lo_cons (lo_lk hL rfl) (lo_cons (lo_lk hL rfl) (lo_cons (lo_lk hL rfl) (lo_cons (lo_lk hL rfl) (lo_cons (lo_lk hL rfl) (lo_cons (lo_lk hL rfl) (lo_cons (lo_lk hL rfl) lo_nil))))))) ?_
            exact IH hN (v6 + 1) (v7 + 1) h
def B_m_halfOfOthers_15 (p1 : Int32) (u2 : Int32) (M : MM) (Q : Int64 → Prop) (N : Nat) (ih : Int64 → Int32 → Prop) (v3 : Int64) (v5 : Int32) : Prop :=
  ((v5 < 64 →
    W_m_halfOfOthers_28 p1 u2 v3 v5 M (fun x8 =>
      ((u2 < (2 * x8) →
        ih (v3 ||| (ll (Int64.ofNat 1) v5)) (v5 + 1)) ∧
       (¬ u2 < (2 * x8) →
        ih (v3 ||| (Int64.ofNat 0)) (v5 + 1)))) Q N 0 0) ∧
   (¬ v5 < 64 →
    Q v3))
def W_m_halfOfOthers_15 (p1 : Int32) (u2 : Int32) (M : MM) (Q : Int64 → Prop) : Nat → Int64 → Int32 → Prop
  | 0, _, _ => True
  | N + 1, v3, v5 => B_m_halfOfOthers_15 p1 u2 M Q N (W_m_halfOfOthers_15 p1 u2 M Q N) v3 v5
theorem I_m_halfOfOthers_15 (p1 : Int32) (u2 : Int32) (M : MM) (Q : Int64 → Prop) (inv : Int64 → Int32 → Prop) (hs : ∀ (N : Nat) (ih : Int64 → Int32 → Prop) (v3 : Int64) (v5 : Int32), (∀ (v3 : Int64) (v5 : Int32), inv v3 v5 → ih v3 v5) → inv v3 v5 → B_m_halfOfOthers_15 p1 u2 M Q N ih v3 v5) : ∀ (N : Nat) (v3 : Int64) (v5 : Int32), inv v3 v5 → W_m_halfOfOthers_15 p1 u2 M Q N v3 v5 := by
  intro N
  induction N with
  | zero => intros; trivial
  | succ N IH =>
    intro v3 v5 h
    exact hs N _ v3 v5 IH h
theorem q_m_halfOfOthers_15 {X : Option (List AI)} {N0 : Nat} {p1 : Int32} {u2 : Int32} {M : MM} {Q : Int64 → Prop}   : ∀ (N : Nat), N ≤ N0 → ∀ (v3 : Int64) (v5 : Int32), W_m_halfOfOthers_15 p1 u2 M Q N v3 v5 → pM X N 293 15 [(0, .inr (.inl (some 190))), (1, .inl (.inl p1)), (2, .inl (.inl u2)), (3, .inr (.inr (.inl (some v3)))), (5, .inl (.inl v5))] [] M (Pl Q M) := by
  intro N
  induction N with
  | zero => intros; exact pM_zero
  | succ N IH =>
    intro hN v3 v5 h
    replace hN := Nat.le_of_succ_le hN
    replace h : B_m_halfOfOthers_15 p1 u2 M Q N (W_m_halfOfOthers_15 p1 u2 M Q N) v3 v5 := h
    refine pM_s (pMs_il rfl rfl ?_)
    refine pM_bi rfl kb_64 ?_
    refine pM_cge rfl rfl (fun h3 => ?_) (fun h3 => ?_)
    · replace h := h.2 h3
      refine pM_lln rfl rfl ?_
      exact pM_rl rfl (⟨_, rfl, rfl, h⟩)
    · replace h := h.1 h3
      refine pM_ic rfl ki_0 ?_
      refine pM_is rfl rfl ?_
      refine pM_ic rfl ki_0 ?_
      refine pM_is rfl rfl ?_
      refine pM_w (F2 := [(0, .inr (.inl (some 190))), (1, .inl (.inl p1)), (2, .inl (.inl u2)), (3, .inr (.inr (.inl (some v3)))), (5, .inl (.inl v5)), (6, .inl (.inl 0)), (7, .inl (.inl 0))]) (fun L hL => lo_cons (lo_lk hL rfl) (lo_cons (lo_lk hL rfl) (lo_cons (lo_lk hL rfl) (lo_cons (lo_lk hL rfl) (lo_cons (lo_lk hL rfl) (lo_cons (lo_lk hL rfl) (lo_cons (lo_lk hL rfl) lo_nil))))))) ?_
      refine q_m_halfOfOthers_28  (fun x8 h => ?_) N (Nat.le_refl N) 0 0 h
      · refine pM_lln rfl rfl ?_
        refine pM_ic rfl ki_2 ?_
        refine pM_il rfl rfl ?_
        refine pM_mul rfl ?_
        refine pM_iln rfl rfl ?_
        refine pM_cle rfl rfl (fun h9 => ?_) (fun h9 => ?_)
        · replace h := h.2 h9
          refine pM_lc rfl ?_
          refine pM_p (pc' := 101) (S' := [.inr (.inr (.inl (some (v3 ||| (Int64.ofNat 0)))))]) rfl rfl (fun _ => rfl) ?_
          refine pM_lsn rfl rfl ?_
          refine pM_ii rfl rfl rfl ki_1 ?_
          refine pM_go rfl rfl ?_
          refine pM_w (F2 := [(0, .inr (.inl (some 190))), (1, .inl (.inl p1)), (2, .inl (.inl u2)), (3, .inr (.inr (.inl (some (v3 ||| (Int64.ofNat 0)))))), (5, .inl (.inl (v5 + 1)))]) (fun L hL => lo_cons (lo_lk hL rfl) (lo_cons (lo_lk hL rfl) (lo_cons (lo_lk hL rfl) (lo_cons (lo_lk hL rfl) (lo_cons (lo_lk hL rfl) lo_nil))))) ?_
          exact IH hN (v3 ||| (Int64.ofNat 0)) (v5 + 1) h
        · replace h := h.1 h9
          refine pM_lc rfl ?_
          refine pM_il rfl rfl ?_
          refine pM_p (pc' := 96) (S' := [.inr (.inr (.inl (some (ll (Int64.ofNat 1) v5)))), .inr (.inr (.inl (some v3)))]) rfl rfl (fun _ => rfl) ?_
          refine pM_go rfl rfl ?_
          refine pM_p (pc' := 101) (S' := [.inr (.inr (.inl (some (v3 ||| (ll (Int64.ofNat 1) v5)))))]) rfl rfl (fun _ => rfl) ?_
          refine pM_lsn rfl rfl ?_
          refine pM_ii rfl rfl rfl ki_1 ?_
          refine pM_go rfl rfl ?_
          refine pM_w (F2 := [(0, .inr (.inl (some 190))), (1, .inl (.inl p1)), (2, .inl (.inl u2)), (3, .inr (.inr (.inl (some (v3 ||| (ll (Int64.ofNat 1) v5)))))), (5, .inl (.inl (v5 + 1)))]) (fun L hL => lo_cons (lo_lk hL rfl) (lo_cons (lo_lk hL rfl) (lo_cons (lo_lk hL rfl) (lo_cons (lo_lk hL rfl) (lo_cons (lo_lk hL rfl) lo_nil))))) ?_
          exact IH hN (v3 ||| (ll (Int64.ofNat 1) v5)) (v5 + 1) h
/-- 293: EarCodeModel.halfOfOthers(I)J -/
def W_m_halfOfOthers (p1 : Int32) (N : Nat) (M : MM) (Q : Int64 → Prop) : Prop :=
  W_m_alive  N M (fun r1 =>
    W_m_halfOfOthers_15 p1 ((V_Int_bitCount r1 M) - 1) M Q N (Int64.ofNat 0) 0)
theorem q_m_halfOfOthers {X : Option (List AI)} {N : Nat} {M : MM} {p1 : Int32} {Q : Int64 → Prop}  (h : W_m_halfOfOthers p1 N M Q) : pM X N 293 0 (ea_ar 0 [.inr (.inl (some 190)), .inl (.inl p1)]) [] M (Pl Q M) := by
  refine pM_w (F2 := [(0, .inr (.inl (some 190))), (1, .inl (.inl p1))]) (fun L hL => lo_cons (lo_lk hL rfl) (lo_cons (lo_lk hL rfl) lo_nil)) ?_
  refine pM_aln rfl rfl rfl ?_
  refine pM_qPi (as := [.inr (.inl (some 190))]) (T := []) rfl rfl (fun C hC => cl_v hC rfl rfl rfl rfl) rfl (q_m_alive  h) (fun r1 h => ?_)
  refine pM_qVi (as := [.inl (.inl r1)]) (T := []) rfl rfl (fun _ _ => rfl) rfl (q_Int_bitCount ) ?_
  refine pM_ic rfl ki_1 ?_
  refine pM_sub rfl ?_
  refine pM_isn rfl rfl ?_
  refine pM_lc rfl ?_
  refine pM_lsn rfl rfl ?_
  refine pM_ic rfl ki_0 ?_
  refine pM_is rfl rfl ?_
  refine pM_w (F2 := [(0, .inr (.inl (some 190))), (1, .inl (.inl p1)), (2, .inl (.inl ((V_Int_bitCount r1 M) - 1))), (3, .inr (.inr (.inl (some (Int64.ofNat 0))))), (5, .inl (.inl 0))]) (fun L hL => lo_cons (lo_lk hL rfl) (lo_cons (lo_lk hL rfl) (lo_cons (lo_lk hL rfl) (lo_cons (lo_lk hL rfl) (lo_cons (lo_lk hL rfl) lo_nil))))) ?_
  refine q_m_halfOfOthers_15   N (Nat.le_refl N) (Int64.ofNat 0) 0 h
