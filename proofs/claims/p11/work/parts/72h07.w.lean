/-! WHAT EACH METHOD COMES TO (gw.py) -/
def B_Outlook_foresee_3 (p1 : Int32) (p2 : Int32) (p3 : Int32) (p4 : Int32) (Q : MM → Prop) (N : Nat) (ih : Int32 → MM → Prop) (v5 : Int32) (M : MM) : Prop :=
  ((v5 < p4 →
    ((v5 < 60 →
      W_Law_bearing 8 0 (V_World_matterAhead 18 p1 (p2 + v5) M) p1 p3 ((M.1 18 13) + v5) N M (fun r3 =>
        ih (v5 + 1) (wi M 170 (ni v5) r3))) ∧
     (¬ v5 < 60 →
      Q M))) ∧
   (¬ v5 < p4 →
    Q M))
def W_Outlook_foresee_3 (p1 : Int32) (p2 : Int32) (p3 : Int32) (p4 : Int32) (Q : MM → Prop) : Nat → Int32 → MM → Prop
  | 0, _, _ => True
  | N + 1, v5, M => B_Outlook_foresee_3 p1 p2 p3 p4 Q N (W_Outlook_foresee_3 p1 p2 p3 p4 Q N) v5 M
theorem I_Outlook_foresee_3 (p1 : Int32) (p2 : Int32) (p3 : Int32) (p4 : Int32) (Q : MM → Prop) (inv : Int32 → MM → Prop) (hs : ∀ (N : Nat) (ih : Int32 → MM → Prop) (v5 : Int32) (M : MM), (∀ (v5 : Int32) (M : MM), inv v5 M → ih v5 M) → inv v5 M → B_Outlook_foresee_3 p1 p2 p3 p4 Q N ih v5 M) : ∀ (N : Nat) (v5 : Int32) (M : MM), inv v5 M → W_Outlook_foresee_3 p1 p2 p3 p4 Q N v5 M := by
  intro N
  induction N with
  | zero => intros; trivial
  | succ N IH =>
    intro v5 M h
    exact hs N _ v5 M IH h
theorem q_Outlook_foresee_3 {X : Option (List AI)} {N0 : Nat} {p1 : Int32} {p2 : Int32} {p3 : Int32} {p4 : Int32} {Q : MM → Prop}   : ∀ (N : Nat), N ≤ N0 → ∀ (v5 : Int32) (M : MM), W_Outlook_foresee_3 p1 p2 p3 p4 Q N v5 M → pM X N 57 3 [(0, .inr (.inl (some 169))), (1, .inl (.inl p1)), (2, .inl (.inl p2)), (3, .inl (.inl p3)), (4, .inl (.inl p4)), (5, .inl (.inl v5))] [] M (Ru Q) := by
  intro N
  induction N with
  | zero => intros; exact pM_zero
  | succ N IH =>
    intro hN v5 M h
    replace hN := Nat.le_of_succ_le hN
    replace h : B_Outlook_foresee_3 p1 p2 p3 p4 Q N (W_Outlook_foresee_3 p1 p2 p3 p4 Q N) v5 M := h
    refine pM_s (pMs_il rfl rfl ?_)
    refine pM_il rfl rfl ?_
    refine pM_cge rfl rfl (fun h1 => ?_) (fun h1 => ?_)
    · replace h := h.2 h1
      exact pM_ru rfl (⟨rfl, h⟩)
    · replace h := h.1 h1
      refine pM_il rfl rfl ?_
      refine pM_bi rfl kb_60 ?_
      refine pM_cge rfl rfl (fun h2 => ?_) (fun h2 => ?_)
      · replace h := h.2 h2
        exact pM_ru rfl (⟨rfl, h⟩)
      · replace h := h.1 h2
        refine pM_aln rfl rfl rfl ?_
        refine pM_gr rfl rfl rfl rfl ?_
        refine pM_iln rfl rfl ?_
        refine pM_iln rfl rfl ?_
        refine pM_il rfl rfl ?_
        refine pM_add rfl ?_
        refine pM_qVi (as := [.inr (.inl (some 18)), .inl (.inl p1), .inl (.inl (p2 + v5))]) (T := []) rfl rfl (fun C hC => cl_v hC rfl rfl rfl rfl) rfl (q_World_matterAhead isW_18) ?_
        refine pM_is rfl rfl ?_
        refine pM_aln rfl rfl rfl ?_
        refine pM_gr rfl rfl rfl rfl ?_
        refine pM_il rfl rfl ?_
        refine pM_aln rfl rfl rfl ?_
        refine pM_gr rfl rfl rfl rfl ?_
        refine pM_ic rfl ki_0 ?_
        refine pM_il rfl rfl ?_
        refine pM_iln rfl rfl ?_
        refine pM_iln rfl rfl ?_
        refine pM_aln rfl rfl rfl ?_
        refine pM_gr rfl rfl rfl rfl ?_
        refine pM_gi rfl rfl rfl rfl ?_
        refine pM_il rfl rfl ?_
        refine pM_add rfl ?_
        refine pM_qPi (as := [.inr (.inl (some 8)), .inl (.inl 0), .inl (.inl (V_World_matterAhead 18 p1 (p2 + v5) M)), .inl (.inl p1), .inl (.inl p3), .inl (.inl ((M.1 18 13) + v5))]) (T := [.inl (.inl v5), .inr (.inl (some 170))]) rfl rfl (fun C hC => cl_v hC rfl rfl rfl rfl) rfl (q_Law_bearing isK_8 h) (fun r3 h => ?_)
        refine pM_sa rfl rfl (one_p _) ?_
        refine pM_ii rfl rfl rfl ki_1 ?_
        refine pM_go rfl rfl ?_
        refine pM_w (F2 := [(0, .inr (.inl (some 169))), (1, .inl (.inl p1)), (2, .inl (.inl p2)), (3, .inl (.inl p3)), (4, .inl (.inl p4)), (5, .inl (.inl (v5 + 1)))]) (fun L hL => lo_cons (lo_lk hL rfl) (lo_cons (lo_lk hL rfl) (lo_cons (lo_lk hL rfl) (lo_cons (lo_lk hL rfl) (lo_cons (lo_lk hL rfl) (lo_cons (lo_lk hL rfl) lo_nil)))))) ?_
        exact IH hN (v5 + 1) (wi M 170 (ni v5) r3) h
/-- 57: EarCode$Outlook.foresee(IIII)V -/
def W_Outlook_foresee (p1 : Int32) (p2 : Int32) (p3 : Int32) (p4 : Int32) (N : Nat) (M : MM) (Q : MM → Prop) : Prop :=
  W_Outlook_foresee_3 p1 p2 p3 p4 Q N 0 M
theorem q_Outlook_foresee {X : Option (List AI)} {N : Nat} {M : MM} {p1 : Int32} {p2 : Int32} {p3 : Int32} {p4 : Int32} {Q : MM → Prop}  (h : W_Outlook_foresee p1 p2 p3 p4 N M Q) : pM X N 57 0 (ea_ar 0 [.inr (.inl (some 169)), .inl (.inl p1), .inl (.inl p2), .inl (.inl p3), .inl (.inl p4)]) [] M (Ru Q) := by
  refine pM_w (F2 := [(0, .inr (.inl (some 169))), (1, .inl (.inl p1)), (2, .inl (.inl p2)), (3, .inl (.inl p3)), (4, .inl (.inl p4))]) (fun L hL => lo_cons (lo_lk hL rfl) (lo_cons (lo_lk hL rfl) (lo_cons (lo_lk hL rfl) (lo_cons (lo_lk hL rfl) (lo_cons (lo_lk hL rfl) lo_nil))))) ?_
  refine pM_ic rfl ki_0 ?_
  refine pM_is rfl rfl ?_
  refine pM_w (F2 := [(0, .inr (.inl (some 169))), (1, .inl (.inl p1)), (2, .inl (.inl p2)), (3, .inl (.inl p3)), (4, .inl (.inl p4)), (5, .inl (.inl 0))]) (fun L hL => lo_cons (lo_lk hL rfl) (lo_cons (lo_lk hL rfl) (lo_cons (lo_lk hL rfl) (lo_cons (lo_lk hL rfl) (lo_cons (lo_lk hL rfl) (lo_cons (lo_lk hL rfl) lo_nil)))))) ?_
  refine q_Outlook_foresee_3   N (Nat.le_refl N) 0 M h
def B_Outlook_riskyDays_6 (p1 : Int32) (p2 : Int32) (p3 : Int32) (M : MM) (Q : Int32 → Prop) (N : Nat) (ih : Int32 → Int32 → Prop) (v4 : Int32) (v5 : Int32) : Prop :=
  ((v5 < p1 →
    ((v5 < 60 →
      ((((M.1 170 (ni v5)) &&& p2) = 0 →
        ih v4 (v5 + 1)) ∧
       (¬ ((M.1 170 (ni v5)) &&& p2) = 0 →
        ((((M.1 170 (ni v5)) &&& p3) = 0 →
          ih (v4 + 1) (v5 + 1)) ∧
         (¬ ((M.1 170 (ni v5)) &&& p3) = 0 →
          ih v4 (v5 + 1)))))) ∧
     (¬ v5 < 60 →
      Q v4))) ∧
   (¬ v5 < p1 →
    Q v4))
def W_Outlook_riskyDays_6 (p1 : Int32) (p2 : Int32) (p3 : Int32) (M : MM) (Q : Int32 → Prop) : Nat → Int32 → Int32 → Prop
  | 0, _, _ => True
  | N + 1, v4, v5 => B_Outlook_riskyDays_6 p1 p2 p3 M Q N (W_Outlook_riskyDays_6 p1 p2 p3 M Q N) v4 v5
theorem I_Outlook_riskyDays_6 (p1 : Int32) (p2 : Int32) (p3 : Int32) (M : MM) (Q : Int32 → Prop) (inv : Int32 → Int32 → Prop) (hs : ∀ (N : Nat) (ih : Int32 → Int32 → Prop) (v4 : Int32) (v5 : Int32), (∀ (v4 : Int32) (v5 : Int32), inv v4 v5 → ih v4 v5) → inv v4 v5 → B_Outlook_riskyDays_6 p1 p2 p3 M Q N ih v4 v5) : ∀ (N : Nat) (v4 : Int32) (v5 : Int32), inv v4 v5 → W_Outlook_riskyDays_6 p1 p2 p3 M Q N v4 v5 := by
  intro N
  induction N with
  | zero => intros; trivial
  | succ N IH =>
    intro v4 v5 h
    exact hs N _ v4 v5 IH h
theorem q_Outlook_riskyDays_6 {X : Option (List AI)} {N0 : Nat} {p1 : Int32} {p2 : Int32} {p3 : Int32} {M : MM} {Q : Int32 → Prop}   : ∀ (N : Nat), N ≤ N0 → ∀ (v4 : Int32) (v5 : Int32), W_Outlook_riskyDays_6 p1 p2 p3 M Q N v4 v5 → pM X N 58 6 [(0, .inr (.inl (some 169))), (1, .inl (.inl p1)), (2, .inl (.inl p2)), (3, .inl (.inl p3)), (4, .inl (.inl v4)), (5, .inl (.inl v5))] [] M (Pi Q M) := by
  intro N
  induction N with
  | zero => intros; exact pM_zero
  | succ N IH =>
    intro hN v4 v5 h
    replace hN := Nat.le_of_succ_le hN
    replace h : B_Outlook_riskyDays_6 p1 p2 p3 M Q N (W_Outlook_riskyDays_6 p1 p2 p3 M Q N) v4 v5 := h
    refine pM_s (pMs_il rfl rfl ?_)
    refine pM_iln rfl rfl ?_
    refine pM_cge rfl rfl (fun h1 => ?_) (fun h1 => ?_)
    · replace h := h.2 h1
      refine pM_il rfl rfl ?_
      exact pM_ri rfl (⟨_, rfl, rfl, h⟩)
    · replace h := h.1 h1
      refine pM_il rfl rfl ?_
      refine pM_bi rfl kb_60 ?_
      refine pM_cge rfl rfl (fun h2 => ?_) (fun h2 => ?_)
      · replace h := h.2 h2
        refine pM_il rfl rfl ?_
        exact pM_ri rfl (⟨_, rfl, rfl, h⟩)
      · replace h := h.1 h2
        refine pM_aln rfl rfl rfl ?_
        refine pM_gr rfl rfl rfl rfl ?_
        refine pM_il rfl rfl ?_
        refine pM_ai rfl rfl (one_p _) ?_
        refine pM_iln rfl rfl ?_
        refine pM_and rfl ?_
        refine pM_zeq rfl rfl (fun h3 => ?_) (fun h3 => ?_)
        · replace h := h.1 h3
          refine pM_ii rfl rfl rfl ki_1 ?_
          refine pM_go rfl rfl ?_
          refine pM_w (F2 := [(0, .inr (.inl (some 169))), (1, .inl (.inl p1)), (2, .inl (.inl p2)), (3, .inl (.inl p3)), (4, .inl (.inl v4)), (5, .inl (.inl (v5 + 1)))]) (fun L hL => lo_cons (lo_lk hL rfl) (lo_cons (lo_lk hL rfl) (lo_cons (lo_lk hL rfl) (lo_cons (lo_lk hL rfl) (lo_cons (lo_lk hL rfl) (lo_cons (lo_lk hL rfl) lo_nil)))))) ?_
          exact IH hN v4 (v5 + 1) h
        · replace h := h.2 h3
          refine pM_aln rfl rfl rfl ?_
          refine pM_gr rfl rfl rfl rfl ?_
          refine pM_il rfl rfl ?_
          refine pM_ai rfl rfl (one_p _) ?_
          refine pM_iln rfl rfl ?_
          refine pM_and rfl ?_
          refine pM_zne rfl rfl (fun h4 => ?_) (fun h4 => ?_)
          · replace h := h.2 h4
            refine pM_ii rfl rfl rfl ki_1 ?_
            refine pM_go rfl rfl ?_
            refine pM_w (F2 := [(0, .inr (.inl (some 169))), (1, .inl (.inl p1)), (2, .inl (.inl p2)), (3, .inl (.inl p3)), (4, .inl (.inl v4)), (5, .inl (.inl (v5 + 1)))]) (fun L hL => lo_cons (lo_lk hL rfl) (lo_cons (lo_lk hL rfl) (lo_cons (lo_lk hL rfl) (lo_cons (lo_lk hL rfl) (lo_cons (lo_lk hL rfl) (lo_cons (lo_lk hL rfl) lo_nil)))))) ?_
            exact IH hN v4 (v5 + 1) h
          · replace h := h.1 h4
            refine pM_ii rfl rfl rfl ki_1 ?_
            refine pM_ii rfl rfl rfl ki_1 ?_
            refine pM_go rfl rfl ?_
            refine pM_w (F2 := [(0, .inr (.inl (some 169))), (1, .inl (.inl p1)), (2, .inl (.inl p2)), (3, .inl (.inl p3)), (4, .inl (.inl (v4 + 1))), (5, .inl (.inl (v5 + 1)))]) (fun L hL => lo_cons (lo_lk hL rfl) (lo_cons (lo_lk hL rfl) (lo_cons (lo_lk hL rfl) (lo_cons (lo_lk hL rfl) (lo_cons (lo_lk hL rfl) (lo_cons (lo_lk hL rfl) lo_nil)))))) ?_
            exact IH hN (v4 + 1) (v5 + 1) h
/-- 58: EarCode$Outlook.riskyDays(III)I -/
def W_Outlook_riskyDays (p1 : Int32) (p2 : Int32) (p3 : Int32) (N : Nat) (M : MM) (Q : Int32 → Prop) : Prop :=
  W_Outlook_riskyDays_6 p1 p2 p3 M Q N 0 0
theorem q_Outlook_riskyDays {X : Option (List AI)} {N : Nat} {M : MM} {p1 : Int32} {p2 : Int32} {p3 : Int32} {Q : Int32 → Prop}  (h : W_Outlook_riskyDays p1 p2 p3 N M Q) : pM X N 58 0 (ea_ar 0 [.inr (.inl (some 169)), .inl (.inl p1), .inl (.inl p2), .inl (.inl p3)]) [] M (Pi Q M) := by
  refine pM_w (F2 := [(0, .inr (.inl (some 169))), (1, .inl (.inl p1)), (2, .inl (.inl p2)), (3, .inl (.inl p3))]) (fun L hL => lo_cons (lo_lk hL rfl) (lo_cons (lo_lk hL rfl) (lo_cons (lo_lk hL rfl) (lo_cons (lo_lk hL rfl) lo_nil)))) ?_
  refine pM_ic rfl ki_0 ?_
  refine pM_is rfl rfl ?_
  refine pM_ic rfl ki_0 ?_
  refine pM_is rfl rfl ?_
  refine pM_w (F2 := [(0, .inr (.inl (some 169))), (1, .inl (.inl p1)), (2, .inl (.inl p2)), (3, .inl (.inl p3)), (4, .inl (.inl 0)), (5, .inl (.inl 0))]) (fun L hL => lo_cons (lo_lk hL rfl) (lo_cons (lo_lk hL rfl) (lo_cons (lo_lk hL rfl) (lo_cons (lo_lk hL rfl) (lo_cons (lo_lk hL rfl) (lo_cons (lo_lk hL rfl) lo_nil)))))) ?_
  refine q_Outlook_riskyDays_6   N (Nat.le_refl N) 0 0 h
/-- 56: EarCode$Outlook.riskFrom(III)I -/
def W_Outlook_riskFrom (p1 : Int32) (p2 : Int32) (p3 : Int32) (N : Nat) (M : MM) (Q : Int32 → MM → Prop) : Prop :=
  W_Outlook_foresee p1 p2 (V_World_knownBy 18 p1 M) p3 N M (fun M2 =>
    W_World_inForce 18 N M2 (fun r3 =>
      W_Outlook_riskyDays p3 r3 (M2.1 19 (ni p1)) N M2 (fun r5 =>
        Q r5 M2)))
theorem q_Outlook_riskFrom {X : Option (List AI)} {N : Nat} {M : MM} {p1 : Int32} {p2 : Int32} {p3 : Int32} {Q : Int32 → MM → Prop}  (h : W_Outlook_riskFrom p1 p2 p3 N M Q) : pM X N 56 0 (ea_ar 0 [.inr (.inl (some 169)), .inl (.inl p1), .inl (.inl p2), .inl (.inl p3)]) [] M (Ri Q) := by
  refine pM_w (F2 := [(0, .inr (.inl (some 169))), (1, .inl (.inl p1)), (2, .inl (.inl p2)), (3, .inl (.inl p3))]) (fun L hL => lo_cons (lo_lk hL rfl) (lo_cons (lo_lk hL rfl) (lo_cons (lo_lk hL rfl) (lo_cons (lo_lk hL rfl) lo_nil)))) ?_
  refine pM_aln rfl rfl rfl ?_
  refine pM_iln rfl rfl ?_
  refine pM_iln rfl rfl ?_
  refine pM_aln rfl rfl rfl ?_
  refine pM_gr rfl rfl rfl rfl ?_
  refine pM_iln rfl rfl ?_
  refine pM_qVi (as := [.inr (.inl (some 18)), .inl (.inl p1)]) (T := [.inl (.inl p2), .inl (.inl p1), .inr (.inl (some 169))]) rfl rfl (fun C hC => cl_v hC rfl rfl rfl rfl) rfl (q_World_knownBy isW_18) ?_
  refine pM_iln rfl rfl ?_
  refine pM_qRu (as := [.inr (.inl (some 169)), .inl (.inl p1), .inl (.inl p2), .inl (.inl (V_World_knownBy 18 p1 M)), .inl (.inl p3)]) (T := []) rfl rfl (fun C hC => cl_v hC rfl rfl rfl rfl) rfl (q_Outlook_foresee  h) (fun M2 h => ?_)
  refine pM_aln rfl rfl rfl ?_
  refine pM_iln rfl rfl ?_
  refine pM_aln rfl rfl rfl ?_
  refine pM_gr rfl rfl rfl rfl ?_
  refine pM_qPi (as := [.inr (.inl (some 18))]) (T := [.inl (.inl p3), .inr (.inl (some 169))]) rfl rfl (fun C hC => cl_v hC rfl rfl rfl rfl) rfl (q_World_inForce isW_18 h) (fun r3 h => ?_)
  refine pM_aln rfl rfl rfl ?_
  refine pM_gr rfl rfl rfl rfl ?_
  refine pM_gr rfl rfl rfl rfl ?_
  refine pM_iln rfl rfl ?_
  refine pM_ai rfl rfl (one_p _) ?_
  refine pM_qPi (as := [.inr (.inl (some 169)), .inl (.inl p3), .inl (.inl r3), .inl (.inl (M2.1 19 (ni p1)))]) (T := []) rfl rfl (fun C hC => cl_v hC rfl rfl rfl rfl) rfl (q_Outlook_riskyDays  h) (fun r5 h => ?_)
  exact pM_ri rfl (⟨_, rfl, h⟩)
def B_Outlook_bestStart_14 (p1 : Int32) (p2 : Int32) (Q : Int32 → MM → Prop) (N : Nat) (ih : Int32 → Int32 → Int32 → MM → Prop) (v3 : Int32) (v4 : Int32) (v5 : Int32) (M : MM) : Prop :=
  ((v5 < (M.1 24 (ni p1)) →
    W_Outlook_riskFrom p1 v5 p2 N M (fun r4 M5 =>
      ((r4 < v4 →
        ih v5 r4 (v5 + 1) M5) ∧
       (¬ r4 < v4 →
        ih v3 v4 (v5 + 1) M5)))) ∧
   (¬ v5 < (M.1 24 (ni p1)) →
    Q v3 M))
def W_Outlook_bestStart_14 (p1 : Int32) (p2 : Int32) (Q : Int32 → MM → Prop) : Nat → Int32 → Int32 → Int32 → MM → Prop
  | 0, _, _, _, _ => True
  | N + 1, v3, v4, v5, M => B_Outlook_bestStart_14 p1 p2 Q N (W_Outlook_bestStart_14 p1 p2 Q N) v3 v4 v5 M
theorem I_Outlook_bestStart_14 (p1 : Int32) (p2 : Int32) (Q : Int32 → MM → Prop) (inv : Int32 → Int32 → Int32 → MM → Prop) (hs : ∀ (N : Nat) (ih : Int32 → Int32 → Int32 → MM → Prop) (v3 : Int32) (v4 : Int32) (v5 : Int32) (M : MM), (∀ (v3 : Int32) (v4 : Int32) (v5 : Int32) (M : MM), inv v3 v4 v5 M → ih v3 v4 v5 M) → inv v3 v4 v5 M → B_Outlook_bestStart_14 p1 p2 Q N ih v3 v4 v5 M) : ∀ (N : Nat) (v3 : Int32) (v4 : Int32) (v5 : Int32) (M : MM), inv v3 v4 v5 M → W_Outlook_bestStart_14 p1 p2 Q N v3 v4 v5 M := by
  intro N
  induction N with
  | zero => intros; trivial
  | succ N IH =>
    intro v3 v4 v5 M h
    exact hs N _ v3 v4 v5 M IH h
theorem q_Outlook_bestStart_14 {X : Option (List AI)} {N0 : Nat} {p1 : Int32} {p2 : Int32} {Q : Int32 → MM → Prop}   : ∀ (N : Nat), N ≤ N0 → ∀ (v3 : Int32) (v4 : Int32) (v5 : Int32) (M : MM), W_Outlook_bestStart_14 p1 p2 Q N v3 v4 v5 M → pM X N 59 14 [(0, .inr (.inl (some 169))), (1, .inl (.inl p1)), (2, .inl (.inl p2)), (3, .inl (.inl v3)), (4, .inl (.inl v4)), (5, .inl (.inl v5))] [] M (Ri Q) := by
  intro N
  induction N with
  | zero => intros; exact pM_zero
  | succ N IH =>
    intro hN v3 v4 v5 M h
    replace hN := Nat.le_of_succ_le hN
    replace h : B_Outlook_bestStart_14 p1 p2 Q N (W_Outlook_bestStart_14 p1 p2 Q N) v3 v4 v5 M := h
    refine pM_s (pMs_il rfl rfl ?_)
    refine pM_aln rfl rfl rfl ?_
    refine pM_gr rfl rfl rfl rfl ?_
    refine pM_gr rfl rfl rfl rfl ?_
    refine pM_iln rfl rfl ?_
    refine pM_ai rfl rfl (one_p _) ?_
    refine pM_cge rfl rfl (fun h3 => ?_) (fun h3 => ?_)
    · replace h := h.2 h3
      refine pM_iln rfl rfl ?_
      exact pM_ri rfl (⟨_, rfl, h⟩)
    · replace h := h.1 h3
      refine pM_aln rfl rfl rfl ?_
      refine pM_iln rfl rfl ?_
      refine pM_il rfl rfl ?_
      refine pM_iln rfl rfl ?_
      refine pM_qRi (as := [.inr (.inl (some 169)), .inl (.inl p1), .inl (.inl v5), .inl (.inl p2)]) (T := []) rfl rfl (fun C hC => cl_v hC rfl rfl rfl rfl) rfl (q_Outlook_riskFrom  h) (fun r4 M5 h => ?_)
      refine pM_is rfl rfl ?_
      refine pM_il rfl rfl ?_
      refine pM_il rfl rfl ?_
      refine pM_cge rfl rfl (fun h6 => ?_) (fun h6 => ?_)
      · replace h := h.2 h6
        refine pM_ii rfl rfl rfl ki_1 ?_
        refine pM_go rfl rfl ?_
        refine pM_w (F2 := [(0, .inr (.inl (some 169))), (1, .inl (.inl p1)), (2, .inl (.inl p2)), (3, .inl (.inl v3)), (4, .inl (.inl v4)), (5, .inl (.inl (v5 + 1)))]) (fun L hL => lo_cons (lo_lk hL rfl) (lo_cons (lo_lk hL rfl) (lo_cons (lo_lk hL rfl) (lo_cons (lo_lk hL rfl) (lo_cons (lo_lk hL rfl) (lo_cons (lo_lk hL rfl) lo_nil)))))) ?_
        exact IH hN v3 v4 (v5 + 1) M5 h
      · replace h := h.1 h6
        refine pM_il rfl rfl ?_
        refine pM_is rfl rfl ?_
        refine pM_il rfl rfl ?_
        refine pM_isn rfl rfl ?_
        refine pM_ii rfl rfl rfl ki_1 ?_
        refine pM_go rfl rfl ?_
        refine pM_w (F2 := [(0, .inr (.inl (some 169))), (1, .inl (.inl p1)), (2, .inl (.inl p2)), (3, .inl (.inl v5)), (4, .inl (.inl r4)), (5, .inl (.inl (v5 + 1)))]) (fun L hL => lo_cons (lo_lk hL rfl) (lo_cons (lo_lk hL rfl) (lo_cons (lo_lk hL rfl) (lo_cons (lo_lk hL rfl) (lo_cons (lo_lk hL rfl) (lo_cons (lo_lk hL rfl) lo_nil)))))) ?_
        exact IH hN v5 r4 (v5 + 1) M5 h
/-- 59: EarCode$Outlook.bestStart(II)I -/
def W_Outlook_bestStart (p1 : Int32) (p2 : Int32) (N : Nat) (M : MM) (Q : Int32 → MM → Prop) : Prop :=
  W_Outlook_riskFrom p1 0 p2 N M (fun r1 M2 =>
    W_Outlook_bestStart_14 p1 p2 Q N 0 r1 1 M2)
theorem q_Outlook_bestStart {X : Option (List AI)} {N : Nat} {M : MM} {p1 : Int32} {p2 : Int32} {Q : Int32 → MM → Prop}  (h : W_Outlook_bestStart p1 p2 N M Q) : pM X N 59 0 (ea_ar 0 [.inr (.inl (some 169)), .inl (.inl p1), .inl (.inl p2)]) [] M (Ri Q) := by
  refine pM_w (F2 := [(0, .inr (.inl (some 169))), (1, .inl (.inl p1)), (2, .inl (.inl p2))]) (fun L hL => lo_cons (lo_lk hL rfl) (lo_cons (lo_lk hL rfl) (lo_cons (lo_lk hL rfl) lo_nil))) ?_
  refine pM_ic rfl ki_0 ?_
  refine pM_isn rfl rfl ?_
  refine pM_aln rfl rfl rfl ?_
  refine pM_iln rfl rfl ?_
  refine pM_ic rfl ki_0 ?_
  refine pM_iln rfl rfl ?_
  refine pM_qRi (as := [.inr (.inl (some 169)), .inl (.inl p1), .inl (.inl 0), .inl (.inl p2)]) (T := []) rfl rfl (fun C hC => cl_v hC rfl rfl rfl rfl) rfl (q_Outlook_riskFrom  h) (fun r1 M2 h => ?_)
  refine pM_is rfl rfl ?_
  refine pM_ic rfl ki_1 ?_
  refine pM_is rfl rfl ?_
  refine pM_w (F2 := [(0, .inr (.inl (some 169))), (1, .inl (.inl p1)), (2, .inl (.inl p2)), (3, .inl (.inl 0)), (4, .inl (.inl r1)), (5, .inl (.inl 1))]) (fun L hL => lo_cons (lo_lk hL rfl) (lo_cons (lo_lk hL rfl) (lo_cons (lo_lk hL rfl) (lo_cons (lo_lk hL rfl) (lo_cons (lo_lk hL rfl) (lo_cons (lo_lk hL rfl) lo_nil)))))) ?_
  refine q_Outlook_bestStart_14   N (Nat.le_refl N) 0 r1 1 M2 h
def B_Outlook_findTellingOf_40 (p1 : Int32) (p2 : Int32) (p3 : Int32) (u4 : Int32) (u5 : Int32) (Q : MM → Prop) (N : Nat) (ih : Int32 → MM → Prop) (v6 : Int32) (M : MM) : Prop :=
  ((v6 < (M.1 8 1) →
    (((V_E_bit (p3 &&& (u4 ^^^ (-1))) v6 M) = 1 →
      W_Outlook_riskyDays p2 p3 (u4 ||| (sl 1 v6)) N M (fun r7 =>
        (((M.1 169 3) = (-1) →
          ih (v6 + 1) (wi (wi M 169 3 ((100 * p1) + v6)) 169 4 (u5 - r7))) ∧
         (¬ (M.1 169 3) = (-1) →
          (((M.1 169 4) < (u5 - r7) →
            ih (v6 + 1) (wi (wi M 169 3 ((100 * p1) + v6)) 169 4 (u5 - r7))) ∧
           (¬ (M.1 169 4) < (u5 - r7) →
            ih (v6 + 1) M)))))) ∧
     (¬ (V_E_bit (p3 &&& (u4 ^^^ (-1))) v6 M) = 1 →
      ih (v6 + 1) M))) ∧
   (¬ v6 < (M.1 8 1) →
    Q M))
def W_Outlook_findTellingOf_40 (p1 : Int32) (p2 : Int32) (p3 : Int32) (u4 : Int32) (u5 : Int32) (Q : MM → Prop) : Nat → Int32 → MM → Prop
  | 0, _, _ => True
  | N + 1, v6, M => B_Outlook_findTellingOf_40 p1 p2 p3 u4 u5 Q N (W_Outlook_findTellingOf_40 p1 p2 p3 u4 u5 Q N) v6 M
theorem I_Outlook_findTellingOf_40 (p1 : Int32) (p2 : Int32) (p3 : Int32) (u4 : Int32) (u5 : Int32) (Q : MM → Prop) (inv : Int32 → MM → Prop) (hs : ∀ (N : Nat) (ih : Int32 → MM → Prop) (v6 : Int32) (M : MM), (∀ (v6 : Int32) (M : MM), inv v6 M → ih v6 M) → inv v6 M → B_Outlook_findTellingOf_40 p1 p2 p3 u4 u5 Q N ih v6 M) : ∀ (N : Nat) (v6 : Int32) (M : MM), inv v6 M → W_Outlook_findTellingOf_40 p1 p2 p3 u4 u5 Q N v6 M := by
  intro N
  induction N with
  | zero => intros; trivial
  | succ N IH =>
    intro v6 M h
    exact hs N _ v6 M IH h
theorem q_Outlook_findTellingOf_40 {X : Option (List AI)} {N0 : Nat} {p1 : Int32} {p2 : Int32} {p3 : Int32} {u4 : Int32} {u5 : Int32} {Q : MM → Prop}   : ∀ (N : Nat), N ≤ N0 → ∀ (v6 : Int32) (M : MM), W_Outlook_findTellingOf_40 p1 p2 p3 u4 u5 Q N v6 M → pM X N 61 40 [(0, .inr (.inl (some 169))), (1, .inl (.inl p1)), (2, .inl (.inl p2)), (3, .inl (.inl p3)), (4, .inl (.inl u4)), (5, .inl (.inl u5)), (6, .inl (.inl v6))] [] M (Ru Q) := by
  intro N
  induction N with
  | zero => intros; exact pM_zero
  | succ N IH =>
    intro hN v6 M h
    replace hN := Nat.le_of_succ_le hN
    replace h : B_Outlook_findTellingOf_40 p1 p2 p3 u4 u5 Q N (W_Outlook_findTellingOf_40 p1 p2 p3 u4 u5 Q N) v6 M := h
    refine pM_s (pMs_il rfl rfl ?_)
    refine pM_aln rfl rfl rfl ?_
    refine pM_gr rfl rfl rfl rfl ?_
    refine pM_gi rfl rfl rfl rfl ?_
    refine pM_cge rfl rfl (fun h5 => ?_) (fun h5 => ?_)
    · replace h := h.2 h5
      exact pM_ru rfl (⟨rfl, h⟩)
    · replace h := h.1 h5
      refine pM_iln rfl rfl ?_
      refine pM_il rfl rfl ?_
      refine pM_ic rfl ki_m1 ?_
      refine pM_xor rfl ?_
      refine pM_and rfl ?_
      refine pM_il rfl rfl ?_
      refine pM_qVi (as := [.inl (.inl (p3 &&& (u4 ^^^ (-1)))), .inl (.inl v6)]) (T := []) rfl rfl (fun _ _ => rfl) rfl (q_E_bit ) ?_
      refine pM_ic rfl ki_1 ?_
      refine pM_cne rfl rfl (fun h6 => ?_) (fun h6 => ?_)
      · replace h := h.2 h6
        refine pM_ii rfl rfl rfl ki_1 ?_
        refine pM_go rfl rfl ?_
        refine pM_w (F2 := [(0, .inr (.inl (some 169))), (1, .inl (.inl p1)), (2, .inl (.inl p2)), (3, .inl (.inl p3)), (4, .inl (.inl u4)), (5, .inl (.inl u5)), (6, .inl (.inl (v6 + 1)))]) (fun L hL => lo_cons (lo_lk hL rfl) (lo_cons (lo_lk hL rfl) (lo_cons (lo_lk hL rfl) (lo_cons (lo_lk hL rfl) (lo_cons (lo_lk hL rfl) (lo_cons (lo_lk hL rfl) (lo_cons (lo_lk hL rfl) lo_nil))))))) ?_
        exact IH hN (v6 + 1) M h
      · replace h := h.1 h6
        refine pM_il rfl rfl ?_
        refine pM_aln rfl rfl rfl ?_
        refine pM_iln rfl rfl ?_
        refine pM_iln rfl rfl ?_
        refine pM_il rfl rfl ?_
        refine pM_ic rfl ki_1 ?_
        refine pM_il rfl rfl ?_
        refine pM_shl rfl ?_
        refine pM_or rfl ?_
        refine pM_qPi (as := [.inr (.inl (some 169)), .inl (.inl p2), .inl (.inl p3), .inl (.inl (u4 ||| (sl 1 v6)))]) (T := [.inl (.inl u5)]) rfl rfl (fun C hC => cl_v hC rfl rfl rfl rfl) rfl (q_Outlook_riskyDays  h) (fun r7 h => ?_)
        refine pM_sub rfl ?_
        refine pM_is rfl rfl ?_
        refine pM_aln rfl rfl rfl ?_
        refine pM_gi rfl rfl rfl rfl ?_
        refine pM_ic rfl ki_m1 ?_
        refine pM_ceq rfl rfl (fun h9 => ?_) (fun h9 => ?_)
        · replace h := h.1 h9
          refine pM_aln rfl rfl rfl ?_
          refine pM_bi rfl kb_100 ?_
          refine pM_iln rfl rfl ?_
          refine pM_mul rfl ?_
          refine pM_il rfl rfl ?_
          refine pM_add rfl ?_
          refine pM_pi rfl rfl rfl rfl ?_
          refine pM_aln rfl rfl rfl ?_
          refine pM_il rfl rfl ?_
          refine pM_pi rfl rfl rfl rfl ?_
          refine pM_ii rfl rfl rfl ki_1 ?_
          refine pM_go rfl rfl ?_
          refine pM_w (F2 := [(0, .inr (.inl (some 169))), (1, .inl (.inl p1)), (2, .inl (.inl p2)), (3, .inl (.inl p3)), (4, .inl (.inl u4)), (5, .inl (.inl u5)), (6, .inl (.inl (v6 + 1)))]) (fun L hL => lo_cons (lo_lk hL rfl) (lo_cons (lo_lk hL rfl) (lo_cons (lo_lk hL rfl) (lo_cons (lo_lk hL rfl) (lo_cons (lo_lk hL rfl) (lo_cons (lo_lk hL rfl) (lo_cons (lo_lk hL rfl) lo_nil))))))) ?_
          exact IH hN (v6 + 1) (wi (wi M 169 3 ((100 * p1) + v6)) 169 4 (u5 - r7)) h
        · replace h := h.2 h9
          refine pM_il rfl rfl ?_
          refine pM_aln rfl rfl rfl ?_
          refine pM_gi rfl rfl rfl rfl ?_
          refine pM_cle rfl rfl (fun h10 => ?_) (fun h10 => ?_)
          · replace h := h.2 h10
            refine pM_ii rfl rfl rfl ki_1 ?_
            refine pM_go rfl rfl ?_
            refine pM_w (F2 := [(0, .inr (.inl (some 169))), (1, .inl (.inl p1)), (2, .inl (.inl p2)), (3, .inl (.inl p3)), (4, .inl (.inl u4)), (5, .inl (.inl u5)), (6, .inl (.inl (v6 + 1)))]) (fun L hL => lo_cons (lo_lk hL rfl) (lo_cons (lo_lk hL rfl) (lo_cons (lo_lk hL rfl) (lo_cons (lo_lk hL rfl) (lo_cons (lo_lk hL rfl) (lo_cons (lo_lk hL rfl) (lo_cons (lo_lk hL rfl) lo_nil))))))) ?_
            exact IH hN (v6 + 1) M h
          · replace h := h.1 h10
            refine pM_aln rfl rfl rfl ?_
            refine pM_bi rfl kb_100 ?_
            refine pM_iln rfl rfl ?_
            refine pM_mul rfl ?_
            refine pM_il rfl rfl ?_
            refine pM_add rfl ?_
            refine pM_pi rfl rfl rfl rfl ?_
            refine pM_aln rfl rfl rfl ?_
            refine pM_il rfl rfl ?_
            refine pM_pi rfl rfl rfl rfl ?_
            refine pM_ii rfl rfl rfl ki_1 ?_
            refine pM_go rfl rfl ?_
            refine pM_w (F2 := [(0, .inr (.inl (some 169))), (1, .inl (.inl p1)), (2, .inl (.inl p2)), (3, .inl (.inl p3)), (4, .inl (.inl u4)), (5, .inl (.inl u5)), (6, .inl (.inl (v6 + 1)))]) (fun L hL => lo_cons (lo_lk hL rfl) (lo_cons (lo_lk hL rfl) (lo_cons (lo_lk hL rfl) (lo_cons (lo_lk hL rfl) (lo_cons (lo_lk hL rfl) (lo_cons (lo_lk hL rfl) (lo_cons (lo_lk hL rfl) lo_nil))))))) ?_
            exact IH hN (v6 + 1) (wi (wi M 169 3 ((100 * p1) + v6)) 169 4 (u5 - r7)) h
/-- 61: EarCode$Outlook.findTellingOf(III)V -/
def W_Outlook_findTellingOf (p1 : Int32) (p2 : Int32) (p3 : Int32) (N : Nat) (M : MM) (Q : MM → Prop) : Prop :=
  W_Outlook_riskFrom p1 0 p2 N M (fun r1 M2 =>
    W_Outlook_foresee p1 0 ((V_World_knownBy 18 p1 M2) + 1) p2 N M2 (fun M4 =>
      W_Outlook_findTellingOf_40 p1 p2 p3 (M.1 19 (ni p1)) r1 Q N 0 M4))
theorem q_Outlook_findTellingOf {X : Option (List AI)} {N : Nat} {M : MM} {p1 : Int32} {p2 : Int32} {p3 : Int32} {Q : MM → Prop}  (h : W_Outlook_findTellingOf p1 p2 p3 N M Q) : pM X N 61 0 (ea_ar 0 [.inr (.inl (some 169)), .inl (.inl p1), .inl (.inl p2), .inl (.inl p3)]) [] M (Ru Q) := by
  refine pM_w (F2 := [(0, .inr (.inl (some 169))), (1, .inl (.inl p1)), (2, .inl (.inl p2)), (3, .inl (.inl p3))]) (fun L hL => lo_cons (lo_lk hL rfl) (lo_cons (lo_lk hL rfl) (lo_cons (lo_lk hL rfl) (lo_cons (lo_lk hL rfl) lo_nil)))) ?_
  refine pM_aln rfl rfl rfl ?_
  refine pM_gr rfl rfl rfl rfl ?_
  refine pM_gr rfl rfl rfl rfl ?_
  refine pM_iln rfl rfl ?_
  refine pM_ai rfl rfl (one_p _) ?_
  refine pM_is rfl rfl ?_
  refine pM_aln rfl rfl rfl ?_
  refine pM_iln rfl rfl ?_
  refine pM_ic rfl ki_0 ?_
  refine pM_iln rfl rfl ?_
  refine pM_qRi (as := [.inr (.inl (some 169)), .inl (.inl p1), .inl (.inl 0), .inl (.inl p2)]) (T := []) rfl rfl (fun C hC => cl_v hC rfl rfl rfl rfl) rfl (q_Outlook_riskFrom  h) (fun r1 M2 h => ?_)
  refine pM_is rfl rfl ?_
  refine pM_aln rfl rfl rfl ?_
  refine pM_iln rfl rfl ?_
  refine pM_ic rfl ki_0 ?_
  refine pM_aln rfl rfl rfl ?_
  refine pM_gr rfl rfl rfl rfl ?_
  refine pM_iln rfl rfl ?_
  refine pM_qVi (as := [.inr (.inl (some 18)), .inl (.inl p1)]) (T := [.inl (.inl 0), .inl (.inl p1), .inr (.inl (some 169))]) rfl rfl (fun C hC => cl_v hC rfl rfl rfl rfl) rfl (q_World_knownBy isW_18) ?_
  refine pM_ic rfl ki_1 ?_
  refine pM_add rfl ?_
  refine pM_iln rfl rfl ?_
  refine pM_qRu (as := [.inr (.inl (some 169)), .inl (.inl p1), .inl (.inl 0), .inl (.inl ((V_World_knownBy 18 p1 M2) + 1)), .inl (.inl p2)]) (T := []) rfl rfl (fun C hC => cl_v hC rfl rfl rfl rfl) rfl (q_Outlook_foresee  h) (fun M4 h => ?_)
  refine pM_ic rfl ki_0 ?_
  refine pM_is rfl rfl ?_
  refine pM_w (F2 := [(0, .inr (.inl (some 169))), (1, .inl (.inl p1)), (2, .inl (.inl p2)), (3, .inl (.inl p3)), (4, .inl (.inl (M.1 19 (ni p1)))), (5, .inl (.inl r1)), (6, .inl (.inl 0))]) (fun L hL => lo_cons (lo_lk hL rfl) (lo_cons (lo_lk hL rfl) (lo_cons (lo_lk hL rfl) (lo_cons (lo_lk hL rfl) (lo_cons (lo_lk hL rfl) (lo_cons (lo_lk hL rfl) (lo_cons (lo_lk hL rfl) lo_nil))))))) ?_
  refine q_Outlook_findTellingOf_40   N (Nat.le_refl N) 0 M4 h
def B_Outlook_findTelling_20 (p1 : Int32) (u2 : Int32) (Q : MM → Prop) (N : Nat) (ih : Int32 → MM → Prop) (v3 : Int32) (M : MM) : Prop :=
  ((v3 < (M.1 18 0) →
    (((V_World_isAlive 18 v3 M) = 0 →
      ih (v3 + 1) M) ∧
     (¬ (V_World_isAlive 18 v3 M) = 0 →
      W_Outlook_findTellingOf v3 p1 u2 N M (fun M6 =>
        ih (v3 + 1) M6)))) ∧
   (¬ v3 < (M.1 18 0) →
    Q M))
def W_Outlook_findTelling_20 (p1 : Int32) (u2 : Int32) (Q : MM → Prop) : Nat → Int32 → MM → Prop
  | 0, _, _ => True
  | N + 1, v3, M => B_Outlook_findTelling_20 p1 u2 Q N (W_Outlook_findTelling_20 p1 u2 Q N) v3 M
theorem I_Outlook_findTelling_20 (p1 : Int32) (u2 : Int32) (Q : MM → Prop) (inv : Int32 → MM → Prop) (hs : ∀ (N : Nat) (ih : Int32 → MM → Prop) (v3 : Int32) (M : MM), (∀ (v3 : Int32) (M : MM), inv v3 M → ih v3 M) → inv v3 M → B_Outlook_findTelling_20 p1 u2 Q N ih v3 M) : ∀ (N : Nat) (v3 : Int32) (M : MM), inv v3 M → W_Outlook_findTelling_20 p1 u2 Q N v3 M := by
  intro N
  induction N with
  | zero => intros; trivial
  | succ N IH =>
    intro v3 M h
    exact hs N _ v3 M IH h
theorem q_Outlook_findTelling_20 {X : Option (List AI)} {N0 : Nat} {p1 : Int32} {u2 : Int32} {Q : MM → Prop}   : ∀ (N : Nat), N ≤ N0 → ∀ (v3 : Int32) (M : MM), W_Outlook_findTelling_20 p1 u2 Q N v3 M → pM X N 60 20 [(0, .inr (.inl (some 169))), (1, .inl (.inl p1)), (2, .inl (.inl u2)), (3, .inl (.inl v3))] [] M (Ru Q) := by
  intro N
  induction N with
  | zero => intros; exact pM_zero
  | succ N IH =>
    intro hN v3 M h
    replace hN := Nat.le_of_succ_le hN
    replace h : B_Outlook_findTelling_20 p1 u2 Q N (W_Outlook_findTelling_20 p1 u2 Q N) v3 M := h
    refine pM_s (pMs_iln rfl rfl ?_)
    refine pM_aln rfl rfl rfl ?_
    refine pM_gr rfl rfl rfl rfl ?_
    refine pM_gi rfl rfl rfl rfl ?_
    refine pM_cge rfl rfl (fun h3 => ?_) (fun h3 => ?_)
    · replace h := h.2 h3
      exact pM_ru rfl (⟨rfl, h⟩)
    · replace h := h.1 h3
      refine pM_aln rfl rfl rfl ?_
      refine pM_gr rfl rfl rfl rfl ?_
      refine pM_iln rfl rfl ?_
      refine pM_qVi (as := [.inr (.inl (some 18)), .inl (.inl v3)]) (T := []) rfl rfl (fun C hC => cl_v hC rfl rfl rfl rfl) rfl (q_World_isAlive isW_18) ?_
      refine pM_zeq rfl rfl (fun h4 => ?_) (fun h4 => ?_)
      · replace h := h.1 h4
        refine pM_ii rfl rfl rfl ki_1 ?_
        refine pM_go rfl rfl ?_
        refine pM_w (F2 := [(0, .inr (.inl (some 169))), (1, .inl (.inl p1)), (2, .inl (.inl u2)), (3, .inl (.inl (v3 + 1)))]) (fun L hL => lo_cons (lo_lk hL rfl) (lo_cons (lo_lk hL rfl) (lo_cons (lo_lk hL rfl) (lo_cons (lo_lk hL rfl) lo_nil)))) ?_
        exact IH hN (v3 + 1) M h
      · replace h := h.2 h4
        refine pM_aln rfl rfl rfl ?_
        refine pM_iln rfl rfl ?_
        refine pM_iln rfl rfl ?_
        refine pM_iln rfl rfl ?_
        refine pM_qRu (as := [.inr (.inl (some 169)), .inl (.inl v3), .inl (.inl p1), .inl (.inl u2)]) (T := []) rfl rfl (fun C hC => cl_v hC rfl rfl rfl rfl) rfl (q_Outlook_findTellingOf  h) (fun M6 h => ?_)
        refine pM_ii rfl rfl rfl ki_1 ?_
        refine pM_go rfl rfl ?_
        refine pM_w (F2 := [(0, .inr (.inl (some 169))), (1, .inl (.inl p1)), (2, .inl (.inl u2)), (3, .inl (.inl (v3 + 1)))]) (fun L hL => lo_cons (lo_lk hL rfl) (lo_cons (lo_lk hL rfl) (lo_cons (lo_lk hL rfl) (lo_cons (lo_lk hL rfl) lo_nil)))) ?_
        exact IH hN (v3 + 1) M6 h
/-- 60: EarCode$Outlook.findTelling(I)V -/
def W_Outlook_findTelling (p1 : Int32) (N : Nat) (M : MM) (Q : MM → Prop) : Prop :=
  W_World_inForce 18 N (wi (wi M 169 3 (-1)) 169 4 0) (fun r1 =>
    W_Outlook_findTelling_20 p1 r1 Q N 0 (wi (wi M 169 3 (-1)) 169 4 0))
theorem q_Outlook_findTelling {X : Option (List AI)} {N : Nat} {M : MM} {p1 : Int32} {Q : MM → Prop}  (h : W_Outlook_findTelling p1 N M Q) : pM X N 60 0 (ea_ar 0 [.inr (.inl (some 169)), .inl (.inl p1)]) [] M (Ru Q) := by
  refine pM_w (F2 := [(0, .inr (.inl (some 169))), (1, .inl (.inl p1))]) (fun L hL => lo_cons (lo_lk hL rfl) (lo_cons (lo_lk hL rfl) lo_nil)) ?_
  refine pM_aln rfl rfl rfl ?_
  refine pM_ic rfl ki_m1 ?_
  refine pM_pi rfl rfl rfl rfl ?_
  refine pM_aln rfl rfl rfl ?_
  refine pM_ic rfl ki_0 ?_
  refine pM_pi rfl rfl rfl rfl ?_
  refine pM_aln rfl rfl rfl ?_
  refine pM_gr rfl rfl rfl rfl ?_
  refine pM_qPi (as := [.inr (.inl (some 18))]) (T := []) rfl rfl (fun C hC => cl_v hC rfl rfl rfl rfl) rfl (q_World_inForce isW_18 h) (fun r1 h => ?_)
  refine pM_isn rfl rfl ?_
  refine pM_ic rfl ki_0 ?_
  refine pM_isn rfl rfl ?_
  refine pM_w (F2 := [(0, .inr (.inl (some 169))), (1, .inl (.inl p1)), (2, .inl (.inl r1)), (3, .inl (.inl 0))]) (fun L hL => lo_cons (lo_lk hL rfl) (lo_cons (lo_lk hL rfl) (lo_cons (lo_lk hL rfl) (lo_cons (lo_lk hL rfl) lo_nil)))) ?_
  refine q_Outlook_findTelling_20   N (Nat.le_refl N) 0 (wi (wi M 169 3 (-1)) 169 4 0) h
def B_Reading_addNeed_2 (p1 : Int32) (M : MM) (k27 : Prop) (Q : MM → Prop) (N : Nat) (ih : Int32 → Prop) (v2 : Int32) : Prop :=
  ((v2 < (M.1 166 3) →
    (((M.1 167 (ni v2)) = p1 →
      Q M) ∧
     (¬ (M.1 167 (ni v2)) = p1 →
      ih (v2 + 1)))) ∧
   (¬ v2 < (M.1 166 3) →
    k27))
def W_Reading_addNeed_2 (p1 : Int32) (M : MM) (k27 : Prop) (Q : MM → Prop) : Nat → Int32 → Prop
  | 0, _ => True
  | N + 1, v2 => B_Reading_addNeed_2 p1 M k27 Q N (W_Reading_addNeed_2 p1 M k27 Q N) v2
theorem I_Reading_addNeed_2 (p1 : Int32) (M : MM) (k27 : Prop) (Q : MM → Prop) (inv : Int32 → Prop) (hs : ∀ (N : Nat) (ih : Int32 → Prop) (v2 : Int32), (∀ (v2 : Int32), inv v2 → ih v2) → inv v2 → B_Reading_addNeed_2 p1 M k27 Q N ih v2) : ∀ (N : Nat) (v2 : Int32), inv v2 → W_Reading_addNeed_2 p1 M k27 Q N v2 := by
  intro N
  induction N with
  | zero => intros; trivial
  | succ N IH =>
    intro v2 h
    exact hs N _ v2 IH h
theorem q_Reading_addNeed_2 {X : Option (List AI)} {N0 : Nat} {p1 : Int32} {M : MM} {k27 : Prop} {Q : MM → Prop}  (hk27 : k27 → pM X N0 65 27 [(0, .inr (.inl (some 166))), (1, .inl (.inl p1))] [] M (Ru Q)) : ∀ (N : Nat), N ≤ N0 → ∀ (v2 : Int32), W_Reading_addNeed_2 p1 M k27 Q N v2 → pM X N 65 2 [(0, .inr (.inl (some 166))), (1, .inl (.inl p1)), (2, .inl (.inl v2))] [] M (Ru Q) := by
  intro N
  induction N with
  | zero => intros; exact pM_zero
  | succ N IH =>
    intro hN v2 h
    replace hN := Nat.le_of_succ_le hN
    replace h : B_Reading_addNeed_2 p1 M k27 Q N (W_Reading_addNeed_2 p1 M k27 Q N) v2 := h
    refine pM_s (pMs_iln rfl rfl ?_)
    refine pM_aln rfl rfl rfl ?_
    refine pM_gi rfl rfl rfl rfl ?_
    refine pM_cge rfl rfl (fun h1 => ?_) (fun h1 => ?_)
    · replace h := h.2 h1
      refine pM_w (F2 := [(0, .inr (.inl (some 166))), (1, .inl (.inl p1))]) (fun L hL => lo_cons (lo_lk hL rfl) (lo_cons (lo_lk hL rfl) lo_nil)) ?_
      exact pM_le hN (hk27 h)
    · replace h := h.1 h1
      refine pM_aln rfl rfl rfl ?_
      refine pM_gr rfl rfl rfl rfl ?_
      refine pM_iln rfl rfl ?_
      refine pM_ai rfl rfl (one_p _) ?_
      refine pM_iln rfl rfl ?_
      refine pM_cne rfl rfl (fun h2 => ?_) (fun h2 => ?_)
      · replace h := h.2 h2
        refine pM_ii rfl rfl rfl ki_1 ?_
        refine pM_go rfl rfl ?_
        refine pM_w (F2 := [(0, .inr (.inl (some 166))), (1, .inl (.inl p1)), (2, .inl (.inl (v2 + 1)))]) (fun L hL => lo_cons (lo_lk hL rfl) (lo_cons (lo_lk hL rfl) (lo_cons (lo_lk hL rfl) lo_nil))) ?_
        exact IH hN (v2 + 1) h
      · replace h := h.1 h2
        exact pM_ru rfl (⟨rfl, h⟩)
/-- 65: EarCode$Reading.addNeed(I)V -/
def W_Reading_addNeed (p1 : Int32) (N : Nat) (M : MM) (Q : MM → Prop) : Prop :=
  W_Reading_addNeed_2 p1 M (((M.1 166 3) < 133 →
    Q (wi (wi M 167 (ni (M.1 166 3)) p1) 166 3 (((wi M 167 (ni (M.1 166 3)) p1).1 166 3) + 1))) ∧
   (¬ (M.1 166 3) < 133 →
    Q M)) Q N 0
theorem q_Reading_addNeed {X : Option (List AI)} {N : Nat} {M : MM} {p1 : Int32} {Q : MM → Prop}  (h : W_Reading_addNeed p1 N M Q) : pM X N 65 0 (ea_ar 0 [.inr (.inl (some 166)), .inl (.inl p1)]) [] M (Ru Q) := by
  refine pM_w (F2 := [(0, .inr (.inl (some 166))), (1, .inl (.inl p1))]) (fun L hL => lo_cons (lo_lk hL rfl) (lo_cons (lo_lk hL rfl) lo_nil)) ?_
  refine pM_ic rfl ki_0 ?_
  refine pM_isn rfl rfl ?_
  refine pM_w (F2 := [(0, .inr (.inl (some 166))), (1, .inl (.inl p1)), (2, .inl (.inl 0))]) (fun L hL => lo_cons (lo_lk hL rfl) (lo_cons (lo_lk hL rfl) (lo_cons (lo_lk hL rfl) lo_nil))) ?_
  refine q_Reading_addNeed_2  (fun h => ?_) N (Nat.le_refl N) 0 h
  · refine pM_aln rfl rfl rfl ?_
    refine pM_gi rfl rfl rfl rfl ?_
    refine pM_aln rfl rfl rfl ?_
    refine pM_gr rfl rfl rfl rfl ?_
    refine pM_len rfl rfl kn_133 ?_
    refine pM_cge rfl rfl (fun h3 => ?_) (fun h3 => ?_)
    · replace h := h.2 h3
      exact pM_ru rfl (⟨rfl, h⟩)
    · replace h := h.1 h3
      refine pM_aln rfl rfl rfl ?_
      refine pM_gr rfl rfl rfl rfl ?_
      refine pM_aln rfl rfl rfl ?_
      refine pM_gi rfl rfl rfl rfl ?_
      refine pM_iln rfl rfl ?_
      refine pM_sa rfl rfl (one_p _) ?_
      refine pM_aln rfl rfl rfl ?_
      refine pM_p (pc' := 51) (S' := [.inr (.inl (some 166)), .inr (.inl (some 166))]) rfl rfl (fun _ => rfl) ?_
      refine pM_gi rfl rfl rfl rfl ?_
      refine pM_ic rfl ki_1 ?_
      refine pM_add rfl ?_
      refine pM_pi rfl rfl rfl rfl ?_
      exact pM_ru rfl (⟨rfl, h⟩)
/-- 64: EarCode$Reading.takeRow(III)Z -/
def W_Reading_takeRow (p1 : Int32) (p2 : Int32) (p3 : Int32) (N : Nat) (M : MM) (Q : Int32 → MM → Prop) : Prop :=
  ((p1 < (M.1 18 0) →
    (((V_World_isAlive 18 p1 M) = 0 →
      Q 0 M) ∧
     (¬ (V_World_isAlive 18 p1 M) = 0 →
      ((p2 < 64 →
        ((1 < p3 →
          Q 0 M) ∧
         (¬ 1 < p3 →
          W_Law_bearing 8 0 p2 p1 (V_World_knownBy 18 p1 M) (M.1 18 13) N M (fun r5 =>
            ((p3 = 0 →
              Q 1 (wi M 166 4 ((M.1 166 4) ||| r5))) ∧
             (¬ p3 = 0 →
              W_Reading_addNeed r5 N M (fun M9 =>
                Q 1 M9))))))) ∧
       (¬ p2 < 64 →
        Q 0 M))))) ∧
   (¬ p1 < (M.1 18 0) →
    Q 0 M))
theorem q_Reading_takeRow {X : Option (List AI)} {N : Nat} {M : MM} {p1 : Int32} {p2 : Int32} {p3 : Int32} {Q : Int32 → MM → Prop}  (h : W_Reading_takeRow p1 p2 p3 N M Q) : pM X N 64 0 (ea_ar 0 [.inr (.inl (some 166)), .inl (.inl p1), .inl (.inl p2), .inl (.inl p3)]) [] M (Ri Q) := by
  refine pM_w (F2 := [(0, .inr (.inl (some 166))), (1, .inl (.inl p1)), (2, .inl (.inl p2)), (3, .inl (.inl p3))]) (fun L hL => lo_cons (lo_lk hL rfl) (lo_cons (lo_lk hL rfl) (lo_cons (lo_lk hL rfl) (lo_cons (lo_lk hL rfl) lo_nil)))) ?_
  refine pM_iln rfl rfl ?_
  refine pM_aln rfl rfl rfl ?_
  refine pM_gr rfl rfl rfl rfl ?_
  refine pM_gi rfl rfl rfl rfl ?_
  refine pM_cge rfl rfl (fun h1 => ?_) (fun h1 => ?_)
  · replace h := h.2 h1
    refine pM_ic rfl ki_0 ?_
    exact pM_ri rfl (⟨_, rfl, h⟩)
  · replace h := h.1 h1
    refine pM_aln rfl rfl rfl ?_
    refine pM_gr rfl rfl rfl rfl ?_
    refine pM_iln rfl rfl ?_
    refine pM_qVi (as := [.inr (.inl (some 18)), .inl (.inl p1)]) (T := []) rfl rfl (fun C hC => cl_v hC rfl rfl rfl rfl) rfl (q_World_isAlive isW_18) ?_
    refine pM_zeq rfl rfl (fun h2 => ?_) (fun h2 => ?_)
    · replace h := h.1 h2
      refine pM_ic rfl ki_0 ?_
      exact pM_ri rfl (⟨_, rfl, h⟩)
    · replace h := h.2 h2
      refine pM_iln rfl rfl ?_
      refine pM_bi rfl kb_64 ?_
      refine pM_cge rfl rfl (fun h3 => ?_) (fun h3 => ?_)
      · replace h := h.2 h3
        refine pM_ic rfl ki_0 ?_
        exact pM_ri rfl (⟨_, rfl, h⟩)
      · replace h := h.1 h3
        refine pM_iln rfl rfl ?_
        refine pM_ic rfl ki_1 ?_
        refine pM_cle rfl rfl (fun h4 => ?_) (fun h4 => ?_)
        · replace h := h.2 h4
          refine pM_aln rfl rfl rfl ?_
          refine pM_gr rfl rfl rfl rfl ?_
          refine pM_ic rfl ki_0 ?_
          refine pM_iln rfl rfl ?_
          refine pM_iln rfl rfl ?_
          refine pM_aln rfl rfl rfl ?_
          refine pM_gr rfl rfl rfl rfl ?_
          refine pM_iln rfl rfl ?_
          refine pM_qVi (as := [.inr (.inl (some 18)), .inl (.inl p1)]) (T := [.inl (.inl p1), .inl (.inl p2), .inl (.inl 0), .inr (.inl (some 8))]) rfl rfl (fun C hC => cl_v hC rfl rfl rfl rfl) rfl (q_World_knownBy isW_18) ?_
          refine pM_aln rfl rfl rfl ?_
          refine pM_gr rfl rfl rfl rfl ?_
          refine pM_gi rfl rfl rfl rfl ?_
          refine pM_qPi (as := [.inr (.inl (some 8)), .inl (.inl 0), .inl (.inl p2), .inl (.inl p1), .inl (.inl (V_World_knownBy 18 p1 M)), .inl (.inl (M.1 18 13))]) (T := []) rfl rfl (fun C hC => cl_v hC rfl rfl rfl rfl) rfl (q_Law_bearing isK_8 h) (fun r5 h => ?_)
          refine pM_is rfl rfl ?_
          refine pM_iln rfl rfl ?_
          refine pM_zne rfl rfl (fun h7 => ?_) (fun h7 => ?_)
          · replace h := h.2 h7
            refine pM_aln rfl rfl rfl ?_
            refine pM_il rfl rfl ?_
            refine pM_qRu (as := [.inr (.inl (some 166)), .inl (.inl r5)]) (T := []) rfl rfl (fun C hC => cl_v hC rfl rfl rfl rfl) rfl (q_Reading_addNeed  h) (fun M9 h => ?_)
            refine pM_ic rfl ki_1 ?_
            exact pM_ri rfl (⟨_, rfl, h⟩)
          · replace h := h.1 h7
            refine pM_aln rfl rfl rfl ?_
            refine pM_p (pc' := 68) (S' := [.inr (.inl (some 166)), .inr (.inl (some 166))]) rfl rfl (fun _ => rfl) ?_
            refine pM_gi rfl rfl rfl rfl ?_
            refine pM_il rfl rfl ?_
            refine pM_or rfl ?_
            refine pM_pi rfl rfl rfl rfl ?_
            refine pM_go rfl rfl ?_
            refine pM_ic rfl ki_1 ?_
            exact pM_ri rfl (⟨_, rfl, h⟩)
        · replace h := h.1 h4
          refine pM_ic rfl ki_0 ?_
          exact pM_ri rfl (⟨_, rfl, h⟩)
def B_Reading_takeRows_12 (Q : Int32 → MM → Prop) (N : Nat) (ih : Int32 → MM → Prop) (v2 : Int32) (M : MM) : Prop :=
  ((v2 < (M.1 1 1) →
    (((M.1 1 1) < (v2 + 3) →
      Q 0 M) ∧
     (¬ (M.1 1 1) < (v2 + 3) →
      W_Reading_takeRow (M.1 2 (ni v2)) (M.1 2 (ni (v2 + 1))) (M.1 2 (ni (v2 + 2))) N M (fun r3 M4 =>
        ((r3 = 0 →
          Q 0 M4) ∧
         (¬ r3 = 0 →
          ih (v2 + 3) M4)))))) ∧
   (¬ v2 < (M.1 1 1) →
    Q 1 M))
def W_Reading_takeRows_12 (Q : Int32 → MM → Prop) : Nat → Int32 → MM → Prop
  | 0, _, _ => True
  | N + 1, v2, M => B_Reading_takeRows_12 Q N (W_Reading_takeRows_12 Q N) v2 M
theorem I_Reading_takeRows_12 (Q : Int32 → MM → Prop) (inv : Int32 → MM → Prop) (hs : ∀ (N : Nat) (ih : Int32 → MM → Prop) (v2 : Int32) (M : MM), (∀ (v2 : Int32) (M : MM), inv v2 M → ih v2 M) → inv v2 M → B_Reading_takeRows_12 Q N ih v2 M) : ∀ (N : Nat) (v2 : Int32) (M : MM), inv v2 M → W_Reading_takeRows_12 Q N v2 M := by
  intro N
  induction N with
  | zero => intros; trivial
  | succ N IH =>
    intro v2 M h
    exact hs N _ v2 M IH h
theorem q_Reading_takeRows_12 {X : Option (List AI)} {N0 : Nat} {Q : Int32 → MM → Prop}   : ∀ (N : Nat), N ≤ N0 → ∀ (v2 : Int32) (M : MM), W_Reading_takeRows_12 Q N v2 M → pM X N 63 12 [(0, .inr (.inl (some 166))), (1, .inr (.inl (some 1))), (2, .inl (.inl v2))] [] M (Ri Q) := by
  intro N
  induction N with
  | zero => intros; exact pM_zero
  | succ N IH =>
    intro hN v2 M h
    replace hN := Nat.le_of_succ_le hN
    replace h : B_Reading_takeRows_12 Q N (W_Reading_takeRows_12 Q N) v2 M := h
    refine pM_s (pMs_iln rfl rfl ?_)
    refine pM_aln rfl rfl rfl ?_
    refine pM_gi rfl rfl rfl rfl ?_
    refine pM_cge rfl rfl (fun h1 => ?_) (fun h1 => ?_)
    · replace h := h.2 h1
      refine pM_ic rfl ki_1 ?_
      exact pM_ri rfl (⟨_, rfl, h⟩)
    · replace h := h.1 h1
      refine pM_iln rfl rfl ?_
      refine pM_ic rfl ki_3 ?_
      refine pM_add rfl ?_
      refine pM_aln rfl rfl rfl ?_
      refine pM_gi rfl rfl rfl rfl ?_
      refine pM_cgt rfl rfl (fun h2 => ?_) (fun h2 => ?_)
      · replace h := h.1 h2
        refine pM_ic rfl ki_0 ?_
        exact pM_ri rfl (⟨_, rfl, h⟩)
      · replace h := h.2 h2
        refine pM_aln rfl rfl rfl ?_
        refine pM_aln rfl rfl rfl ?_
        refine pM_gr rfl rfl rfl rfl ?_
        refine pM_iln rfl rfl ?_
        refine pM_ai rfl rfl (one_p _) ?_
        refine pM_aln rfl rfl rfl ?_
        refine pM_gr rfl rfl rfl rfl ?_
        refine pM_iln rfl rfl ?_
        refine pM_ic rfl ki_1 ?_
        refine pM_add rfl ?_
        refine pM_ai rfl rfl (one_p _) ?_
        refine pM_aln rfl rfl rfl ?_
        refine pM_gr rfl rfl rfl rfl ?_
        refine pM_iln rfl rfl ?_
        refine pM_ic rfl ki_2 ?_
        refine pM_add rfl ?_
        refine pM_ai rfl rfl (one_p _) ?_
        refine pM_qRi (as := [.inr (.inl (some 166)), .inl (.inl (M.1 2 (ni v2))), .inl (.inl (M.1 2 (ni (v2 + 1)))), .inl (.inl (M.1 2 (ni (v2 + 2))))]) (T := []) rfl rfl (fun C hC => cl_v hC rfl rfl rfl rfl) rfl (q_Reading_takeRow  h) (fun r3 M4 h => ?_)
        refine pM_zne rfl rfl (fun h5 => ?_) (fun h5 => ?_)
        · replace h := h.2 h5
          refine pM_ii rfl rfl rfl ki_3 ?_
          refine pM_go rfl rfl ?_
          refine pM_w (F2 := [(0, .inr (.inl (some 166))), (1, .inr (.inl (some 1))), (2, .inl (.inl (v2 + 3)))]) (fun L hL => lo_cons (lo_lk hL rfl) (lo_cons (lo_lk hL rfl) (lo_cons (lo_lk hL rfl) lo_nil))) ?_
          exact IH hN (v2 + 3) M4 h
        · replace h := h.1 h5
          refine pM_ic rfl ki_0 ?_
          exact pM_ri rfl (⟨_, rfl, h⟩)
/-- 63: EarCode$Reading.takeRows(LEarCode$Tape;)Z -/
def W_Reading_takeRows  (N : Nat) (M : MM) (Q : Int32 → MM → Prop) : Prop :=
  W_Reading_takeRows_12 Q N 0 (wi (wi M 166 3 0) 166 4 0)
theorem q_Reading_takeRows {X : Option (List AI)} {N : Nat} {M : MM}  {Q : Int32 → MM → Prop}  (h : W_Reading_takeRows  N M Q) : pM X N 63 0 (ea_ar 0 [.inr (.inl (some 166)), .inr (.inl (some 1))]) [] M (Ri Q) := by
  refine pM_w (F2 := [(0, .inr (.inl (some 166))), (1, .inr (.inl (some 1)))]) (fun L hL => lo_cons (lo_lk hL rfl) (lo_cons (lo_lk hL rfl) lo_nil)) ?_
  refine pM_aln rfl rfl rfl ?_
  refine pM_ic rfl ki_0 ?_
  refine pM_pi rfl rfl rfl rfl ?_
  refine pM_aln rfl rfl rfl ?_
  refine pM_ic rfl ki_0 ?_
  refine pM_pi rfl rfl rfl rfl ?_
  refine pM_ic rfl ki_0 ?_
  refine pM_isn rfl rfl ?_
  refine pM_w (F2 := [(0, .inr (.inl (some 166))), (1, .inr (.inl (some 1))), (2, .inl (.inl 0))]) (fun L hL => lo_cons (lo_lk hL rfl) (lo_cons (lo_lk hL rfl) (lo_cons (lo_lk hL rfl) lo_nil))) ?_
  refine q_Reading_takeRows_12   N (Nat.le_refl N) 0 (wi (wi M 166 3 0) 166 4 0) h
def B_Reading_meetsNeeds_2 (p1 : Int32) (M : MM) (Q : Int32 → Prop) (N : Nat) (ih : Int32 → Prop) (v2 : Int32) : Prop :=
  ((v2 < (M.1 166 3) →
    ((((M.1 167 (ni v2)) &&& p1) = 0 →
      Q 0) ∧
     (¬ ((M.1 167 (ni v2)) &&& p1) = 0 →
      ih (v2 + 1)))) ∧
   (¬ v2 < (M.1 166 3) →
    Q 1))
def W_Reading_meetsNeeds_2 (p1 : Int32) (M : MM) (Q : Int32 → Prop) : Nat → Int32 → Prop
  | 0, _ => True
  | N + 1, v2 => B_Reading_meetsNeeds_2 p1 M Q N (W_Reading_meetsNeeds_2 p1 M Q N) v2
theorem I_Reading_meetsNeeds_2 (p1 : Int32) (M : MM) (Q : Int32 → Prop) (inv : Int32 → Prop) (hs : ∀ (N : Nat) (ih : Int32 → Prop) (v2 : Int32), (∀ (v2 : Int32), inv v2 → ih v2) → inv v2 → B_Reading_meetsNeeds_2 p1 M Q N ih v2) : ∀ (N : Nat) (v2 : Int32), inv v2 → W_Reading_meetsNeeds_2 p1 M Q N v2 := by
  intro N
  induction N with
  | zero => intros; trivial
  | succ N IH =>
    intro v2 h
    exact hs N _ v2 IH h
theorem q_Reading_meetsNeeds_2 {X : Option (List AI)} {N0 : Nat} {p1 : Int32} {M : MM} {Q : Int32 → Prop}   : ∀ (N : Nat), N ≤ N0 → ∀ (v2 : Int32), W_Reading_meetsNeeds_2 p1 M Q N v2 → pM X N 67 2 [(0, .inr (.inl (some 166))), (1, .inl (.inl p1)), (2, .inl (.inl v2))] [] M (Pi Q M) := by
  intro N
  induction N with
  | zero => intros; exact pM_zero
  | succ N IH =>
    intro hN v2 h
    replace hN := Nat.le_of_succ_le hN
    replace h : B_Reading_meetsNeeds_2 p1 M Q N (W_Reading_meetsNeeds_2 p1 M Q N) v2 := h
    refine pM_s (pMs_iln rfl rfl ?_)
    refine pM_aln rfl rfl rfl ?_
    refine pM_gi rfl rfl rfl rfl ?_
    refine pM_cge rfl rfl (fun h1 => ?_) (fun h1 => ?_)
    · replace h := h.2 h1
      refine pM_ic rfl ki_1 ?_
      exact pM_ri rfl (⟨_, rfl, rfl, h⟩)
    · replace h := h.1 h1
      refine pM_aln rfl rfl rfl ?_
      refine pM_gr rfl rfl rfl rfl ?_
      refine pM_iln rfl rfl ?_
      refine pM_ai rfl rfl (one_p _) ?_
      refine pM_iln rfl rfl ?_
      refine pM_and rfl ?_
      refine pM_zne rfl rfl (fun h2 => ?_) (fun h2 => ?_)
      · replace h := h.2 h2
        refine pM_ii rfl rfl rfl ki_1 ?_
        refine pM_go rfl rfl ?_
        refine pM_w (F2 := [(0, .inr (.inl (some 166))), (1, .inl (.inl p1)), (2, .inl (.inl (v2 + 1)))]) (fun L hL => lo_cons (lo_lk hL rfl) (lo_cons (lo_lk hL rfl) (lo_cons (lo_lk hL rfl) lo_nil))) ?_
        exact IH hN (v2 + 1) h
      · replace h := h.1 h2
        refine pM_ic rfl ki_0 ?_
        exact pM_ri rfl (⟨_, rfl, rfl, h⟩)
/-- 67: EarCode$Reading.meetsNeeds(I)Z -/
def W_Reading_meetsNeeds (p1 : Int32) (N : Nat) (M : MM) (Q : Int32 → Prop) : Prop :=
  W_Reading_meetsNeeds_2 p1 M Q N 0
theorem q_Reading_meetsNeeds {X : Option (List AI)} {N : Nat} {M : MM} {p1 : Int32} {Q : Int32 → Prop}  (h : W_Reading_meetsNeeds p1 N M Q) : pM X N 67 0 (ea_ar 0 [.inr (.inl (some 166)), .inl (.inl p1)]) [] M (Pi Q M) := by
  refine pM_w (F2 := [(0, .inr (.inl (some 166))), (1, .inl (.inl p1))]) (fun L hL => lo_cons (lo_lk hL rfl) (lo_cons (lo_lk hL rfl) lo_nil)) ?_
  refine pM_ic rfl ki_0 ?_
  refine pM_isn rfl rfl ?_
  refine pM_w (F2 := [(0, .inr (.inl (some 166))), (1, .inl (.inl p1)), (2, .inl (.inl 0))]) (fun L hL => lo_cons (lo_lk hL rfl) (lo_cons (lo_lk hL rfl) (lo_cons (lo_lk hL rfl) lo_nil))) ?_
  refine q_Reading_meetsNeeds_2   N (Nat.le_refl N) 0 h
def B_Reading_findCodes_42 (u1 : Int32) (u2 : Int32) (Q : MM → Prop) (N : Nat) (ih : Int32 → MM → Prop) (v3 : Int32) (M : MM) : Prop :=
  ((v3 < u2 →
    (((v3 &&& (u1 ^^^ (-1))) = 0 →
      W_Reading_meetsNeeds v3 N M (fun r3 =>
        ((r3 = 0 →
          ih (v3 + 1) (wi M 168 (ni v3) 0)) ∧
         (¬ r3 = 0 →
          ih (v3 + 1) (wi (wi (wi (wi M 168 (ni v3) 1) 166 6 (((wi M 168 (ni v3) 1).1 166 6) + 1)) 166 7 (((wi (wi M 168 (ni v3) 1) 166 6 (((wi M 168 (ni v3) 1).1 166 6) + 1)).1 166 7) &&& v3)) 166 8 (((wi (wi (wi M 168 (ni v3) 1) 166 6 (((wi M 168 (ni v3) 1).1 166 6) + 1)) 166 7 (((wi (wi M 168 (ni v3) 1) 166 6 (((wi M 168 (ni v3) 1).1 166 6) + 1)).1 166 7) &&& v3)).1 166 8) ||| v3)))))) ∧
     (¬ (v3 &&& (u1 ^^^ (-1))) = 0 →
      ih (v3 + 1) (wi M 168 (ni v3) 0)))) ∧
   (¬ v3 < u2 →
    (((M.1 166 6) = 0 →
      Q (wi M 166 7 0)) ∧
     (¬ (M.1 166 6) = 0 →
      Q M))))
def W_Reading_findCodes_42 (u1 : Int32) (u2 : Int32) (Q : MM → Prop) : Nat → Int32 → MM → Prop
  | 0, _, _ => True
  | N + 1, v3, M => B_Reading_findCodes_42 u1 u2 Q N (W_Reading_findCodes_42 u1 u2 Q N) v3 M
theorem I_Reading_findCodes_42 (u1 : Int32) (u2 : Int32) (Q : MM → Prop) (inv : Int32 → MM → Prop) (hs : ∀ (N : Nat) (ih : Int32 → MM → Prop) (v3 : Int32) (M : MM), (∀ (v3 : Int32) (M : MM), inv v3 M → ih v3 M) → inv v3 M → B_Reading_findCodes_42 u1 u2 Q N ih v3 M) : ∀ (N : Nat) (v3 : Int32) (M : MM), inv v3 M → W_Reading_findCodes_42 u1 u2 Q N v3 M := by
  intro N
  induction N with
  | zero => intros; trivial
  | succ N IH =>
    intro v3 M h
    exact hs N _ v3 M IH h
theorem q_Reading_findCodes_42 {X : Option (List AI)} {N0 : Nat} {u1 : Int32} {u2 : Int32} {Q : MM → Prop}   : ∀ (N : Nat), N ≤ N0 → ∀ (v3 : Int32) (M : MM), W_Reading_findCodes_42 u1 u2 Q N v3 M → pM X N 66 42 [(0, .inr (.inl (some 166))), (1, .inl (.inl u1)), (2, .inl (.inl u2)), (3, .inl (.inl v3))] [] M (Ru Q) := by
  intro N
  induction N with
  | zero => intros; exact pM_zero
  | succ N IH =>
    intro hN v3 M h
    replace hN := Nat.le_of_succ_le hN
    replace h : B_Reading_findCodes_42 u1 u2 Q N (W_Reading_findCodes_42 u1 u2 Q N) v3 M := h
    refine pM_s (pMs_iln rfl rfl ?_)
    refine pM_iln rfl rfl ?_
    refine pM_cge rfl rfl (fun h1 => ?_) (fun h1 => ?_)
    · replace h := h.2 h1
      refine pM_aln rfl rfl rfl ?_
      refine pM_gi rfl rfl rfl rfl ?_
      refine pM_zne rfl rfl (fun h12 => ?_) (fun h12 => ?_)
      · replace h := h.2 h12
        exact pM_ru rfl (⟨rfl, h⟩)
      · replace h := h.1 h12
        refine pM_aln rfl rfl rfl ?_
        refine pM_ic rfl ki_0 ?_
        refine pM_pi rfl rfl rfl rfl ?_
        exact pM_ru rfl (⟨rfl, h⟩)
    · replace h := h.1 h1
      refine pM_iln rfl rfl ?_
      refine pM_iln rfl rfl ?_
      refine pM_ic rfl ki_m1 ?_
      refine pM_xor rfl ?_
      refine pM_and rfl ?_
      refine pM_zne rfl rfl (fun h2 => ?_) (fun h2 => ?_)
      · replace h := h.2 h2
        refine pM_ic rfl ki_0 ?_
        refine pM_is rfl rfl ?_
        refine pM_aln rfl rfl rfl ?_
        refine pM_gr rfl rfl rfl rfl ?_
        refine pM_iln rfl rfl ?_
        refine pM_il rfl rfl ?_
        refine pM_zeq rfl rfl (fun h10 => ?_) (fun h10 => ?_)
        · refine pM_ic rfl ki_0 ?_
          refine pM_sa rfl rfl (one_p _) ?_
          refine pM_il rfl rfl ?_
          refine pM_zeq rfl rfl (fun h11 => ?_) (fun h11 => ?_)
          · refine pM_ii rfl rfl rfl ki_1 ?_
            refine pM_go rfl rfl ?_
            refine pM_w (F2 := [(0, .inr (.inl (some 166))), (1, .inl (.inl u1)), (2, .inl (.inl u2)), (3, .inl (.inl (v3 + 1)))]) (fun L hL => lo_cons (lo_lk hL rfl) (lo_cons (lo_lk hL rfl) (lo_cons (lo_lk hL rfl) (lo_cons (lo_lk hL rfl) lo_nil)))) ?_
            exact IH hN (v3 + 1) (wi M 168 (ni v3) 0) h
          · exact absurd (by decide) h11
        · exact absurd (by decide) h10
      · replace h := h.1 h2
        refine pM_aln rfl rfl rfl ?_
        refine pM_iln rfl rfl ?_
        refine pM_qPi (as := [.inr (.inl (some 166)), .inl (.inl v3)]) (T := []) rfl rfl (fun C hC => cl_v hC rfl rfl rfl rfl) rfl (q_Reading_meetsNeeds  h) (fun r3 h => ?_)
        refine pM_zeq rfl rfl (fun h5 => ?_) (fun h5 => ?_)
        · replace h := h.1 h5
          refine pM_ic rfl ki_0 ?_
          refine pM_is rfl rfl ?_
          refine pM_aln rfl rfl rfl ?_
          refine pM_gr rfl rfl rfl rfl ?_
          refine pM_iln rfl rfl ?_
          refine pM_il rfl rfl ?_
          refine pM_zeq rfl rfl (fun h6 => ?_) (fun h6 => ?_)
          · refine pM_ic rfl ki_0 ?_
            refine pM_sa rfl rfl (one_p _) ?_
            refine pM_il rfl rfl ?_
            refine pM_zeq rfl rfl (fun h7 => ?_) (fun h7 => ?_)
            · refine pM_ii rfl rfl rfl ki_1 ?_
              refine pM_go rfl rfl ?_
              refine pM_w (F2 := [(0, .inr (.inl (some 166))), (1, .inl (.inl u1)), (2, .inl (.inl u2)), (3, .inl (.inl (v3 + 1)))]) (fun L hL => lo_cons (lo_lk hL rfl) (lo_cons (lo_lk hL rfl) (lo_cons (lo_lk hL rfl) (lo_cons (lo_lk hL rfl) lo_nil)))) ?_
              exact IH hN (v3 + 1) (wi M 168 (ni v3) 0) h
            · exact absurd (by decide) h7
          · exact absurd (by decide) h6
        · replace h := h.2 h5
          refine pM_ic rfl ki_1 ?_
          refine pM_go rfl rfl ?_
          refine pM_is rfl rfl ?_
          refine pM_aln rfl rfl rfl ?_
          refine pM_gr rfl rfl rfl rfl ?_
          refine pM_iln rfl rfl ?_
          refine pM_il rfl rfl ?_
          refine pM_zeq rfl rfl (fun h8 => ?_) (fun h8 => ?_)
          · exact absurd h8 (by decide)
          · refine pM_ic rfl ki_1 ?_
            refine pM_go rfl rfl ?_
            refine pM_sa rfl rfl (one_p _) ?_
            refine pM_il rfl rfl ?_
            refine pM_zeq rfl rfl (fun h9 => ?_) (fun h9 => ?_)
            · exact absurd h9 (by decide)
            · refine pM_aln rfl rfl rfl ?_
              refine pM_p (pc' := 93) (S' := [.inr (.inl (some 166)), .inr (.inl (some 166))]) rfl rfl (fun _ => rfl) ?_
              refine pM_gi rfl rfl rfl rfl ?_
              refine pM_ic rfl ki_1 ?_
              refine pM_add rfl ?_
              refine pM_pi rfl rfl rfl rfl ?_
              refine pM_aln rfl rfl rfl ?_
              refine pM_p (pc' := 103) (S' := [.inr (.inl (some 166)), .inr (.inl (some 166))]) rfl rfl (fun _ => rfl) ?_
              refine pM_gi rfl rfl rfl rfl ?_
              refine pM_iln rfl rfl ?_
              refine pM_and rfl ?_
              refine pM_pi rfl rfl rfl rfl ?_
              refine pM_aln rfl rfl rfl ?_
              refine pM_p (pc' := 113) (S' := [.inr (.inl (some 166)), .inr (.inl (some 166))]) rfl rfl (fun _ => rfl) ?_
              refine pM_gi rfl rfl rfl rfl ?_
              refine pM_iln rfl rfl ?_
              refine pM_or rfl ?_
              refine pM_pi rfl rfl rfl rfl ?_
              refine pM_ii rfl rfl rfl ki_1 ?_
              refine pM_go rfl rfl ?_
              refine pM_w (F2 := [(0, .inr (.inl (some 166))), (1, .inl (.inl u1)), (2, .inl (.inl u2)), (3, .inl (.inl (v3 + 1)))]) (fun L hL => lo_cons (lo_lk hL rfl) (lo_cons (lo_lk hL rfl) (lo_cons (lo_lk hL rfl) (lo_cons (lo_lk hL rfl) lo_nil)))) ?_
              exact IH hN (v3 + 1) (wi (wi (wi (wi M 168 (ni v3) 1) 166 6 (((wi M 168 (ni v3) 1).1 166 6) + 1)) 166 7 (((wi (wi M 168 (ni v3) 1) 166 6 (((wi M 168 (ni v3) 1).1 166 6) + 1)).1 166 7) &&& v3)) 166 8 (((wi (wi (wi M 168 (ni v3) 1) 166 6 (((wi M 168 (ni v3) 1).1 166 6) + 1)) 166 7 (((wi (wi M 168 (ni v3) 1) 166 6 (((wi M 168 (ni v3) 1).1 166 6) + 1)).1 166 7) &&& v3)).1 166 8) ||| v3)) h
/-- 66: EarCode$Reading.findCodes()V -/
def W_Reading_findCodes  (N : Nat) (M : MM) (Q : MM → Prop) : Prop :=
  W_Reading_findCodes_42 ((V_Law_never 8 M) &&& ((M.1 166 4) ^^^ (-1))) (sl 1 (M.1 8 1)) Q N 0 (wi (wi (wi M 166 6 0) 166 7 (-1)) 166 8 0)
theorem q_Reading_findCodes {X : Option (List AI)} {N : Nat} {M : MM}  {Q : MM → Prop}  (h : W_Reading_findCodes  N M Q) : pM X N 66 0 (ea_ar 0 [.inr (.inl (some 166))]) [] M (Ru Q) := by
  refine pM_w (F2 := [(0, .inr (.inl (some 166)))]) (fun L hL => lo_cons (lo_lk hL rfl) lo_nil) ?_
  refine pM_aln rfl rfl rfl ?_
  refine pM_gr rfl rfl rfl rfl ?_
  refine pM_qVi (as := [.inr (.inl (some 8))]) (T := []) rfl rfl (fun C hC => cl_v hC rfl rfl rfl rfl) rfl (q_Law_never isK_8) ?_
  refine pM_aln rfl rfl rfl ?_
  refine pM_gi rfl rfl rfl rfl ?_
  refine pM_ic rfl ki_m1 ?_
  refine pM_xor rfl ?_
  refine pM_and rfl ?_
  refine pM_isn rfl rfl ?_
  refine pM_ic rfl ki_1 ?_
  refine pM_aln rfl rfl rfl ?_
  refine pM_gr rfl rfl rfl rfl ?_
  refine pM_gi rfl rfl rfl rfl ?_
  refine pM_shl rfl ?_
  refine pM_isn rfl rfl ?_
  refine pM_aln rfl rfl rfl ?_
  refine pM_ic rfl ki_0 ?_
  refine pM_pi rfl rfl rfl rfl ?_
  refine pM_aln rfl rfl rfl ?_
  refine pM_ic rfl ki_m1 ?_
  refine pM_pi rfl rfl rfl rfl ?_
  refine pM_aln rfl rfl rfl ?_
  refine pM_ic rfl ki_0 ?_
  refine pM_pi rfl rfl rfl rfl ?_
  refine pM_ic rfl ki_0 ?_
  refine pM_isn rfl rfl ?_
  refine pM_w (F2 := [(0, .inr (.inl (some 166))), (1, .inl (.inl ((V_Law_never 8 M) &&& ((M.1 166 4) ^^^ (-1))))), (2, .inl (.inl (sl 1 (M.1 8 1)))), (3, .inl (.inl 0))]) (fun L hL => lo_cons (lo_lk hL rfl) (lo_cons (lo_lk hL rfl) (lo_cons (lo_lk hL rfl) (lo_cons (lo_lk hL rfl) lo_nil)))) ?_
  refine q_Reading_findCodes_42   N (Nat.le_refl N) 0 (wi (wi (wi M 166 6 0) 166 7 (-1)) 166 8 0) h
def B_Reading_sumOverSubsets_19 (u1 : Int32) (u2 : Int32) (k53 : MM → Prop) (Q : MM → Prop) (N : Nat) (ih : Int32 → MM → Prop) (v3 : Int32) (M : MM) : Prop :=
  ((v3 < u1 →
    (((v3 &&& u2) = 0 →
      ih (v3 + 1) M) ∧
     (¬ (v3 &&& u2) = 0 →
      ih (v3 + 1) (wi M 168 (ni v3) ((M.1 168 (ni v3)) + (M.1 168 (ni (v3 ^^^ u2)))))))) ∧
   (¬ v3 < u1 →
    k53 M))
def W_Reading_sumOverSubsets_19 (u1 : Int32) (u2 : Int32) (k53 : MM → Prop) (Q : MM → Prop) : Nat → Int32 → MM → Prop
  | 0, _, _ => True
  | N + 1, v3, M => B_Reading_sumOverSubsets_19 u1 u2 k53 Q N (W_Reading_sumOverSubsets_19 u1 u2 k53 Q N) v3 M
theorem I_Reading_sumOverSubsets_19 (u1 : Int32) (u2 : Int32) (k53 : MM → Prop) (Q : MM → Prop) (inv : Int32 → MM → Prop) (hs : ∀ (N : Nat) (ih : Int32 → MM → Prop) (v3 : Int32) (M : MM), (∀ (v3 : Int32) (M : MM), inv v3 M → ih v3 M) → inv v3 M → B_Reading_sumOverSubsets_19 u1 u2 k53 Q N ih v3 M) : ∀ (N : Nat) (v3 : Int32) (M : MM), inv v3 M → W_Reading_sumOverSubsets_19 u1 u2 k53 Q N v3 M := by
  intro N
  induction N with
  | zero => intros; trivial
  | succ N IH =>
    intro v3 M h
    exact hs N _ v3 M IH h
theorem q_Reading_sumOverSubsets_19 {X : Option (List AI)} {N0 : Nat} {u1 : Int32} {u2 : Int32} {k53 : MM → Prop} {Q : MM → Prop}  (hk53 : ∀  (M : MM), k53 M → pM X N0 69 53 [(0, .inr (.inl (some 166))), (1, .inl (.inl u1)), (2, .inl (.inl u2))] [] M (Ru Q)) : ∀ (N : Nat), N ≤ N0 → ∀ (v3 : Int32) (M : MM), W_Reading_sumOverSubsets_19 u1 u2 k53 Q N v3 M → pM X N 69 19 [(0, .inr (.inl (some 166))), (1, .inl (.inl u1)), (2, .inl (.inl u2)), (3, .inl (.inl v3))] [] M (Ru Q) := by
  intro N
  induction N with
  | zero => intros; exact pM_zero
  | succ N IH =>
    intro hN v3 M h
    replace hN := Nat.le_of_succ_le hN
    replace h : B_Reading_sumOverSubsets_19 u1 u2 k53 Q N (W_Reading_sumOverSubsets_19 u1 u2 k53 Q N) v3 M := h
    refine pM_s (pMs_iln rfl rfl ?_)
    refine pM_iln rfl rfl ?_
    refine pM_cge rfl rfl (fun h2 => ?_) (fun h2 => ?_)
    · replace h := h.2 h2
      refine pM_w (F2 := [(0, .inr (.inl (some 166))), (1, .inl (.inl u1)), (2, .inl (.inl u2))]) (fun L hL => lo_cons (lo_lk hL rfl) (lo_cons (lo_lk hL rfl) (lo_cons (lo_lk hL rfl) lo_nil))) ?_
      exact pM_le hN (hk53 _ h)
    · replace h := h.1 h2
      refine pM_iln rfl rfl ?_
      refine pM_iln rfl rfl ?_
      refine pM_and rfl ?_
      refine pM_zeq rfl rfl (fun h3 => ?_) (fun h3 => ?_)
      · replace h := h.1 h3
        refine pM_ii rfl rfl rfl ki_1 ?_
        refine pM_go rfl rfl ?_
        refine pM_w (F2 := [(0, .inr (.inl (some 166))), (1, .inl (.inl u1)), (2, .inl (.inl u2)), (3, .inl (.inl (v3 + 1)))]) (fun L hL => lo_cons (lo_lk hL rfl) (lo_cons (lo_lk hL rfl) (lo_cons (lo_lk hL rfl) (lo_cons (lo_lk hL rfl) lo_nil)))) ?_
        exact IH hN (v3 + 1) M h
      · replace h := h.2 h3
        refine pM_aln rfl rfl rfl ?_
        refine pM_gr rfl rfl rfl rfl ?_
        refine pM_iln rfl rfl ?_
        refine pM_p (pc' := 36) (S' := [.inl (.inl v3), .inr (.inl (some 168)), .inl (.inl v3), .inr (.inl (some 168))]) rfl rfl (fun _ => rfl) ?_
        refine pM_ai rfl rfl (one_p _) ?_
        refine pM_aln rfl rfl rfl ?_
        refine pM_gr rfl rfl rfl rfl ?_
        refine pM_iln rfl rfl ?_
        refine pM_iln rfl rfl ?_
        refine pM_xor rfl ?_
        refine pM_ai rfl rfl (one_p _) ?_
        refine pM_add rfl ?_
        refine pM_sa rfl rfl (one_p _) ?_
        refine pM_ii rfl rfl rfl ki_1 ?_
        refine pM_go rfl rfl ?_
        refine pM_w (F2 := [(0, .inr (.inl (some 166))), (1, .inl (.inl u1)), (2, .inl (.inl u2)), (3, .inl (.inl (v3 + 1)))]) (fun L hL => lo_cons (lo_lk hL rfl) (lo_cons (lo_lk hL rfl) (lo_cons (lo_lk hL rfl) (lo_cons (lo_lk hL rfl) lo_nil)))) ?_
        exact IH hN (v3 + 1) (wi M 168 (ni v3) ((M.1 168 (ni v3)) + (M.1 168 (ni (v3 ^^^ u2))))) h
def B_Reading_sumOverSubsets_12 (u1 : Int32) (Q : MM → Prop) (N : Nat) (ih : Int32 → MM → Prop) (v2 : Int32) (M : MM) : Prop :=
  ((v2 < u1 →
    W_Reading_sumOverSubsets_19 u1 v2 (fun M4 =>
      ih (sl v2 1) M4) Q N 0 M) ∧
   (¬ v2 < u1 →
    Q M))
def W_Reading_sumOverSubsets_12 (u1 : Int32) (Q : MM → Prop) : Nat → Int32 → MM → Prop
  | 0, _, _ => True
  | N + 1, v2, M => B_Reading_sumOverSubsets_12 u1 Q N (W_Reading_sumOverSubsets_12 u1 Q N) v2 M
theorem I_Reading_sumOverSubsets_12 (u1 : Int32) (Q : MM → Prop) (inv : Int32 → MM → Prop) (hs : ∀ (N : Nat) (ih : Int32 → MM → Prop) (v2 : Int32) (M : MM), (∀ (v2 : Int32) (M : MM), inv v2 M → ih v2 M) → inv v2 M → B_Reading_sumOverSubsets_12 u1 Q N ih v2 M) : ∀ (N : Nat) (v2 : Int32) (M : MM), inv v2 M → W_Reading_sumOverSubsets_12 u1 Q N v2 M := by
  intro N
  induction N with
  | zero => intros; trivial
  | succ N IH =>
    intro v2 M h
    exact hs N _ v2 M IH h
theorem q_Reading_sumOverSubsets_12 {X : Option (List AI)} {N0 : Nat} {u1 : Int32} {Q : MM → Prop}   : ∀ (N : Nat), N ≤ N0 → ∀ (v2 : Int32) (M : MM), W_Reading_sumOverSubsets_12 u1 Q N v2 M → pM X N 69 12 [(0, .inr (.inl (some 166))), (1, .inl (.inl u1)), (2, .inl (.inl v2))] [] M (Ru Q) := by
  intro N
  induction N with
  | zero => intros; exact pM_zero
  | succ N IH =>
    intro hN v2 M h
    replace hN := Nat.le_of_succ_le hN
    replace h : B_Reading_sumOverSubsets_12 u1 Q N (W_Reading_sumOverSubsets_12 u1 Q N) v2 M := h
    refine pM_s (pMs_iln rfl rfl ?_)
    refine pM_iln rfl rfl ?_
    refine pM_cge rfl rfl (fun h1 => ?_) (fun h1 => ?_)
    · replace h := h.2 h1
      exact pM_ru rfl (⟨rfl, h⟩)
    · replace h := h.1 h1
      refine pM_ic rfl ki_0 ?_
      refine pM_isn rfl rfl ?_
      refine pM_w (F2 := [(0, .inr (.inl (some 166))), (1, .inl (.inl u1)), (2, .inl (.inl v2)), (3, .inl (.inl 0))]) (fun L hL => lo_cons (lo_lk hL rfl) (lo_cons (lo_lk hL rfl) (lo_cons (lo_lk hL rfl) (lo_cons (lo_lk hL rfl) lo_nil)))) ?_
      refine q_Reading_sumOverSubsets_19  (fun M4 h => ?_) N (Nat.le_refl N) 0 M h
      · refine pM_iln rfl rfl ?_
        refine pM_ic rfl ki_1 ?_
        refine pM_shl rfl ?_
        refine pM_isn rfl rfl ?_
        refine pM_go rfl rfl ?_
        refine pM_w (F2 := [(0, .inr (.inl (some 166))), (1, .inl (.inl u1)), (2, .inl (.inl (sl v2 1)))]) (fun L hL => lo_cons (lo_lk hL rfl) (lo_cons (lo_lk hL rfl) (lo_cons (lo_lk hL rfl) lo_nil))) ?_
        exact IH hN (sl v2 1) M4 h
/-- 69: EarCode$Reading.sumOverSubsets()V -/
def W_Reading_sumOverSubsets  (N : Nat) (M : MM) (Q : MM → Prop) : Prop :=
  W_Reading_sumOverSubsets_12 (sl 1 (M.1 8 1)) Q N 1 M
theorem q_Reading_sumOverSubsets {X : Option (List AI)} {N : Nat} {M : MM}  {Q : MM → Prop}  (h : W_Reading_sumOverSubsets  N M Q) : pM X N 69 0 (ea_ar 0 [.inr (.inl (some 166))]) [] M (Ru Q) := by
  refine pM_w (F2 := [(0, .inr (.inl (some 166)))]) (fun L hL => lo_cons (lo_lk hL rfl) lo_nil) ?_
  refine pM_ic rfl ki_1 ?_
  refine pM_aln rfl rfl rfl ?_
  refine pM_gr rfl rfl rfl rfl ?_
  refine pM_gi rfl rfl rfl rfl ?_
  refine pM_shl rfl ?_
  refine pM_isn rfl rfl ?_
  refine pM_ic rfl ki_1 ?_
  refine pM_isn rfl rfl ?_
  refine pM_w (F2 := [(0, .inr (.inl (some 166))), (1, .inl (.inl (sl 1 (M.1 8 1)))), (2, .inl (.inl 1))]) (fun L hL => lo_cons (lo_lk hL rfl) (lo_cons (lo_lk hL rfl) (lo_cons (lo_lk hL rfl) lo_nil))) ?_
  refine q_Reading_sumOverSubsets_12   N (Nat.le_refl N) 1 M h
def B_Reading_bestSplit_24 (p1 : Int32) (u2 : Int32) (M : MM) (Q : Int32 → MM → Prop) (N : Nat) (ih : Int32 → Int32 → Int32 → Prop) (v3 : Int32) (v4 : Int32) (v5 : Int32) : Prop :=
  ((v5 < 64 →
    W_Law_bearing 8 0 v5 p1 (V_World_knownBy 18 p1 M) (M.1 18 13) N M (fun r4 =>
      ((v3 = (-1) →
        ih v5 (mx (M.1 168 (ni (u2 &&& (r4 ^^^ (-1))))) ((M.1 166 6) - (M.1 168 (ni (u2 &&& (r4 ^^^ (-1))))))) (v5 + 1)) ∧
       (¬ v3 = (-1) →
        (((mx (M.1 168 (ni (u2 &&& (r4 ^^^ (-1))))) ((M.1 166 6) - (M.1 168 (ni (u2 &&& (r4 ^^^ (-1))))))) < v4 →
          ih v5 (mx (M.1 168 (ni (u2 &&& (r4 ^^^ (-1))))) ((M.1 166 6) - (M.1 168 (ni (u2 &&& (r4 ^^^ (-1))))))) (v5 + 1)) ∧
         (¬ (mx (M.1 168 (ni (u2 &&& (r4 ^^^ (-1))))) ((M.1 166 6) - (M.1 168 (ni (u2 &&& (r4 ^^^ (-1))))))) < v4 →
          ih v3 v4 (v5 + 1))))))) ∧
   (¬ v5 < 64 →
    Q v3 M))
def W_Reading_bestSplit_24 (p1 : Int32) (u2 : Int32) (M : MM) (Q : Int32 → MM → Prop) : Nat → Int32 → Int32 → Int32 → Prop
  | 0, _, _, _ => True
  | N + 1, v3, v4, v5 => B_Reading_bestSplit_24 p1 u2 M Q N (W_Reading_bestSplit_24 p1 u2 M Q N) v3 v4 v5
theorem I_Reading_bestSplit_24 (p1 : Int32) (u2 : Int32) (M : MM) (Q : Int32 → MM → Prop) (inv : Int32 → Int32 → Int32 → Prop) (hs : ∀ (N : Nat) (ih : Int32 → Int32 → Int32 → Prop) (v3 : Int32) (v4 : Int32) (v5 : Int32), (∀ (v3 : Int32) (v4 : Int32) (v5 : Int32), inv v3 v4 v5 → ih v3 v4 v5) → inv v3 v4 v5 → B_Reading_bestSplit_24 p1 u2 M Q N ih v3 v4 v5) : ∀ (N : Nat) (v3 : Int32) (v4 : Int32) (v5 : Int32), inv v3 v4 v5 → W_Reading_bestSplit_24 p1 u2 M Q N v3 v4 v5 := by
  intro N
  induction N with
  | zero => intros; trivial
  | succ N IH =>
    intro v3 v4 v5 h
    exact hs N _ v3 v4 v5 IH h
theorem q_Reading_bestSplit_24 {X : Option (List AI)} {N0 : Nat} {p1 : Int32} {u2 : Int32} {M : MM} {Q : Int32 → MM → Prop}   : ∀ (N : Nat), N ≤ N0 → ∀ (v3 : Int32) (v4 : Int32) (v5 : Int32), W_Reading_bestSplit_24 p1 u2 M Q N v3 v4 v5 → pM X N 68 24 [(0, .inr (.inl (some 166))), (1, .inl (.inl p1)), (2, .inl (.inl u2)), (3, .inl (.inl v3)), (4, .inl (.inl v4)), (5, .inl (.inl v5))] [] M (Ri Q) := by
  intro N
  induction N with
  | zero => intros; exact pM_zero
  | succ N IH =>
    intro hN v3 v4 v5 h
    replace hN := Nat.le_of_succ_le hN
    replace h : B_Reading_bestSplit_24 p1 u2 M Q N (W_Reading_bestSplit_24 p1 u2 M Q N) v3 v4 v5 := h
    refine pM_s (pMs_il rfl rfl ?_)
    refine pM_bi rfl kb_64 ?_
    refine pM_cge rfl rfl (fun h3 => ?_) (fun h3 => ?_)
    · replace h := h.2 h3
      refine pM_iln rfl rfl ?_
      exact pM_ri rfl (⟨_, rfl, h⟩)
    · replace h := h.1 h3
      refine pM_aln rfl rfl rfl ?_
      refine pM_gr rfl rfl rfl rfl ?_
      refine pM_ic rfl ki_0 ?_
      refine pM_il rfl rfl ?_
      refine pM_iln rfl rfl ?_
      refine pM_aln rfl rfl rfl ?_
      refine pM_gr rfl rfl rfl rfl ?_
      refine pM_iln rfl rfl ?_
      refine pM_qVi (as := [.inr (.inl (some 18)), .inl (.inl p1)]) (T := [.inl (.inl p1), .inl (.inl v5), .inl (.inl 0), .inr (.inl (some 8))]) rfl rfl (fun C hC => cl_v hC rfl rfl rfl rfl) rfl (q_World_knownBy isW_18) ?_
      refine pM_aln rfl rfl rfl ?_
      refine pM_gr rfl rfl rfl rfl ?_
      refine pM_gi rfl rfl rfl rfl ?_
      refine pM_qPi (as := [.inr (.inl (some 8)), .inl (.inl 0), .inl (.inl v5), .inl (.inl p1), .inl (.inl (V_World_knownBy 18 p1 M)), .inl (.inl (M.1 18 13))]) (T := []) rfl rfl (fun C hC => cl_v hC rfl rfl rfl rfl) rfl (q_Law_bearing isK_8 h) (fun r4 h => ?_)
      refine pM_is rfl rfl ?_
      refine pM_aln rfl rfl rfl ?_
      refine pM_gr rfl rfl rfl rfl ?_
      refine pM_iln rfl rfl ?_
      refine pM_il rfl rfl ?_
      refine pM_ic rfl ki_m1 ?_
      refine pM_xor rfl ?_
      refine pM_and rfl ?_
      refine pM_ai rfl rfl (one_p _) ?_
      refine pM_is rfl rfl ?_
      refine pM_il rfl rfl ?_
      refine pM_aln rfl rfl rfl ?_
      refine pM_gi rfl rfl rfl rfl ?_
      refine pM_il rfl rfl ?_
      refine pM_sub rfl ?_
      refine pM_mx rfl rfl ?_
      refine pM_is rfl rfl ?_
      refine pM_iln rfl rfl ?_
      refine pM_ic rfl ki_m1 ?_
      refine pM_ceq rfl rfl (fun h6 => ?_) (fun h6 => ?_)
      · replace h := h.1 h6
        refine pM_il rfl rfl ?_
        refine pM_isn rfl rfl ?_
        refine pM_il rfl rfl ?_
        refine pM_is rfl rfl ?_
        refine pM_ii rfl rfl rfl ki_1 ?_
        refine pM_go rfl rfl ?_
        refine pM_w (F2 := [(0, .inr (.inl (some 166))), (1, .inl (.inl p1)), (2, .inl (.inl u2)), (3, .inl (.inl v5)), (4, .inl (.inl (mx (M.1 168 (ni (u2 &&& (r4 ^^^ (-1))))) ((M.1 166 6) - (M.1 168 (ni (u2 &&& (r4 ^^^ (-1))))))))), (5, .inl (.inl (v5 + 1)))]) (fun L hL => lo_cons (lo_lk hL rfl) (lo_cons (lo_lk hL rfl) (lo_cons (lo_lk hL rfl) (lo_cons (lo_lk hL rfl) (lo_cons (lo_lk hL rfl) (lo_cons (lo_lk hL rfl) lo_nil)))))) ?_
        exact IH hN v5 (mx (M.1 168 (ni (u2 &&& (r4 ^^^ (-1))))) ((M.1 166 6) - (M.1 168 (ni (u2 &&& (r4 ^^^ (-1))))))) (v5 + 1) h
      · replace h := h.2 h6
        refine pM_il rfl rfl ?_
        refine pM_il rfl rfl ?_
        refine pM_cge rfl rfl (fun h7 => ?_) (fun h7 => ?_)
        · replace h := h.2 h7
          refine pM_ii rfl rfl rfl ki_1 ?_
          refine pM_go rfl rfl ?_
          refine pM_w (F2 := [(0, .inr (.inl (some 166))), (1, .inl (.inl p1)), (2, .inl (.inl u2)), (3, .inl (.inl v3)), (4, .inl (.inl v4)), (5, .inl (.inl (v5 + 1)))]) (fun L hL => lo_cons (lo_lk hL rfl) (lo_cons (lo_lk hL rfl) (lo_cons (lo_lk hL rfl) (lo_cons (lo_lk hL rfl) (lo_cons (lo_lk hL rfl) (lo_cons (lo_lk hL rfl) lo_nil)))))) ?_
          exact IH hN v3 v4 (v5 + 1) h
        · replace h := h.1 h7
          refine pM_il rfl rfl ?_
          refine pM_isn rfl rfl ?_
          refine pM_il rfl rfl ?_
          refine pM_is rfl rfl ?_
          refine pM_ii rfl rfl rfl ki_1 ?_
          refine pM_go rfl rfl ?_
          refine pM_w (F2 := [(0, .inr (.inl (some 166))), (1, .inl (.inl p1)), (2, .inl (.inl u2)), (3, .inl (.inl v5)), (4, .inl (.inl (mx (M.1 168 (ni (u2 &&& (r4 ^^^ (-1))))) ((M.1 166 6) - (M.1 168 (ni (u2 &&& (r4 ^^^ (-1))))))))), (5, .inl (.inl (v5 + 1)))]) (fun L hL => lo_cons (lo_lk hL rfl) (lo_cons (lo_lk hL rfl) (lo_cons (lo_lk hL rfl) (lo_cons (lo_lk hL rfl) (lo_cons (lo_lk hL rfl) (lo_cons (lo_lk hL rfl) lo_nil)))))) ?_
          exact IH hN v5 (mx (M.1 168 (ni (u2 &&& (r4 ^^^ (-1))))) ((M.1 166 6) - (M.1 168 (ni (u2 &&& (r4 ^^^ (-1))))))) (v5 + 1) h
/-- 68: EarCode$Reading.bestSplit(I)I -/
def W_Reading_bestSplit (p1 : Int32) (N : Nat) (M : MM) (Q : Int32 → MM → Prop) : Prop :=
  W_Reading_sumOverSubsets  N M (fun M2 =>
    W_Reading_bestSplit_24 p1 ((sl 1 (M2.1 8 1)) - 1) M2 Q N (-1) 0 0)
theorem q_Reading_bestSplit {X : Option (List AI)} {N : Nat} {M : MM} {p1 : Int32} {Q : Int32 → MM → Prop}  (h : W_Reading_bestSplit p1 N M Q) : pM X N 68 0 (ea_ar 0 [.inr (.inl (some 166)), .inl (.inl p1)]) [] M (Ri Q) := by
  refine pM_w (F2 := [(0, .inr (.inl (some 166))), (1, .inl (.inl p1))]) (fun L hL => lo_cons (lo_lk hL rfl) (lo_cons (lo_lk hL rfl) lo_nil)) ?_
  refine pM_aln rfl rfl rfl ?_
  refine pM_qRu (as := [.inr (.inl (some 166))]) (T := []) rfl rfl (fun C hC => cl_v hC rfl rfl rfl rfl) rfl (q_Reading_sumOverSubsets  h) (fun M2 h => ?_)
  refine pM_ic rfl ki_1 ?_
  refine pM_aln rfl rfl rfl ?_
  refine pM_gr rfl rfl rfl rfl ?_
  refine pM_gi rfl rfl rfl rfl ?_
  refine pM_shl rfl ?_
  refine pM_ic rfl ki_1 ?_
  refine pM_sub rfl ?_
  refine pM_isn rfl rfl ?_
  refine pM_ic rfl ki_m1 ?_
  refine pM_isn rfl rfl ?_
  refine pM_ic rfl ki_0 ?_
  refine pM_is rfl rfl ?_
  refine pM_ic rfl ki_0 ?_
  refine pM_is rfl rfl ?_
  refine pM_w (F2 := [(0, .inr (.inl (some 166))), (1, .inl (.inl p1)), (2, .inl (.inl ((sl 1 (M2.1 8 1)) - 1))), (3, .inl (.inl (-1))), (4, .inl (.inl 0)), (5, .inl (.inl 0))]) (fun L hL => lo_cons (lo_lk hL rfl) (lo_cons (lo_lk hL rfl) (lo_cons (lo_lk hL rfl) (lo_cons (lo_lk hL rfl) (lo_cons (lo_lk hL rfl) (lo_cons (lo_lk hL rfl) lo_nil)))))) ?_
  refine q_Reading_bestSplit_24   N (Nat.le_refl N) (-1) 0 0 h
/-- 96: EarCode$Text.size()I -/
def V_Text_size  (M : MM) : Int32 :=
  (if (M.1 3 5) < (M.1 3 4) then
    (M.1 6 (ni (M.1 3 5)))
  else
    0)
theorem q_Text_size {X : Option (List AI)} {N : Nat} {M : MM}   : pM X N 96 0 (ea_ar 0 [.inr (.inl (some 3))]) [] M (Vi (V_Text_size  M) M) := by
  refine pM_w (F2 := [(0, .inr (.inl (some 3)))]) (fun L hL => lo_cons (lo_lk hL rfl) lo_nil) ?_
  refine pM_aln rfl rfl rfl ?_
  refine pM_gi rfl rfl rfl rfl ?_
  refine pM_aln rfl rfl rfl ?_
  refine pM_gi rfl rfl rfl rfl ?_
  refine pM_cge rfl rfl (fun h1 => ?_) (fun h1 => ?_)
  · refine pM_ic rfl ki_0 ?_
    exact pM_rVi rfl (Eq.trans (if_neg h1) rfl)
  · refine pM_aln rfl rfl rfl ?_
    refine pM_gr rfl rfl rfl rfl ?_
    refine pM_aln rfl rfl rfl ?_
    refine pM_gi rfl rfl rfl rfl ?_
    refine pM_ai rfl rfl (one_p _) ?_
    refine pM_go rfl rfl ?_
    exact pM_rVi rfl (Eq.trans (if_pos h1) rfl)
/-- 82: EarCode$RepublicReader.readMatter()I -/
def W_RepublicReader_readMatter  (N : Nat) (M : MM) (Q : Int32 → MM → Prop) : Prop :=
  (((V_Text_kind  M) = 20 →
    (((V_Text_size  M) = 2 →
      ((((V_Text_value  M) / 10) < 8 →
        (((rm (V_Text_value  M) 10) < 8 →
          W_Text_goOn  N M (fun M6 =>
            Q ((((V_Text_value  M) / 10) * 8) + (rm (V_Text_value  M) 10)) M6)) ∧
         (¬ (rm (V_Text_value  M) 10) < 8 →
          Q (-1) M))) ∧
       (¬ ((V_Text_value  M) / 10) < 8 →
        Q (-1) M))) ∧
     (¬ (V_Text_size  M) = 2 →
      Q (-1) M))) ∧
   (¬ (V_Text_kind  M) = 20 →
    Q (-1) M))
theorem q_RepublicReader_readMatter {X : Option (List AI)} {N : Nat} {M : MM}  {Q : Int32 → MM → Prop}  (h : W_RepublicReader_readMatter  N M Q) : pM X N 82 0 (ea_ar 0 [.inr (.inl (some 43))]) [] M (Ri Q) := by
  refine pM_w (F2 := [(0, .inr (.inl (some 43)))]) (fun L hL => lo_cons (lo_lk hL rfl) lo_nil) ?_
  refine pM_aln rfl rfl rfl ?_
  refine pM_gr rfl rfl rfl rfl ?_
  refine pM_qVi (as := [.inr (.inl (some 3))]) (T := []) rfl rfl (fun C hC => cl_v hC rfl rfl rfl rfl) rfl (q_Text_value ) ?_
  refine pM_bi rfl kb_10 ?_
  refine pM_div rfl ?_
  refine pM_isn rfl rfl ?_
  refine pM_aln rfl rfl rfl ?_
  refine pM_gr rfl rfl rfl rfl ?_
  refine pM_qVi (as := [.inr (.inl (some 3))]) (T := []) rfl rfl (fun C hC => cl_v hC rfl rfl rfl rfl) rfl (q_Text_value ) ?_
  refine pM_bi rfl kb_10 ?_
  refine pM_rem rfl ?_
  refine pM_isn rfl rfl ?_
  refine pM_aln rfl rfl rfl ?_
  refine pM_gr rfl rfl rfl rfl ?_
  refine pM_qVi (as := [.inr (.inl (some 3))]) (T := []) rfl rfl (fun C hC => cl_v hC rfl rfl rfl rfl) rfl (q_Text_kind ) ?_
  refine pM_bi rfl kb_20 ?_
  refine pM_cne rfl rfl (fun h1 => ?_) (fun h1 => ?_)
  · replace h := h.2 h1
    refine pM_ic rfl ki_m1 ?_
    exact pM_ri rfl (⟨_, rfl, h⟩)
  · replace h := h.1 h1
    refine pM_aln rfl rfl rfl ?_
    refine pM_gr rfl rfl rfl rfl ?_
    refine pM_qVi (as := [.inr (.inl (some 3))]) (T := []) rfl rfl (fun C hC => cl_v hC rfl rfl rfl rfl) rfl (q_Text_size ) ?_
    refine pM_ic rfl ki_2 ?_
    refine pM_cne rfl rfl (fun h2 => ?_) (fun h2 => ?_)
    · replace h := h.2 h2
      refine pM_ic rfl ki_m1 ?_
      exact pM_ri rfl (⟨_, rfl, h⟩)
    · replace h := h.1 h2
      refine pM_iln rfl rfl ?_
      refine pM_bi rfl kb_8 ?_
      refine pM_cge rfl rfl (fun h3 => ?_) (fun h3 => ?_)
      · replace h := h.2 h3
        refine pM_ic rfl ki_m1 ?_
        exact pM_ri rfl (⟨_, rfl, h⟩)
      · replace h := h.1 h3
        refine pM_iln rfl rfl ?_
        refine pM_bi rfl kb_8 ?_
        refine pM_clt rfl rfl (fun h4 => ?_) (fun h4 => ?_)
        · replace h := h.1 h4
          refine pM_aln rfl rfl rfl ?_
          refine pM_gr rfl rfl rfl rfl ?_
          refine pM_qRu (as := [.inr (.inl (some 3))]) (T := []) rfl rfl (fun C hC => cl_v hC rfl rfl rfl rfl) rfl (q_Text_goOn  h) (fun M6 h => ?_)
          refine pM_iln rfl rfl ?_
          refine pM_bi rfl kb_8 ?_
          refine pM_mul rfl ?_
          refine pM_iln rfl rfl ?_
          refine pM_add rfl ?_
          exact pM_ri rfl (⟨_, rfl, h⟩)
        · replace h := h.2 h4
          refine pM_ic rfl ki_m1 ?_
          exact pM_ri rfl (⟨_, rfl, h⟩)
/-- 103: EarCode$World.addToHabit(II)V -/
def W_World_addToHabit (a : Nat) (p1 : Int32) (p2 : Int32) (N : Nat) (M : MM) (Q : MM → Prop) : Prop :=
  (((M.1 (a + 6) (ni p1)) < 6 →
    Q (wi (wi M (a + 5) (ni ((p1 * 6) + (M.1 (a + 6) (ni p1)))) p2) (a + 6) (ni p1) (((wi M (a + 5) (ni ((p1 * 6) + (M.1 (a + 6) (ni p1)))) p2).1 (a + 6) (ni p1)) + 1))) ∧
   (¬ (M.1 (a + 6) (ni p1)) < 6 →
    Q M))
theorem q_World_addToHabit {X : Option (List AI)} {N : Nat} {M : MM} {a : Nat} {p1 : Int32} {p2 : Int32} {Q : MM → Prop} (ha : isW a) (h : W_World_addToHabit a p1 p2 N M Q) : pM X N 103 0 (ea_ar 0 [.inr (.inl (some a)), .inl (.inl p1), .inl (.inl p2)]) [] M (Ru Q) := by
  refine pM_w (F2 := [(0, .inr (.inl (some a))), (1, .inl (.inl p1)), (2, .inl (.inl p2))]) (fun L hL => lo_cons (lo_lk hL rfl) (lo_cons (lo_lk hL rfl) (lo_cons (lo_lk hL rfl) lo_nil))) ?_
  refine pM_aln rfl rfl rfl ?_
  refine pM_gr rfl rfl ha.1 rfl ?_
  refine pM_iln rfl rfl ?_
  refine pM_ai rfl ha.2.2.2.2.2.2.1 (one_p _) ?_
  refine pM_isn rfl rfl ?_
  refine pM_iln rfl rfl ?_
  refine pM_bi rfl kb_6 ?_
  refine pM_cge rfl rfl (fun h1 => ?_) (fun h1 => ?_)
  · replace h := h.2 h1
    exact pM_ru rfl (⟨rfl, h⟩)
  · replace h := h.1 h1
    refine pM_aln rfl rfl rfl ?_
    refine pM_gr rfl rfl ha.1 rfl ?_
    refine pM_iln rfl rfl ?_
    refine pM_bi rfl kb_6 ?_
    refine pM_mul rfl ?_
    refine pM_iln rfl rfl ?_
    refine pM_add rfl ?_
    refine pM_iln rfl rfl ?_
    refine pM_sa rfl ha.2.2.2.2.2.1 (one_p _) ?_
    refine pM_aln rfl rfl rfl ?_
    refine pM_gr rfl rfl ha.1 rfl ?_
    refine pM_iln rfl rfl ?_
    refine pM_p (pc' := 31) (S' := [.inl (.inl p1), .inr (.inl (some (a + 6))), .inl (.inl p1), .inr (.inl (some (a + 6)))]) rfl rfl (fun _ => rfl) ?_
    refine pM_ai rfl ha.2.2.2.2.2.2.1 (one_p _) ?_
    refine pM_ic rfl ki_1 ?_
    refine pM_add rfl ?_
    refine pM_sa rfl ha.2.2.2.2.2.2.1 (one_p _) ?_
    exact pM_ru rfl (⟨rfl, h⟩)
def B_RepublicReader_readHabit_2 (p1 : Int32) (Q : Int32 → MM → Prop) (N : Nat) (ih : Int32 → MM → Prop) (v2 : Int32) (M : MM) : Prop :=
  ((v2 < 6 →
    W_RepublicReader_readMatter  N M (fun r2 M3 =>
      ((r2 = (-1) →
        Q 0 M3) ∧
       (¬ r2 = (-1) →
        W_World_addToHabit 30 p1 r2 N M3 (fun M6 =>
          (((V_Text_kind  M6) = 20 →
            ih (v2 + 1) M6) ∧
           (¬ (V_Text_kind  M6) = 20 →
            Q 1 M6))))))) ∧
   (¬ v2 < 6 →
    Q 0 M))
def W_RepublicReader_readHabit_2 (p1 : Int32) (Q : Int32 → MM → Prop) : Nat → Int32 → MM → Prop
  | 0, _, _ => True
  | N + 1, v2, M => B_RepublicReader_readHabit_2 p1 Q N (W_RepublicReader_readHabit_2 p1 Q N) v2 M
theorem I_RepublicReader_readHabit_2 (p1 : Int32) (Q : Int32 → MM → Prop) (inv : Int32 → MM → Prop) (hs : ∀ (N : Nat) (ih : Int32 → MM → Prop) (v2 : Int32) (M : MM), (∀ (v2 : Int32) (M : MM), inv v2 M → ih v2 M) → inv v2 M → B_RepublicReader_readHabit_2 p1 Q N ih v2 M) : ∀ (N : Nat) (v2 : Int32) (M : MM), inv v2 M → W_RepublicReader_readHabit_2 p1 Q N v2 M := by
  intro N
  induction N with
  | zero => intros; trivial
  | succ N IH =>
    intro v2 M h
    exact hs N _ v2 M IH h
theorem q_RepublicReader_readHabit_2 {X : Option (List AI)} {N0 : Nat} {p1 : Int32} {Q : Int32 → MM → Prop}   : ∀ (N : Nat), N ≤ N0 → ∀ (v2 : Int32) (M : MM), W_RepublicReader_readHabit_2 p1 Q N v2 M → pM X N 74 2 [(0, .inr (.inl (some 43))), (1, .inl (.inl p1)), (2, .inl (.inl v2))] [] M (Ri Q) := by
  intro N
  induction N with
  | zero => intros; exact pM_zero
  | succ N IH =>
    intro hN v2 M h
    replace hN := Nat.le_of_succ_le hN
    replace h : B_RepublicReader_readHabit_2 p1 Q N (W_RepublicReader_readHabit_2 p1 Q N) v2 M := h
    refine pM_s (pMs_iln rfl rfl ?_)
    refine pM_bi rfl kb_6 ?_
    refine pM_cge rfl rfl (fun h1 => ?_) (fun h1 => ?_)
    · replace h := h.2 h1
      refine pM_ic rfl ki_0 ?_
      exact pM_ri rfl (⟨_, rfl, h⟩)
    · replace h := h.1 h1
      refine pM_aln rfl rfl rfl ?_
      refine pM_qRi (as := [.inr (.inl (some 43))]) (T := []) rfl rfl (fun C hC => cl_v hC rfl rfl rfl rfl) rfl (q_RepublicReader_readMatter  h) (fun r2 M3 h => ?_)
      refine pM_isn rfl rfl ?_
      refine pM_iln rfl rfl ?_
      refine pM_ic rfl ki_m1 ?_
      refine pM_cne rfl rfl (fun h4 => ?_) (fun h4 => ?_)
      · replace h := h.2 h4
        refine pM_aln rfl rfl rfl ?_
        refine pM_gr rfl rfl rfl rfl ?_
        refine pM_iln rfl rfl ?_
        refine pM_iln rfl rfl ?_
        refine pM_qRu (as := [.inr (.inl (some 30)), .inl (.inl p1), .inl (.inl r2)]) (T := []) rfl rfl (fun C hC => cl_v hC rfl rfl rfl rfl) rfl (q_World_addToHabit isW_30 h) (fun M6 h => ?_)
        refine pM_aln rfl rfl rfl ?_
        refine pM_gr rfl rfl rfl rfl ?_
        refine pM_qVi (as := [.inr (.inl (some 3))]) (T := []) rfl rfl (fun C hC => cl_v hC rfl rfl rfl rfl) rfl (q_Text_kind ) ?_
        refine pM_bi rfl kb_20 ?_
        refine pM_ceq rfl rfl (fun h7 => ?_) (fun h7 => ?_)
        · replace h := h.1 h7
          refine pM_ii rfl rfl rfl ki_1 ?_
          refine pM_go rfl rfl ?_
          refine pM_w (F2 := [(0, .inr (.inl (some 43))), (1, .inl (.inl p1)), (2, .inl (.inl (v2 + 1)))]) (fun L hL => lo_cons (lo_lk hL rfl) (lo_cons (lo_lk hL rfl) (lo_cons (lo_lk hL rfl) lo_nil))) ?_
          exact IH hN (v2 + 1) M6 h
        · replace h := h.2 h7
          refine pM_ic rfl ki_1 ?_
          exact pM_ri rfl (⟨_, rfl, h⟩)
      · replace h := h.1 h4
        refine pM_ic rfl ki_0 ?_
        exact pM_ri rfl (⟨_, rfl, h⟩)
/-- 74: EarCode$RepublicReader.readHabit(I)Z -/
def W_RepublicReader_readHabit (p1 : Int32) (N : Nat) (M : MM) (Q : Int32 → MM → Prop) : Prop :=
  W_RepublicReader_readHabit_2 p1 Q N 0 M
theorem q_RepublicReader_readHabit {X : Option (List AI)} {N : Nat} {M : MM} {p1 : Int32} {Q : Int32 → MM → Prop}  (h : W_RepublicReader_readHabit p1 N M Q) : pM X N 74 0 (ea_ar 0 [.inr (.inl (some 43)), .inl (.inl p1)]) [] M (Ri Q) := by
  refine pM_w (F2 := [(0, .inr (.inl (some 43))), (1, .inl (.inl p1))]) (fun L hL => lo_cons (lo_lk hL rfl) (lo_cons (lo_lk hL rfl) lo_nil)) ?_
  refine pM_ic rfl ki_0 ?_
  refine pM_isn rfl rfl ?_
  refine pM_w (F2 := [(0, .inr (.inl (some 43))), (1, .inl (.inl p1)), (2, .inl (.inl 0))]) (fun L hL => lo_cons (lo_lk hL rfl) (lo_cons (lo_lk hL rfl) (lo_cons (lo_lk hL rfl) lo_nil))) ?_
  refine q_RepublicReader_readHabit_2   N (Nat.le_refl N) 0 M h
def B_RepublicReader_readKnows_9 (p1 : Int32) (Q : Int32 → MM → Prop) (N : Nat) (ih : Int32 → MM → Prop) (v2 : Int32) (M : MM) : Prop :=
  ((v2 < 400 →
    W_Text_numberWithin 0 ((M.1 8 1) - 1) N M (fun r4 M5 =>
      ((r4 = (-1) →
        Q 0 M5) ∧
       (¬ r4 = (-1) →
        (((V_Text_kind  (wi M5 31 (ni p1) ((M5.1 31 (ni p1)) ||| (sl 1 r4)))) = 20 →
          ih (v2 + 1) (wi M5 31 (ni p1) ((M5.1 31 (ni p1)) ||| (sl 1 r4)))) ∧
         (¬ (V_Text_kind  (wi M5 31 (ni p1) ((M5.1 31 (ni p1)) ||| (sl 1 r4)))) = 20 →
          Q 1 (wi M5 31 (ni p1) ((M5.1 31 (ni p1)) ||| (sl 1 r4))))))))) ∧
   (¬ v2 < 400 →
    Q 0 M))
def W_RepublicReader_readKnows_9 (p1 : Int32) (Q : Int32 → MM → Prop) : Nat → Int32 → MM → Prop
  | 0, _, _ => True
  | N + 1, v2, M => B_RepublicReader_readKnows_9 p1 Q N (W_RepublicReader_readKnows_9 p1 Q N) v2 M
theorem I_RepublicReader_readKnows_9 (p1 : Int32) (Q : Int32 → MM → Prop) (inv : Int32 → MM → Prop) (hs : ∀ (N : Nat) (ih : Int32 → MM → Prop) (v2 : Int32) (M : MM), (∀ (v2 : Int32) (M : MM), inv v2 M → ih v2 M) → inv v2 M → B_RepublicReader_readKnows_9 p1 Q N ih v2 M) : ∀ (N : Nat) (v2 : Int32) (M : MM), inv v2 M → W_RepublicReader_readKnows_9 p1 Q N v2 M := by
  intro N
  induction N with
  | zero => intros; trivial
  | succ N IH =>
    intro v2 M h
    exact hs N _ v2 M IH h
theorem q_RepublicReader_readKnows_9 {X : Option (List AI)} {N0 : Nat} {p1 : Int32} {Q : Int32 → MM → Prop}   : ∀ (N : Nat), N ≤ N0 → ∀ (v2 : Int32) (M : MM), W_RepublicReader_readKnows_9 p1 Q N v2 M → pM X N 75 9 [(0, .inr (.inl (some 43))), (1, .inl (.inl p1)), (2, .inl (.inl v2))] [] M (Ri Q) := by
  intro N
  induction N with
  | zero => intros; exact pM_zero
  | succ N IH =>
    intro hN v2 M h
    replace hN := Nat.le_of_succ_le hN
    replace h : B_RepublicReader_readKnows_9 p1 Q N (W_RepublicReader_readKnows_9 p1 Q N) v2 M := h
    refine pM_s (pMs_iln rfl rfl ?_)
    refine pM_si rfl ks_400 ?_
    refine pM_cge rfl rfl (fun h3 => ?_) (fun h3 => ?_)
    · replace h := h.2 h3
      refine pM_ic rfl ki_0 ?_
      exact pM_ri rfl (⟨_, rfl, h⟩)
    · replace h := h.1 h3
      refine pM_aln rfl rfl rfl ?_
      refine pM_gr rfl rfl rfl rfl ?_
      refine pM_ic rfl ki_0 ?_
      refine pM_aln rfl rfl rfl ?_
      refine pM_gr rfl rfl rfl rfl ?_
      refine pM_gi rfl rfl rfl rfl ?_
      refine pM_ic rfl ki_1 ?_
      refine pM_sub rfl ?_
      refine pM_qRi (as := [.inr (.inl (some 3)), .inl (.inl 0), .inl (.inl ((M.1 8 1) - 1))]) (T := []) rfl rfl (fun C hC => cl_v hC rfl rfl rfl rfl) rfl (q_Text_numberWithin  h) (fun r4 M5 h => ?_)
      refine pM_isn rfl rfl ?_
      refine pM_iln rfl rfl ?_
      refine pM_ic rfl ki_m1 ?_
      refine pM_cne rfl rfl (fun h6 => ?_) (fun h6 => ?_)
      · replace h := h.2 h6
        refine pM_aln rfl rfl rfl ?_
        refine pM_gr rfl rfl rfl rfl ?_
        refine pM_gr rfl rfl rfl rfl ?_
        refine pM_iln rfl rfl ?_
        refine pM_p (pc' := 50) (S' := [.inl (.inl p1), .inr (.inl (some 31)), .inl (.inl p1), .inr (.inl (some 31))]) rfl rfl (fun _ => rfl) ?_
        refine pM_ai rfl rfl (one_p _) ?_
        refine pM_ic rfl ki_1 ?_
        refine pM_iln rfl rfl ?_
        refine pM_shl rfl ?_
        refine pM_or rfl ?_
        refine pM_sa rfl rfl (one_p _) ?_
        refine pM_aln rfl rfl rfl ?_
        refine pM_gr rfl rfl rfl rfl ?_
        refine pM_qVi (as := [.inr (.inl (some 3))]) (T := []) rfl rfl (fun C hC => cl_v hC rfl rfl rfl rfl) rfl (q_Text_kind ) ?_
        refine pM_bi rfl kb_20 ?_
        refine pM_ceq rfl rfl (fun h7 => ?_) (fun h7 => ?_)
        · replace h := h.1 h7
          refine pM_ii rfl rfl rfl ki_1 ?_
          refine pM_go rfl rfl ?_
          refine pM_w (F2 := [(0, .inr (.inl (some 43))), (1, .inl (.inl p1)), (2, .inl (.inl (v2 + 1)))]) (fun L hL => lo_cons (lo_lk hL rfl) (lo_cons (lo_lk hL rfl) (lo_cons (lo_lk hL rfl) lo_nil))) ?_
          exact IH hN (v2 + 1) (wi M5 31 (ni p1) ((M5.1 31 (ni p1)) ||| (sl 1 r4))) h
        · replace h := h.2 h7
          refine pM_ic rfl ki_1 ?_
          exact pM_ri rfl (⟨_, rfl, h⟩)
      · replace h := h.1 h6
        refine pM_ic rfl ki_0 ?_
        exact pM_ri rfl (⟨_, rfl, h⟩)
/-- 75: EarCode$RepublicReader.readKnows(I)Z -/
def W_RepublicReader_readKnows (p1 : Int32) (N : Nat) (M : MM) (Q : Int32 → MM → Prop) : Prop :=
  W_Text_goOn  N M (fun M2 =>
    W_RepublicReader_readKnows_9 p1 Q N 0 M2)
theorem q_RepublicReader_readKnows {X : Option (List AI)} {N : Nat} {M : MM} {p1 : Int32} {Q : Int32 → MM → Prop}  (h : W_RepublicReader_readKnows p1 N M Q) : pM X N 75 0 (ea_ar 0 [.inr (.inl (some 43)), .inl (.inl p1)]) [] M (Ri Q) := by
  refine pM_w (F2 := [(0, .inr (.inl (some 43))), (1, .inl (.inl p1))]) (fun L hL => lo_cons (lo_lk hL rfl) (lo_cons (lo_lk hL rfl) lo_nil)) ?_
  refine pM_aln rfl rfl rfl ?_
  refine pM_gr rfl rfl rfl rfl ?_
  refine pM_qRu (as := [.inr (.inl (some 3))]) (T := []) rfl rfl (fun C hC => cl_v hC rfl rfl rfl rfl) rfl (q_Text_goOn  h) (fun M2 h => ?_)
  refine pM_ic rfl ki_0 ?_
  refine pM_isn rfl rfl ?_
  refine pM_w (F2 := [(0, .inr (.inl (some 43))), (1, .inl (.inl p1)), (2, .inl (.inl 0))]) (fun L hL => lo_cons (lo_lk hL rfl) (lo_cons (lo_lk hL rfl) (lo_cons (lo_lk hL rfl) lo_nil))) ?_
  refine q_RepublicReader_readKnows_9   N (Nat.le_refl N) 0 M2 h
