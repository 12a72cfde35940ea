/-! WHAT EACH METHOD COMES TO (gw.py) -/
/-- 47: EarCode$Log.add(IIII)V -/
def W_Log_add (a : Nat) (p1 : Int32) (p2 : Int32) (p3 : Int32) (p4 : Int32) (N : Nat) (M : MM) (Q : MM → Prop) : Prop :=
  Q (wi (wi (wi (wi (wi (wi M (a + 1) (ni ((M.1 a 2) * 4)) p1) (a + 1) (ni (((M.1 a 2) * 4) + 1)) p2) (a + 1) (ni (((M.1 a 2) * 4) + 2)) p3) (a + 1) (ni (((M.1 a 2) * 4) + 3)) p4) a 2 (rm (((wi (wi (wi (wi M (a + 1) (ni ((M.1 a 2) * 4)) p1) (a + 1) (ni (((M.1 a 2) * 4) + 1)) p2) (a + 1) (ni (((M.1 a 2) * 4) + 2)) p3) (a + 1) (ni (((M.1 a 2) * 4) + 3)) p4).1 a 2) + 1) 60)) a 1 (mn (((wi (wi (wi (wi (wi M (a + 1) (ni ((M.1 a 2) * 4)) p1) (a + 1) (ni (((M.1 a 2) * 4) + 1)) p2) (a + 1) (ni (((M.1 a 2) * 4) + 2)) p3) (a + 1) (ni (((M.1 a 2) * 4) + 3)) p4) a 2 (rm (((wi (wi (wi (wi M (a + 1) (ni ((M.1 a 2) * 4)) p1) (a + 1) (ni (((M.1 a 2) * 4) + 1)) p2) (a + 1) (ni (((M.1 a 2) * 4) + 2)) p3) (a + 1) (ni (((M.1 a 2) * 4) + 3)) p4).1 a 2) + 1) 60)).1 a 1) + 1) 60))
theorem q_Log_add {X : Option (List AI)} {N : Nat} {M : MM} {a : Nat} {p1 : Int32} {p2 : Int32} {p3 : Int32} {p4 : Int32} {Q : MM → Prop} (ha : isG a) (h : W_Log_add a p1 p2 p3 p4 N M Q) : pM X N 47 0 (ea_ar 0 [.inr (.inl (some a)), .inl (.inl p1), .inl (.inl p2), .inl (.inl p3), .inl (.inl p4)]) [] M (Ru Q) := by
  refine pM_w (F2 := [(0, .inr (.inl (some a))), (1, .inl (.inl p1)), (2, .inl (.inl p2)), (3, .inl (.inl p3)), (4, .inl (.inl p4))]) (fun L hL => lo_cons (lo_lk hL rfl) (lo_cons (lo_lk hL rfl) (lo_cons (lo_lk hL rfl) (lo_cons (lo_lk hL rfl) (lo_cons (lo_lk hL rfl) lo_nil))))) ?_
  refine pM_aln rfl rfl rfl ?_
  refine pM_gi rfl rfl ha.1 rfl ?_
  refine pM_ic rfl ki_4 ?_
  refine pM_mul rfl ?_
  refine pM_is rfl rfl ?_
  refine pM_aln rfl rfl rfl ?_
  refine pM_gr rfl rfl ha.1 rfl ?_
  refine pM_il rfl rfl ?_
  refine pM_iln rfl rfl ?_
  refine pM_sa rfl ha.2 (one_p _) ?_
  refine pM_aln rfl rfl rfl ?_
  refine pM_gr rfl rfl ha.1 rfl ?_
  refine pM_il rfl rfl ?_
  refine pM_ic rfl ki_1 ?_
  refine pM_add rfl ?_
  refine pM_iln rfl rfl ?_
  refine pM_sa rfl ha.2 (one_p _) ?_
  refine pM_aln rfl rfl rfl ?_
  refine pM_gr rfl rfl ha.1 rfl ?_
  refine pM_il rfl rfl ?_
  refine pM_ic rfl ki_2 ?_
  refine pM_add rfl ?_
  refine pM_iln rfl rfl ?_
  refine pM_sa rfl ha.2 (one_p _) ?_
  refine pM_aln rfl rfl rfl ?_
  refine pM_gr rfl rfl ha.1 rfl ?_
  refine pM_il rfl rfl ?_
  refine pM_ic rfl ki_3 ?_
  refine pM_add rfl ?_
  refine pM_il rfl rfl ?_
  refine pM_sa rfl ha.2 (one_p _) ?_
  refine pM_aln rfl rfl rfl ?_
  refine pM_aln rfl rfl rfl ?_
  refine pM_gi rfl rfl ha.1 rfl ?_
  refine pM_ic rfl ki_1 ?_
  refine pM_add rfl ?_
  refine pM_bi rfl kb_60 ?_
  refine pM_rem rfl ?_
  refine pM_pi rfl rfl ha.1 rfl ?_
  refine pM_aln rfl rfl rfl ?_
  refine pM_aln rfl rfl rfl ?_
  refine pM_gi rfl rfl ha.1 rfl ?_
  refine pM_ic rfl ki_1 ?_
  refine pM_add rfl ?_
  refine pM_bi rfl kb_60 ?_
  refine pM_mn rfl rfl ?_
  refine pM_pi rfl rfl ha.1 rfl ?_
  exact pM_ru rfl (⟨rfl, h⟩)
/-- 48: EarCode$Log.entry(II)I -/
def V_Log_entry (a : Nat) (p1 : Int32) (p2 : Int32) (M : MM) : Int32 :=
  (if p1 < 0 then
    (-1)
  else
    (if p1 < (M.1 a 1) then
      (M.1 (a + 1) (ni (((rm ((((M.1 a 2) + 60) - 1) - p1) 60) * 4) + p2)))
    else
      (-1)))
theorem q_Log_entry {X : Option (List AI)} {N : Nat} {M : MM} {a : Nat} {p1 : Int32} {p2 : Int32} (ha : isG a) : pM X N 48 0 (ea_ar 0 [.inr (.inl (some a)), .inl (.inl p1), .inl (.inl p2)]) [] M (Vi (V_Log_entry a p1 p2 M) M) := by
  refine pM_w (F2 := [(0, .inr (.inl (some a))), (1, .inl (.inl p1)), (2, .inl (.inl p2))]) (fun L hL => lo_cons (lo_lk hL rfl) (lo_cons (lo_lk hL rfl) (lo_cons (lo_lk hL rfl) lo_nil))) ?_
  refine pM_iln rfl rfl ?_
  refine pM_zlt rfl rfl (fun h1 => ?_) (fun h1 => ?_)
  · refine pM_ic rfl ki_m1 ?_
    exact pM_rVi rfl (Eq.trans (if_pos h1) rfl)
  · refine pM_iln rfl rfl ?_
    refine pM_aln rfl rfl rfl ?_
    refine pM_gi rfl rfl ha.1 rfl ?_
    refine pM_clt rfl rfl (fun h2 => ?_) (fun h2 => ?_)
    · refine pM_aln rfl rfl rfl ?_
      refine pM_gr rfl rfl ha.1 rfl ?_
      refine pM_aln rfl rfl rfl ?_
      refine pM_gi rfl rfl ha.1 rfl ?_
      refine pM_bi rfl kb_60 ?_
      refine pM_add rfl ?_
      refine pM_ic rfl ki_1 ?_
      refine pM_sub rfl ?_
      refine pM_iln rfl rfl ?_
      refine pM_sub rfl ?_
      refine pM_bi rfl kb_60 ?_
      refine pM_rem rfl ?_
      refine pM_ic rfl ki_4 ?_
      refine pM_mul rfl ?_
      refine pM_iln rfl rfl ?_
      refine pM_add rfl ?_
      refine pM_ai rfl ha.2 (one_p _) ?_
      exact pM_rVi rfl (Eq.trans (if_neg h1) (Eq.trans (if_pos h2) rfl))
    · refine pM_ic rfl ki_m1 ?_
      exact pM_rVi rfl (Eq.trans (if_neg h1) (Eq.trans (if_neg h2) rfl))
def B_Log_clausesOf_4 (a : Nat) (p1 : Int32) (M : MM) (Q : Int32 → Prop) (N : Nat) (ih : Int32 → Int32 → Prop) (v2 : Int32) (v3 : Int32) : Prop :=
  ((v3 < (M.1 a 1) →
    ((p1 = (-1) →
      ih (v2 ||| (sl 1 (V_Log_entry a v3 3 M))) (v3 + 1)) ∧
     (¬ p1 = (-1) →
      (((V_Log_entry a v3 1 M) = p1 →
        ih (v2 ||| (sl 1 (V_Log_entry a v3 3 M))) (v3 + 1)) ∧
       (¬ (V_Log_entry a v3 1 M) = p1 →
        ih v2 (v3 + 1)))))) ∧
   (¬ v3 < (M.1 a 1) →
    Q v2))
def W_Log_clausesOf_4 (a : Nat) (p1 : Int32) (M : MM) (Q : Int32 → Prop) : Nat → Int32 → Int32 → Prop
  | 0, _, _ => True
  | N + 1, v2, v3 => B_Log_clausesOf_4 a p1 M Q N (W_Log_clausesOf_4 a p1 M Q N) v2 v3
theorem I_Log_clausesOf_4 (a : Nat) (p1 : Int32) (M : MM) (Q : Int32 → Prop) (inv : Int32 → Int32 → Prop) (hs : ∀ (N : Nat) (ih : Int32 → Int32 → Prop) (v2 : Int32) (v3 : Int32), (∀ (v2 : Int32) (v3 : Int32), inv v2 v3 → ih v2 v3) → inv v2 v3 → B_Log_clausesOf_4 a p1 M Q N ih v2 v3) : ∀ (N : Nat) (v2 : Int32) (v3 : Int32), inv v2 v3 → W_Log_clausesOf_4 a p1 M Q N v2 v3 := by
  intro N
  induction N with
  | zero => intros; trivial
  | succ N IH =>
    intro v2 v3 h
    exact hs N _ v2 v3 IH h
theorem q_Log_clausesOf_4 {X : Option (List AI)} {N0 : Nat} {a : Nat} {p1 : Int32} {M : MM} {Q : Int32 → Prop} (ha : isG a)  : ∀ (N : Nat), N ≤ N0 → ∀ (v2 : Int32) (v3 : Int32), W_Log_clausesOf_4 a p1 M Q N v2 v3 → pM X N 49 4 [(0, .inr (.inl (some a))), (1, .inl (.inl p1)), (2, .inl (.inl v2)), (3, .inl (.inl v3))] [] M (Pi Q M) := by
  intro N
  induction N with
  | zero => intros; exact pM_zero
  | succ N IH =>
    intro hN v2 v3 h
    replace hN := Nat.le_of_succ_le hN
    replace h : B_Log_clausesOf_4 a p1 M Q N (W_Log_clausesOf_4 a p1 M Q N) v2 v3 := h
    refine pM_s (pMs_iln rfl rfl ?_)
    refine pM_aln rfl rfl rfl ?_
    refine pM_gi rfl rfl ha.1 rfl ?_
    refine pM_cge rfl rfl (fun h1 => ?_) (fun h1 => ?_)
    · replace h := h.2 h1
      refine pM_iln rfl rfl ?_
      exact pM_ri rfl (⟨_, rfl, rfl, h⟩)
    · replace h := h.1 h1
      refine pM_iln rfl rfl ?_
      refine pM_ic rfl ki_m1 ?_
      refine pM_ceq rfl rfl (fun h2 => ?_) (fun h2 => ?_)
      · replace h := h.1 h2
        refine pM_iln rfl rfl ?_
        refine pM_ic rfl ki_1 ?_
        refine pM_aln rfl rfl rfl ?_
        refine pM_iln rfl rfl ?_
        refine pM_ic rfl ki_3 ?_
        refine pM_qVi (as := [.inr (.inl (some a)), .inl (.inl v3), .inl (.inl 3)]) (T := [.inl (.inl 1), .inl (.inl v2)]) rfl rfl (fun C hC => cl_v hC ha.1 rfl rfl rfl) rfl (q_Log_entry ha) ?_
        refine pM_shl rfl ?_
        refine pM_or rfl ?_
        refine pM_isn rfl rfl ?_
        refine pM_ii rfl rfl rfl ki_1 ?_
        refine pM_go rfl rfl ?_
        refine pM_w (F2 := [(0, .inr (.inl (some a))), (1, .inl (.inl p1)), (2, .inl (.inl (v2 ||| (sl 1 (V_Log_entry a v3 3 M))))), (3, .inl (.inl (v3 + 1)))]) (fun L hL => lo_cons (lo_lk hL rfl) (lo_cons (lo_lk hL rfl) (lo_cons (lo_lk hL rfl) (lo_cons (lo_lk hL rfl) lo_nil)))) ?_
        exact IH hN (v2 ||| (sl 1 (V_Log_entry a v3 3 M))) (v3 + 1) h
      · replace h := h.2 h2
        refine pM_aln rfl rfl rfl ?_
        refine pM_iln rfl rfl ?_
        refine pM_ic rfl ki_1 ?_
        refine pM_qVi (as := [.inr (.inl (some a)), .inl (.inl v3), .inl (.inl 1)]) (T := []) rfl rfl (fun C hC => cl_v hC ha.1 rfl rfl rfl) rfl (q_Log_entry ha) ?_
        refine pM_iln rfl rfl ?_
        refine pM_cne rfl rfl (fun h3 => ?_) (fun h3 => ?_)
        · replace h := h.2 h3
          refine pM_ii rfl rfl rfl ki_1 ?_
          refine pM_go rfl rfl ?_
          refine pM_w (F2 := [(0, .inr (.inl (some a))), (1, .inl (.inl p1)), (2, .inl (.inl v2)), (3, .inl (.inl (v3 + 1)))]) (fun L hL => lo_cons (lo_lk hL rfl) (lo_cons (lo_lk hL rfl) (lo_cons (lo_lk hL rfl) (lo_cons (lo_lk hL rfl) lo_nil)))) ?_
          exact IH hN v2 (v3 + 1) h
        · replace h := h.1 h3
          refine pM_iln rfl rfl ?_
          refine pM_ic rfl ki_1 ?_
          refine pM_aln rfl rfl rfl ?_
          refine pM_iln rfl rfl ?_
          refine pM_ic rfl ki_3 ?_
          refine pM_qVi (as := [.inr (.inl (some a)), .inl (.inl v3), .inl (.inl 3)]) (T := [.inl (.inl 1), .inl (.inl v2)]) rfl rfl (fun C hC => cl_v hC ha.1 rfl rfl rfl) rfl (q_Log_entry ha) ?_
          refine pM_shl rfl ?_
          refine pM_or rfl ?_
          refine pM_isn rfl rfl ?_
          refine pM_ii rfl rfl rfl ki_1 ?_
          refine pM_go rfl rfl ?_
          refine pM_w (F2 := [(0, .inr (.inl (some a))), (1, .inl (.inl p1)), (2, .inl (.inl (v2 ||| (sl 1 (V_Log_entry a v3 3 M))))), (3, .inl (.inl (v3 + 1)))]) (fun L hL => lo_cons (lo_lk hL rfl) (lo_cons (lo_lk hL rfl) (lo_cons (lo_lk hL rfl) (lo_cons (lo_lk hL rfl) lo_nil)))) ?_
          exact IH hN (v2 ||| (sl 1 (V_Log_entry a v3 3 M))) (v3 + 1) h
/-- 49: EarCode$Log.clausesOf(I)I -/
def W_Log_clausesOf (a : Nat) (p1 : Int32) (N : Nat) (M : MM) (Q : Int32 → Prop) : Prop :=
  W_Log_clausesOf_4 a p1 M Q N 0 0
theorem q_Log_clausesOf {X : Option (List AI)} {N : Nat} {M : MM} {a : Nat} {p1 : Int32} {Q : Int32 → Prop} (ha : isG a) (h : W_Log_clausesOf a p1 N M Q) : pM X N 49 0 (ea_ar 0 [.inr (.inl (some a)), .inl (.inl p1)]) [] M (Pi Q M) := by
  refine pM_w (F2 := [(0, .inr (.inl (some a))), (1, .inl (.inl p1))]) (fun L hL => lo_cons (lo_lk hL rfl) (lo_cons (lo_lk hL rfl) lo_nil)) ?_
  refine pM_ic rfl ki_0 ?_
  refine pM_isn rfl rfl ?_
  refine pM_ic rfl ki_0 ?_
  refine pM_isn rfl rfl ?_
  refine pM_w (F2 := [(0, .inr (.inl (some a))), (1, .inl (.inl p1)), (2, .inl (.inl 0)), (3, .inl (.inl 0))]) (fun L hL => lo_cons (lo_lk hL rfl) (lo_cons (lo_lk hL rfl) (lo_cons (lo_lk hL rfl) (lo_cons (lo_lk hL rfl) lo_nil)))) ?_
  refine q_Log_clausesOf_4 ha  N (Nat.le_refl N) 0 0 h
def B_Log_mostFrequentClause_18 (a : Nat) (u1 : Int32) (u2 : Int32) (u3 : Int32) (M : MM) (k47 : Int32 → Prop) (Q : Int32 → Prop) (N : Nat) (ih : Int32 → Int32 → Prop) (v4 : Int32) (v5 : Int32) : Prop :=
  ((v5 < (M.1 a 1) →
    (((V_Log_entry a v5 3 M) = u3 →
      ih (v4 + 1) (v5 + 1)) ∧
     (¬ (V_Log_entry a v5 3 M) = u3 →
      ih v4 (v5 + 1)))) ∧
   (¬ v5 < (M.1 a 1) →
    k47 v4))
def W_Log_mostFrequentClause_18 (a : Nat) (u1 : Int32) (u2 : Int32) (u3 : Int32) (M : MM) (k47 : Int32 → Prop) (Q : Int32 → Prop) : Nat → Int32 → Int32 → Prop
  | 0, _, _ => True
  | N + 1, v4, v5 => B_Log_mostFrequentClause_18 a u1 u2 u3 M k47 Q N (W_Log_mostFrequentClause_18 a u1 u2 u3 M k47 Q N) v4 v5
theorem I_Log_mostFrequentClause_18 (a : Nat) (u1 : Int32) (u2 : Int32) (u3 : Int32) (M : MM) (k47 : Int32 → Prop) (Q : Int32 → Prop) (inv : Int32 → Int32 → Prop) (hs : ∀ (N : Nat) (ih : Int32 → Int32 → Prop) (v4 : Int32) (v5 : Int32), (∀ (v4 : Int32) (v5 : Int32), inv v4 v5 → ih v4 v5) → inv v4 v5 → B_Log_mostFrequentClause_18 a u1 u2 u3 M k47 Q N ih v4 v5) : ∀ (N : Nat) (v4 : Int32) (v5 : Int32), inv v4 v5 → W_Log_mostFrequentClause_18 a u1 u2 u3 M k47 Q N v4 v5 := by
  intro N
  induction N with
  | zero => intros; trivial
  | succ N IH =>
    intro v4 v5 h
    exact hs N _ v4 v5 IH h
theorem q_Log_mostFrequentClause_18 {X : Option (List AI)} {N0 : Nat} {a : Nat} {u1 : Int32} {u2 : Int32} {u3 : Int32} {M : MM} {k47 : Int32 → Prop} {Q : Int32 → Prop} (ha : isG a) (hk47 : ∀ (v4 : Int32), k47 v4 → pM X N0 50 47 [(0, .inr (.inl (some a))), (1, .inl (.inl u1)), (2, .inl (.inl u2)), (3, .inl (.inl u3)), (4, .inl (.inl v4))] [] M (Pi Q M)) : ∀ (N : Nat), N ≤ N0 → ∀ (v4 : Int32) (v5 : Int32), W_Log_mostFrequentClause_18 a u1 u2 u3 M k47 Q N v4 v5 → pM X N 50 18 [(0, .inr (.inl (some a))), (1, .inl (.inl u1)), (2, .inl (.inl u2)), (3, .inl (.inl u3)), (4, .inl (.inl v4)), (5, .inl (.inl v5))] [] M (Pi Q M) := by
  intro N
  induction N with
  | zero => intros; exact pM_zero
  | succ N IH =>
    intro hN v4 v5 h
    replace hN := Nat.le_of_succ_le hN
    replace h : B_Log_mostFrequentClause_18 a u1 u2 u3 M k47 Q N (W_Log_mostFrequentClause_18 a u1 u2 u3 M k47 Q N) v4 v5 := h
    refine pM_s (pMs_il rfl rfl ?_)
    refine pM_aln rfl rfl rfl ?_
    refine pM_gi rfl rfl ha.1 rfl ?_
    refine pM_cge rfl rfl (fun h2 => ?_) (fun h2 => ?_)
    · replace h := h.2 h2
      refine pM_w (F2 := [(0, .inr (.inl (some a))), (1, .inl (.inl u1)), (2, .inl (.inl u2)), (3, .inl (.inl u3)), (4, .inl (.inl v4))]) (fun L hL => lo_cons (lo_lk hL rfl) (lo_cons (lo_lk hL rfl) (lo_cons (lo_lk hL rfl) (lo_cons (lo_lk hL rfl) (lo_cons (lo_lk hL rfl) lo_nil))))) ?_
      exact pM_le hN (hk47 _ h)
    · replace h := h.1 h2
      refine pM_aln rfl rfl rfl ?_
      refine pM_il rfl rfl ?_
      refine pM_ic rfl ki_3 ?_
      refine pM_qVi (as := [.inr (.inl (some a)), .inl (.inl v5), .inl (.inl 3)]) (T := []) rfl rfl (fun C hC => cl_v hC ha.1 rfl rfl rfl) rfl (q_Log_entry ha) ?_
      refine pM_iln rfl rfl ?_
      refine pM_cne rfl rfl (fun h3 => ?_) (fun h3 => ?_)
      · replace h := h.2 h3
        refine pM_ii rfl rfl rfl ki_1 ?_
        refine pM_go rfl rfl ?_
        refine pM_w (F2 := [(0, .inr (.inl (some a))), (1, .inl (.inl u1)), (2, .inl (.inl u2)), (3, .inl (.inl u3)), (4, .inl (.inl v4)), (5, .inl (.inl (v5 + 1)))]) (fun L hL => lo_cons (lo_lk hL rfl) (lo_cons (lo_lk hL rfl) (lo_cons (lo_lk hL rfl) (lo_cons (lo_lk hL rfl) (lo_cons (lo_lk hL rfl) (lo_cons (lo_lk hL rfl) lo_nil)))))) ?_
        exact IH hN v4 (v5 + 1) h
      · replace h := h.1 h3
        refine pM_ii rfl rfl rfl ki_1 ?_
        refine pM_ii rfl rfl rfl ki_1 ?_
        refine pM_go rfl rfl ?_
        refine pM_w (F2 := [(0, .inr (.inl (some a))), (1, .inl (.inl u1)), (2, .inl (.inl u2)), (3, .inl (.inl u3)), (4, .inl (.inl (v4 + 1))), (5, .inl (.inl (v5 + 1)))]) (fun L hL => lo_cons (lo_lk hL rfl) (lo_cons (lo_lk hL rfl) (lo_cons (lo_lk hL rfl) (lo_cons (lo_lk hL rfl) (lo_cons (lo_lk hL rfl) (lo_cons (lo_lk hL rfl) lo_nil)))))) ?_
        exact IH hN (v4 + 1) (v5 + 1) h
def B_Log_mostFrequentClause_6 (a : Nat) (M : MM) (Q : Int32 → Prop) (N : Nat) (ih : Int32 → Int32 → Int32 → Prop) (v1 : Int32) (v2 : Int32) (v3 : Int32) : Prop :=
  ((v3 < 12 →
    W_Log_mostFrequentClause_18 a v1 v2 v3 M (fun x4 =>
      ((v2 < x4 →
        ih v3 x4 (v3 + 1)) ∧
       (¬ v2 < x4 →
        ih v1 v2 (v3 + 1)))) Q N 0 0) ∧
   (¬ v3 < 12 →
    Q v1))
def W_Log_mostFrequentClause_6 (a : Nat) (M : MM) (Q : Int32 → Prop) : Nat → Int32 → Int32 → Int32 → Prop
  | 0, _, _, _ => True
  | N + 1, v1, v2, v3 => B_Log_mostFrequentClause_6 a M Q N (W_Log_mostFrequentClause_6 a M Q N) v1 v2 v3
theorem I_Log_mostFrequentClause_6 (a : Nat) (M : MM) (Q : Int32 → Prop) (inv : Int32 → Int32 → Int32 → Prop) (hs : ∀ (N : Nat) (ih : Int32 → Int32 → Int32 → Prop) (v1 : Int32) (v2 : Int32) (v3 : Int32), (∀ (v1 : Int32) (v2 : Int32) (v3 : Int32), inv v1 v2 v3 → ih v1 v2 v3) → inv v1 v2 v3 → B_Log_mostFrequentClause_6 a M Q N ih v1 v2 v3) : ∀ (N : Nat) (v1 : Int32) (v2 : Int32) (v3 : Int32), inv v1 v2 v3 → W_Log_mostFrequentClause_6 a M Q N v1 v2 v3 := by
  intro N
  induction N with
  | zero => intros; trivial
  | succ N IH =>
    intro v1 v2 v3 h
    exact hs N _ v1 v2 v3 IH h
theorem q_Log_mostFrequentClause_6 {X : Option (List AI)} {N0 : Nat} {a : Nat} {M : MM} {Q : Int32 → Prop} (ha : isG a)  : ∀ (N : Nat), N ≤ N0 → ∀ (v1 : Int32) (v2 : Int32) (v3 : Int32), W_Log_mostFrequentClause_6 a M Q N v1 v2 v3 → pM X N 50 6 [(0, .inr (.inl (some a))), (1, .inl (.inl v1)), (2, .inl (.inl v2)), (3, .inl (.inl v3))] [] M (Pi Q M) := by
  intro N
  induction N with
  | zero => intros; exact pM_zero
  | succ N IH =>
    intro hN v1 v2 v3 h
    replace hN := Nat.le_of_succ_le hN
    replace h : B_Log_mostFrequentClause_6 a M Q N (W_Log_mostFrequentClause_6 a M Q N) v1 v2 v3 := h
    refine pM_s (pMs_iln rfl rfl ?_)
    refine pM_bi rfl kb_12 ?_
    refine pM_cge rfl rfl (fun h1 => ?_) (fun h1 => ?_)
    · replace h := h.2 h1
      refine pM_iln rfl rfl ?_
      exact pM_ri rfl (⟨_, rfl, rfl, h⟩)
    · replace h := h.1 h1
      refine pM_ic rfl ki_0 ?_
      refine pM_is rfl rfl ?_
      refine pM_ic rfl ki_0 ?_
      refine pM_is rfl rfl ?_
      refine pM_w (F2 := [(0, .inr (.inl (some a))), (1, .inl (.inl v1)), (2, .inl (.inl v2)), (3, .inl (.inl v3)), (4, .inl (.inl 0)), (5, .inl (.inl 0))]) (fun L hL => lo_cons (lo_lk hL rfl) (lo_cons (lo_lk hL rfl) (lo_cons (lo_lk hL rfl) (lo_cons (lo_lk hL rfl) (lo_cons (lo_lk hL rfl) (lo_cons (lo_lk hL rfl) lo_nil)))))) ?_
      refine q_Log_mostFrequentClause_18 ha (fun x4 h => ?_) N (Nat.le_refl N) 0 0 h
      · refine pM_il rfl rfl ?_
        refine pM_iln rfl rfl ?_
        refine pM_cle rfl rfl (fun h5 => ?_) (fun h5 => ?_)
        · replace h := h.2 h5
          refine pM_ii rfl rfl rfl ki_1 ?_
          refine pM_go rfl rfl ?_
          refine pM_w (F2 := [(0, .inr (.inl (some a))), (1, .inl (.inl v1)), (2, .inl (.inl v2)), (3, .inl (.inl (v3 + 1)))]) (fun L hL => lo_cons (lo_lk hL rfl) (lo_cons (lo_lk hL rfl) (lo_cons (lo_lk hL rfl) (lo_cons (lo_lk hL rfl) lo_nil)))) ?_
          exact IH hN v1 v2 (v3 + 1) h
        · replace h := h.1 h5
          refine pM_il rfl rfl ?_
          refine pM_isn rfl rfl ?_
          refine pM_iln rfl rfl ?_
          refine pM_isn rfl rfl ?_
          refine pM_ii rfl rfl rfl ki_1 ?_
          refine pM_go rfl rfl ?_
          refine pM_w (F2 := [(0, .inr (.inl (some a))), (1, .inl (.inl v3)), (2, .inl (.inl x4)), (3, .inl (.inl (v3 + 1)))]) (fun L hL => lo_cons (lo_lk hL rfl) (lo_cons (lo_lk hL rfl) (lo_cons (lo_lk hL rfl) (lo_cons (lo_lk hL rfl) lo_nil)))) ?_
          exact IH hN v3 x4 (v3 + 1) h
/-- 50: EarCode$Log.mostFrequentClause()I -/
def W_Log_mostFrequentClause (a : Nat) (N : Nat) (M : MM) (Q : Int32 → Prop) : Prop :=
  W_Log_mostFrequentClause_6 a M Q N (-1) 0 0
theorem q_Log_mostFrequentClause {X : Option (List AI)} {N : Nat} {M : MM} {a : Nat} {Q : Int32 → Prop} (ha : isG a) (h : W_Log_mostFrequentClause a N M Q) : pM X N 50 0 (ea_ar 0 [.inr (.inl (some a))]) [] M (Pi Q M) := by
  refine pM_w (F2 := [(0, .inr (.inl (some a)))]) (fun L hL => lo_cons (lo_lk hL rfl) lo_nil) ?_
  refine pM_ic rfl ki_m1 ?_
  refine pM_isn rfl rfl ?_
  refine pM_ic rfl ki_0 ?_
  refine pM_isn rfl rfl ?_
  refine pM_ic rfl ki_0 ?_
  refine pM_isn rfl rfl ?_
  refine pM_w (F2 := [(0, .inr (.inl (some a))), (1, .inl (.inl (-1))), (2, .inl (.inl 0)), (3, .inl (.inl 0))]) (fun L hL => lo_cons (lo_lk hL rfl) (lo_cons (lo_lk hL rfl) (lo_cons (lo_lk hL rfl) (lo_cons (lo_lk hL rfl) lo_nil)))) ?_
  refine q_Log_mostFrequentClause_6 ha  N (Nat.le_refl N) (-1) 0 0 h
