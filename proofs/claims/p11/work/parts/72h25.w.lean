/-! WHAT EACH METHOD COMES TO (gw.py) -/
def B_m_goesRound_4 (Q : Int32 → MM → Prop) (N : Nat) (ih : Int32 → Int32 → MM → Prop) (v1 : Int32) (v2 : Int32) (M : MM) : Prop :=
  ((v2 < (V_m_citizens  M) →
    (((V_m_isAlive v2 M) = 0 →
      ((v1 = 0 →
        (((lg_cmp ((wj M 214 (ni v2) (M.2 213 (ni v2))).2 214 (ni v2)) ((wj M 214 (ni v2) (M.2 213 (ni v2))).2 213 (ni v2))) = 0 →
          ih 0 (v2 + 1) (wj M 214 (ni v2) (M.2 213 (ni v2)))) ∧
         (¬ (lg_cmp ((wj M 214 (ni v2) (M.2 213 (ni v2))).2 214 (ni v2)) ((wj M 214 (ni v2) (M.2 213 (ni v2))).2 213 (ni v2))) = 0 →
          ih 1 (v2 + 1) (wj M 214 (ni v2) (M.2 213 (ni v2)))))) ∧
       (¬ v1 = 0 →
        ih 1 (v2 + 1) (wj M 214 (ni v2) (M.2 213 (ni v2)))))) ∧
     (¬ (V_m_isAlive v2 M) = 0 →
      W_m_halfOfOthers v2 N M (fun r5 =>
        ((v1 = 0 →
          (((lg_cmp ((wj M 214 (ni v2) ((M.2 213 (ni v2)) ||| r5)).2 214 (ni v2)) ((wj M 214 (ni v2) ((M.2 213 (ni v2)) ||| r5)).2 213 (ni v2))) = 0 →
            ih 0 (v2 + 1) (wj M 214 (ni v2) ((M.2 213 (ni v2)) ||| r5))) ∧
           (¬ (lg_cmp ((wj M 214 (ni v2) ((M.2 213 (ni v2)) ||| r5)).2 214 (ni v2)) ((wj M 214 (ni v2) ((M.2 213 (ni v2)) ||| r5)).2 213 (ni v2))) = 0 →
            ih 1 (v2 + 1) (wj M 214 (ni v2) ((M.2 213 (ni v2)) ||| r5))))) ∧
         (¬ v1 = 0 →
          ih 1 (v2 + 1) (wj M 214 (ni v2) ((M.2 213 (ni v2)) ||| r5)))))))) ∧
   (¬ v2 < (V_m_citizens  M) →
    W_m_likensSeen 214 0 213 0 N M (fun M10 =>
      Q v1 M10)))
def W_m_goesRound_4 (Q : Int32 → MM → Prop) : Nat → Int32 → Int32 → MM → Prop
  | 0, _, _, _ => True
  | N + 1, v1, v2, M => B_m_goesRound_4 Q N (W_m_goesRound_4 Q N) v1 v2 M
theorem I_m_goesRound_4 (Q : Int32 → MM → Prop) (inv : Int32 → Int32 → MM → Prop) (hs : ∀ (N : Nat) (ih : Int32 → Int32 → MM → Prop) (v1 : Int32) (v2 : Int32) (M : MM), (∀ (v1 : Int32) (v2 : Int32) (M : MM), inv v1 v2 M → ih v1 v2 M) → inv v1 v2 M → B_m_goesRound_4 Q N ih v1 v2 M) : ∀ (N : Nat) (v1 : Int32) (v2 : Int32) (M : MM), inv v1 v2 M → W_m_goesRound_4 Q N v1 v2 M := by
  intro N
  induction N with
  | zero => intros; trivial
  | succ N IH =>
    intro v1 v2 M h
    exact hs N _ v1 v2 M IH h
theorem q_m_goesRound_4 {X : Option (List AI)} {N0 : Nat} {Q : Int32 → MM → Prop}   : ∀ (N : Nat), N ≤ N0 → ∀ (v1 : Int32) (v2 : Int32) (M : MM), W_m_goesRound_4 Q N v1 v2 M → pM X N 294 4 [(0, .inr (.inl (some 190))), (1, .inl (.inl v1)), (2, .inl (.inl v2))] [] M (Ri Q) := by
  intro N
  induction N with
  | zero => intros; exact pM_zero
  | succ N IH =>
    intro hN v1 v2 M h
    replace hN := Nat.le_of_succ_le hN
    replace h : B_m_goesRound_4 Q N (W_m_goesRound_4 Q N) v1 v2 M := h
    refine pM_s (pMs_iln rfl rfl ?_)
    refine pM_aln rfl rfl rfl ?_
    refine pM_qVi (as := [.inr (.inl (some 190))]) (T := [.inl (.inl v2)]) rfl rfl (fun C hC => cl_v hC rfl rfl rfl rfl) rfl (q_m_citizens ) ?_
    refine pM_cge rfl rfl (fun h1 => ?_) (fun h1 => ?_)
    · replace h := h.2 h1
      refine pM_aln rfl rfl rfl ?_
      refine pM_gr rfl rfl rfl rfl ?_
      refine pM_ic rfl ki_0 ?_
      refine pM_aln rfl rfl rfl ?_
      refine pM_gr rfl rfl rfl rfl ?_
      refine pM_ic rfl ki_0 ?_
      refine pM_qRu (as := [.inr (.inl (some 214)), .inl (.inl 0), .inr (.inl (some 213)), .inl (.inl 0)]) (T := []) rfl rfl (fun _ _ => rfl) rfl (q_m_likensSeen rfl rfl h) (fun M10 h => ?_)
      refine pM_iln rfl rfl ?_
      exact pM_ri rfl (⟨_, rfl, h⟩)
    · replace h := h.1 h1
      refine pM_aln rfl rfl rfl ?_
      refine pM_gr rfl rfl rfl rfl ?_
      refine pM_iln rfl rfl ?_
      refine pM_aln rfl rfl rfl ?_
      refine pM_iln rfl rfl ?_
      refine pM_qVi (as := [.inr (.inl (some 190)), .inl (.inl v2)]) (T := [.inl (.inl v2), .inr (.inl (some 214))]) rfl rfl (fun C hC => cl_v hC rfl rfl rfl rfl) rfl (q_m_isAlive ) ?_
      refine pM_zeq rfl rfl (fun h2 => ?_) (fun h2 => ?_)
      · replace h := h.1 h2
        refine pM_aln rfl rfl rfl ?_
        refine pM_gr rfl rfl rfl rfl ?_
        refine pM_iln rfl rfl ?_
        refine pM_la rfl rfl ?_
        refine pM_sg rfl rfl ?_
        refine pM_iln rfl rfl ?_
        refine pM_zne rfl rfl (fun h3 => ?_) (fun h3 => ?_)
        · replace h := h.2 h3
          refine pM_ic rfl ki_1 ?_
          refine pM_go rfl rfl ?_
          refine pM_isn rfl rfl ?_
          refine pM_ii rfl rfl rfl ki_1 ?_
          refine pM_go rfl rfl ?_
          refine pM_w (F2 := [(0, .inr (.inl (some 190))), (1, .inl (.inl 1)), (2, .inl (.inl (v2 + 1)))]) (fun L hL => lo_cons (lo_lk hL rfl) (lo_cons (lo_lk hL rfl) (lo_cons (lo_lk hL rfl) lo_nil))) ?_
          exact IH hN 1 (v2 + 1) (wj M 214 (ni v2) (M.2 213 (ni v2))) h
        · replace h := h.1 h3
          refine pM_aln rfl rfl rfl ?_
          refine pM_gr rfl rfl rfl rfl ?_
          refine pM_iln rfl rfl ?_
          refine pM_la rfl rfl ?_
          refine pM_aln rfl rfl rfl ?_
          refine pM_gr rfl rfl rfl rfl ?_
          refine pM_iln rfl rfl ?_
          refine pM_la rfl rfl ?_
          refine pM_p (pc' := 64) (S' := [.inl (.inl (lg_cmp ((wj M 214 (ni v2) (M.2 213 (ni v2))).2 214 (ni v2)) ((wj M 214 (ni v2) (M.2 213 (ni v2))).2 213 (ni v2))))]) rfl rfl (fun _ => rfl) ?_
          refine pM_zeq rfl rfl (fun h4 => ?_) (fun h4 => ?_)
          · replace h := h.1 h4
            refine pM_ic rfl ki_0 ?_
            refine pM_isn rfl rfl ?_
            refine pM_ii rfl rfl rfl ki_1 ?_
            refine pM_go rfl rfl ?_
            refine pM_w (F2 := [(0, .inr (.inl (some 190))), (1, .inl (.inl 0)), (2, .inl (.inl (v2 + 1)))]) (fun L hL => lo_cons (lo_lk hL rfl) (lo_cons (lo_lk hL rfl) (lo_cons (lo_lk hL rfl) lo_nil))) ?_
            exact IH hN 0 (v2 + 1) (wj M 214 (ni v2) (M.2 213 (ni v2))) h
          · replace h := h.2 h4
            refine pM_ic rfl ki_1 ?_
            refine pM_go rfl rfl ?_
            refine pM_isn rfl rfl ?_
            refine pM_ii rfl rfl rfl ki_1 ?_
            refine pM_go rfl rfl ?_
            refine pM_w (F2 := [(0, .inr (.inl (some 190))), (1, .inl (.inl 1)), (2, .inl (.inl (v2 + 1)))]) (fun L hL => lo_cons (lo_lk hL rfl) (lo_cons (lo_lk hL rfl) (lo_cons (lo_lk hL rfl) lo_nil))) ?_
            exact IH hN 1 (v2 + 1) (wj M 214 (ni v2) (M.2 213 (ni v2))) h
      · replace h := h.2 h2
        refine pM_aln rfl rfl rfl ?_
        refine pM_gr rfl rfl rfl rfl ?_
        refine pM_iln rfl rfl ?_
        refine pM_la rfl rfl ?_
        refine pM_aln rfl rfl rfl ?_
        refine pM_iln rfl rfl ?_
        refine pM_qPl (as := [.inr (.inl (some 190)), .inl (.inl v2)]) (T := [.inr (.inr (.inl (some (M.2 213 (ni v2))))), .inl (.inl v2), .inr (.inl (some 214))]) rfl rfl (fun C hC => cl_v hC rfl rfl rfl rfl) rfl (q_m_halfOfOthers  h) (fun r5 h => ?_)
        refine pM_p (pc' := 37) (S' := [.inr (.inr (.inl (some ((M.2 213 (ni v2)) ||| r5)))), .inl (.inl v2), .inr (.inl (some 214))]) rfl rfl (fun _ => rfl) ?_
        refine pM_go rfl rfl ?_
        refine pM_sg rfl rfl ?_
        refine pM_iln rfl rfl ?_
        refine pM_zne rfl rfl (fun h7 => ?_) (fun h7 => ?_)
        · replace h := h.2 h7
          refine pM_ic rfl ki_1 ?_
          refine pM_go rfl rfl ?_
          refine pM_isn rfl rfl ?_
          refine pM_ii rfl rfl rfl ki_1 ?_
          refine pM_go rfl rfl ?_
          refine pM_w (F2 := [(0, .inr (.inl (some 190))), (1, .inl (.inl 1)), (2, .inl (.inl (v2 + 1)))]) (fun L hL => lo_cons (lo_lk hL rfl) (lo_cons (lo_lk hL rfl) (lo_cons (lo_lk hL rfl) lo_nil))) ?_
          exact IH hN 1 (v2 + 1) (wj M 214 (ni v2) ((M.2 213 (ni v2)) ||| r5)) h
        · replace h := h.1 h7
          refine pM_aln rfl rfl rfl ?_
          refine pM_gr rfl rfl rfl rfl ?_
          refine pM_iln rfl rfl ?_
          refine pM_la rfl rfl ?_
          refine pM_aln rfl rfl rfl ?_
          refine pM_gr rfl rfl rfl rfl ?_
          refine pM_iln rfl rfl ?_
          refine pM_la rfl rfl ?_
          refine pM_p (pc' := 64) (S' := [.inl (.inl (lg_cmp ((wj M 214 (ni v2) ((M.2 213 (ni v2)) ||| r5)).2 214 (ni v2)) ((wj M 214 (ni v2) ((M.2 213 (ni v2)) ||| r5)).2 213 (ni v2))))]) rfl rfl (fun _ => rfl) ?_
          refine pM_zeq rfl rfl (fun h8 => ?_) (fun h8 => ?_)
          · replace h := h.1 h8
            refine pM_ic rfl ki_0 ?_
            refine pM_isn rfl rfl ?_
            refine pM_ii rfl rfl rfl ki_1 ?_
            refine pM_go rfl rfl ?_
            refine pM_w (F2 := [(0, .inr (.inl (some 190))), (1, .inl (.inl 0)), (2, .inl (.inl (v2 + 1)))]) (fun L hL => lo_cons (lo_lk hL rfl) (lo_cons (lo_lk hL rfl) (lo_cons (lo_lk hL rfl) lo_nil))) ?_
            exact IH hN 0 (v2 + 1) (wj M 214 (ni v2) ((M.2 213 (ni v2)) ||| r5)) h
          · replace h := h.2 h8
            refine pM_ic rfl ki_1 ?_
            refine pM_go rfl rfl ?_
            refine pM_isn rfl rfl ?_
            refine pM_ii rfl rfl rfl ki_1 ?_
            refine pM_go rfl rfl ?_
            refine pM_w (F2 := [(0, .inr (.inl (some 190))), (1, .inl (.inl 1)), (2, .inl (.inl (v2 + 1)))]) (fun L hL => lo_cons (lo_lk hL rfl) (lo_cons (lo_lk hL rfl) (lo_cons (lo_lk hL rfl) lo_nil))) ?_
            exact IH hN 1 (v2 + 1) (wj M 214 (ni v2) ((M.2 213 (ni v2)) ||| r5)) h
/-- 294: EarCodeModel.goesRound()Z -/
def W_m_goesRound  (N : Nat) (M : MM) (Q : Int32 → MM → Prop) : Prop :=
  W_m_goesRound_4 Q N 0 0 M
theorem q_m_goesRound {X : Option (List AI)} {N : Nat} {M : MM}  {Q : Int32 → MM → Prop}  (h : W_m_goesRound  N M Q) : pM X N 294 0 (ea_ar 0 [.inr (.inl (some 190))]) [] M (Ri Q) := by
  refine pM_w (F2 := [(0, .inr (.inl (some 190)))]) (fun L hL => lo_cons (lo_lk hL rfl) lo_nil) ?_
  refine pM_ic rfl ki_0 ?_
  refine pM_isn rfl rfl ?_
  refine pM_ic rfl ki_0 ?_
  refine pM_isn rfl rfl ?_
  refine pM_w (F2 := [(0, .inr (.inl (some 190))), (1, .inl (.inl 0)), (2, .inl (.inl 0))]) (fun L hL => lo_cons (lo_lk hL rfl) (lo_cons (lo_lk hL rfl) (lo_cons (lo_lk hL rfl) lo_nil))) ?_
  refine q_m_goesRound_4   N (Nat.le_refl N) 0 0 M h
def B_m_sumOf_4 (a : Nat) (M : MM) (Q : Int32 → Prop) (N : Nat) (ih : Int32 → Int32 → Prop) (v2 : Int32) (v3 : Int32) : Prop :=
  ((v3 < (V_m_citizens  M) →
    (((V_m_isAlive v3 M) = 0 →
      ih (v2 + 0) (v3 + 1)) ∧
     (¬ (V_m_isAlive v3 M) = 0 →
      ih (v2 + (V_Lng_bitCount (M.2 a (ni v3)) M)) (v3 + 1)))) ∧
   (¬ v3 < (V_m_citizens  M) →
    Q v2))
def W_m_sumOf_4 (a : Nat) (M : MM) (Q : Int32 → Prop) : Nat → Int32 → Int32 → Prop
  | 0, _, _ => True
  | N + 1, v2, v3 => B_m_sumOf_4 a M Q N (W_m_sumOf_4 a M Q N) v2 v3
theorem I_m_sumOf_4 (a : Nat) (M : MM) (Q : Int32 → Prop) (inv : Int32 → Int32 → Prop) (hs : ∀ (N : Nat) (ih : Int32 → Int32 → Prop) (v2 : Int32) (v3 : Int32), (∀ (v2 : Int32) (v3 : Int32), inv v2 v3 → ih v2 v3) → inv v2 v3 → B_m_sumOf_4 a M Q N ih v2 v3) : ∀ (N : Nat) (v2 : Int32) (v3 : Int32), inv v2 v3 → W_m_sumOf_4 a M Q N v2 v3 := by
  intro N
  induction N with
  | zero => intros; trivial
  | succ N IH =>
    intro v2 v3 h
    exact hs N _ v2 v3 IH h
theorem q_m_sumOf_4 {X : Option (List AI)} {N0 : Nat} {a : Nat} {M : MM} {Q : Int32 → Prop} {na : Nat} (ha : tb_G a = some (.inr (1, na, 1, [])))  : ∀ (N : Nat), N ≤ N0 → ∀ (v2 : Int32) (v3 : Int32), W_m_sumOf_4 a M Q N v2 v3 → pM X N 295 4 [(0, .inr (.inl (some 190))), (1, .inr (.inl (some a))), (2, .inl (.inl v2)), (3, .inl (.inl v3))] [] M (Pi Q M) := by
  intro N
  induction N with
  | zero => intros; exact pM_zero
  | succ N IH =>
    intro hN v2 v3 h
    replace hN := Nat.le_of_succ_le hN
    replace h : B_m_sumOf_4 a M Q N (W_m_sumOf_4 a M Q N) v2 v3 := h
    refine pM_s (pMs_iln rfl rfl ?_)
    refine pM_aln rfl rfl rfl ?_
    refine pM_qVi (as := [.inr (.inl (some 190))]) (T := [.inl (.inl v3)]) rfl rfl (fun C hC => cl_v hC rfl rfl rfl rfl) rfl (q_m_citizens ) ?_
    refine pM_cge rfl rfl (fun h1 => ?_) (fun h1 => ?_)
    · replace h := h.2 h1
      refine pM_iln rfl rfl ?_
      exact pM_ri rfl (⟨_, rfl, rfl, h⟩)
    · replace h := h.1 h1
      refine pM_iln rfl rfl ?_
      refine pM_aln rfl rfl rfl ?_
      refine pM_iln rfl rfl ?_
      refine pM_qVi (as := [.inr (.inl (some 190)), .inl (.inl v3)]) (T := [.inl (.inl v2)]) rfl rfl (fun C hC => cl_v hC rfl rfl rfl rfl) rfl (q_m_isAlive ) ?_
      refine pM_zeq rfl rfl (fun h2 => ?_) (fun h2 => ?_)
      · replace h := h.1 h2
        refine pM_ic rfl ki_0 ?_
        refine pM_add rfl ?_
        refine pM_isn rfl rfl ?_
        refine pM_ii rfl rfl rfl ki_1 ?_
        refine pM_go rfl rfl ?_
        refine pM_w (F2 := [(0, .inr (.inl (some 190))), (1, .inr (.inl (some a))), (2, .inl (.inl (v2 + 0))), (3, .inl (.inl (v3 + 1)))]) (fun L hL => lo_cons (lo_lk hL rfl) (lo_cons (lo_lk hL rfl) (lo_cons (lo_lk hL rfl) (lo_cons (lo_lk hL rfl) lo_nil)))) ?_
        exact IH hN (v2 + 0) (v3 + 1) h
      · replace h := h.2 h2
        refine pM_aln rfl rfl rfl ?_
        refine pM_iln rfl rfl ?_
        refine pM_la rfl ha ?_
        refine pM_qVi (as := [.inr (.inr (.inl (some (M.2 a (ni v3)))))]) (T := [.inl (.inl v2)]) rfl rfl (fun _ _ => rfl) rfl (q_Lng_bitCount ) ?_
        refine pM_go rfl rfl ?_
        refine pM_add rfl ?_
        refine pM_isn rfl rfl ?_
        refine pM_ii rfl rfl rfl ki_1 ?_
        refine pM_go rfl rfl ?_
        refine pM_w (F2 := [(0, .inr (.inl (some 190))), (1, .inr (.inl (some a))), (2, .inl (.inl (v2 + (V_Lng_bitCount (M.2 a (ni v3)) M)))), (3, .inl (.inl (v3 + 1)))]) (fun L hL => lo_cons (lo_lk hL rfl) (lo_cons (lo_lk hL rfl) (lo_cons (lo_lk hL rfl) (lo_cons (lo_lk hL rfl) lo_nil)))) ?_
        exact IH hN (v2 + (V_Lng_bitCount (M.2 a (ni v3)) M)) (v3 + 1) h
/-- 295: EarCodeModel.sumOf([J)I -/
def W_m_sumOf (a : Nat) (N : Nat) (M : MM) (Q : Int32 → Prop) : Prop :=
  W_m_sumOf_4 a M Q N 0 0
theorem q_m_sumOf {X : Option (List AI)} {N : Nat} {M : MM} {a : Nat} {Q : Int32 → Prop} {na : Nat} (ha : tb_G a = some (.inr (1, na, 1, []))) (h : W_m_sumOf a N M Q) : pM X N 295 0 (ea_ar 0 [.inr (.inl (some 190)), .inr (.inl (some a))]) [] M (Pi Q M) := by
  refine pM_w (F2 := [(0, .inr (.inl (some 190))), (1, .inr (.inl (some a)))]) (fun L hL => lo_cons (lo_lk hL rfl) (lo_cons (lo_lk hL rfl) lo_nil)) ?_
  refine pM_ic rfl ki_0 ?_
  refine pM_isn rfl rfl ?_
  refine pM_ic rfl ki_0 ?_
  refine pM_isn rfl rfl ?_
  refine pM_w (F2 := [(0, .inr (.inl (some 190))), (1, .inr (.inl (some a))), (2, .inl (.inl 0)), (3, .inl (.inl 0))]) (fun L hL => lo_cons (lo_lk hL rfl) (lo_cons (lo_lk hL rfl) (lo_cons (lo_lk hL rfl) (lo_cons (lo_lk hL rfl) lo_nil)))) ?_
  refine q_m_sumOf_4 ha  N (Nat.le_refl N) 0 0 h
def B_m_custom_45 (p1 : Int32) (Q : Int32 → MM → Prop) (N : Nat) (ih : Int32 → MM → Prop) (v2 : Int32) (M : MM) : Prop :=
  ((v2 < p1 →
    W_m_goesRound  N M (fun r8 M9 =>
      ih (v2 + 1) M9)) ∧
   (¬ v2 < p1 →
    W_m_sumOf 213 N M (fun r10 =>
      Q r10 M)))
def W_m_custom_45 (p1 : Int32) (Q : Int32 → MM → Prop) : Nat → Int32 → MM → Prop
  | 0, _, _ => True
  | N + 1, v2, M => B_m_custom_45 p1 Q N (W_m_custom_45 p1 Q N) v2 M
theorem I_m_custom_45 (p1 : Int32) (Q : Int32 → MM → Prop) (inv : Int32 → MM → Prop) (hs : ∀ (N : Nat) (ih : Int32 → MM → Prop) (v2 : Int32) (M : MM), (∀ (v2 : Int32) (M : MM), inv v2 M → ih v2 M) → inv v2 M → B_m_custom_45 p1 Q N ih v2 M) : ∀ (N : Nat) (v2 : Int32) (M : MM), inv v2 M → W_m_custom_45 p1 Q N v2 M := by
  intro N
  induction N with
  | zero => intros; trivial
  | succ N IH =>
    intro v2 M h
    exact hs N _ v2 M IH h
theorem q_m_custom_45 {X : Option (List AI)} {N0 : Nat} {p1 : Int32} {Q : Int32 → MM → Prop}   : ∀ (N : Nat), N ≤ N0 → ∀ (v2 : Int32) (M : MM), W_m_custom_45 p1 Q N v2 M → pM X N 296 45 [(0, .inr (.inl (some 190))), (1, .inl (.inl p1)), (2, .inl (.inl v2))] [] M (Ri Q) := by
  intro N
  induction N with
  | zero => intros; exact pM_zero
  | succ N IH =>
    intro hN v2 M h
    replace hN := Nat.le_of_succ_le hN
    replace h : B_m_custom_45 p1 Q N (W_m_custom_45 p1 Q N) v2 M := h
    refine pM_s (pMs_iln rfl rfl ?_)
    refine pM_iln rfl rfl ?_
    refine pM_cge rfl rfl (fun h7 => ?_) (fun h7 => ?_)
    · replace h := h.2 h7
      refine pM_aln rfl rfl rfl ?_
      refine pM_aln rfl rfl rfl ?_
      refine pM_gr rfl rfl rfl rfl ?_
      refine pM_qPi (as := [.inr (.inl (some 190)), .inr (.inl (some 213))]) (T := []) rfl rfl (fun C hC => cl_v hC rfl rfl rfl rfl) rfl (q_m_sumOf rfl h) (fun r10 h => ?_)
      exact pM_ri rfl (⟨_, rfl, h⟩)
    · replace h := h.1 h7
      refine pM_aln rfl rfl rfl ?_
      refine pM_qRi (as := [.inr (.inl (some 190))]) (T := []) rfl rfl (fun C hC => cl_v hC rfl rfl rfl rfl) rfl (q_m_goesRound  h) (fun r8 M9 h => ?_)
      refine pM_p (pc' := 55) (S' := []) rfl rfl (fun _ => rfl) ?_
      refine pM_ii rfl rfl rfl ki_1 ?_
      refine pM_go rfl rfl ?_
      refine pM_w (F2 := [(0, .inr (.inl (some 190))), (1, .inl (.inl p1)), (2, .inl (.inl (v2 + 1)))]) (fun L hL => lo_cons (lo_lk hL rfl) (lo_cons (lo_lk hL rfl) (lo_cons (lo_lk hL rfl) lo_nil))) ?_
      exact IH hN (v2 + 1) M9 h
/-- 296: EarCodeModel.custom(I)I -/
def W_m_custom (p1 : Int32) (N : Nat) (M : MM) (Q : Int32 → MM → Prop) : Prop :=
  (((V_m_in p1 0 30 (wi M 190 0 0)) = 0 →
    W_m_throwsIf 1 1 N (wi M 190 0 0) (fun r2 M3 =>
      ((r2 = 0 →
        W_m_likensSeen 196 0 213 0 N M3 (fun M6 =>
          W_m_custom_45 p1 Q N 0 M6)) ∧
       (¬ r2 = 0 →
        Q 0 M3)))) ∧
   (¬ (V_m_in p1 0 30 (wi M 190 0 0)) = 0 →
    W_m_throwsIf 0 1 N (wi M 190 0 0) (fun r12 M13 =>
      ((r12 = 0 →
        W_m_likensSeen 196 0 213 0 N M13 (fun M16 =>
          W_m_custom_45 p1 Q N 0 M16)) ∧
       (¬ r12 = 0 →
        Q 0 M13)))))
theorem q_m_custom {X : Option (List AI)} {N : Nat} {M : MM} {p1 : Int32} {Q : Int32 → MM → Prop}  (h : W_m_custom p1 N M Q) : pM X N 296 0 (ea_ar 0 [.inr (.inl (some 190)), .inl (.inl p1)]) [] M (Ri Q) := by
  refine pM_w (F2 := [(0, .inr (.inl (some 190))), (1, .inl (.inl p1))]) (fun L hL => lo_cons (lo_lk hL rfl) (lo_cons (lo_lk hL rfl) lo_nil)) ?_
  refine pM_aln rfl rfl rfl ?_
  refine pM_ic rfl ki_0 ?_
  refine pM_pi rfl rfl rfl rfl ?_
  refine pM_aln rfl rfl rfl ?_
  refine pM_iln rfl rfl ?_
  refine pM_ic rfl ki_0 ?_
  refine pM_bi rfl kb_30 ?_
  refine pM_qVi (as := [.inl (.inl p1), .inl (.inl 0), .inl (.inl 30)]) (T := [.inr (.inl (some 190))]) rfl rfl (fun _ _ => rfl) rfl (q_m_in ) ?_
  refine pM_zne rfl rfl (fun h1 => ?_) (fun h1 => ?_)
  · replace h := h.2 h1
    refine pM_ic rfl ki_0 ?_
    refine pM_ic rfl ki_1 ?_
    refine pM_qRi (as := [.inr (.inl (some 190)), .inl (.inl 0), .inl (.inl 1)]) (T := []) rfl rfl (fun C hC => cl_v hC rfl rfl rfl rfl) rfl (q_m_throwsIf  h) (fun r12 M13 h => ?_)
    refine pM_zeq rfl rfl (fun h14 => ?_) (fun h14 => ?_)
    · replace h := h.1 h14
      refine pM_aln rfl rfl rfl ?_
      refine pM_gr rfl rfl rfl rfl ?_
      refine pM_ic rfl ki_0 ?_
      refine pM_aln rfl rfl rfl ?_
      refine pM_gr rfl rfl rfl rfl ?_
      refine pM_ic rfl ki_0 ?_
      refine pM_qRu (as := [.inr (.inl (some 196)), .inl (.inl 0), .inr (.inl (some 213)), .inl (.inl 0)]) (T := []) rfl rfl (fun _ _ => rfl) rfl (q_m_likensSeen rfl rfl h) (fun M16 h => ?_)
      refine pM_ic rfl ki_0 ?_
      refine pM_isn rfl rfl ?_
      refine pM_w (F2 := [(0, .inr (.inl (some 190))), (1, .inl (.inl p1)), (2, .inl (.inl 0))]) (fun L hL => lo_cons (lo_lk hL rfl) (lo_cons (lo_lk hL rfl) (lo_cons (lo_lk hL rfl) lo_nil))) ?_
      refine q_m_custom_45   N (Nat.le_refl N) 0 M16 h
    · replace h := h.2 h14
      refine pM_ic rfl ki_0 ?_
      exact pM_ri rfl (⟨_, rfl, h⟩)
  · replace h := h.1 h1
    refine pM_ic rfl ki_1 ?_
    refine pM_go rfl rfl ?_
    refine pM_ic rfl ki_1 ?_
    refine pM_qRi (as := [.inr (.inl (some 190)), .inl (.inl 1), .inl (.inl 1)]) (T := []) rfl rfl (fun C hC => cl_v hC rfl rfl rfl rfl) rfl (q_m_throwsIf  h) (fun r2 M3 h => ?_)
    refine pM_zeq rfl rfl (fun h4 => ?_) (fun h4 => ?_)
    · replace h := h.1 h4
      refine pM_aln rfl rfl rfl ?_
      refine pM_gr rfl rfl rfl rfl ?_
      refine pM_ic rfl ki_0 ?_
      refine pM_aln rfl rfl rfl ?_
      refine pM_gr rfl rfl rfl rfl ?_
      refine pM_ic rfl ki_0 ?_
      refine pM_qRu (as := [.inr (.inl (some 196)), .inl (.inl 0), .inr (.inl (some 213)), .inl (.inl 0)]) (T := []) rfl rfl (fun _ _ => rfl) rfl (q_m_likensSeen rfl rfl h) (fun M6 h => ?_)
      refine pM_ic rfl ki_0 ?_
      refine pM_isn rfl rfl ?_
      refine pM_w (F2 := [(0, .inr (.inl (some 190))), (1, .inl (.inl p1)), (2, .inl (.inl 0))]) (fun L hL => lo_cons (lo_lk hL rfl) (lo_cons (lo_lk hL rfl) (lo_cons (lo_lk hL rfl) lo_nil))) ?_
      refine q_m_custom_45   N (Nat.le_refl N) 0 M6 h
    · replace h := h.2 h4
      refine pM_ic rfl ki_0 ?_
      exact pM_ri rfl (⟨_, rfl, h⟩)
def B_m_settles_20 (Q : Int32 → MM → Prop) (N : Nat) (ih : Int32 → MM → Prop) (v1 : Int32) (M : MM) : Prop :=
  ((30 < v1 →
    Q (-1) M) ∧
   (¬ 30 < v1 →
    W_m_goesRound  N M (fun r4 M5 =>
      ((r4 = 0 →
        Q v1 M5) ∧
       (¬ r4 = 0 →
        ih (v1 + 1) M5)))))
def W_m_settles_20 (Q : Int32 → MM → Prop) : Nat → Int32 → MM → Prop
  | 0, _, _ => True
  | N + 1, v1, M => B_m_settles_20 Q N (W_m_settles_20 Q N) v1 M
theorem I_m_settles_20 (Q : Int32 → MM → Prop) (inv : Int32 → MM → Prop) (hs : ∀ (N : Nat) (ih : Int32 → MM → Prop) (v1 : Int32) (M : MM), (∀ (v1 : Int32) (M : MM), inv v1 M → ih v1 M) → inv v1 M → B_m_settles_20 Q N ih v1 M) : ∀ (N : Nat) (v1 : Int32) (M : MM), inv v1 M → W_m_settles_20 Q N v1 M := by
  intro N
  induction N with
  | zero => intros; trivial
  | succ N IH =>
    intro v1 M h
    exact hs N _ v1 M IH h
theorem q_m_settles_20 {X : Option (List AI)} {N0 : Nat} {Q : Int32 → MM → Prop}   : ∀ (N : Nat), N ≤ N0 → ∀ (v1 : Int32) (M : MM), W_m_settles_20 Q N v1 M → pM X N 297 20 [(0, .inr (.inl (some 190))), (1, .inl (.inl v1))] [] M (Ri Q) := by
  intro N
  induction N with
  | zero => intros; exact pM_zero
  | succ N IH =>
    intro hN v1 M h
    replace hN := Nat.le_of_succ_le hN
    replace h : B_m_settles_20 Q N (W_m_settles_20 Q N) v1 M := h
    refine pM_s (pMs_iln rfl rfl ?_)
    refine pM_bi rfl kb_30 ?_
    refine pM_cgt rfl rfl (fun h3 => ?_) (fun h3 => ?_)
    · replace h := h.1 h3
      refine pM_ic rfl ki_m1 ?_
      exact pM_ri rfl (⟨_, rfl, h⟩)
    · replace h := h.2 h3
      refine pM_aln rfl rfl rfl ?_
      refine pM_qRi (as := [.inr (.inl (some 190))]) (T := []) rfl rfl (fun C hC => cl_v hC rfl rfl rfl rfl) rfl (q_m_goesRound  h) (fun r4 M5 h => ?_)
      refine pM_zne rfl rfl (fun h6 => ?_) (fun h6 => ?_)
      · replace h := h.2 h6
        refine pM_ii rfl rfl rfl ki_1 ?_
        refine pM_go rfl rfl ?_
        refine pM_w (F2 := [(0, .inr (.inl (some 190))), (1, .inl (.inl (v1 + 1)))]) (fun L hL => lo_cons (lo_lk hL rfl) (lo_cons (lo_lk hL rfl) lo_nil)) ?_
        exact IH hN (v1 + 1) M5 h
      · replace h := h.1 h6
        refine pM_iln rfl rfl ?_
        exact pM_ri rfl (⟨_, rfl, h⟩)
/-- 297: EarCodeModel.settles()I -/
def W_m_settles  (N : Nat) (M : MM) (Q : Int32 → MM → Prop) : Prop :=
  W_m_likensSeen 196 0 213 0 N (wi M 190 0 0) (fun M2 =>
    W_m_settles_20 Q N 0 M2)
theorem q_m_settles {X : Option (List AI)} {N : Nat} {M : MM}  {Q : Int32 → MM → Prop}  (h : W_m_settles  N M Q) : pM X N 297 0 (ea_ar 0 [.inr (.inl (some 190))]) [] M (Ri Q) := by
  refine pM_w (F2 := [(0, .inr (.inl (some 190)))]) (fun L hL => lo_cons (lo_lk hL rfl) lo_nil) ?_
  refine pM_aln rfl rfl rfl ?_
  refine pM_ic rfl ki_0 ?_
  refine pM_pi rfl rfl rfl rfl ?_
  refine pM_aln rfl rfl rfl ?_
  refine pM_gr rfl rfl rfl rfl ?_
  refine pM_ic rfl ki_0 ?_
  refine pM_aln rfl rfl rfl ?_
  refine pM_gr rfl rfl rfl rfl ?_
  refine pM_ic rfl ki_0 ?_
  refine pM_qRu (as := [.inr (.inl (some 196)), .inl (.inl 0), .inr (.inl (some 213)), .inl (.inl 0)]) (T := []) rfl rfl (fun _ _ => rfl) rfl (q_m_likensSeen rfl rfl h) (fun M2 h => ?_)
  refine pM_ic rfl ki_0 ?_
  refine pM_isn rfl rfl ?_
  refine pM_w (F2 := [(0, .inr (.inl (some 190))), (1, .inl (.inl 0))]) (fun L hL => lo_cons (lo_lk hL rfl) (lo_cons (lo_lk hL rfl) lo_nil)) ?_
  refine q_m_settles_20   N (Nat.le_refl N) 0 M2 h
/-- 298: EarCodeModel.worthOf(II)I -/
def W_m_worthOf (p1 : Int32) (p2 : Int32) (N : Nat) (M : MM) (Q : Int32 → MM → Prop) : Prop :=
  W_m_inForce  N M (fun r1 =>
    W_m_forbidsNow r1 (V_m_of p1 (7 + p2) M) p1 N M (fun r3 M4 =>
      ((r3 = 0 →
        Q (M.1 191 (ni (10 + ((V_m_of p1 (7 + p2) M) / 8)))) M4) ∧
       (¬ r3 = 0 →
        Q (-(M.1 191 (ni (10 + ((V_m_of p1 (7 + p2) M) / 8))))) M4))))
theorem q_m_worthOf {X : Option (List AI)} {N : Nat} {M : MM} {p1 : Int32} {p2 : Int32} {Q : Int32 → MM → Prop}  (h : W_m_worthOf p1 p2 N M Q) : pM X N 298 0 (ea_ar 0 [.inr (.inl (some 190)), .inl (.inl p1), .inl (.inl p2)]) [] M (Ri Q) := by
  refine pM_w (F2 := [(0, .inr (.inl (some 190))), (1, .inl (.inl p1)), (2, .inl (.inl p2))]) (fun L hL => lo_cons (lo_lk hL rfl) (lo_cons (lo_lk hL rfl) (lo_cons (lo_lk hL rfl) lo_nil))) ?_
  refine pM_aln rfl rfl rfl ?_
  refine pM_iln rfl rfl ?_
  refine pM_bi rfl kb_7 ?_
  refine pM_iln rfl rfl ?_
  refine pM_add rfl ?_
  refine pM_qVi (as := [.inr (.inl (some 190)), .inl (.inl p1), .inl (.inl (7 + p2))]) (T := []) rfl rfl (fun C hC => cl_v hC rfl rfl rfl rfl) rfl (q_m_of ) ?_
  refine pM_isn rfl rfl ?_
  refine pM_aln rfl rfl rfl ?_
  refine pM_gr rfl rfl rfl rfl ?_
  refine pM_bi rfl kb_10 ?_
  refine pM_iln rfl rfl ?_
  refine pM_bi rfl kb_8 ?_
  refine pM_div rfl ?_
  refine pM_add rfl ?_
  refine pM_ai rfl rfl row_p ?_
  refine pM_is rfl rfl ?_
  refine pM_aln rfl rfl rfl ?_
  refine pM_aln rfl rfl rfl ?_
  refine pM_qPi (as := [.inr (.inl (some 190))]) (T := [.inr (.inl (some 190))]) rfl rfl (fun C hC => cl_v hC rfl rfl rfl rfl) rfl (q_m_inForce  h) (fun r1 h => ?_)
  refine pM_iln rfl rfl ?_
  refine pM_iln rfl rfl ?_
  refine pM_qRi (as := [.inr (.inl (some 190)), .inl (.inl r1), .inl (.inl (V_m_of p1 (7 + p2) M)), .inl (.inl p1)]) (T := []) rfl rfl (fun C hC => cl_v hC rfl rfl rfl rfl) rfl (q_m_forbidsNow  h) (fun r3 M4 h => ?_)
  refine pM_zne rfl rfl (fun h5 => ?_) (fun h5 => ?_)
  · replace h := h.2 h5
    refine pM_il rfl rfl ?_
    refine pM_neg rfl ?_
    exact pM_ri rfl (⟨_, rfl, h⟩)
  · replace h := h.1 h5
    refine pM_il rfl rfl ?_
    refine pM_go rfl rfl ?_
    exact pM_ri rfl (⟨_, rfl, h⟩)
def B_m_worthiest_5 (p1 : Int32) (p2 : Int32) (Q : Int32 → MM → Prop) (N : Nat) (ih : Int32 → Int32 → MM → Prop) (v3 : Int32) (v4 : Int32) (M : MM) : Prop :=
  ((v4 < (V_m_of p1 5 M) →
    ((v4 = p2 →
      ih v3 (v4 + 1) M) ∧
     (¬ v4 = p2 →
      ((v3 < 0 →
        ih v4 (v4 + 1) M) ∧
       (¬ v3 < 0 →
        W_m_worthOf p1 v4 N M (fun r4 M5 =>
          W_m_worthOf p1 v3 N M5 (fun r6 M7 =>
            ((r6 < r4 →
              ih v4 (v4 + 1) M7) ∧
             (¬ r6 < r4 →
              ih v3 (v4 + 1) M7))))))))) ∧
   (¬ v4 < (V_m_of p1 5 M) →
    Q v3 M))
def W_m_worthiest_5 (p1 : Int32) (p2 : Int32) (Q : Int32 → MM → Prop) : Nat → Int32 → Int32 → MM → Prop
  | 0, _, _, _ => True
  | N + 1, v3, v4, M => B_m_worthiest_5 p1 p2 Q N (W_m_worthiest_5 p1 p2 Q N) v3 v4 M
theorem I_m_worthiest_5 (p1 : Int32) (p2 : Int32) (Q : Int32 → MM → Prop) (inv : Int32 → Int32 → MM → Prop) (hs : ∀ (N : Nat) (ih : Int32 → Int32 → MM → Prop) (v3 : Int32) (v4 : Int32) (M : MM), (∀ (v3 : Int32) (v4 : Int32) (M : MM), inv v3 v4 M → ih v3 v4 M) → inv v3 v4 M → B_m_worthiest_5 p1 p2 Q N ih v3 v4 M) : ∀ (N : Nat) (v3 : Int32) (v4 : Int32) (M : MM), inv v3 v4 M → W_m_worthiest_5 p1 p2 Q N v3 v4 M := by
  intro N
  induction N with
  | zero => intros; trivial
  | succ N IH =>
    intro v3 v4 M h
    exact hs N _ v3 v4 M IH h
theorem q_m_worthiest_5 {X : Option (List AI)} {N0 : Nat} {p1 : Int32} {p2 : Int32} {Q : Int32 → MM → Prop}   : ∀ (N : Nat), N ≤ N0 → ∀ (v3 : Int32) (v4 : Int32) (M : MM), W_m_worthiest_5 p1 p2 Q N v3 v4 M → pM X N 299 5 [(0, .inr (.inl (some 190))), (1, .inl (.inl p1)), (2, .inl (.inl p2)), (3, .inl (.inl v3)), (4, .inl (.inl v4))] [] M (Ri Q) := by
  intro N
  induction N with
  | zero => intros; exact pM_zero
  | succ N IH =>
    intro hN v3 v4 M h
    replace hN := Nat.le_of_succ_le hN
    replace h : B_m_worthiest_5 p1 p2 Q N (W_m_worthiest_5 p1 p2 Q N) v3 v4 M := h
    refine pM_s (pMs_il rfl rfl ?_)
    refine pM_aln rfl rfl rfl ?_
    refine pM_iln rfl rfl ?_
    refine pM_ic rfl ki_5 ?_
    refine pM_qVi (as := [.inr (.inl (some 190)), .inl (.inl p1), .inl (.inl 5)]) (T := [.inl (.inl v4)]) rfl rfl (fun C hC => cl_v hC rfl rfl rfl rfl) rfl (q_m_of ) ?_
    refine pM_cge rfl rfl (fun h1 => ?_) (fun h1 => ?_)
    · replace h := h.2 h1
      refine pM_iln rfl rfl ?_
      exact pM_ri rfl (⟨_, rfl, h⟩)
    · replace h := h.1 h1
      refine pM_il rfl rfl ?_
      refine pM_iln rfl rfl ?_
      refine pM_ceq rfl rfl (fun h2 => ?_) (fun h2 => ?_)
      · replace h := h.1 h2
        refine pM_ii rfl rfl rfl ki_1 ?_
        refine pM_go rfl rfl ?_
        refine pM_w (F2 := [(0, .inr (.inl (some 190))), (1, .inl (.inl p1)), (2, .inl (.inl p2)), (3, .inl (.inl v3)), (4, .inl (.inl (v4 + 1)))]) (fun L hL => lo_cons (lo_lk hL rfl) (lo_cons (lo_lk hL rfl) (lo_cons (lo_lk hL rfl) (lo_cons (lo_lk hL rfl) (lo_cons (lo_lk hL rfl) lo_nil))))) ?_
        exact IH hN v3 (v4 + 1) M h
      · replace h := h.2 h2
        refine pM_iln rfl rfl ?_
        refine pM_zlt rfl rfl (fun h3 => ?_) (fun h3 => ?_)
        · replace h := h.1 h3
          refine pM_il rfl rfl ?_
          refine pM_isn rfl rfl ?_
          refine pM_ii rfl rfl rfl ki_1 ?_
          refine pM_go rfl rfl ?_
          refine pM_w (F2 := [(0, .inr (.inl (some 190))), (1, .inl (.inl p1)), (2, .inl (.inl p2)), (3, .inl (.inl v4)), (4, .inl (.inl (v4 + 1)))]) (fun L hL => lo_cons (lo_lk hL rfl) (lo_cons (lo_lk hL rfl) (lo_cons (lo_lk hL rfl) (lo_cons (lo_lk hL rfl) (lo_cons (lo_lk hL rfl) lo_nil))))) ?_
          exact IH hN v4 (v4 + 1) M h
        · replace h := h.2 h3
          refine pM_aln rfl rfl rfl ?_
          refine pM_iln rfl rfl ?_
          refine pM_il rfl rfl ?_
          refine pM_qRi (as := [.inr (.inl (some 190)), .inl (.inl p1), .inl (.inl v4)]) (T := []) rfl rfl (fun C hC => cl_v hC rfl rfl rfl rfl) rfl (q_m_worthOf  h) (fun r4 M5 h => ?_)
          refine pM_aln rfl rfl rfl ?_
          refine pM_iln rfl rfl ?_
          refine pM_iln rfl rfl ?_
          refine pM_qRi (as := [.inr (.inl (some 190)), .inl (.inl p1), .inl (.inl v3)]) (T := [.inl (.inl r4)]) rfl rfl (fun C hC => cl_v hC rfl rfl rfl rfl) rfl (q_m_worthOf  h) (fun r6 M7 h => ?_)
          refine pM_cle rfl rfl (fun h8 => ?_) (fun h8 => ?_)
          · replace h := h.2 h8
            refine pM_ii rfl rfl rfl ki_1 ?_
            refine pM_go rfl rfl ?_
            refine pM_w (F2 := [(0, .inr (.inl (some 190))), (1, .inl (.inl p1)), (2, .inl (.inl p2)), (3, .inl (.inl v3)), (4, .inl (.inl (v4 + 1)))]) (fun L hL => lo_cons (lo_lk hL rfl) (lo_cons (lo_lk hL rfl) (lo_cons (lo_lk hL rfl) (lo_cons (lo_lk hL rfl) (lo_cons (lo_lk hL rfl) lo_nil))))) ?_
            exact IH hN v3 (v4 + 1) M7 h
          · replace h := h.1 h8
            refine pM_il rfl rfl ?_
            refine pM_isn rfl rfl ?_
            refine pM_ii rfl rfl rfl ki_1 ?_
            refine pM_go rfl rfl ?_
            refine pM_w (F2 := [(0, .inr (.inl (some 190))), (1, .inl (.inl p1)), (2, .inl (.inl p2)), (3, .inl (.inl v4)), (4, .inl (.inl (v4 + 1)))]) (fun L hL => lo_cons (lo_lk hL rfl) (lo_cons (lo_lk hL rfl) (lo_cons (lo_lk hL rfl) (lo_cons (lo_lk hL rfl) (lo_cons (lo_lk hL rfl) lo_nil))))) ?_
            exact IH hN v4 (v4 + 1) M7 h
/-- 299: EarCodeModel.worthiest(II)I -/
def W_m_worthiest (p1 : Int32) (p2 : Int32) (N : Nat) (M : MM) (Q : Int32 → MM → Prop) : Prop :=
  W_m_worthiest_5 p1 p2 Q N (-1) 0 M
theorem q_m_worthiest {X : Option (List AI)} {N : Nat} {M : MM} {p1 : Int32} {p2 : Int32} {Q : Int32 → MM → Prop}  (h : W_m_worthiest p1 p2 N M Q) : pM X N 299 0 (ea_ar 0 [.inr (.inl (some 190)), .inl (.inl p1), .inl (.inl p2)]) [] M (Ri Q) := by
  refine pM_w (F2 := [(0, .inr (.inl (some 190))), (1, .inl (.inl p1)), (2, .inl (.inl p2))]) (fun L hL => lo_cons (lo_lk hL rfl) (lo_cons (lo_lk hL rfl) (lo_cons (lo_lk hL rfl) lo_nil))) ?_
  refine pM_ic rfl ki_m1 ?_
  refine pM_isn rfl rfl ?_
  refine pM_ic rfl ki_0 ?_
  refine pM_is rfl rfl ?_
  refine pM_w (F2 := [(0, .inr (.inl (some 190))), (1, .inl (.inl p1)), (2, .inl (.inl p2)), (3, .inl (.inl (-1))), (4, .inl (.inl 0))]) (fun L hL => lo_cons (lo_lk hL rfl) (lo_cons (lo_lk hL rfl) (lo_cons (lo_lk hL rfl) (lo_cons (lo_lk hL rfl) (lo_cons (lo_lk hL rfl) lo_nil))))) ?_
  refine q_m_worthiest_5   N (Nat.le_refl N) (-1) 0 M h
/-- 300: EarCodeModel.provoked(IZ)I -/
def W_m_provoked (p1 : Int32) (p2 : Int32) (N : Nat) (M : MM) (Q : Int32 → MM → Prop) : Prop :=
  W_m_throwsIf (V_m_noCitizen p1 (wi M 190 0 0)) 1 N (wi M 190 0 0) (fun r1 M2 =>
    ((r1 = 0 →
      (((V_m_isAlive p1 M2) = 0 →
        W_m_throwsIf 1 2 N M2 (fun r5 M6 =>
          ((r5 = 0 →
            W_m_worthiest p1 (-1) N M6 (fun r8 M9 =>
              ((p2 = 0 →
                ((r8 < 0 →
                  Q 0 M9) ∧
                 (¬ r8 < 0 →
                  W_m_worthOf p1 r8 N M9 (fun r12 M13 =>
                    Q r12 M13)))) ∧
               (¬ p2 = 0 →
                W_m_worthiest p1 r8 N M9 (fun r14 M15 =>
                  ((r14 < 0 →
                    Q 0 M15) ∧
                   (¬ r14 < 0 →
                    W_m_worthOf p1 r14 N M15 (fun r17 M18 =>
                      Q r17 M18)))))))) ∧
           (¬ r5 = 0 →
            Q 0 M6)))) ∧
       (¬ (V_m_isAlive p1 M2) = 0 →
        W_m_throwsIf 0 2 N M2 (fun r19 M20 =>
          ((r19 = 0 →
            W_m_worthiest p1 (-1) N M20 (fun r22 M23 =>
              ((p2 = 0 →
                ((r22 < 0 →
                  Q 0 M23) ∧
                 (¬ r22 < 0 →
                  W_m_worthOf p1 r22 N M23 (fun r26 M27 =>
                    Q r26 M27)))) ∧
               (¬ p2 = 0 →
                W_m_worthiest p1 r22 N M23 (fun r28 M29 =>
                  ((r28 < 0 →
                    Q 0 M29) ∧
                   (¬ r28 < 0 →
                    W_m_worthOf p1 r28 N M29 (fun r31 M32 =>
                      Q r31 M32)))))))) ∧
           (¬ r19 = 0 →
            Q 0 M20)))))) ∧
     (¬ r1 = 0 →
      Q 0 M2)))
theorem q_m_provoked {X : Option (List AI)} {N : Nat} {M : MM} {p1 : Int32} {p2 : Int32} {Q : Int32 → MM → Prop}  (h : W_m_provoked p1 p2 N M Q) : pM X N 300 0 (ea_ar 0 [.inr (.inl (some 190)), .inl (.inl p1), .inl (.inl p2)]) [] M (Ri Q) := by
  refine pM_w (F2 := [(0, .inr (.inl (some 190))), (1, .inl (.inl p1)), (2, .inl (.inl p2))]) (fun L hL => lo_cons (lo_lk hL rfl) (lo_cons (lo_lk hL rfl) (lo_cons (lo_lk hL rfl) lo_nil))) ?_
  refine pM_aln rfl rfl rfl ?_
  refine pM_ic rfl ki_0 ?_
  refine pM_pi rfl rfl rfl rfl ?_
  refine pM_aln rfl rfl rfl ?_
  refine pM_aln rfl rfl rfl ?_
  refine pM_iln rfl rfl ?_
  refine pM_qVi (as := [.inr (.inl (some 190)), .inl (.inl p1)]) (T := [.inr (.inl (some 190))]) rfl rfl (fun C hC => cl_v hC rfl rfl rfl rfl) rfl (q_m_noCitizen ) ?_
  refine pM_ic rfl ki_1 ?_
  refine pM_qRi (as := [.inr (.inl (some 190)), .inl (.inl (V_m_noCitizen p1 (wi M 190 0 0))), .inl (.inl 1)]) (T := []) rfl rfl (fun C hC => cl_v hC rfl rfl rfl rfl) rfl (q_m_throwsIf  h) (fun r1 M2 h => ?_)
  refine pM_zne rfl rfl (fun h3 => ?_) (fun h3 => ?_)
  · replace h := h.2 h3
    refine pM_ic rfl ki_0 ?_
    exact pM_ri rfl (⟨_, rfl, h⟩)
  · replace h := h.1 h3
    refine pM_aln rfl rfl rfl ?_
    refine pM_aln rfl rfl rfl ?_
    refine pM_iln rfl rfl ?_
    refine pM_qVi (as := [.inr (.inl (some 190)), .inl (.inl p1)]) (T := [.inr (.inl (some 190))]) rfl rfl (fun C hC => cl_v hC rfl rfl rfl rfl) rfl (q_m_isAlive ) ?_
    refine pM_zne rfl rfl (fun h4 => ?_) (fun h4 => ?_)
    · replace h := h.2 h4
      refine pM_ic rfl ki_0 ?_
      refine pM_ic rfl ki_2 ?_
      refine pM_qRi (as := [.inr (.inl (some 190)), .inl (.inl 0), .inl (.inl 2)]) (T := []) rfl rfl (fun C hC => cl_v hC rfl rfl rfl rfl) rfl (q_m_throwsIf  h) (fun r19 M20 h => ?_)
      refine pM_zeq rfl rfl (fun h21 => ?_) (fun h21 => ?_)
      · replace h := h.1 h21
        refine pM_aln rfl rfl rfl ?_
        refine pM_iln rfl rfl ?_
        refine pM_ic rfl ki_m1 ?_
        refine pM_qRi (as := [.inr (.inl (some 190)), .inl (.inl p1), .inl (.inl (-1))]) (T := []) rfl rfl (fun C hC => cl_v hC rfl rfl rfl rfl) rfl (q_m_worthiest  h) (fun r22 M23 h => ?_)
        refine pM_isn rfl rfl ?_
        refine pM_iln rfl rfl ?_
        refine pM_zeq rfl rfl (fun h24 => ?_) (fun h24 => ?_)
        · replace h := h.1 h24
          refine pM_iln rfl rfl ?_
          refine pM_zge rfl rfl (fun h25 => ?_) (fun h25 => ?_)
          · replace h := h.2 h25
            refine pM_aln rfl rfl rfl ?_
            refine pM_iln rfl rfl ?_
            refine pM_iln rfl rfl ?_
            refine pM_qRi (as := [.inr (.inl (some 190)), .inl (.inl p1), .inl (.inl r22)]) (T := []) rfl rfl (fun C hC => cl_v hC rfl rfl rfl rfl) rfl (q_m_worthOf  h) (fun r26 M27 h => ?_)
            exact pM_ri rfl (⟨_, rfl, h⟩)
          · replace h := h.1 h25
            refine pM_ic rfl ki_0 ?_
            refine pM_go rfl rfl ?_
            exact pM_ri rfl (⟨_, rfl, h⟩)
        · replace h := h.2 h24
          refine pM_aln rfl rfl rfl ?_
          refine pM_iln rfl rfl ?_
          refine pM_iln rfl rfl ?_
          refine pM_qRi (as := [.inr (.inl (some 190)), .inl (.inl p1), .inl (.inl r22)]) (T := []) rfl rfl (fun C hC => cl_v hC rfl rfl rfl rfl) rfl (q_m_worthiest  h) (fun r28 M29 h => ?_)
          refine pM_isn rfl rfl ?_
          refine pM_iln rfl rfl ?_
          refine pM_zge rfl rfl (fun h30 => ?_) (fun h30 => ?_)
          · replace h := h.2 h30
            refine pM_aln rfl rfl rfl ?_
            refine pM_iln rfl rfl ?_
            refine pM_iln rfl rfl ?_
            refine pM_qRi (as := [.inr (.inl (some 190)), .inl (.inl p1), .inl (.inl r28)]) (T := []) rfl rfl (fun C hC => cl_v hC rfl rfl rfl rfl) rfl (q_m_worthOf  h) (fun r31 M32 h => ?_)
            exact pM_ri rfl (⟨_, rfl, h⟩)
          · replace h := h.1 h30
            refine pM_ic rfl ki_0 ?_
            refine pM_go rfl rfl ?_
            exact pM_ri rfl (⟨_, rfl, h⟩)
      · replace h := h.2 h21
        refine pM_ic rfl ki_0 ?_
        exact pM_ri rfl (⟨_, rfl, h⟩)
    · replace h := h.1 h4
      refine pM_ic rfl ki_1 ?_
      refine pM_go rfl rfl ?_
      refine pM_ic rfl ki_2 ?_
      refine pM_qRi (as := [.inr (.inl (some 190)), .inl (.inl 1), .inl (.inl 2)]) (T := []) rfl rfl (fun C hC => cl_v hC rfl rfl rfl rfl) rfl (q_m_throwsIf  h) (fun r5 M6 h => ?_)
      refine pM_zeq rfl rfl (fun h7 => ?_) (fun h7 => ?_)
      · replace h := h.1 h7
        refine pM_aln rfl rfl rfl ?_
        refine pM_iln rfl rfl ?_
        refine pM_ic rfl ki_m1 ?_
        refine pM_qRi (as := [.inr (.inl (some 190)), .inl (.inl p1), .inl (.inl (-1))]) (T := []) rfl rfl (fun C hC => cl_v hC rfl rfl rfl rfl) rfl (q_m_worthiest  h) (fun r8 M9 h => ?_)
        refine pM_isn rfl rfl ?_
        refine pM_iln rfl rfl ?_
        refine pM_zeq rfl rfl (fun h10 => ?_) (fun h10 => ?_)
        · replace h := h.1 h10
          refine pM_iln rfl rfl ?_
          refine pM_zge rfl rfl (fun h11 => ?_) (fun h11 => ?_)
          · replace h := h.2 h11
            refine pM_aln rfl rfl rfl ?_
            refine pM_iln rfl rfl ?_
            refine pM_iln rfl rfl ?_
            refine pM_qRi (as := [.inr (.inl (some 190)), .inl (.inl p1), .inl (.inl r8)]) (T := []) rfl rfl (fun C hC => cl_v hC rfl rfl rfl rfl) rfl (q_m_worthOf  h) (fun r12 M13 h => ?_)
            exact pM_ri rfl (⟨_, rfl, h⟩)
          · replace h := h.1 h11
            refine pM_ic rfl ki_0 ?_
            refine pM_go rfl rfl ?_
            exact pM_ri rfl (⟨_, rfl, h⟩)
        · replace h := h.2 h10
          refine pM_aln rfl rfl rfl ?_
          refine pM_iln rfl rfl ?_
          refine pM_iln rfl rfl ?_
          refine pM_qRi (as := [.inr (.inl (some 190)), .inl (.inl p1), .inl (.inl r8)]) (T := []) rfl rfl (fun C hC => cl_v hC rfl rfl rfl rfl) rfl (q_m_worthiest  h) (fun r14 M15 h => ?_)
          refine pM_isn rfl rfl ?_
          refine pM_iln rfl rfl ?_
          refine pM_zge rfl rfl (fun h16 => ?_) (fun h16 => ?_)
          · replace h := h.2 h16
            refine pM_aln rfl rfl rfl ?_
            refine pM_iln rfl rfl ?_
            refine pM_iln rfl rfl ?_
            refine pM_qRi (as := [.inr (.inl (some 190)), .inl (.inl p1), .inl (.inl r14)]) (T := []) rfl rfl (fun C hC => cl_v hC rfl rfl rfl rfl) rfl (q_m_worthOf  h) (fun r17 M18 h => ?_)
            exact pM_ri rfl (⟨_, rfl, h⟩)
          · replace h := h.1 h16
            refine pM_ic rfl ki_0 ?_
            refine pM_go rfl rfl ?_
            exact pM_ri rfl (⟨_, rfl, h⟩)
      · replace h := h.2 h7
        refine pM_ic rfl ki_0 ?_
        exact pM_ri rfl (⟨_, rfl, h⟩)
def B_m_crowd_47 (p1 : Int32) (p2 : Int32) (M : MM) (Q : Int32 → MM → Prop) (N : Nat) (ih : Int32 → Int32 → Prop) (v3 : Int32) (v4 : Int32) : Prop :=
  ((v4 < (V_m_citizens  M) →
    (((V_m_isAlive v4 M) = 0 →
      ih (v3 ||| 0) (v4 + 1)) ∧
     (¬ (V_m_isAlive v4 M) = 0 →
      (((rm (V_m_doesIn v4 p2 M) 8) = p1 →
        ih (v3 ||| (sl 1 v4)) (v4 + 1)) ∧
       (¬ (rm (V_m_doesIn v4 p2 M) 8) = p1 →
        ih (v3 ||| 0) (v4 + 1)))))) ∧
   (¬ v4 < (V_m_citizens  M) →
    Q v3 M))
def W_m_crowd_47 (p1 : Int32) (p2 : Int32) (M : MM) (Q : Int32 → MM → Prop) : Nat → Int32 → Int32 → Prop
  | 0, _, _ => True
  | N + 1, v3, v4 => B_m_crowd_47 p1 p2 M Q N (W_m_crowd_47 p1 p2 M Q N) v3 v4
theorem I_m_crowd_47 (p1 : Int32) (p2 : Int32) (M : MM) (Q : Int32 → MM → Prop) (inv : Int32 → Int32 → Prop) (hs : ∀ (N : Nat) (ih : Int32 → Int32 → Prop) (v3 : Int32) (v4 : Int32), (∀ (v3 : Int32) (v4 : Int32), inv v3 v4 → ih v3 v4) → inv v3 v4 → B_m_crowd_47 p1 p2 M Q N ih v3 v4) : ∀ (N : Nat) (v3 : Int32) (v4 : Int32), inv v3 v4 → W_m_crowd_47 p1 p2 M Q N v3 v4 := by
  intro N
  induction N with
  | zero => intros; trivial
  | succ N IH =>
    intro v3 v4 h
    exact hs N _ v3 v4 IH h
theorem q_m_crowd_47 {X : Option (List AI)} {N0 : Nat} {p1 : Int32} {p2 : Int32} {M : MM} {Q : Int32 → MM → Prop}   : ∀ (N : Nat), N ≤ N0 → ∀ (v3 : Int32) (v4 : Int32), W_m_crowd_47 p1 p2 M Q N v3 v4 → pM X N 301 47 [(0, .inr (.inl (some 190))), (1, .inl (.inl p1)), (2, .inl (.inl p2)), (3, .inl (.inl v3)), (4, .inl (.inl v4))] [] M (Ri Q) := by
  intro N
  induction N with
  | zero => intros; exact pM_zero
  | succ N IH =>
    intro hN v3 v4 h
    replace hN := Nat.le_of_succ_le hN
    replace h : B_m_crowd_47 p1 p2 M Q N (W_m_crowd_47 p1 p2 M Q N) v3 v4 := h
    refine pM_s (pMs_il rfl rfl ?_)
    refine pM_aln rfl rfl rfl ?_
    refine pM_qVi (as := [.inr (.inl (some 190))]) (T := [.inl (.inl v4)]) rfl rfl (fun C hC => cl_v hC rfl rfl rfl rfl) rfl (q_m_citizens ) ?_
    refine pM_cge rfl rfl (fun h8 => ?_) (fun h8 => ?_)
    · replace h := h.2 h8
      refine pM_iln rfl rfl ?_
      exact pM_ri rfl (⟨_, rfl, h⟩)
    · replace h := h.1 h8
      refine pM_iln rfl rfl ?_
      refine pM_aln rfl rfl rfl ?_
      refine pM_il rfl rfl ?_
      refine pM_qVi (as := [.inr (.inl (some 190)), .inl (.inl v4)]) (T := [.inl (.inl v3)]) rfl rfl (fun C hC => cl_v hC rfl rfl rfl rfl) rfl (q_m_isAlive ) ?_
      refine pM_zeq rfl rfl (fun h9 => ?_) (fun h9 => ?_)
      · replace h := h.1 h9
        refine pM_ic rfl ki_0 ?_
        refine pM_or rfl ?_
        refine pM_isn rfl rfl ?_
        refine pM_ii rfl rfl rfl ki_1 ?_
        refine pM_go rfl rfl ?_
        refine pM_w (F2 := [(0, .inr (.inl (some 190))), (1, .inl (.inl p1)), (2, .inl (.inl p2)), (3, .inl (.inl (v3 ||| 0))), (4, .inl (.inl (v4 + 1)))]) (fun L hL => lo_cons (lo_lk hL rfl) (lo_cons (lo_lk hL rfl) (lo_cons (lo_lk hL rfl) (lo_cons (lo_lk hL rfl) (lo_cons (lo_lk hL rfl) lo_nil))))) ?_
        exact IH hN (v3 ||| 0) (v4 + 1) h
      · replace h := h.2 h9
        refine pM_aln rfl rfl rfl ?_
        refine pM_il rfl rfl ?_
        refine pM_iln rfl rfl ?_
        refine pM_qVi (as := [.inr (.inl (some 190)), .inl (.inl v4), .inl (.inl p2)]) (T := [.inl (.inl v3)]) rfl rfl (fun C hC => cl_v hC rfl rfl rfl rfl) rfl (q_m_doesIn ) ?_
        refine pM_bi rfl kb_8 ?_
        refine pM_rem rfl ?_
        refine pM_iln rfl rfl ?_
        refine pM_cne rfl rfl (fun h10 => ?_) (fun h10 => ?_)
        · replace h := h.2 h10
          refine pM_ic rfl ki_0 ?_
          refine pM_or rfl ?_
          refine pM_isn rfl rfl ?_
          refine pM_ii rfl rfl rfl ki_1 ?_
          refine pM_go rfl rfl ?_
          refine pM_w (F2 := [(0, .inr (.inl (some 190))), (1, .inl (.inl p1)), (2, .inl (.inl p2)), (3, .inl (.inl (v3 ||| 0))), (4, .inl (.inl (v4 + 1)))]) (fun L hL => lo_cons (lo_lk hL rfl) (lo_cons (lo_lk hL rfl) (lo_cons (lo_lk hL rfl) (lo_cons (lo_lk hL rfl) (lo_cons (lo_lk hL rfl) lo_nil))))) ?_
          exact IH hN (v3 ||| 0) (v4 + 1) h
        · replace h := h.1 h10
          refine pM_ic rfl ki_1 ?_
          refine pM_il rfl rfl ?_
          refine pM_shl rfl ?_
          refine pM_go rfl rfl ?_
          refine pM_or rfl ?_
          refine pM_isn rfl rfl ?_
          refine pM_ii rfl rfl rfl ki_1 ?_
          refine pM_go rfl rfl ?_
          refine pM_w (F2 := [(0, .inr (.inl (some 190))), (1, .inl (.inl p1)), (2, .inl (.inl p2)), (3, .inl (.inl (v3 ||| (sl 1 v4)))), (4, .inl (.inl (v4 + 1)))]) (fun L hL => lo_cons (lo_lk hL rfl) (lo_cons (lo_lk hL rfl) (lo_cons (lo_lk hL rfl) (lo_cons (lo_lk hL rfl) (lo_cons (lo_lk hL rfl) lo_nil))))) ?_
          exact IH hN (v3 ||| (sl 1 v4)) (v4 + 1) h
/-- 301: EarCodeModel.crowd(II)I -/
def W_m_crowd (p1 : Int32) (p2 : Int32) (N : Nat) (M : MM) (Q : Int32 → MM → Prop) : Prop :=
  W_m_throwsIf (V_m_noEight p1 (wi M 190 0 0)) 1 N (wi M 190 0 0) (fun r1 M2 =>
    ((r1 = 0 →
      (((V_m_in p2 0 60 M2) = 0 →
        W_m_throwsIf 1 2 N M2 (fun r5 M6 =>
          ((r5 = 0 →
            W_m_crowd_47 p1 p2 M6 Q N 0 0) ∧
           (¬ r5 = 0 →
            Q 0 M6)))) ∧
       (¬ (V_m_in p2 0 60 M2) = 0 →
        W_m_throwsIf 0 2 N M2 (fun r11 M12 =>
          ((r11 = 0 →
            W_m_crowd_47 p1 p2 M12 Q N 0 0) ∧
           (¬ r11 = 0 →
            Q 0 M12)))))) ∧
     (¬ r1 = 0 →
      Q 0 M2)))
theorem q_m_crowd {X : Option (List AI)} {N : Nat} {M : MM} {p1 : Int32} {p2 : Int32} {Q : Int32 → MM → Prop}  (h : W_m_crowd p1 p2 N M Q) : pM X N 301 0 (ea_ar 0 [.inr (.inl (some 190)), .inl (.inl p1), .inl (.inl p2)]) [] M (Ri Q) := by
  refine pM_w (F2 := [(0, .inr (.inl (some 190))), (1, .inl (.inl p1)), (2, .inl (.inl p2))]) (fun L hL => lo_cons (lo_lk hL rfl) (lo_cons (lo_lk hL rfl) (lo_cons (lo_lk hL rfl) lo_nil))) ?_
  refine pM_aln rfl rfl rfl ?_
  refine pM_ic rfl ki_0 ?_
  refine pM_pi rfl rfl rfl rfl ?_
  refine pM_aln rfl rfl rfl ?_
  refine pM_iln rfl rfl ?_
  refine pM_qVi (as := [.inl (.inl p1)]) (T := [.inr (.inl (some 190))]) rfl rfl (fun _ _ => rfl) rfl (q_m_noEight ) ?_
  refine pM_ic rfl ki_1 ?_
  refine pM_qRi (as := [.inr (.inl (some 190)), .inl (.inl (V_m_noEight p1 (wi M 190 0 0))), .inl (.inl 1)]) (T := []) rfl rfl (fun C hC => cl_v hC rfl rfl rfl rfl) rfl (q_m_throwsIf  h) (fun r1 M2 h => ?_)
  refine pM_zne rfl rfl (fun h3 => ?_) (fun h3 => ?_)
  · replace h := h.2 h3
    refine pM_ic rfl ki_0 ?_
    exact pM_ri rfl (⟨_, rfl, h⟩)
  · replace h := h.1 h3
    refine pM_aln rfl rfl rfl ?_
    refine pM_iln rfl rfl ?_
    refine pM_ic rfl ki_0 ?_
    refine pM_bi rfl kb_60 ?_
    refine pM_qVi (as := [.inl (.inl p2), .inl (.inl 0), .inl (.inl 60)]) (T := [.inr (.inl (some 190))]) rfl rfl (fun _ _ => rfl) rfl (q_m_in ) ?_
    refine pM_zne rfl rfl (fun h4 => ?_) (fun h4 => ?_)
    · replace h := h.2 h4
      refine pM_ic rfl ki_0 ?_
      refine pM_ic rfl ki_2 ?_
      refine pM_qRi (as := [.inr (.inl (some 190)), .inl (.inl 0), .inl (.inl 2)]) (T := []) rfl rfl (fun C hC => cl_v hC rfl rfl rfl rfl) rfl (q_m_throwsIf  h) (fun r11 M12 h => ?_)
      refine pM_zeq rfl rfl (fun h13 => ?_) (fun h13 => ?_)
      · replace h := h.1 h13
        refine pM_ic rfl ki_0 ?_
        refine pM_isn rfl rfl ?_
        refine pM_ic rfl ki_0 ?_
        refine pM_is rfl rfl ?_
        refine pM_w (F2 := [(0, .inr (.inl (some 190))), (1, .inl (.inl p1)), (2, .inl (.inl p2)), (3, .inl (.inl 0)), (4, .inl (.inl 0))]) (fun L hL => lo_cons (lo_lk hL rfl) (lo_cons (lo_lk hL rfl) (lo_cons (lo_lk hL rfl) (lo_cons (lo_lk hL rfl) (lo_cons (lo_lk hL rfl) lo_nil))))) ?_
        refine q_m_crowd_47   N (Nat.le_refl N) 0 0 h
      · replace h := h.2 h13
        refine pM_ic rfl ki_0 ?_
        exact pM_ri rfl (⟨_, rfl, h⟩)
    · replace h := h.1 h4
      refine pM_ic rfl ki_1 ?_
      refine pM_go rfl rfl ?_
      refine pM_ic rfl ki_2 ?_
      refine pM_qRi (as := [.inr (.inl (some 190)), .inl (.inl 1), .inl (.inl 2)]) (T := []) rfl rfl (fun C hC => cl_v hC rfl rfl rfl rfl) rfl (q_m_throwsIf  h) (fun r5 M6 h => ?_)
      refine pM_zeq rfl rfl (fun h7 => ?_) (fun h7 => ?_)
      · replace h := h.1 h7
        refine pM_ic rfl ki_0 ?_
        refine pM_isn rfl rfl ?_
        refine pM_ic rfl ki_0 ?_
        refine pM_is rfl rfl ?_
        refine pM_w (F2 := [(0, .inr (.inl (some 190))), (1, .inl (.inl p1)), (2, .inl (.inl p2)), (3, .inl (.inl 0)), (4, .inl (.inl 0))]) (fun L hL => lo_cons (lo_lk hL rfl) (lo_cons (lo_lk hL rfl) (lo_cons (lo_lk hL rfl) (lo_cons (lo_lk hL rfl) (lo_cons (lo_lk hL rfl) lo_nil))))) ?_
        refine q_m_crowd_47   N (Nat.le_refl N) 0 0 h
      · replace h := h.2 h7
        refine pM_ic rfl ki_0 ?_
        exact pM_ri rfl (⟨_, rfl, h⟩)
def B_m_witnesses_67 (p1 : Int32) (p2 : Int32) (p3 : Int32) (M : MM) (Q : Int32 → MM → Prop) (N : Nat) (ih : Int32 → Int32 → Prop) (v4 : Int32) (v5 : Int32) : Prop :=
  ((v5 < p3 →
    (((rm (V_m_doesIn p1 v5 M) 8) = (rm (V_m_doesIn p2 v5 M) 8) →
      ih (v4 + 1) (v5 + 1)) ∧
     (¬ (rm (V_m_doesIn p1 v5 M) 8) = (rm (V_m_doesIn p2 v5 M) 8) →
      ih (v4 + 0) (v5 + 1)))) ∧
   (¬ v5 < p3 →
    Q v4 M))
def W_m_witnesses_67 (p1 : Int32) (p2 : Int32) (p3 : Int32) (M : MM) (Q : Int32 → MM → Prop) : Nat → Int32 → Int32 → Prop
  | 0, _, _ => True
  | N + 1, v4, v5 => B_m_witnesses_67 p1 p2 p3 M Q N (W_m_witnesses_67 p1 p2 p3 M Q N) v4 v5
theorem I_m_witnesses_67 (p1 : Int32) (p2 : Int32) (p3 : Int32) (M : MM) (Q : Int32 → MM → Prop) (inv : Int32 → Int32 → Prop) (hs : ∀ (N : Nat) (ih : Int32 → Int32 → Prop) (v4 : Int32) (v5 : Int32), (∀ (v4 : Int32) (v5 : Int32), inv v4 v5 → ih v4 v5) → inv v4 v5 → B_m_witnesses_67 p1 p2 p3 M Q N ih v4 v5) : ∀ (N : Nat) (v4 : Int32) (v5 : Int32), inv v4 v5 → W_m_witnesses_67 p1 p2 p3 M Q N v4 v5 := by
  intro N
  induction N with
  | zero => intros; trivial
  | succ N IH =>
    intro v4 v5 h
    exact hs N _ v4 v5 IH h
theorem q_m_witnesses_67 {X : Option (List AI)} {N0 : Nat} {p1 : Int32} {p2 : Int32} {p3 : Int32} {M : MM} {Q : Int32 → MM → Prop}   : ∀ (N : Nat), N ≤ N0 → ∀ (v4 : Int32) (v5 : Int32), W_m_witnesses_67 p1 p2 p3 M Q N v4 v5 → pM X N 302 67 [(0, .inr (.inl (some 190))), (1, .inl (.inl p1)), (2, .inl (.inl p2)), (3, .inl (.inl p3)), (4, .inl (.inl v4)), (5, .inl (.inl v5))] [] M (Ri Q) := by
  intro N
  induction N with
  | zero => intros; exact pM_zero
  | succ N IH =>
    intro hN v4 v5 h
    replace hN := Nat.le_of_succ_le hN
    replace h : B_m_witnesses_67 p1 p2 p3 M Q N (W_m_witnesses_67 p1 p2 p3 M Q N) v4 v5 := h
    refine pM_s (pMs_il rfl rfl ?_)
    refine pM_iln rfl rfl ?_
    refine pM_cge rfl rfl (fun h10 => ?_) (fun h10 => ?_)
    · replace h := h.2 h10
      refine pM_il rfl rfl ?_
      exact pM_ri rfl (⟨_, rfl, h⟩)
    · replace h := h.1 h10
      refine pM_il rfl rfl ?_
      refine pM_aln rfl rfl rfl ?_
      refine pM_iln rfl rfl ?_
      refine pM_il rfl rfl ?_
      refine pM_qVi (as := [.inr (.inl (some 190)), .inl (.inl p1), .inl (.inl v5)]) (T := [.inl (.inl v4)]) rfl rfl (fun C hC => cl_v hC rfl rfl rfl rfl) rfl (q_m_doesIn ) ?_
      refine pM_bi rfl kb_8 ?_
      refine pM_rem rfl ?_
      refine pM_aln rfl rfl rfl ?_
      refine pM_iln rfl rfl ?_
      refine pM_il rfl rfl ?_
      refine pM_qVi (as := [.inr (.inl (some 190)), .inl (.inl p2), .inl (.inl v5)]) (T := [.inl (.inl (rm (V_m_doesIn p1 v5 M) 8)), .inl (.inl v4)]) rfl rfl (fun C hC => cl_v hC rfl rfl rfl rfl) rfl (q_m_doesIn ) ?_
      refine pM_bi rfl kb_8 ?_
      refine pM_rem rfl ?_
      refine pM_cne rfl rfl (fun h11 => ?_) (fun h11 => ?_)
      · replace h := h.2 h11
        refine pM_ic rfl ki_0 ?_
        refine pM_add rfl ?_
        refine pM_is rfl rfl ?_
        refine pM_ii rfl rfl rfl ki_1 ?_
        refine pM_go rfl rfl ?_
        refine pM_w (F2 := [(0, .inr (.inl (some 190))), (1, .inl (.inl p1)), (2, .inl (.inl p2)), (3, .inl (.inl p3)), (4, .inl (.inl (v4 + 0))), (5, .inl (.inl (v5 + 1)))]) (fun L hL => lo_cons (lo_lk hL rfl) (lo_cons (lo_lk hL rfl) (lo_cons (lo_lk hL rfl) (lo_cons (lo_lk hL rfl) (lo_cons (lo_lk hL rfl) (lo_cons (lo_lk hL rfl) lo_nil)))))) ?_
        exact IH hN (v4 + 0) (v5 + 1) h
      · replace h := h.1 h11
        refine pM_ic rfl ki_1 ?_
        refine pM_go rfl rfl ?_
        refine pM_add rfl ?_
        refine pM_is rfl rfl ?_
        refine pM_ii rfl rfl rfl ki_1 ?_
        refine pM_go rfl rfl ?_
        refine pM_w (F2 := [(0, .inr (.inl (some 190))), (1, .inl (.inl p1)), (2, .inl (.inl p2)), (3, .inl (.inl p3)), (4, .inl (.inl (v4 + 1))), (5, .inl (.inl (v5 + 1)))]) (fun L hL => lo_cons (lo_lk hL rfl) (lo_cons (lo_lk hL rfl) (lo_cons (lo_lk hL rfl) (lo_cons (lo_lk hL rfl) (lo_cons (lo_lk hL rfl) (lo_cons (lo_lk hL rfl) lo_nil)))))) ?_
        exact IH hN (v4 + 1) (v5 + 1) h
/-- 302: EarCodeModel.witnesses(III)I -/
def W_m_witnesses (p1 : Int32) (p2 : Int32) (p3 : Int32) (N : Nat) (M : MM) (Q : Int32 → MM → Prop) : Prop :=
  (((V_m_noCitizen p1 (wi M 190 0 0)) = 0 →
    (((V_m_noCitizen p2 (wi M 190 0 0)) = 0 →
      W_m_throwsIf 0 1 N (wi M 190 0 0) (fun r3 M4 =>
        ((r3 = 0 →
          ((p1 = p2 →
            W_m_throwsIf 1 2 N M4 (fun r7 M8 =>
              ((r7 = 0 →
                W_m_witnesses_67 p1 p2 p3 M8 Q N 0 0) ∧
               (¬ r7 = 0 →
                Q 0 M8)))) ∧
           (¬ p1 = p2 →
            (((V_m_noDays p3 M4) = 0 →
              W_m_throwsIf 0 2 N M4 (fun r13 M14 =>
                ((r13 = 0 →
                  W_m_witnesses_67 p1 p2 p3 M14 Q N 0 0) ∧
                 (¬ r13 = 0 →
                  Q 0 M14)))) ∧
             (¬ (V_m_noDays p3 M4) = 0 →
              W_m_throwsIf 1 2 N M4 (fun r16 M17 =>
                ((r16 = 0 →
                  W_m_witnesses_67 p1 p2 p3 M17 Q N 0 0) ∧
                 (¬ r16 = 0 →
                  Q 0 M17)))))))) ∧
         (¬ r3 = 0 →
          Q 0 M4)))) ∧
     (¬ (V_m_noCitizen p2 (wi M 190 0 0)) = 0 →
      W_m_throwsIf 1 1 N (wi M 190 0 0) (fun r19 M20 =>
        ((r19 = 0 →
          ((p1 = p2 →
            W_m_throwsIf 1 2 N M20 (fun r23 M24 =>
              ((r23 = 0 →
                W_m_witnesses_67 p1 p2 p3 M24 Q N 0 0) ∧
               (¬ r23 = 0 →
                Q 0 M24)))) ∧
           (¬ p1 = p2 →
            (((V_m_noDays p3 M20) = 0 →
              W_m_throwsIf 0 2 N M20 (fun r27 M28 =>
                ((r27 = 0 →
                  W_m_witnesses_67 p1 p2 p3 M28 Q N 0 0) ∧
                 (¬ r27 = 0 →
                  Q 0 M28)))) ∧
             (¬ (V_m_noDays p3 M20) = 0 →
              W_m_throwsIf 1 2 N M20 (fun r30 M31 =>
                ((r30 = 0 →
                  W_m_witnesses_67 p1 p2 p3 M31 Q N 0 0) ∧
                 (¬ r30 = 0 →
                  Q 0 M31)))))))) ∧
         (¬ r19 = 0 →
          Q 0 M20)))))) ∧
   (¬ (V_m_noCitizen p1 (wi M 190 0 0)) = 0 →
    W_m_throwsIf 1 1 N (wi M 190 0 0) (fun r33 M34 =>
      ((r33 = 0 →
        ((p1 = p2 →
          W_m_throwsIf 1 2 N M34 (fun r37 M38 =>
            ((r37 = 0 →
              W_m_witnesses_67 p1 p2 p3 M38 Q N 0 0) ∧
             (¬ r37 = 0 →
              Q 0 M38)))) ∧
         (¬ p1 = p2 →
          (((V_m_noDays p3 M34) = 0 →
            W_m_throwsIf 0 2 N M34 (fun r41 M42 =>
              ((r41 = 0 →
                W_m_witnesses_67 p1 p2 p3 M42 Q N 0 0) ∧
               (¬ r41 = 0 →
                Q 0 M42)))) ∧
           (¬ (V_m_noDays p3 M34) = 0 →
            W_m_throwsIf 1 2 N M34 (fun r44 M45 =>
              ((r44 = 0 →
                W_m_witnesses_67 p1 p2 p3 M45 Q N 0 0) ∧
               (¬ r44 = 0 →
                Q 0 M45)))))))) ∧
       (¬ r33 = 0 →
        Q 0 M34)))))
theorem q_m_witnesses {X : Option (List AI)} {N : Nat} {M : MM} {p1 : Int32} {p2 : Int32} {p3 : Int32} {Q : Int32 → MM → Prop}  (h : W_m_witnesses p1 p2 p3 N M Q) : pM X N 302 0 (ea_ar 0 [.inr (.inl (some 190)), .inl (.inl p1), .inl (.inl p2), .inl (.inl p3)]) [] M (Ri Q) := by
  refine pM_w (F2 := [(0, .inr (.inl (some 190))), (1, .inl (.inl p1)), (2, .inl (.inl p2)), (3, .inl (.inl p3))]) (fun L hL => lo_cons (lo_lk hL rfl) (lo_cons (lo_lk hL rfl) (lo_cons (lo_lk hL rfl) (lo_cons (lo_lk hL rfl) lo_nil)))) ?_
  refine pM_aln rfl rfl rfl ?_
  refine pM_ic rfl ki_0 ?_
  refine pM_pi rfl rfl rfl rfl ?_
  refine pM_aln rfl rfl rfl ?_
  refine pM_aln rfl rfl rfl ?_
  refine pM_iln rfl rfl ?_
  refine pM_qVi (as := [.inr (.inl (some 190)), .inl (.inl p1)]) (T := [.inr (.inl (some 190))]) rfl rfl (fun C hC => cl_v hC rfl rfl rfl rfl) rfl (q_m_noCitizen ) ?_
  refine pM_zne rfl rfl (fun h1 => ?_) (fun h1 => ?_)
  · replace h := h.2 h1
    refine pM_ic rfl ki_1 ?_
    refine pM_go rfl rfl ?_
    refine pM_ic rfl ki_1 ?_
    refine pM_qRi (as := [.inr (.inl (some 190)), .inl (.inl 1), .inl (.inl 1)]) (T := []) rfl rfl (fun C hC => cl_v hC rfl rfl rfl rfl) rfl (q_m_throwsIf  h) (fun r33 M34 h => ?_)
    refine pM_zne rfl rfl (fun h35 => ?_) (fun h35 => ?_)
    · replace h := h.2 h35
      refine pM_ic rfl ki_0 ?_
      exact pM_ri rfl (⟨_, rfl, h⟩)
    · replace h := h.1 h35
      refine pM_aln rfl rfl rfl ?_
      refine pM_iln rfl rfl ?_
      refine pM_iln rfl rfl ?_
      refine pM_ceq rfl rfl (fun h36 => ?_) (fun h36 => ?_)
      · replace h := h.1 h36
        refine pM_ic rfl ki_1 ?_
        refine pM_go rfl rfl ?_
        refine pM_ic rfl ki_2 ?_
        refine pM_qRi (as := [.inr (.inl (some 190)), .inl (.inl 1), .inl (.inl 2)]) (T := []) rfl rfl (fun C hC => cl_v hC rfl rfl rfl rfl) rfl (q_m_throwsIf  h) (fun r37 M38 h => ?_)
        refine pM_zeq rfl rfl (fun h39 => ?_) (fun h39 => ?_)
        · replace h := h.1 h39
          refine pM_ic rfl ki_0 ?_
          refine pM_is rfl rfl ?_
          refine pM_ic rfl ki_0 ?_
          refine pM_is rfl rfl ?_
          refine pM_w (F2 := [(0, .inr (.inl (some 190))), (1, .inl (.inl p1)), (2, .inl (.inl p2)), (3, .inl (.inl p3)), (4, .inl (.inl 0)), (5, .inl (.inl 0))]) (fun L hL => lo_cons (lo_lk hL rfl) (lo_cons (lo_lk hL rfl) (lo_cons (lo_lk hL rfl) (lo_cons (lo_lk hL rfl) (lo_cons (lo_lk hL rfl) (lo_cons (lo_lk hL rfl) lo_nil)))))) ?_
          refine q_m_witnesses_67   N (Nat.le_refl N) 0 0 h
        · replace h := h.2 h39
          refine pM_ic rfl ki_0 ?_
          exact pM_ri rfl (⟨_, rfl, h⟩)
      · replace h := h.2 h36
        refine pM_iln rfl rfl ?_
        refine pM_qVi (as := [.inl (.inl p3)]) (T := [.inr (.inl (some 190))]) rfl rfl (fun _ _ => rfl) rfl (q_m_noDays ) ?_
        refine pM_zeq rfl rfl (fun h40 => ?_) (fun h40 => ?_)
        · replace h := h.1 h40
          refine pM_ic rfl ki_0 ?_
          refine pM_ic rfl ki_2 ?_
          refine pM_qRi (as := [.inr (.inl (some 190)), .inl (.inl 0), .inl (.inl 2)]) (T := []) rfl rfl (fun C hC => cl_v hC rfl rfl rfl rfl) rfl (q_m_throwsIf  h) (fun r41 M42 h => ?_)
          refine pM_zeq rfl rfl (fun h43 => ?_) (fun h43 => ?_)
          · replace h := h.1 h43
            refine pM_ic rfl ki_0 ?_
            refine pM_is rfl rfl ?_
            refine pM_ic rfl ki_0 ?_
            refine pM_is rfl rfl ?_
            refine pM_w (F2 := [(0, .inr (.inl (some 190))), (1, .inl (.inl p1)), (2, .inl (.inl p2)), (3, .inl (.inl p3)), (4, .inl (.inl 0)), (5, .inl (.inl 0))]) (fun L hL => lo_cons (lo_lk hL rfl) (lo_cons (lo_lk hL rfl) (lo_cons (lo_lk hL rfl) (lo_cons (lo_lk hL rfl) (lo_cons (lo_lk hL rfl) (lo_cons (lo_lk hL rfl) lo_nil)))))) ?_
            refine q_m_witnesses_67   N (Nat.le_refl N) 0 0 h
          · replace h := h.2 h43
            refine pM_ic rfl ki_0 ?_
            exact pM_ri rfl (⟨_, rfl, h⟩)
        · replace h := h.2 h40
          refine pM_ic rfl ki_1 ?_
          refine pM_go rfl rfl ?_
          refine pM_ic rfl ki_2 ?_
          refine pM_qRi (as := [.inr (.inl (some 190)), .inl (.inl 1), .inl (.inl 2)]) (T := []) rfl rfl (fun C hC => cl_v hC rfl rfl rfl rfl) rfl (q_m_throwsIf  h) (fun r44 M45 h => ?_)
          refine pM_zeq rfl rfl (fun h46 => ?_) (fun h46 => ?_)
          · replace h := h.1 h46
            refine pM_ic rfl ki_0 ?_
            refine pM_is rfl rfl ?_
            refine pM_ic rfl ki_0 ?_
            refine pM_is rfl rfl ?_
            refine pM_w (F2 := [(0, .inr (.inl (some 190))), (1, .inl (.inl p1)), (2, .inl (.inl p2)), (3, .inl (.inl p3)), (4, .inl (.inl 0)), (5, .inl (.inl 0))]) (fun L hL => lo_cons (lo_lk hL rfl) (lo_cons (lo_lk hL rfl) (lo_cons (lo_lk hL rfl) (lo_cons (lo_lk hL rfl) (lo_cons (lo_lk hL rfl) (lo_cons (lo_lk hL rfl) lo_nil)))))) ?_
            refine q_m_witnesses_67   N (Nat.le_refl N) 0 0 h
          · replace h := h.2 h46
            refine pM_ic rfl ki_0 ?_
            exact pM_ri rfl (⟨_, rfl, h⟩)
  · replace h := h.1 h1
    refine pM_aln rfl rfl rfl ?_
    refine pM_iln rfl rfl ?_
    refine pM_qVi (as := [.inr (.inl (some 190)), .inl (.inl p2)]) (T := [.inr (.inl (some 190))]) rfl rfl (fun C hC => cl_v hC rfl rfl rfl rfl) rfl (q_m_noCitizen ) ?_
    refine pM_zeq rfl rfl (fun h2 => ?_) (fun h2 => ?_)
    · replace h := h.1 h2
      refine pM_ic rfl ki_0 ?_
      refine pM_ic rfl ki_1 ?_
      refine pM_qRi (as := [.inr (.inl (some 190)), .inl (.inl 0), .inl (.inl 1)]) (T := []) rfl rfl (fun C hC => cl_v hC rfl rfl rfl rfl) rfl (q_m_throwsIf  h) (fun r3 M4 h => ?_)
      refine pM_zne rfl rfl (fun h5 => ?_) (fun h5 => ?_)
      · replace h := h.2 h5
        refine pM_ic rfl ki_0 ?_
        exact pM_ri rfl (⟨_, rfl, h⟩)
      · replace h := h.1 h5
        refine pM_aln rfl rfl rfl ?_
        refine pM_iln rfl rfl ?_
        refine pM_iln rfl rfl ?_
        refine pM_ceq rfl rfl (fun h6 => ?_) (fun h6 => ?_)
        · replace h := h.1 h6
          refine pM_ic rfl ki_1 ?_
          refine pM_go rfl rfl ?_
          refine pM_ic rfl ki_2 ?_
          refine pM_qRi (as := [.inr (.inl (some 190)), .inl (.inl 1), .inl (.inl 2)]) (T := []) rfl rfl (fun C hC => cl_v hC rfl rfl rfl rfl) rfl (q_m_throwsIf  h) (fun r7 M8 h => ?_)
          refine pM_zeq rfl rfl (fun h9 => ?_) (fun h9 => ?_)
          · replace h := h.1 h9
            refine pM_ic rfl ki_0 ?_
            refine pM_is rfl rfl ?_
            refine pM_ic rfl ki_0 ?_
            refine pM_is rfl rfl ?_
            refine pM_w (F2 := [(0, .inr (.inl (some 190))), (1, .inl (.inl p1)), (2, .inl (.inl p2)), (3, .inl (.inl p3)), (4, .inl (.inl 0)), (5, .inl (.inl 0))]) (fun L hL => lo_cons (lo_lk hL rfl) (lo_cons (lo_lk hL rfl) (lo_cons (lo_lk hL rfl) (lo_cons (lo_lk hL rfl) (lo_cons (lo_lk hL rfl) (lo_cons (lo_lk hL rfl) lo_nil)))))) ?_
            refine q_m_witnesses_67   N (Nat.le_refl N) 0 0 h
          · replace h := h.2 h9
            refine pM_ic rfl ki_0 ?_
            exact pM_ri rfl (⟨_, rfl, h⟩)
        · replace h := h.2 h6
          refine pM_iln rfl rfl ?_
          refine pM_qVi (as := [.inl (.inl p3)]) (T := [.inr (.inl (some 190))]) rfl rfl (fun _ _ => rfl) rfl (q_m_noDays ) ?_
          refine pM_zeq rfl rfl (fun h12 => ?_) (fun h12 => ?_)
          · replace h := h.1 h12
            refine pM_ic rfl ki_0 ?_
            refine pM_ic rfl ki_2 ?_
            refine pM_qRi (as := [.inr (.inl (some 190)), .inl (.inl 0), .inl (.inl 2)]) (T := []) rfl rfl (fun C hC => cl_v hC rfl rfl rfl rfl) rfl (q_m_throwsIf  h) (fun r13 M14 h => ?_)
            refine pM_zeq rfl rfl (fun h15 => ?_) (fun h15 => ?_)
            · replace h := h.1 h15
              refine pM_ic rfl ki_0 ?_
              refine pM_is rfl rfl ?_
              refine pM_ic rfl ki_0 ?_
              refine pM_is rfl rfl ?_
              refine pM_w (F2 := [(0, .inr (.inl (some 190))), (1, .inl (.inl p1)), (2, .inl (.inl p2)), (3, .inl (.inl p3)), (4, .inl (.inl 0)), (5, .inl (.inl 0))]) (fun L hL => lo_cons (lo_lk hL rfl) (lo_cons (lo_lk hL rfl) (lo_cons (lo_lk hL rfl) (lo_cons (lo_lk hL rfl) (lo_cons (lo_lk hL rfl) (lo_cons (lo_lk hL rfl) lo_nil)))))) ?_
              refine q_m_witnesses_67   N (Nat.le_refl N) 0 0 h
            · replace h := h.2 h15
              refine pM_ic rfl ki_0 ?_
              exact pM_ri rfl (⟨_, rfl, h⟩)
          · replace h := h.2 h12
            refine pM_ic rfl ki_1 ?_
            refine pM_go rfl rfl ?_
            refine pM_ic rfl ki_2 ?_
            refine pM_qRi (as := [.inr (.inl (some 190)), .inl (.inl 1), .inl (.inl 2)]) (T := []) rfl rfl (fun C hC => cl_v hC rfl rfl rfl rfl) rfl (q_m_throwsIf  h) (fun r16 M17 h => ?_)
            refine pM_zeq rfl rfl (fun h18 => ?_) (fun h18 => ?_)
            · replace h := h.1 h18
              refine pM_ic rfl ki_0 ?_
              refine pM_is rfl rfl ?_
              refine pM_ic rfl ki_0 ?_
              refine pM_is rfl rfl ?_
              refine pM_w (F2 := [(0, .inr (.inl (some 190))), (1, .inl (.inl p1)), (2, .inl (.inl p2)), (3, .inl (.inl p3)), (4, .inl (.inl 0)), (5, .inl (.inl 0))]) (fun L hL => lo_cons (lo_lk hL rfl) (lo_cons (lo_lk hL rfl) (lo_cons (lo_lk hL rfl) (lo_cons (lo_lk hL rfl) (lo_cons (lo_lk hL rfl) (lo_cons (lo_lk hL rfl) lo_nil)))))) ?_
              refine q_m_witnesses_67   N (Nat.le_refl N) 0 0 h
            · replace h := h.2 h18
              refine pM_ic rfl ki_0 ?_
              exact pM_ri rfl (⟨_, rfl, h⟩)
    · replace h := h.2 h2
      refine pM_ic rfl ki_1 ?_
      refine pM_go rfl rfl ?_
      refine pM_ic rfl ki_1 ?_
      refine pM_qRi (as := [.inr (.inl (some 190)), .inl (.inl 1), .inl (.inl 1)]) (T := []) rfl rfl (fun C hC => cl_v hC rfl rfl rfl rfl) rfl (q_m_throwsIf  h) (fun r19 M20 h => ?_)
      refine pM_zne rfl rfl (fun h21 => ?_) (fun h21 => ?_)
      · replace h := h.2 h21
        refine pM_ic rfl ki_0 ?_
        exact pM_ri rfl (⟨_, rfl, h⟩)
      · replace h := h.1 h21
        refine pM_aln rfl rfl rfl ?_
        refine pM_iln rfl rfl ?_
        refine pM_iln rfl rfl ?_
        refine pM_ceq rfl rfl (fun h22 => ?_) (fun h22 => ?_)
        · replace h := h.1 h22
          refine pM_ic rfl ki_1 ?_
          refine pM_go rfl rfl ?_
          refine pM_ic rfl ki_2 ?_
          refine pM_qRi (as := [.inr (.inl (some 190)), .inl (.inl 1), .inl (.inl 2)]) (T := []) rfl rfl (fun C hC => cl_v hC rfl rfl rfl rfl) rfl (q_m_throwsIf  h) (fun r23 M24 h => ?_)
          refine pM_zeq rfl rfl (fun h25 => ?_) (fun h25 => ?_)
          · replace h := h.1 h25
            refine pM_ic rfl ki_0 ?_
            refine pM_is rfl rfl ?_
            refine pM_ic rfl ki_0 ?_
            refine pM_is rfl rfl ?_
            refine pM_w (F2 := [(0, .inr (.inl (some 190))), (1, .inl (.inl p1)), (2, .inl (.inl p2)), (3, .inl (.inl p3)), (4, .inl (.inl 0)), (5, .inl (.inl 0))]) (fun L hL => lo_cons (lo_lk hL rfl) (lo_cons (lo_lk hL rfl) (lo_cons (lo_lk hL rfl) (lo_cons (lo_lk hL rfl) (lo_cons (lo_lk hL rfl) (lo_cons (lo_lk hL rfl) lo_nil)))))) ?_
            refine q_m_witnesses_67   N (Nat.le_refl N) 0 0 h
          · replace h := h.2 h25
            refine pM_ic rfl ki_0 ?_
            exact pM_ri rfl (⟨_, rfl, h⟩)
        · replace h := h.2 h22
          refine pM_iln rfl rfl ?_
          refine pM_qVi (as := [.inl (.inl p3)]) (T := [.inr (.inl (some 190))]) rfl rfl (fun _ _ => rfl) rfl (q_m_noDays ) ?_
          refine pM_zeq rfl rfl (fun h26 => ?_) (fun h26 => ?_)
          · replace h := h.1 h26
            refine pM_ic rfl ki_0 ?_
            refine pM_ic rfl ki_2 ?_
            refine pM_qRi (as := [.inr (.inl (some 190)), .inl (.inl 0), .inl (.inl 2)]) (T := []) rfl rfl (fun C hC => cl_v hC rfl rfl rfl rfl) rfl (q_m_throwsIf  h) (fun r27 M28 h => ?_)
            refine pM_zeq rfl rfl (fun h29 => ?_) (fun h29 => ?_)
            · replace h := h.1 h29
              refine pM_ic rfl ki_0 ?_
              refine pM_is rfl rfl ?_
              refine pM_ic rfl ki_0 ?_
              refine pM_is rfl rfl ?_
              refine pM_w (F2 := [(0, .inr (.inl (some 190))), (1, .inl (.inl p1)), (2, .inl (.inl p2)), (3, .inl (.inl p3)), (4, .inl (.inl 0)), (5, .inl (.inl 0))]) (fun L hL => lo_cons (lo_lk hL rfl) (lo_cons (lo_lk hL rfl) (lo_cons (lo_lk hL rfl) (lo_cons (lo_lk hL rfl) (lo_cons (lo_lk hL rfl) (lo_cons (lo_lk hL rfl) lo_nil)))))) ?_
              refine q_m_witnesses_67   N (Nat.le_refl N) 0 0 h
            · replace h := h.2 h29
              refine pM_ic rfl ki_0 ?_
              exact pM_ri rfl (⟨_, rfl, h⟩)
          · replace h := h.2 h26
            refine pM_ic rfl ki_1 ?_
            refine pM_go rfl rfl ?_
            refine pM_ic rfl ki_2 ?_
            refine pM_qRi (as := [.inr (.inl (some 190)), .inl (.inl 1), .inl (.inl 2)]) (T := []) rfl rfl (fun C hC => cl_v hC rfl rfl rfl rfl) rfl (q_m_throwsIf  h) (fun r30 M31 h => ?_)
            refine pM_zeq rfl rfl (fun h32 => ?_) (fun h32 => ?_)
            · replace h := h.1 h32
              refine pM_ic rfl ki_0 ?_
              refine pM_is rfl rfl ?_
              refine pM_ic rfl ki_0 ?_
              refine pM_is rfl rfl ?_
              refine pM_w (F2 := [(0, .inr (.inl (some 190))), (1, .inl (.inl p1)), (2, .inl (.inl p2)), (3, .inl (.inl p3)), (4, .inl (.inl 0)), (5, .inl (.inl 0))]) (fun L hL => lo_cons (lo_lk hL rfl) (lo_cons (lo_lk hL rfl) (lo_cons (lo_lk hL rfl) (lo_cons (lo_lk hL rfl) (lo_cons (lo_lk hL rfl) (lo_cons (lo_lk hL rfl) lo_nil)))))) ?_
              refine q_m_witnesses_67   N (Nat.le_refl N) 0 0 h
            · replace h := h.2 h32
              refine pM_ic rfl ki_0 ?_
              exact pM_ri rfl (⟨_, rfl, h⟩)
/-- 303: EarCodeModel.keepsAll()V -/
def W_m_keepsAll  (N : Nat) (M : MM) (Q : MM → Prop) : Prop :=
  W_m_likens 191 0 194 0 N M (fun M2 =>
    W_m_likensSeen 196 0 199 0 N M2 (fun M4 =>
      Q M4))
theorem q_m_keepsAll {X : Option (List AI)} {N : Nat} {M : MM}  {Q : MM → Prop}  (h : W_m_keepsAll  N M Q) : pM X N 303 0 (ea_ar 0 [.inr (.inl (some 190))]) [] M (Ru Q) := by
  refine pM_w (F2 := [(0, .inr (.inl (some 190)))]) (fun L hL => lo_cons (lo_lk hL rfl) lo_nil) ?_
  refine pM_aln rfl rfl rfl ?_
  refine pM_gr rfl rfl rfl rfl ?_
  refine pM_ic rfl ki_0 ?_
  refine pM_aln rfl rfl rfl ?_
  refine pM_gr rfl rfl rfl rfl ?_
  refine pM_ic rfl ki_0 ?_
  refine pM_qRu (as := [.inr (.inl (some 191)), .inl (.inl 0), .inr (.inl (some 194)), .inl (.inl 0)]) (T := []) rfl rfl (fun _ _ => rfl) rfl (q_m_likens rfl rfl h) (fun M2 h => ?_)
  refine pM_aln rfl rfl rfl ?_
  refine pM_gr rfl rfl rfl rfl ?_
  refine pM_ic rfl ki_0 ?_
  refine pM_aln rfl rfl rfl ?_
  refine pM_gr rfl rfl rfl rfl ?_
  refine pM_ic rfl ki_0 ?_
  refine pM_qRu (as := [.inr (.inl (some 196)), .inl (.inl 0), .inr (.inl (some 199)), .inl (.inl 0)]) (T := []) rfl rfl (fun _ _ => rfl) rfl (q_m_likensSeen rfl rfl h) (fun M4 h => ?_)
  exact pM_ru rfl (⟨rfl, h⟩)
/-- 304: EarCodeModel.bringsBack()V -/
def W_m_bringsBack  (N : Nat) (M : MM) (Q : MM → Prop) : Prop :=
  W_m_likens 194 0 191 0 N M (fun M2 =>
    W_m_likensSeen 199 0 196 0 N M2 (fun M4 =>
      Q M4))
theorem q_m_bringsBack {X : Option (List AI)} {N : Nat} {M : MM}  {Q : MM → Prop}  (h : W_m_bringsBack  N M Q) : pM X N 304 0 (ea_ar 0 [.inr (.inl (some 190))]) [] M (Ru Q) := by
  refine pM_w (F2 := [(0, .inr (.inl (some 190)))]) (fun L hL => lo_cons (lo_lk hL rfl) lo_nil) ?_
  refine pM_aln rfl rfl rfl ?_
  refine pM_gr rfl rfl rfl rfl ?_
  refine pM_ic rfl ki_0 ?_
  refine pM_aln rfl rfl rfl ?_
  refine pM_gr rfl rfl rfl rfl ?_
  refine pM_ic rfl ki_0 ?_
  refine pM_qRu (as := [.inr (.inl (some 194)), .inl (.inl 0), .inr (.inl (some 191)), .inl (.inl 0)]) (T := []) rfl rfl (fun _ _ => rfl) rfl (q_m_likens rfl rfl h) (fun M2 h => ?_)
  refine pM_aln rfl rfl rfl ?_
  refine pM_gr rfl rfl rfl rfl ?_
  refine pM_ic rfl ki_0 ?_
  refine pM_aln rfl rfl rfl ?_
  refine pM_gr rfl rfl rfl rfl ?_
  refine pM_ic rfl ki_0 ?_
  refine pM_qRu (as := [.inr (.inl (some 199)), .inl (.inl 0), .inr (.inl (some 196)), .inl (.inl 0)]) (T := []) rfl rfl (fun _ _ => rfl) rfl (q_m_likensSeen rfl rfl h) (fun M4 h => ?_)
  exact pM_ru rfl (⟨rfl, h⟩)
def B_m_takenNow_4 (M : MM) (Q : Int32 → Prop) (N : Nat) (ih : Int32 → Int32 → Prop) (v1 : Int32) (v2 : Int32) : Prop :=
  ((v2 < (V_m_citizens  M) →
    ((0 < (V_m_of v2 3 M) →
      ih (v1 ||| (sl 1 v2)) (v2 + 1)) ∧
     (¬ 0 < (V_m_of v2 3 M) →
      ih (v1 ||| 0) (v2 + 1)))) ∧
   (¬ v2 < (V_m_citizens  M) →
    Q v1))
def W_m_takenNow_4 (M : MM) (Q : Int32 → Prop) : Nat → Int32 → Int32 → Prop
  | 0, _, _ => True
  | N + 1, v1, v2 => B_m_takenNow_4 M Q N (W_m_takenNow_4 M Q N) v1 v2
theorem I_m_takenNow_4 (M : MM) (Q : Int32 → Prop) (inv : Int32 → Int32 → Prop) (hs : ∀ (N : Nat) (ih : Int32 → Int32 → Prop) (v1 : Int32) (v2 : Int32), (∀ (v1 : Int32) (v2 : Int32), inv v1 v2 → ih v1 v2) → inv v1 v2 → B_m_takenNow_4 M Q N ih v1 v2) : ∀ (N : Nat) (v1 : Int32) (v2 : Int32), inv v1 v2 → W_m_takenNow_4 M Q N v1 v2 := by
  intro N
  induction N with
  | zero => intros; trivial
  | succ N IH =>
    intro v1 v2 h
    exact hs N _ v1 v2 IH h
theorem q_m_takenNow_4 {X : Option (List AI)} {N0 : Nat} {M : MM} {Q : Int32 → Prop}   : ∀ (N : Nat), N ≤ N0 → ∀ (v1 : Int32) (v2 : Int32), W_m_takenNow_4 M Q N v1 v2 → pM X N 305 4 [(0, .inr (.inl (some 190))), (1, .inl (.inl v1)), (2, .inl (.inl v2))] [] M (Pi Q M) := by
  intro N
  induction N with
  | zero => intros; exact pM_zero
  | succ N IH =>
    intro hN v1 v2 h
    replace hN := Nat.le_of_succ_le hN
    replace h : B_m_takenNow_4 M Q N (W_m_takenNow_4 M Q N) v1 v2 := h
    refine pM_s (pMs_iln rfl rfl ?_)
    refine pM_aln rfl rfl rfl ?_
    refine pM_qVi (as := [.inr (.inl (some 190))]) (T := [.inl (.inl v2)]) rfl rfl (fun C hC => cl_v hC rfl rfl rfl rfl) rfl (q_m_citizens ) ?_
    refine pM_cge rfl rfl (fun h1 => ?_) (fun h1 => ?_)
    · replace h := h.2 h1
      refine pM_iln rfl rfl ?_
      exact pM_ri rfl (⟨_, rfl, rfl, h⟩)
    · replace h := h.1 h1
      refine pM_iln rfl rfl ?_
      refine pM_aln rfl rfl rfl ?_
      refine pM_iln rfl rfl ?_
      refine pM_ic rfl ki_3 ?_
      refine pM_qVi (as := [.inr (.inl (some 190)), .inl (.inl v2), .inl (.inl 3)]) (T := [.inl (.inl v1)]) rfl rfl (fun C hC => cl_v hC rfl rfl rfl rfl) rfl (q_m_of ) ?_
      refine pM_zle rfl rfl (fun h2 => ?_) (fun h2 => ?_)
      · replace h := h.2 h2
        refine pM_ic rfl ki_0 ?_
        refine pM_or rfl ?_
        refine pM_isn rfl rfl ?_
        refine pM_ii rfl rfl rfl ki_1 ?_
        refine pM_go rfl rfl ?_
        refine pM_w (F2 := [(0, .inr (.inl (some 190))), (1, .inl (.inl (v1 ||| 0))), (2, .inl (.inl (v2 + 1)))]) (fun L hL => lo_cons (lo_lk hL rfl) (lo_cons (lo_lk hL rfl) (lo_cons (lo_lk hL rfl) lo_nil))) ?_
        exact IH hN (v1 ||| 0) (v2 + 1) h
      · replace h := h.1 h2
        refine pM_ic rfl ki_1 ?_
        refine pM_iln rfl rfl ?_
        refine pM_shl rfl ?_
        refine pM_go rfl rfl ?_
        refine pM_or rfl ?_
        refine pM_isn rfl rfl ?_
        refine pM_ii rfl rfl rfl ki_1 ?_
        refine pM_go rfl rfl ?_
        refine pM_w (F2 := [(0, .inr (.inl (some 190))), (1, .inl (.inl (v1 ||| (sl 1 v2)))), (2, .inl (.inl (v2 + 1)))]) (fun L hL => lo_cons (lo_lk hL rfl) (lo_cons (lo_lk hL rfl) (lo_cons (lo_lk hL rfl) lo_nil))) ?_
        exact IH hN (v1 ||| (sl 1 v2)) (v2 + 1) h
/-- 305: EarCodeModel.takenNow()I -/
def W_m_takenNow  (N : Nat) (M : MM) (Q : Int32 → Prop) : Prop :=
  W_m_takenNow_4 M Q N 0 0
theorem q_m_takenNow {X : Option (List AI)} {N : Nat} {M : MM}  {Q : Int32 → Prop}  (h : W_m_takenNow  N M Q) : pM X N 305 0 (ea_ar 0 [.inr (.inl (some 190))]) [] M (Pi Q M) := by
  refine pM_w (F2 := [(0, .inr (.inl (some 190)))]) (fun L hL => lo_cons (lo_lk hL rfl) lo_nil) ?_
  refine pM_ic rfl ki_0 ?_
  refine pM_isn rfl rfl ?_
  refine pM_ic rfl ki_0 ?_
  refine pM_isn rfl rfl ?_
  refine pM_w (F2 := [(0, .inr (.inl (some 190))), (1, .inl (.inl 0)), (2, .inl (.inl 0))]) (fun L hL => lo_cons (lo_lk hL rfl) (lo_cons (lo_lk hL rfl) (lo_cons (lo_lk hL rfl) lo_nil))) ?_
  refine q_m_takenNow_4   N (Nat.le_refl N) 0 0 h
