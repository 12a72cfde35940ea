/-! WHAT EACH METHOD COMES TO (gw.py) -/
/-- 193: EarCodeModel.image()V -/
def W_m_image  (N : Nat) (M : MM) (Q : MM → Prop) : Prop :=
  W_m_likens 191 0 192 0 N (wi M 190 0 0) (fun M2 =>
    W_m_likensSeen 196 0 197 0 N M2 (fun M4 =>
      Q (wi (wi M4 190 16 (M4.1 190 15)) 190 11 1)))
theorem q_m_image {X : Option (List AI)} {N : Nat} {M : MM}  {Q : MM → Prop}  (h : W_m_image  N M Q) : pM X N 193 0 (ea_ar 0 [.inr (.inl (some 190))]) [] M (Ru Q) := by
  refine pM_w (F2 := [(0, .inr (.inl (some 190)))]) (fun L hL => lo_cons (lo_lk hL rfl) lo_nil) ?_
  refine pM_aln rfl rfl rfl ?_
  refine pM_ic rfl ki_0 ?_
  refine pM_pi rfl rfl rfl rfl ?_
  refine pM_aln rfl rfl rfl ?_
  refine pM_gr rfl rfl rfl rfl ?_
  refine pM_ic rfl ki_0 ?_
  refine pM_aln rfl rfl rfl ?_
  refine pM_gr rfl rfl rfl rfl ?_
  refine pM_ic rfl ki_0 ?_
  refine pM_qRu (as := [.inr (.inl (some 191)), .inl (.inl 0), .inr (.inl (some 192)), .inl (.inl 0)]) (T := []) rfl rfl (fun _ _ => rfl) rfl (q_m_likens rfl rfl h) (fun M2 h => ?_)
  refine pM_aln rfl rfl rfl ?_
  refine pM_gr rfl rfl rfl rfl ?_
  refine pM_ic rfl ki_0 ?_
  refine pM_aln rfl rfl rfl ?_
  refine pM_gr rfl rfl rfl rfl ?_
  refine pM_ic rfl ki_0 ?_
  refine pM_qRu (as := [.inr (.inl (some 196)), .inl (.inl 0), .inr (.inl (some 197)), .inl (.inl 0)]) (T := []) rfl rfl (fun _ _ => rfl) rfl (q_m_likensSeen rfl rfl h) (fun M4 h => ?_)
  refine pM_aln rfl rfl rfl ?_
  refine pM_aln rfl rfl rfl ?_
  refine pM_gi rfl rfl rfl rfl ?_
  refine pM_pi rfl rfl rfl rfl ?_
  refine pM_aln rfl rfl rfl ?_
  refine pM_ic rfl ki_1 ?_
  refine pM_pi rfl rfl rfl rfl ?_
  exact pM_ru rfl (⟨rfl, h⟩)
/-- 194: EarCodeModel.back()Z -/
def W_m_back  (N : Nat) (M : MM) (Q : Int32 → MM → Prop) : Prop :=
  ((((wi M 190 0 0).1 190 11) = 0 →
    Q 0 (wi M 190 0 0)) ∧
   (¬ ((wi M 190 0 0).1 190 11) = 0 →
    W_m_likens 192 0 191 0 N (wi M 190 0 0) (fun M3 =>
      W_m_likensSeen 197 0 196 0 N M3 (fun M5 =>
        Q 1 (wi (wi M5 190 15 (M5.1 190 16)) 190 12 0)))))
theorem q_m_back {X : Option (List AI)} {N : Nat} {M : MM}  {Q : Int32 → MM → Prop}  (h : W_m_back  N M Q) : pM X N 194 0 (ea_ar 0 [.inr (.inl (some 190))]) [] M (Ri Q) := by
  refine pM_w (F2 := [(0, .inr (.inl (some 190)))]) (fun L hL => lo_cons (lo_lk hL rfl) lo_nil) ?_
  refine pM_aln rfl rfl rfl ?_
  refine pM_ic rfl ki_0 ?_
  refine pM_pi rfl rfl rfl rfl ?_
  refine pM_aln rfl rfl rfl ?_
  refine pM_gi rfl rfl rfl rfl ?_
  refine pM_zne rfl rfl (fun h1 => ?_) (fun h1 => ?_)
  · replace h := h.2 h1
    refine pM_aln rfl rfl rfl ?_
    refine pM_gr rfl rfl rfl rfl ?_
    refine pM_ic rfl ki_0 ?_
    refine pM_aln rfl rfl rfl ?_
    refine pM_gr rfl rfl rfl rfl ?_
    refine pM_ic rfl ki_0 ?_
    refine pM_qRu (as := [.inr (.inl (some 192)), .inl (.inl 0), .inr (.inl (some 191)), .inl (.inl 0)]) (T := []) rfl rfl (fun _ _ => rfl) rfl (q_m_likens rfl rfl h) (fun M3 h => ?_)
    refine pM_aln rfl rfl rfl ?_
    refine pM_gr rfl rfl rfl rfl ?_
    refine pM_ic rfl ki_0 ?_
    refine pM_aln rfl rfl rfl ?_
    refine pM_gr rfl rfl rfl rfl ?_
    refine pM_ic rfl ki_0 ?_
    refine pM_qRu (as := [.inr (.inl (some 197)), .inl (.inl 0), .inr (.inl (some 196)), .inl (.inl 0)]) (T := []) rfl rfl (fun _ _ => rfl) rfl (q_m_likensSeen rfl rfl h) (fun M5 h => ?_)
    refine pM_aln rfl rfl rfl ?_
    refine pM_aln rfl rfl rfl ?_
    refine pM_gi rfl rfl rfl rfl ?_
    refine pM_pi rfl rfl rfl rfl ?_
    refine pM_aln rfl rfl rfl ?_
    refine pM_ic rfl ki_0 ?_
    refine pM_pi rfl rfl rfl rfl ?_
    refine pM_ic rfl ki_1 ?_
    exact pM_ri rfl (⟨_, rfl, h⟩)
  · replace h := h.1 h1
    refine pM_ic rfl ki_0 ?_
    exact pM_ri rfl (⟨_, rfl, h⟩)
def B_m_remembers_2 (k67 : MM → Prop) (Q : MM → Prop) (N : Nat) (ih : Int32 → MM → Prop) (v1 : Int32) (M : MM) : Prop :=
  ((v1 < 10 →
    (((M.1 190 12) = 10 →
      W_m_likens 195 (388 * v1) 195 (388 * (v1 - 1)) N M (fun M4 =>
        W_m_likensSeen 200 (10 * v1) 200 (10 * (v1 - 1)) N M4 (fun M6 =>
          ih (v1 + 1) M6))) ∧
     (¬ (M.1 190 12) = 10 →
      k67 M))) ∧
   (¬ v1 < 10 →
    k67 M))
def W_m_remembers_2 (k67 : MM → Prop) (Q : MM → Prop) : Nat → Int32 → MM → Prop
  | 0, _, _ => True
  | N + 1, v1, M => B_m_remembers_2 k67 Q N (W_m_remembers_2 k67 Q N) v1 M
theorem I_m_remembers_2 (k67 : MM → Prop) (Q : MM → Prop) (inv : Int32 → MM → Prop) (hs : ∀ (N : Nat) (ih : Int32 → MM → Prop) (v1 : Int32) (M : MM), (∀ (v1 : Int32) (M : MM), inv v1 M → ih v1 M) → inv v1 M → B_m_remembers_2 k67 Q N ih v1 M) : ∀ (N : Nat) (v1 : Int32) (M : MM), inv v1 M → W_m_remembers_2 k67 Q N v1 M := by
  intro N
  induction N with
  | zero => intros; trivial
  | succ N IH =>
    intro v1 M h
    exact hs N _ v1 M IH h
theorem q_m_remembers_2 {X : Option (List AI)} {N0 : Nat} {k67 : MM → Prop} {Q : MM → Prop}  (hk67 : ∀  (M : MM), k67 M → pM X N0 195 67 [(0, .inr (.inl (some 190)))] [] M (Ru Q)) : ∀ (N : Nat), N ≤ N0 → ∀ (v1 : Int32) (M : MM), W_m_remembers_2 k67 Q N v1 M → pM X N 195 2 [(0, .inr (.inl (some 190))), (1, .inl (.inl v1))] [] M (Ru Q) := by
  intro N
  induction N with
  | zero => intros; exact pM_zero
  | succ N IH =>
    intro hN v1 M h
    replace hN := Nat.le_of_succ_le hN
    replace h : B_m_remembers_2 k67 Q N (W_m_remembers_2 k67 Q N) v1 M := h
    refine pM_s (pMs_iln rfl rfl ?_)
    refine pM_bi rfl kb_10 ?_
    refine pM_cge rfl rfl (fun h1 => ?_) (fun h1 => ?_)
    · replace h := h.2 h1
      refine pM_w (F2 := [(0, .inr (.inl (some 190)))]) (fun L hL => lo_cons (lo_lk hL rfl) lo_nil) ?_
      exact pM_le hN (hk67 _ h)
    · replace h := h.1 h1
      refine pM_aln rfl rfl rfl ?_
      refine pM_gi rfl rfl rfl rfl ?_
      refine pM_bi rfl kb_10 ?_
      refine pM_cne rfl rfl (fun h2 => ?_) (fun h2 => ?_)
      · replace h := h.2 h2
        refine pM_w (F2 := [(0, .inr (.inl (some 190)))]) (fun L hL => lo_cons (lo_lk hL rfl) lo_nil) ?_
        exact pM_le hN (hk67 _ h)
      · replace h := h.1 h2
        refine pM_aln rfl rfl rfl ?_
        refine pM_gr rfl rfl rfl rfl ?_
        refine pM_si rfl ks_388 ?_
        refine pM_iln rfl rfl ?_
        refine pM_mul rfl ?_
        refine pM_aln rfl rfl rfl ?_
        refine pM_gr rfl rfl rfl rfl ?_
        refine pM_si rfl ks_388 ?_
        refine pM_iln rfl rfl ?_
        refine pM_ic rfl ki_1 ?_
        refine pM_sub rfl ?_
        refine pM_mul rfl ?_
        refine pM_qRu (as := [.inr (.inl (some 195)), .inl (.inl (388 * v1)), .inr (.inl (some 195)), .inl (.inl (388 * (v1 - 1)))]) (T := []) rfl rfl (fun _ _ => rfl) rfl (q_m_likens rfl rfl h) (fun M4 h => ?_)
        refine pM_aln rfl rfl rfl ?_
        refine pM_gr rfl rfl rfl rfl ?_
        refine pM_bi rfl kb_10 ?_
        refine pM_iln rfl rfl ?_
        refine pM_mul rfl ?_
        refine pM_aln rfl rfl rfl ?_
        refine pM_gr rfl rfl rfl rfl ?_
        refine pM_bi rfl kb_10 ?_
        refine pM_iln rfl rfl ?_
        refine pM_ic rfl ki_1 ?_
        refine pM_sub rfl ?_
        refine pM_mul rfl ?_
        refine pM_qRu (as := [.inr (.inl (some 200)), .inl (.inl (10 * v1)), .inr (.inl (some 200)), .inl (.inl (10 * (v1 - 1)))]) (T := []) rfl rfl (fun _ _ => rfl) rfl (q_m_likensSeen rfl rfl h) (fun M6 h => ?_)
        refine pM_ii rfl rfl rfl ki_1 ?_
        refine pM_go rfl rfl ?_
        refine pM_w (F2 := [(0, .inr (.inl (some 190))), (1, .inl (.inl (v1 + 1)))]) (fun L hL => lo_cons (lo_lk hL rfl) (lo_cons (lo_lk hL rfl) lo_nil)) ?_
        exact IH hN (v1 + 1) M6 h
/-- 195: EarCodeModel.remembers()V -/
def W_m_remembers  (N : Nat) (M : MM) (Q : MM → Prop) : Prop :=
  W_m_remembers_2 (fun M7 =>
    W_m_likens 191 0 195 (388 * (((wi M7 190 12 (mn 10 ((M7.1 190 12) + 1))).1 190 12) - 1)) N (wi M7 190 12 (mn 10 ((M7.1 190 12) + 1))) (fun M9 =>
      W_m_likensSeen 196 0 200 (10 * ((M9.1 190 12) - 1)) N M9 (fun M11 =>
        Q M11))) Q N 1 M
theorem q_m_remembers {X : Option (List AI)} {N : Nat} {M : MM}  {Q : MM → Prop}  (h : W_m_remembers  N M Q) : pM X N 195 0 (ea_ar 0 [.inr (.inl (some 190))]) [] M (Ru Q) := by
  refine pM_w (F2 := [(0, .inr (.inl (some 190)))]) (fun L hL => lo_cons (lo_lk hL rfl) lo_nil) ?_
  refine pM_ic rfl ki_1 ?_
  refine pM_isn rfl rfl ?_
  refine pM_w (F2 := [(0, .inr (.inl (some 190))), (1, .inl (.inl 1))]) (fun L hL => lo_cons (lo_lk hL rfl) (lo_cons (lo_lk hL rfl) lo_nil)) ?_
  refine q_m_remembers_2  (fun M7 h => ?_) N (Nat.le_refl N) 1 M h
  · refine pM_aln rfl rfl rfl ?_
    refine pM_bi rfl kb_10 ?_
    refine pM_aln rfl rfl rfl ?_
    refine pM_gi rfl rfl rfl rfl ?_
    refine pM_ic rfl ki_1 ?_
    refine pM_add rfl ?_
    refine pM_mn rfl rfl ?_
    refine pM_pi rfl rfl rfl rfl ?_
    refine pM_aln rfl rfl rfl ?_
    refine pM_gr rfl rfl rfl rfl ?_
    refine pM_ic rfl ki_0 ?_
    refine pM_aln rfl rfl rfl ?_
    refine pM_gr rfl rfl rfl rfl ?_
    refine pM_si rfl ks_388 ?_
    refine pM_aln rfl rfl rfl ?_
    refine pM_gi rfl rfl rfl rfl ?_
    refine pM_ic rfl ki_1 ?_
    refine pM_sub rfl ?_
    refine pM_mul rfl ?_
    refine pM_qRu (as := [.inr (.inl (some 191)), .inl (.inl 0), .inr (.inl (some 195)), .inl (.inl (388 * (((wi M7 190 12 (mn 10 ((M7.1 190 12) + 1))).1 190 12) - 1)))]) (T := []) rfl rfl (fun _ _ => rfl) rfl (q_m_likens rfl rfl h) (fun M9 h => ?_)
    refine pM_aln rfl rfl rfl ?_
    refine pM_gr rfl rfl rfl rfl ?_
    refine pM_ic rfl ki_0 ?_
    refine pM_aln rfl rfl rfl ?_
    refine pM_gr rfl rfl rfl rfl ?_
    refine pM_bi rfl kb_10 ?_
    refine pM_aln rfl rfl rfl ?_
    refine pM_gi rfl rfl rfl rfl ?_
    refine pM_ic rfl ki_1 ?_
    refine pM_sub rfl ?_
    refine pM_mul rfl ?_
    refine pM_qRu (as := [.inr (.inl (some 196)), .inl (.inl 0), .inr (.inl (some 200)), .inl (.inl (10 * ((M9.1 190 12) - 1)))]) (T := []) rfl rfl (fun _ _ => rfl) rfl (q_m_likensSeen rfl rfl h) (fun M11 h => ?_)
    exact pM_ru rfl (⟨rfl, h⟩)
/-- 196: EarCodeModel.undo()Z -/
def W_m_undo  (N : Nat) (M : MM) (Q : Int32 → MM → Prop) : Prop :=
  ((((wi M 190 0 0).1 190 12) = 0 →
    Q 0 (wi M 190 0 0)) ∧
   (¬ ((wi M 190 0 0).1 190 12) = 0 →
    W_m_likens 195 (388 * ((wi (wi M 190 0 0) 190 12 (((wi M 190 0 0).1 190 12) - 1)).1 190 12)) 191 0 N (wi (wi M 190 0 0) 190 12 (((wi M 190 0 0).1 190 12) - 1)) (fun M3 =>
      W_m_likensSeen 200 (10 * (M3.1 190 12)) 196 0 N M3 (fun M5 =>
        Q 1 M5))))
theorem q_m_undo {X : Option (List AI)} {N : Nat} {M : MM}  {Q : Int32 → MM → Prop}  (h : W_m_undo  N M Q) : pM X N 196 0 (ea_ar 0 [.inr (.inl (some 190))]) [] M (Ri Q) := by
  refine pM_w (F2 := [(0, .inr (.inl (some 190)))]) (fun L hL => lo_cons (lo_lk hL rfl) lo_nil) ?_
  refine pM_aln rfl rfl rfl ?_
  refine pM_ic rfl ki_0 ?_
  refine pM_pi rfl rfl rfl rfl ?_
  refine pM_aln rfl rfl rfl ?_
  refine pM_gi rfl rfl rfl rfl ?_
  refine pM_zne rfl rfl (fun h1 => ?_) (fun h1 => ?_)
  · replace h := h.2 h1
    refine pM_aln rfl rfl rfl ?_
    refine pM_p (pc' := 16) (S' := [.inr (.inl (some 190)), .inr (.inl (some 190))]) rfl rfl (fun _ => rfl) ?_
    refine pM_gi rfl rfl rfl rfl ?_
    refine pM_ic rfl ki_1 ?_
    refine pM_sub rfl ?_
    refine pM_pi rfl rfl rfl rfl ?_
    refine pM_aln rfl rfl rfl ?_
    refine pM_gr rfl rfl rfl rfl ?_
    refine pM_si rfl ks_388 ?_
    refine pM_aln rfl rfl rfl ?_
    refine pM_gi rfl rfl rfl rfl ?_
    refine pM_mul rfl ?_
    refine pM_aln rfl rfl rfl ?_
    refine pM_gr rfl rfl rfl rfl ?_
    refine pM_ic rfl ki_0 ?_
    refine pM_qRu (as := [.inr (.inl (some 195)), .inl (.inl (388 * ((wi (wi M 190 0 0) 190 12 (((wi M 190 0 0).1 190 12) - 1)).1 190 12))), .inr (.inl (some 191)), .inl (.inl 0)]) (T := []) rfl rfl (fun _ _ => rfl) rfl (q_m_likens rfl rfl h) (fun M3 h => ?_)
    refine pM_aln rfl rfl rfl ?_
    refine pM_gr rfl rfl rfl rfl ?_
    refine pM_bi rfl kb_10 ?_
    refine pM_aln rfl rfl rfl ?_
    refine pM_gi rfl rfl rfl rfl ?_
    refine pM_mul rfl ?_
    refine pM_aln rfl rfl rfl ?_
    refine pM_gr rfl rfl rfl rfl ?_
    refine pM_ic rfl ki_0 ?_
    refine pM_qRu (as := [.inr (.inl (some 200)), .inl (.inl (10 * (M3.1 190 12))), .inr (.inl (some 196)), .inl (.inl 0)]) (T := []) rfl rfl (fun _ _ => rfl) rfl (q_m_likensSeen rfl rfl h) (fun M5 h => ?_)
    refine pM_ic rfl ki_1 ?_
    exact pM_ri rfl (⟨_, rfl, h⟩)
  · replace h := h.1 h1
    refine pM_ic rfl ki_0 ?_
    exact pM_ri rfl (⟨_, rfl, h⟩)
/-- 197: EarCodeModel.clauses()I -/
def V_m_clauses  (M : MM) : Int32 :=
  (mx 0 (M.1 190 15))
theorem q_m_clauses {X : Option (List AI)} {N : Nat} {M : MM}   : pM X N 197 0 (ea_ar 0 [.inr (.inl (some 190))]) [] M (Vi (V_m_clauses  M) M) := by
  refine pM_w (F2 := [(0, .inr (.inl (some 190)))]) (fun L hL => lo_cons (lo_lk hL rfl) lo_nil) ?_
  refine pM_ic rfl ki_0 ?_
  refine pM_aln rfl rfl rfl ?_
  refine pM_gi rfl rfl rfl rfl ?_
  refine pM_mx rfl rfl ?_
  exact pM_rVi rfl (rfl)
/-- 198: EarCodeModel.citizens()I -/
def V_m_citizens  (M : MM) : Int32 :=
  (M.1 191 (ni 0))
theorem q_m_citizens {X : Option (List AI)} {N : Nat} {M : MM}   : pM X N 198 0 (ea_ar 0 [.inr (.inl (some 190))]) [] M (Vi (V_m_citizens  M) M) := by
  refine pM_w (F2 := [(0, .inr (.inl (some 190)))]) (fun L hL => lo_cons (lo_lk hL rfl) lo_nil) ?_
  refine pM_aln rfl rfl rfl ?_
  refine pM_gr rfl rfl rfl rfl ?_
  refine pM_ic rfl ki_0 ?_
  refine pM_ai rfl rfl row_p ?_
  exact pM_rVi rfl (rfl)
/-- 199: EarCodeModel.of(II)I -/
def V_m_of (p1 : Int32) (p2 : Int32) (M : MM) : Int32 :=
  (M.1 191 (ni ((18 + (13 * p1)) + p2)))
theorem q_m_of {X : Option (List AI)} {N : Nat} {M : MM} {p1 : Int32} {p2 : Int32}  : pM X N 199 0 (ea_ar 0 [.inr (.inl (some 190)), .inl (.inl p1), .inl (.inl p2)]) [] M (Vi (V_m_of p1 p2 M) M) := by
  refine pM_w (F2 := [(0, .inr (.inl (some 190))), (1, .inl (.inl p1)), (2, .inl (.inl p2))]) (fun L hL => lo_cons (lo_lk hL rfl) (lo_cons (lo_lk hL rfl) (lo_cons (lo_lk hL rfl) lo_nil))) ?_
  refine pM_aln rfl rfl rfl ?_
  refine pM_gr rfl rfl rfl rfl ?_
  refine pM_bi rfl kb_18 ?_
  refine pM_bi rfl kb_13 ?_
  refine pM_iln rfl rfl ?_
  refine pM_mul rfl ?_
  refine pM_add rfl ?_
  refine pM_iln rfl rfl ?_
  refine pM_add rfl ?_
  refine pM_ai rfl rfl row_p ?_
  exact pM_rVi rfl (rfl)
/-- 200: EarCodeModel.sets(III)V -/
def W_m_sets (p1 : Int32) (p2 : Int32) (p3 : Int32) (N : Nat) (M : MM) (Q : MM → Prop) : Prop :=
  Q (wi M 191 (ni ((18 + (13 * p1)) + p2)) p3)
theorem q_m_sets {X : Option (List AI)} {N : Nat} {M : MM} {p1 : Int32} {p2 : Int32} {p3 : Int32} {Q : MM → Prop}  (h : W_m_sets p1 p2 p3 N M Q) : pM X N 200 0 (ea_ar 0 [.inr (.inl (some 190)), .inl (.inl p1), .inl (.inl p2), .inl (.inl p3)]) [] M (Ru Q) := by
  refine pM_w (F2 := [(0, .inr (.inl (some 190))), (1, .inl (.inl p1)), (2, .inl (.inl p2)), (3, .inl (.inl p3))]) (fun L hL => lo_cons (lo_lk hL rfl) (lo_cons (lo_lk hL rfl) (lo_cons (lo_lk hL rfl) (lo_cons (lo_lk hL rfl) lo_nil)))) ?_
  refine pM_aln rfl rfl rfl ?_
  refine pM_gr rfl rfl rfl rfl ?_
  refine pM_bi rfl kb_18 ?_
  refine pM_bi rfl kb_13 ?_
  refine pM_iln rfl rfl ?_
  refine pM_mul rfl ?_
  refine pM_add rfl ?_
  refine pM_iln rfl rfl ?_
  refine pM_add rfl ?_
  refine pM_iln rfl rfl ?_
  refine pM_sa rfl rfl row_p ?_
  exact pM_ru rfl (⟨rfl, h⟩)
/-- 201: EarCodeModel.isAlive(I)Z -/
def V_m_isAlive (p1 : Int32) (M : MM) : Int32 :=
  (if (V_m_of p1 0 M) = 1 then
    1
  else
    0)
theorem q_m_isAlive {X : Option (List AI)} {N : Nat} {M : MM} {p1 : Int32}  : pM X N 201 0 (ea_ar 0 [.inr (.inl (some 190)), .inl (.inl p1)]) [] M (Vi (V_m_isAlive p1 M) M) := by
  refine pM_w (F2 := [(0, .inr (.inl (some 190))), (1, .inl (.inl p1))]) (fun L hL => lo_cons (lo_lk hL rfl) (lo_cons (lo_lk hL rfl) lo_nil)) ?_
  refine pM_aln rfl rfl rfl ?_
  refine pM_iln rfl rfl ?_
  refine pM_ic rfl ki_0 ?_
  refine pM_qVi (as := [.inr (.inl (some 190)), .inl (.inl p1), .inl (.inl 0)]) (T := []) rfl rfl (fun C hC => cl_v hC rfl rfl rfl rfl) rfl (q_m_of ) ?_
  refine pM_ic rfl ki_1 ?_
  refine pM_cne rfl rfl (fun h1 => ?_) (fun h1 => ?_)
  · refine pM_ic rfl ki_0 ?_
    exact pM_rVi rfl (Eq.trans (if_neg h1) rfl)
  · refine pM_ic rfl ki_1 ?_
    refine pM_go rfl rfl ?_
    exact pM_rVi rfl (Eq.trans (if_pos h1) rfl)
/-- 202: EarCodeModel.knows(II)Z -/
def V_m_knows (p1 : Int32) (p2 : Int32) (M : MM) : Int32 :=
  (V_m_has (V_m_of p1 1 M) p2 M)
theorem q_m_knows {X : Option (List AI)} {N : Nat} {M : MM} {p1 : Int32} {p2 : Int32}  : pM X N 202 0 (ea_ar 0 [.inr (.inl (some 190)), .inl (.inl p1), .inl (.inl p2)]) [] M (Vi (V_m_knows p1 p2 M) M) := by
  refine pM_w (F2 := [(0, .inr (.inl (some 190))), (1, .inl (.inl p1)), (2, .inl (.inl p2))]) (fun L hL => lo_cons (lo_lk hL rfl) (lo_cons (lo_lk hL rfl) (lo_cons (lo_lk hL rfl) lo_nil))) ?_
  refine pM_aln rfl rfl rfl ?_
  refine pM_iln rfl rfl ?_
  refine pM_ic rfl ki_1 ?_
  refine pM_qVi (as := [.inr (.inl (some 190)), .inl (.inl p1), .inl (.inl 1)]) (T := []) rfl rfl (fun C hC => cl_v hC rfl rfl rfl rfl) rfl (q_m_of ) ?_
  refine pM_iln rfl rfl ?_
  refine pM_qVi (as := [.inl (.inl (V_m_of p1 1 M)), .inl (.inl p2)]) (T := []) rfl rfl (fun _ _ => rfl) rfl (q_m_has ) ?_
  exact pM_rVi rfl (rfl)
/-- 203: EarCodeModel.demands(I)Z -/
def V_m_demands (p1 : Int32) (M : MM) : Int32 :=
  (if (M.1 201 (ni (4 * p1))) = 1 then
    1
  else
    0)
theorem q_m_demands {X : Option (List AI)} {N : Nat} {M : MM} {p1 : Int32}  : pM X N 203 0 (ea_ar 0 [.inr (.inl (some 190)), .inl (.inl p1)]) [] M (Vi (V_m_demands p1 M) M) := by
  refine pM_w (F2 := [(0, .inr (.inl (some 190))), (1, .inl (.inl p1))]) (fun L hL => lo_cons (lo_lk hL rfl) (lo_cons (lo_lk hL rfl) lo_nil)) ?_
  refine pM_aln rfl rfl rfl ?_
  refine pM_gr rfl rfl rfl rfl ?_
  refine pM_ic rfl ki_4 ?_
  refine pM_iln rfl rfl ?_
  refine pM_mul rfl ?_
  refine pM_ai rfl rfl (one_p _) ?_
  refine pM_ic rfl ki_1 ?_
  refine pM_cne rfl rfl (fun h1 => ?_) (fun h1 => ?_)
  · refine pM_ic rfl ki_0 ?_
    exact pM_rVi rfl (Eq.trans (if_neg h1) rfl)
  · refine pM_ic rfl ki_1 ?_
    refine pM_go rfl rfl ?_
    exact pM_rVi rfl (Eq.trans (if_pos h1) rfl)
/-- 204: EarCodeModel.deedOf(I)I -/
def V_m_deedOf (p1 : Int32) (M : MM) : Int32 :=
  (M.1 201 (ni ((4 * p1) + 1)))
theorem q_m_deedOf {X : Option (List AI)} {N : Nat} {M : MM} {p1 : Int32}  : pM X N 204 0 (ea_ar 0 [.inr (.inl (some 190)), .inl (.inl p1)]) [] M (Vi (V_m_deedOf p1 M) M) := by
  refine pM_w (F2 := [(0, .inr (.inl (some 190))), (1, .inl (.inl p1))]) (fun L hL => lo_cons (lo_lk hL rfl) (lo_cons (lo_lk hL rfl) lo_nil)) ?_
  refine pM_aln rfl rfl rfl ?_
  refine pM_gr rfl rfl rfl rfl ?_
  refine pM_ic rfl ki_4 ?_
  refine pM_iln rfl rfl ?_
  refine pM_mul rfl ?_
  refine pM_ic rfl ki_1 ?_
  refine pM_add rfl ?_
  refine pM_ai rfl rfl (one_p _) ?_
  exact pM_rVi rfl (rfl)
/-- 205: EarCodeModel.noCitizen(I)Z -/
def V_m_noCitizen (p1 : Int32) (M : MM) : Int32 :=
  (if (V_m_in p1 0 ((V_m_citizens  M) - 1) M) = 0 then
    1
  else
    0)
theorem q_m_noCitizen {X : Option (List AI)} {N : Nat} {M : MM} {p1 : Int32}  : pM X N 205 0 (ea_ar 0 [.inr (.inl (some 190)), .inl (.inl p1)]) [] M (Vi (V_m_noCitizen p1 M) M) := by
  refine pM_w (F2 := [(0, .inr (.inl (some 190))), (1, .inl (.inl p1))]) (fun L hL => lo_cons (lo_lk hL rfl) (lo_cons (lo_lk hL rfl) lo_nil)) ?_
  refine pM_iln rfl rfl ?_
  refine pM_ic rfl ki_0 ?_
  refine pM_aln rfl rfl rfl ?_
  refine pM_qVi (as := [.inr (.inl (some 190))]) (T := [.inl (.inl 0), .inl (.inl p1)]) rfl rfl (fun C hC => cl_v hC rfl rfl rfl rfl) rfl (q_m_citizens ) ?_
  refine pM_ic rfl ki_1 ?_
  refine pM_sub rfl ?_
  refine pM_qVi (as := [.inl (.inl p1), .inl (.inl 0), .inl (.inl ((V_m_citizens  M) - 1))]) (T := []) rfl rfl (fun _ _ => rfl) rfl (q_m_in ) ?_
  refine pM_zne rfl rfl (fun h1 => ?_) (fun h1 => ?_)
  · refine pM_ic rfl ki_0 ?_
    exact pM_rVi rfl (Eq.trans (if_neg h1) rfl)
  · refine pM_ic rfl ki_1 ?_
    refine pM_go rfl rfl ?_
    exact pM_rVi rfl (Eq.trans (if_pos h1) rfl)
/-- 206: EarCodeModel.noClause(I)Z -/
def V_m_noClause (p1 : Int32) (M : MM) : Int32 :=
  (if (V_m_in p1 0 ((V_m_clauses  M) - 1) M) = 0 then
    1
  else
    0)
theorem q_m_noClause {X : Option (List AI)} {N : Nat} {M : MM} {p1 : Int32}  : pM X N 206 0 (ea_ar 0 [.inr (.inl (some 190)), .inl (.inl p1)]) [] M (Vi (V_m_noClause p1 M) M) := by
  refine pM_w (F2 := [(0, .inr (.inl (some 190))), (1, .inl (.inl p1))]) (fun L hL => lo_cons (lo_lk hL rfl) (lo_cons (lo_lk hL rfl) lo_nil)) ?_
  refine pM_iln rfl rfl ?_
  refine pM_ic rfl ki_0 ?_
  refine pM_aln rfl rfl rfl ?_
  refine pM_qVi (as := [.inr (.inl (some 190))]) (T := [.inl (.inl 0), .inl (.inl p1)]) rfl rfl (fun C hC => cl_v hC rfl rfl rfl rfl) rfl (q_m_clauses ) ?_
  refine pM_ic rfl ki_1 ?_
  refine pM_sub rfl ?_
  refine pM_qVi (as := [.inl (.inl p1), .inl (.inl 0), .inl (.inl ((V_m_clauses  M) - 1))]) (T := []) rfl rfl (fun _ _ => rfl) rfl (q_m_in ) ?_
  refine pM_zne rfl rfl (fun h1 => ?_) (fun h1 => ?_)
  · refine pM_ic rfl ki_0 ?_
    exact pM_rVi rfl (Eq.trans (if_neg h1) rfl)
  · refine pM_ic rfl ki_1 ?_
    refine pM_go rfl rfl ?_
    exact pM_rVi rfl (Eq.trans (if_pos h1) rfl)
/-- 207: EarCodeModel.noMatter(I)Z -/
def V_m_noMatter (p0 : Int32) (M : MM) : Int32 :=
  (if (V_m_in p0 0 63 M) = 0 then
    1
  else
    0)
theorem q_m_noMatter {X : Option (List AI)} {N : Nat} {M : MM} {p0 : Int32}  : pM X N 207 0 (ea_ar 0 [.inl (.inl p0)]) [] M (Vi (V_m_noMatter p0 M) M) := by
  refine pM_w (F2 := [(0, .inl (.inl p0))]) (fun L hL => lo_cons (lo_lk hL rfl) lo_nil) ?_
  refine pM_iln rfl rfl ?_
  refine pM_ic rfl ki_0 ?_
  refine pM_bi rfl kb_63 ?_
  refine pM_qVi (as := [.inl (.inl p0), .inl (.inl 0), .inl (.inl 63)]) (T := []) rfl rfl (fun _ _ => rfl) rfl (q_m_in ) ?_
  refine pM_zne rfl rfl (fun h1 => ?_) (fun h1 => ?_)
  · refine pM_ic rfl ki_0 ?_
    exact pM_rVi rfl (Eq.trans (if_neg h1) rfl)
  · refine pM_ic rfl ki_1 ?_
    refine pM_go rfl rfl ?_
    exact pM_rVi rfl (Eq.trans (if_pos h1) rfl)
/-- 208: EarCodeModel.noEight(I)Z -/
def V_m_noEight (p0 : Int32) (M : MM) : Int32 :=
  (if (V_m_in p0 0 7 M) = 0 then
    1
  else
    0)
theorem q_m_noEight {X : Option (List AI)} {N : Nat} {M : MM} {p0 : Int32}  : pM X N 208 0 (ea_ar 0 [.inl (.inl p0)]) [] M (Vi (V_m_noEight p0 M) M) := by
  refine pM_w (F2 := [(0, .inl (.inl p0))]) (fun L hL => lo_cons (lo_lk hL rfl) lo_nil) ?_
  refine pM_iln rfl rfl ?_
  refine pM_ic rfl ki_0 ?_
  refine pM_bi rfl kb_7 ?_
  refine pM_qVi (as := [.inl (.inl p0), .inl (.inl 0), .inl (.inl 7)]) (T := []) rfl rfl (fun _ _ => rfl) rfl (q_m_in ) ?_
  refine pM_zne rfl rfl (fun h1 => ?_) (fun h1 => ?_)
  · refine pM_ic rfl ki_0 ?_
    exact pM_rVi rfl (Eq.trans (if_neg h1) rfl)
  · refine pM_ic rfl ki_1 ?_
    refine pM_go rfl rfl ?_
    exact pM_rVi rfl (Eq.trans (if_pos h1) rfl)
/-- 209: EarCodeModel.doesIn(II)I -/
def V_m_doesIn (p1 : Int32) (p2 : Int32) (M : MM) : Int32 :=
  (V_m_of p1 (7 + (rm ((V_m_of p1 6 M) + p2) (V_m_of p1 5 M))) M)
theorem q_m_doesIn {X : Option (List AI)} {N : Nat} {M : MM} {p1 : Int32} {p2 : Int32}  : pM X N 209 0 (ea_ar 0 [.inr (.inl (some 190)), .inl (.inl p1), .inl (.inl p2)]) [] M (Vi (V_m_doesIn p1 p2 M) M) := by
  refine pM_w (F2 := [(0, .inr (.inl (some 190))), (1, .inl (.inl p1)), (2, .inl (.inl p2))]) (fun L hL => lo_cons (lo_lk hL rfl) (lo_cons (lo_lk hL rfl) (lo_cons (lo_lk hL rfl) lo_nil))) ?_
  refine pM_aln rfl rfl rfl ?_
  refine pM_iln rfl rfl ?_
  refine pM_bi rfl kb_7 ?_
  refine pM_aln rfl rfl rfl ?_
  refine pM_iln rfl rfl ?_
  refine pM_bi rfl kb_6 ?_
  refine pM_qVi (as := [.inr (.inl (some 190)), .inl (.inl p1), .inl (.inl 6)]) (T := [.inl (.inl 7), .inl (.inl p1), .inr (.inl (some 190))]) rfl rfl (fun C hC => cl_v hC rfl rfl rfl rfl) rfl (q_m_of ) ?_
  refine pM_iln rfl rfl ?_
  refine pM_add rfl ?_
  refine pM_aln rfl rfl rfl ?_
  refine pM_iln rfl rfl ?_
  refine pM_ic rfl ki_5 ?_
  refine pM_qVi (as := [.inr (.inl (some 190)), .inl (.inl p1), .inl (.inl 5)]) (T := [.inl (.inl ((V_m_of p1 6 M) + p2)), .inl (.inl 7), .inl (.inl p1), .inr (.inl (some 190))]) rfl rfl (fun C hC => cl_v hC rfl rfl rfl rfl) rfl (q_m_of ) ?_
  refine pM_rem rfl ?_
  refine pM_add rfl ?_
  refine pM_qVi (as := [.inr (.inl (some 190)), .inl (.inl p1), .inl (.inl (7 + (rm ((V_m_of p1 6 M) + p2) (V_m_of p1 5 M))))]) (T := []) rfl rfl (fun C hC => cl_v hC rfl rfl rfl rfl) rfl (q_m_of ) ?_
  exact pM_rVi rfl (rfl)
/-- 210: EarCodeModel.draw(I)I -/
def W_m_draw (p1 : Int32) (N : Nat) (M : MM) (Q : Int32 → MM → Prop) : Prop :=
  Q (rm ((sr ((wi M 191 (ni 9) ((1103515245 * (M.1 191 (ni 9))) + 12345)).1 191 (ni 9)) 16) &&& 32767) p1) (wi M 191 (ni 9) ((1103515245 * (M.1 191 (ni 9))) + 12345))
theorem q_m_draw {X : Option (List AI)} {N : Nat} {M : MM} {p1 : Int32} {Q : Int32 → MM → Prop}  (h : W_m_draw p1 N M Q) : pM X N 210 0 (ea_ar 0 [.inr (.inl (some 190)), .inl (.inl p1)]) [] M (Ri Q) := by
  refine pM_w (F2 := [(0, .inr (.inl (some 190))), (1, .inl (.inl p1))]) (fun L hL => lo_cons (lo_lk hL rfl) (lo_cons (lo_lk hL rfl) lo_nil)) ?_
  refine pM_aln rfl rfl rfl ?_
  refine pM_gr rfl rfl rfl rfl ?_
  refine pM_bi rfl kb_9 ?_
  refine pM_ld rfl rfl kn_1103515245 ?_
  refine pM_aln rfl rfl rfl ?_
  refine pM_gr rfl rfl rfl rfl ?_
  refine pM_bi rfl kb_9 ?_
  refine pM_ai rfl rfl row_p ?_
  refine pM_mul rfl ?_
  refine pM_si rfl ks_12345 ?_
  refine pM_add rfl ?_
  refine pM_sa rfl rfl row_p ?_
  refine pM_aln rfl rfl rfl ?_
  refine pM_gr rfl rfl rfl rfl ?_
  refine pM_bi rfl kb_9 ?_
  refine pM_ai rfl rfl row_p ?_
  refine pM_bi rfl kb_16 ?_
  refine pM_shr rfl ?_
  refine pM_si rfl ks_32767 ?_
  refine pM_and rfl ?_
  refine pM_iln rfl rfl ?_
  refine pM_rem rfl ?_
  exact pM_ri rfl (⟨_, rfl, h⟩)
def B_m_feed_60 (p1 : Int32) (p2 : Int32) (p3 : Int32) (p4 : Int32) (p5 : Int32) (Q : Int32 → MM → Prop) (N : Nat) (ih : Int32 → MM → Prop) (v6 : Int32) (M : MM) : Prop :=
  ((v6 < 20 →
    ih (v6 + 1) (wi M 203 (ni ((M.1 190 18) + v6)) (vp_nar .byte ((Int32.toInt8 (sr (M.1 204 (ni (v6 / 4))) (24 - (8 * (rm v6 4))))).toInt32)))) ∧
   (¬ v6 < 20 →
    Q ((wi M 190 18 ((M.1 190 18) + 20)).1 190 18) (wi M 190 18 ((M.1 190 18) + 20))))
def W_m_feed_60 (p1 : Int32) (p2 : Int32) (p3 : Int32) (p4 : Int32) (p5 : Int32) (Q : Int32 → MM → Prop) : Nat → Int32 → MM → Prop
  | 0, _, _ => True
  | N + 1, v6, M => B_m_feed_60 p1 p2 p3 p4 p5 Q N (W_m_feed_60 p1 p2 p3 p4 p5 Q N) v6 M
theorem I_m_feed_60 (p1 : Int32) (p2 : Int32) (p3 : Int32) (p4 : Int32) (p5 : Int32) (Q : Int32 → MM → Prop) (inv : Int32 → MM → Prop) (hs : ∀ (N : Nat) (ih : Int32 → MM → Prop) (v6 : Int32) (M : MM), (∀ (v6 : Int32) (M : MM), inv v6 M → ih v6 M) → inv v6 M → B_m_feed_60 p1 p2 p3 p4 p5 Q N ih v6 M) : ∀ (N : Nat) (v6 : Int32) (M : MM), inv v6 M → W_m_feed_60 p1 p2 p3 p4 p5 Q N v6 M := by
  intro N
  induction N with
  | zero => intros; trivial
  | succ N IH =>
    intro v6 M h
    exact hs N _ v6 M IH h
theorem q_m_feed_60 {X : Option (List AI)} {N0 : Nat} {p1 : Int32} {p2 : Int32} {p3 : Int32} {p4 : Int32} {p5 : Int32} {Q : Int32 → MM → Prop}   : ∀ (N : Nat), N ≤ N0 → ∀ (v6 : Int32) (M : MM), W_m_feed_60 p1 p2 p3 p4 p5 Q N v6 M → pM X N 211 60 [(0, .inr (.inl (some 190))), (6, .inl (.inl v6))] [] M (Ri Q) := by
  intro N
  induction N with
  | zero => intros; exact pM_zero
  | succ N IH =>
    intro hN v6 M h
    replace hN := Nat.le_of_succ_le hN
    replace h : B_m_feed_60 p1 p2 p3 p4 p5 Q N (W_m_feed_60 p1 p2 p3 p4 p5 Q N) v6 M := h
    refine pM_s (pMs_il rfl rfl ?_)
    refine pM_bi rfl kb_20 ?_
    refine pM_cge rfl rfl (fun h2 => ?_) (fun h2 => ?_)
    · replace h := h.2 h2
      refine pM_aln rfl rfl rfl ?_
      refine pM_p (pc' := 108) (S' := [.inr (.inl (some 190)), .inr (.inl (some 190))]) rfl rfl (fun _ => rfl) ?_
      refine pM_gi rfl rfl rfl rfl ?_
      refine pM_bi rfl kb_20 ?_
      refine pM_add rfl ?_
      refine pM_pi rfl rfl rfl rfl ?_
      refine pM_aln rfl rfl rfl ?_
      refine pM_gi rfl rfl rfl rfl ?_
      exact pM_ri rfl (⟨_, rfl, h⟩)
    · replace h := h.1 h2
      refine pM_aln rfl rfl rfl ?_
      refine pM_gr rfl rfl rfl rfl ?_
      refine pM_aln rfl rfl rfl ?_
      refine pM_gi rfl rfl rfl rfl ?_
      refine pM_il rfl rfl ?_
      refine pM_add rfl ?_
      refine pM_aln rfl rfl rfl ?_
      refine pM_gr rfl rfl rfl rfl ?_
      refine pM_il rfl rfl ?_
      refine pM_ic rfl ki_4 ?_
      refine pM_div rfl ?_
      refine pM_ai rfl rfl (one_p _) ?_
      refine pM_bi rfl kb_24 ?_
      refine pM_bi rfl kb_8 ?_
      refine pM_il rfl rfl ?_
      refine pM_ic rfl ki_4 ?_
      refine pM_rem rfl ?_
      refine pM_mul rfl ?_
      refine pM_sub rfl ?_
      refine pM_shr rfl ?_
      refine pM_p (pc' := 99) (S' := [.inl (.inl (Int32.toInt8 (sr (M.1 204 (ni (v6 / 4))) (24 - (8 * (rm v6 4))))).toInt32), .inl (.inl ((M.1 190 18) + v6)), .inr (.inl (some 203))]) rfl rfl (fun _ => rfl) ?_
      refine pM_sb rfl rfl (one_p _) ?_
      refine pM_ii rfl rfl rfl ki_1 ?_
      refine pM_go rfl rfl ?_
      refine pM_w (F2 := [(0, .inr (.inl (some 190))), (6, .inl (.inl (v6 + 1)))]) (fun L hL => lo_cons (lo_lk hL rfl) (lo_cons (lo_lk hL rfl) lo_nil)) ?_
      exact IH hN (v6 + 1) (wi M 203 (ni ((M.1 190 18) + v6)) (vp_nar .byte ((Int32.toInt8 (sr (M.1 204 (ni (v6 / 4))) (24 - (8 * (rm v6 4))))).toInt32))) h
/-- 211: EarCodeModel.feed(IIIII)I -/
def W_m_feed (p1 : Int32) (p2 : Int32) (p3 : Int32) (p4 : Int32) (p5 : Int32) (N : Nat) (M : MM) (Q : Int32 → MM → Prop) : Prop :=
  ((400 < (((wi M 190 0 0).1 190 18) + 20) →
    Q (-1) (wi M 190 0 0)) ∧
   (¬ 400 < (((wi M 190 0 0).1 190 18) + 20) →
    W_m_feed_60 p1 p2 p3 p4 p5 Q N 0 (wi (wi (wi (wi (wi (wi M 190 0 0) 204 (ni 0) p1) 204 (ni 1) p2) 204 (ni 2) p3) 204 (ni 3) p4) 204 (ni 4) p5)))
theorem q_m_feed {X : Option (List AI)} {N : Nat} {M : MM} {p1 : Int32} {p2 : Int32} {p3 : Int32} {p4 : Int32} {p5 : Int32} {Q : Int32 → MM → Prop}  (h : W_m_feed p1 p2 p3 p4 p5 N M Q) : pM X N 211 0 (ea_ar 0 [.inr (.inl (some 190)), .inl (.inl p1), .inl (.inl p2), .inl (.inl p3), .inl (.inl p4), .inl (.inl p5)]) [] M (Ri Q) := by
  refine pM_w (F2 := [(0, .inr (.inl (some 190))), (1, .inl (.inl p1)), (2, .inl (.inl p2)), (3, .inl (.inl p3)), (4, .inl (.inl p4)), (5, .inl (.inl p5))]) (fun L hL => lo_cons (lo_lk hL rfl) (lo_cons (lo_lk hL rfl) (lo_cons (lo_lk hL rfl) (lo_cons (lo_lk hL rfl) (lo_cons (lo_lk hL rfl) (lo_cons (lo_lk hL rfl) lo_nil)))))) ?_
  refine pM_aln rfl rfl rfl ?_
  refine pM_ic rfl ki_0 ?_
  refine pM_pi rfl rfl rfl rfl ?_
  refine pM_aln rfl rfl rfl ?_
  refine pM_gi rfl rfl rfl rfl ?_
  refine pM_bi rfl kb_20 ?_
  refine pM_add rfl ?_
  refine pM_si rfl ks_400 ?_
  refine pM_cle rfl rfl (fun h1 => ?_) (fun h1 => ?_)
  · replace h := h.2 h1
    refine pM_aln rfl rfl rfl ?_
    refine pM_gr rfl rfl rfl rfl ?_
    refine pM_ic rfl ki_0 ?_
    refine pM_iln rfl rfl ?_
    refine pM_sa rfl rfl (one_p _) ?_
    refine pM_aln rfl rfl rfl ?_
    refine pM_gr rfl rfl rfl rfl ?_
    refine pM_ic rfl ki_1 ?_
    refine pM_iln rfl rfl ?_
    refine pM_sa rfl rfl (one_p _) ?_
    refine pM_aln rfl rfl rfl ?_
    refine pM_gr rfl rfl rfl rfl ?_
    refine pM_ic rfl ki_2 ?_
    refine pM_iln rfl rfl ?_
    refine pM_sa rfl rfl (one_p _) ?_
    refine pM_aln rfl rfl rfl ?_
    refine pM_gr rfl rfl rfl rfl ?_
    refine pM_ic rfl ki_3 ?_
    refine pM_il rfl rfl ?_
    refine pM_sa rfl rfl (one_p _) ?_
    refine pM_aln rfl rfl rfl ?_
    refine pM_gr rfl rfl rfl rfl ?_
    refine pM_ic rfl ki_4 ?_
    refine pM_il rfl rfl ?_
    refine pM_sa rfl rfl (one_p _) ?_
    refine pM_ic rfl ki_0 ?_
    refine pM_is rfl rfl ?_
    refine pM_w (F2 := [(0, .inr (.inl (some 190))), (6, .inl (.inl 0))]) (fun L hL => lo_cons (lo_lk hL rfl) (lo_cons (lo_lk hL rfl) lo_nil)) ?_
    refine q_m_feed_60   N (Nat.le_refl N) 0 (wi (wi (wi (wi (wi (wi M 190 0 0) 204 (ni 0) p1) 204 (ni 1) p2) 204 (ni 2) p3) 204 (ni 3) p4) 204 (ni 4) p5) h
  · replace h := h.1 h1
    refine pM_ic rfl ki_m1 ?_
    exact pM_ri rfl (⟨_, rfl, h⟩)
/-- 212: EarCodeModel.end(I)Z -/
def W_m_end (p1 : Int32) (N : Nat) (M : MM) (Q : Int32 → MM → Prop) : Prop :=
  ((p1 < 0 →
    Q 0 (wi M 190 0 0)) ∧
   (¬ p1 < 0 →
    ((((wi M 190 0 0).1 190 18) < p1 →
      Q 0 (wi M 190 0 0)) ∧
     (¬ ((wi M 190 0 0).1 190 18) < p1 →
      Q 1 (wi (wi M 190 0 0) 190 18 p1)))))
theorem q_m_end {X : Option (List AI)} {N : Nat} {M : MM} {p1 : Int32} {Q : Int32 → MM → Prop}  (h : W_m_end p1 N M Q) : pM X N 212 0 (ea_ar 0 [.inr (.inl (some 190)), .inl (.inl p1)]) [] M (Ri Q) := by
  refine pM_w (F2 := [(0, .inr (.inl (some 190))), (1, .inl (.inl p1))]) (fun L hL => lo_cons (lo_lk hL rfl) (lo_cons (lo_lk hL rfl) lo_nil)) ?_
  refine pM_aln rfl rfl rfl ?_
  refine pM_ic rfl ki_0 ?_
  refine pM_pi rfl rfl rfl rfl ?_
  refine pM_iln rfl rfl ?_
  refine pM_zlt rfl rfl (fun h1 => ?_) (fun h1 => ?_)
  · replace h := h.1 h1
    refine pM_ic rfl ki_0 ?_
    exact pM_ri rfl (⟨_, rfl, h⟩)
  · replace h := h.2 h1
    refine pM_iln rfl rfl ?_
    refine pM_aln rfl rfl rfl ?_
    refine pM_gi rfl rfl rfl rfl ?_
    refine pM_cle rfl rfl (fun h2 => ?_) (fun h2 => ?_)
    · replace h := h.2 h2
      refine pM_aln rfl rfl rfl ?_
      refine pM_iln rfl rfl ?_
      refine pM_pi rfl rfl rfl rfl ?_
      refine pM_ic rfl ki_1 ?_
      exact pM_ri rfl (⟨_, rfl, h⟩)
    · replace h := h.1 h2
      refine pM_ic rfl ki_0 ?_
      exact pM_ri rfl (⟨_, rfl, h⟩)
/-- 213: EarCodeModel.isAt(II)Z -/
def V_m_isAt (p1 : Int32) (p2 : Int32) (M : MM) : Int32 :=
  (if (M.1 190 19) < (M.1 190 20) then
    (if (M.1 203 (ni (M.1 190 19))) < p1 then
      0
    else
      (if p2 < (M.1 203 (ni (M.1 190 19))) then
        0
      else
        1))
  else
    0)
theorem q_m_isAt {X : Option (List AI)} {N : Nat} {M : MM} {p1 : Int32} {p2 : Int32}  : pM X N 213 0 (ea_ar 0 [.inr (.inl (some 190)), .inl (.inl p1), .inl (.inl p2)]) [] M (Vi (V_m_isAt p1 p2 M) M) := by
  refine pM_w (F2 := [(0, .inr (.inl (some 190))), (1, .inl (.inl p1)), (2, .inl (.inl p2))]) (fun L hL => lo_cons (lo_lk hL rfl) (lo_cons (lo_lk hL rfl) (lo_cons (lo_lk hL rfl) lo_nil))) ?_
  refine pM_aln rfl rfl rfl ?_
  refine pM_gi rfl rfl rfl rfl ?_
  refine pM_aln rfl rfl rfl ?_
  refine pM_gi rfl rfl rfl rfl ?_
  refine pM_cge rfl rfl (fun h1 => ?_) (fun h1 => ?_)
  · refine pM_ic rfl ki_0 ?_
    exact pM_rVi rfl (Eq.trans (if_neg h1) rfl)
  · refine pM_aln rfl rfl rfl ?_
    refine pM_gr rfl rfl rfl rfl ?_
    refine pM_aln rfl rfl rfl ?_
    refine pM_gi rfl rfl rfl rfl ?_
    refine pM_bl rfl rfl (one_p _) ?_
    refine pM_iln rfl rfl ?_
    refine pM_clt rfl rfl (fun h2 => ?_) (fun h2 => ?_)
    · refine pM_ic rfl ki_0 ?_
      exact pM_rVi rfl (Eq.trans (if_pos h1) (Eq.trans (if_pos h2) rfl))
    · refine pM_aln rfl rfl rfl ?_
      refine pM_gr rfl rfl rfl rfl ?_
      refine pM_aln rfl rfl rfl ?_
      refine pM_gi rfl rfl rfl rfl ?_
      refine pM_bl rfl rfl (one_p _) ?_
      refine pM_iln rfl rfl ?_
      refine pM_cgt rfl rfl (fun h3 => ?_) (fun h3 => ?_)
      · refine pM_ic rfl ki_0 ?_
        exact pM_rVi rfl (Eq.trans (if_pos h1) (Eq.trans (if_neg h2) (Eq.trans (if_pos h3) rfl)))
      · refine pM_ic rfl ki_1 ?_
        refine pM_go rfl rfl ?_
        exact pM_rVi rfl (Eq.trans (if_pos h1) (Eq.trans (if_neg h2) (Eq.trans (if_neg h3) rfl)))
def B_m_blanks_0 (Q : MM → Prop) (N : Nat) (ih : MM → Prop) (M : MM) : Prop :=
  (((V_m_isAt 32 32 M) = 0 →
    Q (wi M 190 21 (M.1 190 19))) ∧
   (¬ (V_m_isAt 32 32 M) = 0 →
    ih (wi M 190 19 ((M.1 190 19) + 1))))
def W_m_blanks_0 (Q : MM → Prop) : Nat → MM → Prop
  | 0, _ => True
  | N + 1, M => B_m_blanks_0 Q N (W_m_blanks_0 Q N) M
theorem I_m_blanks_0 (Q : MM → Prop) (inv : MM → Prop) (hs : ∀ (N : Nat) (ih : MM → Prop) (M : MM), (∀ (M : MM), inv M → ih M) → inv M → B_m_blanks_0 Q N ih M) : ∀ (N : Nat) (M : MM), inv M → W_m_blanks_0 Q N M := by
  intro N
  induction N with
  | zero => intros; trivial
  | succ N IH =>
    intro M h
    exact hs N _ M IH h
theorem q_m_blanks_0 {X : Option (List AI)} {N0 : Nat} {Q : MM → Prop}   : ∀ (N : Nat), N ≤ N0 → ∀ (M : MM), W_m_blanks_0 Q N M → pM X N 214 0 [(0, .inr (.inl (some 190)))] [] M (Ru Q) := by
  intro N
  induction N with
  | zero => intros; exact pM_zero
  | succ N IH =>
    intro hN M h
    replace hN := Nat.le_of_succ_le hN
    replace h : B_m_blanks_0 Q N (W_m_blanks_0 Q N) M := h
    refine pM_s (pMs_aln rfl rfl rfl ?_)
    refine pM_bi rfl kb_32 ?_
    refine pM_bi rfl kb_32 ?_
    refine pM_qVi (as := [.inr (.inl (some 190)), .inl (.inl 32), .inl (.inl 32)]) (T := []) rfl rfl (fun C hC => cl_v hC rfl rfl rfl rfl) rfl (q_m_isAt ) ?_
    refine pM_zeq rfl rfl (fun h1 => ?_) (fun h1 => ?_)
    · replace h := h.1 h1
      refine pM_aln rfl rfl rfl ?_
      refine pM_aln rfl rfl rfl ?_
      refine pM_gi rfl rfl rfl rfl ?_
      refine pM_pi rfl rfl rfl rfl ?_
      exact pM_ru rfl (⟨rfl, h⟩)
    · replace h := h.2 h1
      refine pM_aln rfl rfl rfl ?_
      refine pM_p (pc' := 13) (S' := [.inr (.inl (some 190)), .inr (.inl (some 190))]) rfl rfl (fun _ => rfl) ?_
      refine pM_gi rfl rfl rfl rfl ?_
      refine pM_ic rfl ki_1 ?_
      refine pM_add rfl ?_
      refine pM_pi rfl rfl rfl rfl ?_
      refine pM_go rfl rfl ?_
      refine pM_w (F2 := [(0, .inr (.inl (some 190)))]) (fun L hL => lo_cons (lo_lk hL rfl) lo_nil) ?_
      exact IH hN (wi M 190 19 ((M.1 190 19) + 1)) h
/-- 214: EarCodeModel.blanks()V -/
def W_m_blanks  (N : Nat) (M : MM) (Q : MM → Prop) : Prop :=
  W_m_blanks_0 Q N M
theorem q_m_blanks {X : Option (List AI)} {N : Nat} {M : MM}  {Q : MM → Prop}  (h : W_m_blanks  N M Q) : pM X N 214 0 (ea_ar 0 [.inr (.inl (some 190))]) [] M (Ru Q) := by
  refine pM_w (F2 := [(0, .inr (.inl (some 190)))]) (fun L hL => lo_cons (lo_lk hL rfl) lo_nil) ?_
  refine pM_w (F2 := [(0, .inr (.inl (some 190)))]) (fun L hL => lo_cons (lo_lk hL rfl) lo_nil) ?_
  refine q_m_blanks_0   N (Nat.le_refl N) M h
def B_m_letters_4 (Q : MM → Prop) (N : Nat) (ih : MM → Prop) (M : MM) : Prop :=
  (((V_m_isAt 97 122 M) = 0 →
    Q M) ∧
   (¬ (V_m_isAt 97 122 M) = 0 →
    ih (wi M 190 19 ((M.1 190 19) + 1))))
def W_m_letters_4 (Q : MM → Prop) : Nat → MM → Prop
  | 0, _ => True
  | N + 1, M => B_m_letters_4 Q N (W_m_letters_4 Q N) M
theorem I_m_letters_4 (Q : MM → Prop) (inv : MM → Prop) (hs : ∀ (N : Nat) (ih : MM → Prop) (M : MM), (∀ (M : MM), inv M → ih M) → inv M → B_m_letters_4 Q N ih M) : ∀ (N : Nat) (M : MM), inv M → W_m_letters_4 Q N M := by
  intro N
  induction N with
  | zero => intros; trivial
  | succ N IH =>
    intro M h
    exact hs N _ M IH h
theorem q_m_letters_4 {X : Option (List AI)} {N0 : Nat} {Q : MM → Prop}   : ∀ (N : Nat), N ≤ N0 → ∀ (M : MM), W_m_letters_4 Q N M → pM X N 215 4 [(0, .inr (.inl (some 190)))] [] M (Ru Q) := by
  intro N
  induction N with
  | zero => intros; exact pM_zero
  | succ N IH =>
    intro hN M h
    replace hN := Nat.le_of_succ_le hN
    replace h : B_m_letters_4 Q N (W_m_letters_4 Q N) M := h
    refine pM_s (pMs_aln rfl rfl rfl ?_)
    refine pM_bi rfl kb_97 ?_
    refine pM_bi rfl kb_122 ?_
    refine pM_qVi (as := [.inr (.inl (some 190)), .inl (.inl 97), .inl (.inl 122)]) (T := []) rfl rfl (fun C hC => cl_v hC rfl rfl rfl rfl) rfl (q_m_isAt ) ?_
    refine pM_zeq rfl rfl (fun h3 => ?_) (fun h3 => ?_)
    · replace h := h.1 h3
      exact pM_ru rfl (⟨rfl, h⟩)
    · replace h := h.2 h3
      refine pM_aln rfl rfl rfl ?_
      refine pM_p (pc' := 17) (S' := [.inr (.inl (some 190)), .inr (.inl (some 190))]) rfl rfl (fun _ => rfl) ?_
      refine pM_gi rfl rfl rfl rfl ?_
      refine pM_ic rfl ki_1 ?_
      refine pM_add rfl ?_
      refine pM_pi rfl rfl rfl rfl ?_
      refine pM_go rfl rfl ?_
      refine pM_w (F2 := [(0, .inr (.inl (some 190)))]) (fun L hL => lo_cons (lo_lk hL rfl) lo_nil) ?_
      exact IH hN (wi M 190 19 ((M.1 190 19) + 1)) h
/-- 215: EarCodeModel.letters()V -/
def W_m_letters  (N : Nat) (M : MM) (Q : MM → Prop) : Prop :=
  W_m_blanks  N M (fun M2 =>
    W_m_letters_4 Q N M2)
theorem q_m_letters {X : Option (List AI)} {N : Nat} {M : MM}  {Q : MM → Prop}  (h : W_m_letters  N M Q) : pM X N 215 0 (ea_ar 0 [.inr (.inl (some 190))]) [] M (Ru Q) := by
  refine pM_w (F2 := [(0, .inr (.inl (some 190)))]) (fun L hL => lo_cons (lo_lk hL rfl) lo_nil) ?_
  refine pM_aln rfl rfl rfl ?_
  refine pM_qRu (as := [.inr (.inl (some 190))]) (T := []) rfl rfl (fun C hC => cl_v hC rfl rfl rfl rfl) rfl (q_m_blanks  h) (fun M2 h => ?_)
  refine pM_w (F2 := [(0, .inr (.inl (some 190)))]) (fun L hL => lo_cons (lo_lk hL rfl) lo_nil) ?_
  refine q_m_letters_4   N (Nat.le_refl N) M2 h
def B_m_isWord_24 (s : Nat) (M : MM) (Q : Int32 → Prop) (N : Nat) (ih : Int32 → Int32 → Prop) (v2 : Int32) (v3 : Int32) : Prop :=
  ((v2 = 0 →
    Q v2) ∧
   (¬ v2 = 0 →
    ((v3 < (Int32.ofNat (sx_len ((s + 1) / 128))) →
      (((M.1 203 (ni ((M.1 190 21) + v3))) = (sc (s + 1) v3) →
        ih 1 (v3 + 1)) ∧
       (¬ (M.1 203 (ni ((M.1 190 21) + v3))) = (sc (s + 1) v3) →
        ih 0 (v3 + 1)))) ∧
     (¬ v3 < (Int32.ofNat (sx_len ((s + 1) / 128))) →
      Q v2))))
def W_m_isWord_24 (s : Nat) (M : MM) (Q : Int32 → Prop) : Nat → Int32 → Int32 → Prop
  | 0, _, _ => True
  | N + 1, v2, v3 => B_m_isWord_24 s M Q N (W_m_isWord_24 s M Q N) v2 v3
theorem I_m_isWord_24 (s : Nat) (M : MM) (Q : Int32 → Prop) (inv : Int32 → Int32 → Prop) (hs : ∀ (N : Nat) (ih : Int32 → Int32 → Prop) (v2 : Int32) (v3 : Int32), (∀ (v2 : Int32) (v3 : Int32), inv v2 v3 → ih v2 v3) → inv v2 v3 → B_m_isWord_24 s M Q N ih v2 v3) : ∀ (N : Nat) (v2 : Int32) (v3 : Int32), inv v2 v3 → W_m_isWord_24 s M Q N v2 v3 := by
  intro N
  induction N with
  | zero => intros; trivial
  | succ N IH =>
    intro v2 v3 h
    exact hs N _ v2 v3 IH h
theorem q_m_isWord_24 {X : Option (List AI)} {N0 : Nat} {s : Nat} {M : MM} {Q : Int32 → Prop} (hs : (s + 1) % 2 = 0)  : ∀ (N : Nat), N ≤ N0 → ∀ (v2 : Int32) (v3 : Int32), W_m_isWord_24 s M Q N v2 v3 → pM X N 216 24 [(0, .inr (.inl (some 190))), (1, .inr (.inr (.inr (.inr (s + 1))))), (2, .inl (.inl v2)), (3, .inl (.inl v3))] [] M (Pi Q M) := by
  intro N
  induction N with
  | zero => intros; exact pM_zero
  | succ N IH =>
    intro hN v2 v3 h
    replace hN := Nat.le_of_succ_le hN
    replace h : B_m_isWord_24 s M Q N (W_m_isWord_24 s M Q N) v2 v3 := h
    refine pM_s (pMs_iln rfl rfl ?_)
    refine pM_zeq rfl rfl (fun h2 => ?_) (fun h2 => ?_)
    · replace h := h.1 h2
      refine pM_iln rfl rfl ?_
      exact pM_ri rfl (⟨_, rfl, rfl, h⟩)
    · replace h := h.2 h2
      refine pM_iln rfl rfl ?_
      refine pM_aln rfl rfl rfl ?_
      refine pM_sl rfl rfl hs rfl rfl ?_
      refine pM_cge rfl rfl (fun h3 => ?_) (fun h3 => ?_)
      · replace h := h.2 h3
        refine pM_iln rfl rfl ?_
        exact pM_ri rfl (⟨_, rfl, rfl, h⟩)
      · replace h := h.1 h3
        refine pM_aln rfl rfl rfl ?_
        refine pM_gr rfl rfl rfl rfl ?_
        refine pM_aln rfl rfl rfl ?_
        refine pM_gi rfl rfl rfl rfl ?_
        refine pM_iln rfl rfl ?_
        refine pM_add rfl ?_
        refine pM_bl rfl rfl (one_p _) ?_
        refine pM_aln rfl rfl rfl ?_
        refine pM_iln rfl rfl ?_
        refine pM_sc rfl rfl hs rfl rfl ?_
        refine pM_cne rfl rfl (fun h4 => ?_) (fun h4 => ?_)
        · replace h := h.2 h4
          refine pM_ic rfl ki_0 ?_
          refine pM_isn rfl rfl ?_
          refine pM_ii rfl rfl rfl ki_1 ?_
          refine pM_go rfl rfl ?_
          refine pM_w (F2 := [(0, .inr (.inl (some 190))), (1, .inr (.inr (.inr (.inr (s + 1))))), (2, .inl (.inl 0)), (3, .inl (.inl (v3 + 1)))]) (fun L hL => lo_cons (lo_lk hL rfl) (lo_cons (lo_lk hL rfl) (lo_cons (lo_lk hL rfl) (lo_cons (lo_lk hL rfl) lo_nil)))) ?_
          exact IH hN 0 (v3 + 1) h
        · replace h := h.1 h4
          refine pM_ic rfl ki_1 ?_
          refine pM_go rfl rfl ?_
          refine pM_isn rfl rfl ?_
          refine pM_ii rfl rfl rfl ki_1 ?_
          refine pM_go rfl rfl ?_
          refine pM_w (F2 := [(0, .inr (.inl (some 190))), (1, .inr (.inr (.inr (.inr (s + 1))))), (2, .inl (.inl 1)), (3, .inl (.inl (v3 + 1)))]) (fun L hL => lo_cons (lo_lk hL rfl) (lo_cons (lo_lk hL rfl) (lo_cons (lo_lk hL rfl) (lo_cons (lo_lk hL rfl) lo_nil)))) ?_
          exact IH hN 1 (v3 + 1) h
/-- 216: EarCodeModel.isWord(Ljava/lang/String;)Z -/
def W_m_isWord (s : Nat) (N : Nat) (M : MM) (Q : Int32 → Prop) : Prop :=
  ((((M.1 190 19) - (M.1 190 21)) = (Int32.ofNat (sx_len ((s + 1) / 128))) →
    W_m_isWord_24 s M Q N 1 0) ∧
   (¬ ((M.1 190 19) - (M.1 190 21)) = (Int32.ofNat (sx_len ((s + 1) / 128))) →
    W_m_isWord_24 s M Q N 0 0))
theorem q_m_isWord {X : Option (List AI)} {N : Nat} {M : MM} {s : Nat} {Q : Int32 → Prop} (hs : (s + 1) % 2 = 0) (h : W_m_isWord s N M Q) : pM X N 216 0 (ea_ar 0 [.inr (.inl (some 190)), .inr (.inr (.inr (.inr (s + 1))))]) [] M (Pi Q M) := by
  refine pM_w (F2 := [(0, .inr (.inl (some 190))), (1, .inr (.inr (.inr (.inr (s + 1)))))]) (fun L hL => lo_cons (lo_lk hL rfl) (lo_cons (lo_lk hL rfl) lo_nil)) ?_
  refine pM_aln rfl rfl rfl ?_
  refine pM_gi rfl rfl rfl rfl ?_
  refine pM_aln rfl rfl rfl ?_
  refine pM_gi rfl rfl rfl rfl ?_
  refine pM_sub rfl ?_
  refine pM_aln rfl rfl rfl ?_
  refine pM_sl rfl rfl hs rfl rfl ?_
  refine pM_cne rfl rfl (fun h1 => ?_) (fun h1 => ?_)
  · replace h := h.2 h1
    refine pM_ic rfl ki_0 ?_
    refine pM_isn rfl rfl ?_
    refine pM_ic rfl ki_0 ?_
    refine pM_isn rfl rfl ?_
    refine pM_w (F2 := [(0, .inr (.inl (some 190))), (1, .inr (.inr (.inr (.inr (s + 1))))), (2, .inl (.inl 0)), (3, .inl (.inl 0))]) (fun L hL => lo_cons (lo_lk hL rfl) (lo_cons (lo_lk hL rfl) (lo_cons (lo_lk hL rfl) (lo_cons (lo_lk hL rfl) lo_nil)))) ?_
    refine q_m_isWord_24 hs  N (Nat.le_refl N) 0 0 h
  · replace h := h.1 h1
    refine pM_ic rfl ki_1 ?_
    refine pM_go rfl rfl ?_
    refine pM_isn rfl rfl ?_
    refine pM_ic rfl ki_0 ?_
    refine pM_isn rfl rfl ?_
    refine pM_w (F2 := [(0, .inr (.inl (some 190))), (1, .inr (.inr (.inr (.inr (s + 1))))), (2, .inl (.inl 1)), (3, .inl (.inl 0))]) (fun L hL => lo_cons (lo_lk hL rfl) (lo_cons (lo_lk hL rfl) (lo_cons (lo_lk hL rfl) (lo_cons (lo_lk hL rfl) lo_nil)))) ?_
    refine q_m_isWord_24 hs  N (Nat.le_refl N) 1 0 h
/-- 217: EarCodeModel.passes(Ljava/lang/String;)Z -/
def W_m_passes (s : Nat) (N : Nat) (M : MM) (Q : Int32 → MM → Prop) : Prop :=
  W_m_letters  N M (fun M2 =>
    W_m_isWord s N M2 (fun r3 =>
      ((r3 = 0 →
        Q 0 (wi M2 190 19 (M2.1 190 21))) ∧
       (¬ r3 = 0 →
        Q 1 M2))))
theorem q_m_passes {X : Option (List AI)} {N : Nat} {M : MM} {s : Nat} {Q : Int32 → MM → Prop} (hs : (s + 1) % 2 = 0) (h : W_m_passes s N M Q) : pM X N 217 0 (ea_ar 0 [.inr (.inl (some 190)), .inr (.inr (.inr (.inr (s + 1))))]) [] M (Ri Q) := by
  refine pM_w (F2 := [(0, .inr (.inl (some 190))), (1, .inr (.inr (.inr (.inr (s + 1)))))]) (fun L hL => lo_cons (lo_lk hL rfl) (lo_cons (lo_lk hL rfl) lo_nil)) ?_
  refine pM_aln rfl rfl rfl ?_
  refine pM_qRu (as := [.inr (.inl (some 190))]) (T := []) rfl rfl (fun C hC => cl_v hC rfl rfl rfl rfl) rfl (q_m_letters  h) (fun M2 h => ?_)
  refine pM_aln rfl rfl rfl ?_
  refine pM_aln rfl rfl rfl ?_
  refine pM_qPi (as := [.inr (.inl (some 190)), .inr (.inr (.inr (.inr (s + 1))))]) (T := []) rfl rfl (fun C hC => cl_v hC rfl rfl rfl rfl) rfl (q_m_isWord hs h) (fun r3 h => ?_)
  refine pM_zeq rfl rfl (fun h5 => ?_) (fun h5 => ?_)
  · replace h := h.1 h5
    refine pM_aln rfl rfl rfl ?_
    refine pM_aln rfl rfl rfl ?_
    refine pM_gi rfl rfl rfl rfl ?_
    refine pM_pi rfl rfl rfl rfl ?_
    refine pM_ic rfl ki_0 ?_
    exact pM_ri rfl (⟨_, rfl, h⟩)
  · replace h := h.2 h5
    refine pM_ic rfl ki_1 ?_
    exact pM_ri rfl (⟨_, rfl, h⟩)
/-- 218: EarCodeModel.sign(I)Z -/
def W_m_sign (p1 : Int32) (N : Nat) (M : MM) (Q : Int32 → MM → Prop) : Prop :=
  W_m_blanks  N M (fun M2 =>
    (((V_m_isAt p1 p1 M2) = 0 →
      Q 0 M2) ∧
     (¬ (V_m_isAt p1 p1 M2) = 0 →
      Q 1 (wi M2 190 19 ((M2.1 190 19) + 1)))))
theorem q_m_sign {X : Option (List AI)} {N : Nat} {M : MM} {p1 : Int32} {Q : Int32 → MM → Prop}  (h : W_m_sign p1 N M Q) : pM X N 218 0 (ea_ar 0 [.inr (.inl (some 190)), .inl (.inl p1)]) [] M (Ri Q) := by
  refine pM_w (F2 := [(0, .inr (.inl (some 190))), (1, .inl (.inl p1))]) (fun L hL => lo_cons (lo_lk hL rfl) (lo_cons (lo_lk hL rfl) lo_nil)) ?_
  refine pM_aln rfl rfl rfl ?_
  refine pM_qRu (as := [.inr (.inl (some 190))]) (T := []) rfl rfl (fun C hC => cl_v hC rfl rfl rfl rfl) rfl (q_m_blanks  h) (fun M2 h => ?_)
  refine pM_aln rfl rfl rfl ?_
  refine pM_iln rfl rfl ?_
  refine pM_iln rfl rfl ?_
  refine pM_qVi (as := [.inr (.inl (some 190)), .inl (.inl p1), .inl (.inl p1)]) (T := []) rfl rfl (fun C hC => cl_v hC rfl rfl rfl rfl) rfl (q_m_isAt ) ?_
  refine pM_zne rfl rfl (fun h3 => ?_) (fun h3 => ?_)
  · replace h := h.2 h3
    refine pM_aln rfl rfl rfl ?_
    refine pM_p (pc' := 17) (S' := [.inr (.inl (some 190)), .inr (.inl (some 190))]) rfl rfl (fun _ => rfl) ?_
    refine pM_gi rfl rfl rfl rfl ?_
    refine pM_ic rfl ki_1 ?_
    refine pM_add rfl ?_
    refine pM_pi rfl rfl rfl rfl ?_
    refine pM_ic rfl ki_1 ?_
    exact pM_ri rfl (⟨_, rfl, h⟩)
  · replace h := h.1 h3
    refine pM_ic rfl ki_0 ?_
    exact pM_ri rfl (⟨_, rfl, h⟩)
def B_m_number_6 (p1 : Int32) (p2 : Int32) (k65 : Int32 → MM → Prop) (Q : Int32 → MM → Prop) (N : Nat) (ih : Int32 → MM → Prop) (v3 : Int32) (M : MM) : Prop :=
  (((V_m_isAt 48 57 M) = 0 →
    k65 v3 M) ∧
   (¬ (V_m_isAt 48 57 M) = 0 →
    ((((M.1 190 19) - (M.1 190 21)) < 3 →
      ih (((10 * v3) + (M.1 203 (ni (M.1 190 19)))) - 48) (wi M 190 19 ((M.1 190 19) + 1))) ∧
     (¬ ((M.1 190 19) - (M.1 190 21)) < 3 →
      ih v3 (wi M 190 19 ((M.1 190 19) + 1))))))
def W_m_number_6 (p1 : Int32) (p2 : Int32) (k65 : Int32 → MM → Prop) (Q : Int32 → MM → Prop) : Nat → Int32 → MM → Prop
  | 0, _, _ => True
  | N + 1, v3, M => B_m_number_6 p1 p2 k65 Q N (W_m_number_6 p1 p2 k65 Q N) v3 M
theorem I_m_number_6 (p1 : Int32) (p2 : Int32) (k65 : Int32 → MM → Prop) (Q : Int32 → MM → Prop) (inv : Int32 → MM → Prop) (hs : ∀ (N : Nat) (ih : Int32 → MM → Prop) (v3 : Int32) (M : MM), (∀ (v3 : Int32) (M : MM), inv v3 M → ih v3 M) → inv v3 M → B_m_number_6 p1 p2 k65 Q N ih v3 M) : ∀ (N : Nat) (v3 : Int32) (M : MM), inv v3 M → W_m_number_6 p1 p2 k65 Q N v3 M := by
  intro N
  induction N with
  | zero => intros; trivial
  | succ N IH =>
    intro v3 M h
    exact hs N _ v3 M IH h
theorem q_m_number_6 {X : Option (List AI)} {N0 : Nat} {p1 : Int32} {p2 : Int32} {k65 : Int32 → MM → Prop} {Q : Int32 → MM → Prop}  (hk65 : ∀ (v3 : Int32) (M : MM), k65 v3 M → pM X N0 219 65 [(0, .inr (.inl (some 190))), (1, .inl (.inl p1)), (2, .inl (.inl p2)), (3, .inl (.inl v3))] [] M (Ri Q)) : ∀ (N : Nat), N ≤ N0 → ∀ (v3 : Int32) (M : MM), W_m_number_6 p1 p2 k65 Q N v3 M → pM X N 219 6 [(0, .inr (.inl (some 190))), (1, .inl (.inl p1)), (2, .inl (.inl p2)), (3, .inl (.inl v3))] [] M (Ri Q) := by
  intro N
  induction N with
  | zero => intros; exact pM_zero
  | succ N IH =>
    intro hN v3 M h
    replace hN := Nat.le_of_succ_le hN
    replace h : B_m_number_6 p1 p2 k65 Q N (W_m_number_6 p1 p2 k65 Q N) v3 M := h
    refine pM_s (pMs_aln rfl rfl rfl ?_)
    refine pM_bi rfl kb_48 ?_
    refine pM_bi rfl kb_57 ?_
    refine pM_qVi (as := [.inr (.inl (some 190)), .inl (.inl 48), .inl (.inl 57)]) (T := []) rfl rfl (fun C hC => cl_v hC rfl rfl rfl rfl) rfl (q_m_isAt ) ?_
    refine pM_zeq rfl rfl (fun h3 => ?_) (fun h3 => ?_)
    · replace h := h.1 h3
      refine pM_w (F2 := [(0, .inr (.inl (some 190))), (1, .inl (.inl p1)), (2, .inl (.inl p2)), (3, .inl (.inl v3))]) (fun L hL => lo_cons (lo_lk hL rfl) (lo_cons (lo_lk hL rfl) (lo_cons (lo_lk hL rfl) (lo_cons (lo_lk hL rfl) lo_nil)))) ?_
      exact pM_le hN (hk65 _ _ h)
    · replace h := h.2 h3
      refine pM_aln rfl rfl rfl ?_
      refine pM_gi rfl rfl rfl rfl ?_
      refine pM_aln rfl rfl rfl ?_
      refine pM_gi rfl rfl rfl rfl ?_
      refine pM_sub rfl ?_
      refine pM_ic rfl ki_3 ?_
      refine pM_cge rfl rfl (fun h4 => ?_) (fun h4 => ?_)
      · replace h := h.2 h4
        refine pM_iln rfl rfl ?_
        refine pM_isn rfl rfl ?_
        refine pM_aln rfl rfl rfl ?_
        refine pM_p (pc' := 54) (S' := [.inr (.inl (some 190)), .inr (.inl (some 190))]) rfl rfl (fun _ => rfl) ?_
        refine pM_gi rfl rfl rfl rfl ?_
        refine pM_ic rfl ki_1 ?_
        refine pM_add rfl ?_
        refine pM_pi rfl rfl rfl rfl ?_
        refine pM_go rfl rfl ?_
        refine pM_w (F2 := [(0, .inr (.inl (some 190))), (1, .inl (.inl p1)), (2, .inl (.inl p2)), (3, .inl (.inl v3))]) (fun L hL => lo_cons (lo_lk hL rfl) (lo_cons (lo_lk hL rfl) (lo_cons (lo_lk hL rfl) (lo_cons (lo_lk hL rfl) lo_nil)))) ?_
        exact IH hN v3 (wi M 190 19 ((M.1 190 19) + 1)) h
      · replace h := h.1 h4
        refine pM_bi rfl kb_10 ?_
        refine pM_iln rfl rfl ?_
        refine pM_mul rfl ?_
        refine pM_aln rfl rfl rfl ?_
        refine pM_gr rfl rfl rfl rfl ?_
        refine pM_aln rfl rfl rfl ?_
        refine pM_gi rfl rfl rfl rfl ?_
        refine pM_bl rfl rfl (one_p _) ?_
        refine pM_add rfl ?_
        refine pM_bi rfl kb_48 ?_
        refine pM_sub rfl ?_
        refine pM_go rfl rfl ?_
        refine pM_isn rfl rfl ?_
        refine pM_aln rfl rfl rfl ?_
        refine pM_p (pc' := 54) (S' := [.inr (.inl (some 190)), .inr (.inl (some 190))]) rfl rfl (fun _ => rfl) ?_
        refine pM_gi rfl rfl rfl rfl ?_
        refine pM_ic rfl ki_1 ?_
        refine pM_add rfl ?_
        refine pM_pi rfl rfl rfl rfl ?_
        refine pM_go rfl rfl ?_
        refine pM_w (F2 := [(0, .inr (.inl (some 190))), (1, .inl (.inl p1)), (2, .inl (.inl p2)), (3, .inl (.inl (((10 * v3) + (M.1 203 (ni (M.1 190 19)))) - 48)))]) (fun L hL => lo_cons (lo_lk hL rfl) (lo_cons (lo_lk hL rfl) (lo_cons (lo_lk hL rfl) (lo_cons (lo_lk hL rfl) lo_nil)))) ?_
        exact IH hN (((10 * v3) + (M.1 203 (ni (M.1 190 19)))) - 48) (wi M 190 19 ((M.1 190 19) + 1)) h
/-- 219: EarCodeModel.number(II)I -/
def W_m_number (p1 : Int32) (p2 : Int32) (N : Nat) (M : MM) (Q : Int32 → MM → Prop) : Prop :=
  W_m_blanks  N M (fun M2 =>
    W_m_number_6 p1 p2 (fun x5 M6 =>
      (((M6.1 190 19) = (M6.1 190 21) →
        Q (-1) M6) ∧
       (¬ (M6.1 190 19) = (M6.1 190 21) →
        ((3 < ((M6.1 190 19) - (M6.1 190 21)) →
          Q (-1) M6) ∧
         (¬ 3 < ((M6.1 190 19) - (M6.1 190 21)) →
          ((x5 < p1 →
            Q (-1) M6) ∧
           (¬ x5 < p1 →
            ((p2 < x5 →
              Q (-1) M6) ∧
             (¬ p2 < x5 →
              Q x5 M6))))))))) Q N 0 M2)
theorem q_m_number {X : Option (List AI)} {N : Nat} {M : MM} {p1 : Int32} {p2 : Int32} {Q : Int32 → MM → Prop}  (h : W_m_number p1 p2 N M Q) : pM X N 219 0 (ea_ar 0 [.inr (.inl (some 190)), .inl (.inl p1), .inl (.inl p2)]) [] M (Ri Q) := by
  refine pM_w (F2 := [(0, .inr (.inl (some 190))), (1, .inl (.inl p1)), (2, .inl (.inl p2))]) (fun L hL => lo_cons (lo_lk hL rfl) (lo_cons (lo_lk hL rfl) (lo_cons (lo_lk hL rfl) lo_nil))) ?_
  refine pM_aln rfl rfl rfl ?_
  refine pM_qRu (as := [.inr (.inl (some 190))]) (T := []) rfl rfl (fun C hC => cl_v hC rfl rfl rfl rfl) rfl (q_m_blanks  h) (fun M2 h => ?_)
  refine pM_ic rfl ki_0 ?_
  refine pM_isn rfl rfl ?_
  refine pM_w (F2 := [(0, .inr (.inl (some 190))), (1, .inl (.inl p1)), (2, .inl (.inl p2)), (3, .inl (.inl 0))]) (fun L hL => lo_cons (lo_lk hL rfl) (lo_cons (lo_lk hL rfl) (lo_cons (lo_lk hL rfl) (lo_cons (lo_lk hL rfl) lo_nil)))) ?_
  refine q_m_number_6  (fun x5 M6 h => ?_) N (Nat.le_refl N) 0 M2 h
  · refine pM_aln rfl rfl rfl ?_
    refine pM_gi rfl rfl rfl rfl ?_
    refine pM_aln rfl rfl rfl ?_
    refine pM_gi rfl rfl rfl rfl ?_
    refine pM_ceq rfl rfl (fun h7 => ?_) (fun h7 => ?_)
    · replace h := h.1 h7
      refine pM_ic rfl ki_m1 ?_
      refine pM_go rfl rfl ?_
      exact pM_ri rfl (⟨_, rfl, h⟩)
    · replace h := h.2 h7
      refine pM_aln rfl rfl rfl ?_
      refine pM_gi rfl rfl rfl rfl ?_
      refine pM_aln rfl rfl rfl ?_
      refine pM_gi rfl rfl rfl rfl ?_
      refine pM_sub rfl ?_
      refine pM_ic rfl ki_3 ?_
      refine pM_cgt rfl rfl (fun h8 => ?_) (fun h8 => ?_)
      · replace h := h.1 h8
        refine pM_ic rfl ki_m1 ?_
        refine pM_go rfl rfl ?_
        exact pM_ri rfl (⟨_, rfl, h⟩)
      · replace h := h.2 h8
        refine pM_iln rfl rfl ?_
        refine pM_iln rfl rfl ?_
        refine pM_clt rfl rfl (fun h9 => ?_) (fun h9 => ?_)
        · replace h := h.1 h9
          refine pM_ic rfl ki_m1 ?_
          refine pM_go rfl rfl ?_
          exact pM_ri rfl (⟨_, rfl, h⟩)
        · replace h := h.2 h9
          refine pM_iln rfl rfl ?_
          refine pM_iln rfl rfl ?_
          refine pM_cle rfl rfl (fun h10 => ?_) (fun h10 => ?_)
          · replace h := h.2 h10
            refine pM_iln rfl rfl ?_
            exact pM_ri rfl (⟨_, rfl, h⟩)
          · replace h := h.1 h10
            refine pM_ic rfl ki_m1 ?_
            refine pM_go rfl rfl ?_
            exact pM_ri rfl (⟨_, rfl, h⟩)
/-- 220: EarCodeModel.isFigure()Z -/
def W_m_isFigure  (N : Nat) (M : MM) (Q : Int32 → MM → Prop) : Prop :=
  W_m_blanks  N M (fun M2 =>
    Q (V_m_isAt 48 57 M2) M2)
theorem q_m_isFigure {X : Option (List AI)} {N : Nat} {M : MM}  {Q : Int32 → MM → Prop}  (h : W_m_isFigure  N M Q) : pM X N 220 0 (ea_ar 0 [.inr (.inl (some 190))]) [] M (Ri Q) := by
  refine pM_w (F2 := [(0, .inr (.inl (some 190)))]) (fun L hL => lo_cons (lo_lk hL rfl) lo_nil) ?_
  refine pM_aln rfl rfl rfl ?_
  refine pM_qRu (as := [.inr (.inl (some 190))]) (T := []) rfl rfl (fun C hC => cl_v hC rfl rfl rfl rfl) rfl (q_m_blanks  h) (fun M2 h => ?_)
  refine pM_aln rfl rfl rfl ?_
  refine pM_bi rfl kb_48 ?_
  refine pM_bi rfl kb_57 ?_
  refine pM_qVi (as := [.inr (.inl (some 190)), .inl (.inl 48), .inl (.inl 57)]) (T := []) rfl rfl (fun C hC => cl_v hC rfl rfl rfl rfl) rfl (q_m_isAt ) ?_
  exact pM_ri rfl (⟨_, rfl, h⟩)
def B_m_matterTold_4 (k28 : MM → Prop) (Q : Int32 → MM → Prop) (N : Nat) (ih : MM → Prop) (M : MM) : Prop :=
  (((V_m_isAt 48 57 M) = 0 →
    k28 M) ∧
   (¬ (V_m_isAt 48 57 M) = 0 →
    ih (wi M 190 19 ((M.1 190 19) + 1))))
def W_m_matterTold_4 (k28 : MM → Prop) (Q : Int32 → MM → Prop) : Nat → MM → Prop
  | 0, _ => True
  | N + 1, M => B_m_matterTold_4 k28 Q N (W_m_matterTold_4 k28 Q N) M
theorem I_m_matterTold_4 (k28 : MM → Prop) (Q : Int32 → MM → Prop) (inv : MM → Prop) (hs : ∀ (N : Nat) (ih : MM → Prop) (M : MM), (∀ (M : MM), inv M → ih M) → inv M → B_m_matterTold_4 k28 Q N ih M) : ∀ (N : Nat) (M : MM), inv M → W_m_matterTold_4 k28 Q N M := by
  intro N
  induction N with
  | zero => intros; trivial
  | succ N IH =>
    intro M h
    exact hs N _ M IH h
theorem q_m_matterTold_4 {X : Option (List AI)} {N0 : Nat} {k28 : MM → Prop} {Q : Int32 → MM → Prop}  (hk28 : ∀  (M : MM), k28 M → pM X N0 221 28 [(0, .inr (.inl (some 190)))] [] M (Ri Q)) : ∀ (N : Nat), N ≤ N0 → ∀ (M : MM), W_m_matterTold_4 k28 Q N M → pM X N 221 4 [(0, .inr (.inl (some 190)))] [] M (Ri Q) := by
  intro N
  induction N with
  | zero => intros; exact pM_zero
  | succ N IH =>
    intro hN M h
    replace hN := Nat.le_of_succ_le hN
    replace h : B_m_matterTold_4 k28 Q N (W_m_matterTold_4 k28 Q N) M := h
    refine pM_s (pMs_aln rfl rfl rfl ?_)
    refine pM_bi rfl kb_48 ?_
    refine pM_bi rfl kb_57 ?_
    refine pM_qVi (as := [.inr (.inl (some 190)), .inl (.inl 48), .inl (.inl 57)]) (T := []) rfl rfl (fun C hC => cl_v hC rfl rfl rfl rfl) rfl (q_m_isAt ) ?_
    refine pM_zeq rfl rfl (fun h3 => ?_) (fun h3 => ?_)
    · replace h := h.1 h3
      refine pM_w (F2 := [(0, .inr (.inl (some 190)))]) (fun L hL => lo_cons (lo_lk hL rfl) lo_nil) ?_
      exact pM_le hN (hk28 _ h)
    · replace h := h.2 h3
      refine pM_aln rfl rfl rfl ?_
      refine pM_p (pc' := 17) (S' := [.inr (.inl (some 190)), .inr (.inl (some 190))]) rfl rfl (fun _ => rfl) ?_
      refine pM_gi rfl rfl rfl rfl ?_
      refine pM_ic rfl ki_1 ?_
      refine pM_add rfl ?_
      refine pM_pi rfl rfl rfl rfl ?_
      refine pM_go rfl rfl ?_
      refine pM_w (F2 := [(0, .inr (.inl (some 190)))]) (fun L hL => lo_cons (lo_lk hL rfl) lo_nil) ?_
      exact IH hN (wi M 190 19 ((M.1 190 19) + 1)) h
/-- 221: EarCodeModel.matterTold()I -/
def W_m_matterTold  (N : Nat) (M : MM) (Q : Int32 → MM → Prop) : Prop :=
  W_m_blanks  N M (fun M2 =>
    W_m_matterTold_4 (fun M4 =>
      ((((M4.1 190 19) - (M4.1 190 21)) = 2 →
        ((((M4.1 203 (ni (M4.1 190 21))) - 48) < 8 →
          ((((M4.1 203 (ni ((M4.1 190 21) + 1))) - 48) < 8 →
            Q ((8 * ((M4.1 203 (ni (M4.1 190 21))) - 48)) + ((M4.1 203 (ni ((M4.1 190 21) + 1))) - 48)) M4) ∧
           (¬ ((M4.1 203 (ni ((M4.1 190 21) + 1))) - 48) < 8 →
            Q (-1) M4))) ∧
         (¬ ((M4.1 203 (ni (M4.1 190 21))) - 48) < 8 →
          Q (-1) M4))) ∧
       (¬ ((M4.1 190 19) - (M4.1 190 21)) = 2 →
        Q (-1) M4))) Q N M2)
theorem q_m_matterTold {X : Option (List AI)} {N : Nat} {M : MM}  {Q : Int32 → MM → Prop}  (h : W_m_matterTold  N M Q) : pM X N 221 0 (ea_ar 0 [.inr (.inl (some 190))]) [] M (Ri Q) := by
  refine pM_w (F2 := [(0, .inr (.inl (some 190)))]) (fun L hL => lo_cons (lo_lk hL rfl) lo_nil) ?_
  refine pM_aln rfl rfl rfl ?_
  refine pM_qRu (as := [.inr (.inl (some 190))]) (T := []) rfl rfl (fun C hC => cl_v hC rfl rfl rfl rfl) rfl (q_m_blanks  h) (fun M2 h => ?_)
  refine pM_w (F2 := [(0, .inr (.inl (some 190)))]) (fun L hL => lo_cons (lo_lk hL rfl) lo_nil) ?_
  refine q_m_matterTold_4  (fun M4 h => ?_) N (Nat.le_refl N) M2 h
  · refine pM_aln rfl rfl rfl ?_
    refine pM_gi rfl rfl rfl rfl ?_
    refine pM_aln rfl rfl rfl ?_
    refine pM_gi rfl rfl rfl rfl ?_
    refine pM_sub rfl ?_
    refine pM_ic rfl ki_2 ?_
    refine pM_ceq rfl rfl (fun h5 => ?_) (fun h5 => ?_)
    · replace h := h.1 h5
      refine pM_aln rfl rfl rfl ?_
      refine pM_gr rfl rfl rfl rfl ?_
      refine pM_aln rfl rfl rfl ?_
      refine pM_gi rfl rfl rfl rfl ?_
      refine pM_bl rfl rfl (one_p _) ?_
      refine pM_bi rfl kb_48 ?_
      refine pM_sub rfl ?_
      refine pM_isn rfl rfl ?_
      refine pM_aln rfl rfl rfl ?_
      refine pM_gr rfl rfl rfl rfl ?_
      refine pM_aln rfl rfl rfl ?_
      refine pM_gi rfl rfl rfl rfl ?_
      refine pM_ic rfl ki_1 ?_
      refine pM_add rfl ?_
      refine pM_bl rfl rfl (one_p _) ?_
      refine pM_bi rfl kb_48 ?_
      refine pM_sub rfl ?_
      refine pM_isn rfl rfl ?_
      refine pM_iln rfl rfl ?_
      refine pM_bi rfl kb_8 ?_
      refine pM_cge rfl rfl (fun h6 => ?_) (fun h6 => ?_)
      · replace h := h.2 h6
        refine pM_ic rfl ki_m1 ?_
        exact pM_ri rfl (⟨_, rfl, h⟩)
      · replace h := h.1 h6
        refine pM_iln rfl rfl ?_
        refine pM_bi rfl kb_8 ?_
        refine pM_cge rfl rfl (fun h7 => ?_) (fun h7 => ?_)
        · replace h := h.2 h7
          refine pM_ic rfl ki_m1 ?_
          exact pM_ri rfl (⟨_, rfl, h⟩)
        · replace h := h.1 h7
          refine pM_bi rfl kb_8 ?_
          refine pM_iln rfl rfl ?_
          refine pM_mul rfl ?_
          refine pM_iln rfl rfl ?_
          refine pM_add rfl ?_
          refine pM_go rfl rfl ?_
          exact pM_ri rfl (⟨_, rfl, h⟩)
    · replace h := h.2 h5
      refine pM_ic rfl ki_m1 ?_
      exact pM_ri rfl (⟨_, rfl, h⟩)
/-- 222: EarCodeModel.fault()I -/
def W_m_fault  (N : Nat) (M : MM) (Q : Int32 → MM → Prop) : Prop :=
  Q ((wi M 190 0 0).1 190 23) (wi M 190 0 0)
theorem q_m_fault {X : Option (List AI)} {N : Nat} {M : MM}  {Q : Int32 → MM → Prop}  (h : W_m_fault  N M Q) : pM X N 222 0 (ea_ar 0 [.inr (.inl (some 190))]) [] M (Ri Q) := by
  refine pM_w (F2 := [(0, .inr (.inl (some 190)))]) (fun L hL => lo_cons (lo_lk hL rfl) lo_nil) ?_
  refine pM_aln rfl rfl rfl ?_
  refine pM_ic rfl ki_0 ?_
  refine pM_pi rfl rfl rfl rfl ?_
  refine pM_aln rfl rfl rfl ?_
  refine pM_gi rfl rfl rfl rfl ?_
  exact pM_ri rfl (⟨_, rfl, h⟩)
/-- 223: EarCodeModel.uses()V -/
def W_m_uses  (N : Nat) (M : MM) (Q : MM → Prop) : Prop :=
  Q (wi (wi (wi (wi M 190 0 0) 190 20 ((wi M 190 0 0).1 190 18)) 190 18 0) 190 19 0)
theorem q_m_uses {X : Option (List AI)} {N : Nat} {M : MM}  {Q : MM → Prop}  (h : W_m_uses  N M Q) : pM X N 223 0 (ea_ar 0 [.inr (.inl (some 190))]) [] M (Ru Q) := by
  refine pM_w (F2 := [(0, .inr (.inl (some 190)))]) (fun L hL => lo_cons (lo_lk hL rfl) lo_nil) ?_
  refine pM_aln rfl rfl rfl ?_
  refine pM_ic rfl ki_0 ?_
  refine pM_pi rfl rfl rfl rfl ?_
  refine pM_aln rfl rfl rfl ?_
  refine pM_aln rfl rfl rfl ?_
  refine pM_gi rfl rfl rfl rfl ?_
  refine pM_pi rfl rfl rfl rfl ?_
  refine pM_aln rfl rfl rfl ?_
  refine pM_ic rfl ki_0 ?_
  refine pM_pi rfl rfl rfl rfl ?_
  refine pM_aln rfl rfl rfl ?_
  refine pM_ic rfl ki_0 ?_
  refine pM_pi rfl rfl rfl rfl ?_
  exact pM_ru rfl (⟨rfl, h⟩)
/-- 224: EarCodeModel.emits(II)V -/
def W_m_emits (p1 : Int32) (p2 : Int32) (N : Nat) (M : MM) (Q : MM → Prop) : Prop :=
  Q (wi (wi (wi M 202 (ni (2 * (M.1 190 25))) p1) 202 (ni ((2 * ((wi M 202 (ni (2 * (M.1 190 25))) p1).1 190 25)) + 1)) p2) 190 25 (((wi (wi M 202 (ni (2 * (M.1 190 25))) p1) 202 (ni ((2 * ((wi M 202 (ni (2 * (M.1 190 25))) p1).1 190 25)) + 1)) p2).1 190 25) + 1))
theorem q_m_emits {X : Option (List AI)} {N : Nat} {M : MM} {p1 : Int32} {p2 : Int32} {Q : MM → Prop}  (h : W_m_emits p1 p2 N M Q) : pM X N 224 0 (ea_ar 0 [.inr (.inl (some 190)), .inl (.inl p1), .inl (.inl p2)]) [] M (Ru Q) := by
  refine pM_w (F2 := [(0, .inr (.inl (some 190))), (1, .inl (.inl p1)), (2, .inl (.inl p2))]) (fun L hL => lo_cons (lo_lk hL rfl) (lo_cons (lo_lk hL rfl) (lo_cons (lo_lk hL rfl) lo_nil))) ?_
  refine pM_aln rfl rfl rfl ?_
  refine pM_gr rfl rfl rfl rfl ?_
  refine pM_ic rfl ki_2 ?_
  refine pM_aln rfl rfl rfl ?_
  refine pM_gi rfl rfl rfl rfl ?_
  refine pM_mul rfl ?_
  refine pM_iln rfl rfl ?_
  refine pM_sa rfl rfl (one_p _) ?_
  refine pM_aln rfl rfl rfl ?_
  refine pM_gr rfl rfl rfl rfl ?_
  refine pM_ic rfl ki_2 ?_
  refine pM_aln rfl rfl rfl ?_
  refine pM_gi rfl rfl rfl rfl ?_
  refine pM_mul rfl ?_
  refine pM_ic rfl ki_1 ?_
  refine pM_add rfl ?_
  refine pM_iln rfl rfl ?_
  refine pM_sa rfl rfl (one_p _) ?_
  refine pM_aln rfl rfl rfl ?_
  refine pM_p (pc' := 28) (S' := [.inr (.inl (some 190)), .inr (.inl (some 190))]) rfl rfl (fun _ => rfl) ?_
  refine pM_gi rfl rfl rfl rfl ?_
  refine pM_ic rfl ki_1 ?_
  refine pM_add rfl ?_
  refine pM_pi rfl rfl rfl rfl ?_
  exact pM_ru rfl (⟨rfl, h⟩)
/-- 225: EarCodeModel.readPart()Z -/
def W_m_readPart  (N : Nat) (M : MM) (Q : Int32 → MM → Prop) : Prop :=
  W_m_letters  N M (fun M2 =>
    (((M2.1 190 19) = (M2.1 190 21) →
      W_m_number 0 999 N M2 (fun r4 M5 =>
        W_m_emits 5 r4 N M5 (fun M7 =>
          ((r4 < 0 →
            Q 0 M7) ∧
           (¬ r4 < 0 →
            Q 1 M7))))) ∧
     (¬ (M2.1 190 19) = (M2.1 190 21) →
      W_m_isWord 196476243687425 N M2 (fun r9 =>
        ((r9 = 0 →
          W_m_isWord 3165696515 N M2 (fun r12 =>
            ((r12 = 0 →
              W_m_isWord 3082042245 N M2 (fun r15 =>
                ((r15 = 0 →
                  W_m_isWord 201467113190791 N M2 (fun r18 =>
                    ((r18 = 0 →
                      W_m_emits (-1) 0 N M2 (fun M22 =>
                        Q 0 M22)) ∧
                     (¬ r18 = 0 →
                      W_m_emits 3 0 N M2 (fun M25 =>
                        Q 1 M25))))) ∧
                 (¬ r15 = 0 →
                  W_m_emits 2 0 N M2 (fun M28 =>
                    Q 1 M28))))) ∧
             (¬ r12 = 0 →
              W_m_emits 1 0 N M2 (fun M31 =>
                Q 1 M31))))) ∧
         (¬ r9 = 0 →
          W_m_emits 0 0 N M2 (fun M34 =>
            Q 1 M34)))))))
theorem q_m_readPart {X : Option (List AI)} {N : Nat} {M : MM}  {Q : Int32 → MM → Prop}  (h : W_m_readPart  N M Q) : pM X N 225 0 (ea_ar 0 [.inr (.inl (some 190))]) [] M (Ri Q) := by
  refine pM_w (F2 := [(0, .inr (.inl (some 190)))]) (fun L hL => lo_cons (lo_lk hL rfl) lo_nil) ?_
  refine pM_aln rfl rfl rfl ?_
  refine pM_qRu (as := [.inr (.inl (some 190))]) (T := []) rfl rfl (fun C hC => cl_v hC rfl rfl rfl rfl) rfl (q_m_letters  h) (fun M2 h => ?_)
  refine pM_aln rfl rfl rfl ?_
  refine pM_gi rfl rfl rfl rfl ?_
  refine pM_aln rfl rfl rfl ?_
  refine pM_gi rfl rfl rfl rfl ?_
  refine pM_cne rfl rfl (fun h3 => ?_) (fun h3 => ?_)
  · replace h := h.2 h3
    refine pM_aln rfl rfl rfl ?_
    refine pM_lds rfl rfl ?_
    refine pM_qPi (as := [.inr (.inl (some 190)), .inr (.inr (.inr (.inr 196476243687426)))]) (T := []) rfl rfl (fun C hC => cl_v hC rfl rfl rfl rfl) rfl (q_m_isWord (by decide) h) (fun r9 h => ?_)
    refine pM_zeq rfl rfl (fun h11 => ?_) (fun h11 => ?_)
    · replace h := h.1 h11
      refine pM_aln rfl rfl rfl ?_
      refine pM_lds rfl rfl ?_
      refine pM_qPi (as := [.inr (.inl (some 190)), .inr (.inr (.inr (.inr 3165696516)))]) (T := []) rfl rfl (fun C hC => cl_v hC rfl rfl rfl rfl) rfl (q_m_isWord (by decide) h) (fun r12 h => ?_)
      refine pM_zeq rfl rfl (fun h14 => ?_) (fun h14 => ?_)
      · replace h := h.1 h14
        refine pM_aln rfl rfl rfl ?_
        refine pM_lds rfl rfl ?_
        refine pM_qPi (as := [.inr (.inl (some 190)), .inr (.inr (.inr (.inr 3082042246)))]) (T := []) rfl rfl (fun C hC => cl_v hC rfl rfl rfl rfl) rfl (q_m_isWord (by decide) h) (fun r15 h => ?_)
        refine pM_zeq rfl rfl (fun h17 => ?_) (fun h17 => ?_)
        · replace h := h.1 h17
          refine pM_aln rfl rfl rfl ?_
          refine pM_lds rfl rfl ?_
          refine pM_qPi (as := [.inr (.inl (some 190)), .inr (.inr (.inr (.inr 201467113190792)))]) (T := []) rfl rfl (fun C hC => cl_v hC rfl rfl rfl rfl) rfl (q_m_isWord (by decide) h) (fun r18 h => ?_)
          refine pM_zeq rfl rfl (fun h20 => ?_) (fun h20 => ?_)
          · replace h := h.1 h20
            refine pM_ic rfl ki_m1 ?_
            refine pM_isn rfl rfl ?_
            refine pM_aln rfl rfl rfl ?_
            refine pM_iln rfl rfl ?_
            refine pM_ic rfl ki_0 ?_
            refine pM_qRu (as := [.inr (.inl (some 190)), .inl (.inl (-1)), .inl (.inl 0)]) (T := []) rfl rfl (fun C hC => cl_v hC rfl rfl rfl rfl) rfl (q_m_emits  h) (fun M22 h => ?_)
            refine pM_iln rfl rfl ?_
            refine pM_zlt rfl rfl (fun h23 => ?_) (fun h23 => ?_)
            · refine pM_ic rfl ki_0 ?_
              exact pM_ri rfl (⟨_, rfl, h⟩)
            · exact absurd (by decide) h23
          · replace h := h.2 h20
            refine pM_ic rfl ki_3 ?_
            refine pM_go rfl rfl ?_
            refine pM_isn rfl rfl ?_
            refine pM_aln rfl rfl rfl ?_
            refine pM_iln rfl rfl ?_
            refine pM_ic rfl ki_0 ?_
            refine pM_qRu (as := [.inr (.inl (some 190)), .inl (.inl 3), .inl (.inl 0)]) (T := []) rfl rfl (fun C hC => cl_v hC rfl rfl rfl rfl) rfl (q_m_emits  h) (fun M25 h => ?_)
            refine pM_iln rfl rfl ?_
            refine pM_zlt rfl rfl (fun h26 => ?_) (fun h26 => ?_)
            · exact absurd h26 (by decide)
            · refine pM_ic rfl ki_1 ?_
              refine pM_go rfl rfl ?_
              exact pM_ri rfl (⟨_, rfl, h⟩)
        · replace h := h.2 h17
          refine pM_ic rfl ki_2 ?_
          refine pM_go rfl rfl ?_
          refine pM_isn rfl rfl ?_
          refine pM_aln rfl rfl rfl ?_
          refine pM_iln rfl rfl ?_
          refine pM_ic rfl ki_0 ?_
          refine pM_qRu (as := [.inr (.inl (some 190)), .inl (.inl 2), .inl (.inl 0)]) (T := []) rfl rfl (fun C hC => cl_v hC rfl rfl rfl rfl) rfl (q_m_emits  h) (fun M28 h => ?_)
          refine pM_iln rfl rfl ?_
          refine pM_zlt rfl rfl (fun h29 => ?_) (fun h29 => ?_)
          · exact absurd h29 (by decide)
          · refine pM_ic rfl ki_1 ?_
            refine pM_go rfl rfl ?_
            exact pM_ri rfl (⟨_, rfl, h⟩)
      · replace h := h.2 h14
        refine pM_ic rfl ki_1 ?_
        refine pM_go rfl rfl ?_
        refine pM_isn rfl rfl ?_
        refine pM_aln rfl rfl rfl ?_
        refine pM_iln rfl rfl ?_
        refine pM_ic rfl ki_0 ?_
        refine pM_qRu (as := [.inr (.inl (some 190)), .inl (.inl 1), .inl (.inl 0)]) (T := []) rfl rfl (fun C hC => cl_v hC rfl rfl rfl rfl) rfl (q_m_emits  h) (fun M31 h => ?_)
        refine pM_iln rfl rfl ?_
        refine pM_zlt rfl rfl (fun h32 => ?_) (fun h32 => ?_)
        · exact absurd h32 (by decide)
        · refine pM_ic rfl ki_1 ?_
          refine pM_go rfl rfl ?_
          exact pM_ri rfl (⟨_, rfl, h⟩)
    · replace h := h.2 h11
      refine pM_ic rfl ki_0 ?_
      refine pM_go rfl rfl ?_
      refine pM_isn rfl rfl ?_
      refine pM_aln rfl rfl rfl ?_
      refine pM_iln rfl rfl ?_
      refine pM_ic rfl ki_0 ?_
      refine pM_qRu (as := [.inr (.inl (some 190)), .inl (.inl 0), .inl (.inl 0)]) (T := []) rfl rfl (fun C hC => cl_v hC rfl rfl rfl rfl) rfl (q_m_emits  h) (fun M34 h => ?_)
      refine pM_iln rfl rfl ?_
      refine pM_zlt rfl rfl (fun h35 => ?_) (fun h35 => ?_)
      · exact absurd h35 (by decide)
      · refine pM_ic rfl ki_1 ?_
        refine pM_go rfl rfl ?_
        exact pM_ri rfl (⟨_, rfl, h⟩)
  · replace h := h.1 h3
    refine pM_aln rfl rfl rfl ?_
    refine pM_ic rfl ki_0 ?_
    refine pM_si rfl ks_999 ?_
    refine pM_qRi (as := [.inr (.inl (some 190)), .inl (.inl 0), .inl (.inl 999)]) (T := []) rfl rfl (fun C hC => cl_v hC rfl rfl rfl rfl) rfl (q_m_number  h) (fun r4 M5 h => ?_)
    refine pM_isn rfl rfl ?_
    refine pM_aln rfl rfl rfl ?_
    refine pM_ic rfl ki_5 ?_
    refine pM_iln rfl rfl ?_
    refine pM_qRu (as := [.inr (.inl (some 190)), .inl (.inl 5), .inl (.inl r4)]) (T := []) rfl rfl (fun C hC => cl_v hC rfl rfl rfl rfl) rfl (q_m_emits  h) (fun M7 h => ?_)
    refine pM_go rfl rfl ?_
    refine pM_iln rfl rfl ?_
    refine pM_zlt rfl rfl (fun h8 => ?_) (fun h8 => ?_)
    · replace h := h.1 h8
      refine pM_ic rfl ki_0 ?_
      exact pM_ri rfl (⟨_, rfl, h⟩)
    · replace h := h.2 h8
      refine pM_ic rfl ki_1 ?_
      refine pM_go rfl rfl ?_
      exact pM_ri rfl (⟨_, rfl, h⟩)
def B_m_readSum_9 (Q : Int32 → MM → Prop) (N : Nat) (ih : MM → Prop) (M : MM) : Prop :=
  W_m_sign 43 N M (fun r4 M5 =>
    ((r4 = 0 →
      Q 1 M5) ∧
     (¬ r4 = 0 →
      W_m_readPart  N M5 (fun r7 M8 =>
        ((r7 = 0 →
          Q 0 M8) ∧
         (¬ r7 = 0 →
          W_m_emits 6 0 N M8 (fun M11 =>
            ih M11)))))))
def W_m_readSum_9 (Q : Int32 → MM → Prop) : Nat → MM → Prop
  | 0, _ => True
  | N + 1, M => B_m_readSum_9 Q N (W_m_readSum_9 Q N) M
theorem I_m_readSum_9 (Q : Int32 → MM → Prop) (inv : MM → Prop) (hs : ∀ (N : Nat) (ih : MM → Prop) (M : MM), (∀ (M : MM), inv M → ih M) → inv M → B_m_readSum_9 Q N ih M) : ∀ (N : Nat) (M : MM), inv M → W_m_readSum_9 Q N M := by
  intro N
  induction N with
  | zero => intros; trivial
  | succ N IH =>
    intro M h
    exact hs N _ M IH h
theorem q_m_readSum_9 {X : Option (List AI)} {N0 : Nat} {Q : Int32 → MM → Prop}   : ∀ (N : Nat), N ≤ N0 → ∀ (M : MM), W_m_readSum_9 Q N M → pM X N 226 9 [(0, .inr (.inl (some 190)))] [] M (Ri Q) := by
  intro N
  induction N with
  | zero => intros; exact pM_zero
  | succ N IH =>
    intro hN M h
    replace hN := Nat.le_of_succ_le hN
    replace h : B_m_readSum_9 Q N (W_m_readSum_9 Q N) M := h
    refine pM_s (pMs_aln rfl rfl rfl ?_)
    refine pM_bi rfl kb_43 ?_
    refine pM_qRi (as := [.inr (.inl (some 190)), .inl (.inl 43)]) (T := []) rfl rfl (fun C hC => cl_v hC rfl rfl rfl rfl) rfl (q_m_sign  h) (fun r4 M5 h => ?_)
    refine pM_zeq rfl rfl (fun h6 => ?_) (fun h6 => ?_)
    · replace h := h.1 h6
      refine pM_ic rfl ki_1 ?_
      exact pM_ri rfl (⟨_, rfl, h⟩)
    · replace h := h.2 h6
      refine pM_aln rfl rfl rfl ?_
      refine pM_qRi (as := [.inr (.inl (some 190))]) (T := []) rfl rfl (fun C hC => cl_v hC rfl rfl rfl rfl) rfl (q_m_readPart  h) (fun r7 M8 h => ?_)
      refine pM_zne rfl rfl (fun h9 => ?_) (fun h9 => ?_)
      · replace h := h.2 h9
        refine pM_aln rfl rfl rfl ?_
        refine pM_bi rfl kb_6 ?_
        refine pM_ic rfl ki_0 ?_
        refine pM_qRu (as := [.inr (.inl (some 190)), .inl (.inl 6), .inl (.inl 0)]) (T := []) rfl rfl (fun C hC => cl_v hC rfl rfl rfl rfl) rfl (q_m_emits  h) (fun M11 h => ?_)
        refine pM_go rfl rfl ?_
        refine pM_w (F2 := [(0, .inr (.inl (some 190)))]) (fun L hL => lo_cons (lo_lk hL rfl) lo_nil) ?_
        exact IH hN M11 h
      · replace h := h.1 h9
        refine pM_ic rfl ki_0 ?_
        exact pM_ri rfl (⟨_, rfl, h⟩)
/-- 226: EarCodeModel.readSum()Z -/
def W_m_readSum  (N : Nat) (M : MM) (Q : Int32 → MM → Prop) : Prop :=
  W_m_readPart  N M (fun r1 M2 =>
    ((r1 = 0 →
      Q 0 M2) ∧
     (¬ r1 = 0 →
      W_m_readSum_9 Q N M2)))
theorem q_m_readSum {X : Option (List AI)} {N : Nat} {M : MM}  {Q : Int32 → MM → Prop}  (h : W_m_readSum  N M Q) : pM X N 226 0 (ea_ar 0 [.inr (.inl (some 190))]) [] M (Ri Q) := by
  refine pM_w (F2 := [(0, .inr (.inl (some 190)))]) (fun L hL => lo_cons (lo_lk hL rfl) lo_nil) ?_
  refine pM_aln rfl rfl rfl ?_
  refine pM_qRi (as := [.inr (.inl (some 190))]) (T := []) rfl rfl (fun C hC => cl_v hC rfl rfl rfl rfl) rfl (q_m_readPart  h) (fun r1 M2 h => ?_)
  refine pM_zne rfl rfl (fun h3 => ?_) (fun h3 => ?_)
  · replace h := h.2 h3
    refine pM_w (F2 := [(0, .inr (.inl (some 190)))]) (fun L hL => lo_cons (lo_lk hL rfl) lo_nil) ?_
    refine q_m_readSum_9   N (Nat.le_refl N) M2 h
  · replace h := h.1 h3
    refine pM_ic rfl ki_0 ?_
    exact pM_ri rfl (⟨_, rfl, h⟩)
/-- 387: EarCodeModel.readAtom()Z -/
def W_m_readAtom_387  (N : Nat) (M : MM) (Q : Int32 → MM → Prop) : Prop :=
  W_m_sign 40 N M (fun r1 M2 =>
    ((r1 = 0 →
      W_m_passes 3124213513 N M2 (fun r4 M5 =>
        ((r4 = 0 →
          W_m_passes 204756940403467 N M5 (fun r7 M8 =>
            ((r7 = 0 →
              W_m_readSum  N M8 (fun r10 M11 =>
                ((r10 = 0 →
                  Q 0 M11) ∧
                 (¬ r10 = 0 →
                  W_m_sign 60 N M11 (fun r13 M14 =>
                    ((r13 = 0 →
                      W_m_sign 62 N M14 (fun r16 M17 =>
                        ((r16 = 0 →
                          Q 0 M17) ∧
                         (¬ r16 = 0 →
                          W_m_readSum  N M17 (fun r19 M20 =>
                            ((r19 = 0 →
                              Q 0 M20) ∧
                             (¬ r19 = 0 →
                              ((r13 = 0 →
                                W_m_emits 8 0 N M20 (fun M24 =>
                                  Q 1 M24)) ∧
                               (¬ r13 = 0 →
                                W_m_emits 7 0 N M20 (fun M26 =>
                                  Q 1 M26)))))))))) ∧
                     (¬ r13 = 0 →
                      W_m_readSum  N M14 (fun r27 M28 =>
                        ((r27 = 0 →
                          Q 0 M28) ∧
                         (¬ r27 = 0 →
                          ((r13 = 0 →
                            W_m_emits 8 0 N M28 (fun M32 =>
                              Q 1 M32)) ∧
                           (¬ r13 = 0 →
                            W_m_emits 7 0 N M28 (fun M34 =>
                              Q 1 M34))))))))))))) ∧
             (¬ r7 = 0 →
              W_m_emits 4 0 N M8 (fun M36 =>
                Q 1 M36))))) ∧
         (¬ r4 = 0 →
          (((M5.1 190 22) = 6 →
            Q 0 M5) ∧
           (¬ (M5.1 190 22) = 6 →
            True)))))) ∧
     (¬ r1 = 0 →
      (((M2.1 190 22) = 6 →
        Q 0 M2) ∧
       (¬ (M2.1 190 22) = 6 →
        True)))))
theorem q_m_readAtom_387 {X : Option (List AI)} {N : Nat} {M : MM}  {Q : Int32 → MM → Prop}  (h : W_m_readAtom_387  N M Q) : pM X N 387 0 (ea_ar 0 [.inr (.inl (some 190))]) [] M (Ri Q) := by
  refine pM_w (F2 := [(0, .inr (.inl (some 190)))]) (fun L hL => lo_cons (lo_lk hL rfl) lo_nil) ?_
  refine pM_aln rfl rfl rfl ?_
  refine pM_bi rfl kb_40 ?_
  refine pM_qRi (as := [.inr (.inl (some 190)), .inl (.inl 40)]) (T := []) rfl rfl (fun C hC => cl_v hC rfl rfl rfl rfl) rfl (q_m_sign  h) (fun r1 M2 h => ?_)
  refine pM_zeq rfl rfl (fun h3 => ?_) (fun h3 => ?_)
  · replace h := h.1 h3
    refine pM_aln rfl rfl rfl ?_
    refine pM_lds rfl rfl ?_
    refine pM_qRi (as := [.inr (.inl (some 190)), .inr (.inr (.inr (.inr 3124213514)))]) (T := []) rfl rfl (fun C hC => cl_v hC rfl rfl rfl rfl) rfl (q_m_passes (by decide) h) (fun r4 M5 h => ?_)
    refine pM_zeq rfl rfl (fun h6 => ?_) (fun h6 => ?_)
    · replace h := h.1 h6
      refine pM_aln rfl rfl rfl ?_
      refine pM_lds rfl rfl ?_
      refine pM_qRi (as := [.inr (.inl (some 190)), .inr (.inr (.inr (.inr 204756940403468)))]) (T := []) rfl rfl (fun C hC => cl_v hC rfl rfl rfl rfl) rfl (q_m_passes (by decide) h) (fun r7 M8 h => ?_)
      refine pM_zeq rfl rfl (fun h9 => ?_) (fun h9 => ?_)
      · replace h := h.1 h9
        refine pM_aln rfl rfl rfl ?_
        refine pM_qRi (as := [.inr (.inl (some 190))]) (T := []) rfl rfl (fun C hC => cl_v hC rfl rfl rfl rfl) rfl (q_m_readSum  h) (fun r10 M11 h => ?_)
        refine pM_zne rfl rfl (fun h12 => ?_) (fun h12 => ?_)
        · replace h := h.2 h12
          refine pM_aln rfl rfl rfl ?_
          refine pM_bi rfl kb_60 ?_
          refine pM_qRi (as := [.inr (.inl (some 190)), .inl (.inl 60)]) (T := []) rfl rfl (fun C hC => cl_v hC rfl rfl rfl rfl) rfl (q_m_sign  h) (fun r13 M14 h => ?_)
          refine pM_isn rfl rfl ?_
          refine pM_iln rfl rfl ?_
          refine pM_zne rfl rfl (fun h15 => ?_) (fun h15 => ?_)
          · replace h := h.2 h15
            refine pM_aln rfl rfl rfl ?_
            refine pM_qRi (as := [.inr (.inl (some 190))]) (T := []) rfl rfl (fun C hC => cl_v hC rfl rfl rfl rfl) rfl (q_m_readSum  h) (fun r27 M28 h => ?_)
            refine pM_zne rfl rfl (fun h29 => ?_) (fun h29 => ?_)
            · replace h := h.2 h29
              refine pM_aln rfl rfl rfl ?_
              refine pM_iln rfl rfl ?_
              refine pM_zeq rfl rfl (fun h30 => ?_) (fun h30 => ?_)
              · replace h := h.1 h30
                refine pM_bi rfl kb_8 ?_
                refine pM_ic rfl ki_0 ?_
                refine pM_qRu (as := [.inr (.inl (some 190)), .inl (.inl 8), .inl (.inl 0)]) (T := []) rfl rfl (fun C hC => cl_v hC rfl rfl rfl rfl) rfl (q_m_emits  h) (fun M32 h => ?_)
                refine pM_ic rfl ki_1 ?_
                exact pM_ri rfl (⟨_, rfl, h⟩)
              · replace h := h.2 h30
                refine pM_bi rfl kb_7 ?_
                refine pM_go rfl rfl ?_
                refine pM_ic rfl ki_0 ?_
                refine pM_qRu (as := [.inr (.inl (some 190)), .inl (.inl 7), .inl (.inl 0)]) (T := []) rfl rfl (fun C hC => cl_v hC rfl rfl rfl rfl) rfl (q_m_emits  h) (fun M34 h => ?_)
                refine pM_ic rfl ki_1 ?_
                exact pM_ri rfl (⟨_, rfl, h⟩)
            · replace h := h.1 h29
              refine pM_ic rfl ki_0 ?_
              exact pM_ri rfl (⟨_, rfl, h⟩)
          · replace h := h.1 h15
            refine pM_aln rfl rfl rfl ?_
            refine pM_bi rfl kb_62 ?_
            refine pM_qRi (as := [.inr (.inl (some 190)), .inl (.inl 62)]) (T := []) rfl rfl (fun C hC => cl_v hC rfl rfl rfl rfl) rfl (q_m_sign  h) (fun r16 M17 h => ?_)
            refine pM_zeq rfl rfl (fun h18 => ?_) (fun h18 => ?_)
            · replace h := h.1 h18
              refine pM_ic rfl ki_0 ?_
              exact pM_ri rfl (⟨_, rfl, h⟩)
            · replace h := h.2 h18
              refine pM_aln rfl rfl rfl ?_
              refine pM_qRi (as := [.inr (.inl (some 190))]) (T := []) rfl rfl (fun C hC => cl_v hC rfl rfl rfl rfl) rfl (q_m_readSum  h) (fun r19 M20 h => ?_)
              refine pM_zne rfl rfl (fun h21 => ?_) (fun h21 => ?_)
              · replace h := h.2 h21
                refine pM_aln rfl rfl rfl ?_
                refine pM_iln rfl rfl ?_
                refine pM_zeq rfl rfl (fun h22 => ?_) (fun h22 => ?_)
                · replace h := h.1 h22
                  refine pM_bi rfl kb_8 ?_
                  refine pM_ic rfl ki_0 ?_
                  refine pM_qRu (as := [.inr (.inl (some 190)), .inl (.inl 8), .inl (.inl 0)]) (T := []) rfl rfl (fun C hC => cl_v hC rfl rfl rfl rfl) rfl (q_m_emits  h) (fun M24 h => ?_)
                  refine pM_ic rfl ki_1 ?_
                  exact pM_ri rfl (⟨_, rfl, h⟩)
                · replace h := h.2 h22
                  refine pM_bi rfl kb_7 ?_
                  refine pM_go rfl rfl ?_
                  refine pM_ic rfl ki_0 ?_
                  refine pM_qRu (as := [.inr (.inl (some 190)), .inl (.inl 7), .inl (.inl 0)]) (T := []) rfl rfl (fun C hC => cl_v hC rfl rfl rfl rfl) rfl (q_m_emits  h) (fun M26 h => ?_)
                  refine pM_ic rfl ki_1 ?_
                  exact pM_ri rfl (⟨_, rfl, h⟩)
              · replace h := h.1 h21
                refine pM_ic rfl ki_0 ?_
                exact pM_ri rfl (⟨_, rfl, h⟩)
        · replace h := h.1 h12
          refine pM_ic rfl ki_0 ?_
          exact pM_ri rfl (⟨_, rfl, h⟩)
      · replace h := h.2 h9
        refine pM_aln rfl rfl rfl ?_
        refine pM_ic rfl ki_4 ?_
        refine pM_ic rfl ki_0 ?_
        refine pM_qRu (as := [.inr (.inl (some 190)), .inl (.inl 4), .inl (.inl 0)]) (T := []) rfl rfl (fun C hC => cl_v hC rfl rfl rfl rfl) rfl (q_m_emits  h) (fun M36 h => ?_)
        refine pM_ic rfl ki_1 ?_
        exact pM_ri rfl (⟨_, rfl, h⟩)
    · replace h := h.2 h6
      refine pM_aln rfl rfl rfl ?_
      refine pM_gi rfl rfl rfl rfl ?_
      refine pM_bi rfl kb_6 ?_
      refine pM_cne rfl rfl (fun h37 => ?_) (fun h37 => ?_)
      · replace h := h.2 h37
        refine pM_aln rfl rfl rfl ?_
        refine pM_p (pc' := 78) (S' := [.inr (.inl (some 190)), .inr (.inl (some 190))]) rfl rfl (fun _ => rfl) ?_
        refine pM_gi rfl rfl rfl rfl ?_
        refine pM_ic rfl ki_1 ?_
        refine pM_add rfl ?_
        refine pM_pi rfl rfl rfl rfl ?_
        refine pM_aln rfl rfl rfl ?_
        exact pM_dn (as := [.inr (.inl (some 190))]) (T := []) rfl rfl (fun C hC => cl_v hC rfl rfl rfl rfl) rfl
      · replace h := h.1 h37
        refine pM_ic rfl ki_0 ?_
        exact pM_ri rfl (⟨_, rfl, h⟩)
  · replace h := h.2 h3
    refine pM_aln rfl rfl rfl ?_
    refine pM_gi rfl rfl rfl rfl ?_
    refine pM_bi rfl kb_6 ?_
    refine pM_cne rfl rfl (fun h38 => ?_) (fun h38 => ?_)
    · replace h := h.2 h38
      refine pM_aln rfl rfl rfl ?_
      refine pM_p (pc' := 22) (S' := [.inr (.inl (some 190)), .inr (.inl (some 190))]) rfl rfl (fun _ => rfl) ?_
      refine pM_gi rfl rfl rfl rfl ?_
      refine pM_ic rfl ki_1 ?_
      refine pM_add rfl ?_
      refine pM_pi rfl rfl rfl rfl ?_
      refine pM_aln rfl rfl rfl ?_
      exact pM_dn (as := [.inr (.inl (some 190))]) (T := []) rfl rfl (fun C hC => cl_v hC rfl rfl rfl rfl) rfl
    · replace h := h.1 h38
      refine pM_ic rfl ki_0 ?_
      exact pM_ri rfl (⟨_, rfl, h⟩)
def B_m_readAllOf_386_9 (Q : Int32 → MM → Prop) (N : Nat) (ih : MM → Prop) (M : MM) : Prop :=
  W_m_passes 2989961357 N M (fun r4 M5 =>
    ((r4 = 0 →
      Q 1 M5) ∧
     (¬ r4 = 0 →
      W_m_readAtom_387  N M5 (fun r7 M8 =>
        ((r7 = 0 →
          Q 0 M8) ∧
         (¬ r7 = 0 →
          W_m_emits 10 0 N M8 (fun M11 =>
            ih M11)))))))
def W_m_readAllOf_386_9 (Q : Int32 → MM → Prop) : Nat → MM → Prop
  | 0, _ => True
  | N + 1, M => B_m_readAllOf_386_9 Q N (W_m_readAllOf_386_9 Q N) M
theorem I_m_readAllOf_386_9 (Q : Int32 → MM → Prop) (inv : MM → Prop) (hs : ∀ (N : Nat) (ih : MM → Prop) (M : MM), (∀ (M : MM), inv M → ih M) → inv M → B_m_readAllOf_386_9 Q N ih M) : ∀ (N : Nat) (M : MM), inv M → W_m_readAllOf_386_9 Q N M := by
  intro N
  induction N with
  | zero => intros; trivial
  | succ N IH =>
    intro M h
    exact hs N _ M IH h
theorem q_m_readAllOf_386_9 {X : Option (List AI)} {N0 : Nat} {Q : Int32 → MM → Prop}   : ∀ (N : Nat), N ≤ N0 → ∀ (M : MM), W_m_readAllOf_386_9 Q N M → pM X N 386 9 [(0, .inr (.inl (some 190)))] [] M (Ri Q) := by
  intro N
  induction N with
  | zero => intros; exact pM_zero
  | succ N IH =>
    intro hN M h
    replace hN := Nat.le_of_succ_le hN
    replace h : B_m_readAllOf_386_9 Q N (W_m_readAllOf_386_9 Q N) M := h
    refine pM_s (pMs_aln rfl rfl rfl ?_)
    refine pM_lds rfl rfl ?_
    refine pM_qRi (as := [.inr (.inl (some 190)), .inr (.inr (.inr (.inr 2989961358)))]) (T := []) rfl rfl (fun C hC => cl_v hC rfl rfl rfl rfl) rfl (q_m_passes (by decide) h) (fun r4 M5 h => ?_)
    refine pM_zeq rfl rfl (fun h6 => ?_) (fun h6 => ?_)
    · replace h := h.1 h6
      refine pM_ic rfl ki_1 ?_
      exact pM_ri rfl (⟨_, rfl, h⟩)
    · replace h := h.2 h6
      refine pM_aln rfl rfl rfl ?_
      refine pM_qRi (as := [.inr (.inl (some 190))]) (T := []) rfl rfl (fun C hC => cl_v hC rfl rfl rfl rfl) rfl (q_m_readAtom_387  h) (fun r7 M8 h => ?_)
      refine pM_zne rfl rfl (fun h9 => ?_) (fun h9 => ?_)
      · replace h := h.2 h9
        refine pM_aln rfl rfl rfl ?_
        refine pM_bi rfl kb_10 ?_
        refine pM_ic rfl ki_0 ?_
        refine pM_qRu (as := [.inr (.inl (some 190)), .inl (.inl 10), .inl (.inl 0)]) (T := []) rfl rfl (fun C hC => cl_v hC rfl rfl rfl rfl) rfl (q_m_emits  h) (fun M11 h => ?_)
        refine pM_go rfl rfl ?_
        refine pM_w (F2 := [(0, .inr (.inl (some 190)))]) (fun L hL => lo_cons (lo_lk hL rfl) lo_nil) ?_
        exact IH hN M11 h
      · replace h := h.1 h9
        refine pM_ic rfl ki_0 ?_
        exact pM_ri rfl (⟨_, rfl, h⟩)
/-- 386: EarCodeModel.readAllOf()Z -/
def W_m_readAllOf_386  (N : Nat) (M : MM) (Q : Int32 → MM → Prop) : Prop :=
  W_m_readAtom_387  N M (fun r1 M2 =>
    ((r1 = 0 →
      Q 0 M2) ∧
     (¬ r1 = 0 →
      W_m_readAllOf_386_9 Q N M2)))
theorem q_m_readAllOf_386 {X : Option (List AI)} {N : Nat} {M : MM}  {Q : Int32 → MM → Prop}  (h : W_m_readAllOf_386  N M Q) : pM X N 386 0 (ea_ar 0 [.inr (.inl (some 190))]) [] M (Ri Q) := by
  refine pM_w (F2 := [(0, .inr (.inl (some 190)))]) (fun L hL => lo_cons (lo_lk hL rfl) lo_nil) ?_
  refine pM_aln rfl rfl rfl ?_
  refine pM_qRi (as := [.inr (.inl (some 190))]) (T := []) rfl rfl (fun C hC => cl_v hC rfl rfl rfl rfl) rfl (q_m_readAtom_387  h) (fun r1 M2 h => ?_)
  refine pM_zne rfl rfl (fun h3 => ?_) (fun h3 => ?_)
  · replace h := h.2 h3
    refine pM_w (F2 := [(0, .inr (.inl (some 190)))]) (fun L hL => lo_cons (lo_lk hL rfl) lo_nil) ?_
    refine q_m_readAllOf_386_9   N (Nat.le_refl N) M2 h
  · replace h := h.1 h3
    refine pM_ic rfl ki_0 ?_
    exact pM_ri rfl (⟨_, rfl, h⟩)
