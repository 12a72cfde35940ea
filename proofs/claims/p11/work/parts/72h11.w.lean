/-! WHAT EACH METHOD COMES TO (gw.py) -/
def B_E_days_28 (p1 : Int32) (u2 : Int32) (Q : Int32 → MM → Prop) (E : Nat → MM → Prop) (N : Nat) (ih : Int32 → MM → Prop) (v3 : Int32) (M : MM) : Prop :=
  ((v3 < p1 →
    W_World_passDay 18 N M (fun M7 =>
      ih (v3 + 1) M7)) ∧
   (¬ v3 < p1 →
    Q ((M.1 18 16) - u2) M))
def W_E_days_28 (p1 : Int32) (u2 : Int32) (Q : Int32 → MM → Prop) (E : Nat → MM → Prop) : Nat → Int32 → MM → Prop
  | 0, _, _ => True
  | N + 1, v3, M => B_E_days_28 p1 u2 Q E N (W_E_days_28 p1 u2 Q E N) v3 M
theorem I_E_days_28 (p1 : Int32) (u2 : Int32) (Q : Int32 → MM → Prop) (E : Nat → MM → Prop) (inv : Int32 → MM → Prop) (hs : ∀ (N : Nat) (ih : Int32 → MM → Prop) (v3 : Int32) (M : MM), (∀ (v3 : Int32) (M : MM), inv v3 M → ih v3 M) → inv v3 M → B_E_days_28 p1 u2 Q E N ih v3 M) : ∀ (N : Nat) (v3 : Int32) (M : MM), inv v3 M → W_E_days_28 p1 u2 Q E N v3 M := by
  intro N
  induction N with
  | zero => intros; trivial
  | succ N IH =>
    intro v3 M h
    exact hs N _ v3 M IH h
theorem q_E_days_28 {X : Option (List AI)} {N0 : Nat} {p1 : Int32} {u2 : Int32} {Q : Int32 → MM → Prop} {E : Nat → MM → Prop}   : ∀ (N : Nat), N ≤ N0 → ∀ (v3 : Int32) (M : MM), W_E_days_28 p1 u2 Q E N v3 M → pM X N 146 28 [(0, .inr (.inl (some 0))), (1, .inl (.inl p1)), (2, .inl (.inl u2)), (3, .inl (.inl v3))] [] M (Re (Ri Q) E) := by
  intro N
  induction N with
  | zero => intros; exact pM_zero
  | succ N IH =>
    intro hN v3 M h
    replace hN := Nat.le_of_succ_le hN
    replace h : B_E_days_28 p1 u2 Q E N (W_E_days_28 p1 u2 Q E N) v3 M := h
    refine pM_s (pMs_iln rfl rfl ?_)
    refine pM_iln rfl rfl ?_
    refine pM_cge rfl rfl (fun h5 => ?_) (fun h5 => ?_)
    · replace h := h.2 h5
      refine pM_aln rfl rfl rfl ?_
      refine pM_gr rfl rfl rfl rfl ?_
      refine pM_gi rfl rfl rfl rfl ?_
      refine pM_iln rfl rfl ?_
      refine pM_sub rfl ?_
      exact pM_ri rfl (Or.inl ⟨_, rfl, h⟩)
    · replace h := h.1 h5
      refine pM_aln rfl rfl rfl ?_
      refine pM_gr rfl rfl rfl rfl ?_
      refine pM_aln rfl rfl rfl ?_
      refine pM_gr rfl rfl rfl rfl ?_
      refine pM_qRu (as := [.inr (.inl (some 18)), .inr (.inl (some 8))]) (T := []) rfl rfl (fun C hC => cl_v hC rfl rfl rfl rfl) rfl (q_World_passDay isW_18 h) (fun M7 h => ?_)
      refine pM_ii rfl rfl rfl ki_1 ?_
      refine pM_go rfl rfl ?_
      refine pM_w (F2 := [(0, .inr (.inl (some 0))), (1, .inl (.inl p1)), (2, .inl (.inl u2)), (3, .inl (.inl (v3 + 1)))]) (fun L hL => lo_cons (lo_lk hL rfl) (lo_cons (lo_lk hL rfl) (lo_cons (lo_lk hL rfl) (lo_cons (lo_lk hL rfl) lo_nil)))) ?_
      exact IH hN (v3 + 1) M7 h
/-- 146: EarCode.days(I)I -/
def W_E_days (p1 : Int32) (N : Nat) (M : MM) (Q : Int32 → MM → Prop) (E : Nat → MM → Prop) : Prop :=
  W_E_needNumber p1 1 50 N M (W_Memory_remember  N M (fun M4 =>
    W_E_days_28 p1 (M4.1 18 16) Q E N 0 M4)) (fun ce => E ce M)
theorem q_E_days {X : Option (List AI)} {N : Nat} {M : MM} {p1 : Int32} {Q : Int32 → MM → Prop} {E : Nat → MM → Prop}  (h : W_E_days p1 N M Q E) : pM X N 146 0 (ea_ar 0 [.inr (.inl (some 0)), .inl (.inl p1)]) [] M (Re (Ri Q) E) := by
  refine pM_w (F2 := [(0, .inr (.inl (some 0))), (1, .inl (.inl p1))]) (fun L hL => lo_cons (lo_lk hL rfl) (lo_cons (lo_lk hL rfl) lo_nil)) ?_
  refine pM_iln rfl rfl ?_
  refine pM_ic rfl ki_1 ?_
  refine pM_bi rfl kb_50 ?_
  refine pM_qPue (as := [.inl (.inl p1), .inl (.inl 1), .inl (.inl 50)]) (T := []) rfl rfl (fun _ _ => rfl) rfl (q_E_needNumber  h) (fun h => ?_) (fun ce h => Or.inr ⟨_, rfl, h⟩)
  refine pM_aln rfl rfl rfl ?_
  refine pM_gr rfl rfl rfl rfl ?_
  refine pM_aln rfl rfl rfl ?_
  refine pM_gr rfl rfl rfl rfl ?_
  refine pM_qRu (as := [.inr (.inl (some 44)), .inr (.inl (some 18))]) (T := []) rfl rfl (fun C hC => cl_v hC rfl rfl rfl rfl) rfl (q_Memory_remember  h) (fun M4 h => ?_)
  refine pM_aln rfl rfl rfl ?_
  refine pM_gr rfl rfl rfl rfl ?_
  refine pM_gi rfl rfl rfl rfl ?_
  refine pM_isn rfl rfl ?_
  refine pM_ic rfl ki_0 ?_
  refine pM_isn rfl rfl ?_
  refine pM_w (F2 := [(0, .inr (.inl (some 0))), (1, .inl (.inl p1)), (2, .inl (.inl (M4.1 18 16))), (3, .inl (.inl 0))]) (fun L hL => lo_cons (lo_lk hL rfl) (lo_cons (lo_lk hL rfl) (lo_cons (lo_lk hL rfl) (lo_cons (lo_lk hL rfl) lo_nil)))) ?_
  refine q_E_days_28   N (Nat.le_refl N) 0 M4 h
/-- 147: EarCode.nobody()I -/
def W_E_nobody  (N : Nat) (M : MM) (Q : Int32 → Prop) : Prop :=
  W_Inquiry_forbiddenToAll  N M (fun r1 =>
    Q r1)
theorem q_E_nobody {X : Option (List AI)} {N : Nat} {M : MM}  {Q : Int32 → Prop}  (h : W_E_nobody  N M Q) : pM X N 147 0 (ea_ar 0 [.inr (.inl (some 0))]) [] M (Pi Q M) := by
  refine pM_w (F2 := [(0, .inr (.inl (some 0)))]) (fun L hL => lo_cons (lo_lk hL rfl) lo_nil) ?_
  refine pM_aln rfl rfl rfl ?_
  refine pM_gr rfl rfl rfl rfl ?_
  refine pM_qPi (as := [.inr (.inl (some 171))]) (T := []) rfl rfl (fun C hC => cl_v hC rfl rfl rfl rfl) rfl (q_Inquiry_forbiddenToAll  h) (fun r1 h => ?_)
  exact pM_ri rfl (⟨_, rfl, rfl, h⟩)
/-- 148: EarCode.relief()I -/
def W_E_relief  (N : Nat) (M : MM) (Q : Int32 → MM → Prop) : Prop :=
  W_Inquiry_fewestToDie  N M (fun r1 M2 =>
    Q r1 M2)
theorem q_E_relief {X : Option (List AI)} {N : Nat} {M : MM}  {Q : Int32 → MM → Prop}  (h : W_E_relief  N M Q) : pM X N 148 0 (ea_ar 0 [.inr (.inl (some 0))]) [] M (Ri Q) := by
  refine pM_w (F2 := [(0, .inr (.inl (some 0)))]) (fun L hL => lo_cons (lo_lk hL rfl) lo_nil) ?_
  refine pM_aln rfl rfl rfl ?_
  refine pM_gr rfl rfl rfl rfl ?_
  refine pM_qRi (as := [.inr (.inl (some 171))]) (T := []) rfl rfl (fun C hC => cl_v hC rfl rfl rfl rfl) rfl (q_Inquiry_fewestToDie  h) (fun r1 M2 h => ?_)
  exact pM_ri rfl (⟨_, rfl, h⟩)
/-- 149: EarCode.read(I)I -/
def W_E_read (p1 : Int32) (N : Nat) (M : MM) (Q : Int32 → MM → Prop) (E : Nat → MM → Prop) : Prop :=
  W_Reading_takeRows  N M (fun r1 M2 =>
    ((r1 = 0 →
      E 0 (wi M2 1 1 0)) ∧
     (¬ r1 = 0 →
      ((p1 < 0 →
        E 4 (wi M2 1 1 0)) ∧
       (¬ p1 < 0 →
        ((2 < p1 →
          E 4 (wi M2 1 1 0)) ∧
         (¬ 2 < p1 →
          W_Reading_findCodes  N (wi M2 1 1 0) (fun M7 =>
            ((p1 = 0 →
              Q (M7.1 166 6) M7) ∧
             (¬ p1 = 0 →
              ((p1 = 1 →
                Q (M7.1 166 7) M7) ∧
               (¬ p1 = 1 →
                Q (M7.1 166 8) M7))))))))))))
theorem q_E_read {X : Option (List AI)} {N : Nat} {M : MM} {p1 : Int32} {Q : Int32 → MM → Prop} {E : Nat → MM → Prop}  (h : W_E_read p1 N M Q E) : pM X N 149 0 (ea_ar 0 [.inr (.inl (some 0)), .inl (.inl p1)]) [] M (Re (Ri Q) E) := by
  refine pM_w (F2 := [(0, .inr (.inl (some 0))), (1, .inl (.inl p1))]) (fun L hL => lo_cons (lo_lk hL rfl) (lo_cons (lo_lk hL rfl) lo_nil)) ?_
  refine pM_aln rfl rfl rfl ?_
  refine pM_gr rfl rfl rfl rfl ?_
  refine pM_aln rfl rfl rfl ?_
  refine pM_gr rfl rfl rfl rfl ?_
  refine pM_qRi (as := [.inr (.inl (some 166)), .inr (.inl (some 1))]) (T := []) rfl rfl (fun C hC => cl_v hC rfl rfl rfl rfl) rfl (q_Reading_takeRows  h) (fun r1 M2 h => ?_)
  refine pM_isn rfl rfl ?_
  refine pM_aln rfl rfl rfl ?_
  refine pM_gr rfl rfl rfl rfl ?_
  refine pM_ic rfl ki_0 ?_
  refine pM_pi rfl rfl rfl rfl ?_
  refine pM_iln rfl rfl ?_
  refine pM_zne rfl rfl (fun h3 => ?_) (fun h3 => ?_)
  · replace h := h.2 h3
    refine pM_iln rfl rfl ?_
    refine pM_zlt rfl rfl (fun h4 => ?_) (fun h4 => ?_)
    · replace h := h.1 h4
      exact pM_tw rfl rfl (fun _ => rfl) (Or.inr ⟨_, rfl, h⟩)
    · replace h := h.2 h4
      refine pM_iln rfl rfl ?_
      refine pM_ic rfl ki_2 ?_
      refine pM_cle rfl rfl (fun h5 => ?_) (fun h5 => ?_)
      · replace h := h.2 h5
        refine pM_aln rfl rfl rfl ?_
        refine pM_gr rfl rfl rfl rfl ?_
        refine pM_qRu (as := [.inr (.inl (some 166))]) (T := []) rfl rfl (fun C hC => cl_v hC rfl rfl rfl rfl) rfl (q_Reading_findCodes  h) (fun M7 h => ?_)
        refine pM_iln rfl rfl ?_
        refine pM_zne rfl rfl (fun h8 => ?_) (fun h8 => ?_)
        · replace h := h.2 h8
          refine pM_iln rfl rfl ?_
          refine pM_ic rfl ki_1 ?_
          refine pM_cne rfl rfl (fun h9 => ?_) (fun h9 => ?_)
          · replace h := h.2 h9
            refine pM_aln rfl rfl rfl ?_
            refine pM_gr rfl rfl rfl rfl ?_
            refine pM_gi rfl rfl rfl rfl ?_
            exact pM_ri rfl (Or.inl ⟨_, rfl, h⟩)
          · replace h := h.1 h9
            refine pM_aln rfl rfl rfl ?_
            refine pM_gr rfl rfl rfl rfl ?_
            refine pM_gi rfl rfl rfl rfl ?_
            refine pM_go rfl rfl ?_
            exact pM_ri rfl (Or.inl ⟨_, rfl, h⟩)
        · replace h := h.1 h8
          refine pM_aln rfl rfl rfl ?_
          refine pM_gr rfl rfl rfl rfl ?_
          refine pM_gi rfl rfl rfl rfl ?_
          refine pM_go rfl rfl ?_
          exact pM_ri rfl (Or.inl ⟨_, rfl, h⟩)
      · replace h := h.1 h5
        exact pM_tw rfl rfl (fun _ => rfl) (Or.inr ⟨_, rfl, h⟩)
  · replace h := h.1 h3
    exact pM_tw rfl rfl (fun _ => rfl) (Or.inr ⟨_, rfl, h⟩)
/-- 150: EarCode.next(I)I -/
def W_E_next (p1 : Int32) (N : Nat) (M : MM) (Q : Int32 → MM → Prop) (E : Nat → MM → Prop) : Prop :=
  W_Reading_takeRows  N M (fun r1 M2 =>
    W_E_needCitizen p1 N (wi M2 1 1 0) (((r1 = 0 →
      E 0 (wi M2 1 1 0)) ∧
     (¬ r1 = 0 →
      W_E_needAlive p1 N (wi M2 1 1 0) (W_Reading_findCodes  N (wi M2 1 1 0) (fun M9 =>
        (((M9.1 166 6) < 2 →
          Q (-1) M9) ∧
         (¬ (M9.1 166 6) < 2 →
          W_Reading_bestSplit p1 N M9 (fun r11 M12 =>
            Q r11 M12))))) (fun ce => E ce (wi M2 1 1 0))))) (fun ce => E ce (wi M2 1 1 0)))
theorem q_E_next {X : Option (List AI)} {N : Nat} {M : MM} {p1 : Int32} {Q : Int32 → MM → Prop} {E : Nat → MM → Prop}  (h : W_E_next p1 N M Q E) : pM X N 150 0 (ea_ar 0 [.inr (.inl (some 0)), .inl (.inl p1)]) [] M (Re (Ri Q) E) := by
  refine pM_w (F2 := [(0, .inr (.inl (some 0))), (1, .inl (.inl p1))]) (fun L hL => lo_cons (lo_lk hL rfl) (lo_cons (lo_lk hL rfl) lo_nil)) ?_
  refine pM_aln rfl rfl rfl ?_
  refine pM_gr rfl rfl rfl rfl ?_
  refine pM_aln rfl rfl rfl ?_
  refine pM_gr rfl rfl rfl rfl ?_
  refine pM_qRi (as := [.inr (.inl (some 166)), .inr (.inl (some 1))]) (T := []) rfl rfl (fun C hC => cl_v hC rfl rfl rfl rfl) rfl (q_Reading_takeRows  h) (fun r1 M2 h => ?_)
  refine pM_isn rfl rfl ?_
  refine pM_aln rfl rfl rfl ?_
  refine pM_gr rfl rfl rfl rfl ?_
  refine pM_ic rfl ki_0 ?_
  refine pM_pi rfl rfl rfl rfl ?_
  refine pM_aln rfl rfl rfl ?_
  refine pM_iln rfl rfl ?_
  refine pM_qPue (as := [.inr (.inl (some 0)), .inl (.inl p1)]) (T := []) rfl rfl (fun C hC => cl_v hC rfl rfl rfl rfl) rfl (q_E_needCitizen  h) (fun h => ?_) (fun ce h => Or.inr ⟨_, rfl, h⟩)
  refine pM_iln rfl rfl ?_
  refine pM_zne rfl rfl (fun h5 => ?_) (fun h5 => ?_)
  · replace h := h.2 h5
    refine pM_aln rfl rfl rfl ?_
    refine pM_iln rfl rfl ?_
    refine pM_qPue (as := [.inr (.inl (some 0)), .inl (.inl p1)]) (T := []) rfl rfl (fun C hC => cl_v hC rfl rfl rfl rfl) rfl (q_E_needAlive  h) (fun h => ?_) (fun ce h => Or.inr ⟨_, rfl, h⟩)
    refine pM_aln rfl rfl rfl ?_
    refine pM_gr rfl rfl rfl rfl ?_
    refine pM_qRu (as := [.inr (.inl (some 166))]) (T := []) rfl rfl (fun C hC => cl_v hC rfl rfl rfl rfl) rfl (q_Reading_findCodes  h) (fun M9 h => ?_)
    refine pM_aln rfl rfl rfl ?_
    refine pM_gr rfl rfl rfl rfl ?_
    refine pM_gi rfl rfl rfl rfl ?_
    refine pM_ic rfl ki_2 ?_
    refine pM_cge rfl rfl (fun h10 => ?_) (fun h10 => ?_)
    · replace h := h.2 h10
      refine pM_aln rfl rfl rfl ?_
      refine pM_gr rfl rfl rfl rfl ?_
      refine pM_iln rfl rfl ?_
      refine pM_qRi (as := [.inr (.inl (some 166)), .inl (.inl p1)]) (T := []) rfl rfl (fun C hC => cl_v hC rfl rfl rfl rfl) rfl (q_Reading_bestSplit  h) (fun r11 M12 h => ?_)
      exact pM_ri rfl (Or.inl ⟨_, rfl, h⟩)
    · replace h := h.1 h10
      refine pM_ic rfl ki_m1 ?_
      refine pM_go rfl rfl ?_
      exact pM_ri rfl (Or.inl ⟨_, rfl, h⟩)
  · replace h := h.1 h5
    exact pM_tw rfl rfl (fun _ => rfl) (Or.inr ⟨_, rfl, h⟩)
/-- 151: EarCode.cover()I -/
def W_E_cover  (N : Nat) (M : MM) (Q : Int32 → Prop) : Prop :=
  W_Inquiry_fewestKnowers  N M (fun r1 =>
    Q r1)
theorem q_E_cover {X : Option (List AI)} {N : Nat} {M : MM}  {Q : Int32 → Prop}  (h : W_E_cover  N M Q) : pM X N 151 0 (ea_ar 0 [.inr (.inl (some 0))]) [] M (Pi Q M) := by
  refine pM_w (F2 := [(0, .inr (.inl (some 0)))]) (fun L hL => lo_cons (lo_lk hL rfl) lo_nil) ?_
  refine pM_aln rfl rfl rfl ?_
  refine pM_gr rfl rfl rfl rfl ?_
  refine pM_qPi (as := [.inr (.inl (some 171))]) (T := []) rfl rfl (fun C hC => cl_v hC rfl rfl rfl rfl) rfl (q_Inquiry_fewestKnowers  h) (fun r1 h => ?_)
  exact pM_ri rfl (⟨_, rfl, rfl, h⟩)
/-- 152: EarCode.dies(I)I -/
def W_E_dies (p1 : Int32) (N : Nat) (M : MM) (Q : Int32 → Prop) (E : Nat → Prop) : Prop :=
  W_E_needCitizen p1 N M (W_E_needAlive p1 N M (W_Inquiry_knownByOnly p1 N M (fun r5 =>
    Q r5)) (fun ce => E ce)) (fun ce => E ce)
theorem q_E_dies {X : Option (List AI)} {N : Nat} {M : MM} {p1 : Int32} {Q : Int32 → Prop} {E : Nat → Prop}  (h : W_E_dies p1 N M Q E) : pM X N 152 0 (ea_ar 0 [.inr (.inl (some 0)), .inl (.inl p1)]) [] M (Pe (Pi Q M) E M) := by
  refine pM_w (F2 := [(0, .inr (.inl (some 0))), (1, .inl (.inl p1))]) (fun L hL => lo_cons (lo_lk hL rfl) (lo_cons (lo_lk hL rfl) lo_nil)) ?_
  refine pM_aln rfl rfl rfl ?_
  refine pM_iln rfl rfl ?_
  refine pM_qPue (as := [.inr (.inl (some 0)), .inl (.inl p1)]) (T := []) rfl rfl (fun C hC => cl_v hC rfl rfl rfl rfl) rfl (q_E_needCitizen  h) (fun h => ?_) (fun ce h => Or.inr ⟨_, rfl, rfl, h⟩)
  refine pM_aln rfl rfl rfl ?_
  refine pM_iln rfl rfl ?_
  refine pM_qPue (as := [.inr (.inl (some 0)), .inl (.inl p1)]) (T := []) rfl rfl (fun C hC => cl_v hC rfl rfl rfl rfl) rfl (q_E_needAlive  h) (fun h => ?_) (fun ce h => Or.inr ⟨_, rfl, rfl, h⟩)
  refine pM_aln rfl rfl rfl ?_
  refine pM_gr rfl rfl rfl rfl ?_
  refine pM_iln rfl rfl ?_
  refine pM_qPi (as := [.inr (.inl (some 171)), .inl (.inl p1)]) (T := []) rfl rfl (fun C hC => cl_v hC rfl rfl rfl rfl) rfl (q_Inquiry_knownByOnly  h) (fun r5 h => ?_)
  exact pM_ri rfl (Or.inl ⟨_, rfl, rfl, h⟩)
/-- 153: EarCode.heirs(I)I -/
def W_E_heirs (p1 : Int32) (N : Nat) (M : MM) (Q : Int32 → Prop) (E : Nat → Prop) : Prop :=
  W_E_needNumber p1 1 10 N M (W_Inquiry_tellingsFor p1 N M (fun r3 =>
    Q r3)) (fun ce => E ce)
theorem q_E_heirs {X : Option (List AI)} {N : Nat} {M : MM} {p1 : Int32} {Q : Int32 → Prop} {E : Nat → Prop}  (h : W_E_heirs p1 N M Q E) : pM X N 153 0 (ea_ar 0 [.inr (.inl (some 0)), .inl (.inl p1)]) [] M (Pe (Pi Q M) E M) := by
  refine pM_w (F2 := [(0, .inr (.inl (some 0))), (1, .inl (.inl p1))]) (fun L hL => lo_cons (lo_lk hL rfl) (lo_cons (lo_lk hL rfl) lo_nil)) ?_
  refine pM_iln rfl rfl ?_
  refine pM_ic rfl ki_1 ?_
  refine pM_bi rfl kb_10 ?_
  refine pM_qPue (as := [.inl (.inl p1), .inl (.inl 1), .inl (.inl 10)]) (T := []) rfl rfl (fun _ _ => rfl) rfl (q_E_needNumber  h) (fun h => ?_) (fun ce h => Or.inr ⟨_, rfl, rfl, h⟩)
  refine pM_aln rfl rfl rfl ?_
  refine pM_gr rfl rfl rfl rfl ?_
  refine pM_iln rfl rfl ?_
  refine pM_qPi (as := [.inr (.inl (some 171)), .inl (.inl p1)]) (T := []) rfl rfl (fun C hC => cl_v hC rfl rfl rfl rfl) rfl (q_Inquiry_tellingsFor  h) (fun r3 h => ?_)
  exact pM_ri rfl (Or.inl ⟨_, rfl, rfl, h⟩)
/-- 154: EarCode.risk(II)I -/
def W_E_risk (p1 : Int32) (p2 : Int32) (N : Nat) (M : MM) (Q : Int32 → MM → Prop) (E : Nat → MM → Prop) : Prop :=
  W_E_needCitizen p1 N M (W_E_needNumber p2 1 60 N M (W_E_needAlive p1 N M (W_Outlook_riskFrom p1 0 p2 N M (fun r7 M8 =>
    Q r7 M8)) (fun ce => E ce M)) (fun ce => E ce M)) (fun ce => E ce M)
theorem q_E_risk {X : Option (List AI)} {N : Nat} {M : MM} {p1 : Int32} {p2 : Int32} {Q : Int32 → MM → Prop} {E : Nat → MM → Prop}  (h : W_E_risk p1 p2 N M Q E) : pM X N 154 0 (ea_ar 0 [.inr (.inl (some 0)), .inl (.inl p1), .inl (.inl p2)]) [] M (Re (Ri Q) E) := by
  refine pM_w (F2 := [(0, .inr (.inl (some 0))), (1, .inl (.inl p1)), (2, .inl (.inl p2))]) (fun L hL => lo_cons (lo_lk hL rfl) (lo_cons (lo_lk hL rfl) (lo_cons (lo_lk hL rfl) lo_nil))) ?_
  refine pM_aln rfl rfl rfl ?_
  refine pM_iln rfl rfl ?_
  refine pM_qPue (as := [.inr (.inl (some 0)), .inl (.inl p1)]) (T := []) rfl rfl (fun C hC => cl_v hC rfl rfl rfl rfl) rfl (q_E_needCitizen  h) (fun h => ?_) (fun ce h => Or.inr ⟨_, rfl, h⟩)
  refine pM_iln rfl rfl ?_
  refine pM_ic rfl ki_1 ?_
  refine pM_bi rfl kb_60 ?_
  refine pM_qPue (as := [.inl (.inl p2), .inl (.inl 1), .inl (.inl 60)]) (T := []) rfl rfl (fun _ _ => rfl) rfl (q_E_needNumber  h) (fun h => ?_) (fun ce h => Or.inr ⟨_, rfl, h⟩)
  refine pM_aln rfl rfl rfl ?_
  refine pM_iln rfl rfl ?_
  refine pM_qPue (as := [.inr (.inl (some 0)), .inl (.inl p1)]) (T := []) rfl rfl (fun C hC => cl_v hC rfl rfl rfl rfl) rfl (q_E_needAlive  h) (fun h => ?_) (fun ce h => Or.inr ⟨_, rfl, h⟩)
  refine pM_aln rfl rfl rfl ?_
  refine pM_gr rfl rfl rfl rfl ?_
  refine pM_iln rfl rfl ?_
  refine pM_ic rfl ki_0 ?_
  refine pM_iln rfl rfl ?_
  refine pM_qRi (as := [.inr (.inl (some 169)), .inl (.inl p1), .inl (.inl 0), .inl (.inl p2)]) (T := []) rfl rfl (fun C hC => cl_v hC rfl rfl rfl rfl) rfl (q_Outlook_riskFrom  h) (fun r7 M8 h => ?_)
  exact pM_ri rfl (Or.inl ⟨_, rfl, h⟩)
/-- 155: EarCode.safe(II)I -/
def W_E_safe (p1 : Int32) (p2 : Int32) (N : Nat) (M : MM) (Q : Int32 → Prop) (E : Nat → Prop) : Prop :=
  W_E_needCitizen p1 N M (W_E_needIndex p2 8 N M (W_E_needAlive p1 N M (W_Inquiry_firstFreePlace p1 p2 N M (fun r7 =>
    Q r7)) (fun ce => E ce)) (fun ce => E ce)) (fun ce => E ce)
theorem q_E_safe {X : Option (List AI)} {N : Nat} {M : MM} {p1 : Int32} {p2 : Int32} {Q : Int32 → Prop} {E : Nat → Prop}  (h : W_E_safe p1 p2 N M Q E) : pM X N 155 0 (ea_ar 0 [.inr (.inl (some 0)), .inl (.inl p1), .inl (.inl p2)]) [] M (Pe (Pi Q M) E M) := by
  refine pM_w (F2 := [(0, .inr (.inl (some 0))), (1, .inl (.inl p1)), (2, .inl (.inl p2))]) (fun L hL => lo_cons (lo_lk hL rfl) (lo_cons (lo_lk hL rfl) (lo_cons (lo_lk hL rfl) lo_nil))) ?_
  refine pM_aln rfl rfl rfl ?_
  refine pM_iln rfl rfl ?_
  refine pM_qPue (as := [.inr (.inl (some 0)), .inl (.inl p1)]) (T := []) rfl rfl (fun C hC => cl_v hC rfl rfl rfl rfl) rfl (q_E_needCitizen  h) (fun h => ?_) (fun ce h => Or.inr ⟨_, rfl, rfl, h⟩)
  refine pM_iln rfl rfl ?_
  refine pM_bi rfl kb_8 ?_
  refine pM_qPue (as := [.inl (.inl p2), .inl (.inl 8)]) (T := []) rfl rfl (fun _ _ => rfl) rfl (q_E_needIndex  h) (fun h => ?_) (fun ce h => Or.inr ⟨_, rfl, rfl, h⟩)
  refine pM_aln rfl rfl rfl ?_
  refine pM_iln rfl rfl ?_
  refine pM_qPue (as := [.inr (.inl (some 0)), .inl (.inl p1)]) (T := []) rfl rfl (fun C hC => cl_v hC rfl rfl rfl rfl) rfl (q_E_needAlive  h) (fun h => ?_) (fun ce h => Or.inr ⟨_, rfl, rfl, h⟩)
  refine pM_aln rfl rfl rfl ?_
  refine pM_gr rfl rfl rfl rfl ?_
  refine pM_iln rfl rfl ?_
  refine pM_iln rfl rfl ?_
  refine pM_qPi (as := [.inr (.inl (some 171)), .inl (.inl p1), .inl (.inl p2)]) (T := []) rfl rfl (fun C hC => cl_v hC rfl rfl rfl rfl) rfl (q_Inquiry_firstFreePlace  h) (fun r7 h => ?_)
  exact pM_ri rfl (Or.inl ⟨_, rfl, rfl, h⟩)
/-- 156: EarCode.better(II)I -/
def W_E_better (p1 : Int32) (p2 : Int32) (N : Nat) (M : MM) (Q : Int32 → MM → Prop) (E : Nat → MM → Prop) : Prop :=
  W_E_needCitizen p1 N M (W_E_needNumber p2 1 60 N M (W_E_needAlive p1 N M (W_Outlook_bestStart p1 p2 N M (fun r7 M8 =>
    Q r7 M8)) (fun ce => E ce M)) (fun ce => E ce M)) (fun ce => E ce M)
theorem q_E_better {X : Option (List AI)} {N : Nat} {M : MM} {p1 : Int32} {p2 : Int32} {Q : Int32 → MM → Prop} {E : Nat → MM → Prop}  (h : W_E_better p1 p2 N M Q E) : pM X N 156 0 (ea_ar 0 [.inr (.inl (some 0)), .inl (.inl p1), .inl (.inl p2)]) [] M (Re (Ri Q) E) := by
  refine pM_w (F2 := [(0, .inr (.inl (some 0))), (1, .inl (.inl p1)), (2, .inl (.inl p2))]) (fun L hL => lo_cons (lo_lk hL rfl) (lo_cons (lo_lk hL rfl) (lo_cons (lo_lk hL rfl) lo_nil))) ?_
  refine pM_aln rfl rfl rfl ?_
  refine pM_iln rfl rfl ?_
  refine pM_qPue (as := [.inr (.inl (some 0)), .inl (.inl p1)]) (T := []) rfl rfl (fun C hC => cl_v hC rfl rfl rfl rfl) rfl (q_E_needCitizen  h) (fun h => ?_) (fun ce h => Or.inr ⟨_, rfl, h⟩)
  refine pM_iln rfl rfl ?_
  refine pM_ic rfl ki_1 ?_
  refine pM_bi rfl kb_60 ?_
  refine pM_qPue (as := [.inl (.inl p2), .inl (.inl 1), .inl (.inl 60)]) (T := []) rfl rfl (fun _ _ => rfl) rfl (q_E_needNumber  h) (fun h => ?_) (fun ce h => Or.inr ⟨_, rfl, h⟩)
  refine pM_aln rfl rfl rfl ?_
  refine pM_iln rfl rfl ?_
  refine pM_qPue (as := [.inr (.inl (some 0)), .inl (.inl p1)]) (T := []) rfl rfl (fun C hC => cl_v hC rfl rfl rfl rfl) rfl (q_E_needAlive  h) (fun h => ?_) (fun ce h => Or.inr ⟨_, rfl, h⟩)
  refine pM_aln rfl rfl rfl ?_
  refine pM_gr rfl rfl rfl rfl ?_
  refine pM_iln rfl rfl ?_
  refine pM_iln rfl rfl ?_
  refine pM_qRi (as := [.inr (.inl (some 169)), .inl (.inl p1), .inl (.inl p2)]) (T := []) rfl rfl (fun C hC => cl_v hC rfl rfl rfl rfl) rfl (q_Outlook_bestStart  h) (fun r7 M8 h => ?_)
  exact pM_ri rfl (Or.inl ⟨_, rfl, h⟩)
/-- 157: EarCode.telling(IZ)I -/
def W_E_telling (p1 : Int32) (p2 : Int32) (N : Nat) (M : MM) (Q : Int32 → MM → Prop) (E : Nat → MM → Prop) : Prop :=
  W_E_needNumber p1 1 60 N M (W_Outlook_findTelling p1 N M (fun M4 =>
    ((p2 = 0 →
      Q (M4.1 169 3) M4) ∧
     (¬ p2 = 0 →
      Q (M4.1 169 4) M4)))) (fun ce => E ce M)
theorem q_E_telling {X : Option (List AI)} {N : Nat} {M : MM} {p1 : Int32} {p2 : Int32} {Q : Int32 → MM → Prop} {E : Nat → MM → Prop}  (h : W_E_telling p1 p2 N M Q E) : pM X N 157 0 (ea_ar 0 [.inr (.inl (some 0)), .inl (.inl p1), .inl (.inl p2)]) [] M (Re (Ri Q) E) := by
  refine pM_w (F2 := [(0, .inr (.inl (some 0))), (1, .inl (.inl p1)), (2, .inl (.inl p2))]) (fun L hL => lo_cons (lo_lk hL rfl) (lo_cons (lo_lk hL rfl) (lo_cons (lo_lk hL rfl) lo_nil))) ?_
  refine pM_iln rfl rfl ?_
  refine pM_ic rfl ki_1 ?_
  refine pM_bi rfl kb_60 ?_
  refine pM_qPue (as := [.inl (.inl p1), .inl (.inl 1), .inl (.inl 60)]) (T := []) rfl rfl (fun _ _ => rfl) rfl (q_E_needNumber  h) (fun h => ?_) (fun ce h => Or.inr ⟨_, rfl, h⟩)
  refine pM_aln rfl rfl rfl ?_
  refine pM_gr rfl rfl rfl rfl ?_
  refine pM_iln rfl rfl ?_
  refine pM_qRu (as := [.inr (.inl (some 169)), .inl (.inl p1)]) (T := []) rfl rfl (fun C hC => cl_v hC rfl rfl rfl rfl) rfl (q_Outlook_findTelling  h) (fun M4 h => ?_)
  refine pM_iln rfl rfl ?_
  refine pM_zeq rfl rfl (fun h5 => ?_) (fun h5 => ?_)
  · replace h := h.1 h5
    refine pM_aln rfl rfl rfl ?_
    refine pM_gr rfl rfl rfl rfl ?_
    refine pM_gi rfl rfl rfl rfl ?_
    exact pM_ri rfl (Or.inl ⟨_, rfl, h⟩)
  · replace h := h.2 h5
    refine pM_aln rfl rfl rfl ?_
    refine pM_gr rfl rfl rfl rfl ?_
    refine pM_gi rfl rfl rfl rfl ?_
    refine pM_go rfl rfl ?_
    exact pM_ri rfl (Or.inl ⟨_, rfl, h⟩)
/-- 158: EarCode.deduced(I)I -/
def W_E_deduced (p1 : Int32) (N : Nat) (M : MM) (Q : Int32 → Prop) (E : Nat → Prop) : Prop :=
  W_E_needCitizen p1 N M (W_E_needAlive p1 N M (W_Inquiry_deducedBy p1 N M (fun r5 =>
    Q r5)) (fun ce => E ce)) (fun ce => E ce)
theorem q_E_deduced {X : Option (List AI)} {N : Nat} {M : MM} {p1 : Int32} {Q : Int32 → Prop} {E : Nat → Prop}  (h : W_E_deduced p1 N M Q E) : pM X N 158 0 (ea_ar 0 [.inr (.inl (some 0)), .inl (.inl p1)]) [] M (Pe (Pi Q M) E M) := by
  refine pM_w (F2 := [(0, .inr (.inl (some 0))), (1, .inl (.inl p1))]) (fun L hL => lo_cons (lo_lk hL rfl) (lo_cons (lo_lk hL rfl) lo_nil)) ?_
  refine pM_aln rfl rfl rfl ?_
  refine pM_iln rfl rfl ?_
  refine pM_qPue (as := [.inr (.inl (some 0)), .inl (.inl p1)]) (T := []) rfl rfl (fun C hC => cl_v hC rfl rfl rfl rfl) rfl (q_E_needCitizen  h) (fun h => ?_) (fun ce h => Or.inr ⟨_, rfl, rfl, h⟩)
  refine pM_aln rfl rfl rfl ?_
  refine pM_iln rfl rfl ?_
  refine pM_qPue (as := [.inr (.inl (some 0)), .inl (.inl p1)]) (T := []) rfl rfl (fun C hC => cl_v hC rfl rfl rfl rfl) rfl (q_E_needAlive  h) (fun h => ?_) (fun ce h => Or.inr ⟨_, rfl, rfl, h⟩)
  refine pM_aln rfl rfl rfl ?_
  refine pM_gr rfl rfl rfl rfl ?_
  refine pM_iln rfl rfl ?_
  refine pM_qPi (as := [.inr (.inl (some 171)), .inl (.inl p1)]) (T := []) rfl rfl (fun C hC => cl_v hC rfl rfl rfl rfl) rfl (q_Inquiry_deducedBy  h) (fun r5 h => ?_)
  exact pM_ri rfl (Or.inl ⟨_, rfl, rfl, h⟩)
/-- 159: EarCode.hush(I)I -/
def W_E_hush (p1 : Int32) (N : Nat) (M : MM) (Q : Int32 → Prop) (E : Nat → Prop) : Prop :=
  W_E_needIndex p1 8 N M (W_Inquiry_hushedPlaces p1 N M (fun r3 =>
    Q r3)) (fun ce => E ce)
theorem q_E_hush {X : Option (List AI)} {N : Nat} {M : MM} {p1 : Int32} {Q : Int32 → Prop} {E : Nat → Prop}  (h : W_E_hush p1 N M Q E) : pM X N 159 0 (ea_ar 0 [.inr (.inl (some 0)), .inl (.inl p1)]) [] M (Pe (Pi Q M) E M) := by
  refine pM_w (F2 := [(0, .inr (.inl (some 0))), (1, .inl (.inl p1))]) (fun L hL => lo_cons (lo_lk hL rfl) (lo_cons (lo_lk hL rfl) lo_nil)) ?_
  refine pM_iln rfl rfl ?_
  refine pM_bi rfl kb_8 ?_
  refine pM_qPue (as := [.inl (.inl p1), .inl (.inl 8)]) (T := []) rfl rfl (fun _ _ => rfl) rfl (q_E_needIndex  h) (fun h => ?_) (fun ce h => Or.inr ⟨_, rfl, rfl, h⟩)
  refine pM_aln rfl rfl rfl ?_
  refine pM_gr rfl rfl rfl rfl ?_
  refine pM_iln rfl rfl ?_
  refine pM_qPi (as := [.inr (.inl (some 171)), .inl (.inl p1)]) (T := []) rfl rfl (fun C hC => cl_v hC rfl rfl rfl rfl) rfl (q_Inquiry_hushedPlaces  h) (fun r3 h => ?_)
  exact pM_ri rfl (Or.inl ⟨_, rfl, rfl, h⟩)
/-- 160: EarCode.usual(I)I -/
def W_E_usual (p1 : Int32) (N : Nat) (M : MM) (Q : Int32 → Prop) (E : Nat → Prop) : Prop :=
  W_E_needIndex p1 8 N M (W_Inquiry_usualDeed p1 N M (fun r3 =>
    Q r3)) (fun ce => E ce)
theorem q_E_usual {X : Option (List AI)} {N : Nat} {M : MM} {p1 : Int32} {Q : Int32 → Prop} {E : Nat → Prop}  (h : W_E_usual p1 N M Q E) : pM X N 160 0 (ea_ar 0 [.inr (.inl (some 0)), .inl (.inl p1)]) [] M (Pe (Pi Q M) E M) := by
  refine pM_w (F2 := [(0, .inr (.inl (some 0))), (1, .inl (.inl p1))]) (fun L hL => lo_cons (lo_lk hL rfl) (lo_cons (lo_lk hL rfl) lo_nil)) ?_
  refine pM_iln rfl rfl ?_
  refine pM_bi rfl kb_8 ?_
  refine pM_qPue (as := [.inl (.inl p1), .inl (.inl 8)]) (T := []) rfl rfl (fun _ _ => rfl) rfl (q_E_needIndex  h) (fun h => ?_) (fun ce h => Or.inr ⟨_, rfl, rfl, h⟩)
  refine pM_aln rfl rfl rfl ?_
  refine pM_gr rfl rfl rfl rfl ?_
  refine pM_iln rfl rfl ?_
  refine pM_qPi (as := [.inr (.inl (some 171)), .inl (.inl p1)]) (T := []) rfl rfl (fun C hC => cl_v hC rfl rfl rfl rfl) rfl (q_Inquiry_usualDeed  h) (fun r3 h => ?_)
  exact pM_ri rfl (Or.inl ⟨_, rfl, rfl, h⟩)
/-- 161: EarCode.feared(Z)J -/
def W_E_feared (p1 : Int32) (N : Nat) (M : MM) (Q : Int64 → Prop) : Prop :=
  (((M.1 18 1) = 0 →
    Q (Int64.ofNat 0)) ∧
   (¬ (M.1 18 1) = 0 →
    ((p1 = 0 →
      W_World_seenByAny 18 N M (fun r3 =>
        Q (r3 ^^^ (Int64.ofNat 18446744073709551615)))) ∧
     (¬ p1 = 0 →
      W_World_seenByAll 18 N M (fun r5 =>
        Q r5)))))
theorem q_E_feared {X : Option (List AI)} {N : Nat} {M : MM} {p1 : Int32} {Q : Int64 → Prop}  (h : W_E_feared p1 N M Q) : pM X N 161 0 (ea_ar 0 [.inr (.inl (some 0)), .inl (.inl p1)]) [] M (Pl Q M) := by
  refine pM_w (F2 := [(0, .inr (.inl (some 0))), (1, .inl (.inl p1))]) (fun L hL => lo_cons (lo_lk hL rfl) (lo_cons (lo_lk hL rfl) lo_nil)) ?_
  refine pM_aln rfl rfl rfl ?_
  refine pM_gr rfl rfl rfl rfl ?_
  refine pM_gi rfl rfl rfl rfl ?_
  refine pM_zne rfl rfl (fun h1 => ?_) (fun h1 => ?_)
  · replace h := h.2 h1
    refine pM_iln rfl rfl ?_
    refine pM_zeq rfl rfl (fun h2 => ?_) (fun h2 => ?_)
    · replace h := h.1 h2
      refine pM_aln rfl rfl rfl ?_
      refine pM_gr rfl rfl rfl rfl ?_
      refine pM_qPl (as := [.inr (.inl (some 18))]) (T := []) rfl rfl (fun C hC => cl_v hC rfl rfl rfl rfl) rfl (q_World_seenByAny isW_18 h) (fun r3 h => ?_)
      refine pM_ldl rfl rfl ?_
      refine pM_p (pc' := 39) (S' := [.inr (.inr (.inl (some (r3 ^^^ (Int64.ofNat 18446744073709551615)))))]) rfl rfl (fun _ => rfl) ?_
      exact pM_rl rfl (⟨_, rfl, rfl, h⟩)
    · replace h := h.2 h2
      refine pM_aln rfl rfl rfl ?_
      refine pM_gr rfl rfl rfl rfl ?_
      refine pM_qPl (as := [.inr (.inl (some 18))]) (T := []) rfl rfl (fun C hC => cl_v hC rfl rfl rfl rfl) rfl (q_World_seenByAll isW_18 h) (fun r5 h => ?_)
      refine pM_go rfl rfl ?_
      exact pM_rl rfl (⟨_, rfl, rfl, h⟩)
  · replace h := h.1 h1
    refine pM_lc rfl ?_
    refine pM_go rfl rfl ?_
    exact pM_rl rfl (⟨_, rfl, rfl, h⟩)
def B_E_custom_22 (p1 : Int32) (Q : Int32 → MM → Prop) (E : Nat → MM → Prop) (N : Nat) (ih : Int32 → Int32 → MM → Prop) (v2 : Int32) (v3 : Int32) (M : MM) : Prop :=
  ((v3 < p1 →
    ((v2 = 0 →
      W_World_seenInSum 30 N M (fun r7 =>
        Q r7 M)) ∧
     (¬ v2 = 0 →
      W_World_spreadFear 30 N M (fun r9 M10 =>
        ih r9 (v3 + 1) M10)))) ∧
   (¬ v3 < p1 →
    W_World_seenInSum 30 N M (fun r11 =>
      Q r11 M)))
def W_E_custom_22 (p1 : Int32) (Q : Int32 → MM → Prop) (E : Nat → MM → Prop) : Nat → Int32 → Int32 → MM → Prop
  | 0, _, _, _ => True
  | N + 1, v2, v3, M => B_E_custom_22 p1 Q E N (W_E_custom_22 p1 Q E N) v2 v3 M
theorem I_E_custom_22 (p1 : Int32) (Q : Int32 → MM → Prop) (E : Nat → MM → Prop) (inv : Int32 → Int32 → MM → Prop) (hs : ∀ (N : Nat) (ih : Int32 → Int32 → MM → Prop) (v2 : Int32) (v3 : Int32) (M : MM), (∀ (v2 : Int32) (v3 : Int32) (M : MM), inv v2 v3 M → ih v2 v3 M) → inv v2 v3 M → B_E_custom_22 p1 Q E N ih v2 v3 M) : ∀ (N : Nat) (v2 : Int32) (v3 : Int32) (M : MM), inv v2 v3 M → W_E_custom_22 p1 Q E N v2 v3 M := by
  intro N
  induction N with
  | zero => intros; trivial
  | succ N IH =>
    intro v2 v3 M h
    exact hs N _ v2 v3 M IH h
theorem q_E_custom_22 {X : Option (List AI)} {N0 : Nat} {p1 : Int32} {Q : Int32 → MM → Prop} {E : Nat → MM → Prop}   : ∀ (N : Nat), N ≤ N0 → ∀ (v2 : Int32) (v3 : Int32) (M : MM), W_E_custom_22 p1 Q E N v2 v3 M → pM X N 162 22 [(0, .inr (.inl (some 0))), (1, .inl (.inl p1)), (2, .inl (.inl v2)), (3, .inl (.inl v3))] [] M (Re (Ri Q) E) := by
  intro N
  induction N with
  | zero => intros; exact pM_zero
  | succ N IH =>
    intro hN v2 v3 M h
    replace hN := Nat.le_of_succ_le hN
    replace h : B_E_custom_22 p1 Q E N (W_E_custom_22 p1 Q E N) v2 v3 M := h
    refine pM_s (pMs_iln rfl rfl ?_)
    refine pM_iln rfl rfl ?_
    refine pM_cge rfl rfl (fun h5 => ?_) (fun h5 => ?_)
    · replace h := h.2 h5
      refine pM_aln rfl rfl rfl ?_
      refine pM_gr rfl rfl rfl rfl ?_
      refine pM_qPi (as := [.inr (.inl (some 30))]) (T := []) rfl rfl (fun C hC => cl_v hC rfl rfl rfl rfl) rfl (q_World_seenInSum isW_30 h) (fun r11 h => ?_)
      exact pM_ri rfl (Or.inl ⟨_, rfl, h⟩)
    · replace h := h.1 h5
      refine pM_iln rfl rfl ?_
      refine pM_zeq rfl rfl (fun h6 => ?_) (fun h6 => ?_)
      · replace h := h.1 h6
        refine pM_aln rfl rfl rfl ?_
        refine pM_gr rfl rfl rfl rfl ?_
        refine pM_qPi (as := [.inr (.inl (some 30))]) (T := []) rfl rfl (fun C hC => cl_v hC rfl rfl rfl rfl) rfl (q_World_seenInSum isW_30 h) (fun r7 h => ?_)
        exact pM_ri rfl (Or.inl ⟨_, rfl, h⟩)
      · replace h := h.2 h6
        refine pM_aln rfl rfl rfl ?_
        refine pM_gr rfl rfl rfl rfl ?_
        refine pM_qRi (as := [.inr (.inl (some 30))]) (T := []) rfl rfl (fun C hC => cl_v hC rfl rfl rfl rfl) rfl (q_World_spreadFear isW_30 h) (fun r9 M10 h => ?_)
        refine pM_isn rfl rfl ?_
        refine pM_ii rfl rfl rfl ki_1 ?_
        refine pM_go rfl rfl ?_
        refine pM_w (F2 := [(0, .inr (.inl (some 0))), (1, .inl (.inl p1)), (2, .inl (.inl r9)), (3, .inl (.inl (v3 + 1)))]) (fun L hL => lo_cons (lo_lk hL rfl) (lo_cons (lo_lk hL rfl) (lo_cons (lo_lk hL rfl) (lo_cons (lo_lk hL rfl) lo_nil)))) ?_
        exact IH hN r9 (v3 + 1) M10 h
/-- 162: EarCode.custom(I)I -/
def W_E_custom (p1 : Int32) (N : Nat) (M : MM) (Q : Int32 → MM → Prop) (E : Nat → MM → Prop) : Prop :=
  W_E_needNumber p1 0 30 N M (W_World_become 30 18 N M (fun M4 =>
    W_E_custom_22 p1 Q E N 1 0 M4)) (fun ce => E ce M)
theorem q_E_custom {X : Option (List AI)} {N : Nat} {M : MM} {p1 : Int32} {Q : Int32 → MM → Prop} {E : Nat → MM → Prop}  (h : W_E_custom p1 N M Q E) : pM X N 162 0 (ea_ar 0 [.inr (.inl (some 0)), .inl (.inl p1)]) [] M (Re (Ri Q) E) := by
  refine pM_w (F2 := [(0, .inr (.inl (some 0))), (1, .inl (.inl p1))]) (fun L hL => lo_cons (lo_lk hL rfl) (lo_cons (lo_lk hL rfl) lo_nil)) ?_
  refine pM_iln rfl rfl ?_
  refine pM_ic rfl ki_0 ?_
  refine pM_bi rfl kb_30 ?_
  refine pM_qPue (as := [.inl (.inl p1), .inl (.inl 0), .inl (.inl 30)]) (T := []) rfl rfl (fun _ _ => rfl) rfl (q_E_needNumber  h) (fun h => ?_) (fun ce h => Or.inr ⟨_, rfl, h⟩)
  refine pM_aln rfl rfl rfl ?_
  refine pM_gr rfl rfl rfl rfl ?_
  refine pM_aln rfl rfl rfl ?_
  refine pM_gr rfl rfl rfl rfl ?_
  refine pM_qRu (as := [.inr (.inl (some 30)), .inr (.inl (some 18))]) (T := []) rfl rfl (fun C hC => cl_v hC rfl rfl rfl rfl) rfl (q_World_become isW_30 isW_18 h) (fun M4 h => ?_)
  refine pM_ic rfl ki_1 ?_
  refine pM_isn rfl rfl ?_
  refine pM_ic rfl ki_0 ?_
  refine pM_isn rfl rfl ?_
  refine pM_w (F2 := [(0, .inr (.inl (some 0))), (1, .inl (.inl p1)), (2, .inl (.inl 1)), (3, .inl (.inl 0))]) (fun L hL => lo_cons (lo_lk hL rfl) (lo_cons (lo_lk hL rfl) (lo_cons (lo_lk hL rfl) (lo_cons (lo_lk hL rfl) lo_nil)))) ?_
  refine q_E_custom_22   N (Nat.le_refl N) 1 0 M4 h
def B_E_settles_13 (Q : Int32 → MM → Prop) (N : Nat) (ih : Int32 → MM → Prop) (v1 : Int32) (M : MM) : Prop :=
  ((30 < v1 →
    Q (-1) M) ∧
   (¬ 30 < v1 →
    W_World_spreadFear 30 N M (fun r4 M5 =>
      ((r4 = 0 →
        Q v1 M5) ∧
       (¬ r4 = 0 →
        ih (v1 + 1) M5)))))
def W_E_settles_13 (Q : Int32 → MM → Prop) : Nat → Int32 → MM → Prop
  | 0, _, _ => True
  | N + 1, v1, M => B_E_settles_13 Q N (W_E_settles_13 Q N) v1 M
theorem I_E_settles_13 (Q : Int32 → MM → Prop) (inv : Int32 → MM → Prop) (hs : ∀ (N : Nat) (ih : Int32 → MM → Prop) (v1 : Int32) (M : MM), (∀ (v1 : Int32) (M : MM), inv v1 M → ih v1 M) → inv v1 M → B_E_settles_13 Q N ih v1 M) : ∀ (N : Nat) (v1 : Int32) (M : MM), inv v1 M → W_E_settles_13 Q N v1 M := by
  intro N
  induction N with
  | zero => intros; trivial
  | succ N IH =>
    intro v1 M h
    exact hs N _ v1 M IH h
theorem q_E_settles_13 {X : Option (List AI)} {N0 : Nat} {Q : Int32 → MM → Prop}   : ∀ (N : Nat), N ≤ N0 → ∀ (v1 : Int32) (M : MM), W_E_settles_13 Q N v1 M → pM X N 163 13 [(0, .inr (.inl (some 0))), (1, .inl (.inl v1))] [] M (Ri Q) := by
  intro N
  induction N with
  | zero => intros; exact pM_zero
  | succ N IH =>
    intro hN v1 M h
    replace hN := Nat.le_of_succ_le hN
    replace h : B_E_settles_13 Q N (W_E_settles_13 Q N) v1 M := h
    refine pM_s (pMs_iln rfl rfl ?_)
    refine pM_bi rfl kb_30 ?_
    refine pM_cgt rfl rfl (fun h3 => ?_) (fun h3 => ?_)
    · replace h := h.1 h3
      refine pM_ic rfl ki_m1 ?_
      exact pM_ri rfl (⟨_, rfl, h⟩)
    · replace h := h.2 h3
      refine pM_aln rfl rfl rfl ?_
      refine pM_gr rfl rfl rfl rfl ?_
      refine pM_qRi (as := [.inr (.inl (some 30))]) (T := []) rfl rfl (fun C hC => cl_v hC rfl rfl rfl rfl) rfl (q_World_spreadFear isW_30 h) (fun r4 M5 h => ?_)
      refine pM_zne rfl rfl (fun h6 => ?_) (fun h6 => ?_)
      · replace h := h.2 h6
        refine pM_ii rfl rfl rfl ki_1 ?_
        refine pM_go rfl rfl ?_
        refine pM_w (F2 := [(0, .inr (.inl (some 0))), (1, .inl (.inl (v1 + 1)))]) (fun L hL => lo_cons (lo_lk hL rfl) (lo_cons (lo_lk hL rfl) lo_nil)) ?_
        exact IH hN (v1 + 1) M5 h
      · replace h := h.1 h6
        refine pM_iln rfl rfl ?_
        exact pM_ri rfl (⟨_, rfl, h⟩)
/-- 163: EarCode.settles()I -/
def W_E_settles  (N : Nat) (M : MM) (Q : Int32 → MM → Prop) : Prop :=
  W_World_become 30 18 N M (fun M2 =>
    W_E_settles_13 Q N 0 M2)
theorem q_E_settles {X : Option (List AI)} {N : Nat} {M : MM}  {Q : Int32 → MM → Prop}  (h : W_E_settles  N M Q) : pM X N 163 0 (ea_ar 0 [.inr (.inl (some 0))]) [] M (Ri Q) := by
  refine pM_w (F2 := [(0, .inr (.inl (some 0)))]) (fun L hL => lo_cons (lo_lk hL rfl) lo_nil) ?_
  refine pM_aln rfl rfl rfl ?_
  refine pM_gr rfl rfl rfl rfl ?_
  refine pM_aln rfl rfl rfl ?_
  refine pM_gr rfl rfl rfl rfl ?_
  refine pM_qRu (as := [.inr (.inl (some 30)), .inr (.inl (some 18))]) (T := []) rfl rfl (fun C hC => cl_v hC rfl rfl rfl rfl) rfl (q_World_become isW_30 isW_18 h) (fun M2 h => ?_)
  refine pM_ic rfl ki_0 ?_
  refine pM_isn rfl rfl ?_
  refine pM_w (F2 := [(0, .inr (.inl (some 0))), (1, .inl (.inl 0))]) (fun L hL => lo_cons (lo_lk hL rfl) (lo_cons (lo_lk hL rfl) lo_nil)) ?_
  refine q_E_settles_13   N (Nat.le_refl N) 0 M2 h
/-- 164: EarCode.provoked(IZ)I -/
def W_E_provoked (p1 : Int32) (p2 : Int32) (N : Nat) (M : MM) (Q : Int32 → Prop) (E : Nat → Prop) : Prop :=
  W_E_needCitizen p1 N M (W_E_needAlive p1 N M (W_Inquiry_mostWorth p1 (-1) N M (fun r5 =>
    ((p2 = 0 →
      W_Inquiry_worthOf p1 r5 N M (fun r8 =>
        Q r8)) ∧
     (¬ p2 = 0 →
      W_Inquiry_mostWorth p1 r5 N M (fun r10 =>
        ((r10 = (-1) →
          Q 0) ∧
         (¬ r10 = (-1) →
          W_Inquiry_worthOf p1 r10 N M (fun r13 =>
            Q r13)))))))) (fun ce => E ce)) (fun ce => E ce)
theorem q_E_provoked {X : Option (List AI)} {N : Nat} {M : MM} {p1 : Int32} {p2 : Int32} {Q : Int32 → Prop} {E : Nat → Prop}  (h : W_E_provoked p1 p2 N M Q E) : pM X N 164 0 (ea_ar 0 [.inr (.inl (some 0)), .inl (.inl p1), .inl (.inl p2)]) [] M (Pe (Pi Q M) E M) := by
  refine pM_w (F2 := [(0, .inr (.inl (some 0))), (1, .inl (.inl p1)), (2, .inl (.inl p2))]) (fun L hL => lo_cons (lo_lk hL rfl) (lo_cons (lo_lk hL rfl) (lo_cons (lo_lk hL rfl) lo_nil))) ?_
  refine pM_aln rfl rfl rfl ?_
  refine pM_iln rfl rfl ?_
  refine pM_qPue (as := [.inr (.inl (some 0)), .inl (.inl p1)]) (T := []) rfl rfl (fun C hC => cl_v hC rfl rfl rfl rfl) rfl (q_E_needCitizen  h) (fun h => ?_) (fun ce h => Or.inr ⟨_, rfl, rfl, h⟩)
  refine pM_aln rfl rfl rfl ?_
  refine pM_iln rfl rfl ?_
  refine pM_qPue (as := [.inr (.inl (some 0)), .inl (.inl p1)]) (T := []) rfl rfl (fun C hC => cl_v hC rfl rfl rfl rfl) rfl (q_E_needAlive  h) (fun h => ?_) (fun ce h => Or.inr ⟨_, rfl, rfl, h⟩)
  refine pM_aln rfl rfl rfl ?_
  refine pM_gr rfl rfl rfl rfl ?_
  refine pM_iln rfl rfl ?_
  refine pM_ic rfl ki_m1 ?_
  refine pM_qPi (as := [.inr (.inl (some 171)), .inl (.inl p1), .inl (.inl (-1))]) (T := []) rfl rfl (fun C hC => cl_v hC rfl rfl rfl rfl) rfl (q_Inquiry_mostWorth  h) (fun r5 h => ?_)
  refine pM_isn rfl rfl ?_
  refine pM_iln rfl rfl ?_
  refine pM_zne rfl rfl (fun h7 => ?_) (fun h7 => ?_)
  · replace h := h.2 h7
    refine pM_aln rfl rfl rfl ?_
    refine pM_gr rfl rfl rfl rfl ?_
    refine pM_iln rfl rfl ?_
    refine pM_iln rfl rfl ?_
    refine pM_qPi (as := [.inr (.inl (some 171)), .inl (.inl p1), .inl (.inl r5)]) (T := []) rfl rfl (fun C hC => cl_v hC rfl rfl rfl rfl) rfl (q_Inquiry_mostWorth  h) (fun r10 h => ?_)
    refine pM_is rfl rfl ?_
    refine pM_il rfl rfl ?_
    refine pM_ic rfl ki_m1 ?_
    refine pM_cne rfl rfl (fun h12 => ?_) (fun h12 => ?_)
    · replace h := h.2 h12
      refine pM_aln rfl rfl rfl ?_
      refine pM_gr rfl rfl rfl rfl ?_
      refine pM_iln rfl rfl ?_
      refine pM_il rfl rfl ?_
      refine pM_qPi (as := [.inr (.inl (some 171)), .inl (.inl p1), .inl (.inl r10)]) (T := []) rfl rfl (fun C hC => cl_v hC rfl rfl rfl rfl) rfl (q_Inquiry_worthOf  h) (fun r13 h => ?_)
      exact pM_ri rfl (Or.inl ⟨_, rfl, rfl, h⟩)
    · replace h := h.1 h12
      refine pM_ic rfl ki_0 ?_
      refine pM_go rfl rfl ?_
      exact pM_ri rfl (Or.inl ⟨_, rfl, rfl, h⟩)
  · replace h := h.1 h7
    refine pM_aln rfl rfl rfl ?_
    refine pM_gr rfl rfl rfl rfl ?_
    refine pM_iln rfl rfl ?_
    refine pM_iln rfl rfl ?_
    refine pM_qPi (as := [.inr (.inl (some 171)), .inl (.inl p1), .inl (.inl r5)]) (T := []) rfl rfl (fun C hC => cl_v hC rfl rfl rfl rfl) rfl (q_Inquiry_worthOf  h) (fun r8 h => ?_)
    exact pM_ri rfl (Or.inl ⟨_, rfl, rfl, h⟩)
/-- 165: EarCode.crowd(II)I -/
def W_E_crowd (p1 : Int32) (p2 : Int32) (N : Nat) (M : MM) (Q : Int32 → Prop) (E : Nat → Prop) : Prop :=
  W_E_needIndex p1 8 N M (W_E_needNumber p2 0 60 N M (W_Inquiry_crowdAt p1 p2 N M (fun r5 =>
    Q r5)) (fun ce => E ce)) (fun ce => E ce)
theorem q_E_crowd {X : Option (List AI)} {N : Nat} {M : MM} {p1 : Int32} {p2 : Int32} {Q : Int32 → Prop} {E : Nat → Prop}  (h : W_E_crowd p1 p2 N M Q E) : pM X N 165 0 (ea_ar 0 [.inr (.inl (some 0)), .inl (.inl p1), .inl (.inl p2)]) [] M (Pe (Pi Q M) E M) := by
  refine pM_w (F2 := [(0, .inr (.inl (some 0))), (1, .inl (.inl p1)), (2, .inl (.inl p2))]) (fun L hL => lo_cons (lo_lk hL rfl) (lo_cons (lo_lk hL rfl) (lo_cons (lo_lk hL rfl) lo_nil))) ?_
  refine pM_iln rfl rfl ?_
  refine pM_bi rfl kb_8 ?_
  refine pM_qPue (as := [.inl (.inl p1), .inl (.inl 8)]) (T := []) rfl rfl (fun _ _ => rfl) rfl (q_E_needIndex  h) (fun h => ?_) (fun ce h => Or.inr ⟨_, rfl, rfl, h⟩)
  refine pM_iln rfl rfl ?_
  refine pM_ic rfl ki_0 ?_
  refine pM_bi rfl kb_60 ?_
  refine pM_qPue (as := [.inl (.inl p2), .inl (.inl 0), .inl (.inl 60)]) (T := []) rfl rfl (fun _ _ => rfl) rfl (q_E_needNumber  h) (fun h => ?_) (fun ce h => Or.inr ⟨_, rfl, rfl, h⟩)
  refine pM_aln rfl rfl rfl ?_
  refine pM_gr rfl rfl rfl rfl ?_
  refine pM_iln rfl rfl ?_
  refine pM_iln rfl rfl ?_
  refine pM_qPi (as := [.inr (.inl (some 171)), .inl (.inl p1), .inl (.inl p2)]) (T := []) rfl rfl (fun C hC => cl_v hC rfl rfl rfl rfl) rfl (q_Inquiry_crowdAt  h) (fun r5 h => ?_)
  exact pM_ri rfl (Or.inl ⟨_, rfl, rfl, h⟩)
/-- 166: EarCode.witnesses(III)I -/
def W_E_witnesses (p1 : Int32) (p2 : Int32) (p3 : Int32) (N : Nat) (M : MM) (Q : Int32 → Prop) (E : Nat → Prop) : Prop :=
  W_E_needCitizen p1 N M (W_E_needCitizen p2 N M (W_E_needTwo p1 p2 N M (W_E_needNumber p3 1 60 N M (W_Inquiry_meetings p1 p2 p3 N M (fun r9 =>
    Q r9)) (fun ce => E ce)) (fun ce => E ce)) (fun ce => E ce)) (fun ce => E ce)
theorem q_E_witnesses {X : Option (List AI)} {N : Nat} {M : MM} {p1 : Int32} {p2 : Int32} {p3 : Int32} {Q : Int32 → Prop} {E : Nat → Prop}  (h : W_E_witnesses p1 p2 p3 N M Q E) : pM X N 166 0 (ea_ar 0 [.inr (.inl (some 0)), .inl (.inl p1), .inl (.inl p2), .inl (.inl p3)]) [] M (Pe (Pi Q M) E M) := by
  refine pM_w (F2 := [(0, .inr (.inl (some 0))), (1, .inl (.inl p1)), (2, .inl (.inl p2)), (3, .inl (.inl p3))]) (fun L hL => lo_cons (lo_lk hL rfl) (lo_cons (lo_lk hL rfl) (lo_cons (lo_lk hL rfl) (lo_cons (lo_lk hL rfl) lo_nil)))) ?_
  refine pM_aln rfl rfl rfl ?_
  refine pM_iln rfl rfl ?_
  refine pM_qPue (as := [.inr (.inl (some 0)), .inl (.inl p1)]) (T := []) rfl rfl (fun C hC => cl_v hC rfl rfl rfl rfl) rfl (q_E_needCitizen  h) (fun h => ?_) (fun ce h => Or.inr ⟨_, rfl, rfl, h⟩)
  refine pM_aln rfl rfl rfl ?_
  refine pM_iln rfl rfl ?_
  refine pM_qPue (as := [.inr (.inl (some 0)), .inl (.inl p2)]) (T := []) rfl rfl (fun C hC => cl_v hC rfl rfl rfl rfl) rfl (q_E_needCitizen  h) (fun h => ?_) (fun ce h => Or.inr ⟨_, rfl, rfl, h⟩)
  refine pM_iln rfl rfl ?_
  refine pM_iln rfl rfl ?_
  refine pM_qPue (as := [.inl (.inl p1), .inl (.inl p2)]) (T := []) rfl rfl (fun _ _ => rfl) rfl (q_E_needTwo  h) (fun h => ?_) (fun ce h => Or.inr ⟨_, rfl, rfl, h⟩)
  refine pM_iln rfl rfl ?_
  refine pM_ic rfl ki_1 ?_
  refine pM_bi rfl kb_60 ?_
  refine pM_qPue (as := [.inl (.inl p3), .inl (.inl 1), .inl (.inl 60)]) (T := []) rfl rfl (fun _ _ => rfl) rfl (q_E_needNumber  h) (fun h => ?_) (fun ce h => Or.inr ⟨_, rfl, rfl, h⟩)
  refine pM_aln rfl rfl rfl ?_
  refine pM_gr rfl rfl rfl rfl ?_
  refine pM_iln rfl rfl ?_
  refine pM_iln rfl rfl ?_
  refine pM_iln rfl rfl ?_
  refine pM_qPi (as := [.inr (.inl (some 171)), .inl (.inl p1), .inl (.inl p2), .inl (.inl p3)]) (T := []) rfl rfl (fun C hC => cl_v hC rfl rfl rfl rfl) rfl (q_Inquiry_meetings  h) (fun r9 h => ?_)
  exact pM_ri rfl (Or.inl ⟨_, rfl, rfl, h⟩)
def B_E_tryDays_21 (p1 : Int32) (p2 : Int32) (Q : MM → Prop) (N : Nat) (ih : Int32 → MM → Prop) (v3 : Int32) (M : MM) : Prop :=
  ((v3 < p1 →
    W_World_passDay 30 N M (fun M5 =>
      ih (v3 + 1) M5)) ∧
   (¬ v3 < p1 →
    Q M))
def W_E_tryDays_21 (p1 : Int32) (p2 : Int32) (Q : MM → Prop) : Nat → Int32 → MM → Prop
  | 0, _, _ => True
  | N + 1, v3, M => B_E_tryDays_21 p1 p2 Q N (W_E_tryDays_21 p1 p2 Q N) v3 M
theorem I_E_tryDays_21 (p1 : Int32) (p2 : Int32) (Q : MM → Prop) (inv : Int32 → MM → Prop) (hs : ∀ (N : Nat) (ih : Int32 → MM → Prop) (v3 : Int32) (M : MM), (∀ (v3 : Int32) (M : MM), inv v3 M → ih v3 M) → inv v3 M → B_E_tryDays_21 p1 p2 Q N ih v3 M) : ∀ (N : Nat) (v3 : Int32) (M : MM), inv v3 M → W_E_tryDays_21 p1 p2 Q N v3 M := by
  intro N
  induction N with
  | zero => intros; trivial
  | succ N IH =>
    intro v3 M h
    exact hs N _ v3 M IH h
theorem q_E_tryDays_21 {X : Option (List AI)} {N0 : Nat} {p1 : Int32} {p2 : Int32} {Q : MM → Prop}   : ∀ (N : Nat), N ≤ N0 → ∀ (v3 : Int32) (M : MM), W_E_tryDays_21 p1 p2 Q N v3 M → pM X N 178 21 [(0, .inr (.inl (some 0))), (1, .inl (.inl p1)), (3, .inl (.inl v3))] [] M (Ru Q) := by
  intro N
  induction N with
  | zero => intros; exact pM_zero
  | succ N IH =>
    intro hN v3 M h
    replace hN := Nat.le_of_succ_le hN
    replace h : B_E_tryDays_21 p1 p2 Q N (W_E_tryDays_21 p1 p2 Q N) v3 M := h
    refine pM_s (pMs_iln rfl rfl ?_)
    refine pM_iln rfl rfl ?_
    refine pM_cge rfl rfl (fun h3 => ?_) (fun h3 => ?_)
    · replace h := h.2 h3
      exact pM_ru rfl (⟨rfl, h⟩)
    · replace h := h.1 h3
      refine pM_aln rfl rfl rfl ?_
      refine pM_gr rfl rfl rfl rfl ?_
      refine pM_aln rfl rfl rfl ?_
      refine pM_gr rfl rfl rfl rfl ?_
      refine pM_qRu (as := [.inr (.inl (some 30)), .inr (.inl (some 8))]) (T := []) rfl rfl (fun C hC => cl_v hC rfl rfl rfl rfl) rfl (q_World_passDay isW_30 h) (fun M5 h => ?_)
      refine pM_ii rfl rfl rfl ki_1 ?_
      refine pM_go rfl rfl ?_
      refine pM_w (F2 := [(0, .inr (.inl (some 0))), (1, .inl (.inl p1)), (3, .inl (.inl (v3 + 1)))]) (fun L hL => lo_cons (lo_lk hL rfl) (lo_cons (lo_lk hL rfl) (lo_cons (lo_lk hL rfl) lo_nil))) ?_
      exact IH hN (v3 + 1) M5 h
/-- 178: EarCode.tryDays(II)V -/
def W_E_tryDays (p1 : Int32) (p2 : Int32) (N : Nat) (M : MM) (Q : MM → Prop) : Prop :=
  W_World_become 30 18 N M (fun M2 =>
    W_E_tryDays_21 p1 p2 Q N 0 (wi M2 30 14 p2))
theorem q_E_tryDays {X : Option (List AI)} {N : Nat} {M : MM} {p1 : Int32} {p2 : Int32} {Q : MM → Prop}  (h : W_E_tryDays p1 p2 N M Q) : pM X N 178 0 (ea_ar 0 [.inr (.inl (some 0)), .inl (.inl p1), .inl (.inl p2)]) [] M (Ru Q) := by
  refine pM_w (F2 := [(0, .inr (.inl (some 0))), (1, .inl (.inl p1)), (2, .inl (.inl p2))]) (fun L hL => lo_cons (lo_lk hL rfl) (lo_cons (lo_lk hL rfl) (lo_cons (lo_lk hL rfl) lo_nil))) ?_
  refine pM_aln rfl rfl rfl ?_
  refine pM_gr rfl rfl rfl rfl ?_
  refine pM_aln rfl rfl rfl ?_
  refine pM_gr rfl rfl rfl rfl ?_
  refine pM_qRu (as := [.inr (.inl (some 30)), .inr (.inl (some 18))]) (T := []) rfl rfl (fun C hC => cl_v hC rfl rfl rfl rfl) rfl (q_World_become isW_30 isW_18 h) (fun M2 h => ?_)
  refine pM_aln rfl rfl rfl ?_
  refine pM_gr rfl rfl rfl rfl ?_
  refine pM_iln rfl rfl ?_
  refine pM_pi rfl rfl rfl rfl ?_
  refine pM_ic rfl ki_0 ?_
  refine pM_isn rfl rfl ?_
  refine pM_w (F2 := [(0, .inr (.inl (some 0))), (1, .inl (.inl p1)), (3, .inl (.inl 0))]) (fun L hL => lo_cons (lo_lk hL rfl) (lo_cons (lo_lk hL rfl) (lo_cons (lo_lk hL rfl) lo_nil))) ?_
  refine q_E_tryDays_21   N (Nat.le_refl N) 0 (wi M2 30 14 p2) h
/-- 167: EarCode.trial(II)I -/
def W_E_trial (p1 : Int32) (p2 : Int32) (N : Nat) (M : MM) (Q : Int32 → MM → Prop) (E : Nat → MM → Prop) : Prop :=
  W_E_needNumber p1 0 40 N M (((p2 < 0 →
    E 4 M) ∧
   (¬ p2 < 0 →
    ((3 < p2 →
      E 4 M) ∧
     (¬ 3 < p2 →
      W_E_tryDays p1 (M.1 18 14) N M (fun M6 =>
        ((p2 = 0 →
          Q ((M6.1 30 16) - (M6.1 18 16)) M6) ∧
         (p2 = 1 →
          Q ((M6.1 30 17) - (M6.1 18 17)) M6) ∧
         (p2 = 2 →
          W_World_takenOnes 30 N M6 (fun r10 =>
            Q r10 M6)) ∧
         (¬ p2 = 0 → ¬ p2 = 1 → ¬ p2 = 2 → W_World_seenInSum 30 N M6 (fun r8 =>
          Q r8 M6))))))))) (fun ce => E ce M)
theorem q_E_trial {X : Option (List AI)} {N : Nat} {M : MM} {p1 : Int32} {p2 : Int32} {Q : Int32 → MM → Prop} {E : Nat → MM → Prop}  (h : W_E_trial p1 p2 N M Q E) : pM X N 167 0 (ea_ar 0 [.inr (.inl (some 0)), .inl (.inl p1), .inl (.inl p2)]) [] M (Re (Ri Q) E) := by
  refine pM_w (F2 := [(0, .inr (.inl (some 0))), (1, .inl (.inl p1)), (2, .inl (.inl p2))]) (fun L hL => lo_cons (lo_lk hL rfl) (lo_cons (lo_lk hL rfl) (lo_cons (lo_lk hL rfl) lo_nil))) ?_
  refine pM_iln rfl rfl ?_
  refine pM_ic rfl ki_0 ?_
  refine pM_bi rfl kb_40 ?_
  refine pM_qPue (as := [.inl (.inl p1), .inl (.inl 0), .inl (.inl 40)]) (T := []) rfl rfl (fun _ _ => rfl) rfl (q_E_needNumber  h) (fun h => ?_) (fun ce h => Or.inr ⟨_, rfl, h⟩)
  refine pM_iln rfl rfl ?_
  refine pM_zlt rfl rfl (fun h3 => ?_) (fun h3 => ?_)
  · replace h := h.1 h3
    exact pM_tw rfl rfl (fun _ => rfl) (Or.inr ⟨_, rfl, h⟩)
  · replace h := h.2 h3
    refine pM_iln rfl rfl ?_
    refine pM_ic rfl ki_3 ?_
    refine pM_cle rfl rfl (fun h4 => ?_) (fun h4 => ?_)
    · replace h := h.2 h4
      refine pM_aln rfl rfl rfl ?_
      refine pM_iln rfl rfl ?_
      refine pM_aln rfl rfl rfl ?_
      refine pM_gr rfl rfl rfl rfl ?_
      refine pM_gi rfl rfl rfl rfl ?_
      refine pM_qRu (as := [.inr (.inl (some 0)), .inl (.inl p1), .inl (.inl (M.1 18 14))]) (T := []) rfl rfl (fun C hC => cl_v hC rfl rfl rfl rfl) rfl (q_E_tryDays  h) (fun M6 h => ?_)
      refine pM_iln rfl rfl ?_
      refine pM_sw rfl rfl (fun h7 => ?_) (fun j o t h7 ho hto => ?_)
      · replace h := h.2.2.2 (sw_o h7 (by decide)) (sw_o h7 (by decide)) (sw_o h7 (by decide))
        refine pM_aln rfl rfl rfl ?_
        refine pM_gr rfl rfl rfl rfl ?_
        refine pM_qPi (as := [.inr (.inl (some 30))]) (T := []) rfl rfl (fun C hC => cl_v hC rfl rfl rfl rfl) rfl (q_World_seenInSum isW_30 h) (fun r8 h => ?_)
        exact pM_ri rfl (Or.inl ⟨_, rfl, h⟩)
      · match j, h7, ho with
        | 0, h7, ho =>
          have e := Option.some.inj ho
          subst e
          have e := Option.some.inj hto
          subst e
          replace h := h.1 (sw_e h7 (by decide))
          refine pM_aln rfl rfl rfl ?_
          refine pM_gr rfl rfl rfl rfl ?_
          refine pM_gi rfl rfl rfl rfl ?_
          refine pM_aln rfl rfl rfl ?_
          refine pM_gr rfl rfl rfl rfl ?_
          refine pM_gi rfl rfl rfl rfl ?_
          refine pM_sub rfl ?_
          exact pM_ri rfl (Or.inl ⟨_, rfl, h⟩)
        | 1, h7, ho =>
          have e := Option.some.inj ho
          subst e
          have e := Option.some.inj hto
          subst e
          replace h := h.2.1 (sw_e h7 (by decide))
          refine pM_aln rfl rfl rfl ?_
          refine pM_gr rfl rfl rfl rfl ?_
          refine pM_gi rfl rfl rfl rfl ?_
          refine pM_aln rfl rfl rfl ?_
          refine pM_gr rfl rfl rfl rfl ?_
          refine pM_gi rfl rfl rfl rfl ?_
          refine pM_sub rfl ?_
          exact pM_ri rfl (Or.inl ⟨_, rfl, h⟩)
        | 2, h7, ho =>
          have e := Option.some.inj ho
          subst e
          have e := Option.some.inj hto
          subst e
          replace h := h.2.2.1 (sw_e h7 (by decide))
          refine pM_aln rfl rfl rfl ?_
          refine pM_gr rfl rfl rfl rfl ?_
          refine pM_qPi (as := [.inr (.inl (some 30))]) (T := []) rfl rfl (fun C hC => cl_v hC rfl rfl rfl rfl) rfl (q_World_takenOnes isW_30 h) (fun r10 h => ?_)
          exact pM_ri rfl (Or.inl ⟨_, rfl, h⟩)
        | j + 3, _, ho => exact absurd ho (by simp)
    · replace h := h.1 h4
      exact pM_tw rfl rfl (fun _ => rfl) (Or.inr ⟨_, rfl, h⟩)
def B_E_span_12 (p1 : Int32) (p2 : Int32) (Q : Int32 → MM → Prop) (E : Nat → MM → Prop) (N : Nat) (ih : Int32 → Int32 → MM → Prop) (v3 : Int32) (v4 : Int32) (M : MM) : Prop :=
  ((6 < v4 →
    Q v3 M) ∧
   (¬ 6 < v4 →
    W_E_tryDays p1 v4 N M (fun M5 =>
      ((v3 = (-1) →
        ih ((M5.1 30 16) - (M5.1 18 16)) (v4 + 1) M5) ∧
       (¬ v3 = (-1) →
        ((p2 = 0 →
          ((((M5.1 30 16) - (M5.1 18 16)) < v3 →
            ih ((M5.1 30 16) - (M5.1 18 16)) (v4 + 1) M5) ∧
           (¬ ((M5.1 30 16) - (M5.1 18 16)) < v3 →
            ih v3 (v4 + 1) M5))) ∧
         (¬ p2 = 0 →
          ((v3 < ((M5.1 30 16) - (M5.1 18 16)) →
            ih ((M5.1 30 16) - (M5.1 18 16)) (v4 + 1) M5) ∧
           (¬ v3 < ((M5.1 30 16) - (M5.1 18 16)) →
            ih v3 (v4 + 1) M5)))))))))
def W_E_span_12 (p1 : Int32) (p2 : Int32) (Q : Int32 → MM → Prop) (E : Nat → MM → Prop) : Nat → Int32 → Int32 → MM → Prop
  | 0, _, _, _ => True
  | N + 1, v3, v4, M => B_E_span_12 p1 p2 Q E N (W_E_span_12 p1 p2 Q E N) v3 v4 M
theorem I_E_span_12 (p1 : Int32) (p2 : Int32) (Q : Int32 → MM → Prop) (E : Nat → MM → Prop) (inv : Int32 → Int32 → MM → Prop) (hs : ∀ (N : Nat) (ih : Int32 → Int32 → MM → Prop) (v3 : Int32) (v4 : Int32) (M : MM), (∀ (v3 : Int32) (v4 : Int32) (M : MM), inv v3 v4 M → ih v3 v4 M) → inv v3 v4 M → B_E_span_12 p1 p2 Q E N ih v3 v4 M) : ∀ (N : Nat) (v3 : Int32) (v4 : Int32) (M : MM), inv v3 v4 M → W_E_span_12 p1 p2 Q E N v3 v4 M := by
  intro N
  induction N with
  | zero => intros; trivial
  | succ N IH =>
    intro v3 v4 M h
    exact hs N _ v3 v4 M IH h
theorem q_E_span_12 {X : Option (List AI)} {N0 : Nat} {p1 : Int32} {p2 : Int32} {Q : Int32 → MM → Prop} {E : Nat → MM → Prop}   : ∀ (N : Nat), N ≤ N0 → ∀ (v3 : Int32) (v4 : Int32) (M : MM), W_E_span_12 p1 p2 Q E N v3 v4 M → pM X N 168 12 [(0, .inr (.inl (some 0))), (1, .inl (.inl p1)), (2, .inl (.inl p2)), (3, .inl (.inl v3)), (4, .inl (.inl v4))] [] M (Re (Ri Q) E) := by
  intro N
  induction N with
  | zero => intros; exact pM_zero
  | succ N IH =>
    intro hN v3 v4 M h
    replace hN := Nat.le_of_succ_le hN
    replace h : B_E_span_12 p1 p2 Q E N (W_E_span_12 p1 p2 Q E N) v3 v4 M := h
    refine pM_s (pMs_il rfl rfl ?_)
    refine pM_bi rfl kb_6 ?_
    refine pM_cgt rfl rfl (fun h3 => ?_) (fun h3 => ?_)
    · replace h := h.1 h3
      refine pM_iln rfl rfl ?_
      exact pM_ri rfl (Or.inl ⟨_, rfl, h⟩)
    · replace h := h.2 h3
      refine pM_aln rfl rfl rfl ?_
      refine pM_iln rfl rfl ?_
      refine pM_il rfl rfl ?_
      refine pM_qRu (as := [.inr (.inl (some 0)), .inl (.inl p1), .inl (.inl v4)]) (T := []) rfl rfl (fun C hC => cl_v hC rfl rfl rfl rfl) rfl (q_E_tryDays  h) (fun M5 h => ?_)
      refine pM_aln rfl rfl rfl ?_
      refine pM_gr rfl rfl rfl rfl ?_
      refine pM_gi rfl rfl rfl rfl ?_
      refine pM_aln rfl rfl rfl ?_
      refine pM_gr rfl rfl rfl rfl ?_
      refine pM_gi rfl rfl rfl rfl ?_
      refine pM_sub rfl ?_
      refine pM_is rfl rfl ?_
      refine pM_iln rfl rfl ?_
      refine pM_ic rfl ki_m1 ?_
      refine pM_ceq rfl rfl (fun h6 => ?_) (fun h6 => ?_)
      · replace h := h.1 h6
        refine pM_il rfl rfl ?_
        refine pM_isn rfl rfl ?_
        refine pM_ii rfl rfl rfl ki_1 ?_
        refine pM_go rfl rfl ?_
        refine pM_w (F2 := [(0, .inr (.inl (some 0))), (1, .inl (.inl p1)), (2, .inl (.inl p2)), (3, .inl (.inl ((M5.1 30 16) - (M5.1 18 16)))), (4, .inl (.inl (v4 + 1)))]) (fun L hL => lo_cons (lo_lk hL rfl) (lo_cons (lo_lk hL rfl) (lo_cons (lo_lk hL rfl) (lo_cons (lo_lk hL rfl) (lo_cons (lo_lk hL rfl) lo_nil))))) ?_
        exact IH hN ((M5.1 30 16) - (M5.1 18 16)) (v4 + 1) M5 h
      · replace h := h.2 h6
        refine pM_iln rfl rfl ?_
        refine pM_zeq rfl rfl (fun h7 => ?_) (fun h7 => ?_)
        · replace h := h.1 h7
          refine pM_il rfl rfl ?_
          refine pM_iln rfl rfl ?_
          refine pM_cge rfl rfl (fun h8 => ?_) (fun h8 => ?_)
          · replace h := h.2 h8
            refine pM_ii rfl rfl rfl ki_1 ?_
            refine pM_go rfl rfl ?_
            refine pM_w (F2 := [(0, .inr (.inl (some 0))), (1, .inl (.inl p1)), (2, .inl (.inl p2)), (3, .inl (.inl v3)), (4, .inl (.inl (v4 + 1)))]) (fun L hL => lo_cons (lo_lk hL rfl) (lo_cons (lo_lk hL rfl) (lo_cons (lo_lk hL rfl) (lo_cons (lo_lk hL rfl) (lo_cons (lo_lk hL rfl) lo_nil))))) ?_
            exact IH hN v3 (v4 + 1) M5 h
          · replace h := h.1 h8
            refine pM_il rfl rfl ?_
            refine pM_isn rfl rfl ?_
            refine pM_ii rfl rfl rfl ki_1 ?_
            refine pM_go rfl rfl ?_
            refine pM_w (F2 := [(0, .inr (.inl (some 0))), (1, .inl (.inl p1)), (2, .inl (.inl p2)), (3, .inl (.inl ((M5.1 30 16) - (M5.1 18 16)))), (4, .inl (.inl (v4 + 1)))]) (fun L hL => lo_cons (lo_lk hL rfl) (lo_cons (lo_lk hL rfl) (lo_cons (lo_lk hL rfl) (lo_cons (lo_lk hL rfl) (lo_cons (lo_lk hL rfl) lo_nil))))) ?_
            exact IH hN ((M5.1 30 16) - (M5.1 18 16)) (v4 + 1) M5 h
        · replace h := h.2 h7
          refine pM_il rfl rfl ?_
          refine pM_iln rfl rfl ?_
          refine pM_cle rfl rfl (fun h9 => ?_) (fun h9 => ?_)
          · replace h := h.2 h9
            refine pM_ii rfl rfl rfl ki_1 ?_
            refine pM_go rfl rfl ?_
            refine pM_w (F2 := [(0, .inr (.inl (some 0))), (1, .inl (.inl p1)), (2, .inl (.inl p2)), (3, .inl (.inl v3)), (4, .inl (.inl (v4 + 1)))]) (fun L hL => lo_cons (lo_lk hL rfl) (lo_cons (lo_lk hL rfl) (lo_cons (lo_lk hL rfl) (lo_cons (lo_lk hL rfl) (lo_cons (lo_lk hL rfl) lo_nil))))) ?_
            exact IH hN v3 (v4 + 1) M5 h
          · replace h := h.1 h9
            refine pM_go rfl rfl ?_
            refine pM_il rfl rfl ?_
            refine pM_isn rfl rfl ?_
            refine pM_ii rfl rfl rfl ki_1 ?_
            refine pM_go rfl rfl ?_
            refine pM_w (F2 := [(0, .inr (.inl (some 0))), (1, .inl (.inl p1)), (2, .inl (.inl p2)), (3, .inl (.inl ((M5.1 30 16) - (M5.1 18 16)))), (4, .inl (.inl (v4 + 1)))]) (fun L hL => lo_cons (lo_lk hL rfl) (lo_cons (lo_lk hL rfl) (lo_cons (lo_lk hL rfl) (lo_cons (lo_lk hL rfl) (lo_cons (lo_lk hL rfl) lo_nil))))) ?_
            exact IH hN ((M5.1 30 16) - (M5.1 18 16)) (v4 + 1) M5 h
/-- 168: EarCode.span(IZ)I -/
def W_E_span (p1 : Int32) (p2 : Int32) (N : Nat) (M : MM) (Q : Int32 → MM → Prop) (E : Nat → MM → Prop) : Prop :=
  W_E_needNumber p1 0 40 N M (W_E_span_12 p1 p2 Q E N (-1) 1 M) (fun ce => E ce M)
theorem q_E_span {X : Option (List AI)} {N : Nat} {M : MM} {p1 : Int32} {p2 : Int32} {Q : Int32 → MM → Prop} {E : Nat → MM → Prop}  (h : W_E_span p1 p2 N M Q E) : pM X N 168 0 (ea_ar 0 [.inr (.inl (some 0)), .inl (.inl p1), .inl (.inl p2)]) [] M (Re (Ri Q) E) := by
  refine pM_w (F2 := [(0, .inr (.inl (some 0))), (1, .inl (.inl p1)), (2, .inl (.inl p2))]) (fun L hL => lo_cons (lo_lk hL rfl) (lo_cons (lo_lk hL rfl) (lo_cons (lo_lk hL rfl) lo_nil))) ?_
  refine pM_iln rfl rfl ?_
  refine pM_ic rfl ki_0 ?_
  refine pM_bi rfl kb_40 ?_
  refine pM_qPue (as := [.inl (.inl p1), .inl (.inl 0), .inl (.inl 40)]) (T := []) rfl rfl (fun _ _ => rfl) rfl (q_E_needNumber  h) (fun h => ?_) (fun ce h => Or.inr ⟨_, rfl, h⟩)
  refine pM_ic rfl ki_m1 ?_
  refine pM_isn rfl rfl ?_
  refine pM_ic rfl ki_1 ?_
  refine pM_is rfl rfl ?_
  refine pM_w (F2 := [(0, .inr (.inl (some 0))), (1, .inl (.inl p1)), (2, .inl (.inl p2)), (3, .inl (.inl (-1))), (4, .inl (.inl 1))]) (fun L hL => lo_cons (lo_lk hL rfl) (lo_cons (lo_lk hL rfl) (lo_cons (lo_lk hL rfl) (lo_cons (lo_lk hL rfl) (lo_cons (lo_lk hL rfl) lo_nil))))) ?_
  refine q_E_span_12   N (Nat.le_refl N) (-1) 1 M h
def B_E_first_13 (Q : Int32 → MM → Prop) (N : Nat) (ih : Int32 → MM → Prop) (v1 : Int32) (M : MM) : Prop :=
  ((40 < v1 →
    Q (-1) M) ∧
   (¬ 40 < v1 →
    W_World_passDay 30 N M (fun M5 =>
      (((M5.1 30 16) = (M5.1 18 16) →
        ih (v1 + 1) M5) ∧
       (¬ (M5.1 30 16) = (M5.1 18 16) →
        Q v1 M5)))))
def W_E_first_13 (Q : Int32 → MM → Prop) : Nat → Int32 → MM → Prop
  | 0, _, _ => True
  | N + 1, v1, M => B_E_first_13 Q N (W_E_first_13 Q N) v1 M
theorem I_E_first_13 (Q : Int32 → MM → Prop) (inv : Int32 → MM → Prop) (hs : ∀ (N : Nat) (ih : Int32 → MM → Prop) (v1 : Int32) (M : MM), (∀ (v1 : Int32) (M : MM), inv v1 M → ih v1 M) → inv v1 M → B_E_first_13 Q N ih v1 M) : ∀ (N : Nat) (v1 : Int32) (M : MM), inv v1 M → W_E_first_13 Q N v1 M := by
  intro N
  induction N with
  | zero => intros; trivial
  | succ N IH =>
    intro v1 M h
    exact hs N _ v1 M IH h
theorem q_E_first_13 {X : Option (List AI)} {N0 : Nat} {Q : Int32 → MM → Prop}   : ∀ (N : Nat), N ≤ N0 → ∀ (v1 : Int32) (M : MM), W_E_first_13 Q N v1 M → pM X N 169 13 [(0, .inr (.inl (some 0))), (1, .inl (.inl v1))] [] M (Ri Q) := by
  intro N
  induction N with
  | zero => intros; exact pM_zero
  | succ N IH =>
    intro hN v1 M h
    replace hN := Nat.le_of_succ_le hN
    replace h : B_E_first_13 Q N (W_E_first_13 Q N) v1 M := h
    refine pM_s (pMs_iln rfl rfl ?_)
    refine pM_bi rfl kb_40 ?_
    refine pM_cgt rfl rfl (fun h3 => ?_) (fun h3 => ?_)
    · replace h := h.1 h3
      refine pM_ic rfl ki_m1 ?_
      exact pM_ri rfl (⟨_, rfl, h⟩)
    · replace h := h.2 h3
      refine pM_aln rfl rfl rfl ?_
      refine pM_gr rfl rfl rfl rfl ?_
      refine pM_aln rfl rfl rfl ?_
      refine pM_gr rfl rfl rfl rfl ?_
      refine pM_qRu (as := [.inr (.inl (some 30)), .inr (.inl (some 8))]) (T := []) rfl rfl (fun C hC => cl_v hC rfl rfl rfl rfl) rfl (q_World_passDay isW_30 h) (fun M5 h => ?_)
      refine pM_aln rfl rfl rfl ?_
      refine pM_gr rfl rfl rfl rfl ?_
      refine pM_gi rfl rfl rfl rfl ?_
      refine pM_aln rfl rfl rfl ?_
      refine pM_gr rfl rfl rfl rfl ?_
      refine pM_gi rfl rfl rfl rfl ?_
      refine pM_ceq rfl rfl (fun h6 => ?_) (fun h6 => ?_)
      · replace h := h.1 h6
        refine pM_ii rfl rfl rfl ki_1 ?_
        refine pM_go rfl rfl ?_
        refine pM_w (F2 := [(0, .inr (.inl (some 0))), (1, .inl (.inl (v1 + 1)))]) (fun L hL => lo_cons (lo_lk hL rfl) (lo_cons (lo_lk hL rfl) lo_nil)) ?_
        exact IH hN (v1 + 1) M5 h
      · replace h := h.2 h6
        refine pM_iln rfl rfl ?_
        exact pM_ri rfl (⟨_, rfl, h⟩)
/-- 169: EarCode.first()I -/
def W_E_first  (N : Nat) (M : MM) (Q : Int32 → MM → Prop) : Prop :=
  W_World_become 30 18 N M (fun M2 =>
    W_E_first_13 Q N 1 M2)
theorem q_E_first {X : Option (List AI)} {N : Nat} {M : MM}  {Q : Int32 → MM → Prop}  (h : W_E_first  N M Q) : pM X N 169 0 (ea_ar 0 [.inr (.inl (some 0))]) [] M (Ri Q) := by
  refine pM_w (F2 := [(0, .inr (.inl (some 0)))]) (fun L hL => lo_cons (lo_lk hL rfl) lo_nil) ?_
  refine pM_aln rfl rfl rfl ?_
  refine pM_gr rfl rfl rfl rfl ?_
  refine pM_aln rfl rfl rfl ?_
  refine pM_gr rfl rfl rfl rfl ?_
  refine pM_qRu (as := [.inr (.inl (some 30)), .inr (.inl (some 18))]) (T := []) rfl rfl (fun C hC => cl_v hC rfl rfl rfl rfl) rfl (q_World_become isW_30 isW_18 h) (fun M2 h => ?_)
  refine pM_ic rfl ki_1 ?_
  refine pM_isn rfl rfl ?_
  refine pM_w (F2 := [(0, .inr (.inl (some 0))), (1, .inl (.inl 1))]) (fun L hL => lo_cons (lo_lk hL rfl) (lo_cons (lo_lk hL rfl) lo_nil)) ?_
  refine q_E_first_13   N (Nat.le_refl N) 1 M2 h
/-- 170: EarCode.led(I)I -/
def W_E_led (p1 : Int32) (N : Nat) (M : MM) (Q : Int32 → Prop) (E : Nat → Prop) : Prop :=
  ((p1 = (-1) →
    W_Log_clausesOf 28 p1 N M (fun r2 =>
      Q r2)) ∧
   (¬ p1 = (-1) →
    W_E_needCitizen p1 N M (W_Log_clausesOf 28 p1 N M (fun r6 =>
      Q r6)) (fun ce => E ce)))
theorem q_E_led {X : Option (List AI)} {N : Nat} {M : MM} {p1 : Int32} {Q : Int32 → Prop} {E : Nat → Prop}  (h : W_E_led p1 N M Q E) : pM X N 170 0 (ea_ar 0 [.inr (.inl (some 0)), .inl (.inl p1)]) [] M (Pe (Pi Q M) E M) := by
  refine pM_w (F2 := [(0, .inr (.inl (some 0))), (1, .inl (.inl p1))]) (fun L hL => lo_cons (lo_lk hL rfl) (lo_cons (lo_lk hL rfl) lo_nil)) ?_
  refine pM_iln rfl rfl ?_
  refine pM_ic rfl ki_m1 ?_
  refine pM_ceq rfl rfl (fun h1 => ?_) (fun h1 => ?_)
  · replace h := h.1 h1
    refine pM_aln rfl rfl rfl ?_
    refine pM_gr rfl rfl rfl rfl ?_
    refine pM_gr rfl rfl rfl rfl ?_
    refine pM_iln rfl rfl ?_
    refine pM_qPi (as := [.inr (.inl (some 28)), .inl (.inl p1)]) (T := []) rfl rfl (fun C hC => cl_v hC rfl rfl rfl rfl) rfl (q_Log_clausesOf isG_28 h) (fun r2 h => ?_)
    exact pM_ri rfl (Or.inl ⟨_, rfl, rfl, h⟩)
  · replace h := h.2 h1
    refine pM_aln rfl rfl rfl ?_
    refine pM_iln rfl rfl ?_
    refine pM_qPue (as := [.inr (.inl (some 0)), .inl (.inl p1)]) (T := []) rfl rfl (fun C hC => cl_v hC rfl rfl rfl rfl) rfl (q_E_needCitizen  h) (fun h => ?_) (fun ce h => Or.inr ⟨_, rfl, rfl, h⟩)
    refine pM_aln rfl rfl rfl ?_
    refine pM_gr rfl rfl rfl rfl ?_
    refine pM_gr rfl rfl rfl rfl ?_
    refine pM_iln rfl rfl ?_
    refine pM_qPi (as := [.inr (.inl (some 28)), .inl (.inl p1)]) (T := []) rfl rfl (fun C hC => cl_v hC rfl rfl rfl rfl) rfl (q_Log_clausesOf isG_28 h) (fun r6 h => ?_)
    exact pM_ri rfl (Or.inl ⟨_, rfl, rfl, h⟩)
/-- 171: EarCode.worst()I -/
def W_E_worst  (N : Nat) (M : MM) (Q : Int32 → Prop) : Prop :=
  W_Log_mostFrequentClause 28 N M (fun r1 =>
    Q r1)
theorem q_E_worst {X : Option (List AI)} {N : Nat} {M : MM}  {Q : Int32 → Prop}  (h : W_E_worst  N M Q) : pM X N 171 0 (ea_ar 0 [.inr (.inl (some 0))]) [] M (Pi Q M) := by
  refine pM_w (F2 := [(0, .inr (.inl (some 0)))]) (fun L hL => lo_cons (lo_lk hL rfl) lo_nil) ?_
  refine pM_aln rfl rfl rfl ?_
  refine pM_gr rfl rfl rfl rfl ?_
  refine pM_gr rfl rfl rfl rfl ?_
  refine pM_qPi (as := [.inr (.inl (some 28))]) (T := []) rfl rfl (fun C hC => cl_v hC rfl rfl rfl rfl) rfl (q_Log_mostFrequentClause isG_28 h) (fun r1 h => ?_)
  exact pM_ri rfl (⟨_, rfl, rfl, h⟩)
/-- 172: EarCode.log(II)I -/
def W_E_log (p1 : Int32) (p2 : Int32) (N : Nat) (M : MM) (Q : Int32 → Prop) (E : Nat → Prop) : Prop :=
  ((p2 < 0 →
    E 4) ∧
   (¬ p2 < 0 →
    ((p2 < 4 →
      Q (V_Log_entry 28 p1 p2 M)) ∧
     (¬ p2 < 4 →
      E 4))))
theorem q_E_log {X : Option (List AI)} {N : Nat} {M : MM} {p1 : Int32} {p2 : Int32} {Q : Int32 → Prop} {E : Nat → Prop}  (h : W_E_log p1 p2 N M Q E) : pM X N 172 0 (ea_ar 0 [.inr (.inl (some 0)), .inl (.inl p1), .inl (.inl p2)]) [] M (Pe (Pi Q M) E M) := by
  refine pM_w (F2 := [(0, .inr (.inl (some 0))), (1, .inl (.inl p1)), (2, .inl (.inl p2))]) (fun L hL => lo_cons (lo_lk hL rfl) (lo_cons (lo_lk hL rfl) (lo_cons (lo_lk hL rfl) lo_nil))) ?_
  refine pM_iln rfl rfl ?_
  refine pM_zlt rfl rfl (fun h1 => ?_) (fun h1 => ?_)
  · replace h := h.1 h1
    exact pM_tw rfl rfl (fun _ => rfl) (Or.inr ⟨_, rfl, rfl, h⟩)
  · replace h := h.2 h1
    refine pM_iln rfl rfl ?_
    refine pM_ic rfl ki_4 ?_
    refine pM_clt rfl rfl (fun h2 => ?_) (fun h2 => ?_)
    · replace h := h.1 h2
      refine pM_aln rfl rfl rfl ?_
      refine pM_gr rfl rfl rfl rfl ?_
      refine pM_gr rfl rfl rfl rfl ?_
      refine pM_iln rfl rfl ?_
      refine pM_iln rfl rfl ?_
      refine pM_qVi (as := [.inr (.inl (some 28)), .inl (.inl p1), .inl (.inl p2)]) (T := []) rfl rfl (fun C hC => cl_v hC rfl rfl rfl rfl) rfl (q_Log_entry isG_28) ?_
      exact pM_ri rfl (Or.inl ⟨_, rfl, rfl, h⟩)
    · replace h := h.2 h2
      exact pM_tw rfl rfl (fun _ => rfl) (Or.inr ⟨_, rfl, rfl, h⟩)
/-- 173: EarCode.seed(I)I -/
def W_E_seed (p1 : Int32) (N : Nat) (M : MM) (Q : Int32 → MM → Prop) : Prop :=
  Q (M.1 18 14) (wi M 18 14 p1)
theorem q_E_seed {X : Option (List AI)} {N : Nat} {M : MM} {p1 : Int32} {Q : Int32 → MM → Prop}  (h : W_E_seed p1 N M Q) : pM X N 173 0 (ea_ar 0 [.inr (.inl (some 0)), .inl (.inl p1)]) [] M (Ri Q) := by
  refine pM_w (F2 := [(0, .inr (.inl (some 0))), (1, .inl (.inl p1))]) (fun L hL => lo_cons (lo_lk hL rfl) (lo_cons (lo_lk hL rfl) lo_nil)) ?_
  refine pM_aln rfl rfl rfl ?_
  refine pM_gr rfl rfl rfl rfl ?_
  refine pM_gi rfl rfl rfl rfl ?_
  refine pM_isn rfl rfl ?_
  refine pM_aln rfl rfl rfl ?_
  refine pM_gr rfl rfl rfl rfl ?_
  refine pM_iln rfl rfl ?_
  refine pM_pi rfl rfl rfl rfl ?_
  refine pM_iln rfl rfl ?_
  exact pM_ri rfl (⟨_, rfl, h⟩)
/-- 174: EarCode.undo()Z -/
def W_E_undo  (N : Nat) (M : MM) (Q : Int32 → MM → Prop) : Prop :=
  W_Memory_takeBack  N M (fun r1 M2 =>
    Q r1 M2)
theorem q_E_undo {X : Option (List AI)} {N : Nat} {M : MM}  {Q : Int32 → MM → Prop}  (h : W_E_undo  N M Q) : pM X N 174 0 (ea_ar 0 [.inr (.inl (some 0))]) [] M (Ri Q) := by
  refine pM_w (F2 := [(0, .inr (.inl (some 0)))]) (fun L hL => lo_cons (lo_lk hL rfl) lo_nil) ?_
  refine pM_aln rfl rfl rfl ?_
  refine pM_gr rfl rfl rfl rfl ?_
  refine pM_aln rfl rfl rfl ?_
  refine pM_gr rfl rfl rfl rfl ?_
  refine pM_qRi (as := [.inr (.inl (some 44)), .inr (.inl (some 18))]) (T := []) rfl rfl (fun C hC => cl_v hC rfl rfl rfl rfl) rfl (q_Memory_takeBack  h) (fun r1 M2 h => ?_)
  exact pM_ri rfl (⟨_, rfl, h⟩)
/-- 175: EarCode.image()V -/
def W_E_image  (N : Nat) (M : MM) (Q : MM → Prop) : Prop :=
  W_Law_become 173 8 N M (fun M2 =>
    W_World_become 178 18 N M2 (fun M4 =>
      Q (wi M4 0 14 1)))
theorem q_E_image {X : Option (List AI)} {N : Nat} {M : MM}  {Q : MM → Prop}  (h : W_E_image  N M Q) : pM X N 175 0 (ea_ar 0 [.inr (.inl (some 0))]) [] M (Ru Q) := by
  refine pM_w (F2 := [(0, .inr (.inl (some 0)))]) (fun L hL => lo_cons (lo_lk hL rfl) lo_nil) ?_
  refine pM_aln rfl rfl rfl ?_
  refine pM_gr rfl rfl rfl rfl ?_
  refine pM_aln rfl rfl rfl ?_
  refine pM_gr rfl rfl rfl rfl ?_
  refine pM_qRu (as := [.inr (.inl (some 173)), .inr (.inl (some 8))]) (T := []) rfl rfl (fun C hC => cl_v hC rfl rfl rfl rfl) rfl (q_Law_become isK_173 isK_8 h) (fun M2 h => ?_)
  refine pM_aln rfl rfl rfl ?_
  refine pM_gr rfl rfl rfl rfl ?_
  refine pM_aln rfl rfl rfl ?_
  refine pM_gr rfl rfl rfl rfl ?_
  refine pM_qRu (as := [.inr (.inl (some 178)), .inr (.inl (some 18))]) (T := []) rfl rfl (fun C hC => cl_v hC rfl rfl rfl rfl) rfl (q_World_become isW_178 isW_18 h) (fun M4 h => ?_)
  refine pM_aln rfl rfl rfl ?_
  refine pM_ic rfl ki_1 ?_
  refine pM_pi rfl rfl rfl rfl ?_
  exact pM_ru rfl (⟨rfl, h⟩)
/-- 176: EarCode.back()Z -/
def W_E_back  (N : Nat) (M : MM) (Q : Int32 → MM → Prop) : Prop :=
  (((M.1 0 14) = 0 →
    Q 0 M) ∧
   (¬ (M.1 0 14) = 0 →
    W_Law_become 8 173 N M (fun M3 =>
      W_World_become 18 178 N M3 (fun M5 =>
        W_Memory_forget  N M5 (fun M7 =>
          Q 1 M7)))))
theorem q_E_back {X : Option (List AI)} {N : Nat} {M : MM}  {Q : Int32 → MM → Prop}  (h : W_E_back  N M Q) : pM X N 176 0 (ea_ar 0 [.inr (.inl (some 0))]) [] M (Ri Q) := by
  refine pM_w (F2 := [(0, .inr (.inl (some 0)))]) (fun L hL => lo_cons (lo_lk hL rfl) lo_nil) ?_
  refine pM_aln rfl rfl rfl ?_
  refine pM_gi rfl rfl rfl rfl ?_
  refine pM_zne rfl rfl (fun h1 => ?_) (fun h1 => ?_)
  · replace h := h.2 h1
    refine pM_aln rfl rfl rfl ?_
    refine pM_gr rfl rfl rfl rfl ?_
    refine pM_aln rfl rfl rfl ?_
    refine pM_gr rfl rfl rfl rfl ?_
    refine pM_qRu (as := [.inr (.inl (some 8)), .inr (.inl (some 173))]) (T := []) rfl rfl (fun C hC => cl_v hC rfl rfl rfl rfl) rfl (q_Law_become isK_8 isK_173 h) (fun M3 h => ?_)
    refine pM_aln rfl rfl rfl ?_
    refine pM_gr rfl rfl rfl rfl ?_
    refine pM_aln rfl rfl rfl ?_
    refine pM_gr rfl rfl rfl rfl ?_
    refine pM_qRu (as := [.inr (.inl (some 18)), .inr (.inl (some 178))]) (T := []) rfl rfl (fun C hC => cl_v hC rfl rfl rfl rfl) rfl (q_World_become isW_18 isW_178 h) (fun M5 h => ?_)
    refine pM_aln rfl rfl rfl ?_
    refine pM_gr rfl rfl rfl rfl ?_
    refine pM_qRu (as := [.inr (.inl (some 44))]) (T := []) rfl rfl (fun C hC => cl_v hC rfl rfl rfl rfl) rfl (q_Memory_forget  h) (fun M7 h => ?_)
    refine pM_ic rfl ki_1 ?_
    exact pM_ri rfl (⟨_, rfl, h⟩)
  · replace h := h.1 h1
    refine pM_ic rfl ki_0 ?_
    exact pM_ri rfl (⟨_, rfl, h⟩)
/-- 177: EarCode.count(I)I -/
def W_E_count (p1 : Int32) (N : Nat) (M : MM) (Q : Int32 → Prop) : Prop :=
  ((p1 = 0 →
    (((M.1 8 0) = 0 →
      Q (-1)) ∧
     (¬ (M.1 8 0) = 0 →
      Q (M.1 8 1)))) ∧
   (p1 = 1 →
    Q (M.1 18 0)) ∧
   (p1 = 2 →
    Q (V_Int_bitCount (M.1 18 1) M)) ∧
   (p1 = 3 →
    Q (M.1 18 15)) ∧
   (p1 = 4 →
    Q (M.1 18 13)) ∧
   (p1 = 5 →
    W_World_inForce 18 N M (fun r3 =>
      Q r3)) ∧
   (p1 = 6 →
    W_World_takenOnes 18 N M (fun r5 =>
      Q r5)) ∧
   (p1 = 7 →
    Q (M.1 18 16)) ∧
   (p1 = 8 →
    Q (M.1 18 17)) ∧
   (p1 = 9 →
    Q (M.1 18 18)) ∧
   (p1 = 10 →
    Q (M.1 28 1)) ∧
   (p1 = 11 →
    Q (M.1 18 11)) ∧
   (p1 = 12 →
    Q (M.1 18 12)) ∧
   (p1 = 13 →
    Q (M.1 44 2)) ∧
   (¬ p1 = 0 → ¬ p1 = 1 → ¬ p1 = 2 → ¬ p1 = 3 → ¬ p1 = 4 → ¬ p1 = 5 → ¬ p1 = 6 → ¬ p1 = 7 → ¬ p1 = 8 → ¬ p1 = 9 → ¬ p1 = 10 → ¬ p1 = 11 → ¬ p1 = 12 → ¬ p1 = 13 → Q (-1)))
theorem q_E_count {X : Option (List AI)} {N : Nat} {M : MM} {p1 : Int32} {Q : Int32 → Prop}  (h : W_E_count p1 N M Q) : pM X N 177 0 (ea_ar 0 [.inr (.inl (some 0)), .inl (.inl p1)]) [] M (Pi Q M) := by
  refine pM_w (F2 := [(0, .inr (.inl (some 0))), (1, .inl (.inl p1))]) (fun L hL => lo_cons (lo_lk hL rfl) (lo_cons (lo_lk hL rfl) lo_nil)) ?_
  refine pM_iln rfl rfl ?_
  refine pM_sw rfl rfl (fun h1 => ?_) (fun j o t h1 ho hto => ?_)
  · replace h := h.2.2.2.2.2.2.2.2.2.2.2.2.2.2 (sw_o h1 (by decide)) (sw_o h1 (by decide)) (sw_o h1 (by decide)) (sw_o h1 (by decide)) (sw_o h1 (by decide)) (sw_o h1 (by decide)) (sw_o h1 (by decide)) (sw_o h1 (by decide)) (sw_o h1 (by decide)) (sw_o h1 (by decide)) (sw_o h1 (by decide)) (sw_o h1 (by decide)) (sw_o h1 (by decide)) (sw_o h1 (by decide))
    refine pM_ic rfl ki_m1 ?_
    exact pM_ri rfl (⟨_, rfl, rfl, h⟩)
  · match j, h1, ho with
    | 0, h1, ho =>
      have e := Option.some.inj ho
      subst e
      have e := Option.some.inj hto
      subst e
      replace h := h.1 (sw_e h1 (by decide))
      refine pM_aln rfl rfl rfl ?_
      refine pM_gr rfl rfl rfl rfl ?_
      refine pM_gi rfl rfl rfl rfl ?_
      refine pM_zeq rfl rfl (fun h2 => ?_) (fun h2 => ?_)
      · replace h := h.1 h2
        refine pM_ic rfl ki_m1 ?_
        exact pM_ri rfl (⟨_, rfl, rfl, h⟩)
      · replace h := h.2 h2
        refine pM_aln rfl rfl rfl ?_
        refine pM_gr rfl rfl rfl rfl ?_
        refine pM_gi rfl rfl rfl rfl ?_
        refine pM_go rfl rfl ?_
        exact pM_ri rfl (⟨_, rfl, rfl, h⟩)
    | 1, h1, ho =>
      have e := Option.some.inj ho
      subst e
      have e := Option.some.inj hto
      subst e
      replace h := h.2.1 (sw_e h1 (by decide))
      refine pM_aln rfl rfl rfl ?_
      refine pM_gr rfl rfl rfl rfl ?_
      refine pM_gi rfl rfl rfl rfl ?_
      exact pM_ri rfl (⟨_, rfl, rfl, h⟩)
    | 2, h1, ho =>
      have e := Option.some.inj ho
      subst e
      have e := Option.some.inj hto
      subst e
      replace h := h.2.2.1 (sw_e h1 (by decide))
      refine pM_aln rfl rfl rfl ?_
      refine pM_gr rfl rfl rfl rfl ?_
      refine pM_gi rfl rfl rfl rfl ?_
      refine pM_qVi (as := [.inl (.inl (M.1 18 1))]) (T := []) rfl rfl (fun _ _ => rfl) rfl (q_Int_bitCount ) ?_
      exact pM_ri rfl (⟨_, rfl, rfl, h⟩)
    | 3, h1, ho =>
      have e := Option.some.inj ho
      subst e
      have e := Option.some.inj hto
      subst e
      replace h := h.2.2.2.1 (sw_e h1 (by decide))
      refine pM_aln rfl rfl rfl ?_
      refine pM_gr rfl rfl rfl rfl ?_
      refine pM_gi rfl rfl rfl rfl ?_
      exact pM_ri rfl (⟨_, rfl, rfl, h⟩)
    | 4, h1, ho =>
      have e := Option.some.inj ho
      subst e
      have e := Option.some.inj hto
      subst e
      replace h := h.2.2.2.2.1 (sw_e h1 (by decide))
      refine pM_aln rfl rfl rfl ?_
      refine pM_gr rfl rfl rfl rfl ?_
      refine pM_gi rfl rfl rfl rfl ?_
      exact pM_ri rfl (⟨_, rfl, rfl, h⟩)
    | 5, h1, ho =>
      have e := Option.some.inj ho
      subst e
      have e := Option.some.inj hto
      subst e
      replace h := h.2.2.2.2.2.1 (sw_e h1 (by decide))
      refine pM_aln rfl rfl rfl ?_
      refine pM_gr rfl rfl rfl rfl ?_
      refine pM_qPi (as := [.inr (.inl (some 18))]) (T := []) rfl rfl (fun C hC => cl_v hC rfl rfl rfl rfl) rfl (q_World_inForce isW_18 h) (fun r3 h => ?_)
      exact pM_ri rfl (⟨_, rfl, rfl, h⟩)
    | 6, h1, ho =>
      have e := Option.some.inj ho
      subst e
      have e := Option.some.inj hto
      subst e
      replace h := h.2.2.2.2.2.2.1 (sw_e h1 (by decide))
      refine pM_aln rfl rfl rfl ?_
      refine pM_gr rfl rfl rfl rfl ?_
      refine pM_qPi (as := [.inr (.inl (some 18))]) (T := []) rfl rfl (fun C hC => cl_v hC rfl rfl rfl rfl) rfl (q_World_takenOnes isW_18 h) (fun r5 h => ?_)
      exact pM_ri rfl (⟨_, rfl, rfl, h⟩)
    | 7, h1, ho =>
      have e := Option.some.inj ho
      subst e
      have e := Option.some.inj hto
      subst e
      replace h := h.2.2.2.2.2.2.2.1 (sw_e h1 (by decide))
      refine pM_aln rfl rfl rfl ?_
      refine pM_gr rfl rfl rfl rfl ?_
      refine pM_gi rfl rfl rfl rfl ?_
      exact pM_ri rfl (⟨_, rfl, rfl, h⟩)
    | 8, h1, ho =>
      have e := Option.some.inj ho
      subst e
      have e := Option.some.inj hto
      subst e
      replace h := h.2.2.2.2.2.2.2.2.1 (sw_e h1 (by decide))
      refine pM_aln rfl rfl rfl ?_
      refine pM_gr rfl rfl rfl rfl ?_
      refine pM_gi rfl rfl rfl rfl ?_
      exact pM_ri rfl (⟨_, rfl, rfl, h⟩)
    | 9, h1, ho =>
      have e := Option.some.inj ho
      subst e
      have e := Option.some.inj hto
      subst e
      replace h := h.2.2.2.2.2.2.2.2.2.1 (sw_e h1 (by decide))
      refine pM_aln rfl rfl rfl ?_
      refine pM_gr rfl rfl rfl rfl ?_
      refine pM_gi rfl rfl rfl rfl ?_
      exact pM_ri rfl (⟨_, rfl, rfl, h⟩)
    | 10, h1, ho =>
      have e := Option.some.inj ho
      subst e
      have e := Option.some.inj hto
      subst e
      replace h := h.2.2.2.2.2.2.2.2.2.2.1 (sw_e h1 (by decide))
      refine pM_aln rfl rfl rfl ?_
      refine pM_gr rfl rfl rfl rfl ?_
      refine pM_gr rfl rfl rfl rfl ?_
      refine pM_gi rfl rfl rfl rfl ?_
      exact pM_ri rfl (⟨_, rfl, rfl, h⟩)
    | 11, h1, ho =>
      have e := Option.some.inj ho
      subst e
      have e := Option.some.inj hto
      subst e
      replace h := h.2.2.2.2.2.2.2.2.2.2.2.1 (sw_e h1 (by decide))
      refine pM_aln rfl rfl rfl ?_
      refine pM_gr rfl rfl rfl rfl ?_
      refine pM_gi rfl rfl rfl rfl ?_
      exact pM_ri rfl (⟨_, rfl, rfl, h⟩)
    | 12, h1, ho =>
      have e := Option.some.inj ho
      subst e
      have e := Option.some.inj hto
      subst e
      replace h := h.2.2.2.2.2.2.2.2.2.2.2.2.1 (sw_e h1 (by decide))
      refine pM_aln rfl rfl rfl ?_
      refine pM_gr rfl rfl rfl rfl ?_
      refine pM_gi rfl rfl rfl rfl ?_
      exact pM_ri rfl (⟨_, rfl, rfl, h⟩)
    | 13, h1, ho =>
      have e := Option.some.inj ho
      subst e
      have e := Option.some.inj hto
      subst e
      replace h := h.2.2.2.2.2.2.2.2.2.2.2.2.2.1 (sw_e h1 (by decide))
      refine pM_aln rfl rfl rfl ?_
      refine pM_gr rfl rfl rfl rfl ?_
      refine pM_gi rfl rfl rfl rfl ?_
      exact pM_ri rfl (⟨_, rfl, rfl, h⟩)
    | j + 14, _, ho => exact absurd ho (by simp)
/-- 186: EarCodeModel.throwsIf(ZI)Z -/
def W_m_throwsIf (p1 : Int32) (p2 : Int32) (N : Nat) (M : MM) (Q : Int32 → MM → Prop) : Prop :=
  ((p1 = 0 →
    Q p1 M) ∧
   (¬ p1 = 0 →
    Q p1 (wi M 190 0 p2)))
theorem q_m_throwsIf {X : Option (List AI)} {N : Nat} {M : MM} {p1 : Int32} {p2 : Int32} {Q : Int32 → MM → Prop}  (h : W_m_throwsIf p1 p2 N M Q) : pM X N 186 0 (ea_ar 0 [.inr (.inl (some 190)), .inl (.inl p1), .inl (.inl p2)]) [] M (Ri Q) := by
  refine pM_w (F2 := [(0, .inr (.inl (some 190))), (1, .inl (.inl p1)), (2, .inl (.inl p2))]) (fun L hL => lo_cons (lo_lk hL rfl) (lo_cons (lo_lk hL rfl) (lo_cons (lo_lk hL rfl) lo_nil))) ?_
  refine pM_iln rfl rfl ?_
  refine pM_zeq rfl rfl (fun h1 => ?_) (fun h1 => ?_)
  · replace h := h.1 h1
    refine pM_iln rfl rfl ?_
    exact pM_ri rfl (⟨_, rfl, h⟩)
  · replace h := h.2 h1
    refine pM_aln rfl rfl rfl ?_
    refine pM_iln rfl rfl ?_
    refine pM_pi rfl rfl rfl rfl ?_
    refine pM_iln rfl rfl ?_
    exact pM_ri rfl (⟨_, rfl, h⟩)
/-- 187: EarCodeModel.in(III)Z -/
def V_m_in (p0 : Int32) (p1 : Int32) (p2 : Int32) (M : MM) : Int32 :=
  (if p0 < p1 then
    0
  else
    (if p2 < p0 then
      0
    else
      1))
theorem q_m_in {X : Option (List AI)} {N : Nat} {M : MM} {p0 : Int32} {p1 : Int32} {p2 : Int32}  : pM X N 187 0 (ea_ar 0 [.inl (.inl p0), .inl (.inl p1), .inl (.inl p2)]) [] M (Vi (V_m_in p0 p1 p2 M) M) := by
  refine pM_w (F2 := [(0, .inl (.inl p0)), (1, .inl (.inl p1)), (2, .inl (.inl p2))]) (fun L hL => lo_cons (lo_lk hL rfl) (lo_cons (lo_lk hL rfl) (lo_cons (lo_lk hL rfl) lo_nil))) ?_
  refine pM_iln rfl rfl ?_
  refine pM_iln rfl rfl ?_
  refine pM_clt rfl rfl (fun h1 => ?_) (fun h1 => ?_)
  · refine pM_ic rfl ki_0 ?_
    exact pM_rVi rfl (Eq.trans (if_pos h1) rfl)
  · refine pM_iln rfl rfl ?_
    refine pM_iln rfl rfl ?_
    refine pM_cgt rfl rfl (fun h2 => ?_) (fun h2 => ?_)
    · refine pM_ic rfl ki_0 ?_
      exact pM_rVi rfl (Eq.trans (if_neg h1) (Eq.trans (if_pos h2) rfl))
    · refine pM_ic rfl ki_1 ?_
      refine pM_go rfl rfl ?_
      exact pM_rVi rfl (Eq.trans (if_neg h1) (Eq.trans (if_neg h2) rfl))
/-- 188: EarCodeModel.has(II)Z -/
def V_m_has (p0 : Int32) (p1 : Int32) (M : MM) : Int32 :=
  (if ((sr p0 p1) &&& 1) = 1 then
    1
  else
    0)
theorem q_m_has {X : Option (List AI)} {N : Nat} {M : MM} {p0 : Int32} {p1 : Int32}  : pM X N 188 0 (ea_ar 0 [.inl (.inl p0), .inl (.inl p1)]) [] M (Vi (V_m_has p0 p1 M) M) := by
  refine pM_w (F2 := [(0, .inl (.inl p0)), (1, .inl (.inl p1))]) (fun L hL => lo_cons (lo_lk hL rfl) (lo_cons (lo_lk hL rfl) lo_nil)) ?_
  refine pM_iln rfl rfl ?_
  refine pM_iln rfl rfl ?_
  refine pM_shr rfl ?_
  refine pM_ic rfl ki_1 ?_
  refine pM_and rfl ?_
  refine pM_ic rfl ki_1 ?_
  refine pM_cne rfl rfl (fun h1 => ?_) (fun h1 => ?_)
  · refine pM_ic rfl ki_0 ?_
    exact pM_rVi rfl (Eq.trans (if_neg h1) rfl)
  · refine pM_ic rfl ki_1 ?_
    refine pM_go rfl rfl ?_
    exact pM_rVi rfl (Eq.trans (if_pos h1) rfl)
/-- 189: EarCodeModel.hasMatter(JI)Z -/
def V_m_hasMatter (p0 : Int64) (p2 : Int32) (M : MM) : Int32 :=
  (if (lg_cmp ((lr p0 p2) &&& (Int64.ofNat 1)) (Int64.ofNat 1)) = 0 then
    1
  else
    0)
theorem q_m_hasMatter {X : Option (List AI)} {N : Nat} {M : MM} {p0 : Int64} {p2 : Int32}  : pM X N 189 0 (ea_ar 0 [.inr (.inr (.inl (some p0))), .inl (.inl p2)]) [] M (Vi (V_m_hasMatter p0 p2 M) M) := by
  refine pM_w (F2 := [(0, .inr (.inr (.inl (some p0)))), (2, .inl (.inl p2))]) (fun L hL => lo_cons (lo_lk hL rfl) (lo_cons (lo_lk hL rfl) lo_nil)) ?_
  refine pM_lln rfl rfl ?_
  refine pM_iln rfl rfl ?_
  refine pM_p (pc' := 3) (S' := [.inr (.inr (.inl (some (lr p0 p2))))]) rfl rfl (fun _ => rfl) ?_
  refine pM_lc rfl ?_
  refine pM_p (pc' := 5) (S' := [.inr (.inr (.inl (some ((lr p0 p2) &&& (Int64.ofNat 1)))))]) rfl rfl (fun _ => rfl) ?_
  refine pM_lc rfl ?_
  refine pM_p (pc' := 7) (S' := [.inl (.inl (lg_cmp ((lr p0 p2) &&& (Int64.ofNat 1)) (Int64.ofNat 1)))]) rfl rfl (fun _ => rfl) ?_
  refine pM_zne rfl rfl (fun h1 => ?_) (fun h1 => ?_)
  · refine pM_ic rfl ki_0 ?_
    exact pM_rVi rfl (Eq.trans (if_neg h1) rfl)
  · refine pM_ic rfl ki_1 ?_
    refine pM_go rfl rfl ?_
    exact pM_rVi rfl (Eq.trans (if_pos h1) rfl)
def B_m_likens_3 (a : Nat) (p1 : Int32) (b : Nat) (p3 : Int32) (Q : MM → Prop) (N : Nat) (ih : Int32 → MM → Prop) (v4 : Int32) (M : MM) : Prop :=
  ((v4 < 388 →
    ih (v4 + 1) (wi M b (ni (p3 + v4)) (M.1 a (ni (p1 + v4))))) ∧
   (¬ v4 < 388 →
    Q M))
def W_m_likens_3 (a : Nat) (p1 : Int32) (b : Nat) (p3 : Int32) (Q : MM → Prop) : Nat → Int32 → MM → Prop
  | 0, _, _ => True
  | N + 1, v4, M => B_m_likens_3 a p1 b p3 Q N (W_m_likens_3 a p1 b p3 Q N) v4 M
theorem I_m_likens_3 (a : Nat) (p1 : Int32) (b : Nat) (p3 : Int32) (Q : MM → Prop) (inv : Int32 → MM → Prop) (hs : ∀ (N : Nat) (ih : Int32 → MM → Prop) (v4 : Int32) (M : MM), (∀ (v4 : Int32) (M : MM), inv v4 M → ih v4 M) → inv v4 M → B_m_likens_3 a p1 b p3 Q N ih v4 M) : ∀ (N : Nat) (v4 : Int32) (M : MM), inv v4 M → W_m_likens_3 a p1 b p3 Q N v4 M := by
  intro N
  induction N with
  | zero => intros; trivial
  | succ N IH =>
    intro v4 M h
    exact hs N _ v4 M IH h
theorem q_m_likens_3 {X : Option (List AI)} {N0 : Nat} {a : Nat} {p1 : Int32} {b : Nat} {p3 : Int32} {Q : MM → Prop} {na : Nat} (ha : tb_G a = some (.inr (0, na, 388, tg_row))) {nb : Nat} (hb : tb_G b = some (.inr (0, nb, 388, tg_row)))  : ∀ (N : Nat), N ≤ N0 → ∀ (v4 : Int32) (M : MM), W_m_likens_3 a p1 b p3 Q N v4 M → pM X N 191 3 [(0, .inr (.inl (some a))), (1, .inl (.inl p1)), (2, .inr (.inl (some b))), (3, .inl (.inl p3)), (4, .inl (.inl v4))] [] M (Ru Q) := by
  intro N
  induction N with
  | zero => intros; exact pM_zero
  | succ N IH =>
    intro hN v4 M h
    replace hN := Nat.le_of_succ_le hN
    replace h : B_m_likens_3 a p1 b p3 Q N (W_m_likens_3 a p1 b p3 Q N) v4 M := h
    refine pM_s (pMs_il rfl rfl ?_)
    refine pM_si rfl ks_388 ?_
    refine pM_cge rfl rfl (fun h1 => ?_) (fun h1 => ?_)
    · replace h := h.2 h1
      exact pM_ru rfl (⟨rfl, h⟩)
    · replace h := h.1 h1
      refine pM_aln rfl rfl rfl ?_
      refine pM_iln rfl rfl ?_
      refine pM_il rfl rfl ?_
      refine pM_add rfl ?_
      refine pM_aln rfl rfl rfl ?_
      refine pM_iln rfl rfl ?_
      refine pM_il rfl rfl ?_
      refine pM_add rfl ?_
      refine pM_ai rfl ha row_p ?_
      refine pM_sa rfl hb row_p ?_
      refine pM_ii rfl rfl rfl ki_1 ?_
      refine pM_go rfl rfl ?_
      refine pM_w (F2 := [(0, .inr (.inl (some a))), (1, .inl (.inl p1)), (2, .inr (.inl (some b))), (3, .inl (.inl p3)), (4, .inl (.inl (v4 + 1)))]) (fun L hL => lo_cons (lo_lk hL rfl) (lo_cons (lo_lk hL rfl) (lo_cons (lo_lk hL rfl) (lo_cons (lo_lk hL rfl) (lo_cons (lo_lk hL rfl) lo_nil))))) ?_
      exact IH hN (v4 + 1) (wi M b (ni (p3 + v4)) (M.1 a (ni (p1 + v4)))) h
/-- 191: EarCodeModel.likens([II[II)V -/
def W_m_likens (a : Nat) (p1 : Int32) (b : Nat) (p3 : Int32) (N : Nat) (M : MM) (Q : MM → Prop) : Prop :=
  W_m_likens_3 a p1 b p3 Q N 0 M
theorem q_m_likens {X : Option (List AI)} {N : Nat} {M : MM} {a : Nat} {p1 : Int32} {b : Nat} {p3 : Int32} {Q : MM → Prop} {na : Nat} (ha : tb_G a = some (.inr (0, na, 388, tg_row))) {nb : Nat} (hb : tb_G b = some (.inr (0, nb, 388, tg_row))) (h : W_m_likens a p1 b p3 N M Q) : pM X N 191 0 (ea_ar 0 [.inr (.inl (some a)), .inl (.inl p1), .inr (.inl (some b)), .inl (.inl p3)]) [] M (Ru Q) := by
  refine pM_w (F2 := [(0, .inr (.inl (some a))), (1, .inl (.inl p1)), (2, .inr (.inl (some b))), (3, .inl (.inl p3))]) (fun L hL => lo_cons (lo_lk hL rfl) (lo_cons (lo_lk hL rfl) (lo_cons (lo_lk hL rfl) (lo_cons (lo_lk hL rfl) lo_nil)))) ?_
  refine pM_ic rfl ki_0 ?_
  refine pM_is rfl rfl ?_
  refine pM_w (F2 := [(0, .inr (.inl (some a))), (1, .inl (.inl p1)), (2, .inr (.inl (some b))), (3, .inl (.inl p3)), (4, .inl (.inl 0))]) (fun L hL => lo_cons (lo_lk hL rfl) (lo_cons (lo_lk hL rfl) (lo_cons (lo_lk hL rfl) (lo_cons (lo_lk hL rfl) (lo_cons (lo_lk hL rfl) lo_nil))))) ?_
  refine q_m_likens_3 ha hb  N (Nat.le_refl N) 0 M h
def B_m_likensSeen_3 (a : Nat) (p1 : Int32) (b : Nat) (p3 : Int32) (Q : MM → Prop) (N : Nat) (ih : Int32 → MM → Prop) (v4 : Int32) (M : MM) : Prop :=
  ((v4 < 10 →
    ih (v4 + 1) (wj M b (ni (p3 + v4)) (M.2 a (ni (p1 + v4))))) ∧
   (¬ v4 < 10 →
    Q M))
def W_m_likensSeen_3 (a : Nat) (p1 : Int32) (b : Nat) (p3 : Int32) (Q : MM → Prop) : Nat → Int32 → MM → Prop
  | 0, _, _ => True
  | N + 1, v4, M => B_m_likensSeen_3 a p1 b p3 Q N (W_m_likensSeen_3 a p1 b p3 Q N) v4 M
theorem I_m_likensSeen_3 (a : Nat) (p1 : Int32) (b : Nat) (p3 : Int32) (Q : MM → Prop) (inv : Int32 → MM → Prop) (hs : ∀ (N : Nat) (ih : Int32 → MM → Prop) (v4 : Int32) (M : MM), (∀ (v4 : Int32) (M : MM), inv v4 M → ih v4 M) → inv v4 M → B_m_likensSeen_3 a p1 b p3 Q N ih v4 M) : ∀ (N : Nat) (v4 : Int32) (M : MM), inv v4 M → W_m_likensSeen_3 a p1 b p3 Q N v4 M := by
  intro N
  induction N with
  | zero => intros; trivial
  | succ N IH =>
    intro v4 M h
    exact hs N _ v4 M IH h
theorem q_m_likensSeen_3 {X : Option (List AI)} {N0 : Nat} {a : Nat} {p1 : Int32} {b : Nat} {p3 : Int32} {Q : MM → Prop} {na : Nat} (ha : tb_G a = some (.inr (1, na, 1, []))) {nb : Nat} (hb : tb_G b = some (.inr (1, nb, 1, [])))  : ∀ (N : Nat), N ≤ N0 → ∀ (v4 : Int32) (M : MM), W_m_likensSeen_3 a p1 b p3 Q N v4 M → pM X N 192 3 [(0, .inr (.inl (some a))), (1, .inl (.inl p1)), (2, .inr (.inl (some b))), (3, .inl (.inl p3)), (4, .inl (.inl v4))] [] M (Ru Q) := by
  intro N
  induction N with
  | zero => intros; exact pM_zero
  | succ N IH =>
    intro hN v4 M h
    replace hN := Nat.le_of_succ_le hN
    replace h : B_m_likensSeen_3 a p1 b p3 Q N (W_m_likensSeen_3 a p1 b p3 Q N) v4 M := h
    refine pM_s (pMs_il rfl rfl ?_)
    refine pM_bi rfl kb_10 ?_
    refine pM_cge rfl rfl (fun h1 => ?_) (fun h1 => ?_)
    · replace h := h.2 h1
      exact pM_ru rfl (⟨rfl, h⟩)
    · replace h := h.1 h1
      refine pM_aln rfl rfl rfl ?_
      refine pM_iln rfl rfl ?_
      refine pM_il rfl rfl ?_
      refine pM_add rfl ?_
      refine pM_aln rfl rfl rfl ?_
      refine pM_iln rfl rfl ?_
      refine pM_il rfl rfl ?_
      refine pM_add rfl ?_
      refine pM_la rfl ha ?_
      refine pM_sg rfl hb ?_
      refine pM_ii rfl rfl rfl ki_1 ?_
      refine pM_go rfl rfl ?_
      refine pM_w (F2 := [(0, .inr (.inl (some a))), (1, .inl (.inl p1)), (2, .inr (.inl (some b))), (3, .inl (.inl p3)), (4, .inl (.inl (v4 + 1)))]) (fun L hL => lo_cons (lo_lk hL rfl) (lo_cons (lo_lk hL rfl) (lo_cons (lo_lk hL rfl) (lo_cons (lo_lk hL rfl) (lo_cons (lo_lk hL rfl) lo_nil))))) ?_
      exact IH hN (v4 + 1) (wj M b (ni (p3 + v4)) (M.2 a (ni (p1 + v4)))) h
/-- 192: EarCodeModel.likensSeen([JI[JI)V -/
def W_m_likensSeen (a : Nat) (p1 : Int32) (b : Nat) (p3 : Int32) (N : Nat) (M : MM) (Q : MM → Prop) : Prop :=
  W_m_likensSeen_3 a p1 b p3 Q N 0 M
theorem q_m_likensSeen {X : Option (List AI)} {N : Nat} {M : MM} {a : Nat} {p1 : Int32} {b : Nat} {p3 : Int32} {Q : MM → Prop} {na : Nat} (ha : tb_G a = some (.inr (1, na, 1, []))) {nb : Nat} (hb : tb_G b = some (.inr (1, nb, 1, []))) (h : W_m_likensSeen a p1 b p3 N M Q) : pM X N 192 0 (ea_ar 0 [.inr (.inl (some a)), .inl (.inl p1), .inr (.inl (some b)), .inl (.inl p3)]) [] M (Ru Q) := by
  refine pM_w (F2 := [(0, .inr (.inl (some a))), (1, .inl (.inl p1)), (2, .inr (.inl (some b))), (3, .inl (.inl p3))]) (fun L hL => lo_cons (lo_lk hL rfl) (lo_cons (lo_lk hL rfl) (lo_cons (lo_lk hL rfl) (lo_cons (lo_lk hL rfl) lo_nil)))) ?_
  refine pM_ic rfl ki_0 ?_
  refine pM_is rfl rfl ?_
  refine pM_w (F2 := [(0, .inr (.inl (some a))), (1, .inl (.inl p1)), (2, .inr (.inl (some b))), (3, .inl (.inl p3)), (4, .inl (.inl 0))]) (fun L hL => lo_cons (lo_lk hL rfl) (lo_cons (lo_lk hL rfl) (lo_cons (lo_lk hL rfl) (lo_cons (lo_lk hL rfl) (lo_cons (lo_lk hL rfl) lo_nil))))) ?_
  refine q_m_likensSeen_3 ha hb  N (Nat.le_refl N) 0 M h
