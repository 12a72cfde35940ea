/-! WHAT EACH METHOD COMES TO (gw.py) -/
def B_Text_split_12 (Q : MM → Prop) (N : Nat) (ih : Int32 → MM → Prop) (v2 : Int32) (M : MM) : Prop :=
  ((v2 < (M.1 1 1) →
    (((V_Tape_isLetter v2 M) = 0 →
      (((V_Tape_isDigit v2 M) = 0 →
        (((M.1 2 (ni v2)) = 32 →
          ih (v2 + 1) M) ∧
         (¬ (M.1 2 (ni v2)) = 32 →
          W_Text_put (mx (M.1 2 (ni v2)) 22) v2 (v2 + 1) 0 N M (fun M6 =>
            ih (v2 + 1) M6)))) ∧
       (¬ (V_Tape_isDigit v2 M) = 0 →
        (((V_Tape_isDigit (v2 - 1) M) = 0 →
          W_Text_endOfNumber v2 N M (fun r8 =>
            W_Text_valueOf v2 r8 N M (fun r10 =>
              W_Text_put 20 v2 r8 r10 N M (fun M13 =>
                ih (v2 + 1) M13)))) ∧
         (¬ (V_Tape_isDigit (v2 - 1) M) = 0 →
          ih (v2 + 1) M))))) ∧
     (¬ (V_Tape_isLetter v2 M) = 0 →
      (((V_Tape_isLetter (v2 - 1) M) = 0 →
        W_Text_endOfWord v2 N M (fun r15 =>
          W_Text_wordNumber v2 r15 N M (fun r17 =>
            W_Text_put r17 v2 r15 0 N M (fun M20 =>
              ih (v2 + 1) M20)))) ∧
       (¬ (V_Tape_isLetter (v2 - 1) M) = 0 →
        ih (v2 + 1) M))))) ∧
   (¬ v2 < (M.1 1 1) →
    W_Text_put 21 (M.1 1 1) (M.1 1 1) 0 N M (fun M22 =>
      Q M22)))
def W_Text_split_12 (Q : MM → Prop) : Nat → Int32 → MM → Prop
  | 0, _, _ => True
  | N + 1, v2, M => B_Text_split_12 Q N (W_Text_split_12 Q N) v2 M
theorem I_Text_split_12 (Q : MM → Prop) (inv : Int32 → MM → Prop) (hs : ∀ (N : Nat) (ih : Int32 → MM → Prop) (v2 : Int32) (M : MM), (∀ (v2 : Int32) (M : MM), inv v2 M → ih v2 M) → inv v2 M → B_Text_split_12 Q N ih v2 M) : ∀ (N : Nat) (v2 : Int32) (M : MM), inv v2 M → W_Text_split_12 Q N v2 M := by
  intro N
  induction N with
  | zero => intros; trivial
  | succ N IH =>
    intro v2 M h
    exact hs N _ v2 M IH h
theorem q_Text_split_12 {X : Option (List AI)} {N0 : Nat} {Q : MM → Prop}   : ∀ (N : Nat), N ≤ N0 → ∀ (v2 : Int32) (M : MM), W_Text_split_12 Q N v2 M → pM X N 88 12 [(0, .inr (.inl (some 3))), (1, .inr (.inl (some 1))), (2, .inl (.inl v2))] [] M (Ru Q) := by
  intro N
  induction N with
  | zero => intros; exact pM_zero
  | succ N IH =>
    intro hN v2 M h
    replace hN := Nat.le_of_succ_le hN
    replace h : B_Text_split_12 Q N (W_Text_split_12 Q N) v2 M := h
    refine pM_s (pMs_iln rfl rfl ?_)
    refine pM_aln rfl rfl rfl ?_
    refine pM_gi rfl rfl rfl rfl ?_
    refine pM_cge rfl rfl (fun h1 => ?_) (fun h1 => ?_)
    · replace h := h.2 h1
      refine pM_aln rfl rfl rfl ?_
      refine pM_bi rfl kb_21 ?_
      refine pM_aln rfl rfl rfl ?_
      refine pM_gi rfl rfl rfl rfl ?_
      refine pM_aln rfl rfl rfl ?_
      refine pM_gi rfl rfl rfl rfl ?_
      refine pM_ic rfl ki_0 ?_
      refine pM_qRu (as := [.inr (.inl (some 3)), .inl (.inl 21), .inl (.inl (M.1 1 1)), .inl (.inl (M.1 1 1)), .inl (.inl 0)]) (T := []) rfl rfl (fun C hC => cl_v hC rfl rfl rfl rfl) rfl (q_Text_put  h) (fun M22 h => ?_)
      exact pM_ru rfl (⟨rfl, h⟩)
    · replace h := h.1 h1
      refine pM_aln rfl rfl rfl ?_
      refine pM_iln rfl rfl ?_
      refine pM_qVi (as := [.inr (.inl (some 1)), .inl (.inl v2)]) (T := []) rfl rfl (fun C hC => cl_v hC rfl rfl rfl rfl) rfl (q_Tape_isLetter ) ?_
      refine pM_zeq rfl rfl (fun h2 => ?_) (fun h2 => ?_)
      · replace h := h.1 h2
        refine pM_aln rfl rfl rfl ?_
        refine pM_iln rfl rfl ?_
        refine pM_qVi (as := [.inr (.inl (some 1)), .inl (.inl v2)]) (T := []) rfl rfl (fun C hC => cl_v hC rfl rfl rfl rfl) rfl (q_Tape_isDigit ) ?_
        refine pM_zeq rfl rfl (fun h3 => ?_) (fun h3 => ?_)
        · replace h := h.1 h3
          refine pM_aln rfl rfl rfl ?_
          refine pM_gr rfl rfl rfl rfl ?_
          refine pM_iln rfl rfl ?_
          refine pM_ai rfl rfl (one_p _) ?_
          refine pM_bi rfl kb_32 ?_
          refine pM_ceq rfl rfl (fun h4 => ?_) (fun h4 => ?_)
          · replace h := h.1 h4
            refine pM_ii rfl rfl rfl ki_1 ?_
            refine pM_go rfl rfl ?_
            refine pM_w (F2 := [(0, .inr (.inl (some 3))), (1, .inr (.inl (some 1))), (2, .inl (.inl (v2 + 1)))]) (fun L hL => lo_cons (lo_lk hL rfl) (lo_cons (lo_lk hL rfl) (lo_cons (lo_lk hL rfl) lo_nil))) ?_
            exact IH hN (v2 + 1) M h
          · replace h := h.2 h4
            refine pM_aln rfl rfl rfl ?_
            refine pM_aln rfl rfl rfl ?_
            refine pM_gr rfl rfl rfl rfl ?_
            refine pM_iln rfl rfl ?_
            refine pM_ai rfl rfl (one_p _) ?_
            refine pM_bi rfl kb_22 ?_
            refine pM_mx rfl rfl ?_
            refine pM_iln rfl rfl ?_
            refine pM_iln rfl rfl ?_
            refine pM_ic rfl ki_1 ?_
            refine pM_add rfl ?_
            refine pM_ic rfl ki_0 ?_
            refine pM_qRu (as := [.inr (.inl (some 3)), .inl (.inl (mx (M.1 2 (ni v2)) 22)), .inl (.inl v2), .inl (.inl (v2 + 1)), .inl (.inl 0)]) (T := []) rfl rfl (fun C hC => cl_v hC rfl rfl rfl rfl) rfl (q_Text_put  h) (fun M6 h => ?_)
            refine pM_ii rfl rfl rfl ki_1 ?_
            refine pM_go rfl rfl ?_
            refine pM_w (F2 := [(0, .inr (.inl (some 3))), (1, .inr (.inl (some 1))), (2, .inl (.inl (v2 + 1)))]) (fun L hL => lo_cons (lo_lk hL rfl) (lo_cons (lo_lk hL rfl) (lo_cons (lo_lk hL rfl) lo_nil))) ?_
            exact IH hN (v2 + 1) M6 h
        · replace h := h.2 h3
          refine pM_aln rfl rfl rfl ?_
          refine pM_iln rfl rfl ?_
          refine pM_ic rfl ki_1 ?_
          refine pM_sub rfl ?_
          refine pM_qVi (as := [.inr (.inl (some 1)), .inl (.inl (v2 - 1))]) (T := []) rfl rfl (fun C hC => cl_v hC rfl rfl rfl rfl) rfl (q_Tape_isDigit ) ?_
          refine pM_zne rfl rfl (fun h7 => ?_) (fun h7 => ?_)
          · replace h := h.2 h7
            refine pM_ii rfl rfl rfl ki_1 ?_
            refine pM_go rfl rfl ?_
            refine pM_w (F2 := [(0, .inr (.inl (some 3))), (1, .inr (.inl (some 1))), (2, .inl (.inl (v2 + 1)))]) (fun L hL => lo_cons (lo_lk hL rfl) (lo_cons (lo_lk hL rfl) (lo_cons (lo_lk hL rfl) lo_nil))) ?_
            exact IH hN (v2 + 1) M h
          · replace h := h.1 h7
            refine pM_aln rfl rfl rfl ?_
            refine pM_iln rfl rfl ?_
            refine pM_qPi (as := [.inr (.inl (some 1)), .inl (.inl v2)]) (T := []) rfl rfl (fun _ _ => rfl) rfl (q_Text_endOfNumber  h) (fun r8 h => ?_)
            refine pM_isn rfl rfl ?_
            refine pM_aln rfl rfl rfl ?_
            refine pM_bi rfl kb_20 ?_
            refine pM_iln rfl rfl ?_
            refine pM_iln rfl rfl ?_
            refine pM_aln rfl rfl rfl ?_
            refine pM_iln rfl rfl ?_
            refine pM_iln rfl rfl ?_
            refine pM_qPi (as := [.inr (.inl (some 1)), .inl (.inl v2), .inl (.inl r8)]) (T := [.inl (.inl r8), .inl (.inl v2), .inl (.inl 20), .inr (.inl (some 3))]) rfl rfl (fun _ _ => rfl) rfl (q_Text_valueOf  h) (fun r10 h => ?_)
            refine pM_qRu (as := [.inr (.inl (some 3)), .inl (.inl 20), .inl (.inl v2), .inl (.inl r8), .inl (.inl r10)]) (T := []) rfl rfl (fun C hC => cl_v hC rfl rfl rfl rfl) rfl (q_Text_put  h) (fun M13 h => ?_)
            refine pM_go rfl rfl ?_
            refine pM_ii rfl rfl rfl ki_1 ?_
            refine pM_go rfl rfl ?_
            refine pM_w (F2 := [(0, .inr (.inl (some 3))), (1, .inr (.inl (some 1))), (2, .inl (.inl (v2 + 1)))]) (fun L hL => lo_cons (lo_lk hL rfl) (lo_cons (lo_lk hL rfl) (lo_cons (lo_lk hL rfl) lo_nil))) ?_
            exact IH hN (v2 + 1) M13 h
      · replace h := h.2 h2
        refine pM_aln rfl rfl rfl ?_
        refine pM_iln rfl rfl ?_
        refine pM_ic rfl ki_1 ?_
        refine pM_sub rfl ?_
        refine pM_qVi (as := [.inr (.inl (some 1)), .inl (.inl (v2 - 1))]) (T := []) rfl rfl (fun C hC => cl_v hC rfl rfl rfl rfl) rfl (q_Tape_isLetter ) ?_
        refine pM_zne rfl rfl (fun h14 => ?_) (fun h14 => ?_)
        · replace h := h.2 h14
          refine pM_ii rfl rfl rfl ki_1 ?_
          refine pM_go rfl rfl ?_
          refine pM_w (F2 := [(0, .inr (.inl (some 3))), (1, .inr (.inl (some 1))), (2, .inl (.inl (v2 + 1)))]) (fun L hL => lo_cons (lo_lk hL rfl) (lo_cons (lo_lk hL rfl) (lo_cons (lo_lk hL rfl) lo_nil))) ?_
          exact IH hN (v2 + 1) M h
        · replace h := h.1 h14
          refine pM_aln rfl rfl rfl ?_
          refine pM_iln rfl rfl ?_
          refine pM_qPi (as := [.inr (.inl (some 1)), .inl (.inl v2)]) (T := []) rfl rfl (fun _ _ => rfl) rfl (q_Text_endOfWord  h) (fun r15 h => ?_)
          refine pM_isn rfl rfl ?_
          refine pM_aln rfl rfl rfl ?_
          refine pM_aln rfl rfl rfl ?_
          refine pM_iln rfl rfl ?_
          refine pM_iln rfl rfl ?_
          refine pM_qPi (as := [.inr (.inl (some 1)), .inl (.inl v2), .inl (.inl r15)]) (T := [.inr (.inl (some 3))]) rfl rfl (fun _ _ => rfl) rfl (q_Text_wordNumber  h) (fun r17 h => ?_)
          refine pM_iln rfl rfl ?_
          refine pM_iln rfl rfl ?_
          refine pM_ic rfl ki_0 ?_
          refine pM_qRu (as := [.inr (.inl (some 3)), .inl (.inl r17), .inl (.inl v2), .inl (.inl r15), .inl (.inl 0)]) (T := []) rfl rfl (fun C hC => cl_v hC rfl rfl rfl rfl) rfl (q_Text_put  h) (fun M20 h => ?_)
          refine pM_go rfl rfl ?_
          refine pM_ii rfl rfl rfl ki_1 ?_
          refine pM_go rfl rfl ?_
          refine pM_w (F2 := [(0, .inr (.inl (some 3))), (1, .inr (.inl (some 1))), (2, .inl (.inl (v2 + 1)))]) (fun L hL => lo_cons (lo_lk hL rfl) (lo_cons (lo_lk hL rfl) (lo_cons (lo_lk hL rfl) lo_nil))) ?_
          exact IH hN (v2 + 1) M20 h
/-- 88: EarCode$Text.split(LEarCode$Tape;)V -/
def W_Text_split  (N : Nat) (M : MM) (Q : MM → Prop) : Prop :=
  W_Text_split_12 Q N 0 (wi (wi M 3 4 0) 3 5 0)
theorem q_Text_split {X : Option (List AI)} {N : Nat} {M : MM}  {Q : MM → Prop}  (h : W_Text_split  N M Q) : pM X N 88 0 (ea_ar 0 [.inr (.inl (some 3)), .inr (.inl (some 1))]) [] M (Ru Q) := by
  refine pM_w (F2 := [(0, .inr (.inl (some 3))), (1, .inr (.inl (some 1)))]) (fun L hL => lo_cons (lo_lk hL rfl) (lo_cons (lo_lk hL rfl) lo_nil)) ?_
  refine pM_aln rfl rfl rfl ?_
  refine pM_ic rfl ki_0 ?_
  refine pM_pi rfl rfl rfl rfl ?_
  refine pM_aln rfl rfl rfl ?_
  refine pM_ic rfl ki_0 ?_
  refine pM_pi rfl rfl rfl rfl ?_
  refine pM_ic rfl ki_0 ?_
  refine pM_isn rfl rfl ?_
  refine pM_w (F2 := [(0, .inr (.inl (some 3))), (1, .inr (.inl (some 1))), (2, .inl (.inl 0))]) (fun L hL => lo_cons (lo_lk hL rfl) (lo_cons (lo_lk hL rfl) (lo_cons (lo_lk hL rfl) lo_nil))) ?_
  refine q_Text_split_12   N (Nat.le_refl N) 0 (wi (wi M 3 4 0) 3 5 0) h
def B_World_bear_18 (a : Nat) (p1 : Int32) (u2 : Int32) (Q : Int32 → MM → Prop) (N : Nat) (ih : Int32 → MM → Prop) (v3 : Int32) (M : MM) : Prop :=
  ((v3 < (M.1 (a + 6) (ni p1)) →
    W_World_addToHabit a u2 (V_World_matterAt a p1 v3 M) N M (fun M6 =>
      ih (v3 + 1) M6)) ∧
   (¬ v3 < (M.1 (a + 6) (ni p1)) →
    Q u2 M))
def W_World_bear_18 (a : Nat) (p1 : Int32) (u2 : Int32) (Q : Int32 → MM → Prop) : Nat → Int32 → MM → Prop
  | 0, _, _ => True
  | N + 1, v3, M => B_World_bear_18 a p1 u2 Q N (W_World_bear_18 a p1 u2 Q N) v3 M
theorem I_World_bear_18 (a : Nat) (p1 : Int32) (u2 : Int32) (Q : Int32 → MM → Prop) (inv : Int32 → MM → Prop) (hs : ∀ (N : Nat) (ih : Int32 → MM → Prop) (v3 : Int32) (M : MM), (∀ (v3 : Int32) (M : MM), inv v3 M → ih v3 M) → inv v3 M → B_World_bear_18 a p1 u2 Q N ih v3 M) : ∀ (N : Nat) (v3 : Int32) (M : MM), inv v3 M → W_World_bear_18 a p1 u2 Q N v3 M := by
  intro N
  induction N with
  | zero => intros; trivial
  | succ N IH =>
    intro v3 M h
    exact hs N _ v3 M IH h
theorem q_World_bear_18 {X : Option (List AI)} {N0 : Nat} {a : Nat} {p1 : Int32} {u2 : Int32} {Q : Int32 → MM → Prop} (ha : isW a)  : ∀ (N : Nat), N ≤ N0 → ∀ (v3 : Int32) (M : MM), W_World_bear_18 a p1 u2 Q N v3 M → pM X N 104 18 [(0, .inr (.inl (some a))), (1, .inl (.inl p1)), (2, .inl (.inl u2)), (3, .inl (.inl v3))] [] M (Ri Q) := by
  intro N
  induction N with
  | zero => intros; exact pM_zero
  | succ N IH =>
    intro hN v3 M h
    replace hN := Nat.le_of_succ_le hN
    replace h : B_World_bear_18 a p1 u2 Q N (W_World_bear_18 a p1 u2 Q N) v3 M := h
    refine pM_s (pMs_iln rfl rfl ?_)
    refine pM_aln rfl rfl rfl ?_
    refine pM_gr rfl rfl ha.1 rfl ?_
    refine pM_iln rfl rfl ?_
    refine pM_ai rfl ha.2.2.2.2.2.2.1 (one_p _) ?_
    refine pM_cge rfl rfl (fun h4 => ?_) (fun h4 => ?_)
    · replace h := h.2 h4
      refine pM_iln rfl rfl ?_
      exact pM_ri rfl (⟨_, rfl, h⟩)
    · replace h := h.1 h4
      refine pM_aln rfl rfl rfl ?_
      refine pM_iln rfl rfl ?_
      refine pM_aln rfl rfl rfl ?_
      refine pM_iln rfl rfl ?_
      refine pM_iln rfl rfl ?_
      refine pM_qVi (as := [.inr (.inl (some a)), .inl (.inl p1), .inl (.inl v3)]) (T := [.inl (.inl u2), .inr (.inl (some a))]) rfl rfl (fun C hC => cl_v hC ha.1 rfl rfl rfl) rfl (q_World_matterAt ha) ?_
      refine pM_qRu (as := [.inr (.inl (some a)), .inl (.inl u2), .inl (.inl (V_World_matterAt a p1 v3 M))]) (T := []) rfl rfl (fun C hC => cl_v hC ha.1 rfl rfl rfl) rfl (q_World_addToHabit ha h) (fun M6 h => ?_)
      refine pM_ii rfl rfl rfl ki_1 ?_
      refine pM_go rfl rfl ?_
      refine pM_w (F2 := [(0, .inr (.inl (some a))), (1, .inl (.inl p1)), (2, .inl (.inl u2)), (3, .inl (.inl (v3 + 1)))]) (fun L hL => lo_cons (lo_lk hL rfl) (lo_cons (lo_lk hL rfl) (lo_cons (lo_lk hL rfl) (lo_cons (lo_lk hL rfl) lo_nil)))) ?_
      exact IH hN (v3 + 1) M6 h
/-- 104: EarCode$World.bear(I)I -/
def W_World_bear (a : Nat) (p1 : Int32) (N : Nat) (M : MM) (Q : Int32 → MM → Prop) : Prop :=
  W_World_addCitizen a (M.1 (a + 2) (ni p1)) N M (fun r1 M2 =>
    ((r1 = (-1) →
      Q r1 M2) ∧
     (¬ r1 = (-1) →
      W_World_bear_18 a p1 r1 Q N 0 M2)))
theorem q_World_bear {X : Option (List AI)} {N : Nat} {M : MM} {a : Nat} {p1 : Int32} {Q : Int32 → MM → Prop} (ha : isW a) (h : W_World_bear a p1 N M Q) : pM X N 104 0 (ea_ar 0 [.inr (.inl (some a)), .inl (.inl p1)]) [] M (Ri Q) := by
  refine pM_w (F2 := [(0, .inr (.inl (some a))), (1, .inl (.inl p1))]) (fun L hL => lo_cons (lo_lk hL rfl) (lo_cons (lo_lk hL rfl) lo_nil)) ?_
  refine pM_aln rfl rfl rfl ?_
  refine pM_aln rfl rfl rfl ?_
  refine pM_gr rfl rfl ha.1 rfl ?_
  refine pM_iln rfl rfl ?_
  refine pM_ai rfl ha.2.2.1 (one_p _) ?_
  refine pM_qRi (as := [.inr (.inl (some a)), .inl (.inl (M.1 (a + 2) (ni p1)))]) (T := []) rfl rfl (fun C hC => cl_v hC ha.1 rfl rfl rfl) rfl (q_World_addCitizen ha h) (fun r1 M2 h => ?_)
  refine pM_isn rfl rfl ?_
  refine pM_iln rfl rfl ?_
  refine pM_ic rfl ki_m1 ?_
  refine pM_ceq rfl rfl (fun h3 => ?_) (fun h3 => ?_)
  · replace h := h.1 h3
    refine pM_iln rfl rfl ?_
    exact pM_ri rfl (⟨_, rfl, h⟩)
  · replace h := h.2 h3
    refine pM_ic rfl ki_0 ?_
    refine pM_isn rfl rfl ?_
    refine pM_w (F2 := [(0, .inr (.inl (some a))), (1, .inl (.inl p1)), (2, .inl (.inl r1)), (3, .inl (.inl 0))]) (fun L hL => lo_cons (lo_lk hL rfl) (lo_cons (lo_lk hL rfl) (lo_cons (lo_lk hL rfl) (lo_cons (lo_lk hL rfl) lo_nil)))) ?_
    refine q_World_bear_18 ha  N (Nat.le_refl N) 0 M2 h
/-- 107: EarCode$World.isThere(I)Z -/
def V_World_isThere (a : Nat) (p1 : Int32) (M : MM) : Int32 :=
  (if p1 < 0 then
    0
  else
    (if p1 < (M.1 a 0) then
      1
    else
      0))
theorem q_World_isThere {X : Option (List AI)} {N : Nat} {M : MM} {a : Nat} {p1 : Int32} (ha : isW a) : pM X N 107 0 (ea_ar 0 [.inr (.inl (some a)), .inl (.inl p1)]) [] M (Vi (V_World_isThere a p1 M) M) := by
  refine pM_w (F2 := [(0, .inr (.inl (some a))), (1, .inl (.inl p1))]) (fun L hL => lo_cons (lo_lk hL rfl) (lo_cons (lo_lk hL rfl) lo_nil)) ?_
  refine pM_iln rfl rfl ?_
  refine pM_zlt rfl rfl (fun h1 => ?_) (fun h1 => ?_)
  · refine pM_ic rfl ki_0 ?_
    exact pM_rVi rfl (Eq.trans (if_pos h1) rfl)
  · refine pM_iln rfl rfl ?_
    refine pM_aln rfl rfl rfl ?_
    refine pM_gi rfl rfl ha.1 rfl ?_
    refine pM_cge rfl rfl (fun h2 => ?_) (fun h2 => ?_)
    · refine pM_ic rfl ki_0 ?_
      exact pM_rVi rfl (Eq.trans (if_neg h1) (Eq.trans (if_neg h2) rfl))
    · refine pM_ic rfl ki_1 ?_
      refine pM_go rfl rfl ?_
      exact pM_rVi rfl (Eq.trans (if_neg h1) (Eq.trans (if_pos h2) rfl))
/-- 105: EarCode$World.bury(I)V -/
def W_World_bury (a : Nat) (p1 : Int32) (N : Nat) (M : MM) (Q : MM → Prop) : Prop :=
  (((V_World_isThere a ((wi (wi M a 1 ((M.1 a 1) &&& ((sl 1 p1) ^^^ (-1)))) (a + 3) (ni p1) 0).1 (a + 4) (ni p1)) (wi (wi M a 1 ((M.1 a 1) &&& ((sl 1 p1) ^^^ (-1)))) (a + 3) (ni p1) 0)) = 0 →
    Q (wi (wi (wi M a 1 ((M.1 a 1) &&& ((sl 1 p1) ^^^ (-1)))) (a + 3) (ni p1) 0) (a + 4) (ni p1) (-1))) ∧
   (¬ (V_World_isThere a ((wi (wi M a 1 ((M.1 a 1) &&& ((sl 1 p1) ^^^ (-1)))) (a + 3) (ni p1) 0).1 (a + 4) (ni p1)) (wi (wi M a 1 ((M.1 a 1) &&& ((sl 1 p1) ^^^ (-1)))) (a + 3) (ni p1) 0)) = 0 →
    Q (wi (wi (wi (wi M a 1 ((M.1 a 1) &&& ((sl 1 p1) ^^^ (-1)))) (a + 3) (ni p1) 0) (a + 4) (ni ((wi (wi M a 1 ((M.1 a 1) &&& ((sl 1 p1) ^^^ (-1)))) (a + 3) (ni p1) 0).1 (a + 4) (ni p1))) (-1)) (a + 4) (ni p1) (-1))))
theorem q_World_bury {X : Option (List AI)} {N : Nat} {M : MM} {a : Nat} {p1 : Int32} {Q : MM → Prop} (ha : isW a) (h : W_World_bury a p1 N M Q) : pM X N 105 0 (ea_ar 0 [.inr (.inl (some a)), .inl (.inl p1)]) [] M (Ru Q) := by
  refine pM_w (F2 := [(0, .inr (.inl (some a))), (1, .inl (.inl p1))]) (fun L hL => lo_cons (lo_lk hL rfl) (lo_cons (lo_lk hL rfl) lo_nil)) ?_
  refine pM_aln rfl rfl rfl ?_
  refine pM_p (pc' := 2) (S' := [.inr (.inl (some a)), .inr (.inl (some a))]) rfl rfl (fun _ => rfl) ?_
  refine pM_gi rfl rfl ha.1 rfl ?_
  refine pM_ic rfl ki_1 ?_
  refine pM_iln rfl rfl ?_
  refine pM_shl rfl ?_
  refine pM_ic rfl ki_m1 ?_
  refine pM_xor rfl ?_
  refine pM_and rfl ?_
  refine pM_pi rfl rfl ha.1 rfl ?_
  refine pM_aln rfl rfl rfl ?_
  refine pM_gr rfl rfl ha.1 rfl ?_
  refine pM_iln rfl rfl ?_
  refine pM_ic rfl ki_0 ?_
  refine pM_sa rfl ha.2.2.2.1 (one_p _) ?_
  refine pM_aln rfl rfl rfl ?_
  refine pM_gr rfl rfl ha.1 rfl ?_
  refine pM_iln rfl rfl ?_
  refine pM_ai rfl ha.2.2.2.2.1 (one_p _) ?_
  refine pM_isn rfl rfl ?_
  refine pM_aln rfl rfl rfl ?_
  refine pM_iln rfl rfl ?_
  refine pM_qVi (as := [.inr (.inl (some a)), .inl (.inl ((wi (wi M a 1 ((M.1 a 1) &&& ((sl 1 p1) ^^^ (-1)))) (a + 3) (ni p1) 0).1 (a + 4) (ni p1)))]) (T := []) rfl rfl (fun C hC => cl_v hC ha.1 rfl rfl rfl) rfl (q_World_isThere ha) ?_
  refine pM_zeq rfl rfl (fun h1 => ?_) (fun h1 => ?_)
  · replace h := h.1 h1
    refine pM_aln rfl rfl rfl ?_
    refine pM_gr rfl rfl ha.1 rfl ?_
    refine pM_iln rfl rfl ?_
    refine pM_ic rfl ki_m1 ?_
    refine pM_sa rfl ha.2.2.2.2.1 (one_p _) ?_
    exact pM_ru rfl (⟨rfl, h⟩)
  · replace h := h.2 h1
    refine pM_aln rfl rfl rfl ?_
    refine pM_gr rfl rfl ha.1 rfl ?_
    refine pM_iln rfl rfl ?_
    refine pM_ic rfl ki_m1 ?_
    refine pM_sa rfl ha.2.2.2.2.1 (one_p _) ?_
    refine pM_aln rfl rfl rfl ?_
    refine pM_gr rfl rfl ha.1 rfl ?_
    refine pM_iln rfl rfl ?_
    refine pM_ic rfl ki_m1 ?_
    refine pM_sa rfl ha.2.2.2.2.1 (one_p _) ?_
    exact pM_ru rfl (⟨rfl, h⟩)
/-- 114: EarCode$World.pooledBy(I)I -/
def V_World_pooledBy (a : Nat) (p1 : Int32) (M : MM) : Int32 :=
  (if (V_World_isThere a (M.1 (a + 4) (ni p1)) M) = 0 then
    (M.1 (a + 1) (ni p1))
  else
    ((M.1 (a + 1) (ni p1)) ||| (M.1 (a + 1) (ni (M.1 (a + 4) (ni p1))))))
theorem q_World_pooledBy {X : Option (List AI)} {N : Nat} {M : MM} {a : Nat} {p1 : Int32} (ha : isW a) : pM X N 114 0 (ea_ar 0 [.inr (.inl (some a)), .inl (.inl p1)]) [] M (Vi (V_World_pooledBy a p1 M) M) := by
  refine pM_w (F2 := [(0, .inr (.inl (some a))), (1, .inl (.inl p1))]) (fun L hL => lo_cons (lo_lk hL rfl) (lo_cons (lo_lk hL rfl) lo_nil)) ?_
  refine pM_aln rfl rfl rfl ?_
  refine pM_gr rfl rfl ha.1 rfl ?_
  refine pM_iln rfl rfl ?_
  refine pM_ai rfl ha.2.2.2.2.1 (one_p _) ?_
  refine pM_isn rfl rfl ?_
  refine pM_aln rfl rfl rfl ?_
  refine pM_iln rfl rfl ?_
  refine pM_qVi (as := [.inr (.inl (some a)), .inl (.inl (M.1 (a + 4) (ni p1)))]) (T := []) rfl rfl (fun C hC => cl_v hC ha.1 rfl rfl rfl) rfl (q_World_isThere ha) ?_
  refine pM_zeq rfl rfl (fun h1 => ?_) (fun h1 => ?_)
  · refine pM_aln rfl rfl rfl ?_
    refine pM_gr rfl rfl ha.1 rfl ?_
    refine pM_iln rfl rfl ?_
    refine pM_ai rfl ha.2.1 (one_p _) ?_
    exact pM_rVi rfl (Eq.trans (if_pos h1) rfl)
  · refine pM_aln rfl rfl rfl ?_
    refine pM_gr rfl rfl ha.1 rfl ?_
    refine pM_iln rfl rfl ?_
    refine pM_ai rfl ha.2.1 (one_p _) ?_
    refine pM_aln rfl rfl rfl ?_
    refine pM_gr rfl rfl ha.1 rfl ?_
    refine pM_iln rfl rfl ?_
    refine pM_ai rfl ha.2.1 (one_p _) ?_
    refine pM_or rfl ?_
    refine pM_go rfl rfl ?_
    exact pM_rVi rfl (Eq.trans (if_neg h1) rfl)
def B_World_takenOnes_4 (a : Nat) (M : MM) (Q : Int32 → Prop) (N : Nat) (ih : Int32 → Int32 → Prop) (v1 : Int32) (v2 : Int32) : Prop :=
  ((v2 < (M.1 a 0) →
    ((0 < (M.1 (a + 3) (ni v2)) →
      ih (v1 ||| (sl 1 v2)) (v2 + 1)) ∧
     (¬ 0 < (M.1 (a + 3) (ni v2)) →
      ih v1 (v2 + 1)))) ∧
   (¬ v2 < (M.1 a 0) →
    Q v1))
def W_World_takenOnes_4 (a : Nat) (M : MM) (Q : Int32 → Prop) : Nat → Int32 → Int32 → Prop
  | 0, _, _ => True
  | N + 1, v1, v2 => B_World_takenOnes_4 a M Q N (W_World_takenOnes_4 a M Q N) v1 v2
theorem I_World_takenOnes_4 (a : Nat) (M : MM) (Q : Int32 → Prop) (inv : Int32 → Int32 → Prop) (hs : ∀ (N : Nat) (ih : Int32 → Int32 → Prop) (v1 : Int32) (v2 : Int32), (∀ (v1 : Int32) (v2 : Int32), inv v1 v2 → ih v1 v2) → inv v1 v2 → B_World_takenOnes_4 a M Q N ih v1 v2) : ∀ (N : Nat) (v1 : Int32) (v2 : Int32), inv v1 v2 → W_World_takenOnes_4 a M Q N v1 v2 := by
  intro N
  induction N with
  | zero => intros; trivial
  | succ N IH =>
    intro v1 v2 h
    exact hs N _ v1 v2 IH h
theorem q_World_takenOnes_4 {X : Option (List AI)} {N0 : Nat} {a : Nat} {M : MM} {Q : Int32 → Prop} (ha : isW a)  : ∀ (N : Nat), N ≤ N0 → ∀ (v1 : Int32) (v2 : Int32), W_World_takenOnes_4 a M Q N v1 v2 → pM X N 117 4 [(0, .inr (.inl (some a))), (1, .inl (.inl v1)), (2, .inl (.inl v2))] [] M (Pi Q M) := by
  intro N
  induction N with
  | zero => intros; exact pM_zero
  | succ N IH =>
    intro hN v1 v2 h
    replace hN := Nat.le_of_succ_le hN
    replace h : B_World_takenOnes_4 a M Q N (W_World_takenOnes_4 a M Q N) v1 v2 := h
    refine pM_s (pMs_iln rfl rfl ?_)
    refine pM_aln rfl rfl rfl ?_
    refine pM_gi rfl rfl ha.1 rfl ?_
    refine pM_cge rfl rfl (fun h1 => ?_) (fun h1 => ?_)
    · replace h := h.2 h1
      refine pM_iln rfl rfl ?_
      exact pM_ri rfl (⟨_, rfl, rfl, h⟩)
    · replace h := h.1 h1
      refine pM_aln rfl rfl rfl ?_
      refine pM_gr rfl rfl ha.1 rfl ?_
      refine pM_iln rfl rfl ?_
      refine pM_ai rfl ha.2.2.2.1 (one_p _) ?_
      refine pM_zle rfl rfl (fun h2 => ?_) (fun h2 => ?_)
      · replace h := h.2 h2
        refine pM_ii rfl rfl rfl ki_1 ?_
        refine pM_go rfl rfl ?_
        refine pM_w (F2 := [(0, .inr (.inl (some a))), (1, .inl (.inl v1)), (2, .inl (.inl (v2 + 1)))]) (fun L hL => lo_cons (lo_lk hL rfl) (lo_cons (lo_lk hL rfl) (lo_cons (lo_lk hL rfl) lo_nil))) ?_
        exact IH hN v1 (v2 + 1) h
      · replace h := h.1 h2
        refine pM_iln rfl rfl ?_
        refine pM_ic rfl ki_1 ?_
        refine pM_iln rfl rfl ?_
        refine pM_shl rfl ?_
        refine pM_or rfl ?_
        refine pM_isn rfl rfl ?_
        refine pM_ii rfl rfl rfl ki_1 ?_
        refine pM_go rfl rfl ?_
        refine pM_w (F2 := [(0, .inr (.inl (some a))), (1, .inl (.inl (v1 ||| (sl 1 v2)))), (2, .inl (.inl (v2 + 1)))]) (fun L hL => lo_cons (lo_lk hL rfl) (lo_cons (lo_lk hL rfl) (lo_cons (lo_lk hL rfl) lo_nil))) ?_
        exact IH hN (v1 ||| (sl 1 v2)) (v2 + 1) h
/-- 117: EarCode$World.takenOnes()I -/
def W_World_takenOnes (a : Nat) (N : Nat) (M : MM) (Q : Int32 → Prop) : Prop :=
  W_World_takenOnes_4 a M Q N 0 0
theorem q_World_takenOnes {X : Option (List AI)} {N : Nat} {M : MM} {a : Nat} {Q : Int32 → Prop} (ha : isW a) (h : W_World_takenOnes a N M Q) : pM X N 117 0 (ea_ar 0 [.inr (.inl (some a))]) [] M (Pi Q M) := by
  refine pM_w (F2 := [(0, .inr (.inl (some a)))]) (fun L hL => lo_cons (lo_lk hL rfl) lo_nil) ?_
  refine pM_ic rfl ki_0 ?_
  refine pM_isn rfl rfl ?_
  refine pM_ic rfl ki_0 ?_
  refine pM_isn rfl rfl ?_
  refine pM_w (F2 := [(0, .inr (.inl (some a))), (1, .inl (.inl 0)), (2, .inl (.inl 0))]) (fun L hL => lo_cons (lo_lk hL rfl) (lo_cons (lo_lk hL rfl) (lo_cons (lo_lk hL rfl) lo_nil))) ?_
  refine q_World_takenOnes_4 ha  N (Nat.le_refl N) 0 0 h
/-- 123: EarCode$World.draw()I -/
def W_World_draw (a : Nat) (N : Nat) (M : MM) (Q : Int32 → MM → Prop) : Prop :=
  Q ((su ((wi M a 14 ((1103515245 * (M.1 a 14)) + 12345)).1 a 14) 16) &&& 32767) (wi M a 14 ((1103515245 * (M.1 a 14)) + 12345))
theorem q_World_draw {X : Option (List AI)} {N : Nat} {M : MM} {a : Nat} {Q : Int32 → MM → Prop} (ha : isW a) (h : W_World_draw a N M Q) : pM X N 123 0 (ea_ar 0 [.inr (.inl (some a))]) [] M (Ri Q) := by
  refine pM_w (F2 := [(0, .inr (.inl (some a)))]) (fun L hL => lo_cons (lo_lk hL rfl) lo_nil) ?_
  refine pM_aln rfl rfl rfl ?_
  refine pM_ld rfl rfl kn_1103515245 ?_
  refine pM_aln rfl rfl rfl ?_
  refine pM_gi rfl rfl ha.1 rfl ?_
  refine pM_mul rfl ?_
  refine pM_si rfl ks_12345 ?_
  refine pM_add rfl ?_
  refine pM_pi rfl rfl ha.1 rfl ?_
  refine pM_aln rfl rfl rfl ?_
  refine pM_gi rfl rfl ha.1 rfl ?_
  refine pM_bi rfl kb_16 ?_
  refine pM_ushr rfl ?_
  refine pM_si rfl ks_32767 ?_
  refine pM_and rfl ?_
  exact pM_ri rfl (⟨_, rfl, h⟩)
/-- 120: EarCode$World.keepsFrom(LEarCode$Law;I)Z -/
def W_World_keepsFrom (a : Nat) (p2 : Int32) (N : Nat) (M : MM) (Q : Int32 → MM → Prop) : Prop :=
  W_Law_bearing 8 0 (V_World_matterAhead a p2 0 M) p2 (V_World_knownBy a p2 M) (M.1 a 13) N M (fun r1 =>
    (((r1 &&& (M.1 (a + 1) (ni p2))) = 0 →
      (((V_World_hasSeen a p2 (V_World_matterAhead a p2 0 M) M) = 0 →
        Q 0 M) ∧
       (¬ (V_World_hasSeen a p2 (V_World_matterAhead a p2 0 M) M) = 0 →
        W_World_draw a N M (fun r5 M6 =>
          (((rm r5 100) < (M6.1 (a + 2) (ni p2)) →
            Q 1 M6) ∧
           (¬ (rm r5 100) < (M6.1 (a + 2) (ni p2)) →
            Q 0 M6)))))) ∧
     (¬ (r1 &&& (M.1 (a + 1) (ni p2))) = 0 →
      Q 1 M)))
theorem q_World_keepsFrom {X : Option (List AI)} {N : Nat} {M : MM} {a : Nat} {p2 : Int32} {Q : Int32 → MM → Prop} (ha : isW a) (h : W_World_keepsFrom a p2 N M Q) : pM X N 120 0 (ea_ar 0 [.inr (.inl (some a)), .inr (.inl (some 8)), .inl (.inl p2)]) [] M (Ri Q) := by
  refine pM_w (F2 := [(0, .inr (.inl (some a))), (1, .inr (.inl (some 8))), (2, .inl (.inl p2))]) (fun L hL => lo_cons (lo_lk hL rfl) (lo_cons (lo_lk hL rfl) (lo_cons (lo_lk hL rfl) lo_nil))) ?_
  refine pM_aln rfl rfl rfl ?_
  refine pM_iln rfl rfl ?_
  refine pM_ic rfl ki_0 ?_
  refine pM_qVi (as := [.inr (.inl (some a)), .inl (.inl p2), .inl (.inl 0)]) (T := []) rfl rfl (fun C hC => cl_v hC ha.1 rfl rfl rfl) rfl (q_World_matterAhead ha) ?_
  refine pM_isn rfl rfl ?_
  refine pM_aln rfl rfl rfl ?_
  refine pM_ic rfl ki_0 ?_
  refine pM_iln rfl rfl ?_
  refine pM_iln rfl rfl ?_
  refine pM_aln rfl rfl rfl ?_
  refine pM_iln rfl rfl ?_
  refine pM_qVi (as := [.inr (.inl (some a)), .inl (.inl p2)]) (T := [.inl (.inl p2), .inl (.inl (V_World_matterAhead a p2 0 M)), .inl (.inl 0), .inr (.inl (some 8))]) rfl rfl (fun C hC => cl_v hC ha.1 rfl rfl rfl) rfl (q_World_knownBy ha) ?_
  refine pM_aln rfl rfl rfl ?_
  refine pM_gi rfl rfl ha.1 rfl ?_
  refine pM_qPi (as := [.inr (.inl (some 8)), .inl (.inl 0), .inl (.inl (V_World_matterAhead a p2 0 M)), .inl (.inl p2), .inl (.inl (V_World_knownBy a p2 M)), .inl (.inl (M.1 a 13))]) (T := []) rfl rfl (fun C hC => cl_v hC rfl rfl rfl rfl) rfl (q_Law_bearing isK_8 h) (fun r1 h => ?_)
  refine pM_is rfl rfl ?_
  refine pM_il rfl rfl ?_
  refine pM_aln rfl rfl rfl ?_
  refine pM_gr rfl rfl ha.1 rfl ?_
  refine pM_iln rfl rfl ?_
  refine pM_ai rfl ha.2.1 (one_p _) ?_
  refine pM_and rfl ?_
  refine pM_zeq rfl rfl (fun h3 => ?_) (fun h3 => ?_)
  · replace h := h.1 h3
    refine pM_aln rfl rfl rfl ?_
    refine pM_iln rfl rfl ?_
    refine pM_iln rfl rfl ?_
    refine pM_qVi (as := [.inr (.inl (some a)), .inl (.inl p2), .inl (.inl (V_World_matterAhead a p2 0 M))]) (T := []) rfl rfl (fun C hC => cl_v hC ha.1 rfl rfl rfl) rfl (q_World_hasSeen ha) ?_
    refine pM_zeq rfl rfl (fun h4 => ?_) (fun h4 => ?_)
    · replace h := h.1 h4
      refine pM_ic rfl ki_0 ?_
      exact pM_ri rfl (⟨_, rfl, h⟩)
    · replace h := h.2 h4
      refine pM_aln rfl rfl rfl ?_
      refine pM_qRi (as := [.inr (.inl (some a))]) (T := []) rfl rfl (fun C hC => cl_v hC ha.1 rfl rfl rfl) rfl (q_World_draw ha h) (fun r5 M6 h => ?_)
      refine pM_bi rfl kb_100 ?_
      refine pM_rem rfl ?_
      refine pM_aln rfl rfl rfl ?_
      refine pM_gr rfl rfl ha.1 rfl ?_
      refine pM_iln rfl rfl ?_
      refine pM_ai rfl ha.2.2.1 (one_p _) ?_
      refine pM_cge rfl rfl (fun h7 => ?_) (fun h7 => ?_)
      · replace h := h.2 h7
        refine pM_ic rfl ki_0 ?_
        exact pM_ri rfl (⟨_, rfl, h⟩)
      · replace h := h.1 h7
        refine pM_ic rfl ki_1 ?_
        refine pM_go rfl rfl ?_
        exact pM_ri rfl (⟨_, rfl, h⟩)
  · replace h := h.2 h3
    refine pM_ic rfl ki_1 ?_
    exact pM_ri rfl (⟨_, rfl, h⟩)
def B_World_pickDoers_5 (a : Nat) (p2 : Int32) (Q : Int32 → MM → Prop) (N : Nat) (ih : Int32 → Int32 → MM → Prop) (v3 : Int32) (v4 : Int32) (M : MM) : Prop :=
  ((v4 < (M.1 a 0) →
    (((V_E_bit p2 v4 M) = 1 →
      W_World_keepsFrom a v4 N M (fun r3 M4 =>
        ((r3 = 0 →
          ih (v3 ||| (sl 1 v4)) (v4 + 1) M4) ∧
         (¬ r3 = 0 →
          ih v3 (v4 + 1) (wi M4 a 18 ((M4.1 a 18) + 1)))))) ∧
     (¬ (V_E_bit p2 v4 M) = 1 →
      ih v3 (v4 + 1) M))) ∧
   (¬ v4 < (M.1 a 0) →
    Q v3 M))
def W_World_pickDoers_5 (a : Nat) (p2 : Int32) (Q : Int32 → MM → Prop) : Nat → Int32 → Int32 → MM → Prop
  | 0, _, _, _ => True
  | N + 1, v3, v4, M => B_World_pickDoers_5 a p2 Q N (W_World_pickDoers_5 a p2 Q N) v3 v4 M
theorem I_World_pickDoers_5 (a : Nat) (p2 : Int32) (Q : Int32 → MM → Prop) (inv : Int32 → Int32 → MM → Prop) (hs : ∀ (N : Nat) (ih : Int32 → Int32 → MM → Prop) (v3 : Int32) (v4 : Int32) (M : MM), (∀ (v3 : Int32) (v4 : Int32) (M : MM), inv v3 v4 M → ih v3 v4 M) → inv v3 v4 M → B_World_pickDoers_5 a p2 Q N ih v3 v4 M) : ∀ (N : Nat) (v3 : Int32) (v4 : Int32) (M : MM), inv v3 v4 M → W_World_pickDoers_5 a p2 Q N v3 v4 M := by
  intro N
  induction N with
  | zero => intros; trivial
  | succ N IH =>
    intro v3 v4 M h
    exact hs N _ v3 v4 M IH h
theorem q_World_pickDoers_5 {X : Option (List AI)} {N0 : Nat} {a : Nat} {p2 : Int32} {Q : Int32 → MM → Prop} (ha : isW a)  : ∀ (N : Nat), N ≤ N0 → ∀ (v3 : Int32) (v4 : Int32) (M : MM), W_World_pickDoers_5 a p2 Q N v3 v4 M → pM X N 119 5 [(0, .inr (.inl (some a))), (1, .inr (.inl (some 8))), (2, .inl (.inl p2)), (3, .inl (.inl v3)), (4, .inl (.inl v4))] [] M (Ri Q) := by
  intro N
  induction N with
  | zero => intros; exact pM_zero
  | succ N IH =>
    intro hN v3 v4 M h
    replace hN := Nat.le_of_succ_le hN
    replace h : B_World_pickDoers_5 a p2 Q N (W_World_pickDoers_5 a p2 Q N) v3 v4 M := h
    refine pM_s (pMs_il rfl rfl ?_)
    refine pM_aln rfl rfl rfl ?_
    refine pM_gi rfl rfl ha.1 rfl ?_
    refine pM_cge rfl rfl (fun h1 => ?_) (fun h1 => ?_)
    · replace h := h.2 h1
      refine pM_iln rfl rfl ?_
      exact pM_ri rfl (⟨_, rfl, h⟩)
    · replace h := h.1 h1
      refine pM_iln rfl rfl ?_
      refine pM_il rfl rfl ?_
      refine pM_qVi (as := [.inl (.inl p2), .inl (.inl v4)]) (T := []) rfl rfl (fun _ _ => rfl) rfl (q_E_bit ) ?_
      refine pM_ic rfl ki_1 ?_
      refine pM_cne rfl rfl (fun h2 => ?_) (fun h2 => ?_)
      · replace h := h.2 h2
        refine pM_ii rfl rfl rfl ki_1 ?_
        refine pM_go rfl rfl ?_
        refine pM_w (F2 := [(0, .inr (.inl (some a))), (1, .inr (.inl (some 8))), (2, .inl (.inl p2)), (3, .inl (.inl v3)), (4, .inl (.inl (v4 + 1)))]) (fun L hL => lo_cons (lo_lk hL rfl) (lo_cons (lo_lk hL rfl) (lo_cons (lo_lk hL rfl) (lo_cons (lo_lk hL rfl) (lo_cons (lo_lk hL rfl) lo_nil))))) ?_
        exact IH hN v3 (v4 + 1) M h
      · replace h := h.1 h2
        refine pM_aln rfl rfl rfl ?_
        refine pM_aln rfl rfl rfl ?_
        refine pM_il rfl rfl ?_
        refine pM_qRi (as := [.inr (.inl (some a)), .inr (.inl (some 8)), .inl (.inl v4)]) (T := []) rfl rfl (fun C hC => cl_v hC ha.1 rfl rfl rfl) rfl (q_World_keepsFrom ha h) (fun r3 M4 h => ?_)
        refine pM_zeq rfl rfl (fun h5 => ?_) (fun h5 => ?_)
        · replace h := h.1 h5
          refine pM_iln rfl rfl ?_
          refine pM_ic rfl ki_1 ?_
          refine pM_il rfl rfl ?_
          refine pM_shl rfl ?_
          refine pM_or rfl ?_
          refine pM_isn rfl rfl ?_
          refine pM_ii rfl rfl rfl ki_1 ?_
          refine pM_go rfl rfl ?_
          refine pM_w (F2 := [(0, .inr (.inl (some a))), (1, .inr (.inl (some 8))), (2, .inl (.inl p2)), (3, .inl (.inl (v3 ||| (sl 1 v4)))), (4, .inl (.inl (v4 + 1)))]) (fun L hL => lo_cons (lo_lk hL rfl) (lo_cons (lo_lk hL rfl) (lo_cons (lo_lk hL rfl) (lo_cons (lo_lk hL rfl) (lo_cons (lo_lk hL rfl) lo_nil))))) ?_
          exact IH hN (v3 ||| (sl 1 v4)) (v4 + 1) M4 h
        · replace h := h.2 h5
          refine pM_aln rfl rfl rfl ?_
          refine pM_p (pc' := 36) (S' := [.inr (.inl (some a)), .inr (.inl (some a))]) rfl rfl (fun _ => rfl) ?_
          refine pM_gi rfl rfl ha.1 rfl ?_
          refine pM_ic rfl ki_1 ?_
          refine pM_add rfl ?_
          refine pM_pi rfl rfl ha.1 rfl ?_
          refine pM_go rfl rfl ?_
          refine pM_ii rfl rfl rfl ki_1 ?_
          refine pM_go rfl rfl ?_
          refine pM_w (F2 := [(0, .inr (.inl (some a))), (1, .inr (.inl (some 8))), (2, .inl (.inl p2)), (3, .inl (.inl v3)), (4, .inl (.inl (v4 + 1)))]) (fun L hL => lo_cons (lo_lk hL rfl) (lo_cons (lo_lk hL rfl) (lo_cons (lo_lk hL rfl) (lo_cons (lo_lk hL rfl) (lo_cons (lo_lk hL rfl) lo_nil))))) ?_
          exact IH hN v3 (v4 + 1) (wi M4 a 18 ((M4.1 a 18) + 1)) h
/-- 119: EarCode$World.pickDoers(LEarCode$Law;I)I -/
def W_World_pickDoers (a : Nat) (p2 : Int32) (N : Nat) (M : MM) (Q : Int32 → MM → Prop) : Prop :=
  W_World_pickDoers_5 a p2 Q N 0 0 M
theorem q_World_pickDoers {X : Option (List AI)} {N : Nat} {M : MM} {a : Nat} {p2 : Int32} {Q : Int32 → MM → Prop} (ha : isW a) (h : W_World_pickDoers a p2 N M Q) : pM X N 119 0 (ea_ar 0 [.inr (.inl (some a)), .inr (.inl (some 8)), .inl (.inl p2)]) [] M (Ri Q) := by
  refine pM_w (F2 := [(0, .inr (.inl (some a))), (1, .inr (.inl (some 8))), (2, .inl (.inl p2))]) (fun L hL => lo_cons (lo_lk hL rfl) (lo_cons (lo_lk hL rfl) (lo_cons (lo_lk hL rfl) lo_nil))) ?_
  refine pM_ic rfl ki_0 ?_
  refine pM_isn rfl rfl ?_
  refine pM_ic rfl ki_0 ?_
  refine pM_is rfl rfl ?_
  refine pM_w (F2 := [(0, .inr (.inl (some a))), (1, .inr (.inl (some 8))), (2, .inl (.inl p2)), (3, .inl (.inl 0)), (4, .inl (.inl 0))]) (fun L hL => lo_cons (lo_lk hL rfl) (lo_cons (lo_lk hL rfl) (lo_cons (lo_lk hL rfl) (lo_cons (lo_lk hL rfl) (lo_cons (lo_lk hL rfl) lo_nil))))) ?_
  refine q_World_pickDoers_5 ha  N (Nat.le_refl N) 0 0 M h
def B_World_lowest_2 (p0 : Int32) (M : MM) (Q : Int32 → Prop) (N : Nat) (ih : Int32 → Prop) (v1 : Int32) : Prop :=
  ((v1 < 12 →
    (((V_E_bit p0 v1 M) = 1 →
      Q v1) ∧
     (¬ (V_E_bit p0 v1 M) = 1 →
      ih (v1 + 1)))) ∧
   (¬ v1 < 12 →
    Q (-1)))
def W_World_lowest_2 (p0 : Int32) (M : MM) (Q : Int32 → Prop) : Nat → Int32 → Prop
  | 0, _ => True
  | N + 1, v1 => B_World_lowest_2 p0 M Q N (W_World_lowest_2 p0 M Q N) v1
theorem I_World_lowest_2 (p0 : Int32) (M : MM) (Q : Int32 → Prop) (inv : Int32 → Prop) (hs : ∀ (N : Nat) (ih : Int32 → Prop) (v1 : Int32), (∀ (v1 : Int32), inv v1 → ih v1) → inv v1 → B_World_lowest_2 p0 M Q N ih v1) : ∀ (N : Nat) (v1 : Int32), inv v1 → W_World_lowest_2 p0 M Q N v1 := by
  intro N
  induction N with
  | zero => intros; trivial
  | succ N IH =>
    intro v1 h
    exact hs N _ v1 IH h
theorem q_World_lowest_2 {X : Option (List AI)} {N0 : Nat} {p0 : Int32} {M : MM} {Q : Int32 → Prop}   : ∀ (N : Nat), N ≤ N0 → ∀ (v1 : Int32), W_World_lowest_2 p0 M Q N v1 → pM X N 122 2 [(0, .inl (.inl p0)), (1, .inl (.inl v1))] [] M (Pi Q M) := by
  intro N
  induction N with
  | zero => intros; exact pM_zero
  | succ N IH =>
    intro hN v1 h
    replace hN := Nat.le_of_succ_le hN
    replace h : B_World_lowest_2 p0 M Q N (W_World_lowest_2 p0 M Q N) v1 := h
    refine pM_s (pMs_iln rfl rfl ?_)
    refine pM_bi rfl kb_12 ?_
    refine pM_cge rfl rfl (fun h1 => ?_) (fun h1 => ?_)
    · replace h := h.2 h1
      refine pM_ic rfl ki_m1 ?_
      exact pM_ri rfl (⟨_, rfl, rfl, h⟩)
    · replace h := h.1 h1
      refine pM_iln rfl rfl ?_
      refine pM_iln rfl rfl ?_
      refine pM_qVi (as := [.inl (.inl p0), .inl (.inl v1)]) (T := []) rfl rfl (fun _ _ => rfl) rfl (q_E_bit ) ?_
      refine pM_ic rfl ki_1 ?_
      refine pM_cne rfl rfl (fun h2 => ?_) (fun h2 => ?_)
      · replace h := h.2 h2
        refine pM_ii rfl rfl rfl ki_1 ?_
        refine pM_go rfl rfl ?_
        refine pM_w (F2 := [(0, .inl (.inl p0)), (1, .inl (.inl (v1 + 1)))]) (fun L hL => lo_cons (lo_lk hL rfl) (lo_cons (lo_lk hL rfl) lo_nil)) ?_
        exact IH hN (v1 + 1) h
      · replace h := h.1 h2
        refine pM_iln rfl rfl ?_
        exact pM_ri rfl (⟨_, rfl, rfl, h⟩)
/-- 122: EarCode$World.lowest(I)I -/
def W_World_lowest (p0 : Int32) (N : Nat) (M : MM) (Q : Int32 → Prop) : Prop :=
  W_World_lowest_2 p0 M Q N 0
theorem q_World_lowest {X : Option (List AI)} {N : Nat} {M : MM} {p0 : Int32} {Q : Int32 → Prop}  (h : W_World_lowest p0 N M Q) : pM X N 122 0 (ea_ar 0 [.inl (.inl p0)]) [] M (Pi Q M) := by
  refine pM_w (F2 := [(0, .inl (.inl p0))]) (fun L hL => lo_cons (lo_lk hL rfl) lo_nil) ?_
  refine pM_ic rfl ki_0 ?_
  refine pM_isn rfl rfl ?_
  refine pM_w (F2 := [(0, .inl (.inl p0)), (1, .inl (.inl 0))]) (fun L hL => lo_cons (lo_lk hL rfl) (lo_cons (lo_lk hL rfl) lo_nil)) ?_
  refine q_World_lowest_2   N (Nat.le_refl N) 0 h
def B_World_judge_112 (a : Nat) (p2 : Int32) (p3 : Int32) (p4 : Int32) (u5 : Int32) (Q : MM → Prop) (N : Nat) (ih : Int32 → MM → Prop) (v7 : Int32) (M : MM) : Prop :=
  ((v7 < (M.1 a 0) →
    (((V_E_bit p3 v7 M) = 1 →
      (((V_World_placeAhead a v7 0 M) = (rm u5 8) →
        ih (v7 + 1) (wj M (a + 8) (ni v7) ((M.2 (a + 8) (ni v7)) ||| (ll (Int64.ofNat 1) u5)))) ∧
       (¬ (V_World_placeAhead a v7 0 M) = (rm u5 8) →
        ih (v7 + 1) M))) ∧
     (¬ (V_E_bit p3 v7 M) = 1 →
      ih (v7 + 1) M))) ∧
   (¬ v7 < (M.1 a 0) →
    Q M))
def W_World_judge_112 (a : Nat) (p2 : Int32) (p3 : Int32) (p4 : Int32) (u5 : Int32) (Q : MM → Prop) : Nat → Int32 → MM → Prop
  | 0, _, _ => True
  | N + 1, v7, M => B_World_judge_112 a p2 p3 p4 u5 Q N (W_World_judge_112 a p2 p3 p4 u5 Q N) v7 M
theorem I_World_judge_112 (a : Nat) (p2 : Int32) (p3 : Int32) (p4 : Int32) (u5 : Int32) (Q : MM → Prop) (inv : Int32 → MM → Prop) (hs : ∀ (N : Nat) (ih : Int32 → MM → Prop) (v7 : Int32) (M : MM), (∀ (v7 : Int32) (M : MM), inv v7 M → ih v7 M) → inv v7 M → B_World_judge_112 a p2 p3 p4 u5 Q N ih v7 M) : ∀ (N : Nat) (v7 : Int32) (M : MM), inv v7 M → W_World_judge_112 a p2 p3 p4 u5 Q N v7 M := by
  intro N
  induction N with
  | zero => intros; trivial
  | succ N IH =>
    intro v7 M h
    exact hs N _ v7 M IH h
theorem q_World_judge_112 {X : Option (List AI)} {N0 : Nat} {a : Nat} {p2 : Int32} {p3 : Int32} {p4 : Int32} {u5 : Int32} {Q : MM → Prop} (ha : isW a)  : ∀ (N : Nat), N ≤ N0 → ∀ (v7 : Int32) (M : MM), W_World_judge_112 a p2 p3 p4 u5 Q N v7 M → pM X N 121 112 [(0, .inr (.inl (some a))), (3, .inl (.inl p3)), (5, .inl (.inl u5)), (7, .inl (.inl v7))] [] M (Ru Q) := by
  intro N
  induction N with
  | zero => intros; exact pM_zero
  | succ N IH =>
    intro hN v7 M h
    replace hN := Nat.le_of_succ_le hN
    replace h : B_World_judge_112 a p2 p3 p4 u5 Q N (W_World_judge_112 a p2 p3 p4 u5 Q N) v7 M := h
    refine pM_s (pMs_il rfl rfl ?_)
    refine pM_aln rfl rfl rfl ?_
    refine pM_gi rfl rfl ha.1 rfl ?_
    refine pM_cge rfl rfl (fun h11 => ?_) (fun h11 => ?_)
    · replace h := h.2 h11
      exact pM_ru rfl (⟨rfl, h⟩)
    · replace h := h.1 h11
      refine pM_iln rfl rfl ?_
      refine pM_il rfl rfl ?_
      refine pM_qVi (as := [.inl (.inl p3), .inl (.inl v7)]) (T := []) rfl rfl (fun _ _ => rfl) rfl (q_E_bit ) ?_
      refine pM_ic rfl ki_1 ?_
      refine pM_cne rfl rfl (fun h12 => ?_) (fun h12 => ?_)
      · replace h := h.2 h12
        refine pM_ii rfl rfl rfl ki_1 ?_
        refine pM_go rfl rfl ?_
        refine pM_w (F2 := [(0, .inr (.inl (some a))), (3, .inl (.inl p3)), (5, .inl (.inl u5)), (7, .inl (.inl (v7 + 1)))]) (fun L hL => lo_cons (lo_lk hL rfl) (lo_cons (lo_lk hL rfl) (lo_cons (lo_lk hL rfl) (lo_cons (lo_lk hL rfl) lo_nil)))) ?_
        exact IH hN (v7 + 1) M h
      · replace h := h.1 h12
        refine pM_aln rfl rfl rfl ?_
        refine pM_il rfl rfl ?_
        refine pM_ic rfl ki_0 ?_
        refine pM_qVi (as := [.inr (.inl (some a)), .inl (.inl v7), .inl (.inl 0)]) (T := []) rfl rfl (fun C hC => cl_v hC ha.1 rfl rfl rfl) rfl (q_World_placeAhead ha) ?_
        refine pM_il rfl rfl ?_
        refine pM_bi rfl kb_8 ?_
        refine pM_rem rfl ?_
        refine pM_cne rfl rfl (fun h13 => ?_) (fun h13 => ?_)
        · replace h := h.2 h13
          refine pM_ii rfl rfl rfl ki_1 ?_
          refine pM_go rfl rfl ?_
          refine pM_w (F2 := [(0, .inr (.inl (some a))), (3, .inl (.inl p3)), (5, .inl (.inl u5)), (7, .inl (.inl (v7 + 1)))]) (fun L hL => lo_cons (lo_lk hL rfl) (lo_cons (lo_lk hL rfl) (lo_cons (lo_lk hL rfl) (lo_cons (lo_lk hL rfl) lo_nil)))) ?_
          exact IH hN (v7 + 1) M h
        · replace h := h.1 h13
          refine pM_aln rfl rfl rfl ?_
          refine pM_gr rfl rfl ha.1 rfl ?_
          refine pM_il rfl rfl ?_
          refine pM_p (pc' := 153) (S' := [.inl (.inl v7), .inr (.inl (some (a + 8))), .inl (.inl v7), .inr (.inl (some (a + 8)))]) rfl rfl (fun _ => rfl) ?_
          refine pM_la rfl ha.2.2.2.2.2.2.2.2.1 ?_
          refine pM_lc rfl ?_
          refine pM_il rfl rfl ?_
          refine pM_p (pc' := 158) (S' := [.inr (.inr (.inl (some (ll (Int64.ofNat 1) u5)))), .inr (.inr (.inl (some (M.2 (a + 8) (ni v7))))), .inl (.inl v7), .inr (.inl (some (a + 8)))]) rfl rfl (fun _ => rfl) ?_
          refine pM_p (pc' := 159) (S' := [.inr (.inr (.inl (some ((M.2 (a + 8) (ni v7)) ||| (ll (Int64.ofNat 1) u5))))), .inl (.inl v7), .inr (.inl (some (a + 8)))]) rfl rfl (fun _ => rfl) ?_
          refine pM_sg rfl ha.2.2.2.2.2.2.2.2.1 ?_
          refine pM_ii rfl rfl rfl ki_1 ?_
          refine pM_go rfl rfl ?_
          refine pM_w (F2 := [(0, .inr (.inl (some a))), (3, .inl (.inl p3)), (5, .inl (.inl u5)), (7, .inl (.inl (v7 + 1)))]) (fun L hL => lo_cons (lo_lk hL rfl) (lo_cons (lo_lk hL rfl) (lo_cons (lo_lk hL rfl) (lo_cons (lo_lk hL rfl) lo_nil)))) ?_
          exact IH hN (v7 + 1) (wj M (a + 8) (ni v7) ((M.2 (a + 8) (ni v7)) ||| (ll (Int64.ofNat 1) u5))) h
/-- 121: EarCode$World.judge(LEarCode$Law;III)V -/
def W_World_judge (a : Nat) (p2 : Int32) (p3 : Int32) (p4 : Int32) (N : Nat) (M : MM) (Q : MM → Prop) : Prop :=
  W_Law_bearing 8 0 (V_World_matterAhead a p2 0 M) p2 (V_World_knownBy a p2 M) (M.1 a 13) N M (fun r1 =>
    (((p4 &&& r1) = 0 →
      Q M) ∧
     (¬ (p4 &&& r1) = 0 →
      W_World_draw a N (wi M a 17 ((M.1 a 17) + (M.1 (a + 9) (ni ((V_World_matterAhead a p2 0 M) / 8))))) (fun r4 M5 =>
        (((rm r4 100) < (M5.1 a 11) →
          W_World_lowest (p4 &&& r1) N (wi (wi M5 (a + 3) (ni p2) (M5.1 a 12)) a 16 (((wi M5 (a + 3) (ni p2) (M5.1 a 12)).1 a 16) + 1)) (fun r7 =>
            W_Log_add (a + 10) ((wi (wi M5 (a + 3) (ni p2) (M5.1 a 12)) a 16 (((wi M5 (a + 3) (ni p2) (M5.1 a 12)).1 a 16) + 1)).1 a 13) p2 (V_World_matterAhead a p2 0 M) r7 N (wi (wi M5 (a + 3) (ni p2) (M5.1 a 12)) a 16 (((wi M5 (a + 3) (ni p2) (M5.1 a 12)).1 a 16) + 1)) (fun M10 =>
              W_World_judge_112 a p2 p3 p4 (V_World_matterAhead a p2 0 M) Q N 0 M10))) ∧
         (¬ (rm r4 100) < (M5.1 a 11) →
          Q M5))))))
theorem q_World_judge {X : Option (List AI)} {N : Nat} {M : MM} {a : Nat} {p2 : Int32} {p3 : Int32} {p4 : Int32} {Q : MM → Prop} (ha : isW a) (h : W_World_judge a p2 p3 p4 N M Q) : pM X N 121 0 (ea_ar 0 [.inr (.inl (some a)), .inr (.inl (some 8)), .inl (.inl p2), .inl (.inl p3), .inl (.inl p4)]) [] M (Ru Q) := by
  refine pM_w (F2 := [(0, .inr (.inl (some a))), (1, .inr (.inl (some 8))), (2, .inl (.inl p2)), (3, .inl (.inl p3)), (4, .inl (.inl p4))]) (fun L hL => lo_cons (lo_lk hL rfl) (lo_cons (lo_lk hL rfl) (lo_cons (lo_lk hL rfl) (lo_cons (lo_lk hL rfl) (lo_cons (lo_lk hL rfl) lo_nil))))) ?_
  refine pM_aln rfl rfl rfl ?_
  refine pM_iln rfl rfl ?_
  refine pM_ic rfl ki_0 ?_
  refine pM_qVi (as := [.inr (.inl (some a)), .inl (.inl p2), .inl (.inl 0)]) (T := []) rfl rfl (fun C hC => cl_v hC ha.1 rfl rfl rfl) rfl (q_World_matterAhead ha) ?_
  refine pM_is rfl rfl ?_
  refine pM_il rfl rfl ?_
  refine pM_aln rfl rfl rfl ?_
  refine pM_ic rfl ki_0 ?_
  refine pM_il rfl rfl ?_
  refine pM_iln rfl rfl ?_
  refine pM_aln rfl rfl rfl ?_
  refine pM_iln rfl rfl ?_
  refine pM_qVi (as := [.inr (.inl (some a)), .inl (.inl p2)]) (T := [.inl (.inl p2), .inl (.inl (V_World_matterAhead a p2 0 M)), .inl (.inl 0), .inr (.inl (some 8)), .inl (.inl p4)]) rfl rfl (fun C hC => cl_v hC ha.1 rfl rfl rfl) rfl (q_World_knownBy ha) ?_
  refine pM_aln rfl rfl rfl ?_
  refine pM_gi rfl rfl ha.1 rfl ?_
  refine pM_qPi (as := [.inr (.inl (some 8)), .inl (.inl 0), .inl (.inl (V_World_matterAhead a p2 0 M)), .inl (.inl p2), .inl (.inl (V_World_knownBy a p2 M)), .inl (.inl (M.1 a 13))]) (T := [.inl (.inl p4)]) rfl rfl (fun C hC => cl_v hC rfl rfl rfl rfl) rfl (q_Law_bearing isK_8 h) (fun r1 h => ?_)
  refine pM_and rfl ?_
  refine pM_is rfl rfl ?_
  refine pM_il rfl rfl ?_
  refine pM_zne rfl rfl (fun h3 => ?_) (fun h3 => ?_)
  · replace h := h.2 h3
    refine pM_aln rfl rfl rfl ?_
    refine pM_p (pc' := 38) (S' := [.inr (.inl (some a)), .inr (.inl (some a))]) rfl rfl (fun _ => rfl) ?_
    refine pM_gi rfl rfl ha.1 rfl ?_
    refine pM_aln rfl rfl rfl ?_
    refine pM_gr rfl rfl ha.1 rfl ?_
    refine pM_il rfl rfl ?_
    refine pM_bi rfl kb_8 ?_
    refine pM_div rfl ?_
    refine pM_ai rfl ha.2.2.2.2.2.2.2.2.2.1 (one_p _) ?_
    refine pM_add rfl ?_
    refine pM_pi rfl rfl ha.1 rfl ?_
    refine pM_aln rfl rfl rfl ?_
    refine pM_qRi (as := [.inr (.inl (some a))]) (T := []) rfl rfl (fun C hC => cl_v hC ha.1 rfl rfl rfl) rfl (q_World_draw ha h) (fun r4 M5 h => ?_)
    refine pM_bi rfl kb_100 ?_
    refine pM_rem rfl ?_
    refine pM_aln rfl rfl rfl ?_
    refine pM_gi rfl rfl ha.1 rfl ?_
    refine pM_clt rfl rfl (fun h6 => ?_) (fun h6 => ?_)
    · replace h := h.1 h6
      refine pM_aln rfl rfl rfl ?_
      refine pM_gr rfl rfl ha.1 rfl ?_
      refine pM_iln rfl rfl ?_
      refine pM_aln rfl rfl rfl ?_
      refine pM_gi rfl rfl ha.1 rfl ?_
      refine pM_sa rfl ha.2.2.2.1 (one_p _) ?_
      refine pM_aln rfl rfl rfl ?_
      refine pM_p (pc' := 82) (S' := [.inr (.inl (some a)), .inr (.inl (some a))]) rfl rfl (fun _ => rfl) ?_
      refine pM_gi rfl rfl ha.1 rfl ?_
      refine pM_ic rfl ki_1 ?_
      refine pM_add rfl ?_
      refine pM_pi rfl rfl ha.1 rfl ?_
      refine pM_aln rfl rfl rfl ?_
      refine pM_gr rfl rfl ha.1 rfl ?_
      refine pM_aln rfl rfl rfl ?_
      refine pM_gi rfl rfl ha.1 rfl ?_
      refine pM_iln rfl rfl ?_
      refine pM_il rfl rfl ?_
      refine pM_il rfl rfl ?_
      refine pM_qPi (as := [.inl (.inl (p4 &&& r1))]) (T := [.inl (.inl (V_World_matterAhead a p2 0 M)), .inl (.inl p2), .inl (.inl ((wi (wi M5 (a + 3) (ni p2) (M5.1 a 12)) a 16 (((wi M5 (a + 3) (ni p2) (M5.1 a 12)).1 a 16) + 1)).1 a 13)), .inr (.inl (some (a + 10)))]) rfl rfl (fun _ _ => rfl) rfl (q_World_lowest  h) (fun r7 h => ?_)
      refine pM_qRu (as := [.inr (.inl (some (a + 10))), .inl (.inl ((wi (wi M5 (a + 3) (ni p2) (M5.1 a 12)) a 16 (((wi M5 (a + 3) (ni p2) (M5.1 a 12)).1 a 16) + 1)).1 a 13)), .inl (.inl p2), .inl (.inl (V_World_matterAhead a p2 0 M)), .inl (.inl r7)]) (T := []) rfl rfl (fun C hC => cl_v hC ha.2.2.2.2.2.2.2.2.2.2.1 rfl rfl rfl) rfl (q_Log_add ha.2.2.2.2.2.2.2.2.2.2 h) (fun M10 h => ?_)
      refine pM_ic rfl ki_0 ?_
      refine pM_is rfl rfl ?_
      refine pM_w (F2 := [(0, .inr (.inl (some a))), (3, .inl (.inl p3)), (5, .inl (.inl (V_World_matterAhead a p2 0 M))), (7, .inl (.inl 0))]) (fun L hL => lo_cons (lo_lk hL rfl) (lo_cons (lo_lk hL rfl) (lo_cons (lo_lk hL rfl) (lo_cons (lo_lk hL rfl) lo_nil)))) ?_
      refine q_World_judge_112 ha  N (Nat.le_refl N) 0 M10 h
    · replace h := h.2 h6
      exact pM_ru rfl (⟨rfl, h⟩)
  · replace h := h.1 h3
    exact pM_ru rfl (⟨rfl, h⟩)
def B_World_passDay_28 (a : Nat) (u2 : Int32) (u3 : Int32) (u4 : Int32) (k63 : MM → Prop) (Q : MM → Prop) (N : Nat) (ih : Int32 → MM → Prop) (v5 : Int32) (M : MM) : Prop :=
  ((v5 < (M.1 a 0) →
    (((V_E_bit u3 v5 M) = 1 →
      W_World_judge a v5 u2 u4 N M (fun M10 =>
        ih (v5 + 1) M10)) ∧
     (¬ (V_E_bit u3 v5 M) = 1 →
      ih (v5 + 1) M))) ∧
   (¬ v5 < (M.1 a 0) →
    k63 M))
def W_World_passDay_28 (a : Nat) (u2 : Int32) (u3 : Int32) (u4 : Int32) (k63 : MM → Prop) (Q : MM → Prop) : Nat → Int32 → MM → Prop
  | 0, _, _ => True
  | N + 1, v5, M => B_World_passDay_28 a u2 u3 u4 k63 Q N (W_World_passDay_28 a u2 u3 u4 k63 Q N) v5 M
theorem I_World_passDay_28 (a : Nat) (u2 : Int32) (u3 : Int32) (u4 : Int32) (k63 : MM → Prop) (Q : MM → Prop) (inv : Int32 → MM → Prop) (hs : ∀ (N : Nat) (ih : Int32 → MM → Prop) (v5 : Int32) (M : MM), (∀ (v5 : Int32) (M : MM), inv v5 M → ih v5 M) → inv v5 M → B_World_passDay_28 a u2 u3 u4 k63 Q N ih v5 M) : ∀ (N : Nat) (v5 : Int32) (M : MM), inv v5 M → W_World_passDay_28 a u2 u3 u4 k63 Q N v5 M := by
  intro N
  induction N with
  | zero => intros; trivial
  | succ N IH =>
    intro v5 M h
    exact hs N _ v5 M IH h
theorem q_World_passDay_28 {X : Option (List AI)} {N0 : Nat} {a : Nat} {u2 : Int32} {u3 : Int32} {u4 : Int32} {k63 : MM → Prop} {Q : MM → Prop} (ha : isW a) (hk63 : ∀  (M : MM), k63 M → pM X N0 118 63 [(0, .inr (.inl (some a))), (2, .inl (.inl u2))] [] M (Ru Q)) : ∀ (N : Nat), N ≤ N0 → ∀ (v5 : Int32) (M : MM), W_World_passDay_28 a u2 u3 u4 k63 Q N v5 M → pM X N 118 28 [(0, .inr (.inl (some a))), (1, .inr (.inl (some 8))), (2, .inl (.inl u2)), (3, .inl (.inl u3)), (4, .inl (.inl u4)), (5, .inl (.inl v5))] [] M (Ru Q) := by
  intro N
  induction N with
  | zero => intros; exact pM_zero
  | succ N IH =>
    intro hN v5 M h
    replace hN := Nat.le_of_succ_le hN
    replace h : B_World_passDay_28 a u2 u3 u4 k63 Q N (W_World_passDay_28 a u2 u3 u4 k63 Q N) v5 M := h
    refine pM_s (pMs_il rfl rfl ?_)
    refine pM_aln rfl rfl rfl ?_
    refine pM_gi rfl rfl ha.1 rfl ?_
    refine pM_cge rfl rfl (fun h7 => ?_) (fun h7 => ?_)
    · replace h := h.2 h7
      refine pM_w (F2 := [(0, .inr (.inl (some a))), (2, .inl (.inl u2))]) (fun L hL => lo_cons (lo_lk hL rfl) (lo_cons (lo_lk hL rfl) lo_nil)) ?_
      exact pM_le hN (hk63 _ h)
    · replace h := h.1 h7
      refine pM_iln rfl rfl ?_
      refine pM_il rfl rfl ?_
      refine pM_qVi (as := [.inl (.inl u3), .inl (.inl v5)]) (T := []) rfl rfl (fun _ _ => rfl) rfl (q_E_bit ) ?_
      refine pM_ic rfl ki_1 ?_
      refine pM_cne rfl rfl (fun h8 => ?_) (fun h8 => ?_)
      · replace h := h.2 h8
        refine pM_ii rfl rfl rfl ki_1 ?_
        refine pM_go rfl rfl ?_
        refine pM_w (F2 := [(0, .inr (.inl (some a))), (1, .inr (.inl (some 8))), (2, .inl (.inl u2)), (3, .inl (.inl u3)), (4, .inl (.inl u4)), (5, .inl (.inl (v5 + 1)))]) (fun L hL => lo_cons (lo_lk hL rfl) (lo_cons (lo_lk hL rfl) (lo_cons (lo_lk hL rfl) (lo_cons (lo_lk hL rfl) (lo_cons (lo_lk hL rfl) (lo_cons (lo_lk hL rfl) lo_nil)))))) ?_
        exact IH hN (v5 + 1) M h
      · replace h := h.1 h8
        refine pM_aln rfl rfl rfl ?_
        refine pM_aln rfl rfl rfl ?_
        refine pM_il rfl rfl ?_
        refine pM_iln rfl rfl ?_
        refine pM_il rfl rfl ?_
        refine pM_qRu (as := [.inr (.inl (some a)), .inr (.inl (some 8)), .inl (.inl v5), .inl (.inl u2), .inl (.inl u4)]) (T := []) rfl rfl (fun C hC => cl_v hC ha.1 rfl rfl rfl) rfl (q_World_judge ha h) (fun M10 h => ?_)
        refine pM_ii rfl rfl rfl ki_1 ?_
        refine pM_go rfl rfl ?_
        refine pM_w (F2 := [(0, .inr (.inl (some a))), (1, .inr (.inl (some 8))), (2, .inl (.inl u2)), (3, .inl (.inl u3)), (4, .inl (.inl u4)), (5, .inl (.inl (v5 + 1)))]) (fun L hL => lo_cons (lo_lk hL rfl) (lo_cons (lo_lk hL rfl) (lo_cons (lo_lk hL rfl) (lo_cons (lo_lk hL rfl) (lo_cons (lo_lk hL rfl) (lo_cons (lo_lk hL rfl) lo_nil)))))) ?_
        exact IH hN (v5 + 1) M10 h
def B_World_passDay_66 (a : Nat) (u2 : Int32) (Q : MM → Prop) (N : Nat) (ih : Int32 → MM → Prop) (v5 : Int32) (M : MM) : Prop :=
  ((v5 < (M.1 a 0) →
    (((V_E_bit u2 v5 M) = 0 →
      ((0 < (M.1 (a + 3) (ni v5)) →
        ((((wi (wi M (a + 3) (ni v5) ((M.1 (a + 3) (ni v5)) - 1)) (a + 7) (ni v5) (((wi M (a + 3) (ni v5) ((M.1 (a + 3) (ni v5)) - 1)).1 (a + 7) (ni v5)) + 1)).1 (a + 7) (ni v5)) < ((wi (wi M (a + 3) (ni v5) ((M.1 (a + 3) (ni v5)) - 1)) (a + 7) (ni v5) (((wi M (a + 3) (ni v5) ((M.1 (a + 3) (ni v5)) - 1)).1 (a + 7) (ni v5)) + 1)).1 (a + 6) (ni v5)) →
          ih (v5 + 1) (wi (wi M (a + 3) (ni v5) ((M.1 (a + 3) (ni v5)) - 1)) (a + 7) (ni v5) (((wi M (a + 3) (ni v5) ((M.1 (a + 3) (ni v5)) - 1)).1 (a + 7) (ni v5)) + 1))) ∧
         (¬ ((wi (wi M (a + 3) (ni v5) ((M.1 (a + 3) (ni v5)) - 1)) (a + 7) (ni v5) (((wi M (a + 3) (ni v5) ((M.1 (a + 3) (ni v5)) - 1)).1 (a + 7) (ni v5)) + 1)).1 (a + 7) (ni v5)) < ((wi (wi M (a + 3) (ni v5) ((M.1 (a + 3) (ni v5)) - 1)) (a + 7) (ni v5) (((wi M (a + 3) (ni v5) ((M.1 (a + 3) (ni v5)) - 1)).1 (a + 7) (ni v5)) + 1)).1 (a + 6) (ni v5)) →
          ih (v5 + 1) (wi (wi (wi M (a + 3) (ni v5) ((M.1 (a + 3) (ni v5)) - 1)) (a + 7) (ni v5) (((wi M (a + 3) (ni v5) ((M.1 (a + 3) (ni v5)) - 1)).1 (a + 7) (ni v5)) + 1)) (a + 7) (ni v5) 0)))) ∧
       (¬ 0 < (M.1 (a + 3) (ni v5)) →
        ((((wi M (a + 7) (ni v5) ((M.1 (a + 7) (ni v5)) + 1)).1 (a + 7) (ni v5)) < ((wi M (a + 7) (ni v5) ((M.1 (a + 7) (ni v5)) + 1)).1 (a + 6) (ni v5)) →
          ih (v5 + 1) (wi M (a + 7) (ni v5) ((M.1 (a + 7) (ni v5)) + 1))) ∧
         (¬ ((wi M (a + 7) (ni v5) ((M.1 (a + 7) (ni v5)) + 1)).1 (a + 7) (ni v5)) < ((wi M (a + 7) (ni v5) ((M.1 (a + 7) (ni v5)) + 1)).1 (a + 6) (ni v5)) →
          ih (v5 + 1) (wi (wi M (a + 7) (ni v5) ((M.1 (a + 7) (ni v5)) + 1)) (a + 7) (ni v5) 0)))))) ∧
     (¬ (V_E_bit u2 v5 M) = 0 →
      ((((wi M (a + 7) (ni v5) ((M.1 (a + 7) (ni v5)) + 1)).1 (a + 7) (ni v5)) < ((wi M (a + 7) (ni v5) ((M.1 (a + 7) (ni v5)) + 1)).1 (a + 6) (ni v5)) →
        ih (v5 + 1) (wi M (a + 7) (ni v5) ((M.1 (a + 7) (ni v5)) + 1))) ∧
       (¬ ((wi M (a + 7) (ni v5) ((M.1 (a + 7) (ni v5)) + 1)).1 (a + 7) (ni v5)) < ((wi M (a + 7) (ni v5) ((M.1 (a + 7) (ni v5)) + 1)).1 (a + 6) (ni v5)) →
        ih (v5 + 1) (wi (wi M (a + 7) (ni v5) ((M.1 (a + 7) (ni v5)) + 1)) (a + 7) (ni v5) 0)))))) ∧
   (¬ v5 < (M.1 a 0) →
    Q (wi M a 13 ((M.1 a 13) + 1))))
def W_World_passDay_66 (a : Nat) (u2 : Int32) (Q : MM → Prop) : Nat → Int32 → MM → Prop
  | 0, _, _ => True
  | N + 1, v5, M => B_World_passDay_66 a u2 Q N (W_World_passDay_66 a u2 Q N) v5 M
theorem I_World_passDay_66 (a : Nat) (u2 : Int32) (Q : MM → Prop) (inv : Int32 → MM → Prop) (hs : ∀ (N : Nat) (ih : Int32 → MM → Prop) (v5 : Int32) (M : MM), (∀ (v5 : Int32) (M : MM), inv v5 M → ih v5 M) → inv v5 M → B_World_passDay_66 a u2 Q N ih v5 M) : ∀ (N : Nat) (v5 : Int32) (M : MM), inv v5 M → W_World_passDay_66 a u2 Q N v5 M := by
  intro N
  induction N with
  | zero => intros; trivial
  | succ N IH =>
    intro v5 M h
    exact hs N _ v5 M IH h
theorem q_World_passDay_66 {X : Option (List AI)} {N0 : Nat} {a : Nat} {u2 : Int32} {Q : MM → Prop} (ha : isW a)  : ∀ (N : Nat), N ≤ N0 → ∀ (v5 : Int32) (M : MM), W_World_passDay_66 a u2 Q N v5 M → pM X N 118 66 [(0, .inr (.inl (some a))), (2, .inl (.inl u2)), (5, .inl (.inl v5))] [] M (Ru Q) := by
  intro N
  induction N with
  | zero => intros; exact pM_zero
  | succ N IH =>
    intro hN v5 M h
    replace hN := Nat.le_of_succ_le hN
    replace h : B_World_passDay_66 a u2 Q N (W_World_passDay_66 a u2 Q N) v5 M := h
    refine pM_s (pMs_il rfl rfl ?_)
    refine pM_aln rfl rfl rfl ?_
    refine pM_gi rfl rfl ha.1 rfl ?_
    refine pM_cge rfl rfl (fun h12 => ?_) (fun h12 => ?_)
    · replace h := h.2 h12
      refine pM_aln rfl rfl rfl ?_
      refine pM_p (pc' := 149) (S' := [.inr (.inl (some a)), .inr (.inl (some a))]) rfl rfl (fun _ => rfl) ?_
      refine pM_gi rfl rfl ha.1 rfl ?_
      refine pM_ic rfl ki_1 ?_
      refine pM_add rfl ?_
      refine pM_pi rfl rfl ha.1 rfl ?_
      exact pM_ru rfl (⟨rfl, h⟩)
    · replace h := h.1 h12
      refine pM_iln rfl rfl ?_
      refine pM_il rfl rfl ?_
      refine pM_qVi (as := [.inl (.inl u2), .inl (.inl v5)]) (T := []) rfl rfl (fun _ _ => rfl) rfl (q_E_bit ) ?_
      refine pM_zne rfl rfl (fun h13 => ?_) (fun h13 => ?_)
      · replace h := h.2 h13
        refine pM_aln rfl rfl rfl ?_
        refine pM_gr rfl rfl ha.1 rfl ?_
        refine pM_il rfl rfl ?_
        refine pM_p (pc' := 112) (S' := [.inl (.inl v5), .inr (.inl (some (a + 7))), .inl (.inl v5), .inr (.inl (some (a + 7)))]) rfl rfl (fun _ => rfl) ?_
        refine pM_ai rfl ha.2.2.2.2.2.2.2.1 (one_p _) ?_
        refine pM_ic rfl ki_1 ?_
        refine pM_add rfl ?_
        refine pM_sa rfl ha.2.2.2.2.2.2.2.1 (one_p _) ?_
        refine pM_aln rfl rfl rfl ?_
        refine pM_gr rfl rfl ha.1 rfl ?_
        refine pM_il rfl rfl ?_
        refine pM_ai rfl ha.2.2.2.2.2.2.2.1 (one_p _) ?_
        refine pM_aln rfl rfl rfl ?_
        refine pM_gr rfl rfl ha.1 rfl ?_
        refine pM_il rfl rfl ?_
        refine pM_ai rfl ha.2.2.2.2.2.2.1 (one_p _) ?_
        refine pM_clt rfl rfl (fun h17 => ?_) (fun h17 => ?_)
        · replace h := h.1 h17
          refine pM_ii rfl rfl rfl ki_1 ?_
          refine pM_go rfl rfl ?_
          refine pM_w (F2 := [(0, .inr (.inl (some a))), (2, .inl (.inl u2)), (5, .inl (.inl (v5 + 1)))]) (fun L hL => lo_cons (lo_lk hL rfl) (lo_cons (lo_lk hL rfl) (lo_cons (lo_lk hL rfl) lo_nil))) ?_
          exact IH hN (v5 + 1) (wi M (a + 7) (ni v5) ((M.1 (a + 7) (ni v5)) + 1)) h
        · replace h := h.2 h17
          refine pM_aln rfl rfl rfl ?_
          refine pM_gr rfl rfl ha.1 rfl ?_
          refine pM_il rfl rfl ?_
          refine pM_ic rfl ki_0 ?_
          refine pM_sa rfl ha.2.2.2.2.2.2.2.1 (one_p _) ?_
          refine pM_ii rfl rfl rfl ki_1 ?_
          refine pM_go rfl rfl ?_
          refine pM_w (F2 := [(0, .inr (.inl (some a))), (2, .inl (.inl u2)), (5, .inl (.inl (v5 + 1)))]) (fun L hL => lo_cons (lo_lk hL rfl) (lo_cons (lo_lk hL rfl) (lo_cons (lo_lk hL rfl) lo_nil))) ?_
          exact IH hN (v5 + 1) (wi (wi M (a + 7) (ni v5) ((M.1 (a + 7) (ni v5)) + 1)) (a + 7) (ni v5) 0) h
      · replace h := h.1 h13
        refine pM_aln rfl rfl rfl ?_
        refine pM_gr rfl rfl ha.1 rfl ?_
        refine pM_il rfl rfl ?_
        refine pM_ai rfl ha.2.2.2.1 (one_p _) ?_
        refine pM_zle rfl rfl (fun h14 => ?_) (fun h14 => ?_)
        · replace h := h.2 h14
          refine pM_aln rfl rfl rfl ?_
          refine pM_gr rfl rfl ha.1 rfl ?_
          refine pM_il rfl rfl ?_
          refine pM_p (pc' := 112) (S' := [.inl (.inl v5), .inr (.inl (some (a + 7))), .inl (.inl v5), .inr (.inl (some (a + 7)))]) rfl rfl (fun _ => rfl) ?_
          refine pM_ai rfl ha.2.2.2.2.2.2.2.1 (one_p _) ?_
          refine pM_ic rfl ki_1 ?_
          refine pM_add rfl ?_
          refine pM_sa rfl ha.2.2.2.2.2.2.2.1 (one_p _) ?_
          refine pM_aln rfl rfl rfl ?_
          refine pM_gr rfl rfl ha.1 rfl ?_
          refine pM_il rfl rfl ?_
          refine pM_ai rfl ha.2.2.2.2.2.2.2.1 (one_p _) ?_
          refine pM_aln rfl rfl rfl ?_
          refine pM_gr rfl rfl ha.1 rfl ?_
          refine pM_il rfl rfl ?_
          refine pM_ai rfl ha.2.2.2.2.2.2.1 (one_p _) ?_
          refine pM_clt rfl rfl (fun h16 => ?_) (fun h16 => ?_)
          · replace h := h.1 h16
            refine pM_ii rfl rfl rfl ki_1 ?_
            refine pM_go rfl rfl ?_
            refine pM_w (F2 := [(0, .inr (.inl (some a))), (2, .inl (.inl u2)), (5, .inl (.inl (v5 + 1)))]) (fun L hL => lo_cons (lo_lk hL rfl) (lo_cons (lo_lk hL rfl) (lo_cons (lo_lk hL rfl) lo_nil))) ?_
            exact IH hN (v5 + 1) (wi M (a + 7) (ni v5) ((M.1 (a + 7) (ni v5)) + 1)) h
          · replace h := h.2 h16
            refine pM_aln rfl rfl rfl ?_
            refine pM_gr rfl rfl ha.1 rfl ?_
            refine pM_il rfl rfl ?_
            refine pM_ic rfl ki_0 ?_
            refine pM_sa rfl ha.2.2.2.2.2.2.2.1 (one_p _) ?_
            refine pM_ii rfl rfl rfl ki_1 ?_
            refine pM_go rfl rfl ?_
            refine pM_w (F2 := [(0, .inr (.inl (some a))), (2, .inl (.inl u2)), (5, .inl (.inl (v5 + 1)))]) (fun L hL => lo_cons (lo_lk hL rfl) (lo_cons (lo_lk hL rfl) (lo_cons (lo_lk hL rfl) lo_nil))) ?_
            exact IH hN (v5 + 1) (wi (wi M (a + 7) (ni v5) ((M.1 (a + 7) (ni v5)) + 1)) (a + 7) (ni v5) 0) h
        · replace h := h.1 h14
          refine pM_aln rfl rfl rfl ?_
          refine pM_gr rfl rfl ha.1 rfl ?_
          refine pM_il rfl rfl ?_
          refine pM_p (pc' := 101) (S' := [.inl (.inl v5), .inr (.inl (some (a + 3))), .inl (.inl v5), .inr (.inl (some (a + 3)))]) rfl rfl (fun _ => rfl) ?_
          refine pM_ai rfl ha.2.2.2.1 (one_p _) ?_
          refine pM_ic rfl ki_1 ?_
          refine pM_sub rfl ?_
          refine pM_sa rfl ha.2.2.2.1 (one_p _) ?_
          refine pM_aln rfl rfl rfl ?_
          refine pM_gr rfl rfl ha.1 rfl ?_
          refine pM_il rfl rfl ?_
          refine pM_p (pc' := 112) (S' := [.inl (.inl v5), .inr (.inl (some (a + 7))), .inl (.inl v5), .inr (.inl (some (a + 7)))]) rfl rfl (fun _ => rfl) ?_
          refine pM_ai rfl ha.2.2.2.2.2.2.2.1 (one_p _) ?_
          refine pM_ic rfl ki_1 ?_
          refine pM_add rfl ?_
          refine pM_sa rfl ha.2.2.2.2.2.2.2.1 (one_p _) ?_
          refine pM_aln rfl rfl rfl ?_
          refine pM_gr rfl rfl ha.1 rfl ?_
          refine pM_il rfl rfl ?_
          refine pM_ai rfl ha.2.2.2.2.2.2.2.1 (one_p _) ?_
          refine pM_aln rfl rfl rfl ?_
          refine pM_gr rfl rfl ha.1 rfl ?_
          refine pM_il rfl rfl ?_
          refine pM_ai rfl ha.2.2.2.2.2.2.1 (one_p _) ?_
          refine pM_clt rfl rfl (fun h15 => ?_) (fun h15 => ?_)
          · replace h := h.1 h15
            refine pM_ii rfl rfl rfl ki_1 ?_
            refine pM_go rfl rfl ?_
            refine pM_w (F2 := [(0, .inr (.inl (some a))), (2, .inl (.inl u2)), (5, .inl (.inl (v5 + 1)))]) (fun L hL => lo_cons (lo_lk hL rfl) (lo_cons (lo_lk hL rfl) (lo_cons (lo_lk hL rfl) lo_nil))) ?_
            exact IH hN (v5 + 1) (wi (wi M (a + 3) (ni v5) ((M.1 (a + 3) (ni v5)) - 1)) (a + 7) (ni v5) (((wi M (a + 3) (ni v5) ((M.1 (a + 3) (ni v5)) - 1)).1 (a + 7) (ni v5)) + 1)) h
          · replace h := h.2 h15
            refine pM_aln rfl rfl rfl ?_
            refine pM_gr rfl rfl ha.1 rfl ?_
            refine pM_il rfl rfl ?_
            refine pM_ic rfl ki_0 ?_
            refine pM_sa rfl ha.2.2.2.2.2.2.2.1 (one_p _) ?_
            refine pM_ii rfl rfl rfl ki_1 ?_
            refine pM_go rfl rfl ?_
            refine pM_w (F2 := [(0, .inr (.inl (some a))), (2, .inl (.inl u2)), (5, .inl (.inl (v5 + 1)))]) (fun L hL => lo_cons (lo_lk hL rfl) (lo_cons (lo_lk hL rfl) (lo_cons (lo_lk hL rfl) lo_nil))) ?_
            exact IH hN (v5 + 1) (wi (wi (wi M (a + 3) (ni v5) ((M.1 (a + 3) (ni v5)) - 1)) (a + 7) (ni v5) (((wi M (a + 3) (ni v5) ((M.1 (a + 3) (ni v5)) - 1)).1 (a + 7) (ni v5)) + 1)) (a + 7) (ni v5) 0) h
/-- 118: EarCode$World.passDay(LEarCode$Law;)V -/
def W_World_passDay (a : Nat) (N : Nat) (M : MM) (Q : MM → Prop) : Prop :=
  W_World_takenOnes a N M (fun r1 =>
    W_World_pickDoers a ((M.1 a 1) &&& (r1 ^^^ (-1))) N M (fun r3 M4 =>
      W_World_inForce a N M4 (fun r5 =>
        W_World_passDay_28 a ((M.1 a 1) &&& (r1 ^^^ (-1))) r3 r5 (fun M11 =>
          W_World_passDay_66 a ((M.1 a 1) &&& (r1 ^^^ (-1))) Q N 0 M11) Q N 0 M4)))
theorem q_World_passDay {X : Option (List AI)} {N : Nat} {M : MM} {a : Nat} {Q : MM → Prop} (ha : isW a) (h : W_World_passDay a N M Q) : pM X N 118 0 (ea_ar 0 [.inr (.inl (some a)), .inr (.inl (some 8))]) [] M (Ru Q) := by
  refine pM_w (F2 := [(0, .inr (.inl (some a))), (1, .inr (.inl (some 8)))]) (fun L hL => lo_cons (lo_lk hL rfl) (lo_cons (lo_lk hL rfl) lo_nil)) ?_
  refine pM_aln rfl rfl rfl ?_
  refine pM_gi rfl rfl ha.1 rfl ?_
  refine pM_aln rfl rfl rfl ?_
  refine pM_qPi (as := [.inr (.inl (some a))]) (T := [.inl (.inl (M.1 a 1))]) rfl rfl (fun C hC => cl_v hC ha.1 rfl rfl rfl) rfl (q_World_takenOnes ha h) (fun r1 h => ?_)
  refine pM_ic rfl ki_m1 ?_
  refine pM_xor rfl ?_
  refine pM_and rfl ?_
  refine pM_isn rfl rfl ?_
  refine pM_aln rfl rfl rfl ?_
  refine pM_aln rfl rfl rfl ?_
  refine pM_iln rfl rfl ?_
  refine pM_qRi (as := [.inr (.inl (some a)), .inr (.inl (some 8)), .inl (.inl ((M.1 a 1) &&& (r1 ^^^ (-1))))]) (T := []) rfl rfl (fun C hC => cl_v hC ha.1 rfl rfl rfl) rfl (q_World_pickDoers ha h) (fun r3 M4 h => ?_)
  refine pM_isn rfl rfl ?_
  refine pM_aln rfl rfl rfl ?_
  refine pM_qPi (as := [.inr (.inl (some a))]) (T := []) rfl rfl (fun C hC => cl_v hC ha.1 rfl rfl rfl) rfl (q_World_inForce ha h) (fun r5 h => ?_)
  refine pM_is rfl rfl ?_
  refine pM_ic rfl ki_0 ?_
  refine pM_is rfl rfl ?_
  refine pM_w (F2 := [(0, .inr (.inl (some a))), (1, .inr (.inl (some 8))), (2, .inl (.inl ((M.1 a 1) &&& (r1 ^^^ (-1))))), (3, .inl (.inl r3)), (4, .inl (.inl r5)), (5, .inl (.inl 0))]) (fun L hL => lo_cons (lo_lk hL rfl) (lo_cons (lo_lk hL rfl) (lo_cons (lo_lk hL rfl) (lo_cons (lo_lk hL rfl) (lo_cons (lo_lk hL rfl) (lo_cons (lo_lk hL rfl) lo_nil)))))) ?_
  refine q_World_passDay_28 ha (fun M11 h => ?_) N (Nat.le_refl N) 0 M4 h
  · refine pM_ic rfl ki_0 ?_
    refine pM_is rfl rfl ?_
    refine pM_w (F2 := [(0, .inr (.inl (some a))), (2, .inl (.inl ((M.1 a 1) &&& (r1 ^^^ (-1))))), (5, .inl (.inl 0))]) (fun L hL => lo_cons (lo_lk hL rfl) (lo_cons (lo_lk hL rfl) (lo_cons (lo_lk hL rfl) lo_nil))) ?_
    refine q_World_passDay_66 ha  N (Nat.le_refl N) 0 M11 h
def B_World_seersOf_4 (a : Nat) (p1 : Int32) (M : MM) (Q : Int32 → Prop) (N : Nat) (ih : Int32 → Int32 → Prop) (v2 : Int32) (v3 : Int32) : Prop :=
  ((v3 < (M.1 a 0) →
    (((V_World_isAlive a v3 M) = 0 →
      ih v2 (v3 + 1)) ∧
     (¬ (V_World_isAlive a v3 M) = 0 →
      (((V_World_hasSeen a v3 p1 M) = 0 →
        ih v2 (v3 + 1)) ∧
       (¬ (V_World_hasSeen a v3 p1 M) = 0 →
        ih (v2 + 1) (v3 + 1)))))) ∧
   (¬ v3 < (M.1 a 0) →
    Q v2))
def W_World_seersOf_4 (a : Nat) (p1 : Int32) (M : MM) (Q : Int32 → Prop) : Nat → Int32 → Int32 → Prop
  | 0, _, _ => True
  | N + 1, v2, v3 => B_World_seersOf_4 a p1 M Q N (W_World_seersOf_4 a p1 M Q N) v2 v3
theorem I_World_seersOf_4 (a : Nat) (p1 : Int32) (M : MM) (Q : Int32 → Prop) (inv : Int32 → Int32 → Prop) (hs : ∀ (N : Nat) (ih : Int32 → Int32 → Prop) (v2 : Int32) (v3 : Int32), (∀ (v2 : Int32) (v3 : Int32), inv v2 v3 → ih v2 v3) → inv v2 v3 → B_World_seersOf_4 a p1 M Q N ih v2 v3) : ∀ (N : Nat) (v2 : Int32) (v3 : Int32), inv v2 v3 → W_World_seersOf_4 a p1 M Q N v2 v3 := by
  intro N
  induction N with
  | zero => intros; trivial
  | succ N IH =>
    intro v2 v3 h
    exact hs N _ v2 v3 IH h
theorem q_World_seersOf_4 {X : Option (List AI)} {N0 : Nat} {a : Nat} {p1 : Int32} {M : MM} {Q : Int32 → Prop} (ha : isW a)  : ∀ (N : Nat), N ≤ N0 → ∀ (v2 : Int32) (v3 : Int32), W_World_seersOf_4 a p1 M Q N v2 v3 → pM X N 125 4 [(0, .inr (.inl (some a))), (1, .inl (.inl p1)), (2, .inl (.inl v2)), (3, .inl (.inl v3))] [] M (Pi Q M) := by
  intro N
  induction N with
  | zero => intros; exact pM_zero
  | succ N IH =>
    intro hN v2 v3 h
    replace hN := Nat.le_of_succ_le hN
    replace h : B_World_seersOf_4 a p1 M Q N (W_World_seersOf_4 a p1 M Q N) v2 v3 := h
    refine pM_s (pMs_iln rfl rfl ?_)
    refine pM_aln rfl rfl rfl ?_
    refine pM_gi rfl rfl ha.1 rfl ?_
    refine pM_cge rfl rfl (fun h1 => ?_) (fun h1 => ?_)
    · replace h := h.2 h1
      refine pM_iln rfl rfl ?_
      exact pM_ri rfl (⟨_, rfl, rfl, h⟩)
    · replace h := h.1 h1
      refine pM_aln rfl rfl rfl ?_
      refine pM_iln rfl rfl ?_
      refine pM_qVi (as := [.inr (.inl (some a)), .inl (.inl v3)]) (T := []) rfl rfl (fun C hC => cl_v hC ha.1 rfl rfl rfl) rfl (q_World_isAlive ha) ?_
      refine pM_zeq rfl rfl (fun h2 => ?_) (fun h2 => ?_)
      · replace h := h.1 h2
        refine pM_ii rfl rfl rfl ki_1 ?_
        refine pM_go rfl rfl ?_
        refine pM_w (F2 := [(0, .inr (.inl (some a))), (1, .inl (.inl p1)), (2, .inl (.inl v2)), (3, .inl (.inl (v3 + 1)))]) (fun L hL => lo_cons (lo_lk hL rfl) (lo_cons (lo_lk hL rfl) (lo_cons (lo_lk hL rfl) (lo_cons (lo_lk hL rfl) lo_nil)))) ?_
        exact IH hN v2 (v3 + 1) h
      · replace h := h.2 h2
        refine pM_aln rfl rfl rfl ?_
        refine pM_iln rfl rfl ?_
        refine pM_iln rfl rfl ?_
        refine pM_qVi (as := [.inr (.inl (some a)), .inl (.inl v3), .inl (.inl p1)]) (T := []) rfl rfl (fun C hC => cl_v hC ha.1 rfl rfl rfl) rfl (q_World_hasSeen ha) ?_
        refine pM_zeq rfl rfl (fun h3 => ?_) (fun h3 => ?_)
        · replace h := h.1 h3
          refine pM_ii rfl rfl rfl ki_1 ?_
          refine pM_go rfl rfl ?_
          refine pM_w (F2 := [(0, .inr (.inl (some a))), (1, .inl (.inl p1)), (2, .inl (.inl v2)), (3, .inl (.inl (v3 + 1)))]) (fun L hL => lo_cons (lo_lk hL rfl) (lo_cons (lo_lk hL rfl) (lo_cons (lo_lk hL rfl) (lo_cons (lo_lk hL rfl) lo_nil)))) ?_
          exact IH hN v2 (v3 + 1) h
        · replace h := h.2 h3
          refine pM_ii rfl rfl rfl ki_1 ?_
          refine pM_ii rfl rfl rfl ki_1 ?_
          refine pM_go rfl rfl ?_
          refine pM_w (F2 := [(0, .inr (.inl (some a))), (1, .inl (.inl p1)), (2, .inl (.inl (v2 + 1))), (3, .inl (.inl (v3 + 1)))]) (fun L hL => lo_cons (lo_lk hL rfl) (lo_cons (lo_lk hL rfl) (lo_cons (lo_lk hL rfl) (lo_cons (lo_lk hL rfl) lo_nil)))) ?_
          exact IH hN (v2 + 1) (v3 + 1) h
/-- 125: EarCode$World.seersOf(I)I -/
def W_World_seersOf (a : Nat) (p1 : Int32) (N : Nat) (M : MM) (Q : Int32 → Prop) : Prop :=
  W_World_seersOf_4 a p1 M Q N 0 0
theorem q_World_seersOf {X : Option (List AI)} {N : Nat} {M : MM} {a : Nat} {p1 : Int32} {Q : Int32 → Prop} (ha : isW a) (h : W_World_seersOf a p1 N M Q) : pM X N 125 0 (ea_ar 0 [.inr (.inl (some a)), .inl (.inl p1)]) [] M (Pi Q M) := by
  refine pM_w (F2 := [(0, .inr (.inl (some a))), (1, .inl (.inl p1))]) (fun L hL => lo_cons (lo_lk hL rfl) (lo_cons (lo_lk hL rfl) lo_nil)) ?_
  refine pM_ic rfl ki_0 ?_
  refine pM_isn rfl rfl ?_
  refine pM_ic rfl ki_0 ?_
  refine pM_isn rfl rfl ?_
  refine pM_w (F2 := [(0, .inr (.inl (some a))), (1, .inl (.inl p1)), (2, .inl (.inl 0)), (3, .inl (.inl 0))]) (fun L hL => lo_cons (lo_lk hL rfl) (lo_cons (lo_lk hL rfl) (lo_cons (lo_lk hL rfl) (lo_cons (lo_lk hL rfl) lo_nil)))) ?_
  refine q_World_seersOf_4 ha  N (Nat.le_refl N) 0 0 h
def B_World_letAllSee_4 (a : Nat) (p1 : Int32) (Q : Int32 → MM → Prop) (N : Nat) (ih : Int32 → Int32 → MM → Prop) (v2 : Int32) (v3 : Int32) (M : MM) : Prop :=
  ((v3 < (M.1 a 0) →
    (((V_World_isAlive a v3 M) = 0 →
      ih v2 (v3 + 1) M) ∧
     (¬ (V_World_isAlive a v3 M) = 0 →
      (((V_World_hasSeen a v3 p1 M) = 0 →
        ih 1 (v3 + 1) (wj M (a + 8) (ni v3) ((M.2 (a + 8) (ni v3)) ||| (ll (Int64.ofNat 1) p1)))) ∧
       (¬ (V_World_hasSeen a v3 p1 M) = 0 →
        ih v2 (v3 + 1) M))))) ∧
   (¬ v3 < (M.1 a 0) →
    Q v2 M))
def W_World_letAllSee_4 (a : Nat) (p1 : Int32) (Q : Int32 → MM → Prop) : Nat → Int32 → Int32 → MM → Prop
  | 0, _, _, _ => True
  | N + 1, v2, v3, M => B_World_letAllSee_4 a p1 Q N (W_World_letAllSee_4 a p1 Q N) v2 v3 M
theorem I_World_letAllSee_4 (a : Nat) (p1 : Int32) (Q : Int32 → MM → Prop) (inv : Int32 → Int32 → MM → Prop) (hs : ∀ (N : Nat) (ih : Int32 → Int32 → MM → Prop) (v2 : Int32) (v3 : Int32) (M : MM), (∀ (v2 : Int32) (v3 : Int32) (M : MM), inv v2 v3 M → ih v2 v3 M) → inv v2 v3 M → B_World_letAllSee_4 a p1 Q N ih v2 v3 M) : ∀ (N : Nat) (v2 : Int32) (v3 : Int32) (M : MM), inv v2 v3 M → W_World_letAllSee_4 a p1 Q N v2 v3 M := by
  intro N
  induction N with
  | zero => intros; trivial
  | succ N IH =>
    intro v2 v3 M h
    exact hs N _ v2 v3 M IH h
theorem q_World_letAllSee_4 {X : Option (List AI)} {N0 : Nat} {a : Nat} {p1 : Int32} {Q : Int32 → MM → Prop} (ha : isW a)  : ∀ (N : Nat), N ≤ N0 → ∀ (v2 : Int32) (v3 : Int32) (M : MM), W_World_letAllSee_4 a p1 Q N v2 v3 M → pM X N 126 4 [(0, .inr (.inl (some a))), (1, .inl (.inl p1)), (2, .inl (.inl v2)), (3, .inl (.inl v3))] [] M (Ri Q) := by
  intro N
  induction N with
  | zero => intros; exact pM_zero
  | succ N IH =>
    intro hN v2 v3 M h
    replace hN := Nat.le_of_succ_le hN
    replace h : B_World_letAllSee_4 a p1 Q N (W_World_letAllSee_4 a p1 Q N) v2 v3 M := h
    refine pM_s (pMs_iln rfl rfl ?_)
    refine pM_aln rfl rfl rfl ?_
    refine pM_gi rfl rfl ha.1 rfl ?_
    refine pM_cge rfl rfl (fun h1 => ?_) (fun h1 => ?_)
    · replace h := h.2 h1
      refine pM_iln rfl rfl ?_
      exact pM_ri rfl (⟨_, rfl, h⟩)
    · replace h := h.1 h1
      refine pM_aln rfl rfl rfl ?_
      refine pM_iln rfl rfl ?_
      refine pM_qVi (as := [.inr (.inl (some a)), .inl (.inl v3)]) (T := []) rfl rfl (fun C hC => cl_v hC ha.1 rfl rfl rfl) rfl (q_World_isAlive ha) ?_
      refine pM_zeq rfl rfl (fun h2 => ?_) (fun h2 => ?_)
      · replace h := h.1 h2
        refine pM_ii rfl rfl rfl ki_1 ?_
        refine pM_go rfl rfl ?_
        refine pM_w (F2 := [(0, .inr (.inl (some a))), (1, .inl (.inl p1)), (2, .inl (.inl v2)), (3, .inl (.inl (v3 + 1)))]) (fun L hL => lo_cons (lo_lk hL rfl) (lo_cons (lo_lk hL rfl) (lo_cons (lo_lk hL rfl) (lo_cons (lo_lk hL rfl) lo_nil)))) ?_
        exact IH hN v2 (v3 + 1) M h
      · replace h := h.2 h2
        refine pM_aln rfl rfl rfl ?_
        refine pM_iln rfl rfl ?_
        refine pM_iln rfl rfl ?_
        refine pM_qVi (as := [.inr (.inl (some a)), .inl (.inl v3), .inl (.inl p1)]) (T := []) rfl rfl (fun C hC => cl_v hC ha.1 rfl rfl rfl) rfl (q_World_hasSeen ha) ?_
        refine pM_zne rfl rfl (fun h3 => ?_) (fun h3 => ?_)
        · replace h := h.2 h3
          refine pM_ii rfl rfl rfl ki_1 ?_
          refine pM_go rfl rfl ?_
          refine pM_w (F2 := [(0, .inr (.inl (some a))), (1, .inl (.inl p1)), (2, .inl (.inl v2)), (3, .inl (.inl (v3 + 1)))]) (fun L hL => lo_cons (lo_lk hL rfl) (lo_cons (lo_lk hL rfl) (lo_cons (lo_lk hL rfl) (lo_cons (lo_lk hL rfl) lo_nil)))) ?_
          exact IH hN v2 (v3 + 1) M h
        · replace h := h.1 h3
          refine pM_aln rfl rfl rfl ?_
          refine pM_gr rfl rfl ha.1 rfl ?_
          refine pM_iln rfl rfl ?_
          refine pM_p (pc' := 35) (S' := [.inl (.inl v3), .inr (.inl (some (a + 8))), .inl (.inl v3), .inr (.inl (some (a + 8)))]) rfl rfl (fun _ => rfl) ?_
          refine pM_la rfl ha.2.2.2.2.2.2.2.2.1 ?_
          refine pM_lc rfl ?_
          refine pM_iln rfl rfl ?_
          refine pM_p (pc' := 39) (S' := [.inr (.inr (.inl (some (ll (Int64.ofNat 1) p1)))), .inr (.inr (.inl (some (M.2 (a + 8) (ni v3))))), .inl (.inl v3), .inr (.inl (some (a + 8)))]) rfl rfl (fun _ => rfl) ?_
          refine pM_p (pc' := 40) (S' := [.inr (.inr (.inl (some ((M.2 (a + 8) (ni v3)) ||| (ll (Int64.ofNat 1) p1))))), .inl (.inl v3), .inr (.inl (some (a + 8)))]) rfl rfl (fun _ => rfl) ?_
          refine pM_sg rfl ha.2.2.2.2.2.2.2.2.1 ?_
          refine pM_ic rfl ki_1 ?_
          refine pM_isn rfl rfl ?_
          refine pM_ii rfl rfl rfl ki_1 ?_
          refine pM_go rfl rfl ?_
          refine pM_w (F2 := [(0, .inr (.inl (some a))), (1, .inl (.inl p1)), (2, .inl (.inl 1)), (3, .inl (.inl (v3 + 1)))]) (fun L hL => lo_cons (lo_lk hL rfl) (lo_cons (lo_lk hL rfl) (lo_cons (lo_lk hL rfl) (lo_cons (lo_lk hL rfl) lo_nil)))) ?_
          exact IH hN 1 (v3 + 1) (wj M (a + 8) (ni v3) ((M.2 (a + 8) (ni v3)) ||| (ll (Int64.ofNat 1) p1))) h
/-- 126: EarCode$World.letAllSee(I)Z -/
def W_World_letAllSee (a : Nat) (p1 : Int32) (N : Nat) (M : MM) (Q : Int32 → MM → Prop) : Prop :=
  W_World_letAllSee_4 a p1 Q N 0 0 M
theorem q_World_letAllSee {X : Option (List AI)} {N : Nat} {M : MM} {a : Nat} {p1 : Int32} {Q : Int32 → MM → Prop} (ha : isW a) (h : W_World_letAllSee a p1 N M Q) : pM X N 126 0 (ea_ar 0 [.inr (.inl (some a)), .inl (.inl p1)]) [] M (Ri Q) := by
  refine pM_w (F2 := [(0, .inr (.inl (some a))), (1, .inl (.inl p1))]) (fun L hL => lo_cons (lo_lk hL rfl) (lo_cons (lo_lk hL rfl) lo_nil)) ?_
  refine pM_ic rfl ki_0 ?_
  refine pM_isn rfl rfl ?_
  refine pM_ic rfl ki_0 ?_
  refine pM_isn rfl rfl ?_
  refine pM_w (F2 := [(0, .inr (.inl (some a))), (1, .inl (.inl p1)), (2, .inl (.inl 0)), (3, .inl (.inl 0))]) (fun L hL => lo_cons (lo_lk hL rfl) (lo_cons (lo_lk hL rfl) (lo_cons (lo_lk hL rfl) (lo_cons (lo_lk hL rfl) lo_nil)))) ?_
  refine q_World_letAllSee_4 ha  N (Nat.le_refl N) 0 0 M h
def B_World_spreadFear_14 (a : Nat) (u2 : Int32) (Q : Int32 → MM → Prop) (N : Nat) (ih : Int32 → Int32 → MM → Prop) (v1 : Int32) (v3 : Int32) (M : MM) : Prop :=
  ((v3 < 64 →
    W_World_seersOf a v3 N M (fun r2 =>
      ((u2 < (r2 * 2) →
        W_World_letAllSee a v3 N M (fun r5 M6 =>
          ((r5 = 0 →
            ih v1 (v3 + 1) M6) ∧
           (¬ r5 = 0 →
            ih 1 (v3 + 1) M6)))) ∧
       (¬ u2 < (r2 * 2) →
        ih v1 (v3 + 1) M)))) ∧
   (¬ v3 < 64 →
    Q v1 M))
def W_World_spreadFear_14 (a : Nat) (u2 : Int32) (Q : Int32 → MM → Prop) : Nat → Int32 → Int32 → MM → Prop
  | 0, _, _, _ => True
  | N + 1, v1, v3, M => B_World_spreadFear_14 a u2 Q N (W_World_spreadFear_14 a u2 Q N) v1 v3 M
theorem I_World_spreadFear_14 (a : Nat) (u2 : Int32) (Q : Int32 → MM → Prop) (inv : Int32 → Int32 → MM → Prop) (hs : ∀ (N : Nat) (ih : Int32 → Int32 → MM → Prop) (v1 : Int32) (v3 : Int32) (M : MM), (∀ (v1 : Int32) (v3 : Int32) (M : MM), inv v1 v3 M → ih v1 v3 M) → inv v1 v3 M → B_World_spreadFear_14 a u2 Q N ih v1 v3 M) : ∀ (N : Nat) (v1 : Int32) (v3 : Int32) (M : MM), inv v1 v3 M → W_World_spreadFear_14 a u2 Q N v1 v3 M := by
  intro N
  induction N with
  | zero => intros; trivial
  | succ N IH =>
    intro v1 v3 M h
    exact hs N _ v1 v3 M IH h
theorem q_World_spreadFear_14 {X : Option (List AI)} {N0 : Nat} {a : Nat} {u2 : Int32} {Q : Int32 → MM → Prop} (ha : isW a)  : ∀ (N : Nat), N ≤ N0 → ∀ (v1 : Int32) (v3 : Int32) (M : MM), W_World_spreadFear_14 a u2 Q N v1 v3 M → pM X N 124 14 [(0, .inr (.inl (some a))), (1, .inl (.inl v1)), (2, .inl (.inl u2)), (3, .inl (.inl v3))] [] M (Ri Q) := by
  intro N
  induction N with
  | zero => intros; exact pM_zero
  | succ N IH =>
    intro hN v1 v3 M h
    replace hN := Nat.le_of_succ_le hN
    replace h : B_World_spreadFear_14 a u2 Q N (W_World_spreadFear_14 a u2 Q N) v1 v3 M := h
    refine pM_s (pMs_iln rfl rfl ?_)
    refine pM_bi rfl kb_64 ?_
    refine pM_cge rfl rfl (fun h1 => ?_) (fun h1 => ?_)
    · replace h := h.2 h1
      refine pM_iln rfl rfl ?_
      exact pM_ri rfl (⟨_, rfl, h⟩)
    · replace h := h.1 h1
      refine pM_aln rfl rfl rfl ?_
      refine pM_iln rfl rfl ?_
      refine pM_qPi (as := [.inr (.inl (some a)), .inl (.inl v3)]) (T := []) rfl rfl (fun C hC => cl_v hC ha.1 rfl rfl rfl) rfl (q_World_seersOf ha h) (fun r2 h => ?_)
      refine pM_ic rfl ki_2 ?_
      refine pM_mul rfl ?_
      refine pM_iln rfl rfl ?_
      refine pM_cle rfl rfl (fun h4 => ?_) (fun h4 => ?_)
      · replace h := h.2 h4
        refine pM_ii rfl rfl rfl ki_1 ?_
        refine pM_go rfl rfl ?_
        refine pM_w (F2 := [(0, .inr (.inl (some a))), (1, .inl (.inl v1)), (2, .inl (.inl u2)), (3, .inl (.inl (v3 + 1)))]) (fun L hL => lo_cons (lo_lk hL rfl) (lo_cons (lo_lk hL rfl) (lo_cons (lo_lk hL rfl) (lo_cons (lo_lk hL rfl) lo_nil)))) ?_
        exact IH hN v1 (v3 + 1) M h
      · replace h := h.1 h4
        refine pM_aln rfl rfl rfl ?_
        refine pM_iln rfl rfl ?_
        refine pM_qRi (as := [.inr (.inl (some a)), .inl (.inl v3)]) (T := []) rfl rfl (fun C hC => cl_v hC ha.1 rfl rfl rfl) rfl (q_World_letAllSee ha h) (fun r5 M6 h => ?_)
        refine pM_zeq rfl rfl (fun h7 => ?_) (fun h7 => ?_)
        · replace h := h.1 h7
          refine pM_ii rfl rfl rfl ki_1 ?_
          refine pM_go rfl rfl ?_
          refine pM_w (F2 := [(0, .inr (.inl (some a))), (1, .inl (.inl v1)), (2, .inl (.inl u2)), (3, .inl (.inl (v3 + 1)))]) (fun L hL => lo_cons (lo_lk hL rfl) (lo_cons (lo_lk hL rfl) (lo_cons (lo_lk hL rfl) (lo_cons (lo_lk hL rfl) lo_nil)))) ?_
          exact IH hN v1 (v3 + 1) M6 h
        · replace h := h.2 h7
          refine pM_ic rfl ki_1 ?_
          refine pM_isn rfl rfl ?_
          refine pM_ii rfl rfl rfl ki_1 ?_
          refine pM_go rfl rfl ?_
          refine pM_w (F2 := [(0, .inr (.inl (some a))), (1, .inl (.inl 1)), (2, .inl (.inl u2)), (3, .inl (.inl (v3 + 1)))]) (fun L hL => lo_cons (lo_lk hL rfl) (lo_cons (lo_lk hL rfl) (lo_cons (lo_lk hL rfl) (lo_cons (lo_lk hL rfl) lo_nil)))) ?_
          exact IH hN 1 (v3 + 1) M6 h
/-- 124: EarCode$World.spreadFear()Z -/
def W_World_spreadFear (a : Nat) (N : Nat) (M : MM) (Q : Int32 → MM → Prop) : Prop :=
  W_World_spreadFear_14 a ((V_Int_bitCount (M.1 a 1) M) - 1) Q N 0 0 M
theorem q_World_spreadFear {X : Option (List AI)} {N : Nat} {M : MM} {a : Nat} {Q : Int32 → MM → Prop} (ha : isW a) (h : W_World_spreadFear a N M Q) : pM X N 124 0 (ea_ar 0 [.inr (.inl (some a))]) [] M (Ri Q) := by
  refine pM_w (F2 := [(0, .inr (.inl (some a)))]) (fun L hL => lo_cons (lo_lk hL rfl) lo_nil) ?_
  refine pM_ic rfl ki_0 ?_
  refine pM_isn rfl rfl ?_
  refine pM_aln rfl rfl rfl ?_
  refine pM_gi rfl rfl ha.1 rfl ?_
  refine pM_qVi (as := [.inl (.inl (M.1 a 1))]) (T := []) rfl rfl (fun _ _ => rfl) rfl (q_Int_bitCount ) ?_
  refine pM_ic rfl ki_1 ?_
  refine pM_sub rfl ?_
  refine pM_isn rfl rfl ?_
  refine pM_ic rfl ki_0 ?_
  refine pM_isn rfl rfl ?_
  refine pM_w (F2 := [(0, .inr (.inl (some a))), (1, .inl (.inl 0)), (2, .inl (.inl ((V_Int_bitCount (M.1 a 1) M) - 1))), (3, .inl (.inl 0))]) (fun L hL => lo_cons (lo_lk hL rfl) (lo_cons (lo_lk hL rfl) (lo_cons (lo_lk hL rfl) (lo_cons (lo_lk hL rfl) lo_nil)))) ?_
  refine q_World_spreadFear_14 ha  N (Nat.le_refl N) 0 0 M h
