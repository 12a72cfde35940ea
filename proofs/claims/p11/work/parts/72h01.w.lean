/-! WHAT EACH METHOD COMES TO (gw.py) -/
def B_Inquiry_fewestKnowers_16 (u1 : Int32) (M : MM) (Q : Int32 → Prop) (N : Nat) (ih : Int32 → Int32 → Int32 → Prop) (v2 : Int32) (v3 : Int32) (v4 : Int32) : Prop :=
  ((v4 < (sl 1 (M.1 18 0)) →
    (((V_Int_bitCount v4 M) < v3 →
      (((v4 &&& ((M.1 18 1) ^^^ (-1))) = 0 →
        W_Inquiry_knownTogether v4 N M (fun r6 =>
          ((r6 = u1 →
            ih v4 (V_Int_bitCount v4 M) (v4 + 1)) ∧
           (¬ r6 = u1 →
            ih v2 v3 (v4 + 1))))) ∧
       (¬ (v4 &&& ((M.1 18 1) ^^^ (-1))) = 0 →
        ih v2 v3 (v4 + 1)))) ∧
     (¬ (V_Int_bitCount v4 M) < v3 →
      ih v2 v3 (v4 + 1)))) ∧
   (¬ v4 < (sl 1 (M.1 18 0)) →
    Q v2))
def W_Inquiry_fewestKnowers_16 (u1 : Int32) (M : MM) (Q : Int32 → Prop) : Nat → Int32 → Int32 → Int32 → Prop
  | 0, _, _, _ => True
  | N + 1, v2, v3, v4 => B_Inquiry_fewestKnowers_16 u1 M Q N (W_Inquiry_fewestKnowers_16 u1 M Q N) v2 v3 v4
theorem I_Inquiry_fewestKnowers_16 (u1 : Int32) (M : MM) (Q : Int32 → Prop) (inv : Int32 → Int32 → Int32 → Prop) (hs : ∀ (N : Nat) (ih : Int32 → Int32 → Int32 → Prop) (v2 : Int32) (v3 : Int32) (v4 : Int32), (∀ (v2 : Int32) (v3 : Int32) (v4 : Int32), inv v2 v3 v4 → ih v2 v3 v4) → inv v2 v3 v4 → B_Inquiry_fewestKnowers_16 u1 M Q N ih v2 v3 v4) : ∀ (N : Nat) (v2 : Int32) (v3 : Int32) (v4 : Int32), inv v2 v3 v4 → W_Inquiry_fewestKnowers_16 u1 M Q N v2 v3 v4 := by
  intro N
  induction N with
  | zero => intros; trivial
  | succ N IH =>
    intro v2 v3 v4 h
    exact hs N _ v2 v3 v4 IH h
theorem q_Inquiry_fewestKnowers_16 {X : Option (List AI)} {N0 : Nat} {u1 : Int32} {M : MM} {Q : Int32 → Prop}   : ∀ (N : Nat), N ≤ N0 → ∀ (v2 : Int32) (v3 : Int32) (v4 : Int32), W_Inquiry_fewestKnowers_16 u1 M Q N v2 v3 v4 → pM X N 15 16 [(0, .inr (.inl (some 171))), (1, .inl (.inl u1)), (2, .inl (.inl v2)), (3, .inl (.inl v3)), (4, .inl (.inl v4))] [] M (Pi Q M) := by
  intro N
  induction N with
  | zero => intros; exact pM_zero
  | succ N IH =>
    intro hN v2 v3 v4 h
    replace hN := Nat.le_of_succ_le hN
    replace h : B_Inquiry_fewestKnowers_16 u1 M Q N (W_Inquiry_fewestKnowers_16 u1 M Q N) v2 v3 v4 := h
    refine pM_s (pMs_il rfl rfl ?_)
    refine pM_ic rfl ki_1 ?_
    refine pM_aln rfl rfl rfl ?_
    refine pM_gr rfl rfl rfl rfl ?_
    refine pM_gi rfl rfl rfl rfl ?_
    refine pM_shl rfl ?_
    refine pM_cge rfl rfl (fun h3 => ?_) (fun h3 => ?_)
    · replace h := h.2 h3
      refine pM_iln rfl rfl ?_
      exact pM_ri rfl (⟨_, rfl, rfl, h⟩)
    · replace h := h.1 h3
      refine pM_il rfl rfl ?_
      refine pM_qVi (as := [.inl (.inl v4)]) (T := []) rfl rfl (fun _ _ => rfl) rfl (q_Int_bitCount ) ?_
      refine pM_is rfl rfl ?_
      refine pM_il rfl rfl ?_
      refine pM_iln rfl rfl ?_
      refine pM_cge rfl rfl (fun h4 => ?_) (fun h4 => ?_)
      · replace h := h.2 h4
        refine pM_ii rfl rfl rfl ki_1 ?_
        refine pM_go rfl rfl ?_
        refine pM_w (F2 := [(0, .inr (.inl (some 171))), (1, .inl (.inl u1)), (2, .inl (.inl v2)), (3, .inl (.inl v3)), (4, .inl (.inl (v4 + 1)))]) (fun L hL => lo_cons (lo_lk hL rfl) (lo_cons (lo_lk hL rfl) (lo_cons (lo_lk hL rfl) (lo_cons (lo_lk hL rfl) (lo_cons (lo_lk hL rfl) lo_nil))))) ?_
        exact IH hN v2 v3 (v4 + 1) h
      · replace h := h.1 h4
        refine pM_il rfl rfl ?_
        refine pM_aln rfl rfl rfl ?_
        refine pM_gr rfl rfl rfl rfl ?_
        refine pM_gi rfl rfl rfl rfl ?_
        refine pM_ic rfl ki_m1 ?_
        refine pM_xor rfl ?_
        refine pM_and rfl ?_
        refine pM_zne rfl rfl (fun h5 => ?_) (fun h5 => ?_)
        · replace h := h.2 h5
          refine pM_ii rfl rfl rfl ki_1 ?_
          refine pM_go rfl rfl ?_
          refine pM_w (F2 := [(0, .inr (.inl (some 171))), (1, .inl (.inl u1)), (2, .inl (.inl v2)), (3, .inl (.inl v3)), (4, .inl (.inl (v4 + 1)))]) (fun L hL => lo_cons (lo_lk hL rfl) (lo_cons (lo_lk hL rfl) (lo_cons (lo_lk hL rfl) (lo_cons (lo_lk hL rfl) (lo_cons (lo_lk hL rfl) lo_nil))))) ?_
          exact IH hN v2 v3 (v4 + 1) h
        · replace h := h.1 h5
          refine pM_aln rfl rfl rfl ?_
          refine pM_il rfl rfl ?_
          refine pM_qPi (as := [.inr (.inl (some 171)), .inl (.inl v4)]) (T := []) rfl rfl (fun C hC => cl_v hC rfl rfl rfl rfl) rfl (q_Inquiry_knownTogether  h) (fun r6 h => ?_)
          refine pM_iln rfl rfl ?_
          refine pM_cne rfl rfl (fun h8 => ?_) (fun h8 => ?_)
          · replace h := h.2 h8
            refine pM_ii rfl rfl rfl ki_1 ?_
            refine pM_go rfl rfl ?_
            refine pM_w (F2 := [(0, .inr (.inl (some 171))), (1, .inl (.inl u1)), (2, .inl (.inl v2)), (3, .inl (.inl v3)), (4, .inl (.inl (v4 + 1)))]) (fun L hL => lo_cons (lo_lk hL rfl) (lo_cons (lo_lk hL rfl) (lo_cons (lo_lk hL rfl) (lo_cons (lo_lk hL rfl) (lo_cons (lo_lk hL rfl) lo_nil))))) ?_
            exact IH hN v2 v3 (v4 + 1) h
          · replace h := h.1 h8
            refine pM_il rfl rfl ?_
            refine pM_isn rfl rfl ?_
            refine pM_il rfl rfl ?_
            refine pM_isn rfl rfl ?_
            refine pM_ii rfl rfl rfl ki_1 ?_
            refine pM_go rfl rfl ?_
            refine pM_w (F2 := [(0, .inr (.inl (some 171))), (1, .inl (.inl u1)), (2, .inl (.inl v4)), (3, .inl (.inl (V_Int_bitCount v4 M))), (4, .inl (.inl (v4 + 1)))]) (fun L hL => lo_cons (lo_lk hL rfl) (lo_cons (lo_lk hL rfl) (lo_cons (lo_lk hL rfl) (lo_cons (lo_lk hL rfl) (lo_cons (lo_lk hL rfl) lo_nil))))) ?_
            exact IH hN v4 (V_Int_bitCount v4 M) (v4 + 1) h
/-- 15: EarCode$Inquiry.fewestKnowers()I -/
def W_Inquiry_fewestKnowers  (N : Nat) (M : MM) (Q : Int32 → Prop) : Prop :=
  W_World_inForce 18 N M (fun r1 =>
    W_Inquiry_fewestKnowers_16 r1 M Q N 0 11 0)
theorem q_Inquiry_fewestKnowers {X : Option (List AI)} {N : Nat} {M : MM}  {Q : Int32 → Prop}  (h : W_Inquiry_fewestKnowers  N M Q) : pM X N 15 0 (ea_ar 0 [.inr (.inl (some 171))]) [] M (Pi Q M) := by
  refine pM_w (F2 := [(0, .inr (.inl (some 171)))]) (fun L hL => lo_cons (lo_lk hL rfl) lo_nil) ?_
  refine pM_aln rfl rfl rfl ?_
  refine pM_gr rfl rfl rfl rfl ?_
  refine pM_qPi (as := [.inr (.inl (some 18))]) (T := []) rfl rfl (fun C hC => cl_v hC rfl rfl rfl rfl) rfl (q_World_inForce isW_18 h) (fun r1 h => ?_)
  refine pM_isn rfl rfl ?_
  refine pM_ic rfl ki_0 ?_
  refine pM_isn rfl rfl ?_
  refine pM_bi rfl kb_11 ?_
  refine pM_isn rfl rfl ?_
  refine pM_ic rfl ki_0 ?_
  refine pM_is rfl rfl ?_
  refine pM_w (F2 := [(0, .inr (.inl (some 171))), (1, .inl (.inl r1)), (2, .inl (.inl 0)), (3, .inl (.inl 11)), (4, .inl (.inl 0))]) (fun L hL => lo_cons (lo_lk hL rfl) (lo_cons (lo_lk hL rfl) (lo_cons (lo_lk hL rfl) (lo_cons (lo_lk hL rfl) (lo_cons (lo_lk hL rfl) lo_nil))))) ?_
  refine q_Inquiry_fewestKnowers_16   N (Nat.le_refl N) 0 11 0 h
/-- 17: EarCode$Inquiry.knownByOnly(I)I -/
def W_Inquiry_knownByOnly (p1 : Int32) (N : Nat) (M : MM) (Q : Int32 → Prop) : Prop :=
  W_Inquiry_knownTogether ((M.1 18 1) &&& ((sl 1 p1) ^^^ (-1))) N M (fun r1 =>
    Q ((M.1 19 (ni p1)) &&& (r1 ^^^ (-1))))
theorem q_Inquiry_knownByOnly {X : Option (List AI)} {N : Nat} {M : MM} {p1 : Int32} {Q : Int32 → Prop}  (h : W_Inquiry_knownByOnly p1 N M Q) : pM X N 17 0 (ea_ar 0 [.inr (.inl (some 171)), .inl (.inl p1)]) [] M (Pi Q M) := by
  refine pM_w (F2 := [(0, .inr (.inl (some 171))), (1, .inl (.inl p1))]) (fun L hL => lo_cons (lo_lk hL rfl) (lo_cons (lo_lk hL rfl) lo_nil)) ?_
  refine pM_aln rfl rfl rfl ?_
  refine pM_gr rfl rfl rfl rfl ?_
  refine pM_gr rfl rfl rfl rfl ?_
  refine pM_iln rfl rfl ?_
  refine pM_ai rfl rfl (one_p _) ?_
  refine pM_aln rfl rfl rfl ?_
  refine pM_aln rfl rfl rfl ?_
  refine pM_gr rfl rfl rfl rfl ?_
  refine pM_gi rfl rfl rfl rfl ?_
  refine pM_ic rfl ki_1 ?_
  refine pM_iln rfl rfl ?_
  refine pM_shl rfl ?_
  refine pM_ic rfl ki_m1 ?_
  refine pM_xor rfl ?_
  refine pM_and rfl ?_
  refine pM_qPi (as := [.inr (.inl (some 171)), .inl (.inl ((M.1 18 1) &&& ((sl 1 p1) ^^^ (-1))))]) (T := [.inl (.inl (M.1 19 (ni p1)))]) rfl rfl (fun C hC => cl_v hC rfl rfl rfl rfl) rfl (q_Inquiry_knownTogether  h) (fun r1 h => ?_)
  refine pM_ic rfl ki_m1 ?_
  refine pM_xor rfl ?_
  refine pM_and rfl ?_
  exact pM_ri rfl (⟨_, rfl, rfl, h⟩)
def B_World_knowersOf_4 (a : Nat) (p1 : Int32) (M : MM) (Q : Int32 → Prop) (N : Nat) (ih : Int32 → Int32 → Prop) (v2 : Int32) (v3 : Int32) : Prop :=
  ((v3 < (M.1 a 0) →
    (((V_World_isAlive a v3 M) = 0 →
      ih v2 (v3 + 1)) ∧
     (¬ (V_World_isAlive a v3 M) = 0 →
      (((V_E_bit (M.1 (a + 1) (ni v3)) p1 M) = 1 →
        ih (v2 ||| (sl 1 v3)) (v3 + 1)) ∧
       (¬ (V_E_bit (M.1 (a + 1) (ni v3)) p1 M) = 1 →
        ih v2 (v3 + 1)))))) ∧
   (¬ v3 < (M.1 a 0) →
    Q v2))
def W_World_knowersOf_4 (a : Nat) (p1 : Int32) (M : MM) (Q : Int32 → Prop) : Nat → Int32 → Int32 → Prop
  | 0, _, _ => True
  | N + 1, v2, v3 => B_World_knowersOf_4 a p1 M Q N (W_World_knowersOf_4 a p1 M Q N) v2 v3
theorem I_World_knowersOf_4 (a : Nat) (p1 : Int32) (M : MM) (Q : Int32 → Prop) (inv : Int32 → Int32 → Prop) (hs : ∀ (N : Nat) (ih : Int32 → Int32 → Prop) (v2 : Int32) (v3 : Int32), (∀ (v2 : Int32) (v3 : Int32), inv v2 v3 → ih v2 v3) → inv v2 v3 → B_World_knowersOf_4 a p1 M Q N ih v2 v3) : ∀ (N : Nat) (v2 : Int32) (v3 : Int32), inv v2 v3 → W_World_knowersOf_4 a p1 M Q N v2 v3 := by
  intro N
  induction N with
  | zero => intros; trivial
  | succ N IH =>
    intro v2 v3 h
    exact hs N _ v2 v3 IH h
theorem q_World_knowersOf_4 {X : Option (List AI)} {N0 : Nat} {a : Nat} {p1 : Int32} {M : MM} {Q : Int32 → Prop} (ha : isW a)  : ∀ (N : Nat), N ≤ N0 → ∀ (v2 : Int32) (v3 : Int32), W_World_knowersOf_4 a p1 M Q N v2 v3 → pM X N 116 4 [(0, .inr (.inl (some a))), (1, .inl (.inl p1)), (2, .inl (.inl v2)), (3, .inl (.inl v3))] [] M (Pi Q M) := by
  intro N
  induction N with
  | zero => intros; exact pM_zero
  | succ N IH =>
    intro hN v2 v3 h
    replace hN := Nat.le_of_succ_le hN
    replace h : B_World_knowersOf_4 a p1 M Q N (W_World_knowersOf_4 a p1 M Q N) v2 v3 := h
    refine pM_s (pMs_iln rfl rfl ?_)
    refine pM_aln rfl rfl rfl ?_
    refine pM_gi rfl rfl ha.1 rfl ?_
    refine pM_cge rfl rfl (fun h1 => ?_) (fun h1 => ?_)
    · replace h := h.2 h1
      refine pM_iln rfl rfl ?_
      exact pM_ri rfl (⟨_, rfl, rfl, h⟩)
    · replace h := h.1 h1
      refine pM_aln rfl rfl rfl ?_
      refine pM_iln rfl rfl ?_
      refine pM_qVi (as := [.inr (.inl (some a)), .inl (.inl v3)]) (T := []) rfl rfl (fun C hC => cl_v hC ha.1 rfl rfl rfl) rfl (q_World_isAlive ha) ?_
      refine pM_zeq rfl rfl (fun h2 => ?_) (fun h2 => ?_)
      · replace h := h.1 h2
        refine pM_ii rfl rfl rfl ki_1 ?_
        refine pM_go rfl rfl ?_
        refine pM_w (F2 := [(0, .inr (.inl (some a))), (1, .inl (.inl p1)), (2, .inl (.inl v2)), (3, .inl (.inl (v3 + 1)))]) (fun L hL => lo_cons (lo_lk hL rfl) (lo_cons (lo_lk hL rfl) (lo_cons (lo_lk hL rfl) (lo_cons (lo_lk hL rfl) lo_nil)))) ?_
        exact IH hN v2 (v3 + 1) h
      · replace h := h.2 h2
        refine pM_aln rfl rfl rfl ?_
        refine pM_gr rfl rfl ha.1 rfl ?_
        refine pM_iln rfl rfl ?_
        refine pM_ai rfl ha.2.1 (one_p _) ?_
        refine pM_iln rfl rfl ?_
        refine pM_qVi (as := [.inl (.inl (M.1 (a + 1) (ni v3))), .inl (.inl p1)]) (T := []) rfl rfl (fun _ _ => rfl) rfl (q_E_bit ) ?_
        refine pM_ic rfl ki_1 ?_
        refine pM_cne rfl rfl (fun h3 => ?_) (fun h3 => ?_)
        · replace h := h.2 h3
          refine pM_ii rfl rfl rfl ki_1 ?_
          refine pM_go rfl rfl ?_
          refine pM_w (F2 := [(0, .inr (.inl (some a))), (1, .inl (.inl p1)), (2, .inl (.inl v2)), (3, .inl (.inl (v3 + 1)))]) (fun L hL => lo_cons (lo_lk hL rfl) (lo_cons (lo_lk hL rfl) (lo_cons (lo_lk hL rfl) (lo_cons (lo_lk hL rfl) lo_nil)))) ?_
          exact IH hN v2 (v3 + 1) h
        · replace h := h.1 h3
          refine pM_iln rfl rfl ?_
          refine pM_ic rfl ki_1 ?_
          refine pM_iln rfl rfl ?_
          refine pM_shl rfl ?_
          refine pM_or rfl ?_
          refine pM_isn rfl rfl ?_
          refine pM_ii rfl rfl rfl ki_1 ?_
          refine pM_go rfl rfl ?_
          refine pM_w (F2 := [(0, .inr (.inl (some a))), (1, .inl (.inl p1)), (2, .inl (.inl (v2 ||| (sl 1 v3)))), (3, .inl (.inl (v3 + 1)))]) (fun L hL => lo_cons (lo_lk hL rfl) (lo_cons (lo_lk hL rfl) (lo_cons (lo_lk hL rfl) (lo_cons (lo_lk hL rfl) lo_nil)))) ?_
          exact IH hN (v2 ||| (sl 1 v3)) (v3 + 1) h
/-- 116: EarCode$World.knowersOf(I)I -/
def W_World_knowersOf (a : Nat) (p1 : Int32) (N : Nat) (M : MM) (Q : Int32 → Prop) : Prop :=
  W_World_knowersOf_4 a p1 M Q N 0 0
theorem q_World_knowersOf {X : Option (List AI)} {N : Nat} {M : MM} {a : Nat} {p1 : Int32} {Q : Int32 → Prop} (ha : isW a) (h : W_World_knowersOf a p1 N M Q) : pM X N 116 0 (ea_ar 0 [.inr (.inl (some a)), .inl (.inl p1)]) [] M (Pi Q M) := by
  refine pM_w (F2 := [(0, .inr (.inl (some a))), (1, .inl (.inl p1))]) (fun L hL => lo_cons (lo_lk hL rfl) (lo_cons (lo_lk hL rfl) lo_nil)) ?_
  refine pM_ic rfl ki_0 ?_
  refine pM_isn rfl rfl ?_
  refine pM_ic rfl ki_0 ?_
  refine pM_isn rfl rfl ?_
  refine pM_w (F2 := [(0, .inr (.inl (some a))), (1, .inl (.inl p1)), (2, .inl (.inl 0)), (3, .inl (.inl 0))]) (fun L hL => lo_cons (lo_lk hL rfl) (lo_cons (lo_lk hL rfl) (lo_cons (lo_lk hL rfl) (lo_cons (lo_lk hL rfl) lo_nil)))) ?_
  refine q_World_knowersOf_4 ha  N (Nat.le_refl N) 0 0 h
def B_Inquiry_tellingsFor_29 (p1 : Int32) (u2 : Int32) (M : MM) (Q : Int32 → Prop) (N : Nat) (ih : Int32 → Int32 → Prop) (v3 : Int32) (v4 : Int32) : Prop :=
  ((v4 < (M.1 8 1) →
    (((V_E_bit u2 v4 M) = 1 →
      W_World_knowersOf 18 v4 N M (fun r6 =>
        ih (v3 + (mx 0 (p1 - (V_Int_bitCount r6 M)))) (v4 + 1))) ∧
     (¬ (V_E_bit u2 v4 M) = 1 →
      ih v3 (v4 + 1)))) ∧
   (¬ v4 < (M.1 8 1) →
    Q v3))
def W_Inquiry_tellingsFor_29 (p1 : Int32) (u2 : Int32) (M : MM) (Q : Int32 → Prop) : Nat → Int32 → Int32 → Prop
  | 0, _, _ => True
  | N + 1, v3, v4 => B_Inquiry_tellingsFor_29 p1 u2 M Q N (W_Inquiry_tellingsFor_29 p1 u2 M Q N) v3 v4
theorem I_Inquiry_tellingsFor_29 (p1 : Int32) (u2 : Int32) (M : MM) (Q : Int32 → Prop) (inv : Int32 → Int32 → Prop) (hs : ∀ (N : Nat) (ih : Int32 → Int32 → Prop) (v3 : Int32) (v4 : Int32), (∀ (v3 : Int32) (v4 : Int32), inv v3 v4 → ih v3 v4) → inv v3 v4 → B_Inquiry_tellingsFor_29 p1 u2 M Q N ih v3 v4) : ∀ (N : Nat) (v3 : Int32) (v4 : Int32), inv v3 v4 → W_Inquiry_tellingsFor_29 p1 u2 M Q N v3 v4 := by
  intro N
  induction N with
  | zero => intros; trivial
  | succ N IH =>
    intro v3 v4 h
    exact hs N _ v3 v4 IH h
theorem q_Inquiry_tellingsFor_29 {X : Option (List AI)} {N0 : Nat} {p1 : Int32} {u2 : Int32} {M : MM} {Q : Int32 → Prop}   : ∀ (N : Nat), N ≤ N0 → ∀ (v3 : Int32) (v4 : Int32), W_Inquiry_tellingsFor_29 p1 u2 M Q N v3 v4 → pM X N 18 29 [(0, .inr (.inl (some 171))), (1, .inl (.inl p1)), (2, .inl (.inl u2)), (3, .inl (.inl v3)), (4, .inl (.inl v4))] [] M (Pi Q M) := by
  intro N
  induction N with
  | zero => intros; exact pM_zero
  | succ N IH =>
    intro hN v3 v4 h
    replace hN := Nat.le_of_succ_le hN
    replace h : B_Inquiry_tellingsFor_29 p1 u2 M Q N (W_Inquiry_tellingsFor_29 p1 u2 M Q N) v3 v4 := h
    refine pM_s (pMs_il rfl rfl ?_)
    refine pM_aln rfl rfl rfl ?_
    refine pM_gr rfl rfl rfl rfl ?_
    refine pM_gi rfl rfl rfl rfl ?_
    refine pM_cge rfl rfl (fun h4 => ?_) (fun h4 => ?_)
    · replace h := h.2 h4
      refine pM_iln rfl rfl ?_
      exact pM_ri rfl (⟨_, rfl, rfl, h⟩)
    · replace h := h.1 h4
      refine pM_iln rfl rfl ?_
      refine pM_il rfl rfl ?_
      refine pM_qVi (as := [.inl (.inl u2), .inl (.inl v4)]) (T := []) rfl rfl (fun _ _ => rfl) rfl (q_E_bit ) ?_
      refine pM_ic rfl ki_1 ?_
      refine pM_cne rfl rfl (fun h5 => ?_) (fun h5 => ?_)
      · replace h := h.2 h5
        refine pM_ii rfl rfl rfl ki_1 ?_
        refine pM_go rfl rfl ?_
        refine pM_w (F2 := [(0, .inr (.inl (some 171))), (1, .inl (.inl p1)), (2, .inl (.inl u2)), (3, .inl (.inl v3)), (4, .inl (.inl (v4 + 1)))]) (fun L hL => lo_cons (lo_lk hL rfl) (lo_cons (lo_lk hL rfl) (lo_cons (lo_lk hL rfl) (lo_cons (lo_lk hL rfl) (lo_cons (lo_lk hL rfl) lo_nil))))) ?_
        exact IH hN v3 (v4 + 1) h
      · replace h := h.1 h5
        refine pM_iln rfl rfl ?_
        refine pM_ic rfl ki_0 ?_
        refine pM_iln rfl rfl ?_
        refine pM_aln rfl rfl rfl ?_
        refine pM_gr rfl rfl rfl rfl ?_
        refine pM_il rfl rfl ?_
        refine pM_qPi (as := [.inr (.inl (some 18)), .inl (.inl v4)]) (T := [.inl (.inl p1), .inl (.inl 0), .inl (.inl v3)]) rfl rfl (fun C hC => cl_v hC rfl rfl rfl rfl) rfl (q_World_knowersOf isW_18 h) (fun r6 h => ?_)
        refine pM_qVi (as := [.inl (.inl r6)]) (T := [.inl (.inl p1), .inl (.inl 0), .inl (.inl v3)]) rfl rfl (fun _ _ => rfl) rfl (q_Int_bitCount ) ?_
        refine pM_sub rfl ?_
        refine pM_mx rfl rfl ?_
        refine pM_add rfl ?_
        refine pM_isn rfl rfl ?_
        refine pM_ii rfl rfl rfl ki_1 ?_
        refine pM_go rfl rfl ?_
        refine pM_w (F2 := [(0, .inr (.inl (some 171))), (1, .inl (.inl p1)), (2, .inl (.inl u2)), (3, .inl (.inl (v3 + (mx 0 (p1 - (V_Int_bitCount r6 M)))))), (4, .inl (.inl (v4 + 1)))]) (fun L hL => lo_cons (lo_lk hL rfl) (lo_cons (lo_lk hL rfl) (lo_cons (lo_lk hL rfl) (lo_cons (lo_lk hL rfl) (lo_cons (lo_lk hL rfl) lo_nil))))) ?_
        exact IH hN (v3 + (mx 0 (p1 - (V_Int_bitCount r6 M)))) (v4 + 1) h
/-- 18: EarCode$Inquiry.tellingsFor(I)I -/
def W_Inquiry_tellingsFor (p1 : Int32) (N : Nat) (M : MM) (Q : Int32 → Prop) : Prop :=
  (((V_Int_bitCount (M.1 18 1) M) < p1 →
    Q (-1)) ∧
   (¬ (V_Int_bitCount (M.1 18 1) M) < p1 →
    W_World_inForce 18 N M (fun r2 =>
      W_Inquiry_tellingsFor_29 p1 r2 M Q N 0 0)))
theorem q_Inquiry_tellingsFor {X : Option (List AI)} {N : Nat} {M : MM} {p1 : Int32} {Q : Int32 → Prop}  (h : W_Inquiry_tellingsFor p1 N M Q) : pM X N 18 0 (ea_ar 0 [.inr (.inl (some 171)), .inl (.inl p1)]) [] M (Pi Q M) := by
  refine pM_w (F2 := [(0, .inr (.inl (some 171))), (1, .inl (.inl p1))]) (fun L hL => lo_cons (lo_lk hL rfl) (lo_cons (lo_lk hL rfl) lo_nil)) ?_
  refine pM_aln rfl rfl rfl ?_
  refine pM_gr rfl rfl rfl rfl ?_
  refine pM_gi rfl rfl rfl rfl ?_
  refine pM_qVi (as := [.inl (.inl (M.1 18 1))]) (T := []) rfl rfl (fun _ _ => rfl) rfl (q_Int_bitCount ) ?_
  refine pM_iln rfl rfl ?_
  refine pM_cge rfl rfl (fun h1 => ?_) (fun h1 => ?_)
  · replace h := h.2 h1
    refine pM_aln rfl rfl rfl ?_
    refine pM_gr rfl rfl rfl rfl ?_
    refine pM_qPi (as := [.inr (.inl (some 18))]) (T := []) rfl rfl (fun C hC => cl_v hC rfl rfl rfl rfl) rfl (q_World_inForce isW_18 h) (fun r2 h => ?_)
    refine pM_isn rfl rfl ?_
    refine pM_ic rfl ki_0 ?_
    refine pM_isn rfl rfl ?_
    refine pM_ic rfl ki_0 ?_
    refine pM_is rfl rfl ?_
    refine pM_w (F2 := [(0, .inr (.inl (some 171))), (1, .inl (.inl p1)), (2, .inl (.inl r2)), (3, .inl (.inl 0)), (4, .inl (.inl 0))]) (fun L hL => lo_cons (lo_lk hL rfl) (lo_cons (lo_lk hL rfl) (lo_cons (lo_lk hL rfl) (lo_cons (lo_lk hL rfl) (lo_cons (lo_lk hL rfl) lo_nil))))) ?_
    refine q_Inquiry_tellingsFor_29   N (Nat.le_refl N) 0 0 h
  · replace h := h.1 h1
    refine pM_ic rfl ki_m1 ?_
    exact pM_ri rfl (⟨_, rfl, rfl, h⟩)
def B_Inquiry_firstFreePlace_11 (p1 : Int32) (p2 : Int32) (u3 : Int32) (M : MM) (Q : Int32 → Prop) (N : Nat) (ih : Int32 → Prop) (v4 : Int32) : Prop :=
  ((v4 < 8 →
    W_Inquiry_forbidding p1 ((p2 * 8) + v4) N M (fun r4 =>
      (((r4 &&& u3) = 0 →
        Q v4) ∧
       (¬ (r4 &&& u3) = 0 →
        ih (v4 + 1))))) ∧
   (¬ v4 < 8 →
    Q (-1)))
def W_Inquiry_firstFreePlace_11 (p1 : Int32) (p2 : Int32) (u3 : Int32) (M : MM) (Q : Int32 → Prop) : Nat → Int32 → Prop
  | 0, _ => True
  | N + 1, v4 => B_Inquiry_firstFreePlace_11 p1 p2 u3 M Q N (W_Inquiry_firstFreePlace_11 p1 p2 u3 M Q N) v4
theorem I_Inquiry_firstFreePlace_11 (p1 : Int32) (p2 : Int32) (u3 : Int32) (M : MM) (Q : Int32 → Prop) (inv : Int32 → Prop) (hs : ∀ (N : Nat) (ih : Int32 → Prop) (v4 : Int32), (∀ (v4 : Int32), inv v4 → ih v4) → inv v4 → B_Inquiry_firstFreePlace_11 p1 p2 u3 M Q N ih v4) : ∀ (N : Nat) (v4 : Int32), inv v4 → W_Inquiry_firstFreePlace_11 p1 p2 u3 M Q N v4 := by
  intro N
  induction N with
  | zero => intros; trivial
  | succ N IH =>
    intro v4 h
    exact hs N _ v4 IH h
theorem q_Inquiry_firstFreePlace_11 {X : Option (List AI)} {N0 : Nat} {p1 : Int32} {p2 : Int32} {u3 : Int32} {M : MM} {Q : Int32 → Prop}   : ∀ (N : Nat), N ≤ N0 → ∀ (v4 : Int32), W_Inquiry_firstFreePlace_11 p1 p2 u3 M Q N v4 → pM X N 19 11 [(0, .inr (.inl (some 171))), (1, .inl (.inl p1)), (2, .inl (.inl p2)), (3, .inl (.inl u3)), (4, .inl (.inl v4))] [] M (Pi Q M) := by
  intro N
  induction N with
  | zero => intros; exact pM_zero
  | succ N IH =>
    intro hN v4 h
    replace hN := Nat.le_of_succ_le hN
    replace h : B_Inquiry_firstFreePlace_11 p1 p2 u3 M Q N (W_Inquiry_firstFreePlace_11 p1 p2 u3 M Q N) v4 := h
    refine pM_s (pMs_il rfl rfl ?_)
    refine pM_bi rfl kb_8 ?_
    refine pM_cge rfl rfl (fun h3 => ?_) (fun h3 => ?_)
    · replace h := h.2 h3
      refine pM_ic rfl ki_m1 ?_
      exact pM_ri rfl (⟨_, rfl, rfl, h⟩)
    · replace h := h.1 h3
      refine pM_aln rfl rfl rfl ?_
      refine pM_iln rfl rfl ?_
      refine pM_iln rfl rfl ?_
      refine pM_bi rfl kb_8 ?_
      refine pM_mul rfl ?_
      refine pM_il rfl rfl ?_
      refine pM_add rfl ?_
      refine pM_qPi (as := [.inr (.inl (some 171)), .inl (.inl p1), .inl (.inl ((p2 * 8) + v4))]) (T := []) rfl rfl (fun C hC => cl_v hC rfl rfl rfl rfl) rfl (q_Inquiry_forbidding  h) (fun r4 h => ?_)
      refine pM_iln rfl rfl ?_
      refine pM_and rfl ?_
      refine pM_zne rfl rfl (fun h6 => ?_) (fun h6 => ?_)
      · replace h := h.2 h6
        refine pM_ii rfl rfl rfl ki_1 ?_
        refine pM_go rfl rfl ?_
        refine pM_w (F2 := [(0, .inr (.inl (some 171))), (1, .inl (.inl p1)), (2, .inl (.inl p2)), (3, .inl (.inl u3)), (4, .inl (.inl (v4 + 1)))]) (fun L hL => lo_cons (lo_lk hL rfl) (lo_cons (lo_lk hL rfl) (lo_cons (lo_lk hL rfl) (lo_cons (lo_lk hL rfl) (lo_cons (lo_lk hL rfl) lo_nil))))) ?_
        exact IH hN (v4 + 1) h
      · replace h := h.1 h6
        refine pM_il rfl rfl ?_
        exact pM_ri rfl (⟨_, rfl, rfl, h⟩)
/-- 19: EarCode$Inquiry.firstFreePlace(II)I -/
def W_Inquiry_firstFreePlace (p1 : Int32) (p2 : Int32) (N : Nat) (M : MM) (Q : Int32 → Prop) : Prop :=
  W_World_inForce 18 N M (fun r1 =>
    W_Inquiry_firstFreePlace_11 p1 p2 r1 M Q N 0)
theorem q_Inquiry_firstFreePlace {X : Option (List AI)} {N : Nat} {M : MM} {p1 : Int32} {p2 : Int32} {Q : Int32 → Prop}  (h : W_Inquiry_firstFreePlace p1 p2 N M Q) : pM X N 19 0 (ea_ar 0 [.inr (.inl (some 171)), .inl (.inl p1), .inl (.inl p2)]) [] M (Pi Q M) := by
  refine pM_w (F2 := [(0, .inr (.inl (some 171))), (1, .inl (.inl p1)), (2, .inl (.inl p2))]) (fun L hL => lo_cons (lo_lk hL rfl) (lo_cons (lo_lk hL rfl) (lo_cons (lo_lk hL rfl) lo_nil))) ?_
  refine pM_aln rfl rfl rfl ?_
  refine pM_gr rfl rfl rfl rfl ?_
  refine pM_qPi (as := [.inr (.inl (some 18))]) (T := []) rfl rfl (fun C hC => cl_v hC rfl rfl rfl rfl) rfl (q_World_inForce isW_18 h) (fun r1 h => ?_)
  refine pM_isn rfl rfl ?_
  refine pM_ic rfl ki_0 ?_
  refine pM_is rfl rfl ?_
  refine pM_w (F2 := [(0, .inr (.inl (some 171))), (1, .inl (.inl p1)), (2, .inl (.inl p2)), (3, .inl (.inl r1)), (4, .inl (.inl 0))]) (fun L hL => lo_cons (lo_lk hL rfl) (lo_cons (lo_lk hL rfl) (lo_cons (lo_lk hL rfl) (lo_cons (lo_lk hL rfl) (lo_cons (lo_lk hL rfl) lo_nil))))) ?_
  refine q_Inquiry_firstFreePlace_11   N (Nat.le_refl N) 0 h
/-- 109: EarCode$World.hasSeen(II)Z -/
def V_World_hasSeen (a : Nat) (p1 : Int32) (p2 : Int32) (M : MM) : Int32 :=
  (if (lg_cmp ((lu (M.2 (a + 8) (ni p1)) p2) &&& (Int64.ofNat 1)) (Int64.ofNat 1)) = 0 then
    1
  else
    0)
theorem q_World_hasSeen {X : Option (List AI)} {N : Nat} {M : MM} {a : Nat} {p1 : Int32} {p2 : Int32} (ha : isW a) : pM X N 109 0 (ea_ar 0 [.inr (.inl (some a)), .inl (.inl p1), .inl (.inl p2)]) [] M (Vi (V_World_hasSeen a p1 p2 M) M) := by
  refine pM_w (F2 := [(0, .inr (.inl (some a))), (1, .inl (.inl p1)), (2, .inl (.inl p2))]) (fun L hL => lo_cons (lo_lk hL rfl) (lo_cons (lo_lk hL rfl) (lo_cons (lo_lk hL rfl) lo_nil))) ?_
  refine pM_aln rfl rfl rfl ?_
  refine pM_gr rfl rfl ha.1 rfl ?_
  refine pM_iln rfl rfl ?_
  refine pM_la rfl ha.2.2.2.2.2.2.2.2.1 ?_
  refine pM_iln rfl rfl ?_
  refine pM_p (pc' := 8) (S' := [.inr (.inr (.inl (some (lu (M.2 (a + 8) (ni p1)) p2))))]) rfl rfl (fun _ => rfl) ?_
  refine pM_lc rfl ?_
  refine pM_p (pc' := 10) (S' := [.inr (.inr (.inl (some ((lu (M.2 (a + 8) (ni p1)) p2) &&& (Int64.ofNat 1)))))]) rfl rfl (fun _ => rfl) ?_
  refine pM_lc rfl ?_
  refine pM_p (pc' := 12) (S' := [.inl (.inl (lg_cmp ((lu (M.2 (a + 8) (ni p1)) p2) &&& (Int64.ofNat 1)) (Int64.ofNat 1)))]) rfl rfl (fun _ => rfl) ?_
  refine pM_zne rfl rfl (fun h1 => ?_) (fun h1 => ?_)
  · refine pM_ic rfl ki_0 ?_
    exact pM_rVi rfl (Eq.trans (if_neg h1) rfl)
  · refine pM_ic rfl ki_1 ?_
    refine pM_go rfl rfl ?_
    exact pM_rVi rfl (Eq.trans (if_pos h1) rfl)
def B_Inquiry_deducedBy_4 (p1 : Int32) (M : MM) (Q : Int32 → Prop) (N : Nat) (ih : Int32 → Int32 → Prop) (v2 : Int32) (v3 : Int32) : Prop :=
  ((v3 < 64 →
    (((V_World_hasSeen 18 p1 v3 M) = 0 →
      ih v2 (v3 + 1)) ∧
     (¬ (V_World_hasSeen 18 p1 v3 M) = 0 →
      W_Inquiry_forbidding p1 v3 N M (fun r3 =>
        ih (v2 ||| r3) (v3 + 1))))) ∧
   (¬ v3 < 64 →
    W_World_inForce 18 N M (fun r5 =>
      Q ((v2 &&& r5) &&& ((M.1 19 (ni p1)) ^^^ (-1))))))
def W_Inquiry_deducedBy_4 (p1 : Int32) (M : MM) (Q : Int32 → Prop) : Nat → Int32 → Int32 → Prop
  | 0, _, _ => True
  | N + 1, v2, v3 => B_Inquiry_deducedBy_4 p1 M Q N (W_Inquiry_deducedBy_4 p1 M Q N) v2 v3
theorem I_Inquiry_deducedBy_4 (p1 : Int32) (M : MM) (Q : Int32 → Prop) (inv : Int32 → Int32 → Prop) (hs : ∀ (N : Nat) (ih : Int32 → Int32 → Prop) (v2 : Int32) (v3 : Int32), (∀ (v2 : Int32) (v3 : Int32), inv v2 v3 → ih v2 v3) → inv v2 v3 → B_Inquiry_deducedBy_4 p1 M Q N ih v2 v3) : ∀ (N : Nat) (v2 : Int32) (v3 : Int32), inv v2 v3 → W_Inquiry_deducedBy_4 p1 M Q N v2 v3 := by
  intro N
  induction N with
  | zero => intros; trivial
  | succ N IH =>
    intro v2 v3 h
    exact hs N _ v2 v3 IH h
theorem q_Inquiry_deducedBy_4 {X : Option (List AI)} {N0 : Nat} {p1 : Int32} {M : MM} {Q : Int32 → Prop}   : ∀ (N : Nat), N ≤ N0 → ∀ (v2 : Int32) (v3 : Int32), W_Inquiry_deducedBy_4 p1 M Q N v2 v3 → pM X N 20 4 [(0, .inr (.inl (some 171))), (1, .inl (.inl p1)), (2, .inl (.inl v2)), (3, .inl (.inl v3))] [] M (Pi Q M) := by
  intro N
  induction N with
  | zero => intros; exact pM_zero
  | succ N IH =>
    intro hN v2 v3 h
    replace hN := Nat.le_of_succ_le hN
    replace h : B_Inquiry_deducedBy_4 p1 M Q N (W_Inquiry_deducedBy_4 p1 M Q N) v2 v3 := h
    refine pM_s (pMs_iln rfl rfl ?_)
    refine pM_bi rfl kb_64 ?_
    refine pM_cge rfl rfl (fun h1 => ?_) (fun h1 => ?_)
    · replace h := h.2 h1
      refine pM_iln rfl rfl ?_
      refine pM_aln rfl rfl rfl ?_
      refine pM_gr rfl rfl rfl rfl ?_
      refine pM_qPi (as := [.inr (.inl (some 18))]) (T := [.inl (.inl v2)]) rfl rfl (fun C hC => cl_v hC rfl rfl rfl rfl) rfl (q_World_inForce isW_18 h) (fun r5 h => ?_)
      refine pM_and rfl ?_
      refine pM_aln rfl rfl rfl ?_
      refine pM_gr rfl rfl rfl rfl ?_
      refine pM_gr rfl rfl rfl rfl ?_
      refine pM_iln rfl rfl ?_
      refine pM_ai rfl rfl (one_p _) ?_
      refine pM_ic rfl ki_m1 ?_
      refine pM_xor rfl ?_
      refine pM_and rfl ?_
      exact pM_ri rfl (⟨_, rfl, rfl, h⟩)
    · replace h := h.1 h1
      refine pM_aln rfl rfl rfl ?_
      refine pM_gr rfl rfl rfl rfl ?_
      refine pM_iln rfl rfl ?_
      refine pM_iln rfl rfl ?_
      refine pM_qVi (as := [.inr (.inl (some 18)), .inl (.inl p1), .inl (.inl v3)]) (T := []) rfl rfl (fun C hC => cl_v hC rfl rfl rfl rfl) rfl (q_World_hasSeen isW_18) ?_
      refine pM_zeq rfl rfl (fun h2 => ?_) (fun h2 => ?_)
      · replace h := h.1 h2
        refine pM_ii rfl rfl rfl ki_1 ?_
        refine pM_go rfl rfl ?_
        refine pM_w (F2 := [(0, .inr (.inl (some 171))), (1, .inl (.inl p1)), (2, .inl (.inl v2)), (3, .inl (.inl (v3 + 1)))]) (fun L hL => lo_cons (lo_lk hL rfl) (lo_cons (lo_lk hL rfl) (lo_cons (lo_lk hL rfl) (lo_cons (lo_lk hL rfl) lo_nil)))) ?_
        exact IH hN v2 (v3 + 1) h
      · replace h := h.2 h2
        refine pM_iln rfl rfl ?_
        refine pM_aln rfl rfl rfl ?_
        refine pM_iln rfl rfl ?_
        refine pM_iln rfl rfl ?_
        refine pM_qPi (as := [.inr (.inl (some 171)), .inl (.inl p1), .inl (.inl v3)]) (T := [.inl (.inl v2)]) rfl rfl (fun C hC => cl_v hC rfl rfl rfl rfl) rfl (q_Inquiry_forbidding  h) (fun r3 h => ?_)
        refine pM_or rfl ?_
        refine pM_isn rfl rfl ?_
        refine pM_ii rfl rfl rfl ki_1 ?_
        refine pM_go rfl rfl ?_
        refine pM_w (F2 := [(0, .inr (.inl (some 171))), (1, .inl (.inl p1)), (2, .inl (.inl (v2 ||| r3))), (3, .inl (.inl (v3 + 1)))]) (fun L hL => lo_cons (lo_lk hL rfl) (lo_cons (lo_lk hL rfl) (lo_cons (lo_lk hL rfl) (lo_cons (lo_lk hL rfl) lo_nil)))) ?_
        exact IH hN (v2 ||| r3) (v3 + 1) h
/-- 20: EarCode$Inquiry.deducedBy(I)I -/
def W_Inquiry_deducedBy (p1 : Int32) (N : Nat) (M : MM) (Q : Int32 → Prop) : Prop :=
  W_Inquiry_deducedBy_4 p1 M Q N 0 0
theorem q_Inquiry_deducedBy {X : Option (List AI)} {N : Nat} {M : MM} {p1 : Int32} {Q : Int32 → Prop}  (h : W_Inquiry_deducedBy p1 N M Q) : pM X N 20 0 (ea_ar 0 [.inr (.inl (some 171)), .inl (.inl p1)]) [] M (Pi Q M) := by
  refine pM_w (F2 := [(0, .inr (.inl (some 171))), (1, .inl (.inl p1))]) (fun L hL => lo_cons (lo_lk hL rfl) (lo_cons (lo_lk hL rfl) lo_nil)) ?_
  refine pM_ic rfl ki_0 ?_
  refine pM_isn rfl rfl ?_
  refine pM_ic rfl ki_0 ?_
  refine pM_isn rfl rfl ?_
  refine pM_w (F2 := [(0, .inr (.inl (some 171))), (1, .inl (.inl p1)), (2, .inl (.inl 0)), (3, .inl (.inl 0))]) (fun L hL => lo_cons (lo_lk hL rfl) (lo_cons (lo_lk hL rfl) (lo_cons (lo_lk hL rfl) (lo_cons (lo_lk hL rfl) lo_nil)))) ?_
  refine q_Inquiry_deducedBy_4   N (Nat.le_refl N) 0 0 h
def B_Inquiry_isAllowedToAny_2 (p1 : Int32) (M : MM) (Q : Int32 → Prop) (N : Nat) (ih : Int32 → Prop) (v2 : Int32) : Prop :=
  ((v2 < (M.1 18 0) →
    (((V_World_isAlive 18 v2 M) = 0 →
      ih (v2 + 1)) ∧
     (¬ (V_World_isAlive 18 v2 M) = 0 →
      W_Inquiry_allows v2 p1 N M (fun r3 =>
        ((r3 = 0 →
          ih (v2 + 1)) ∧
         (¬ r3 = 0 →
          Q 1)))))) ∧
   (¬ v2 < (M.1 18 0) →
    Q 0))
def W_Inquiry_isAllowedToAny_2 (p1 : Int32) (M : MM) (Q : Int32 → Prop) : Nat → Int32 → Prop
  | 0, _ => True
  | N + 1, v2 => B_Inquiry_isAllowedToAny_2 p1 M Q N (W_Inquiry_isAllowedToAny_2 p1 M Q N) v2
theorem I_Inquiry_isAllowedToAny_2 (p1 : Int32) (M : MM) (Q : Int32 → Prop) (inv : Int32 → Prop) (hs : ∀ (N : Nat) (ih : Int32 → Prop) (v2 : Int32), (∀ (v2 : Int32), inv v2 → ih v2) → inv v2 → B_Inquiry_isAllowedToAny_2 p1 M Q N ih v2) : ∀ (N : Nat) (v2 : Int32), inv v2 → W_Inquiry_isAllowedToAny_2 p1 M Q N v2 := by
  intro N
  induction N with
  | zero => intros; trivial
  | succ N IH =>
    intro v2 h
    exact hs N _ v2 IH h
theorem q_Inquiry_isAllowedToAny_2 {X : Option (List AI)} {N0 : Nat} {p1 : Int32} {M : MM} {Q : Int32 → Prop}   : ∀ (N : Nat), N ≤ N0 → ∀ (v2 : Int32), W_Inquiry_isAllowedToAny_2 p1 M Q N v2 → pM X N 22 2 [(0, .inr (.inl (some 171))), (1, .inl (.inl p1)), (2, .inl (.inl v2))] [] M (Pi Q M) := by
  intro N
  induction N with
  | zero => intros; exact pM_zero
  | succ N IH =>
    intro hN v2 h
    replace hN := Nat.le_of_succ_le hN
    replace h : B_Inquiry_isAllowedToAny_2 p1 M Q N (W_Inquiry_isAllowedToAny_2 p1 M Q N) v2 := h
    refine pM_s (pMs_iln rfl rfl ?_)
    refine pM_aln rfl rfl rfl ?_
    refine pM_gr rfl rfl rfl rfl ?_
    refine pM_gi rfl rfl rfl rfl ?_
    refine pM_cge rfl rfl (fun h1 => ?_) (fun h1 => ?_)
    · replace h := h.2 h1
      refine pM_ic rfl ki_0 ?_
      exact pM_ri rfl (⟨_, rfl, rfl, h⟩)
    · replace h := h.1 h1
      refine pM_aln rfl rfl rfl ?_
      refine pM_gr rfl rfl rfl rfl ?_
      refine pM_iln rfl rfl ?_
      refine pM_qVi (as := [.inr (.inl (some 18)), .inl (.inl v2)]) (T := []) rfl rfl (fun C hC => cl_v hC rfl rfl rfl rfl) rfl (q_World_isAlive isW_18) ?_
      refine pM_zeq rfl rfl (fun h2 => ?_) (fun h2 => ?_)
      · replace h := h.1 h2
        refine pM_ii rfl rfl rfl ki_1 ?_
        refine pM_go rfl rfl ?_
        refine pM_w (F2 := [(0, .inr (.inl (some 171))), (1, .inl (.inl p1)), (2, .inl (.inl (v2 + 1)))]) (fun L hL => lo_cons (lo_lk hL rfl) (lo_cons (lo_lk hL rfl) (lo_cons (lo_lk hL rfl) lo_nil))) ?_
        exact IH hN (v2 + 1) h
      · replace h := h.2 h2
        refine pM_aln rfl rfl rfl ?_
        refine pM_iln rfl rfl ?_
        refine pM_iln rfl rfl ?_
        refine pM_qPi (as := [.inr (.inl (some 171)), .inl (.inl v2), .inl (.inl p1)]) (T := []) rfl rfl (fun C hC => cl_v hC rfl rfl rfl rfl) rfl (q_Inquiry_allows  h) (fun r3 h => ?_)
        refine pM_zeq rfl rfl (fun h5 => ?_) (fun h5 => ?_)
        · replace h := h.1 h5
          refine pM_ii rfl rfl rfl ki_1 ?_
          refine pM_go rfl rfl ?_
          refine pM_w (F2 := [(0, .inr (.inl (some 171))), (1, .inl (.inl p1)), (2, .inl (.inl (v2 + 1)))]) (fun L hL => lo_cons (lo_lk hL rfl) (lo_cons (lo_lk hL rfl) (lo_cons (lo_lk hL rfl) lo_nil))) ?_
          exact IH hN (v2 + 1) h
        · replace h := h.2 h5
          refine pM_ic rfl ki_1 ?_
          exact pM_ri rfl (⟨_, rfl, rfl, h⟩)
/-- 22: EarCode$Inquiry.isAllowedToAny(I)Z -/
def W_Inquiry_isAllowedToAny (p1 : Int32) (N : Nat) (M : MM) (Q : Int32 → Prop) : Prop :=
  W_Inquiry_isAllowedToAny_2 p1 M Q N 0
theorem q_Inquiry_isAllowedToAny {X : Option (List AI)} {N : Nat} {M : MM} {p1 : Int32} {Q : Int32 → Prop}  (h : W_Inquiry_isAllowedToAny p1 N M Q) : pM X N 22 0 (ea_ar 0 [.inr (.inl (some 171)), .inl (.inl p1)]) [] M (Pi Q M) := by
  refine pM_w (F2 := [(0, .inr (.inl (some 171))), (1, .inl (.inl p1))]) (fun L hL => lo_cons (lo_lk hL rfl) (lo_cons (lo_lk hL rfl) lo_nil)) ?_
  refine pM_ic rfl ki_0 ?_
  refine pM_isn rfl rfl ?_
  refine pM_w (F2 := [(0, .inr (.inl (some 171))), (1, .inl (.inl p1)), (2, .inl (.inl 0))]) (fun L hL => lo_cons (lo_lk hL rfl) (lo_cons (lo_lk hL rfl) (lo_cons (lo_lk hL rfl) lo_nil))) ?_
  refine q_Inquiry_isAllowedToAny_2   N (Nat.le_refl N) 0 h
def B_Inquiry_hushedPlaces_4 (p1 : Int32) (M : MM) (Q : Int32 → Prop) (N : Nat) (ih : Int32 → Int32 → Prop) (v2 : Int32) (v3 : Int32) : Prop :=
  ((v3 < 8 →
    (((M.1 18 1) = 0 →
      Q v2) ∧
     (¬ (M.1 18 1) = 0 →
      W_Inquiry_isAllowedToAny ((p1 * 8) + v3) N M (fun r3 =>
        ((r3 = 0 →
          ih (v2 ||| (sl 1 v3)) (v3 + 1)) ∧
         (¬ r3 = 0 →
          ih v2 (v3 + 1))))))) ∧
   (¬ v3 < 8 →
    Q v2))
def W_Inquiry_hushedPlaces_4 (p1 : Int32) (M : MM) (Q : Int32 → Prop) : Nat → Int32 → Int32 → Prop
  | 0, _, _ => True
  | N + 1, v2, v3 => B_Inquiry_hushedPlaces_4 p1 M Q N (W_Inquiry_hushedPlaces_4 p1 M Q N) v2 v3
theorem I_Inquiry_hushedPlaces_4 (p1 : Int32) (M : MM) (Q : Int32 → Prop) (inv : Int32 → Int32 → Prop) (hs : ∀ (N : Nat) (ih : Int32 → Int32 → Prop) (v2 : Int32) (v3 : Int32), (∀ (v2 : Int32) (v3 : Int32), inv v2 v3 → ih v2 v3) → inv v2 v3 → B_Inquiry_hushedPlaces_4 p1 M Q N ih v2 v3) : ∀ (N : Nat) (v2 : Int32) (v3 : Int32), inv v2 v3 → W_Inquiry_hushedPlaces_4 p1 M Q N v2 v3 := by
  intro N
  induction N with
  | zero => intros; trivial
  | succ N IH =>
    intro v2 v3 h
    exact hs N _ v2 v3 IH h
theorem q_Inquiry_hushedPlaces_4 {X : Option (List AI)} {N0 : Nat} {p1 : Int32} {M : MM} {Q : Int32 → Prop}   : ∀ (N : Nat), N ≤ N0 → ∀ (v2 : Int32) (v3 : Int32), W_Inquiry_hushedPlaces_4 p1 M Q N v2 v3 → pM X N 21 4 [(0, .inr (.inl (some 171))), (1, .inl (.inl p1)), (2, .inl (.inl v2)), (3, .inl (.inl v3))] [] M (Pi Q M) := by
  intro N
  induction N with
  | zero => intros; exact pM_zero
  | succ N IH =>
    intro hN v2 v3 h
    replace hN := Nat.le_of_succ_le hN
    replace h : B_Inquiry_hushedPlaces_4 p1 M Q N (W_Inquiry_hushedPlaces_4 p1 M Q N) v2 v3 := h
    refine pM_s (pMs_iln rfl rfl ?_)
    refine pM_bi rfl kb_8 ?_
    refine pM_cge rfl rfl (fun h1 => ?_) (fun h1 => ?_)
    · replace h := h.2 h1
      refine pM_iln rfl rfl ?_
      exact pM_ri rfl (⟨_, rfl, rfl, h⟩)
    · replace h := h.1 h1
      refine pM_aln rfl rfl rfl ?_
      refine pM_gr rfl rfl rfl rfl ?_
      refine pM_gi rfl rfl rfl rfl ?_
      refine pM_zeq rfl rfl (fun h2 => ?_) (fun h2 => ?_)
      · replace h := h.1 h2
        refine pM_iln rfl rfl ?_
        exact pM_ri rfl (⟨_, rfl, rfl, h⟩)
      · replace h := h.2 h2
        refine pM_aln rfl rfl rfl ?_
        refine pM_iln rfl rfl ?_
        refine pM_bi rfl kb_8 ?_
        refine pM_mul rfl ?_
        refine pM_iln rfl rfl ?_
        refine pM_add rfl ?_
        refine pM_qPi (as := [.inr (.inl (some 171)), .inl (.inl ((p1 * 8) + v3))]) (T := []) rfl rfl (fun C hC => cl_v hC rfl rfl rfl rfl) rfl (q_Inquiry_isAllowedToAny  h) (fun r3 h => ?_)
        refine pM_zne rfl rfl (fun h5 => ?_) (fun h5 => ?_)
        · replace h := h.2 h5
          refine pM_ii rfl rfl rfl ki_1 ?_
          refine pM_go rfl rfl ?_
          refine pM_w (F2 := [(0, .inr (.inl (some 171))), (1, .inl (.inl p1)), (2, .inl (.inl v2)), (3, .inl (.inl (v3 + 1)))]) (fun L hL => lo_cons (lo_lk hL rfl) (lo_cons (lo_lk hL rfl) (lo_cons (lo_lk hL rfl) (lo_cons (lo_lk hL rfl) lo_nil)))) ?_
          exact IH hN v2 (v3 + 1) h
        · replace h := h.1 h5
          refine pM_iln rfl rfl ?_
          refine pM_ic rfl ki_1 ?_
          refine pM_iln rfl rfl ?_
          refine pM_shl rfl ?_
          refine pM_or rfl ?_
          refine pM_isn rfl rfl ?_
          refine pM_ii rfl rfl rfl ki_1 ?_
          refine pM_go rfl rfl ?_
          refine pM_w (F2 := [(0, .inr (.inl (some 171))), (1, .inl (.inl p1)), (2, .inl (.inl (v2 ||| (sl 1 v3)))), (3, .inl (.inl (v3 + 1)))]) (fun L hL => lo_cons (lo_lk hL rfl) (lo_cons (lo_lk hL rfl) (lo_cons (lo_lk hL rfl) (lo_cons (lo_lk hL rfl) lo_nil)))) ?_
          exact IH hN (v2 ||| (sl 1 v3)) (v3 + 1) h
/-- 21: EarCode$Inquiry.hushedPlaces(I)I -/
def W_Inquiry_hushedPlaces (p1 : Int32) (N : Nat) (M : MM) (Q : Int32 → Prop) : Prop :=
  W_Inquiry_hushedPlaces_4 p1 M Q N 0 0
theorem q_Inquiry_hushedPlaces {X : Option (List AI)} {N : Nat} {M : MM} {p1 : Int32} {Q : Int32 → Prop}  (h : W_Inquiry_hushedPlaces p1 N M Q) : pM X N 21 0 (ea_ar 0 [.inr (.inl (some 171)), .inl (.inl p1)]) [] M (Pi Q M) := by
  refine pM_w (F2 := [(0, .inr (.inl (some 171))), (1, .inl (.inl p1))]) (fun L hL => lo_cons (lo_lk hL rfl) (lo_cons (lo_lk hL rfl) lo_nil)) ?_
  refine pM_ic rfl ki_0 ?_
  refine pM_isn rfl rfl ?_
  refine pM_ic rfl ki_0 ?_
  refine pM_isn rfl rfl ?_
  refine pM_w (F2 := [(0, .inr (.inl (some 171))), (1, .inl (.inl p1)), (2, .inl (.inl 0)), (3, .inl (.inl 0))]) (fun L hL => lo_cons (lo_lk hL rfl) (lo_cons (lo_lk hL rfl) (lo_cons (lo_lk hL rfl) (lo_cons (lo_lk hL rfl) lo_nil)))) ?_
  refine q_Inquiry_hushedPlaces_4   N (Nat.le_refl N) 0 0 h
/-- 110: EarCode$World.matterAt(II)I -/
def V_World_matterAt (a : Nat) (p1 : Int32) (p2 : Int32) (M : MM) : Int32 :=
  (M.1 (a + 5) (ni ((p1 * 6) + p2)))
theorem q_World_matterAt {X : Option (List AI)} {N : Nat} {M : MM} {a : Nat} {p1 : Int32} {p2 : Int32} (ha : isW a) : pM X N 110 0 (ea_ar 0 [.inr (.inl (some a)), .inl (.inl p1), .inl (.inl p2)]) [] M (Vi (V_World_matterAt a p1 p2 M) M) := by
  refine pM_w (F2 := [(0, .inr (.inl (some a))), (1, .inl (.inl p1)), (2, .inl (.inl p2))]) (fun L hL => lo_cons (lo_lk hL rfl) (lo_cons (lo_lk hL rfl) (lo_cons (lo_lk hL rfl) lo_nil))) ?_
  refine pM_aln rfl rfl rfl ?_
  refine pM_gr rfl rfl ha.1 rfl ?_
  refine pM_iln rfl rfl ?_
  refine pM_bi rfl kb_6 ?_
  refine pM_mul rfl ?_
  refine pM_iln rfl rfl ?_
  refine pM_add rfl ?_
  refine pM_ai rfl ha.2.2.2.2.2.1 (one_p _) ?_
  exact pM_rVi rfl (rfl)
def B_Inquiry_timesInHabits_18 (p1 : Int32) (u3 : Int32) (M : MM) (k66 : Int32 → Prop) (Q : Int32 → Prop) (N : Nat) (ih : Int32 → Int32 → Prop) (v2 : Int32) (v4 : Int32) : Prop :=
  ((v4 < (M.1 24 (ni u3)) →
    (((V_World_isAlive 18 u3 M) = 0 →
      k66 v2) ∧
     (¬ (V_World_isAlive 18 u3 M) = 0 →
      (((V_World_matterAt 18 u3 v4 M) = p1 →
        ih (v2 + 1) (v4 + 1)) ∧
       (¬ (V_World_matterAt 18 u3 v4 M) = p1 →
        ih v2 (v4 + 1)))))) ∧
   (¬ v4 < (M.1 24 (ni u3)) →
    k66 v2))
def W_Inquiry_timesInHabits_18 (p1 : Int32) (u3 : Int32) (M : MM) (k66 : Int32 → Prop) (Q : Int32 → Prop) : Nat → Int32 → Int32 → Prop
  | 0, _, _ => True
  | N + 1, v2, v4 => B_Inquiry_timesInHabits_18 p1 u3 M k66 Q N (W_Inquiry_timesInHabits_18 p1 u3 M k66 Q N) v2 v4
theorem I_Inquiry_timesInHabits_18 (p1 : Int32) (u3 : Int32) (M : MM) (k66 : Int32 → Prop) (Q : Int32 → Prop) (inv : Int32 → Int32 → Prop) (hs : ∀ (N : Nat) (ih : Int32 → Int32 → Prop) (v2 : Int32) (v4 : Int32), (∀ (v2 : Int32) (v4 : Int32), inv v2 v4 → ih v2 v4) → inv v2 v4 → B_Inquiry_timesInHabits_18 p1 u3 M k66 Q N ih v2 v4) : ∀ (N : Nat) (v2 : Int32) (v4 : Int32), inv v2 v4 → W_Inquiry_timesInHabits_18 p1 u3 M k66 Q N v2 v4 := by
  intro N
  induction N with
  | zero => intros; trivial
  | succ N IH =>
    intro v2 v4 h
    exact hs N _ v2 v4 IH h
theorem q_Inquiry_timesInHabits_18 {X : Option (List AI)} {N0 : Nat} {p1 : Int32} {u3 : Int32} {M : MM} {k66 : Int32 → Prop} {Q : Int32 → Prop}  (hk66 : ∀ (v2 : Int32), k66 v2 → pM X N0 24 66 [(0, .inr (.inl (some 171))), (1, .inl (.inl p1)), (2, .inl (.inl v2)), (3, .inl (.inl u3))] [] M (Pi Q M)) : ∀ (N : Nat), N ≤ N0 → ∀ (v2 : Int32) (v4 : Int32), W_Inquiry_timesInHabits_18 p1 u3 M k66 Q N v2 v4 → pM X N 24 18 [(0, .inr (.inl (some 171))), (1, .inl (.inl p1)), (2, .inl (.inl v2)), (3, .inl (.inl u3)), (4, .inl (.inl v4))] [] M (Pi Q M) := by
  intro N
  induction N with
  | zero => intros; exact pM_zero
  | succ N IH =>
    intro hN v2 v4 h
    replace hN := Nat.le_of_succ_le hN
    replace h : B_Inquiry_timesInHabits_18 p1 u3 M k66 Q N (W_Inquiry_timesInHabits_18 p1 u3 M k66 Q N) v2 v4 := h
    refine pM_s (pMs_il rfl rfl ?_)
    refine pM_aln rfl rfl rfl ?_
    refine pM_gr rfl rfl rfl rfl ?_
    refine pM_gr rfl rfl rfl rfl ?_
    refine pM_iln rfl rfl ?_
    refine pM_ai rfl rfl (one_p _) ?_
    refine pM_cge rfl rfl (fun h2 => ?_) (fun h2 => ?_)
    · replace h := h.2 h2
      refine pM_w (F2 := [(0, .inr (.inl (some 171))), (1, .inl (.inl p1)), (2, .inl (.inl v2)), (3, .inl (.inl u3))]) (fun L hL => lo_cons (lo_lk hL rfl) (lo_cons (lo_lk hL rfl) (lo_cons (lo_lk hL rfl) (lo_cons (lo_lk hL rfl) lo_nil)))) ?_
      exact pM_le hN (hk66 _ h)
    · replace h := h.1 h2
      refine pM_aln rfl rfl rfl ?_
      refine pM_gr rfl rfl rfl rfl ?_
      refine pM_iln rfl rfl ?_
      refine pM_qVi (as := [.inr (.inl (some 18)), .inl (.inl u3)]) (T := []) rfl rfl (fun C hC => cl_v hC rfl rfl rfl rfl) rfl (q_World_isAlive isW_18) ?_
      refine pM_zeq rfl rfl (fun h3 => ?_) (fun h3 => ?_)
      · replace h := h.1 h3
        refine pM_w (F2 := [(0, .inr (.inl (some 171))), (1, .inl (.inl p1)), (2, .inl (.inl v2)), (3, .inl (.inl u3))]) (fun L hL => lo_cons (lo_lk hL rfl) (lo_cons (lo_lk hL rfl) (lo_cons (lo_lk hL rfl) (lo_cons (lo_lk hL rfl) lo_nil)))) ?_
        exact pM_le hN (hk66 _ h)
      · replace h := h.2 h3
        refine pM_aln rfl rfl rfl ?_
        refine pM_gr rfl rfl rfl rfl ?_
        refine pM_iln rfl rfl ?_
        refine pM_il rfl rfl ?_
        refine pM_qVi (as := [.inr (.inl (some 18)), .inl (.inl u3), .inl (.inl v4)]) (T := []) rfl rfl (fun C hC => cl_v hC rfl rfl rfl rfl) rfl (q_World_matterAt isW_18) ?_
        refine pM_iln rfl rfl ?_
        refine pM_cne rfl rfl (fun h4 => ?_) (fun h4 => ?_)
        · replace h := h.2 h4
          refine pM_ii rfl rfl rfl ki_1 ?_
          refine pM_go rfl rfl ?_
          refine pM_w (F2 := [(0, .inr (.inl (some 171))), (1, .inl (.inl p1)), (2, .inl (.inl v2)), (3, .inl (.inl u3)), (4, .inl (.inl (v4 + 1)))]) (fun L hL => lo_cons (lo_lk hL rfl) (lo_cons (lo_lk hL rfl) (lo_cons (lo_lk hL rfl) (lo_cons (lo_lk hL rfl) (lo_cons (lo_lk hL rfl) lo_nil))))) ?_
          exact IH hN v2 (v4 + 1) h
        · replace h := h.1 h4
          refine pM_ii rfl rfl rfl ki_1 ?_
          refine pM_ii rfl rfl rfl ki_1 ?_
          refine pM_go rfl rfl ?_
          refine pM_w (F2 := [(0, .inr (.inl (some 171))), (1, .inl (.inl p1)), (2, .inl (.inl (v2 + 1))), (3, .inl (.inl u3)), (4, .inl (.inl (v4 + 1)))]) (fun L hL => lo_cons (lo_lk hL rfl) (lo_cons (lo_lk hL rfl) (lo_cons (lo_lk hL rfl) (lo_cons (lo_lk hL rfl) (lo_cons (lo_lk hL rfl) lo_nil))))) ?_
          exact IH hN (v2 + 1) (v4 + 1) h
def B_Inquiry_timesInHabits_4 (p1 : Int32) (M : MM) (Q : Int32 → Prop) (N : Nat) (ih : Int32 → Int32 → Prop) (v2 : Int32) (v3 : Int32) : Prop :=
  ((v3 < (M.1 18 0) →
    W_Inquiry_timesInHabits_18 p1 v3 M (fun x5 =>
      ih x5 (v3 + 1)) Q N v2 0) ∧
   (¬ v3 < (M.1 18 0) →
    Q v2))
def W_Inquiry_timesInHabits_4 (p1 : Int32) (M : MM) (Q : Int32 → Prop) : Nat → Int32 → Int32 → Prop
  | 0, _, _ => True
  | N + 1, v2, v3 => B_Inquiry_timesInHabits_4 p1 M Q N (W_Inquiry_timesInHabits_4 p1 M Q N) v2 v3
theorem I_Inquiry_timesInHabits_4 (p1 : Int32) (M : MM) (Q : Int32 → Prop) (inv : Int32 → Int32 → Prop) (hs : ∀ (N : Nat) (ih : Int32 → Int32 → Prop) (v2 : Int32) (v3 : Int32), (∀ (v2 : Int32) (v3 : Int32), inv v2 v3 → ih v2 v3) → inv v2 v3 → B_Inquiry_timesInHabits_4 p1 M Q N ih v2 v3) : ∀ (N : Nat) (v2 : Int32) (v3 : Int32), inv v2 v3 → W_Inquiry_timesInHabits_4 p1 M Q N v2 v3 := by
  intro N
  induction N with
  | zero => intros; trivial
  | succ N IH =>
    intro v2 v3 h
    exact hs N _ v2 v3 IH h
theorem q_Inquiry_timesInHabits_4 {X : Option (List AI)} {N0 : Nat} {p1 : Int32} {M : MM} {Q : Int32 → Prop}   : ∀ (N : Nat), N ≤ N0 → ∀ (v2 : Int32) (v3 : Int32), W_Inquiry_timesInHabits_4 p1 M Q N v2 v3 → pM X N 24 4 [(0, .inr (.inl (some 171))), (1, .inl (.inl p1)), (2, .inl (.inl v2)), (3, .inl (.inl v3))] [] M (Pi Q M) := by
  intro N
  induction N with
  | zero => intros; exact pM_zero
  | succ N IH =>
    intro hN v2 v3 h
    replace hN := Nat.le_of_succ_le hN
    replace h : B_Inquiry_timesInHabits_4 p1 M Q N (W_Inquiry_timesInHabits_4 p1 M Q N) v2 v3 := h
    refine pM_s (pMs_iln rfl rfl ?_)
    refine pM_aln rfl rfl rfl ?_
    refine pM_gr rfl rfl rfl rfl ?_
    refine pM_gi rfl rfl rfl rfl ?_
    refine pM_cge rfl rfl (fun h1 => ?_) (fun h1 => ?_)
    · replace h := h.2 h1
      refine pM_iln rfl rfl ?_
      exact pM_ri rfl (⟨_, rfl, rfl, h⟩)
    · replace h := h.1 h1
      refine pM_ic rfl ki_0 ?_
      refine pM_is rfl rfl ?_
      refine pM_w (F2 := [(0, .inr (.inl (some 171))), (1, .inl (.inl p1)), (2, .inl (.inl v2)), (3, .inl (.inl v3)), (4, .inl (.inl 0))]) (fun L hL => lo_cons (lo_lk hL rfl) (lo_cons (lo_lk hL rfl) (lo_cons (lo_lk hL rfl) (lo_cons (lo_lk hL rfl) (lo_cons (lo_lk hL rfl) lo_nil))))) ?_
      refine q_Inquiry_timesInHabits_18  (fun x5 h => ?_) N (Nat.le_refl N) v2 0 h
      · refine pM_ii rfl rfl rfl ki_1 ?_
        refine pM_go rfl rfl ?_
        refine pM_w (F2 := [(0, .inr (.inl (some 171))), (1, .inl (.inl p1)), (2, .inl (.inl x5)), (3, .inl (.inl (v3 + 1)))]) (fun L hL => lo_cons (lo_lk hL rfl) (lo_cons (lo_lk hL rfl) (lo_cons (lo_lk hL rfl) (lo_cons (lo_lk hL rfl) lo_nil)))) ?_
        exact IH hN x5 (v3 + 1) h
/-- 24: EarCode$Inquiry.timesInHabits(I)I -/
def W_Inquiry_timesInHabits (p1 : Int32) (N : Nat) (M : MM) (Q : Int32 → Prop) : Prop :=
  W_Inquiry_timesInHabits_4 p1 M Q N 0 0
theorem q_Inquiry_timesInHabits {X : Option (List AI)} {N : Nat} {M : MM} {p1 : Int32} {Q : Int32 → Prop}  (h : W_Inquiry_timesInHabits p1 N M Q) : pM X N 24 0 (ea_ar 0 [.inr (.inl (some 171)), .inl (.inl p1)]) [] M (Pi Q M) := by
  refine pM_w (F2 := [(0, .inr (.inl (some 171))), (1, .inl (.inl p1))]) (fun L hL => lo_cons (lo_lk hL rfl) (lo_cons (lo_lk hL rfl) lo_nil)) ?_
  refine pM_ic rfl ki_0 ?_
  refine pM_isn rfl rfl ?_
  refine pM_ic rfl ki_0 ?_
  refine pM_isn rfl rfl ?_
  refine pM_w (F2 := [(0, .inr (.inl (some 171))), (1, .inl (.inl p1)), (2, .inl (.inl 0)), (3, .inl (.inl 0))]) (fun L hL => lo_cons (lo_lk hL rfl) (lo_cons (lo_lk hL rfl) (lo_cons (lo_lk hL rfl) (lo_cons (lo_lk hL rfl) lo_nil)))) ?_
  refine q_Inquiry_timesInHabits_4   N (Nat.le_refl N) 0 0 h
def B_Inquiry_usualDeed_7 (p1 : Int32) (M : MM) (Q : Int32 → Prop) (N : Nat) (ih : Int32 → Int32 → Int32 → Prop) (v2 : Int32) (v3 : Int32) (v4 : Int32) : Prop :=
  ((v4 < 8 →
    W_Inquiry_timesInHabits ((v4 * 8) + p1) N M (fun r2 =>
      ((v3 < r2 →
        ih v4 r2 (v4 + 1)) ∧
       (¬ v3 < r2 →
        ih v2 v3 (v4 + 1))))) ∧
   (¬ v4 < 8 →
    Q v2))
def W_Inquiry_usualDeed_7 (p1 : Int32) (M : MM) (Q : Int32 → Prop) : Nat → Int32 → Int32 → Int32 → Prop
  | 0, _, _, _ => True
  | N + 1, v2, v3, v4 => B_Inquiry_usualDeed_7 p1 M Q N (W_Inquiry_usualDeed_7 p1 M Q N) v2 v3 v4
theorem I_Inquiry_usualDeed_7 (p1 : Int32) (M : MM) (Q : Int32 → Prop) (inv : Int32 → Int32 → Int32 → Prop) (hs : ∀ (N : Nat) (ih : Int32 → Int32 → Int32 → Prop) (v2 : Int32) (v3 : Int32) (v4 : Int32), (∀ (v2 : Int32) (v3 : Int32) (v4 : Int32), inv v2 v3 v4 → ih v2 v3 v4) → inv v2 v3 v4 → B_Inquiry_usualDeed_7 p1 M Q N ih v2 v3 v4) : ∀ (N : Nat) (v2 : Int32) (v3 : Int32) (v4 : Int32), inv v2 v3 v4 → W_Inquiry_usualDeed_7 p1 M Q N v2 v3 v4 := by
  intro N
  induction N with
  | zero => intros; trivial
  | succ N IH =>
    intro v2 v3 v4 h
    exact hs N _ v2 v3 v4 IH h
theorem q_Inquiry_usualDeed_7 {X : Option (List AI)} {N0 : Nat} {p1 : Int32} {M : MM} {Q : Int32 → Prop}   : ∀ (N : Nat), N ≤ N0 → ∀ (v2 : Int32) (v3 : Int32) (v4 : Int32), W_Inquiry_usualDeed_7 p1 M Q N v2 v3 v4 → pM X N 23 7 [(0, .inr (.inl (some 171))), (1, .inl (.inl p1)), (2, .inl (.inl v2)), (3, .inl (.inl v3)), (4, .inl (.inl v4))] [] M (Pi Q M) := by
  intro N
  induction N with
  | zero => intros; exact pM_zero
  | succ N IH =>
    intro hN v2 v3 v4 h
    replace hN := Nat.le_of_succ_le hN
    replace h : B_Inquiry_usualDeed_7 p1 M Q N (W_Inquiry_usualDeed_7 p1 M Q N) v2 v3 v4 := h
    refine pM_s (pMs_il rfl rfl ?_)
    refine pM_bi rfl kb_8 ?_
    refine pM_cge rfl rfl (fun h1 => ?_) (fun h1 => ?_)
    · replace h := h.2 h1
      refine pM_iln rfl rfl ?_
      exact pM_ri rfl (⟨_, rfl, rfl, h⟩)
    · replace h := h.1 h1
      refine pM_aln rfl rfl rfl ?_
      refine pM_il rfl rfl ?_
      refine pM_bi rfl kb_8 ?_
      refine pM_mul rfl ?_
      refine pM_iln rfl rfl ?_
      refine pM_add rfl ?_
      refine pM_qPi (as := [.inr (.inl (some 171)), .inl (.inl ((v4 * 8) + p1))]) (T := []) rfl rfl (fun C hC => cl_v hC rfl rfl rfl rfl) rfl (q_Inquiry_timesInHabits  h) (fun r2 h => ?_)
      refine pM_is rfl rfl ?_
      refine pM_il rfl rfl ?_
      refine pM_iln rfl rfl ?_
      refine pM_cle rfl rfl (fun h4 => ?_) (fun h4 => ?_)
      · replace h := h.2 h4
        refine pM_ii rfl rfl rfl ki_1 ?_
        refine pM_go rfl rfl ?_
        refine pM_w (F2 := [(0, .inr (.inl (some 171))), (1, .inl (.inl p1)), (2, .inl (.inl v2)), (3, .inl (.inl v3)), (4, .inl (.inl (v4 + 1)))]) (fun L hL => lo_cons (lo_lk hL rfl) (lo_cons (lo_lk hL rfl) (lo_cons (lo_lk hL rfl) (lo_cons (lo_lk hL rfl) (lo_cons (lo_lk hL rfl) lo_nil))))) ?_
        exact IH hN v2 v3 (v4 + 1) h
      · replace h := h.1 h4
        refine pM_il rfl rfl ?_
        refine pM_isn rfl rfl ?_
        refine pM_il rfl rfl ?_
        refine pM_isn rfl rfl ?_
        refine pM_ii rfl rfl rfl ki_1 ?_
        refine pM_go rfl rfl ?_
        refine pM_w (F2 := [(0, .inr (.inl (some 171))), (1, .inl (.inl p1)), (2, .inl (.inl v4)), (3, .inl (.inl r2)), (4, .inl (.inl (v4 + 1)))]) (fun L hL => lo_cons (lo_lk hL rfl) (lo_cons (lo_lk hL rfl) (lo_cons (lo_lk hL rfl) (lo_cons (lo_lk hL rfl) (lo_cons (lo_lk hL rfl) lo_nil))))) ?_
        exact IH hN v4 r2 (v4 + 1) h
/-- 23: EarCode$Inquiry.usualDeed(I)I -/
def W_Inquiry_usualDeed (p1 : Int32) (N : Nat) (M : MM) (Q : Int32 → Prop) : Prop :=
  W_Inquiry_usualDeed_7 p1 M Q N (-1) 0 0
theorem q_Inquiry_usualDeed {X : Option (List AI)} {N : Nat} {M : MM} {p1 : Int32} {Q : Int32 → Prop}  (h : W_Inquiry_usualDeed p1 N M Q) : pM X N 23 0 (ea_ar 0 [.inr (.inl (some 171)), .inl (.inl p1)]) [] M (Pi Q M) := by
  refine pM_w (F2 := [(0, .inr (.inl (some 171))), (1, .inl (.inl p1))]) (fun L hL => lo_cons (lo_lk hL rfl) (lo_cons (lo_lk hL rfl) lo_nil)) ?_
  refine pM_ic rfl ki_m1 ?_
  refine pM_isn rfl rfl ?_
  refine pM_ic rfl ki_0 ?_
  refine pM_isn rfl rfl ?_
  refine pM_ic rfl ki_0 ?_
  refine pM_is rfl rfl ?_
  refine pM_w (F2 := [(0, .inr (.inl (some 171))), (1, .inl (.inl p1)), (2, .inl (.inl (-1))), (3, .inl (.inl 0)), (4, .inl (.inl 0))]) (fun L hL => lo_cons (lo_lk hL rfl) (lo_cons (lo_lk hL rfl) (lo_cons (lo_lk hL rfl) (lo_cons (lo_lk hL rfl) (lo_cons (lo_lk hL rfl) lo_nil))))) ?_
  refine q_Inquiry_usualDeed_7   N (Nat.le_refl N) (-1) 0 0 h
/-- 26: EarCode$Inquiry.worthOf(II)I -/
def W_Inquiry_worthOf (p1 : Int32) (p2 : Int32) (N : Nat) (M : MM) (Q : Int32 → Prop) : Prop :=
  ((p2 < 0 →
    Q 0) ∧
   (¬ p2 < 0 →
    ((p2 < (M.1 24 (ni p1)) →
      W_Inquiry_forbiddenTo p1 (V_World_matterAt 18 p1 p2 M) N M (fun r3 =>
        ((r3 = 0 →
          Q (M.1 27 (ni ((V_World_matterAt 18 p1 p2 M) / 8)))) ∧
         (¬ r3 = 0 →
          Q (-(M.1 27 (ni ((V_World_matterAt 18 p1 p2 M) / 8)))))))) ∧
     (¬ p2 < (M.1 24 (ni p1)) →
      Q 0))))
theorem q_Inquiry_worthOf {X : Option (List AI)} {N : Nat} {M : MM} {p1 : Int32} {p2 : Int32} {Q : Int32 → Prop}  (h : W_Inquiry_worthOf p1 p2 N M Q) : pM X N 26 0 (ea_ar 0 [.inr (.inl (some 171)), .inl (.inl p1), .inl (.inl p2)]) [] M (Pi Q M) := by
  refine pM_w (F2 := [(0, .inr (.inl (some 171))), (1, .inl (.inl p1)), (2, .inl (.inl p2))]) (fun L hL => lo_cons (lo_lk hL rfl) (lo_cons (lo_lk hL rfl) (lo_cons (lo_lk hL rfl) lo_nil))) ?_
  refine pM_iln rfl rfl ?_
  refine pM_zlt rfl rfl (fun h1 => ?_) (fun h1 => ?_)
  · replace h := h.1 h1
    refine pM_ic rfl ki_0 ?_
    exact pM_ri rfl (⟨_, rfl, rfl, h⟩)
  · replace h := h.2 h1
    refine pM_iln rfl rfl ?_
    refine pM_aln rfl rfl rfl ?_
    refine pM_gr rfl rfl rfl rfl ?_
    refine pM_gr rfl rfl rfl rfl ?_
    refine pM_iln rfl rfl ?_
    refine pM_ai rfl rfl (one_p _) ?_
    refine pM_clt rfl rfl (fun h2 => ?_) (fun h2 => ?_)
    · replace h := h.1 h2
      refine pM_aln rfl rfl rfl ?_
      refine pM_gr rfl rfl rfl rfl ?_
      refine pM_iln rfl rfl ?_
      refine pM_iln rfl rfl ?_
      refine pM_qVi (as := [.inr (.inl (some 18)), .inl (.inl p1), .inl (.inl p2)]) (T := []) rfl rfl (fun C hC => cl_v hC rfl rfl rfl rfl) rfl (q_World_matterAt isW_18) ?_
      refine pM_isn rfl rfl ?_
      refine pM_aln rfl rfl rfl ?_
      refine pM_gr rfl rfl rfl rfl ?_
      refine pM_gr rfl rfl rfl rfl ?_
      refine pM_iln rfl rfl ?_
      refine pM_bi rfl kb_8 ?_
      refine pM_div rfl ?_
      refine pM_ai rfl rfl (one_p _) ?_
      refine pM_is rfl rfl ?_
      refine pM_aln rfl rfl rfl ?_
      refine pM_iln rfl rfl ?_
      refine pM_iln rfl rfl ?_
      refine pM_qPi (as := [.inr (.inl (some 171)), .inl (.inl p1), .inl (.inl (V_World_matterAt 18 p1 p2 M))]) (T := []) rfl rfl (fun C hC => cl_v hC rfl rfl rfl rfl) rfl (q_Inquiry_forbiddenTo  h) (fun r3 h => ?_)
      refine pM_zne rfl rfl (fun h5 => ?_) (fun h5 => ?_)
      · replace h := h.2 h5
        refine pM_il rfl rfl ?_
        refine pM_neg rfl ?_
        exact pM_ri rfl (⟨_, rfl, rfl, h⟩)
      · replace h := h.1 h5
        refine pM_il rfl rfl ?_
        refine pM_go rfl rfl ?_
        exact pM_ri rfl (⟨_, rfl, rfl, h⟩)
    · replace h := h.2 h2
      refine pM_ic rfl ki_0 ?_
      exact pM_ri rfl (⟨_, rfl, rfl, h⟩)
def B_Inquiry_mostWorth_5 (p1 : Int32) (p2 : Int32) (M : MM) (Q : Int32 → Prop) (N : Nat) (ih : Int32 → Int32 → Prop) (v3 : Int32) (v4 : Int32) : Prop :=
  ((v4 < (M.1 24 (ni p1)) →
    ((v4 = p2 →
      ih v3 (v4 + 1)) ∧
     (¬ v4 = p2 →
      ((v3 = (-1) →
        ih v4 (v4 + 1)) ∧
       (¬ v3 = (-1) →
        W_Inquiry_worthOf p1 v4 N M (fun r4 =>
          W_Inquiry_worthOf p1 v3 N M (fun r6 =>
            ((r6 < r4 →
              ih v4 (v4 + 1)) ∧
             (¬ r6 < r4 →
              ih v3 (v4 + 1)))))))))) ∧
   (¬ v4 < (M.1 24 (ni p1)) →
    Q v3))
def W_Inquiry_mostWorth_5 (p1 : Int32) (p2 : Int32) (M : MM) (Q : Int32 → Prop) : Nat → Int32 → Int32 → Prop
  | 0, _, _ => True
  | N + 1, v3, v4 => B_Inquiry_mostWorth_5 p1 p2 M Q N (W_Inquiry_mostWorth_5 p1 p2 M Q N) v3 v4
theorem I_Inquiry_mostWorth_5 (p1 : Int32) (p2 : Int32) (M : MM) (Q : Int32 → Prop) (inv : Int32 → Int32 → Prop) (hs : ∀ (N : Nat) (ih : Int32 → Int32 → Prop) (v3 : Int32) (v4 : Int32), (∀ (v3 : Int32) (v4 : Int32), inv v3 v4 → ih v3 v4) → inv v3 v4 → B_Inquiry_mostWorth_5 p1 p2 M Q N ih v3 v4) : ∀ (N : Nat) (v3 : Int32) (v4 : Int32), inv v3 v4 → W_Inquiry_mostWorth_5 p1 p2 M Q N v3 v4 := by
  intro N
  induction N with
  | zero => intros; trivial
  | succ N IH =>
    intro v3 v4 h
    exact hs N _ v3 v4 IH h
theorem q_Inquiry_mostWorth_5 {X : Option (List AI)} {N0 : Nat} {p1 : Int32} {p2 : Int32} {M : MM} {Q : Int32 → Prop}   : ∀ (N : Nat), N ≤ N0 → ∀ (v3 : Int32) (v4 : Int32), W_Inquiry_mostWorth_5 p1 p2 M Q N v3 v4 → pM X N 25 5 [(0, .inr (.inl (some 171))), (1, .inl (.inl p1)), (2, .inl (.inl p2)), (3, .inl (.inl v3)), (4, .inl (.inl v4))] [] M (Pi Q M) := by
  intro N
  induction N with
  | zero => intros; exact pM_zero
  | succ N IH =>
    intro hN v3 v4 h
    replace hN := Nat.le_of_succ_le hN
    replace h : B_Inquiry_mostWorth_5 p1 p2 M Q N (W_Inquiry_mostWorth_5 p1 p2 M Q N) v3 v4 := h
    refine pM_s (pMs_il rfl rfl ?_)
    refine pM_aln rfl rfl rfl ?_
    refine pM_gr rfl rfl rfl rfl ?_
    refine pM_gr rfl rfl rfl rfl ?_
    refine pM_iln rfl rfl ?_
    refine pM_ai rfl rfl (one_p _) ?_
    refine pM_cge rfl rfl (fun h1 => ?_) (fun h1 => ?_)
    · replace h := h.2 h1
      refine pM_iln rfl rfl ?_
      exact pM_ri rfl (⟨_, rfl, rfl, h⟩)
    · replace h := h.1 h1
      refine pM_il rfl rfl ?_
      refine pM_iln rfl rfl ?_
      refine pM_ceq rfl rfl (fun h2 => ?_) (fun h2 => ?_)
      · replace h := h.1 h2
        refine pM_ii rfl rfl rfl ki_1 ?_
        refine pM_go rfl rfl ?_
        refine pM_w (F2 := [(0, .inr (.inl (some 171))), (1, .inl (.inl p1)), (2, .inl (.inl p2)), (3, .inl (.inl v3)), (4, .inl (.inl (v4 + 1)))]) (fun L hL => lo_cons (lo_lk hL rfl) (lo_cons (lo_lk hL rfl) (lo_cons (lo_lk hL rfl) (lo_cons (lo_lk hL rfl) (lo_cons (lo_lk hL rfl) lo_nil))))) ?_
        exact IH hN v3 (v4 + 1) h
      · replace h := h.2 h2
        refine pM_iln rfl rfl ?_
        refine pM_ic rfl ki_m1 ?_
        refine pM_ceq rfl rfl (fun h3 => ?_) (fun h3 => ?_)
        · replace h := h.1 h3
          refine pM_il rfl rfl ?_
          refine pM_isn rfl rfl ?_
          refine pM_ii rfl rfl rfl ki_1 ?_
          refine pM_go rfl rfl ?_
          refine pM_w (F2 := [(0, .inr (.inl (some 171))), (1, .inl (.inl p1)), (2, .inl (.inl p2)), (3, .inl (.inl v4)), (4, .inl (.inl (v4 + 1)))]) (fun L hL => lo_cons (lo_lk hL rfl) (lo_cons (lo_lk hL rfl) (lo_cons (lo_lk hL rfl) (lo_cons (lo_lk hL rfl) (lo_cons (lo_lk hL rfl) lo_nil))))) ?_
          exact IH hN v4 (v4 + 1) h
        · replace h := h.2 h3
          refine pM_aln rfl rfl rfl ?_
          refine pM_iln rfl rfl ?_
          refine pM_il rfl rfl ?_
          refine pM_qPi (as := [.inr (.inl (some 171)), .inl (.inl p1), .inl (.inl v4)]) (T := []) rfl rfl (fun C hC => cl_v hC rfl rfl rfl rfl) rfl (q_Inquiry_worthOf  h) (fun r4 h => ?_)
          refine pM_aln rfl rfl rfl ?_
          refine pM_iln rfl rfl ?_
          refine pM_iln rfl rfl ?_
          refine pM_qPi (as := [.inr (.inl (some 171)), .inl (.inl p1), .inl (.inl v3)]) (T := [.inl (.inl r4)]) rfl rfl (fun C hC => cl_v hC rfl rfl rfl rfl) rfl (q_Inquiry_worthOf  h) (fun r6 h => ?_)
          refine pM_cle rfl rfl (fun h8 => ?_) (fun h8 => ?_)
          · replace h := h.2 h8
            refine pM_ii rfl rfl rfl ki_1 ?_
            refine pM_go rfl rfl ?_
            refine pM_w (F2 := [(0, .inr (.inl (some 171))), (1, .inl (.inl p1)), (2, .inl (.inl p2)), (3, .inl (.inl v3)), (4, .inl (.inl (v4 + 1)))]) (fun L hL => lo_cons (lo_lk hL rfl) (lo_cons (lo_lk hL rfl) (lo_cons (lo_lk hL rfl) (lo_cons (lo_lk hL rfl) (lo_cons (lo_lk hL rfl) lo_nil))))) ?_
            exact IH hN v3 (v4 + 1) h
          · replace h := h.1 h8
            refine pM_il rfl rfl ?_
            refine pM_isn rfl rfl ?_
            refine pM_ii rfl rfl rfl ki_1 ?_
            refine pM_go rfl rfl ?_
            refine pM_w (F2 := [(0, .inr (.inl (some 171))), (1, .inl (.inl p1)), (2, .inl (.inl p2)), (3, .inl (.inl v4)), (4, .inl (.inl (v4 + 1)))]) (fun L hL => lo_cons (lo_lk hL rfl) (lo_cons (lo_lk hL rfl) (lo_cons (lo_lk hL rfl) (lo_cons (lo_lk hL rfl) (lo_cons (lo_lk hL rfl) lo_nil))))) ?_
            exact IH hN v4 (v4 + 1) h
/-- 25: EarCode$Inquiry.mostWorth(II)I -/
def W_Inquiry_mostWorth (p1 : Int32) (p2 : Int32) (N : Nat) (M : MM) (Q : Int32 → Prop) : Prop :=
  W_Inquiry_mostWorth_5 p1 p2 M Q N (-1) 0
theorem q_Inquiry_mostWorth {X : Option (List AI)} {N : Nat} {M : MM} {p1 : Int32} {p2 : Int32} {Q : Int32 → Prop}  (h : W_Inquiry_mostWorth p1 p2 N M Q) : pM X N 25 0 (ea_ar 0 [.inr (.inl (some 171)), .inl (.inl p1), .inl (.inl p2)]) [] M (Pi Q M) := by
  refine pM_w (F2 := [(0, .inr (.inl (some 171))), (1, .inl (.inl p1)), (2, .inl (.inl p2))]) (fun L hL => lo_cons (lo_lk hL rfl) (lo_cons (lo_lk hL rfl) (lo_cons (lo_lk hL rfl) lo_nil))) ?_
  refine pM_ic rfl ki_m1 ?_
  refine pM_isn rfl rfl ?_
  refine pM_ic rfl ki_0 ?_
  refine pM_is rfl rfl ?_
  refine pM_w (F2 := [(0, .inr (.inl (some 171))), (1, .inl (.inl p1)), (2, .inl (.inl p2)), (3, .inl (.inl (-1))), (4, .inl (.inl 0))]) (fun L hL => lo_cons (lo_lk hL rfl) (lo_cons (lo_lk hL rfl) (lo_cons (lo_lk hL rfl) (lo_cons (lo_lk hL rfl) (lo_cons (lo_lk hL rfl) lo_nil))))) ?_
  refine q_Inquiry_mostWorth_5   N (Nat.le_refl N) (-1) 0 h
/-- 111: EarCode$World.matterAhead(II)I -/
def V_World_matterAhead (a : Nat) (p1 : Int32) (p2 : Int32) (M : MM) : Int32 :=
  (if (M.1 (a + 6) (ni p1)) < 1 then
    0
  else
    (V_World_matterAt a p1 (rm ((M.1 (a + 7) (ni p1)) + p2) (M.1 (a + 6) (ni p1))) M))
theorem q_World_matterAhead {X : Option (List AI)} {N : Nat} {M : MM} {a : Nat} {p1 : Int32} {p2 : Int32} (ha : isW a) : pM X N 111 0 (ea_ar 0 [.inr (.inl (some a)), .inl (.inl p1), .inl (.inl p2)]) [] M (Vi (V_World_matterAhead a p1 p2 M) M) := by
  refine pM_w (F2 := [(0, .inr (.inl (some a))), (1, .inl (.inl p1)), (2, .inl (.inl p2))]) (fun L hL => lo_cons (lo_lk hL rfl) (lo_cons (lo_lk hL rfl) (lo_cons (lo_lk hL rfl) lo_nil))) ?_
  refine pM_aln rfl rfl rfl ?_
  refine pM_gr rfl rfl ha.1 rfl ?_
  refine pM_iln rfl rfl ?_
  refine pM_ai rfl ha.2.2.2.2.2.2.1 (one_p _) ?_
  refine pM_isn rfl rfl ?_
  refine pM_iln rfl rfl ?_
  refine pM_ic rfl ki_1 ?_
  refine pM_cge rfl rfl (fun h1 => ?_) (fun h1 => ?_)
  · refine pM_aln rfl rfl rfl ?_
    refine pM_iln rfl rfl ?_
    refine pM_aln rfl rfl rfl ?_
    refine pM_gr rfl rfl ha.1 rfl ?_
    refine pM_iln rfl rfl ?_
    refine pM_ai rfl ha.2.2.2.2.2.2.2.1 (one_p _) ?_
    refine pM_iln rfl rfl ?_
    refine pM_add rfl ?_
    refine pM_iln rfl rfl ?_
    refine pM_rem rfl ?_
    refine pM_qVi (as := [.inr (.inl (some a)), .inl (.inl p1), .inl (.inl (rm ((M.1 (a + 7) (ni p1)) + p2) (M.1 (a + 6) (ni p1))))]) (T := []) rfl rfl (fun C hC => cl_v hC ha.1 rfl rfl rfl) rfl (q_World_matterAt ha) ?_
    exact pM_rVi rfl (Eq.trans (if_neg h1) rfl)
  · refine pM_ic rfl ki_0 ?_
    refine pM_go rfl rfl ?_
    exact pM_rVi rfl (Eq.trans (if_pos h1) rfl)
/-- 112: EarCode$World.placeAhead(II)I -/
def V_World_placeAhead (a : Nat) (p1 : Int32) (p2 : Int32) (M : MM) : Int32 :=
  (rm (V_World_matterAhead a p1 p2 M) 8)
theorem q_World_placeAhead {X : Option (List AI)} {N : Nat} {M : MM} {a : Nat} {p1 : Int32} {p2 : Int32} (ha : isW a) : pM X N 112 0 (ea_ar 0 [.inr (.inl (some a)), .inl (.inl p1), .inl (.inl p2)]) [] M (Vi (V_World_placeAhead a p1 p2 M) M) := by
  refine pM_w (F2 := [(0, .inr (.inl (some a))), (1, .inl (.inl p1)), (2, .inl (.inl p2))]) (fun L hL => lo_cons (lo_lk hL rfl) (lo_cons (lo_lk hL rfl) (lo_cons (lo_lk hL rfl) lo_nil))) ?_
  refine pM_aln rfl rfl rfl ?_
  refine pM_iln rfl rfl ?_
  refine pM_iln rfl rfl ?_
  refine pM_qVi (as := [.inr (.inl (some a)), .inl (.inl p1), .inl (.inl p2)]) (T := []) rfl rfl (fun C hC => cl_v hC ha.1 rfl rfl rfl) rfl (q_World_matterAhead ha) ?_
  refine pM_bi rfl kb_8 ?_
  refine pM_rem rfl ?_
  exact pM_rVi rfl (rfl)
def B_Inquiry_crowdAt_5 (p1 : Int32) (p2 : Int32) (M : MM) (Q : Int32 → Prop) (N : Nat) (ih : Int32 → Int32 → Prop) (v3 : Int32) (v4 : Int32) : Prop :=
  ((v4 < (M.1 18 0) →
    (((V_World_isAlive 18 v4 M) = 0 →
      ih v3 (v4 + 1)) ∧
     (¬ (V_World_isAlive 18 v4 M) = 0 →
      (((V_World_placeAhead 18 v4 p2 M) = p1 →
        ih (v3 ||| (sl 1 v4)) (v4 + 1)) ∧
       (¬ (V_World_placeAhead 18 v4 p2 M) = p1 →
        ih v3 (v4 + 1)))))) ∧
   (¬ v4 < (M.1 18 0) →
    Q v3))
def W_Inquiry_crowdAt_5 (p1 : Int32) (p2 : Int32) (M : MM) (Q : Int32 → Prop) : Nat → Int32 → Int32 → Prop
  | 0, _, _ => True
  | N + 1, v3, v4 => B_Inquiry_crowdAt_5 p1 p2 M Q N (W_Inquiry_crowdAt_5 p1 p2 M Q N) v3 v4
theorem I_Inquiry_crowdAt_5 (p1 : Int32) (p2 : Int32) (M : MM) (Q : Int32 → Prop) (inv : Int32 → Int32 → Prop) (hs : ∀ (N : Nat) (ih : Int32 → Int32 → Prop) (v3 : Int32) (v4 : Int32), (∀ (v3 : Int32) (v4 : Int32), inv v3 v4 → ih v3 v4) → inv v3 v4 → B_Inquiry_crowdAt_5 p1 p2 M Q N ih v3 v4) : ∀ (N : Nat) (v3 : Int32) (v4 : Int32), inv v3 v4 → W_Inquiry_crowdAt_5 p1 p2 M Q N v3 v4 := by
  intro N
  induction N with
  | zero => intros; trivial
  | succ N IH =>
    intro v3 v4 h
    exact hs N _ v3 v4 IH h
theorem q_Inquiry_crowdAt_5 {X : Option (List AI)} {N0 : Nat} {p1 : Int32} {p2 : Int32} {M : MM} {Q : Int32 → Prop}   : ∀ (N : Nat), N ≤ N0 → ∀ (v3 : Int32) (v4 : Int32), W_Inquiry_crowdAt_5 p1 p2 M Q N v3 v4 → pM X N 27 5 [(0, .inr (.inl (some 171))), (1, .inl (.inl p1)), (2, .inl (.inl p2)), (3, .inl (.inl v3)), (4, .inl (.inl v4))] [] M (Pi Q M) := by
  intro N
  induction N with
  | zero => intros; exact pM_zero
  | succ N IH =>
    intro hN v3 v4 h
    replace hN := Nat.le_of_succ_le hN
    replace h : B_Inquiry_crowdAt_5 p1 p2 M Q N (W_Inquiry_crowdAt_5 p1 p2 M Q N) v3 v4 := h
    refine pM_s (pMs_il rfl rfl ?_)
    refine pM_aln rfl rfl rfl ?_
    refine pM_gr rfl rfl rfl rfl ?_
    refine pM_gi rfl rfl rfl rfl ?_
    refine pM_cge rfl rfl (fun h1 => ?_) (fun h1 => ?_)
    · replace h := h.2 h1
      refine pM_iln rfl rfl ?_
      exact pM_ri rfl (⟨_, rfl, rfl, h⟩)
    · replace h := h.1 h1
      refine pM_aln rfl rfl rfl ?_
      refine pM_gr rfl rfl rfl rfl ?_
      refine pM_il rfl rfl ?_
      refine pM_qVi (as := [.inr (.inl (some 18)), .inl (.inl v4)]) (T := []) rfl rfl (fun C hC => cl_v hC rfl rfl rfl rfl) rfl (q_World_isAlive isW_18) ?_
      refine pM_zeq rfl rfl (fun h2 => ?_) (fun h2 => ?_)
      · replace h := h.1 h2
        refine pM_ii rfl rfl rfl ki_1 ?_
        refine pM_go rfl rfl ?_
        refine pM_w (F2 := [(0, .inr (.inl (some 171))), (1, .inl (.inl p1)), (2, .inl (.inl p2)), (3, .inl (.inl v3)), (4, .inl (.inl (v4 + 1)))]) (fun L hL => lo_cons (lo_lk hL rfl) (lo_cons (lo_lk hL rfl) (lo_cons (lo_lk hL rfl) (lo_cons (lo_lk hL rfl) (lo_cons (lo_lk hL rfl) lo_nil))))) ?_
        exact IH hN v3 (v4 + 1) h
      · replace h := h.2 h2
        refine pM_aln rfl rfl rfl ?_
        refine pM_gr rfl rfl rfl rfl ?_
        refine pM_il rfl rfl ?_
        refine pM_iln rfl rfl ?_
        refine pM_qVi (as := [.inr (.inl (some 18)), .inl (.inl v4), .inl (.inl p2)]) (T := []) rfl rfl (fun C hC => cl_v hC rfl rfl rfl rfl) rfl (q_World_placeAhead isW_18) ?_
        refine pM_iln rfl rfl ?_
        refine pM_cne rfl rfl (fun h3 => ?_) (fun h3 => ?_)
        · replace h := h.2 h3
          refine pM_ii rfl rfl rfl ki_1 ?_
          refine pM_go rfl rfl ?_
          refine pM_w (F2 := [(0, .inr (.inl (some 171))), (1, .inl (.inl p1)), (2, .inl (.inl p2)), (3, .inl (.inl v3)), (4, .inl (.inl (v4 + 1)))]) (fun L hL => lo_cons (lo_lk hL rfl) (lo_cons (lo_lk hL rfl) (lo_cons (lo_lk hL rfl) (lo_cons (lo_lk hL rfl) (lo_cons (lo_lk hL rfl) lo_nil))))) ?_
          exact IH hN v3 (v4 + 1) h
        · replace h := h.1 h3
          refine pM_iln rfl rfl ?_
          refine pM_ic rfl ki_1 ?_
          refine pM_il rfl rfl ?_
          refine pM_shl rfl ?_
          refine pM_or rfl ?_
          refine pM_isn rfl rfl ?_
          refine pM_ii rfl rfl rfl ki_1 ?_
          refine pM_go rfl rfl ?_
          refine pM_w (F2 := [(0, .inr (.inl (some 171))), (1, .inl (.inl p1)), (2, .inl (.inl p2)), (3, .inl (.inl (v3 ||| (sl 1 v4)))), (4, .inl (.inl (v4 + 1)))]) (fun L hL => lo_cons (lo_lk hL rfl) (lo_cons (lo_lk hL rfl) (lo_cons (lo_lk hL rfl) (lo_cons (lo_lk hL rfl) (lo_cons (lo_lk hL rfl) lo_nil))))) ?_
          exact IH hN (v3 ||| (sl 1 v4)) (v4 + 1) h
/-- 27: EarCode$Inquiry.crowdAt(II)I -/
def W_Inquiry_crowdAt (p1 : Int32) (p2 : Int32) (N : Nat) (M : MM) (Q : Int32 → Prop) : Prop :=
  W_Inquiry_crowdAt_5 p1 p2 M Q N 0 0
theorem q_Inquiry_crowdAt {X : Option (List AI)} {N : Nat} {M : MM} {p1 : Int32} {p2 : Int32} {Q : Int32 → Prop}  (h : W_Inquiry_crowdAt p1 p2 N M Q) : pM X N 27 0 (ea_ar 0 [.inr (.inl (some 171)), .inl (.inl p1), .inl (.inl p2)]) [] M (Pi Q M) := by
  refine pM_w (F2 := [(0, .inr (.inl (some 171))), (1, .inl (.inl p1)), (2, .inl (.inl p2))]) (fun L hL => lo_cons (lo_lk hL rfl) (lo_cons (lo_lk hL rfl) (lo_cons (lo_lk hL rfl) lo_nil))) ?_
  refine pM_ic rfl ki_0 ?_
  refine pM_isn rfl rfl ?_
  refine pM_ic rfl ki_0 ?_
  refine pM_is rfl rfl ?_
  refine pM_w (F2 := [(0, .inr (.inl (some 171))), (1, .inl (.inl p1)), (2, .inl (.inl p2)), (3, .inl (.inl 0)), (4, .inl (.inl 0))]) (fun L hL => lo_cons (lo_lk hL rfl) (lo_cons (lo_lk hL rfl) (lo_cons (lo_lk hL rfl) (lo_cons (lo_lk hL rfl) (lo_cons (lo_lk hL rfl) lo_nil))))) ?_
  refine q_Inquiry_crowdAt_5   N (Nat.le_refl N) 0 0 h
def B_Inquiry_meetings_6 (p1 : Int32) (p2 : Int32) (p3 : Int32) (M : MM) (Q : Int32 → Prop) (N : Nat) (ih : Int32 → Int32 → Prop) (v4 : Int32) (v5 : Int32) : Prop :=
  ((v5 < p3 →
    (((V_World_placeAhead 18 p1 v5 M) = (V_World_placeAhead 18 p2 v5 M) →
      ih (v4 + 1) (v5 + 1)) ∧
     (¬ (V_World_placeAhead 18 p1 v5 M) = (V_World_placeAhead 18 p2 v5 M) →
      ih v4 (v5 + 1)))) ∧
   (¬ v5 < p3 →
    Q v4))
def W_Inquiry_meetings_6 (p1 : Int32) (p2 : Int32) (p3 : Int32) (M : MM) (Q : Int32 → Prop) : Nat → Int32 → Int32 → Prop
  | 0, _, _ => True
  | N + 1, v4, v5 => B_Inquiry_meetings_6 p1 p2 p3 M Q N (W_Inquiry_meetings_6 p1 p2 p3 M Q N) v4 v5
theorem I_Inquiry_meetings_6 (p1 : Int32) (p2 : Int32) (p3 : Int32) (M : MM) (Q : Int32 → Prop) (inv : Int32 → Int32 → Prop) (hs : ∀ (N : Nat) (ih : Int32 → Int32 → Prop) (v4 : Int32) (v5 : Int32), (∀ (v4 : Int32) (v5 : Int32), inv v4 v5 → ih v4 v5) → inv v4 v5 → B_Inquiry_meetings_6 p1 p2 p3 M Q N ih v4 v5) : ∀ (N : Nat) (v4 : Int32) (v5 : Int32), inv v4 v5 → W_Inquiry_meetings_6 p1 p2 p3 M Q N v4 v5 := by
  intro N
  induction N with
  | zero => intros; trivial
  | succ N IH =>
    intro v4 v5 h
    exact hs N _ v4 v5 IH h
theorem q_Inquiry_meetings_6 {X : Option (List AI)} {N0 : Nat} {p1 : Int32} {p2 : Int32} {p3 : Int32} {M : MM} {Q : Int32 → Prop}   : ∀ (N : Nat), N ≤ N0 → ∀ (v4 : Int32) (v5 : Int32), W_Inquiry_meetings_6 p1 p2 p3 M Q N v4 v5 → pM X N 28 6 [(0, .inr (.inl (some 171))), (1, .inl (.inl p1)), (2, .inl (.inl p2)), (3, .inl (.inl p3)), (4, .inl (.inl v4)), (5, .inl (.inl v5))] [] M (Pi Q M) := by
  intro N
  induction N with
  | zero => intros; exact pM_zero
  | succ N IH =>
    intro hN v4 v5 h
    replace hN := Nat.le_of_succ_le hN
    replace h : B_Inquiry_meetings_6 p1 p2 p3 M Q N (W_Inquiry_meetings_6 p1 p2 p3 M Q N) v4 v5 := h
    refine pM_s (pMs_il rfl rfl ?_)
    refine pM_iln rfl rfl ?_
    refine pM_cge rfl rfl (fun h1 => ?_) (fun h1 => ?_)
    · replace h := h.2 h1
      refine pM_il rfl rfl ?_
      exact pM_ri rfl (⟨_, rfl, rfl, h⟩)
    · replace h := h.1 h1
      refine pM_aln rfl rfl rfl ?_
      refine pM_gr rfl rfl rfl rfl ?_
      refine pM_iln rfl rfl ?_
      refine pM_il rfl rfl ?_
      refine pM_qVi (as := [.inr (.inl (some 18)), .inl (.inl p1), .inl (.inl v5)]) (T := []) rfl rfl (fun C hC => cl_v hC rfl rfl rfl rfl) rfl (q_World_placeAhead isW_18) ?_
      refine pM_aln rfl rfl rfl ?_
      refine pM_gr rfl rfl rfl rfl ?_
      refine pM_iln rfl rfl ?_
      refine pM_il rfl rfl ?_
      refine pM_qVi (as := [.inr (.inl (some 18)), .inl (.inl p2), .inl (.inl v5)]) (T := [.inl (.inl (V_World_placeAhead 18 p1 v5 M))]) rfl rfl (fun C hC => cl_v hC rfl rfl rfl rfl) rfl (q_World_placeAhead isW_18) ?_
      refine pM_cne rfl rfl (fun h2 => ?_) (fun h2 => ?_)
      · replace h := h.2 h2
        refine pM_ii rfl rfl rfl ki_1 ?_
        refine pM_go rfl rfl ?_
        refine pM_w (F2 := [(0, .inr (.inl (some 171))), (1, .inl (.inl p1)), (2, .inl (.inl p2)), (3, .inl (.inl p3)), (4, .inl (.inl v4)), (5, .inl (.inl (v5 + 1)))]) (fun L hL => lo_cons (lo_lk hL rfl) (lo_cons (lo_lk hL rfl) (lo_cons (lo_lk hL rfl) (lo_cons (lo_lk hL rfl) (lo_cons (lo_lk hL rfl) (lo_cons (lo_lk hL rfl) lo_nil)))))) ?_
        exact IH hN v4 (v5 + 1) h
      · replace h := h.1 h2
        refine pM_ii rfl rfl rfl ki_1 ?_
        refine pM_ii rfl rfl rfl ki_1 ?_
        refine pM_go rfl rfl ?_
        refine pM_w (F2 := [(0, .inr (.inl (some 171))), (1, .inl (.inl p1)), (2, .inl (.inl p2)), (3, .inl (.inl p3)), (4, .inl (.inl (v4 + 1))), (5, .inl (.inl (v5 + 1)))]) (fun L hL => lo_cons (lo_lk hL rfl) (lo_cons (lo_lk hL rfl) (lo_cons (lo_lk hL rfl) (lo_cons (lo_lk hL rfl) (lo_cons (lo_lk hL rfl) (lo_cons (lo_lk hL rfl) lo_nil)))))) ?_
        exact IH hN (v4 + 1) (v5 + 1) h
/-- 28: EarCode$Inquiry.meetings(III)I -/
def W_Inquiry_meetings (p1 : Int32) (p2 : Int32) (p3 : Int32) (N : Nat) (M : MM) (Q : Int32 → Prop) : Prop :=
  W_Inquiry_meetings_6 p1 p2 p3 M Q N 0 0
theorem q_Inquiry_meetings {X : Option (List AI)} {N : Nat} {M : MM} {p1 : Int32} {p2 : Int32} {p3 : Int32} {Q : Int32 → Prop}  (h : W_Inquiry_meetings p1 p2 p3 N M Q) : pM X N 28 0 (ea_ar 0 [.inr (.inl (some 171)), .inl (.inl p1), .inl (.inl p2), .inl (.inl p3)]) [] M (Pi Q M) := by
  refine pM_w (F2 := [(0, .inr (.inl (some 171))), (1, .inl (.inl p1)), (2, .inl (.inl p2)), (3, .inl (.inl p3))]) (fun L hL => lo_cons (lo_lk hL rfl) (lo_cons (lo_lk hL rfl) (lo_cons (lo_lk hL rfl) (lo_cons (lo_lk hL rfl) lo_nil)))) ?_
  refine pM_ic rfl ki_0 ?_
  refine pM_is rfl rfl ?_
  refine pM_ic rfl ki_0 ?_
  refine pM_is rfl rfl ?_
  refine pM_w (F2 := [(0, .inr (.inl (some 171))), (1, .inl (.inl p1)), (2, .inl (.inl p2)), (3, .inl (.inl p3)), (4, .inl (.inl 0)), (5, .inl (.inl 0))]) (fun L hL => lo_cons (lo_lk hL rfl) (lo_cons (lo_lk hL rfl) (lo_cons (lo_lk hL rfl) (lo_cons (lo_lk hL rfl) (lo_cons (lo_lk hL rfl) (lo_cons (lo_lk hL rfl) lo_nil)))))) ?_
  refine q_Inquiry_meetings_6   N (Nat.le_refl N) 0 0 h
/-- 30: EarCode$Law.become(LEarCode$Law;)V -/
def W_Law_become (a : Nat) (b : Nat) (N : Nat) (M : MM) (Q : MM → Prop) : Prop :=
  Q (cpM (cpM (cpM (cpM (wi (wi (wi (wi (wi M a 0 (M.1 b 0)) a 1 ((wi M a 0 (M.1 b 0)).1 b 1)) a 2 ((wi (wi M a 0 (M.1 b 0)) a 1 ((wi M a 0 (M.1 b 0)).1 b 1)).1 b 2)) a 6 ((wi (wi (wi M a 0 (M.1 b 0)) a 1 ((wi M a 0 (M.1 b 0)).1 b 1)) a 2 ((wi (wi M a 0 (M.1 b 0)) a 1 ((wi M a 0 (M.1 b 0)).1 b 1)).1 b 2)).1 b 6)) a 8 ((wi (wi (wi (wi M a 0 (M.1 b 0)) a 1 ((wi M a 0 (M.1 b 0)).1 b 1)) a 2 ((wi (wi M a 0 (M.1 b 0)) a 1 ((wi M a 0 (M.1 b 0)).1 b 1)).1 b 2)) a 6 ((wi (wi (wi M a 0 (M.1 b 0)) a 1 ((wi M a 0 (M.1 b 0)).1 b 1)) a 2 ((wi (wi M a 0 (M.1 b 0)) a 1 ((wi M a 0 (M.1 b 0)).1 b 1)).1 b 2)).1 b 6)).1 b 8)) 0 (b + 1) (a + 1)) 0 (b + 2) (a + 2)) 0 (b + 3) (a + 3)) 0 (b + 4) (a + 4))
theorem q_Law_become {X : Option (List AI)} {N : Nat} {M : MM} {a : Nat} {b : Nat} {Q : MM → Prop} (ha : isK a) (hb : isK b) (h : W_Law_become a b N M Q) : pM X N 30 0 (ea_ar 0 [.inr (.inl (some a)), .inr (.inl (some b))]) [] M (Ru Q) := by
  refine pM_w (F2 := [(0, .inr (.inl (some a))), (1, .inr (.inl (some b)))]) (fun L hL => lo_cons (lo_lk hL rfl) (lo_cons (lo_lk hL rfl) lo_nil)) ?_
  refine pM_aln rfl rfl rfl ?_
  refine pM_aln rfl rfl rfl ?_
  refine pM_gi rfl rfl hb.1 rfl ?_
  refine pM_pi rfl rfl ha.1 rfl ?_
  refine pM_aln rfl rfl rfl ?_
  refine pM_aln rfl rfl rfl ?_
  refine pM_gi rfl rfl hb.1 rfl ?_
  refine pM_pi rfl rfl ha.1 rfl ?_
  refine pM_aln rfl rfl rfl ?_
  refine pM_aln rfl rfl rfl ?_
  refine pM_gi rfl rfl hb.1 rfl ?_
  refine pM_pi rfl rfl ha.1 rfl ?_
  refine pM_aln rfl rfl rfl ?_
  refine pM_aln rfl rfl rfl ?_
  refine pM_gi rfl rfl hb.1 rfl ?_
  refine pM_pi rfl rfl ha.1 rfl ?_
  refine pM_aln rfl rfl rfl ?_
  refine pM_aln rfl rfl rfl ?_
  refine pM_gi rfl rfl hb.1 rfl ?_
  refine pM_pi rfl rfl ha.1 rfl ?_
  refine pM_aln rfl rfl rfl ?_
  refine pM_gr rfl rfl hb.1 rfl ?_
  refine pM_ic rfl ki_0 ?_
  refine pM_aln rfl rfl rfl ?_
  refine pM_gr rfl rfl ha.1 rfl ?_
  refine pM_ic rfl ki_0 ?_
  refine pM_aln rfl rfl rfl ?_
  refine pM_gr rfl rfl ha.1 rfl ?_
  refine pM_len rfl ha.2.1 kn_12 ?_
  refine pM_cy rfl rfl hb.2.1 ha.2.1 (fun _ => (one_p _)) ?_
  refine pM_aln rfl rfl rfl ?_
  refine pM_gr rfl rfl hb.1 rfl ?_
  refine pM_ic rfl ki_0 ?_
  refine pM_aln rfl rfl rfl ?_
  refine pM_gr rfl rfl ha.1 rfl ?_
  refine pM_ic rfl ki_0 ?_
  refine pM_aln rfl rfl rfl ?_
  refine pM_gr rfl rfl ha.1 rfl ?_
  refine pM_len rfl ha.2.2.1 kn_12 ?_
  refine pM_cy rfl rfl hb.2.2.1 ha.2.2.1 (fun _ => (one_p _)) ?_
  refine pM_aln rfl rfl rfl ?_
  refine pM_gr rfl rfl hb.1 rfl ?_
  refine pM_ic rfl ki_0 ?_
  refine pM_aln rfl rfl rfl ?_
  refine pM_gr rfl rfl ha.1 rfl ?_
  refine pM_ic rfl ki_0 ?_
  refine pM_aln rfl rfl rfl ?_
  refine pM_gr rfl rfl ha.1 rfl ?_
  refine pM_len rfl ha.2.2.2.1 kn_200 ?_
  refine pM_cy rfl rfl hb.2.2.2.1 ha.2.2.2.1 (fun _ => (one_p _)) ?_
  refine pM_aln rfl rfl rfl ?_
  refine pM_gr rfl rfl hb.1 rfl ?_
  refine pM_ic rfl ki_0 ?_
  refine pM_aln rfl rfl rfl ?_
  refine pM_gr rfl rfl ha.1 rfl ?_
  refine pM_ic rfl ki_0 ?_
  refine pM_aln rfl rfl rfl ?_
  refine pM_gr rfl rfl ha.1 rfl ?_
  refine pM_len rfl ha.2.2.2.2 kn_665 ?_
  refine pM_cy rfl rfl hb.2.2.2.2 ha.2.2.2.2 (fun _ => (one_p _)) ?_
  exact pM_ru rfl (⟨rfl, h⟩)
/-- 31: EarCode$Law.clear()V -/
def W_Law_clear (a : Nat) (N : Nat) (M : MM) (Q : MM → Prop) : Prop :=
  Q (wi (wi (wi (wi (wi M a 0 0) a 1 0) a 2 0) a 6 0) a 8 0)
theorem q_Law_clear {X : Option (List AI)} {N : Nat} {M : MM} {a : Nat} {Q : MM → Prop} (ha : isK a) (h : W_Law_clear a N M Q) : pM X N 31 0 (ea_ar 0 [.inr (.inl (some a))]) [] M (Ru Q) := by
  refine pM_w (F2 := [(0, .inr (.inl (some a)))]) (fun L hL => lo_cons (lo_lk hL rfl) lo_nil) ?_
  refine pM_aln rfl rfl rfl ?_
  refine pM_ic rfl ki_0 ?_
  refine pM_pi rfl rfl ha.1 rfl ?_
  refine pM_aln rfl rfl rfl ?_
  refine pM_ic rfl ki_0 ?_
  refine pM_pi rfl rfl ha.1 rfl ?_
  refine pM_aln rfl rfl rfl ?_
  refine pM_ic rfl ki_0 ?_
  refine pM_pi rfl rfl ha.1 rfl ?_
  refine pM_aln rfl rfl rfl ?_
  refine pM_ic rfl ki_0 ?_
  refine pM_pi rfl rfl ha.1 rfl ?_
  refine pM_aln rfl rfl rfl ?_
  refine pM_ic rfl ki_0 ?_
  refine pM_pi rfl rfl ha.1 rfl ?_
  exact pM_ru rfl (⟨rfl, h⟩)
/-- 32: EarCode$Law.addStep(I)V -/
def W_Law_addStep (a : Nat) (p1 : Int32) (N : Nat) (M : MM) (Q : MM → Prop) : Prop :=
  (((M.1 a 6) < 200 →
    Q (wi (wi M (a + 3) (ni (M.1 a 6)) p1) a 6 (((wi M (a + 3) (ni (M.1 a 6)) p1).1 a 6) + 1))) ∧
   (¬ (M.1 a 6) < 200 →
    Q M))
theorem q_Law_addStep {X : Option (List AI)} {N : Nat} {M : MM} {a : Nat} {p1 : Int32} {Q : MM → Prop} (ha : isK a) (h : W_Law_addStep a p1 N M Q) : pM X N 32 0 (ea_ar 0 [.inr (.inl (some a)), .inl (.inl p1)]) [] M (Ru Q) := by
  refine pM_w (F2 := [(0, .inr (.inl (some a))), (1, .inl (.inl p1))]) (fun L hL => lo_cons (lo_lk hL rfl) (lo_cons (lo_lk hL rfl) lo_nil)) ?_
  refine pM_aln rfl rfl rfl ?_
  refine pM_gi rfl rfl ha.1 rfl ?_
  refine pM_aln rfl rfl rfl ?_
  refine pM_gr rfl rfl ha.1 rfl ?_
  refine pM_len rfl ha.2.2.2.1 kn_200 ?_
  refine pM_cge rfl rfl (fun h1 => ?_) (fun h1 => ?_)
  · replace h := h.2 h1
    exact pM_ru rfl (⟨rfl, h⟩)
  · replace h := h.1 h1
    refine pM_aln rfl rfl rfl ?_
    refine pM_gr rfl rfl ha.1 rfl ?_
    refine pM_aln rfl rfl rfl ?_
    refine pM_gi rfl rfl ha.1 rfl ?_
    refine pM_iln rfl rfl ?_
    refine pM_sa rfl ha.2.2.2.1 (one_p _) ?_
    refine pM_aln rfl rfl rfl ?_
    refine pM_p (pc' := 24) (S' := [.inr (.inl (some a)), .inr (.inl (some a))]) rfl rfl (fun _ => rfl) ?_
    refine pM_gi rfl rfl ha.1 rfl ?_
    refine pM_ic rfl ki_1 ?_
    refine pM_add rfl ?_
    refine pM_pi rfl rfl ha.1 rfl ?_
    exact pM_ru rfl (⟨rfl, h⟩)
def B_Law_addTerms_20 (a : Nat) (u1 : Int32) (Q : Int32 → MM → Prop) (N : Nat) (ih : Int32 → MM → Prop) (v2 : Int32) (M : MM) : Prop :=
  ((v2 < 5 →
    ih (v2 + 1) (wi M (a + 4) (ni (u1 + v2)) 0)) ∧
   (¬ v2 < 5 →
    Q u1 (wi M a 8 ((M.1 a 8) + 5))))
def W_Law_addTerms_20 (a : Nat) (u1 : Int32) (Q : Int32 → MM → Prop) : Nat → Int32 → MM → Prop
  | 0, _, _ => True
  | N + 1, v2, M => B_Law_addTerms_20 a u1 Q N (W_Law_addTerms_20 a u1 Q N) v2 M
theorem I_Law_addTerms_20 (a : Nat) (u1 : Int32) (Q : Int32 → MM → Prop) (inv : Int32 → MM → Prop) (hs : ∀ (N : Nat) (ih : Int32 → MM → Prop) (v2 : Int32) (M : MM), (∀ (v2 : Int32) (M : MM), inv v2 M → ih v2 M) → inv v2 M → B_Law_addTerms_20 a u1 Q N ih v2 M) : ∀ (N : Nat) (v2 : Int32) (M : MM), inv v2 M → W_Law_addTerms_20 a u1 Q N v2 M := by
  intro N
  induction N with
  | zero => intros; trivial
  | succ N IH =>
    intro v2 M h
    exact hs N _ v2 M IH h
theorem q_Law_addTerms_20 {X : Option (List AI)} {N0 : Nat} {a : Nat} {u1 : Int32} {Q : Int32 → MM → Prop} (ha : isK a)  : ∀ (N : Nat), N ≤ N0 → ∀ (v2 : Int32) (M : MM), W_Law_addTerms_20 a u1 Q N v2 M → pM X N 33 20 [(0, .inr (.inl (some a))), (1, .inl (.inl u1)), (2, .inl (.inl v2))] [] M (Ri Q) := by
  intro N
  induction N with
  | zero => intros; exact pM_zero
  | succ N IH =>
    intro hN v2 M h
    replace hN := Nat.le_of_succ_le hN
    replace h : B_Law_addTerms_20 a u1 Q N (W_Law_addTerms_20 a u1 Q N) v2 M := h
    refine pM_s (pMs_iln rfl rfl ?_)
    refine pM_ic rfl ki_5 ?_
    refine pM_cge rfl rfl (fun h2 => ?_) (fun h2 => ?_)
    · replace h := h.2 h2
      refine pM_aln rfl rfl rfl ?_
      refine pM_p (pc' := 42) (S' := [.inr (.inl (some a)), .inr (.inl (some a))]) rfl rfl (fun _ => rfl) ?_
      refine pM_gi rfl rfl ha.1 rfl ?_
      refine pM_ic rfl ki_5 ?_
      refine pM_add rfl ?_
      refine pM_pi rfl rfl ha.1 rfl ?_
      refine pM_iln rfl rfl ?_
      exact pM_ri rfl (⟨_, rfl, h⟩)
    · replace h := h.1 h2
      refine pM_aln rfl rfl rfl ?_
      refine pM_gr rfl rfl ha.1 rfl ?_
      refine pM_iln rfl rfl ?_
      refine pM_iln rfl rfl ?_
      refine pM_add rfl ?_
      refine pM_ic rfl ki_0 ?_
      refine pM_sa rfl ha.2.2.2.2 (one_p _) ?_
      refine pM_ii rfl rfl rfl ki_1 ?_
      refine pM_go rfl rfl ?_
      refine pM_w (F2 := [(0, .inr (.inl (some a))), (1, .inl (.inl u1)), (2, .inl (.inl (v2 + 1)))]) (fun L hL => lo_cons (lo_lk hL rfl) (lo_cons (lo_lk hL rfl) (lo_cons (lo_lk hL rfl) lo_nil))) ?_
      exact IH hN (v2 + 1) (wi M (a + 4) (ni (u1 + v2)) 0) h
/-- 33: EarCode$Law.addTerms()I -/
def W_Law_addTerms (a : Nat) (N : Nat) (M : MM) (Q : Int32 → MM → Prop) : Prop :=
  ((665 < ((M.1 a 8) + 5) →
    Q (-1) M) ∧
   (¬ 665 < ((M.1 a 8) + 5) →
    W_Law_addTerms_20 a (M.1 a 8) Q N 0 M))
theorem q_Law_addTerms {X : Option (List AI)} {N : Nat} {M : MM} {a : Nat} {Q : Int32 → MM → Prop} (ha : isK a) (h : W_Law_addTerms a N M Q) : pM X N 33 0 (ea_ar 0 [.inr (.inl (some a))]) [] M (Ri Q) := by
  refine pM_w (F2 := [(0, .inr (.inl (some a)))]) (fun L hL => lo_cons (lo_lk hL rfl) lo_nil) ?_
  refine pM_aln rfl rfl rfl ?_
  refine pM_gi rfl rfl ha.1 rfl ?_
  refine pM_isn rfl rfl ?_
  refine pM_iln rfl rfl ?_
  refine pM_ic rfl ki_5 ?_
  refine pM_add rfl ?_
  refine pM_aln rfl rfl rfl ?_
  refine pM_gr rfl rfl ha.1 rfl ?_
  refine pM_len rfl ha.2.2.2.2 kn_665 ?_
  refine pM_cle rfl rfl (fun h1 => ?_) (fun h1 => ?_)
  · replace h := h.2 h1
    refine pM_ic rfl ki_0 ?_
    refine pM_isn rfl rfl ?_
    refine pM_w (F2 := [(0, .inr (.inl (some a))), (1, .inl (.inl (M.1 a 8))), (2, .inl (.inl 0))]) (fun L hL => lo_cons (lo_lk hL rfl) (lo_cons (lo_lk hL rfl) (lo_cons (lo_lk hL rfl) lo_nil))) ?_
    refine q_Law_addTerms_20 ha  N (Nat.le_refl N) 0 M h
  · replace h := h.1 h1
    refine pM_ic rfl ki_m1 ?_
    exact pM_ri rfl (⟨_, rfl, h⟩)
/-- 34: EarCode$Law.addClause(ZI)V -/
def W_Law_addClause (a : Nat) (p1 : Int32) (p2 : Int32) (N : Nat) (M : MM) (Q : MM → Prop) : Prop :=
  (((M.1 a 1) < 12 →
    ((p1 = 0 →
      Q (wi (wi (wi (wi M (a + 1) (ni (M.1 a 1)) p2) (a + 2) (ni ((wi M (a + 1) (ni (M.1 a 1)) p2).1 a 1)) ((wi M (a + 1) (ni (M.1 a 1)) p2).1 a 6)) a 2 (((wi (wi M (a + 1) (ni (M.1 a 1)) p2) (a + 2) (ni ((wi M (a + 1) (ni (M.1 a 1)) p2).1 a 1)) ((wi M (a + 1) (ni (M.1 a 1)) p2).1 a 6)).1 a 2) ||| 0)) a 1 (((wi (wi (wi M (a + 1) (ni (M.1 a 1)) p2) (a + 2) (ni ((wi M (a + 1) (ni (M.1 a 1)) p2).1 a 1)) ((wi M (a + 1) (ni (M.1 a 1)) p2).1 a 6)) a 2 (((wi (wi M (a + 1) (ni (M.1 a 1)) p2) (a + 2) (ni ((wi M (a + 1) (ni (M.1 a 1)) p2).1 a 1)) ((wi M (a + 1) (ni (M.1 a 1)) p2).1 a 6)).1 a 2) ||| 0)).1 a 1) + 1))) ∧
     (¬ p1 = 0 →
      Q (wi (wi (wi (wi M (a + 1) (ni (M.1 a 1)) p2) (a + 2) (ni ((wi M (a + 1) (ni (M.1 a 1)) p2).1 a 1)) ((wi M (a + 1) (ni (M.1 a 1)) p2).1 a 6)) a 2 (((wi (wi M (a + 1) (ni (M.1 a 1)) p2) (a + 2) (ni ((wi M (a + 1) (ni (M.1 a 1)) p2).1 a 1)) ((wi M (a + 1) (ni (M.1 a 1)) p2).1 a 6)).1 a 2) ||| (sl 1 ((wi (wi M (a + 1) (ni (M.1 a 1)) p2) (a + 2) (ni ((wi M (a + 1) (ni (M.1 a 1)) p2).1 a 1)) ((wi M (a + 1) (ni (M.1 a 1)) p2).1 a 6)).1 a 1)))) a 1 (((wi (wi (wi M (a + 1) (ni (M.1 a 1)) p2) (a + 2) (ni ((wi M (a + 1) (ni (M.1 a 1)) p2).1 a 1)) ((wi M (a + 1) (ni (M.1 a 1)) p2).1 a 6)) a 2 (((wi (wi M (a + 1) (ni (M.1 a 1)) p2) (a + 2) (ni ((wi M (a + 1) (ni (M.1 a 1)) p2).1 a 1)) ((wi M (a + 1) (ni (M.1 a 1)) p2).1 a 6)).1 a 2) ||| (sl 1 ((wi (wi M (a + 1) (ni (M.1 a 1)) p2) (a + 2) (ni ((wi M (a + 1) (ni (M.1 a 1)) p2).1 a 1)) ((wi M (a + 1) (ni (M.1 a 1)) p2).1 a 6)).1 a 1)))).1 a 1) + 1))))) ∧
   (¬ (M.1 a 1) < 12 →
    Q M))
theorem q_Law_addClause {X : Option (List AI)} {N : Nat} {M : MM} {a : Nat} {p1 : Int32} {p2 : Int32} {Q : MM → Prop} (ha : isK a) (h : W_Law_addClause a p1 p2 N M Q) : pM X N 34 0 (ea_ar 0 [.inr (.inl (some a)), .inl (.inl p1), .inl (.inl p2)]) [] M (Ru Q) := by
  refine pM_w (F2 := [(0, .inr (.inl (some a))), (1, .inl (.inl p1)), (2, .inl (.inl p2))]) (fun L hL => lo_cons (lo_lk hL rfl) (lo_cons (lo_lk hL rfl) (lo_cons (lo_lk hL rfl) lo_nil))) ?_
  refine pM_aln rfl rfl rfl ?_
  refine pM_gi rfl rfl ha.1 rfl ?_
  refine pM_bi rfl kb_12 ?_
  refine pM_cge rfl rfl (fun h1 => ?_) (fun h1 => ?_)
  · replace h := h.2 h1
    exact pM_ru rfl (⟨rfl, h⟩)
  · replace h := h.1 h1
    refine pM_aln rfl rfl rfl ?_
    refine pM_gr rfl rfl ha.1 rfl ?_
    refine pM_aln rfl rfl rfl ?_
    refine pM_gi rfl rfl ha.1 rfl ?_
    refine pM_iln rfl rfl ?_
    refine pM_sa rfl ha.2.1 (one_p _) ?_
    refine pM_aln rfl rfl rfl ?_
    refine pM_gr rfl rfl ha.1 rfl ?_
    refine pM_aln rfl rfl rfl ?_
    refine pM_gi rfl rfl ha.1 rfl ?_
    refine pM_aln rfl rfl rfl ?_
    refine pM_gi rfl rfl ha.1 rfl ?_
    refine pM_sa rfl ha.2.2.1 (one_p _) ?_
    refine pM_aln rfl rfl rfl ?_
    refine pM_p (pc' := 34) (S' := [.inr (.inl (some a)), .inr (.inl (some a))]) rfl rfl (fun _ => rfl) ?_
    refine pM_gi rfl rfl ha.1 rfl ?_
    refine pM_iln rfl rfl ?_
    refine pM_zeq rfl rfl (fun h2 => ?_) (fun h2 => ?_)
    · replace h := h.1 h2
      refine pM_ic rfl ki_0 ?_
      refine pM_or rfl ?_
      refine pM_pi rfl rfl ha.1 rfl ?_
      refine pM_aln rfl rfl rfl ?_
      refine pM_p (pc' := 57) (S' := [.inr (.inl (some a)), .inr (.inl (some a))]) rfl rfl (fun _ => rfl) ?_
      refine pM_gi rfl rfl ha.1 rfl ?_
      refine pM_ic rfl ki_1 ?_
      refine pM_add rfl ?_
      refine pM_pi rfl rfl ha.1 rfl ?_
      exact pM_ru rfl (⟨rfl, h⟩)
    · replace h := h.2 h2
      refine pM_ic rfl ki_1 ?_
      refine pM_aln rfl rfl rfl ?_
      refine pM_gi rfl rfl ha.1 rfl ?_
      refine pM_shl rfl ?_
      refine pM_go rfl rfl ?_
      refine pM_or rfl ?_
      refine pM_pi rfl rfl ha.1 rfl ?_
      refine pM_aln rfl rfl rfl ?_
      refine pM_p (pc' := 57) (S' := [.inr (.inl (some a)), .inr (.inl (some a))]) rfl rfl (fun _ => rfl) ?_
      refine pM_gi rfl rfl ha.1 rfl ?_
      refine pM_ic rfl ki_1 ?_
      refine pM_add rfl ?_
      refine pM_pi rfl rfl ha.1 rfl ?_
      exact pM_ru rfl (⟨rfl, h⟩)
/-- 35: EarCode$Law.never()I -/
def V_Law_never (a : Nat) (M : MM) : Int32 :=
  (((M.1 a 2) ^^^ (-1)) &&& ((sl 1 (M.1 a 1)) - 1))
theorem q_Law_never {X : Option (List AI)} {N : Nat} {M : MM} {a : Nat} (ha : isK a) : pM X N 35 0 (ea_ar 0 [.inr (.inl (some a))]) [] M (Vi (V_Law_never a M) M) := by
  refine pM_w (F2 := [(0, .inr (.inl (some a)))]) (fun L hL => lo_cons (lo_lk hL rfl) lo_nil) ?_
  refine pM_aln rfl rfl rfl ?_
  refine pM_gi rfl rfl ha.1 rfl ?_
  refine pM_ic rfl ki_m1 ?_
  refine pM_xor rfl ?_
  refine pM_ic rfl ki_1 ?_
  refine pM_aln rfl rfl rfl ?_
  refine pM_gi rfl rfl ha.1 rfl ?_
  refine pM_shl rfl ?_
  refine pM_ic rfl ki_1 ?_
  refine pM_sub rfl ?_
  refine pM_and rfl ?_
  exact pM_rVi rfl (rfl)
