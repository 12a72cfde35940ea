/-! WHAT EACH METHOD COMES TO (gw.py) -/
/-- 257: EarCodeModel.citizen(II)I -/
def W_m_citizen (p1 : Int32) (p2 : Int32) (N : Nat) (M : MM) (Q : Int32 → MM → Prop) : Prop :=
  W_m_throwsIf (V_m_noCitizen p1 (wi M 190 0 0)) 1 N (wi M 190 0 0) (fun r1 M2 =>
    ((r1 = 0 →
      (((V_m_in p2 0 8 M2) = 0 →
        W_m_throwsIf 1 2 N M2 (fun r5 M6 =>
          ((r5 = 0 →
            ((p2 = 6 →
              Q (V_m_doesIn p1 0 M6) M6) ∧
             (p2 = 7 →
              Q (V_m_pooled p1 M6) M6) ∧
             (p2 = 8 →
              Q (V_Lng_bitCount (M6.2 196 (ni p1)) M6) M6) ∧
             (¬ p2 = 6 → ¬ p2 = 7 → ¬ p2 = 8 → Q (V_m_of p1 p2 M6) M6))) ∧
           (¬ r5 = 0 →
            Q 0 M6)))) ∧
       (¬ (V_m_in p2 0 8 M2) = 0 →
        W_m_throwsIf 0 2 N M2 (fun r9 M10 =>
          ((r9 = 0 →
            ((p2 = 6 →
              Q (V_m_doesIn p1 0 M10) M10) ∧
             (p2 = 7 →
              Q (V_m_pooled p1 M10) M10) ∧
             (p2 = 8 →
              Q (V_Lng_bitCount (M10.2 196 (ni p1)) M10) M10) ∧
             (¬ p2 = 6 → ¬ p2 = 7 → ¬ p2 = 8 → Q (V_m_of p1 p2 M10) M10))) ∧
           (¬ r9 = 0 →
            Q 0 M10)))))) ∧
     (¬ r1 = 0 →
      Q 0 M2)))
theorem q_m_citizen {X : Option (List AI)} {N : Nat} {M : MM} {p1 : Int32} {p2 : Int32} {Q : Int32 → MM → Prop}  (h : W_m_citizen p1 p2 N M Q) : pM X N 257 0 (ea_ar 0 [.inr (.inl (some 190)), .inl (.inl p1), .inl (.inl p2)]) [] M (Ri Q) := by
  refine pM_w (F2 := [(0, .inr (.inl (some 190))), (1, .inl (.inl p1)), (2, .inl (.inl p2))]) (fun L hL => lo_cons (lo_lk hL rfl) (lo_cons (lo_lk hL rfl) (lo_cons (lo_lk hL rfl) lo_nil))) ?_
  refine pM_aln rfl rfl rfl ?_
  refine pM_ic rfl ki_0 ?_
  refine pM_pi rfl rfl rfl rfl ?_
  refine pM_aln rfl rfl rfl ?_
  refine pM_aln rfl rfl rfl ?_
  refine pM_iln rfl rfl ?_
  refine pM_qVi (as := [.inr (.inl (some 190)), .inl (.inl p1)]) (T := [.inr (.inl (some 190))]) rfl rfl (fun C hC => cl_v hC rfl rfl rfl rfl) rfl (q_m_noCitizen ) ?_
  refine pM_ic rfl ki_1 ?_
  refine pM_qRi (as := [.inr (.inl (some 190)), .inl (.inl (V_m_noCitizen p1 (wi M 190 0 0))), .inl (.inl 1)]) (T := []) rfl rfl (fun C hC => cl_v hC rfl rfl rfl rfl) rfl (q_m_throwsIf  h) (fun r1 M2 h => ?_)
  refine pM_zne rfl rfl (fun h3 => ?_) (fun h3 => ?_)
  · replace h := h.2 h3
    refine pM_ic rfl ki_0 ?_
    exact pM_ri rfl (⟨_, rfl, h⟩)
  · replace h := h.1 h3
    refine pM_aln rfl rfl rfl ?_
    refine pM_iln rfl rfl ?_
    refine pM_ic rfl ki_0 ?_
    refine pM_bi rfl kb_8 ?_
    refine pM_qVi (as := [.inl (.inl p2), .inl (.inl 0), .inl (.inl 8)]) (T := [.inr (.inl (some 190))]) rfl rfl (fun _ _ => rfl) rfl (q_m_in ) ?_
    refine pM_zne rfl rfl (fun h4 => ?_) (fun h4 => ?_)
    · replace h := h.2 h4
      refine pM_ic rfl ki_0 ?_
      refine pM_ic rfl ki_2 ?_
      refine pM_qRi (as := [.inr (.inl (some 190)), .inl (.inl 0), .inl (.inl 2)]) (T := []) rfl rfl (fun C hC => cl_v hC rfl rfl rfl rfl) rfl (q_m_throwsIf  h) (fun r9 M10 h => ?_)
      refine pM_zeq rfl rfl (fun h11 => ?_) (fun h11 => ?_)
      · replace h := h.1 h11
        refine pM_iln rfl rfl ?_
        refine pM_sw rfl rfl (fun h12 => ?_) (fun j o t h12 ho hto => ?_)
        · replace h := h.2.2.2 (sw_o h12 (by decide)) (sw_o h12 (by decide)) (sw_o h12 (by decide))
          refine pM_aln rfl rfl rfl ?_
          refine pM_iln rfl rfl ?_
          refine pM_iln rfl rfl ?_
          refine pM_qVi (as := [.inr (.inl (some 190)), .inl (.inl p1), .inl (.inl p2)]) (T := []) rfl rfl (fun C hC => cl_v hC rfl rfl rfl rfl) rfl (q_m_of ) ?_
          exact pM_ri rfl (⟨_, rfl, h⟩)
        · match j, h12, ho with
          | 0, h12, ho =>
            have e := Option.some.inj ho
            subst e
            have e := Option.some.inj hto
            subst e
            replace h := h.1 (sw_e h12 (by decide))
            refine pM_aln rfl rfl rfl ?_
            refine pM_iln rfl rfl ?_
            refine pM_ic rfl ki_0 ?_
            refine pM_qVi (as := [.inr (.inl (some 190)), .inl (.inl p1), .inl (.inl 0)]) (T := []) rfl rfl (fun C hC => cl_v hC rfl rfl rfl rfl) rfl (q_m_doesIn ) ?_
            exact pM_ri rfl (⟨_, rfl, h⟩)
          | 1, h12, ho =>
            have e := Option.some.inj ho
            subst e
            have e := Option.some.inj hto
            subst e
            replace h := h.2.1 (sw_e h12 (by decide))
            refine pM_aln rfl rfl rfl ?_
            refine pM_iln rfl rfl ?_
            refine pM_qVi (as := [.inr (.inl (some 190)), .inl (.inl p1)]) (T := []) rfl rfl (fun C hC => cl_v hC rfl rfl rfl rfl) rfl (q_m_pooled ) ?_
            exact pM_ri rfl (⟨_, rfl, h⟩)
          | 2, h12, ho =>
            have e := Option.some.inj ho
            subst e
            have e := Option.some.inj hto
            subst e
            replace h := h.2.2.1 (sw_e h12 (by decide))
            refine pM_aln rfl rfl rfl ?_
            refine pM_gr rfl rfl rfl rfl ?_
            refine pM_iln rfl rfl ?_
            refine pM_la rfl rfl ?_
            refine pM_qVi (as := [.inr (.inr (.inl (some (M10.2 196 (ni p1)))))]) (T := []) rfl rfl (fun _ _ => rfl) rfl (q_Lng_bitCount ) ?_
            exact pM_ri rfl (⟨_, rfl, h⟩)
          | j + 3, _, ho => exact absurd ho (by simp)
      · replace h := h.2 h11
        refine pM_ic rfl ki_0 ?_
        exact pM_ri rfl (⟨_, rfl, h⟩)
    · replace h := h.1 h4
      refine pM_ic rfl ki_1 ?_
      refine pM_go rfl rfl ?_
      refine pM_ic rfl ki_2 ?_
      refine pM_qRi (as := [.inr (.inl (some 190)), .inl (.inl 1), .inl (.inl 2)]) (T := []) rfl rfl (fun C hC => cl_v hC rfl rfl rfl rfl) rfl (q_m_throwsIf  h) (fun r5 M6 h => ?_)
      refine pM_zeq rfl rfl (fun h7 => ?_) (fun h7 => ?_)
      · replace h := h.1 h7
        refine pM_iln rfl rfl ?_
        refine pM_sw rfl rfl (fun h8 => ?_) (fun j o t h8 ho hto => ?_)
        · replace h := h.2.2.2 (sw_o h8 (by decide)) (sw_o h8 (by decide)) (sw_o h8 (by decide))
          refine pM_aln rfl rfl rfl ?_
          refine pM_iln rfl rfl ?_
          refine pM_iln rfl rfl ?_
          refine pM_qVi (as := [.inr (.inl (some 190)), .inl (.inl p1), .inl (.inl p2)]) (T := []) rfl rfl (fun C hC => cl_v hC rfl rfl rfl rfl) rfl (q_m_of ) ?_
          exact pM_ri rfl (⟨_, rfl, h⟩)
        · match j, h8, ho with
          | 0, h8, ho =>
            have e := Option.some.inj ho
            subst e
            have e := Option.some.inj hto
            subst e
            replace h := h.1 (sw_e h8 (by decide))
            refine pM_aln rfl rfl rfl ?_
            refine pM_iln rfl rfl ?_
            refine pM_ic rfl ki_0 ?_
            refine pM_qVi (as := [.inr (.inl (some 190)), .inl (.inl p1), .inl (.inl 0)]) (T := []) rfl rfl (fun C hC => cl_v hC rfl rfl rfl rfl) rfl (q_m_doesIn ) ?_
            exact pM_ri rfl (⟨_, rfl, h⟩)
          | 1, h8, ho =>
            have e := Option.some.inj ho
            subst e
            have e := Option.some.inj hto
            subst e
            replace h := h.2.1 (sw_e h8 (by decide))
            refine pM_aln rfl rfl rfl ?_
            refine pM_iln rfl rfl ?_
            refine pM_qVi (as := [.inr (.inl (some 190)), .inl (.inl p1)]) (T := []) rfl rfl (fun C hC => cl_v hC rfl rfl rfl rfl) rfl (q_m_pooled ) ?_
            exact pM_ri rfl (⟨_, rfl, h⟩)
          | 2, h8, ho =>
            have e := Option.some.inj ho
            subst e
            have e := Option.some.inj hto
            subst e
            replace h := h.2.2.1 (sw_e h8 (by decide))
            refine pM_aln rfl rfl rfl ?_
            refine pM_gr rfl rfl rfl rfl ?_
            refine pM_iln rfl rfl ?_
            refine pM_la rfl rfl ?_
            refine pM_qVi (as := [.inr (.inr (.inl (some (M6.2 196 (ni p1)))))]) (T := []) rfl rfl (fun _ _ => rfl) rfl (q_Lng_bitCount ) ?_
            exact pM_ri rfl (⟨_, rfl, h⟩)
          | j + 3, _, ho => exact absurd ho (by simp)
      · replace h := h.2 h7
        refine pM_ic rfl ki_0 ?_
        exact pM_ri rfl (⟨_, rfl, h⟩)
/-- 258: EarCodeModel.seen(I)J -/
def W_m_seen (p1 : Int32) (N : Nat) (M : MM) (Q : Int64 → MM → Prop) : Prop :=
  W_m_throwsIf (V_m_noCitizen p1 (wi M 190 0 0)) 1 N (wi M 190 0 0) (fun r1 M2 =>
    ((r1 = 0 →
      Q (M2.2 196 (ni p1)) M2) ∧
     (¬ r1 = 0 →
      Q (Int64.ofNat 0) M2)))
theorem q_m_seen {X : Option (List AI)} {N : Nat} {M : MM} {p1 : Int32} {Q : Int64 → MM → Prop}  (h : W_m_seen p1 N M Q) : pM X N 258 0 (ea_ar 0 [.inr (.inl (some 190)), .inl (.inl p1)]) [] M (Rl Q) := by
  refine pM_w (F2 := [(0, .inr (.inl (some 190))), (1, .inl (.inl p1))]) (fun L hL => lo_cons (lo_lk hL rfl) (lo_cons (lo_lk hL rfl) lo_nil)) ?_
  refine pM_aln rfl rfl rfl ?_
  refine pM_ic rfl ki_0 ?_
  refine pM_pi rfl rfl rfl rfl ?_
  refine pM_aln rfl rfl rfl ?_
  refine pM_aln rfl rfl rfl ?_
  refine pM_iln rfl rfl ?_
  refine pM_qVi (as := [.inr (.inl (some 190)), .inl (.inl p1)]) (T := [.inr (.inl (some 190))]) rfl rfl (fun C hC => cl_v hC rfl rfl rfl rfl) rfl (q_m_noCitizen ) ?_
  refine pM_ic rfl ki_1 ?_
  refine pM_qRi (as := [.inr (.inl (some 190)), .inl (.inl (V_m_noCitizen p1 (wi M 190 0 0))), .inl (.inl 1)]) (T := []) rfl rfl (fun C hC => cl_v hC rfl rfl rfl rfl) rfl (q_m_throwsIf  h) (fun r1 M2 h => ?_)
  refine pM_zeq rfl rfl (fun h3 => ?_) (fun h3 => ?_)
  · replace h := h.1 h3
    refine pM_aln rfl rfl rfl ?_
    refine pM_gr rfl rfl rfl rfl ?_
    refine pM_iln rfl rfl ?_
    refine pM_la rfl rfl ?_
    exact pM_rl rfl (⟨_, rfl, h⟩)
  · replace h := h.2 h3
    refine pM_lc rfl ?_
    refine pM_go rfl rfl ?_
    exact pM_rl rfl (⟨_, rfl, h⟩)
/-- 259: EarCodeModel.habit(II)I -/
def W_m_habit (p1 : Int32) (p2 : Int32) (N : Nat) (M : MM) (Q : Int32 → MM → Prop) : Prop :=
  W_m_throwsIf (V_m_noCitizen p1 (wi M 190 0 0)) 1 N (wi M 190 0 0) (fun r1 M2 =>
    ((r1 = 0 →
      (((V_m_in p2 0 ((V_m_of p1 5 M2) - 1) M2) = 0 →
        Q (-1) M2) ∧
       (¬ (V_m_in p2 0 ((V_m_of p1 5 M2) - 1) M2) = 0 →
        Q (V_m_of p1 (7 + p2) M2) M2))) ∧
     (¬ r1 = 0 →
      Q 0 M2)))
theorem q_m_habit {X : Option (List AI)} {N : Nat} {M : MM} {p1 : Int32} {p2 : Int32} {Q : Int32 → MM → Prop}  (h : W_m_habit p1 p2 N M Q) : pM X N 259 0 (ea_ar 0 [.inr (.inl (some 190)), .inl (.inl p1), .inl (.inl p2)]) [] M (Ri Q) := by
  refine pM_w (F2 := [(0, .inr (.inl (some 190))), (1, .inl (.inl p1)), (2, .inl (.inl p2))]) (fun L hL => lo_cons (lo_lk hL rfl) (lo_cons (lo_lk hL rfl) (lo_cons (lo_lk hL rfl) lo_nil))) ?_
  refine pM_aln rfl rfl rfl ?_
  refine pM_ic rfl ki_0 ?_
  refine pM_pi rfl rfl rfl rfl ?_
  refine pM_aln rfl rfl rfl ?_
  refine pM_aln rfl rfl rfl ?_
  refine pM_iln rfl rfl ?_
  refine pM_qVi (as := [.inr (.inl (some 190)), .inl (.inl p1)]) (T := [.inr (.inl (some 190))]) rfl rfl (fun C hC => cl_v hC rfl rfl rfl rfl) rfl (q_m_noCitizen ) ?_
  refine pM_ic rfl ki_1 ?_
  refine pM_qRi (as := [.inr (.inl (some 190)), .inl (.inl (V_m_noCitizen p1 (wi M 190 0 0))), .inl (.inl 1)]) (T := []) rfl rfl (fun C hC => cl_v hC rfl rfl rfl rfl) rfl (q_m_throwsIf  h) (fun r1 M2 h => ?_)
  refine pM_zeq rfl rfl (fun h3 => ?_) (fun h3 => ?_)
  · replace h := h.1 h3
    refine pM_iln rfl rfl ?_
    refine pM_ic rfl ki_0 ?_
    refine pM_aln rfl rfl rfl ?_
    refine pM_iln rfl rfl ?_
    refine pM_ic rfl ki_5 ?_
    refine pM_qVi (as := [.inr (.inl (some 190)), .inl (.inl p1), .inl (.inl 5)]) (T := [.inl (.inl 0), .inl (.inl p2)]) rfl rfl (fun C hC => cl_v hC rfl rfl rfl rfl) rfl (q_m_of ) ?_
    refine pM_ic rfl ki_1 ?_
    refine pM_sub rfl ?_
    refine pM_qVi (as := [.inl (.inl p2), .inl (.inl 0), .inl (.inl ((V_m_of p1 5 M2) - 1))]) (T := []) rfl rfl (fun _ _ => rfl) rfl (q_m_in ) ?_
    refine pM_zeq rfl rfl (fun h4 => ?_) (fun h4 => ?_)
    · replace h := h.1 h4
      refine pM_ic rfl ki_m1 ?_
      exact pM_ri rfl (⟨_, rfl, h⟩)
    · replace h := h.2 h4
      refine pM_aln rfl rfl rfl ?_
      refine pM_iln rfl rfl ?_
      refine pM_bi rfl kb_7 ?_
      refine pM_iln rfl rfl ?_
      refine pM_add rfl ?_
      refine pM_qVi (as := [.inr (.inl (some 190)), .inl (.inl p1), .inl (.inl (7 + p2))]) (T := []) rfl rfl (fun C hC => cl_v hC rfl rfl rfl rfl) rfl (q_m_of ) ?_
      refine pM_go rfl rfl ?_
      exact pM_ri rfl (⟨_, rfl, h⟩)
  · replace h := h.2 h3
    refine pM_ic rfl ki_0 ?_
    exact pM_ri rfl (⟨_, rfl, h⟩)
/-- 260: EarCodeModel.may(II)Z -/
def W_m_may (p1 : Int32) (p2 : Int32) (N : Nat) (M : MM) (Q : Int32 → MM → Prop) : Prop :=
  W_m_forbidsNow (V_m_of p2 1 M) p1 p2 N M (fun r1 M2 =>
    ((r1 = 0 →
      Q 1 M2) ∧
     (¬ r1 = 0 →
      Q 0 M2)))
theorem q_m_may {X : Option (List AI)} {N : Nat} {M : MM} {p1 : Int32} {p2 : Int32} {Q : Int32 → MM → Prop}  (h : W_m_may p1 p2 N M Q) : pM X N 260 0 (ea_ar 0 [.inr (.inl (some 190)), .inl (.inl p1), .inl (.inl p2)]) [] M (Ri Q) := by
  refine pM_w (F2 := [(0, .inr (.inl (some 190))), (1, .inl (.inl p1)), (2, .inl (.inl p2))]) (fun L hL => lo_cons (lo_lk hL rfl) (lo_cons (lo_lk hL rfl) (lo_cons (lo_lk hL rfl) lo_nil))) ?_
  refine pM_aln rfl rfl rfl ?_
  refine pM_aln rfl rfl rfl ?_
  refine pM_iln rfl rfl ?_
  refine pM_ic rfl ki_1 ?_
  refine pM_qVi (as := [.inr (.inl (some 190)), .inl (.inl p2), .inl (.inl 1)]) (T := [.inr (.inl (some 190))]) rfl rfl (fun C hC => cl_v hC rfl rfl rfl rfl) rfl (q_m_of ) ?_
  refine pM_iln rfl rfl ?_
  refine pM_iln rfl rfl ?_
  refine pM_qRi (as := [.inr (.inl (some 190)), .inl (.inl (V_m_of p2 1 M)), .inl (.inl p1), .inl (.inl p2)]) (T := []) rfl rfl (fun C hC => cl_v hC rfl rfl rfl rfl) rfl (q_m_forbidsNow  h) (fun r1 M2 h => ?_)
  refine pM_zne rfl rfl (fun h3 => ?_) (fun h3 => ?_)
  · replace h := h.2 h3
    refine pM_ic rfl ki_0 ?_
    exact pM_ri rfl (⟨_, rfl, h⟩)
  · replace h := h.1 h3
    refine pM_ic rfl ki_1 ?_
    refine pM_go rfl rfl ?_
    exact pM_ri rfl (⟨_, rfl, h⟩)
