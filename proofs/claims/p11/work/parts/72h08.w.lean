/-! WHAT EACH METHOD COMES TO (gw.py) -/
/-- 102: EarCode$World.addCitizen(I)I -/
def W_World_addCitizen (a : Nat) (p1 : Int32) (N : Nat) (M : MM) (Q : Int32 → MM → Prop) : Prop :=
  (((M.1 a 0) < 10 →
    Q (M.1 a 0) (wj (wi (wi (wi (wi (wi (wi (wi (wi M a 0 ((M.1 a 0) + 1)) a 1 (((wi M a 0 ((M.1 a 0) + 1)).1 a 1) ||| (sl 1 (M.1 a 0)))) (a + 1) (ni (M.1 a 0)) 0) (a + 2) (ni (M.1 a 0)) p1) (a + 3) (ni (M.1 a 0)) 0) (a + 4) (ni (M.1 a 0)) (-1)) (a + 6) (ni (M.1 a 0)) 0) (a + 7) (ni (M.1 a 0)) 0) (a + 8) (ni (M.1 a 0)) (Int64.ofNat 0))) ∧
   (¬ (M.1 a 0) < 10 →
    Q (-1) M))
theorem q_World_addCitizen {X : Option (List AI)} {N : Nat} {M : MM} {a : Nat} {p1 : Int32} {Q : Int32 → MM → Prop} (ha : isW a) (h : W_World_addCitizen a p1 N M Q) : pM X N 102 0 (ea_ar 0 [.inr (.inl (some a)), .inl (.inl p1)]) [] M (Ri Q) := by
  refine pM_w (F2 := [(0, .inr (.inl (some a))), (1, .inl (.inl p1))]) (fun L hL => lo_cons (lo_lk hL rfl) (lo_cons (lo_lk hL rfl) lo_nil)) ?_
  refine pM_aln rfl rfl rfl ?_
  refine pM_gi rfl rfl ha.1 rfl ?_
  refine pM_isn rfl rfl ?_
  refine pM_iln rfl rfl ?_
  refine pM_bi rfl kb_10 ?_
  refine pM_clt rfl rfl (fun h1 => ?_) (fun h1 => ?_)
  · replace h := h.1 h1
    refine pM_aln rfl rfl rfl ?_
    refine pM_p (pc' := 15) (S' := [.inr (.inl (some a)), .inr (.inl (some a))]) rfl rfl (fun _ => rfl) ?_
    refine pM_gi rfl rfl ha.1 rfl ?_
    refine pM_ic rfl ki_1 ?_
    refine pM_add rfl ?_
    refine pM_pi rfl rfl ha.1 rfl ?_
    refine pM_aln rfl rfl rfl ?_
    refine pM_p (pc' := 25) (S' := [.inr (.inl (some a)), .inr (.inl (some a))]) rfl rfl (fun _ => rfl) ?_
    refine pM_gi rfl rfl ha.1 rfl ?_
    refine pM_ic rfl ki_1 ?_
    refine pM_iln rfl rfl ?_
    refine pM_shl rfl ?_
    refine pM_or rfl ?_
    refine pM_pi rfl rfl ha.1 rfl ?_
    refine pM_aln rfl rfl rfl ?_
    refine pM_gr rfl rfl ha.1 rfl ?_
    refine pM_iln rfl rfl ?_
    refine pM_ic rfl ki_0 ?_
    refine pM_sa rfl ha.2.1 (one_p _) ?_
    refine pM_aln rfl rfl rfl ?_
    refine pM_gr rfl rfl ha.1 rfl ?_
    refine pM_iln rfl rfl ?_
    refine pM_iln rfl rfl ?_
    refine pM_sa rfl ha.2.2.1 (one_p _) ?_
    refine pM_aln rfl rfl rfl ?_
    refine pM_gr rfl rfl ha.1 rfl ?_
    refine pM_iln rfl rfl ?_
    refine pM_ic rfl ki_0 ?_
    refine pM_sa rfl ha.2.2.2.1 (one_p _) ?_
    refine pM_aln rfl rfl rfl ?_
    refine pM_gr rfl rfl ha.1 rfl ?_
    refine pM_iln rfl rfl ?_
    refine pM_ic rfl ki_m1 ?_
    refine pM_sa rfl ha.2.2.2.2.1 (one_p _) ?_
    refine pM_aln rfl rfl rfl ?_
    refine pM_gr rfl rfl ha.1 rfl ?_
    refine pM_iln rfl rfl ?_
    refine pM_ic rfl ki_0 ?_
    refine pM_sa rfl ha.2.2.2.2.2.2.1 (one_p _) ?_
    refine pM_aln rfl rfl rfl ?_
    refine pM_gr rfl rfl ha.1 rfl ?_
    refine pM_iln rfl rfl ?_
    refine pM_ic rfl ki_0 ?_
    refine pM_sa rfl ha.2.2.2.2.2.2.2.1 (one_p _) ?_
    refine pM_aln rfl rfl rfl ?_
    refine pM_gr rfl rfl ha.1 rfl ?_
    refine pM_iln rfl rfl ?_
    refine pM_lc rfl ?_
    refine pM_sg rfl ha.2.2.2.2.2.2.2.2.1 ?_
    refine pM_iln rfl rfl ?_
    exact pM_ri rfl (⟨_, rfl, h⟩)
  · replace h := h.2 h1
    refine pM_ic rfl ki_m1 ?_
    exact pM_ri rfl (⟨_, rfl, h⟩)
/-- 73: EarCode$RepublicReader.readCitizen()Z -/
def W_RepublicReader_readCitizen  (N : Nat) (M : MM) (Q : Int32 → MM → Prop) : Prop :=
  (((V_Text_kind  M) = 12 →
    W_Text_goOn  N M (fun M3 =>
      W_Text_numberWithin 0 100 N M3 (fun r4 M5 =>
        ((r4 = (-1) →
          Q 0 M5) ∧
         (¬ r4 = (-1) →
          (((V_Text_kind  M5) = 13 →
            W_Text_goOn  N M5 (fun M9 =>
              W_World_addCitizen 30 r4 N M9 (fun r10 M11 =>
                ((r10 = (-1) →
                  Q 0 M11) ∧
                 (¬ r10 = (-1) →
                  W_RepublicReader_readHabit r10 N M11 (fun r13 M14 =>
                    ((r13 = 0 →
                      Q 0 M14) ∧
                     (¬ r13 = 0 →
                      (((V_Text_kind  M14) = 14 →
                        W_RepublicReader_readKnows r10 N M14 (fun r17 M18 =>
                          ((r17 = 0 →
                            Q 0 M18) ∧
                           (¬ r17 = 0 →
                            Q 1 M18)))) ∧
                       (¬ (V_Text_kind  M14) = 14 →
                        Q 1 M14)))))))))) ∧
           (¬ (V_Text_kind  M5) = 13 →
            Q 0 M5))))))) ∧
   (¬ (V_Text_kind  M) = 12 →
    Q 0 M))
theorem q_RepublicReader_readCitizen {X : Option (List AI)} {N : Nat} {M : MM}  {Q : Int32 → MM → Prop}  (h : W_RepublicReader_readCitizen  N M Q) : pM X N 73 0 (ea_ar 0 [.inr (.inl (some 43))]) [] M (Ri Q) := by
  refine pM_w (F2 := [(0, .inr (.inl (some 43)))]) (fun L hL => lo_cons (lo_lk hL rfl) lo_nil) ?_
  refine pM_aln rfl rfl rfl ?_
  refine pM_gr rfl rfl rfl rfl ?_
  refine pM_qVi (as := [.inr (.inl (some 3))]) (T := []) rfl rfl (fun C hC => cl_v hC rfl rfl rfl rfl) rfl (q_Text_kind ) ?_
  refine pM_bi rfl kb_12 ?_
  refine pM_ceq rfl rfl (fun h1 => ?_) (fun h1 => ?_)
  · replace h := h.1 h1
    refine pM_aln rfl rfl rfl ?_
    refine pM_gr rfl rfl rfl rfl ?_
    refine pM_qRu (as := [.inr (.inl (some 3))]) (T := []) rfl rfl (fun C hC => cl_v hC rfl rfl rfl rfl) rfl (q_Text_goOn  h) (fun M3 h => ?_)
    refine pM_aln rfl rfl rfl ?_
    refine pM_gr rfl rfl rfl rfl ?_
    refine pM_ic rfl ki_0 ?_
    refine pM_bi rfl kb_100 ?_
    refine pM_qRi (as := [.inr (.inl (some 3)), .inl (.inl 0), .inl (.inl 100)]) (T := []) rfl rfl (fun C hC => cl_v hC rfl rfl rfl rfl) rfl (q_Text_numberWithin  h) (fun r4 M5 h => ?_)
    refine pM_isn rfl rfl ?_
    refine pM_iln rfl rfl ?_
    refine pM_ic rfl ki_m1 ?_
    refine pM_ceq rfl rfl (fun h6 => ?_) (fun h6 => ?_)
    · replace h := h.1 h6
      refine pM_ic rfl ki_0 ?_
      exact pM_ri rfl (⟨_, rfl, h⟩)
    · replace h := h.2 h6
      refine pM_aln rfl rfl rfl ?_
      refine pM_gr rfl rfl rfl rfl ?_
      refine pM_qVi (as := [.inr (.inl (some 3))]) (T := []) rfl rfl (fun C hC => cl_v hC rfl rfl rfl rfl) rfl (q_Text_kind ) ?_
      refine pM_bi rfl kb_13 ?_
      refine pM_ceq rfl rfl (fun h7 => ?_) (fun h7 => ?_)
      · replace h := h.1 h7
        refine pM_aln rfl rfl rfl ?_
        refine pM_gr rfl rfl rfl rfl ?_
        refine pM_qRu (as := [.inr (.inl (some 3))]) (T := []) rfl rfl (fun C hC => cl_v hC rfl rfl rfl rfl) rfl (q_Text_goOn  h) (fun M9 h => ?_)
        refine pM_aln rfl rfl rfl ?_
        refine pM_gr rfl rfl rfl rfl ?_
        refine pM_iln rfl rfl ?_
        refine pM_qRi (as := [.inr (.inl (some 30)), .inl (.inl r4)]) (T := []) rfl rfl (fun C hC => cl_v hC rfl rfl rfl rfl) rfl (q_World_addCitizen isW_30 h) (fun r10 M11 h => ?_)
        refine pM_isn rfl rfl ?_
        refine pM_iln rfl rfl ?_
        refine pM_ic rfl ki_m1 ?_
        refine pM_ceq rfl rfl (fun h12 => ?_) (fun h12 => ?_)
        · replace h := h.1 h12
          refine pM_ic rfl ki_0 ?_
          exact pM_ri rfl (⟨_, rfl, h⟩)
        · replace h := h.2 h12
          refine pM_aln rfl rfl rfl ?_
          refine pM_iln rfl rfl ?_
          refine pM_qRi (as := [.inr (.inl (some 43)), .inl (.inl r10)]) (T := []) rfl rfl (fun C hC => cl_v hC rfl rfl rfl rfl) rfl (q_RepublicReader_readHabit  h) (fun r13 M14 h => ?_)
          refine pM_zne rfl rfl (fun h15 => ?_) (fun h15 => ?_)
          · replace h := h.2 h15
            refine pM_aln rfl rfl rfl ?_
            refine pM_gr rfl rfl rfl rfl ?_
            refine pM_qVi (as := [.inr (.inl (some 3))]) (T := []) rfl rfl (fun C hC => cl_v hC rfl rfl rfl rfl) rfl (q_Text_kind ) ?_
            refine pM_bi rfl kb_14 ?_
            refine pM_cne rfl rfl (fun h16 => ?_) (fun h16 => ?_)
            · replace h := h.2 h16
              refine pM_ic rfl ki_1 ?_
              refine pM_go rfl rfl ?_
              exact pM_ri rfl (⟨_, rfl, h⟩)
            · replace h := h.1 h16
              refine pM_aln rfl rfl rfl ?_
              refine pM_iln rfl rfl ?_
              refine pM_qRi (as := [.inr (.inl (some 43)), .inl (.inl r10)]) (T := []) rfl rfl (fun C hC => cl_v hC rfl rfl rfl rfl) rfl (q_RepublicReader_readKnows  h) (fun r17 M18 h => ?_)
              refine pM_zeq rfl rfl (fun h19 => ?_) (fun h19 => ?_)
              · replace h := h.1 h19
                refine pM_ic rfl ki_0 ?_
                exact pM_ri rfl (⟨_, rfl, h⟩)
              · replace h := h.2 h19
                refine pM_ic rfl ki_1 ?_
                refine pM_go rfl rfl ?_
                exact pM_ri rfl (⟨_, rfl, h⟩)
          · replace h := h.1 h15
            refine pM_ic rfl ki_0 ?_
            exact pM_ri rfl (⟨_, rfl, h⟩)
      · replace h := h.2 h7
        refine pM_ic rfl ki_0 ?_
        exact pM_ri rfl (⟨_, rfl, h⟩)
  · replace h := h.2 h1
    refine pM_ic rfl ki_0 ?_
    exact pM_ri rfl (⟨_, rfl, h⟩)
/-- 76: EarCode$RepublicReader.readWatch()Z -/
def W_RepublicReader_readWatch  (N : Nat) (M : MM) (Q : Int32 → MM → Prop) : Prop :=
  W_Text_numberWithin 0 100 N M (fun r1 M2 =>
    ((r1 = (-1) →
      Q 0 (wi M2 30 11 r1)) ∧
     (¬ r1 = (-1) →
      Q 1 (wi M2 30 11 r1))))
theorem q_RepublicReader_readWatch {X : Option (List AI)} {N : Nat} {M : MM}  {Q : Int32 → MM → Prop}  (h : W_RepublicReader_readWatch  N M Q) : pM X N 76 0 (ea_ar 0 [.inr (.inl (some 43))]) [] M (Ri Q) := by
  refine pM_w (F2 := [(0, .inr (.inl (some 43)))]) (fun L hL => lo_cons (lo_lk hL rfl) lo_nil) ?_
  refine pM_aln rfl rfl rfl ?_
  refine pM_gr rfl rfl rfl rfl ?_
  refine pM_ic rfl ki_0 ?_
  refine pM_bi rfl kb_100 ?_
  refine pM_qRi (as := [.inr (.inl (some 3)), .inl (.inl 0), .inl (.inl 100)]) (T := []) rfl rfl (fun C hC => cl_v hC rfl rfl rfl rfl) rfl (q_Text_numberWithin  h) (fun r1 M2 h => ?_)
  refine pM_isn rfl rfl ?_
  refine pM_aln rfl rfl rfl ?_
  refine pM_gr rfl rfl rfl rfl ?_
  refine pM_iln rfl rfl ?_
  refine pM_pi rfl rfl rfl rfl ?_
  refine pM_iln rfl rfl ?_
  refine pM_ic rfl ki_m1 ?_
  refine pM_ceq rfl rfl (fun h3 => ?_) (fun h3 => ?_)
  · replace h := h.1 h3
    refine pM_ic rfl ki_0 ?_
    exact pM_ri rfl (⟨_, rfl, h⟩)
  · replace h := h.2 h3
    refine pM_ic rfl ki_1 ?_
    refine pM_go rfl rfl ?_
    exact pM_ri rfl (⟨_, rfl, h⟩)
/-- 77: EarCode$RepublicReader.readTerm()Z -/
def W_RepublicReader_readTerm  (N : Nat) (M : MM) (Q : Int32 → MM → Prop) : Prop :=
  W_Text_numberWithin 1 30 N M (fun r1 M2 =>
    ((r1 = (-1) →
      Q 0 (wi M2 30 12 r1)) ∧
     (¬ r1 = (-1) →
      Q 1 (wi M2 30 12 r1))))
theorem q_RepublicReader_readTerm {X : Option (List AI)} {N : Nat} {M : MM}  {Q : Int32 → MM → Prop}  (h : W_RepublicReader_readTerm  N M Q) : pM X N 77 0 (ea_ar 0 [.inr (.inl (some 43))]) [] M (Ri Q) := by
  refine pM_w (F2 := [(0, .inr (.inl (some 43)))]) (fun L hL => lo_cons (lo_lk hL rfl) lo_nil) ?_
  refine pM_aln rfl rfl rfl ?_
  refine pM_gr rfl rfl rfl rfl ?_
  refine pM_ic rfl ki_1 ?_
  refine pM_bi rfl kb_30 ?_
  refine pM_qRi (as := [.inr (.inl (some 3)), .inl (.inl 1), .inl (.inl 30)]) (T := []) rfl rfl (fun C hC => cl_v hC rfl rfl rfl rfl) rfl (q_Text_numberWithin  h) (fun r1 M2 h => ?_)
  refine pM_isn rfl rfl ?_
  refine pM_aln rfl rfl rfl ?_
  refine pM_gr rfl rfl rfl rfl ?_
  refine pM_iln rfl rfl ?_
  refine pM_pi rfl rfl rfl rfl ?_
  refine pM_iln rfl rfl ?_
  refine pM_ic rfl ki_m1 ?_
  refine pM_ceq rfl rfl (fun h3 => ?_) (fun h3 => ?_)
  · replace h := h.1 h3
    refine pM_ic rfl ki_0 ?_
    exact pM_ri rfl (⟨_, rfl, h⟩)
  · replace h := h.2 h3
    refine pM_ic rfl ki_1 ?_
    refine pM_go rfl rfl ?_
    exact pM_ri rfl (⟨_, rfl, h⟩)
/-- 78: EarCode$RepublicReader.readHarm()Z -/
def W_RepublicReader_readHarm  (N : Nat) (M : MM) (Q : Int32 → MM → Prop) : Prop :=
  W_Text_numberWithin 0 7 N M (fun r1 M2 =>
    ((r1 = (-1) →
      Q 0 M2) ∧
     (¬ r1 = (-1) →
      W_Text_numberWithin 0 99 N M2 (fun r4 M5 =>
        ((r4 = (-1) →
          Q 0 (wi M5 39 (ni r1) r4)) ∧
         (¬ r4 = (-1) →
          Q 1 (wi M5 39 (ni r1) r4)))))))
theorem q_RepublicReader_readHarm {X : Option (List AI)} {N : Nat} {M : MM}  {Q : Int32 → MM → Prop}  (h : W_RepublicReader_readHarm  N M Q) : pM X N 78 0 (ea_ar 0 [.inr (.inl (some 43))]) [] M (Ri Q) := by
  refine pM_w (F2 := [(0, .inr (.inl (some 43)))]) (fun L hL => lo_cons (lo_lk hL rfl) lo_nil) ?_
  refine pM_aln rfl rfl rfl ?_
  refine pM_gr rfl rfl rfl rfl ?_
  refine pM_ic rfl ki_0 ?_
  refine pM_bi rfl kb_7 ?_
  refine pM_qRi (as := [.inr (.inl (some 3)), .inl (.inl 0), .inl (.inl 7)]) (T := []) rfl rfl (fun C hC => cl_v hC rfl rfl rfl rfl) rfl (q_Text_numberWithin  h) (fun r1 M2 h => ?_)
  refine pM_isn rfl rfl ?_
  refine pM_iln rfl rfl ?_
  refine pM_ic rfl ki_m1 ?_
  refine pM_cne rfl rfl (fun h3 => ?_) (fun h3 => ?_)
  · replace h := h.2 h3
    refine pM_aln rfl rfl rfl ?_
    refine pM_gr rfl rfl rfl rfl ?_
    refine pM_ic rfl ki_0 ?_
    refine pM_bi rfl kb_99 ?_
    refine pM_qRi (as := [.inr (.inl (some 3)), .inl (.inl 0), .inl (.inl 99)]) (T := []) rfl rfl (fun C hC => cl_v hC rfl rfl rfl rfl) rfl (q_Text_numberWithin  h) (fun r4 M5 h => ?_)
    refine pM_isn rfl rfl ?_
    refine pM_aln rfl rfl rfl ?_
    refine pM_gr rfl rfl rfl rfl ?_
    refine pM_gr rfl rfl rfl rfl ?_
    refine pM_iln rfl rfl ?_
    refine pM_iln rfl rfl ?_
    refine pM_sa rfl rfl (one_p _) ?_
    refine pM_iln rfl rfl ?_
    refine pM_ic rfl ki_m1 ?_
    refine pM_ceq rfl rfl (fun h6 => ?_) (fun h6 => ?_)
    · replace h := h.1 h6
      refine pM_ic rfl ki_0 ?_
      exact pM_ri rfl (⟨_, rfl, h⟩)
    · replace h := h.2 h6
      refine pM_ic rfl ki_1 ?_
      refine pM_go rfl rfl ?_
      exact pM_ri rfl (⟨_, rfl, h⟩)
  · replace h := h.1 h3
    refine pM_ic rfl ki_0 ?_
    exact pM_ri rfl (⟨_, rfl, h⟩)
/-- 81: EarCode$RepublicReader.readLiving(ZI)I -/
def W_RepublicReader_readLiving (p1 : Int32) (p2 : Int32) (N : Nat) (M : MM) (Q : Int32 → MM → Prop) : Prop :=
  (((V_Text_kind  M) = 20 →
    (((V_Text_value  M) < (M.1 30 0) →
      (((V_Text_value  M) = p2 →
        Q (-1) M) ∧
       (¬ (V_Text_value  M) = p2 →
        (((V_World_isAlive 30 (V_Text_value  M) M) = 0 →
          Q (-1) M) ∧
         (¬ (V_World_isAlive 30 (V_Text_value  M) M) = 0 →
          ((p1 = 0 →
            W_Text_goOn  N M (fun M7 =>
              Q (V_Text_value  M) M7)) ∧
           (¬ p1 = 0 →
            (((M.1 34 (ni (V_Text_value  M))) = (-1) →
              W_Text_goOn  N M (fun M10 =>
                Q (V_Text_value  M) M10)) ∧
             (¬ (M.1 34 (ni (V_Text_value  M))) = (-1) →
              Q (-1) M))))))))) ∧
     (¬ (V_Text_value  M) < (M.1 30 0) →
      Q (-1) M))) ∧
   (¬ (V_Text_kind  M) = 20 →
    Q (-1) M))
theorem q_RepublicReader_readLiving {X : Option (List AI)} {N : Nat} {M : MM} {p1 : Int32} {p2 : Int32} {Q : Int32 → MM → Prop}  (h : W_RepublicReader_readLiving p1 p2 N M Q) : pM X N 81 0 (ea_ar 0 [.inr (.inl (some 43)), .inl (.inl p1), .inl (.inl p2)]) [] M (Ri Q) := by
  refine pM_w (F2 := [(0, .inr (.inl (some 43))), (1, .inl (.inl p1)), (2, .inl (.inl p2))]) (fun L hL => lo_cons (lo_lk hL rfl) (lo_cons (lo_lk hL rfl) (lo_cons (lo_lk hL rfl) lo_nil))) ?_
  refine pM_aln rfl rfl rfl ?_
  refine pM_gr rfl rfl rfl rfl ?_
  refine pM_qVi (as := [.inr (.inl (some 3))]) (T := []) rfl rfl (fun C hC => cl_v hC rfl rfl rfl rfl) rfl (q_Text_value ) ?_
  refine pM_isn rfl rfl ?_
  refine pM_aln rfl rfl rfl ?_
  refine pM_gr rfl rfl rfl rfl ?_
  refine pM_qVi (as := [.inr (.inl (some 3))]) (T := []) rfl rfl (fun C hC => cl_v hC rfl rfl rfl rfl) rfl (q_Text_kind ) ?_
  refine pM_bi rfl kb_20 ?_
  refine pM_cne rfl rfl (fun h1 => ?_) (fun h1 => ?_)
  · replace h := h.2 h1
    refine pM_ic rfl ki_m1 ?_
    exact pM_ri rfl (⟨_, rfl, h⟩)
  · replace h := h.1 h1
    refine pM_iln rfl rfl ?_
    refine pM_aln rfl rfl rfl ?_
    refine pM_gr rfl rfl rfl rfl ?_
    refine pM_gi rfl rfl rfl rfl ?_
    refine pM_cge rfl rfl (fun h2 => ?_) (fun h2 => ?_)
    · replace h := h.2 h2
      refine pM_ic rfl ki_m1 ?_
      exact pM_ri rfl (⟨_, rfl, h⟩)
    · replace h := h.1 h2
      refine pM_iln rfl rfl ?_
      refine pM_iln rfl rfl ?_
      refine pM_ceq rfl rfl (fun h3 => ?_) (fun h3 => ?_)
      · replace h := h.1 h3
        refine pM_ic rfl ki_m1 ?_
        exact pM_ri rfl (⟨_, rfl, h⟩)
      · replace h := h.2 h3
        refine pM_aln rfl rfl rfl ?_
        refine pM_gr rfl rfl rfl rfl ?_
        refine pM_iln rfl rfl ?_
        refine pM_qVi (as := [.inr (.inl (some 30)), .inl (.inl (V_Text_value  M))]) (T := []) rfl rfl (fun C hC => cl_v hC rfl rfl rfl rfl) rfl (q_World_isAlive isW_30) ?_
        refine pM_zeq rfl rfl (fun h4 => ?_) (fun h4 => ?_)
        · replace h := h.1 h4
          refine pM_ic rfl ki_m1 ?_
          exact pM_ri rfl (⟨_, rfl, h⟩)
        · replace h := h.2 h4
          refine pM_iln rfl rfl ?_
          refine pM_zeq rfl rfl (fun h5 => ?_) (fun h5 => ?_)
          · replace h := h.1 h5
            refine pM_aln rfl rfl rfl ?_
            refine pM_gr rfl rfl rfl rfl ?_
            refine pM_qRu (as := [.inr (.inl (some 3))]) (T := []) rfl rfl (fun C hC => cl_v hC rfl rfl rfl rfl) rfl (q_Text_goOn  h) (fun M7 h => ?_)
            refine pM_iln rfl rfl ?_
            exact pM_ri rfl (⟨_, rfl, h⟩)
          · replace h := h.2 h5
            refine pM_aln rfl rfl rfl ?_
            refine pM_gr rfl rfl rfl rfl ?_
            refine pM_gr rfl rfl rfl rfl ?_
            refine pM_iln rfl rfl ?_
            refine pM_ai rfl rfl (one_p _) ?_
            refine pM_ic rfl ki_m1 ?_
            refine pM_ceq rfl rfl (fun h8 => ?_) (fun h8 => ?_)
            · replace h := h.1 h8
              refine pM_aln rfl rfl rfl ?_
              refine pM_gr rfl rfl rfl rfl ?_
              refine pM_qRu (as := [.inr (.inl (some 3))]) (T := []) rfl rfl (fun C hC => cl_v hC rfl rfl rfl rfl) rfl (q_Text_goOn  h) (fun M10 h => ?_)
              refine pM_iln rfl rfl ?_
              exact pM_ri rfl (⟨_, rfl, h⟩)
            · replace h := h.2 h8
              refine pM_ic rfl ki_m1 ?_
              exact pM_ri rfl (⟨_, rfl, h⟩)
/-- 106: EarCode$World.marry(II)V -/
def W_World_marry (a : Nat) (p1 : Int32) (p2 : Int32) (N : Nat) (M : MM) (Q : MM → Prop) : Prop :=
  Q (wi (wi (wi (wi M (a + 4) (ni p1) p2) (a + 4) (ni p2) p1) (a + 1) (ni p1) (((wi (wi M (a + 4) (ni p1) p2) (a + 4) (ni p2) p1).1 (a + 1) (ni p1)) ||| ((wi (wi M (a + 4) (ni p1) p2) (a + 4) (ni p2) p1).1 (a + 1) (ni p2)))) (a + 1) (ni p2) ((wi (wi (wi M (a + 4) (ni p1) p2) (a + 4) (ni p2) p1) (a + 1) (ni p1) (((wi (wi M (a + 4) (ni p1) p2) (a + 4) (ni p2) p1).1 (a + 1) (ni p1)) ||| ((wi (wi M (a + 4) (ni p1) p2) (a + 4) (ni p2) p1).1 (a + 1) (ni p2)))).1 (a + 1) (ni p1)))
theorem q_World_marry {X : Option (List AI)} {N : Nat} {M : MM} {a : Nat} {p1 : Int32} {p2 : Int32} {Q : MM → Prop} (ha : isW a) (h : W_World_marry a p1 p2 N M Q) : pM X N 106 0 (ea_ar 0 [.inr (.inl (some a)), .inl (.inl p1), .inl (.inl p2)]) [] M (Ru Q) := by
  refine pM_w (F2 := [(0, .inr (.inl (some a))), (1, .inl (.inl p1)), (2, .inl (.inl p2))]) (fun L hL => lo_cons (lo_lk hL rfl) (lo_cons (lo_lk hL rfl) (lo_cons (lo_lk hL rfl) lo_nil))) ?_
  refine pM_aln rfl rfl rfl ?_
  refine pM_gr rfl rfl ha.1 rfl ?_
  refine pM_iln rfl rfl ?_
  refine pM_iln rfl rfl ?_
  refine pM_sa rfl ha.2.2.2.2.1 (one_p _) ?_
  refine pM_aln rfl rfl rfl ?_
  refine pM_gr rfl rfl ha.1 rfl ?_
  refine pM_iln rfl rfl ?_
  refine pM_iln rfl rfl ?_
  refine pM_sa rfl ha.2.2.2.2.1 (one_p _) ?_
  refine pM_aln rfl rfl rfl ?_
  refine pM_gr rfl rfl ha.1 rfl ?_
  refine pM_iln rfl rfl ?_
  refine pM_p (pc' := 20) (S' := [.inl (.inl p1), .inr (.inl (some (a + 1))), .inl (.inl p1), .inr (.inl (some (a + 1)))]) rfl rfl (fun _ => rfl) ?_
  refine pM_ai rfl ha.2.1 (one_p _) ?_
  refine pM_aln rfl rfl rfl ?_
  refine pM_gr rfl rfl ha.1 rfl ?_
  refine pM_iln rfl rfl ?_
  refine pM_ai rfl ha.2.1 (one_p _) ?_
  refine pM_or rfl ?_
  refine pM_sa rfl ha.2.1 (one_p _) ?_
  refine pM_aln rfl rfl rfl ?_
  refine pM_gr rfl rfl ha.1 rfl ?_
  refine pM_iln rfl rfl ?_
  refine pM_aln rfl rfl rfl ?_
  refine pM_gr rfl rfl ha.1 rfl ?_
  refine pM_iln rfl rfl ?_
  refine pM_ai rfl ha.2.1 (one_p _) ?_
  refine pM_sa rfl ha.2.1 (one_p _) ?_
  exact pM_ru rfl (⟨rfl, h⟩)
/-- 79: EarCode$RepublicReader.readWed()Z -/
def W_RepublicReader_readWed  (N : Nat) (M : MM) (Q : Int32 → MM → Prop) : Prop :=
  W_RepublicReader_readLiving 1 (-1) N M (fun r1 M2 =>
    ((r1 = (-1) →
      Q 0 M2) ∧
     (¬ r1 = (-1) →
      W_RepublicReader_readLiving 1 r1 N M2 (fun r4 M5 =>
        ((r4 = (-1) →
          Q 0 M5) ∧
         (¬ r4 = (-1) →
          W_World_marry 30 r1 r4 N M5 (fun M8 =>
            Q 1 M8)))))))
theorem q_RepublicReader_readWed {X : Option (List AI)} {N : Nat} {M : MM}  {Q : Int32 → MM → Prop}  (h : W_RepublicReader_readWed  N M Q) : pM X N 79 0 (ea_ar 0 [.inr (.inl (some 43))]) [] M (Ri Q) := by
  refine pM_w (F2 := [(0, .inr (.inl (some 43)))]) (fun L hL => lo_cons (lo_lk hL rfl) lo_nil) ?_
  refine pM_aln rfl rfl rfl ?_
  refine pM_ic rfl ki_1 ?_
  refine pM_ic rfl ki_m1 ?_
  refine pM_qRi (as := [.inr (.inl (some 43)), .inl (.inl 1), .inl (.inl (-1))]) (T := []) rfl rfl (fun C hC => cl_v hC rfl rfl rfl rfl) rfl (q_RepublicReader_readLiving  h) (fun r1 M2 h => ?_)
  refine pM_isn rfl rfl ?_
  refine pM_iln rfl rfl ?_
  refine pM_ic rfl ki_m1 ?_
  refine pM_cne rfl rfl (fun h3 => ?_) (fun h3 => ?_)
  · replace h := h.2 h3
    refine pM_aln rfl rfl rfl ?_
    refine pM_ic rfl ki_1 ?_
    refine pM_iln rfl rfl ?_
    refine pM_qRi (as := [.inr (.inl (some 43)), .inl (.inl 1), .inl (.inl r1)]) (T := []) rfl rfl (fun C hC => cl_v hC rfl rfl rfl rfl) rfl (q_RepublicReader_readLiving  h) (fun r4 M5 h => ?_)
    refine pM_isn rfl rfl ?_
    refine pM_iln rfl rfl ?_
    refine pM_ic rfl ki_m1 ?_
    refine pM_cne rfl rfl (fun h6 => ?_) (fun h6 => ?_)
    · replace h := h.2 h6
      refine pM_aln rfl rfl rfl ?_
      refine pM_gr rfl rfl rfl rfl ?_
      refine pM_iln rfl rfl ?_
      refine pM_iln rfl rfl ?_
      refine pM_qRu (as := [.inr (.inl (some 30)), .inl (.inl r1), .inl (.inl r4)]) (T := []) rfl rfl (fun C hC => cl_v hC rfl rfl rfl rfl) rfl (q_World_marry isW_30 h) (fun M8 h => ?_)
      refine pM_ic rfl ki_1 ?_
      exact pM_ri rfl (⟨_, rfl, h⟩)
    · replace h := h.1 h6
      refine pM_ic rfl ki_0 ?_
      exact pM_ri rfl (⟨_, rfl, h⟩)
  · replace h := h.1 h3
    refine pM_ic rfl ki_0 ?_
    exact pM_ri rfl (⟨_, rfl, h⟩)
/-- 80: EarCode$RepublicReader.readSeen()Z -/
def W_RepublicReader_readSeen  (N : Nat) (M : MM) (Q : Int32 → MM → Prop) : Prop :=
  W_RepublicReader_readLiving 0 (-1) N M (fun r1 M2 =>
    ((r1 = (-1) →
      Q 0 M2) ∧
     (¬ r1 = (-1) →
      W_RepublicReader_readMatter  N M2 (fun r4 M5 =>
        ((r4 = (-1) →
          Q 0 M5) ∧
         (¬ r4 = (-1) →
          Q 1 (wj M5 38 (ni r1) ((M5.2 38 (ni r1)) ||| (ll (Int64.ofNat 1) r4)))))))))
theorem q_RepublicReader_readSeen {X : Option (List AI)} {N : Nat} {M : MM}  {Q : Int32 → MM → Prop}  (h : W_RepublicReader_readSeen  N M Q) : pM X N 80 0 (ea_ar 0 [.inr (.inl (some 43))]) [] M (Ri Q) := by
  refine pM_w (F2 := [(0, .inr (.inl (some 43)))]) (fun L hL => lo_cons (lo_lk hL rfl) lo_nil) ?_
  refine pM_aln rfl rfl rfl ?_
  refine pM_ic rfl ki_0 ?_
  refine pM_ic rfl ki_m1 ?_
  refine pM_qRi (as := [.inr (.inl (some 43)), .inl (.inl 0), .inl (.inl (-1))]) (T := []) rfl rfl (fun C hC => cl_v hC rfl rfl rfl rfl) rfl (q_RepublicReader_readLiving  h) (fun r1 M2 h => ?_)
  refine pM_isn rfl rfl ?_
  refine pM_iln rfl rfl ?_
  refine pM_ic rfl ki_m1 ?_
  refine pM_cne rfl rfl (fun h3 => ?_) (fun h3 => ?_)
  · replace h := h.2 h3
    refine pM_aln rfl rfl rfl ?_
    refine pM_qRi (as := [.inr (.inl (some 43))]) (T := []) rfl rfl (fun C hC => cl_v hC rfl rfl rfl rfl) rfl (q_RepublicReader_readMatter  h) (fun r4 M5 h => ?_)
    refine pM_isn rfl rfl ?_
    refine pM_iln rfl rfl ?_
    refine pM_ic rfl ki_m1 ?_
    refine pM_cne rfl rfl (fun h6 => ?_) (fun h6 => ?_)
    · replace h := h.2 h6
      refine pM_aln rfl rfl rfl ?_
      refine pM_gr rfl rfl rfl rfl ?_
      refine pM_gr rfl rfl rfl rfl ?_
      refine pM_iln rfl rfl ?_
      refine pM_p (pc' := 35) (S' := [.inl (.inl r1), .inr (.inl (some 38)), .inl (.inl r1), .inr (.inl (some 38))]) rfl rfl (fun _ => rfl) ?_
      refine pM_la rfl rfl ?_
      refine pM_lc rfl ?_
      refine pM_iln rfl rfl ?_
      refine pM_p (pc' := 39) (S' := [.inr (.inr (.inl (some (ll (Int64.ofNat 1) r4)))), .inr (.inr (.inl (some (M5.2 38 (ni r1))))), .inl (.inl r1), .inr (.inl (some 38))]) rfl rfl (fun _ => rfl) ?_
      refine pM_p (pc' := 40) (S' := [.inr (.inr (.inl (some ((M5.2 38 (ni r1)) ||| (ll (Int64.ofNat 1) r4))))), .inl (.inl r1), .inr (.inl (some 38))]) rfl rfl (fun _ => rfl) ?_
      refine pM_sg rfl rfl ?_
      refine pM_ic rfl ki_1 ?_
      exact pM_ri rfl (⟨_, rfl, h⟩)
    · replace h := h.1 h6
      refine pM_ic rfl ki_0 ?_
      exact pM_ri rfl (⟨_, rfl, h⟩)
  · replace h := h.1 h3
    refine pM_ic rfl ki_0 ?_
    exact pM_ri rfl (⟨_, rfl, h⟩)
/-- 72: EarCode$RepublicReader.readLine()Z -/
def W_RepublicReader_readLine  (N : Nat) (M : MM) (Q : Int32 → MM → Prop) : Prop :=
  (((V_Text_kind  M) = 11 →
    (((M.1 30 0) < 10 →
      (((V_Text_kind  M) < 11 →
        Q 0 M) ∧
       (¬ (V_Text_kind  M) < 11 →
        ((19 < (V_Text_kind  M) →
          Q 0 M) ∧
         (¬ 19 < (V_Text_kind  M) →
          (((V_Text_kind  M) = 12 →
            Q 0 M) ∧
           (¬ (V_Text_kind  M) = 12 →
            (((V_Text_kind  M) = 13 →
              Q 0 M) ∧
             (¬ (V_Text_kind  M) = 13 →
              (((V_Text_kind  M) = 14 →
                Q 0 M) ∧
               (¬ (V_Text_kind  M) = 14 →
                W_Text_goOn  N M (fun M9 =>
                  (((V_Text_kind  M) = 11 →
                    W_RepublicReader_readCitizen  N M9 (fun r13 M14 =>
                      Q r13 M14)) ∧
                   ((V_Text_kind  M) = 15 →
                    W_RepublicReader_readWatch  N M9 (fun r15 M16 =>
                      Q r15 M16)) ∧
                   ((V_Text_kind  M) = 16 →
                    W_RepublicReader_readTerm  N M9 (fun r17 M18 =>
                      Q r17 M18)) ∧
                   ((V_Text_kind  M) = 17 →
                    W_RepublicReader_readHarm  N M9 (fun r19 M20 =>
                      Q r19 M20)) ∧
                   ((V_Text_kind  M) = 18 →
                    W_RepublicReader_readWed  N M9 (fun r21 M22 =>
                      Q r21 M22)) ∧
                   (¬ (V_Text_kind  M) = 11 → ¬ (V_Text_kind  M) = 15 → ¬ (V_Text_kind  M) = 16 → ¬ (V_Text_kind  M) = 17 → ¬ (V_Text_kind  M) = 18 → W_RepublicReader_readSeen  N M9 (fun r11 M12 =>
                    Q r11 M12))))))))))))))) ∧
     (¬ (M.1 30 0) < 10 →
      Q 0 M))) ∧
   (¬ (V_Text_kind  M) = 11 →
    (((V_Text_kind  M) < 11 →
      Q 0 M) ∧
     (¬ (V_Text_kind  M) < 11 →
      ((19 < (V_Text_kind  M) →
        Q 0 M) ∧
       (¬ 19 < (V_Text_kind  M) →
        (((V_Text_kind  M) = 12 →
          Q 0 M) ∧
         (¬ (V_Text_kind  M) = 12 →
          (((V_Text_kind  M) = 13 →
            Q 0 M) ∧
           (¬ (V_Text_kind  M) = 13 →
            (((V_Text_kind  M) = 14 →
              Q 0 M) ∧
             (¬ (V_Text_kind  M) = 14 →
              W_Text_goOn  N M (fun M29 =>
                (((V_Text_kind  M) = 11 →
                  W_RepublicReader_readCitizen  N M29 (fun r33 M34 =>
                    Q r33 M34)) ∧
                 ((V_Text_kind  M) = 15 →
                  W_RepublicReader_readWatch  N M29 (fun r35 M36 =>
                    Q r35 M36)) ∧
                 ((V_Text_kind  M) = 16 →
                  W_RepublicReader_readTerm  N M29 (fun r37 M38 =>
                    Q r37 M38)) ∧
                 ((V_Text_kind  M) = 17 →
                  W_RepublicReader_readHarm  N M29 (fun r39 M40 =>
                    Q r39 M40)) ∧
                 ((V_Text_kind  M) = 18 →
                  W_RepublicReader_readWed  N M29 (fun r41 M42 =>
                    Q r41 M42)) ∧
                 (¬ (V_Text_kind  M) = 11 → ¬ (V_Text_kind  M) = 15 → ¬ (V_Text_kind  M) = 16 → ¬ (V_Text_kind  M) = 17 → ¬ (V_Text_kind  M) = 18 → W_RepublicReader_readSeen  N M29 (fun r31 M32 =>
                  Q r31 M32))))))))))))))))
theorem q_RepublicReader_readLine {X : Option (List AI)} {N : Nat} {M : MM}  {Q : Int32 → MM → Prop}  (h : W_RepublicReader_readLine  N M Q) : pM X N 72 0 (ea_ar 0 [.inr (.inl (some 43))]) [] M (Ri Q) := by
  refine pM_w (F2 := [(0, .inr (.inl (some 43)))]) (fun L hL => lo_cons (lo_lk hL rfl) lo_nil) ?_
  refine pM_aln rfl rfl rfl ?_
  refine pM_gr rfl rfl rfl rfl ?_
  refine pM_qVi (as := [.inr (.inl (some 3))]) (T := []) rfl rfl (fun C hC => cl_v hC rfl rfl rfl rfl) rfl (q_Text_kind ) ?_
  refine pM_isn rfl rfl ?_
  refine pM_iln rfl rfl ?_
  refine pM_bi rfl kb_11 ?_
  refine pM_cne rfl rfl (fun h1 => ?_) (fun h1 => ?_)
  · replace h := h.2 h1
    refine pM_iln rfl rfl ?_
    refine pM_bi rfl kb_11 ?_
    refine pM_clt rfl rfl (fun h23 => ?_) (fun h23 => ?_)
    · replace h := h.1 h23
      refine pM_ic rfl ki_0 ?_
      exact pM_ri rfl (⟨_, rfl, h⟩)
    · replace h := h.2 h23
      refine pM_iln rfl rfl ?_
      refine pM_bi rfl kb_19 ?_
      refine pM_cgt rfl rfl (fun h24 => ?_) (fun h24 => ?_)
      · replace h := h.1 h24
        refine pM_ic rfl ki_0 ?_
        exact pM_ri rfl (⟨_, rfl, h⟩)
      · replace h := h.2 h24
        refine pM_iln rfl rfl ?_
        refine pM_bi rfl kb_12 ?_
        refine pM_ceq rfl rfl (fun h25 => ?_) (fun h25 => ?_)
        · replace h := h.1 h25
          refine pM_ic rfl ki_0 ?_
          exact pM_ri rfl (⟨_, rfl, h⟩)
        · replace h := h.2 h25
          refine pM_iln rfl rfl ?_
          refine pM_bi rfl kb_13 ?_
          refine pM_ceq rfl rfl (fun h26 => ?_) (fun h26 => ?_)
          · replace h := h.1 h26
            refine pM_ic rfl ki_0 ?_
            exact pM_ri rfl (⟨_, rfl, h⟩)
          · replace h := h.2 h26
            refine pM_iln rfl rfl ?_
            refine pM_bi rfl kb_14 ?_
            refine pM_cne rfl rfl (fun h27 => ?_) (fun h27 => ?_)
            · replace h := h.2 h27
              refine pM_aln rfl rfl rfl ?_
              refine pM_gr rfl rfl rfl rfl ?_
              refine pM_qRu (as := [.inr (.inl (some 3))]) (T := []) rfl rfl (fun C hC => cl_v hC rfl rfl rfl rfl) rfl (q_Text_goOn  h) (fun M29 h => ?_)
              refine pM_iln rfl rfl ?_
              refine pM_sw rfl rfl (fun h30 => ?_) (fun j o t h30 ho hto => ?_)
              · replace h := h.2.2.2.2.2 (sw_o h30 (by decide)) (sw_o h30 (by decide)) (sw_o h30 (by decide)) (sw_o h30 (by decide)) (sw_o h30 (by decide))
                refine pM_aln rfl rfl rfl ?_
                refine pM_qRi (as := [.inr (.inl (some 43))]) (T := []) rfl rfl (fun C hC => cl_v hC rfl rfl rfl rfl) rfl (q_RepublicReader_readSeen  h) (fun r31 M32 h => ?_)
                exact pM_ri rfl (⟨_, rfl, h⟩)
              · match j, h30, ho with
                | 0, h30, ho =>
                  have e := Option.some.inj ho
                  subst e
                  have e := Option.some.inj hto
                  subst e
                  replace h := h.1 (sw_e h30 (by decide))
                  refine pM_aln rfl rfl rfl ?_
                  refine pM_qRi (as := [.inr (.inl (some 43))]) (T := []) rfl rfl (fun C hC => cl_v hC rfl rfl rfl rfl) rfl (q_RepublicReader_readCitizen  h) (fun r33 M34 h => ?_)
                  exact pM_ri rfl (⟨_, rfl, h⟩)
                | 1, h30, ho =>
                  have e := Option.some.inj ho
                  subst e
                  have e := Option.some.inj hto
                  subst e
                  replace h := h.2.2.2.2.2 (sw_n h30 (by decide)) (sw_n h30 (by decide)) (sw_n h30 (by decide)) (sw_n h30 (by decide)) (sw_n h30 (by decide))
                  refine pM_aln rfl rfl rfl ?_
                  refine pM_qRi (as := [.inr (.inl (some 43))]) (T := []) rfl rfl (fun C hC => cl_v hC rfl rfl rfl rfl) rfl (q_RepublicReader_readSeen  h) (fun r31 M32 h => ?_)
                  exact pM_ri rfl (⟨_, rfl, h⟩)
                | 2, h30, ho =>
                  have e := Option.some.inj ho
                  subst e
                  have e := Option.some.inj hto
                  subst e
                  replace h := h.2.2.2.2.2 (sw_n h30 (by decide)) (sw_n h30 (by decide)) (sw_n h30 (by decide)) (sw_n h30 (by decide)) (sw_n h30 (by decide))
                  refine pM_aln rfl rfl rfl ?_
                  refine pM_qRi (as := [.inr (.inl (some 43))]) (T := []) rfl rfl (fun C hC => cl_v hC rfl rfl rfl rfl) rfl (q_RepublicReader_readSeen  h) (fun r31 M32 h => ?_)
                  exact pM_ri rfl (⟨_, rfl, h⟩)
                | 3, h30, ho =>
                  have e := Option.some.inj ho
                  subst e
                  have e := Option.some.inj hto
                  subst e
                  replace h := h.2.2.2.2.2 (sw_n h30 (by decide)) (sw_n h30 (by decide)) (sw_n h30 (by decide)) (sw_n h30 (by decide)) (sw_n h30 (by decide))
                  refine pM_aln rfl rfl rfl ?_
                  refine pM_qRi (as := [.inr (.inl (some 43))]) (T := []) rfl rfl (fun C hC => cl_v hC rfl rfl rfl rfl) rfl (q_RepublicReader_readSeen  h) (fun r31 M32 h => ?_)
                  exact pM_ri rfl (⟨_, rfl, h⟩)
                | 4, h30, ho =>
                  have e := Option.some.inj ho
                  subst e
                  have e := Option.some.inj hto
                  subst e
                  replace h := h.2.1 (sw_e h30 (by decide))
                  refine pM_aln rfl rfl rfl ?_
                  refine pM_qRi (as := [.inr (.inl (some 43))]) (T := []) rfl rfl (fun C hC => cl_v hC rfl rfl rfl rfl) rfl (q_RepublicReader_readWatch  h) (fun r35 M36 h => ?_)
                  exact pM_ri rfl (⟨_, rfl, h⟩)
                | 5, h30, ho =>
                  have e := Option.some.inj ho
                  subst e
                  have e := Option.some.inj hto
                  subst e
                  replace h := h.2.2.1 (sw_e h30 (by decide))
                  refine pM_aln rfl rfl rfl ?_
                  refine pM_qRi (as := [.inr (.inl (some 43))]) (T := []) rfl rfl (fun C hC => cl_v hC rfl rfl rfl rfl) rfl (q_RepublicReader_readTerm  h) (fun r37 M38 h => ?_)
                  exact pM_ri rfl (⟨_, rfl, h⟩)
                | 6, h30, ho =>
                  have e := Option.some.inj ho
                  subst e
                  have e := Option.some.inj hto
                  subst e
                  replace h := h.2.2.2.1 (sw_e h30 (by decide))
                  refine pM_aln rfl rfl rfl ?_
                  refine pM_qRi (as := [.inr (.inl (some 43))]) (T := []) rfl rfl (fun C hC => cl_v hC rfl rfl rfl rfl) rfl (q_RepublicReader_readHarm  h) (fun r39 M40 h => ?_)
                  exact pM_ri rfl (⟨_, rfl, h⟩)
                | 7, h30, ho =>
                  have e := Option.some.inj ho
                  subst e
                  have e := Option.some.inj hto
                  subst e
                  replace h := h.2.2.2.2.1 (sw_e h30 (by decide))
                  refine pM_aln rfl rfl rfl ?_
                  refine pM_qRi (as := [.inr (.inl (some 43))]) (T := []) rfl rfl (fun C hC => cl_v hC rfl rfl rfl rfl) rfl (q_RepublicReader_readWed  h) (fun r41 M42 h => ?_)
                  exact pM_ri rfl (⟨_, rfl, h⟩)
                | j + 8, _, ho => exact absurd ho (by simp)
            · replace h := h.1 h27
              refine pM_ic rfl ki_0 ?_
              exact pM_ri rfl (⟨_, rfl, h⟩)
  · replace h := h.1 h1
    refine pM_aln rfl rfl rfl ?_
    refine pM_gr rfl rfl rfl rfl ?_
    refine pM_gi rfl rfl rfl rfl ?_
    refine pM_bi rfl kb_10 ?_
    refine pM_clt rfl rfl (fun h2 => ?_) (fun h2 => ?_)
    · replace h := h.1 h2
      refine pM_iln rfl rfl ?_
      refine pM_bi rfl kb_11 ?_
      refine pM_clt rfl rfl (fun h3 => ?_) (fun h3 => ?_)
      · replace h := h.1 h3
        refine pM_ic rfl ki_0 ?_
        exact pM_ri rfl (⟨_, rfl, h⟩)
      · replace h := h.2 h3
        refine pM_iln rfl rfl ?_
        refine pM_bi rfl kb_19 ?_
        refine pM_cgt rfl rfl (fun h4 => ?_) (fun h4 => ?_)
        · replace h := h.1 h4
          refine pM_ic rfl ki_0 ?_
          exact pM_ri rfl (⟨_, rfl, h⟩)
        · replace h := h.2 h4
          refine pM_iln rfl rfl ?_
          refine pM_bi rfl kb_12 ?_
          refine pM_ceq rfl rfl (fun h5 => ?_) (fun h5 => ?_)
          · replace h := h.1 h5
            refine pM_ic rfl ki_0 ?_
            exact pM_ri rfl (⟨_, rfl, h⟩)
          · replace h := h.2 h5
            refine pM_iln rfl rfl ?_
            refine pM_bi rfl kb_13 ?_
            refine pM_ceq rfl rfl (fun h6 => ?_) (fun h6 => ?_)
            · replace h := h.1 h6
              refine pM_ic rfl ki_0 ?_
              exact pM_ri rfl (⟨_, rfl, h⟩)
            · replace h := h.2 h6
              refine pM_iln rfl rfl ?_
              refine pM_bi rfl kb_14 ?_
              refine pM_cne rfl rfl (fun h7 => ?_) (fun h7 => ?_)
              · replace h := h.2 h7
                refine pM_aln rfl rfl rfl ?_
                refine pM_gr rfl rfl rfl rfl ?_
                refine pM_qRu (as := [.inr (.inl (some 3))]) (T := []) rfl rfl (fun C hC => cl_v hC rfl rfl rfl rfl) rfl (q_Text_goOn  h) (fun M9 h => ?_)
                refine pM_iln rfl rfl ?_
                refine pM_sw rfl rfl (fun h10 => ?_) (fun j o t h10 ho hto => ?_)
                · replace h := h.2.2.2.2.2 (sw_o h10 (by decide)) (sw_o h10 (by decide)) (sw_o h10 (by decide)) (sw_o h10 (by decide)) (sw_o h10 (by decide))
                  refine pM_aln rfl rfl rfl ?_
                  refine pM_qRi (as := [.inr (.inl (some 43))]) (T := []) rfl rfl (fun C hC => cl_v hC rfl rfl rfl rfl) rfl (q_RepublicReader_readSeen  h) (fun r11 M12 h => ?_)
                  exact pM_ri rfl (⟨_, rfl, h⟩)
                · match j, h10, ho with
                  | 0, h10, ho =>
                    have e := Option.some.inj ho
                    subst e
                    have e := Option.some.inj hto
                    subst e
                    replace h := h.1 (sw_e h10 (by decide))
                    refine pM_aln rfl rfl rfl ?_
                    refine pM_qRi (as := [.inr (.inl (some 43))]) (T := []) rfl rfl (fun C hC => cl_v hC rfl rfl rfl rfl) rfl (q_RepublicReader_readCitizen  h) (fun r13 M14 h => ?_)
                    exact pM_ri rfl (⟨_, rfl, h⟩)
                  | 1, h10, ho =>
                    have e := Option.some.inj ho
                    subst e
                    have e := Option.some.inj hto
                    subst e
                    replace h := h.2.2.2.2.2 (sw_n h10 (by decide)) (sw_n h10 (by decide)) (sw_n h10 (by decide)) (sw_n h10 (by decide)) (sw_n h10 (by decide))
                    refine pM_aln rfl rfl rfl ?_
                    refine pM_qRi (as := [.inr (.inl (some 43))]) (T := []) rfl rfl (fun C hC => cl_v hC rfl rfl rfl rfl) rfl (q_RepublicReader_readSeen  h) (fun r11 M12 h => ?_)
                    exact pM_ri rfl (⟨_, rfl, h⟩)
                  | 2, h10, ho =>
                    have e := Option.some.inj ho
                    subst e
                    have e := Option.some.inj hto
                    subst e
                    replace h := h.2.2.2.2.2 (sw_n h10 (by decide)) (sw_n h10 (by decide)) (sw_n h10 (by decide)) (sw_n h10 (by decide)) (sw_n h10 (by decide))
                    refine pM_aln rfl rfl rfl ?_
                    refine pM_qRi (as := [.inr (.inl (some 43))]) (T := []) rfl rfl (fun C hC => cl_v hC rfl rfl rfl rfl) rfl (q_RepublicReader_readSeen  h) (fun r11 M12 h => ?_)
                    exact pM_ri rfl (⟨_, rfl, h⟩)
                  | 3, h10, ho =>
                    have e := Option.some.inj ho
                    subst e
                    have e := Option.some.inj hto
                    subst e
                    replace h := h.2.2.2.2.2 (sw_n h10 (by decide)) (sw_n h10 (by decide)) (sw_n h10 (by decide)) (sw_n h10 (by decide)) (sw_n h10 (by decide))
                    refine pM_aln rfl rfl rfl ?_
                    refine pM_qRi (as := [.inr (.inl (some 43))]) (T := []) rfl rfl (fun C hC => cl_v hC rfl rfl rfl rfl) rfl (q_RepublicReader_readSeen  h) (fun r11 M12 h => ?_)
                    exact pM_ri rfl (⟨_, rfl, h⟩)
                  | 4, h10, ho =>
                    have e := Option.some.inj ho
                    subst e
                    have e := Option.some.inj hto
                    subst e
                    replace h := h.2.1 (sw_e h10 (by decide))
                    refine pM_aln rfl rfl rfl ?_
                    refine pM_qRi (as := [.inr (.inl (some 43))]) (T := []) rfl rfl (fun C hC => cl_v hC rfl rfl rfl rfl) rfl (q_RepublicReader_readWatch  h) (fun r15 M16 h => ?_)
                    exact pM_ri rfl (⟨_, rfl, h⟩)
                  | 5, h10, ho =>
                    have e := Option.some.inj ho
                    subst e
                    have e := Option.some.inj hto
                    subst e
                    replace h := h.2.2.1 (sw_e h10 (by decide))
                    refine pM_aln rfl rfl rfl ?_
                    refine pM_qRi (as := [.inr (.inl (some 43))]) (T := []) rfl rfl (fun C hC => cl_v hC rfl rfl rfl rfl) rfl (q_RepublicReader_readTerm  h) (fun r17 M18 h => ?_)
                    exact pM_ri rfl (⟨_, rfl, h⟩)
                  | 6, h10, ho =>
                    have e := Option.some.inj ho
                    subst e
                    have e := Option.some.inj hto
                    subst e
                    replace h := h.2.2.2.1 (sw_e h10 (by decide))
                    refine pM_aln rfl rfl rfl ?_
                    refine pM_qRi (as := [.inr (.inl (some 43))]) (T := []) rfl rfl (fun C hC => cl_v hC rfl rfl rfl rfl) rfl (q_RepublicReader_readHarm  h) (fun r19 M20 h => ?_)
                    exact pM_ri rfl (⟨_, rfl, h⟩)
                  | 7, h10, ho =>
                    have e := Option.some.inj ho
                    subst e
                    have e := Option.some.inj hto
                    subst e
                    replace h := h.2.2.2.2.1 (sw_e h10 (by decide))
                    refine pM_aln rfl rfl rfl ?_
                    refine pM_qRi (as := [.inr (.inl (some 43))]) (T := []) rfl rfl (fun C hC => cl_v hC rfl rfl rfl rfl) rfl (q_RepublicReader_readWed  h) (fun r21 M22 h => ?_)
                    exact pM_ri rfl (⟨_, rfl, h⟩)
                  | j + 8, _, ho => exact absurd ho (by simp)
              · replace h := h.1 h7
                refine pM_ic rfl ki_0 ?_
                exact pM_ri rfl (⟨_, rfl, h⟩)
    · replace h := h.2 h2
      refine pM_ic rfl ki_0 ?_
      exact pM_ri rfl (⟨_, rfl, h⟩)
def B_RepublicReader_readAll_16 (Q : Int32 → MM → Prop) (N : Nat) (ih : Int32 → MM → Prop) (v1 : Int32) (M : MM) : Prop :=
  ((v1 < 14 →
    W_RepublicReader_readLine  N M (fun r3 M4 =>
      ((r3 = 0 →
        Q (V_Text_begin  M4) M4) ∧
       (¬ r3 = 0 →
        (((V_Text_kind  M4) = 21 →
          Q (-1) M4) ∧
         (¬ (V_Text_kind  M4) = 21 →
          (((V_Text_kind  M4) = 59 →
            W_Text_goOn  N M4 (fun M9 =>
              ih (v1 + 1) M9)) ∧
           (¬ (V_Text_kind  M4) = 59 →
            Q (V_Text_begin  M4) M4)))))))) ∧
   (¬ v1 < 14 →
    Q (V_Text_begin  M) M))
def W_RepublicReader_readAll_16 (Q : Int32 → MM → Prop) : Nat → Int32 → MM → Prop
  | 0, _, _ => True
  | N + 1, v1, M => B_RepublicReader_readAll_16 Q N (W_RepublicReader_readAll_16 Q N) v1 M
theorem I_RepublicReader_readAll_16 (Q : Int32 → MM → Prop) (inv : Int32 → MM → Prop) (hs : ∀ (N : Nat) (ih : Int32 → MM → Prop) (v1 : Int32) (M : MM), (∀ (v1 : Int32) (M : MM), inv v1 M → ih v1 M) → inv v1 M → B_RepublicReader_readAll_16 Q N ih v1 M) : ∀ (N : Nat) (v1 : Int32) (M : MM), inv v1 M → W_RepublicReader_readAll_16 Q N v1 M := by
  intro N
  induction N with
  | zero => intros; trivial
  | succ N IH =>
    intro v1 M h
    exact hs N _ v1 M IH h
theorem q_RepublicReader_readAll_16 {X : Option (List AI)} {N0 : Nat} {Q : Int32 → MM → Prop}   : ∀ (N : Nat), N ≤ N0 → ∀ (v1 : Int32) (M : MM), W_RepublicReader_readAll_16 Q N v1 M → pM X N 71 16 [(0, .inr (.inl (some 43))), (1, .inl (.inl v1))] [] M (Ri Q) := by
  intro N
  induction N with
  | zero => intros; exact pM_zero
  | succ N IH =>
    intro hN v1 M h
    replace hN := Nat.le_of_succ_le hN
    replace h : B_RepublicReader_readAll_16 Q N (W_RepublicReader_readAll_16 Q N) v1 M := h
    refine pM_s (pMs_iln rfl rfl ?_)
    refine pM_bi rfl kb_14 ?_
    refine pM_cge rfl rfl (fun h2 => ?_) (fun h2 => ?_)
    · replace h := h.2 h2
      refine pM_aln rfl rfl rfl ?_
      refine pM_gr rfl rfl rfl rfl ?_
      refine pM_qVi (as := [.inr (.inl (some 3))]) (T := []) rfl rfl (fun C hC => cl_v hC rfl rfl rfl rfl) rfl (q_Text_begin ) ?_
      exact pM_ri rfl (⟨_, rfl, h⟩)
    · replace h := h.1 h2
      refine pM_aln rfl rfl rfl ?_
      refine pM_qRi (as := [.inr (.inl (some 43))]) (T := []) rfl rfl (fun C hC => cl_v hC rfl rfl rfl rfl) rfl (q_RepublicReader_readLine  h) (fun r3 M4 h => ?_)
      refine pM_zne rfl rfl (fun h5 => ?_) (fun h5 => ?_)
      · replace h := h.2 h5
        refine pM_aln rfl rfl rfl ?_
        refine pM_gr rfl rfl rfl rfl ?_
        refine pM_qVi (as := [.inr (.inl (some 3))]) (T := []) rfl rfl (fun C hC => cl_v hC rfl rfl rfl rfl) rfl (q_Text_kind ) ?_
        refine pM_bi rfl kb_21 ?_
        refine pM_cne rfl rfl (fun h6 => ?_) (fun h6 => ?_)
        · replace h := h.2 h6
          refine pM_aln rfl rfl rfl ?_
          refine pM_gr rfl rfl rfl rfl ?_
          refine pM_qVi (as := [.inr (.inl (some 3))]) (T := []) rfl rfl (fun C hC => cl_v hC rfl rfl rfl rfl) rfl (q_Text_kind ) ?_
          refine pM_bi rfl kb_59 ?_
          refine pM_ceq rfl rfl (fun h7 => ?_) (fun h7 => ?_)
          · replace h := h.1 h7
            refine pM_aln rfl rfl rfl ?_
            refine pM_gr rfl rfl rfl rfl ?_
            refine pM_qRu (as := [.inr (.inl (some 3))]) (T := []) rfl rfl (fun C hC => cl_v hC rfl rfl rfl rfl) rfl (q_Text_goOn  h) (fun M9 h => ?_)
            refine pM_ii rfl rfl rfl ki_1 ?_
            refine pM_go rfl rfl ?_
            refine pM_w (F2 := [(0, .inr (.inl (some 43))), (1, .inl (.inl (v1 + 1)))]) (fun L hL => lo_cons (lo_lk hL rfl) (lo_cons (lo_lk hL rfl) lo_nil)) ?_
            exact IH hN (v1 + 1) M9 h
          · replace h := h.2 h7
            refine pM_aln rfl rfl rfl ?_
            refine pM_gr rfl rfl rfl rfl ?_
            refine pM_qVi (as := [.inr (.inl (some 3))]) (T := []) rfl rfl (fun C hC => cl_v hC rfl rfl rfl rfl) rfl (q_Text_begin ) ?_
            exact pM_ri rfl (⟨_, rfl, h⟩)
        · replace h := h.1 h6
          refine pM_ic rfl ki_m1 ?_
          exact pM_ri rfl (⟨_, rfl, h⟩)
      · replace h := h.1 h5
        refine pM_aln rfl rfl rfl ?_
        refine pM_gr rfl rfl rfl rfl ?_
        refine pM_qVi (as := [.inr (.inl (some 3))]) (T := []) rfl rfl (fun C hC => cl_v hC rfl rfl rfl rfl) rfl (q_Text_begin ) ?_
        exact pM_ri rfl (⟨_, rfl, h⟩)
/-- 71: EarCode$RepublicReader.readAll()I -/
def W_RepublicReader_readAll  (N : Nat) (M : MM) (Q : Int32 → MM → Prop) : Prop :=
  (((V_Text_kind  M) = 21 →
    Q (-1) M) ∧
   (¬ (V_Text_kind  M) = 21 →
    W_RepublicReader_readAll_16 Q N 0 M))
theorem q_RepublicReader_readAll {X : Option (List AI)} {N : Nat} {M : MM}  {Q : Int32 → MM → Prop}  (h : W_RepublicReader_readAll  N M Q) : pM X N 71 0 (ea_ar 0 [.inr (.inl (some 43))]) [] M (Ri Q) := by
  refine pM_w (F2 := [(0, .inr (.inl (some 43)))]) (fun L hL => lo_cons (lo_lk hL rfl) lo_nil) ?_
  refine pM_aln rfl rfl rfl ?_
  refine pM_gr rfl rfl rfl rfl ?_
  refine pM_qVi (as := [.inr (.inl (some 3))]) (T := []) rfl rfl (fun C hC => cl_v hC rfl rfl rfl rfl) rfl (q_Text_kind ) ?_
  refine pM_bi rfl kb_21 ?_
  refine pM_cne rfl rfl (fun h1 => ?_) (fun h1 => ?_)
  · replace h := h.2 h1
    refine pM_ic rfl ki_0 ?_
    refine pM_isn rfl rfl ?_
    refine pM_w (F2 := [(0, .inr (.inl (some 43))), (1, .inl (.inl 0))]) (fun L hL => lo_cons (lo_lk hL rfl) (lo_cons (lo_lk hL rfl) lo_nil)) ?_
    refine q_RepublicReader_readAll_16   N (Nat.le_refl N) 0 M h
  · replace h := h.1 h1
    refine pM_ic rfl ki_m1 ?_
    exact pM_ri rfl (⟨_, rfl, h⟩)
def B_Tape_add_18 (p1 : Int32) (Q : MM → Prop) (N : Nat) (ih : Int32 → MM → Prop) (v2 : Int32) (M : MM) : Prop :=
  ((v2 < 0 →
    Q M) ∧
   (¬ v2 < 0 →
    ih (v2 + (-8)) (wi (wi M 2 (ni (M.1 1 1)) ((su p1 v2) &&& 255)) 1 1 (((wi M 2 (ni (M.1 1 1)) ((su p1 v2) &&& 255)).1 1 1) + 1))))
def W_Tape_add_18 (p1 : Int32) (Q : MM → Prop) : Nat → Int32 → MM → Prop
  | 0, _, _ => True
  | N + 1, v2, M => B_Tape_add_18 p1 Q N (W_Tape_add_18 p1 Q N) v2 M
theorem I_Tape_add_18 (p1 : Int32) (Q : MM → Prop) (inv : Int32 → MM → Prop) (hs : ∀ (N : Nat) (ih : Int32 → MM → Prop) (v2 : Int32) (M : MM), (∀ (v2 : Int32) (M : MM), inv v2 M → ih v2 M) → inv v2 M → B_Tape_add_18 p1 Q N ih v2 M) : ∀ (N : Nat) (v2 : Int32) (M : MM), inv v2 M → W_Tape_add_18 p1 Q N v2 M := by
  intro N
  induction N with
  | zero => intros; trivial
  | succ N IH =>
    intro v2 M h
    exact hs N _ v2 M IH h
theorem q_Tape_add_18 {X : Option (List AI)} {N0 : Nat} {p1 : Int32} {Q : MM → Prop}   : ∀ (N : Nat), N ≤ N0 → ∀ (v2 : Int32) (M : MM), W_Tape_add_18 p1 Q N v2 M → pM X N 84 18 [(0, .inr (.inl (some 1))), (1, .inl (.inl p1)), (2, .inl (.inl v2))] [] M (Ru Q) := by
  intro N
  induction N with
  | zero => intros; exact pM_zero
  | succ N IH =>
    intro hN v2 M h
    replace hN := Nat.le_of_succ_le hN
    replace h : B_Tape_add_18 p1 Q N (W_Tape_add_18 p1 Q N) v2 M := h
    refine pM_s (pMs_iln rfl rfl ?_)
    refine pM_zlt rfl rfl (fun h2 => ?_) (fun h2 => ?_)
    · replace h := h.1 h2
      exact pM_ru rfl (⟨rfl, h⟩)
    · replace h := h.2 h2
      refine pM_aln rfl rfl rfl ?_
      refine pM_gr rfl rfl rfl rfl ?_
      refine pM_aln rfl rfl rfl ?_
      refine pM_gi rfl rfl rfl rfl ?_
      refine pM_iln rfl rfl ?_
      refine pM_iln rfl rfl ?_
      refine pM_ushr rfl ?_
      refine pM_si rfl ks_255 ?_
      refine pM_and rfl ?_
      refine pM_sa rfl rfl (one_p _) ?_
      refine pM_aln rfl rfl rfl ?_
      refine pM_p (pc' := 40) (S' := [.inr (.inl (some 1)), .inr (.inl (some 1))]) rfl rfl (fun _ => rfl) ?_
      refine pM_gi rfl rfl rfl rfl ?_
      refine pM_ic rfl ki_1 ?_
      refine pM_add rfl ?_
      refine pM_pi rfl rfl rfl rfl ?_
      refine pM_ii rfl rfl rfl ki_m8 ?_
      refine pM_go rfl rfl ?_
      refine pM_w (F2 := [(0, .inr (.inl (some 1))), (1, .inl (.inl p1)), (2, .inl (.inl (v2 + (-8))))]) (fun L hL => lo_cons (lo_lk hL rfl) (lo_cons (lo_lk hL rfl) (lo_cons (lo_lk hL rfl) lo_nil))) ?_
      exact IH hN (v2 + (-8)) (wi (wi M 2 (ni (M.1 1 1)) ((su p1 v2) &&& 255)) 1 1 (((wi M 2 (ni (M.1 1 1)) ((su p1 v2) &&& 255)).1 1 1) + 1)) h
/-- 84: EarCode$Tape.add(I)V -/
def W_Tape_add (p1 : Int32) (N : Nat) (M : MM) (Q : MM → Prop) : Prop :=
  ((400 < ((M.1 1 1) + 4) →
    Q M) ∧
   (¬ 400 < ((M.1 1 1) + 4) →
    W_Tape_add_18 p1 Q N 24 M))
theorem q_Tape_add {X : Option (List AI)} {N : Nat} {M : MM} {p1 : Int32} {Q : MM → Prop}  (h : W_Tape_add p1 N M Q) : pM X N 84 0 (ea_ar 0 [.inr (.inl (some 1)), .inl (.inl p1)]) [] M (Ru Q) := by
  refine pM_w (F2 := [(0, .inr (.inl (some 1))), (1, .inl (.inl p1))]) (fun L hL => lo_cons (lo_lk hL rfl) (lo_cons (lo_lk hL rfl) lo_nil)) ?_
  refine pM_aln rfl rfl rfl ?_
  refine pM_gi rfl rfl rfl rfl ?_
  refine pM_ic rfl ki_4 ?_
  refine pM_add rfl ?_
  refine pM_aln rfl rfl rfl ?_
  refine pM_gr rfl rfl rfl rfl ?_
  refine pM_len rfl rfl kn_400 ?_
  refine pM_cle rfl rfl (fun h1 => ?_) (fun h1 => ?_)
  · replace h := h.2 h1
    refine pM_bi rfl kb_24 ?_
    refine pM_isn rfl rfl ?_
    refine pM_w (F2 := [(0, .inr (.inl (some 1))), (1, .inl (.inl p1)), (2, .inl (.inl 24))]) (fun L hL => lo_cons (lo_lk hL rfl) (lo_cons (lo_lk hL rfl) (lo_cons (lo_lk hL rfl) lo_nil))) ?_
    refine q_Tape_add_18   N (Nat.le_refl N) 24 M h
  · replace h := h.1 h1
    exact pM_ru rfl (⟨rfl, h⟩)
/-- 85: EarCode$Tape.isLetter(I)Z -/
def V_Tape_isLetter (p1 : Int32) (M : MM) : Int32 :=
  (if p1 < 0 then
    0
  else
    (if p1 < (M.1 1 1) then
      (if (M.1 2 (ni p1)) < 97 then
        0
      else
        (if 122 < (M.1 2 (ni p1)) then
          0
        else
          1))
    else
      0))
theorem q_Tape_isLetter {X : Option (List AI)} {N : Nat} {M : MM} {p1 : Int32}  : pM X N 85 0 (ea_ar 0 [.inr (.inl (some 1)), .inl (.inl p1)]) [] M (Vi (V_Tape_isLetter p1 M) M) := by
  refine pM_w (F2 := [(0, .inr (.inl (some 1))), (1, .inl (.inl p1))]) (fun L hL => lo_cons (lo_lk hL rfl) (lo_cons (lo_lk hL rfl) lo_nil)) ?_
  refine pM_iln rfl rfl ?_
  refine pM_zlt rfl rfl (fun h1 => ?_) (fun h1 => ?_)
  · refine pM_ic rfl ki_0 ?_
    exact pM_rVi rfl (Eq.trans (if_pos h1) rfl)
  · refine pM_iln rfl rfl ?_
    refine pM_aln rfl rfl rfl ?_
    refine pM_gi rfl rfl rfl rfl ?_
    refine pM_cge rfl rfl (fun h2 => ?_) (fun h2 => ?_)
    · refine pM_ic rfl ki_0 ?_
      exact pM_rVi rfl (Eq.trans (if_neg h1) (Eq.trans (if_neg h2) rfl))
    · refine pM_aln rfl rfl rfl ?_
      refine pM_gr rfl rfl rfl rfl ?_
      refine pM_iln rfl rfl ?_
      refine pM_ai rfl rfl (one_p _) ?_
      refine pM_bi rfl kb_97 ?_
      refine pM_clt rfl rfl (fun h3 => ?_) (fun h3 => ?_)
      · refine pM_ic rfl ki_0 ?_
        exact pM_rVi rfl (Eq.trans (if_neg h1) (Eq.trans (if_pos h2) (Eq.trans (if_pos h3) rfl)))
      · refine pM_aln rfl rfl rfl ?_
        refine pM_gr rfl rfl rfl rfl ?_
        refine pM_iln rfl rfl ?_
        refine pM_ai rfl rfl (one_p _) ?_
        refine pM_bi rfl kb_122 ?_
        refine pM_cgt rfl rfl (fun h4 => ?_) (fun h4 => ?_)
        · refine pM_ic rfl ki_0 ?_
          exact pM_rVi rfl (Eq.trans (if_neg h1) (Eq.trans (if_pos h2) (Eq.trans (if_neg h3) (Eq.trans (if_pos h4) rfl))))
        · refine pM_ic rfl ki_1 ?_
          refine pM_go rfl rfl ?_
          exact pM_rVi rfl (Eq.trans (if_neg h1) (Eq.trans (if_pos h2) (Eq.trans (if_neg h3) (Eq.trans (if_neg h4) rfl))))
/-- 86: EarCode$Tape.isDigit(I)Z -/
def V_Tape_isDigit (p1 : Int32) (M : MM) : Int32 :=
  (if p1 < 0 then
    0
  else
    (if p1 < (M.1 1 1) then
      (if (M.1 2 (ni p1)) < 48 then
        0
      else
        (if 57 < (M.1 2 (ni p1)) then
          0
        else
          1))
    else
      0))
theorem q_Tape_isDigit {X : Option (List AI)} {N : Nat} {M : MM} {p1 : Int32}  : pM X N 86 0 (ea_ar 0 [.inr (.inl (some 1)), .inl (.inl p1)]) [] M (Vi (V_Tape_isDigit p1 M) M) := by
  refine pM_w (F2 := [(0, .inr (.inl (some 1))), (1, .inl (.inl p1))]) (fun L hL => lo_cons (lo_lk hL rfl) (lo_cons (lo_lk hL rfl) lo_nil)) ?_
  refine pM_iln rfl rfl ?_
  refine pM_zlt rfl rfl (fun h1 => ?_) (fun h1 => ?_)
  · refine pM_ic rfl ki_0 ?_
    exact pM_rVi rfl (Eq.trans (if_pos h1) rfl)
  · refine pM_iln rfl rfl ?_
    refine pM_aln rfl rfl rfl ?_
    refine pM_gi rfl rfl rfl rfl ?_
    refine pM_cge rfl rfl (fun h2 => ?_) (fun h2 => ?_)
    · refine pM_ic rfl ki_0 ?_
      exact pM_rVi rfl (Eq.trans (if_neg h1) (Eq.trans (if_neg h2) rfl))
    · refine pM_aln rfl rfl rfl ?_
      refine pM_gr rfl rfl rfl rfl ?_
      refine pM_iln rfl rfl ?_
      refine pM_ai rfl rfl (one_p _) ?_
      refine pM_bi rfl kb_48 ?_
      refine pM_clt rfl rfl (fun h3 => ?_) (fun h3 => ?_)
      · refine pM_ic rfl ki_0 ?_
        exact pM_rVi rfl (Eq.trans (if_neg h1) (Eq.trans (if_pos h2) (Eq.trans (if_pos h3) rfl)))
      · refine pM_aln rfl rfl rfl ?_
        refine pM_gr rfl rfl rfl rfl ?_
        refine pM_iln rfl rfl ?_
        refine pM_ai rfl rfl (one_p _) ?_
        refine pM_bi rfl kb_57 ?_
        refine pM_cgt rfl rfl (fun h4 => ?_) (fun h4 => ?_)
        · refine pM_ic rfl ki_0 ?_
          exact pM_rVi rfl (Eq.trans (if_neg h1) (Eq.trans (if_pos h2) (Eq.trans (if_neg h3) (Eq.trans (if_pos h4) rfl))))
        · refine pM_ic rfl ki_1 ?_
          refine pM_go rfl rfl ?_
          exact pM_rVi rfl (Eq.trans (if_neg h1) (Eq.trans (if_pos h2) (Eq.trans (if_neg h3) (Eq.trans (if_neg h4) rfl))))
/-- 89: EarCode$Text.put(IIII)V -/
def W_Text_put (p1 : Int32) (p2 : Int32) (p3 : Int32) (p4 : Int32) (N : Nat) (M : MM) (Q : MM → Prop) : Prop :=
  (((M.1 3 4) < 401 →
    Q (wi (wi (wi (wi (wi M 4 (ni (M.1 3 4)) p1) 5 (ni ((wi M 4 (ni (M.1 3 4)) p1).1 3 4)) p2) 6 (ni ((wi (wi M 4 (ni (M.1 3 4)) p1) 5 (ni ((wi M 4 (ni (M.1 3 4)) p1).1 3 4)) p2).1 3 4)) (p3 - p2)) 7 (ni ((wi (wi (wi M 4 (ni (M.1 3 4)) p1) 5 (ni ((wi M 4 (ni (M.1 3 4)) p1).1 3 4)) p2) 6 (ni ((wi (wi M 4 (ni (M.1 3 4)) p1) 5 (ni ((wi M 4 (ni (M.1 3 4)) p1).1 3 4)) p2).1 3 4)) (p3 - p2)).1 3 4)) p4) 3 4 (((wi (wi (wi (wi M 4 (ni (M.1 3 4)) p1) 5 (ni ((wi M 4 (ni (M.1 3 4)) p1).1 3 4)) p2) 6 (ni ((wi (wi M 4 (ni (M.1 3 4)) p1) 5 (ni ((wi M 4 (ni (M.1 3 4)) p1).1 3 4)) p2).1 3 4)) (p3 - p2)) 7 (ni ((wi (wi (wi M 4 (ni (M.1 3 4)) p1) 5 (ni ((wi M 4 (ni (M.1 3 4)) p1).1 3 4)) p2) 6 (ni ((wi (wi M 4 (ni (M.1 3 4)) p1) 5 (ni ((wi M 4 (ni (M.1 3 4)) p1).1 3 4)) p2).1 3 4)) (p3 - p2)).1 3 4)) p4).1 3 4) + 1))) ∧
   (¬ (M.1 3 4) < 401 →
    Q M))
theorem q_Text_put {X : Option (List AI)} {N : Nat} {M : MM} {p1 : Int32} {p2 : Int32} {p3 : Int32} {p4 : Int32} {Q : MM → Prop}  (h : W_Text_put p1 p2 p3 p4 N M Q) : pM X N 89 0 (ea_ar 0 [.inr (.inl (some 3)), .inl (.inl p1), .inl (.inl p2), .inl (.inl p3), .inl (.inl p4)]) [] M (Ru Q) := by
  refine pM_w (F2 := [(0, .inr (.inl (some 3))), (1, .inl (.inl p1)), (2, .inl (.inl p2)), (3, .inl (.inl p3)), (4, .inl (.inl p4))]) (fun L hL => lo_cons (lo_lk hL rfl) (lo_cons (lo_lk hL rfl) (lo_cons (lo_lk hL rfl) (lo_cons (lo_lk hL rfl) (lo_cons (lo_lk hL rfl) lo_nil))))) ?_
  refine pM_aln rfl rfl rfl ?_
  refine pM_gi rfl rfl rfl rfl ?_
  refine pM_aln rfl rfl rfl ?_
  refine pM_gr rfl rfl rfl rfl ?_
  refine pM_len rfl rfl kn_401 ?_
  refine pM_clt rfl rfl (fun h1 => ?_) (fun h1 => ?_)
  · replace h := h.1 h1
    refine pM_aln rfl rfl rfl ?_
    refine pM_gr rfl rfl rfl rfl ?_
    refine pM_aln rfl rfl rfl ?_
    refine pM_gi rfl rfl rfl rfl ?_
    refine pM_iln rfl rfl ?_
    refine pM_sa rfl rfl (one_p _) ?_
    refine pM_aln rfl rfl rfl ?_
    refine pM_gr rfl rfl rfl rfl ?_
    refine pM_aln rfl rfl rfl ?_
    refine pM_gi rfl rfl rfl rfl ?_
    refine pM_iln rfl rfl ?_
    refine pM_sa rfl rfl (one_p _) ?_
    refine pM_aln rfl rfl rfl ?_
    refine pM_gr rfl rfl rfl rfl ?_
    refine pM_aln rfl rfl rfl ?_
    refine pM_gi rfl rfl rfl rfl ?_
    refine pM_iln rfl rfl ?_
    refine pM_iln rfl rfl ?_
    refine pM_sub rfl ?_
    refine pM_sa rfl rfl (one_p _) ?_
    refine pM_aln rfl rfl rfl ?_
    refine pM_gr rfl rfl rfl rfl ?_
    refine pM_aln rfl rfl rfl ?_
    refine pM_gi rfl rfl rfl rfl ?_
    refine pM_il rfl rfl ?_
    refine pM_sa rfl rfl (one_p _) ?_
    refine pM_aln rfl rfl rfl ?_
    refine pM_p (pc' := 58) (S' := [.inr (.inl (some 3)), .inr (.inl (some 3))]) rfl rfl (fun _ => rfl) ?_
    refine pM_gi rfl rfl rfl rfl ?_
    refine pM_ic rfl ki_1 ?_
    refine pM_add rfl ?_
    refine pM_pi rfl rfl rfl rfl ?_
    exact pM_ru rfl (⟨rfl, h⟩)
  · replace h := h.2 h1
    exact pM_ru rfl (⟨rfl, h⟩)
def B_Text_endOfWord_4 (p1 : Int32) (M : MM) (Q : Int32 → Prop) (N : Nat) (ih : Int32 → Prop) (v2 : Int32) : Prop :=
  ((v2 < (M.1 1 1) →
    (((V_Tape_isLetter v2 M) = 0 →
      Q v2) ∧
     (¬ (V_Tape_isLetter v2 M) = 0 →
      ih (v2 + 1)))) ∧
   (¬ v2 < (M.1 1 1) →
    Q v2))
def W_Text_endOfWord_4 (p1 : Int32) (M : MM) (Q : Int32 → Prop) : Nat → Int32 → Prop
  | 0, _ => True
  | N + 1, v2 => B_Text_endOfWord_4 p1 M Q N (W_Text_endOfWord_4 p1 M Q N) v2
theorem I_Text_endOfWord_4 (p1 : Int32) (M : MM) (Q : Int32 → Prop) (inv : Int32 → Prop) (hs : ∀ (N : Nat) (ih : Int32 → Prop) (v2 : Int32), (∀ (v2 : Int32), inv v2 → ih v2) → inv v2 → B_Text_endOfWord_4 p1 M Q N ih v2) : ∀ (N : Nat) (v2 : Int32), inv v2 → W_Text_endOfWord_4 p1 M Q N v2 := by
  intro N
  induction N with
  | zero => intros; trivial
  | succ N IH =>
    intro v2 h
    exact hs N _ v2 IH h
theorem q_Text_endOfWord_4 {X : Option (List AI)} {N0 : Nat} {p1 : Int32} {M : MM} {Q : Int32 → Prop}   : ∀ (N : Nat), N ≤ N0 → ∀ (v2 : Int32), W_Text_endOfWord_4 p1 M Q N v2 → pM X N 90 4 [(0, .inr (.inl (some 1))), (2, .inl (.inl v2))] [] M (Pi Q M) := by
  intro N
  induction N with
  | zero => intros; exact pM_zero
  | succ N IH =>
    intro hN v2 h
    replace hN := Nat.le_of_succ_le hN
    replace h : B_Text_endOfWord_4 p1 M Q N (W_Text_endOfWord_4 p1 M Q N) v2 := h
    refine pM_s (pMs_iln rfl rfl ?_)
    refine pM_aln rfl rfl rfl ?_
    refine pM_gi rfl rfl rfl rfl ?_
    refine pM_cge rfl rfl (fun h1 => ?_) (fun h1 => ?_)
    · replace h := h.2 h1
      refine pM_iln rfl rfl ?_
      exact pM_ri rfl (⟨_, rfl, rfl, h⟩)
    · replace h := h.1 h1
      refine pM_aln rfl rfl rfl ?_
      refine pM_iln rfl rfl ?_
      refine pM_qVi (as := [.inr (.inl (some 1)), .inl (.inl v2)]) (T := []) rfl rfl (fun C hC => cl_v hC rfl rfl rfl rfl) rfl (q_Tape_isLetter ) ?_
      refine pM_zeq rfl rfl (fun h2 => ?_) (fun h2 => ?_)
      · replace h := h.1 h2
        refine pM_iln rfl rfl ?_
        exact pM_ri rfl (⟨_, rfl, rfl, h⟩)
      · replace h := h.2 h2
        refine pM_ii rfl rfl rfl ki_1 ?_
        refine pM_go rfl rfl ?_
        refine pM_w (F2 := [(0, .inr (.inl (some 1))), (2, .inl (.inl (v2 + 1)))]) (fun L hL => lo_cons (lo_lk hL rfl) (lo_cons (lo_lk hL rfl) lo_nil)) ?_
        exact IH hN (v2 + 1) h
/-- 90: EarCode$Text.endOfWord(LEarCode$Tape;I)I -/
def W_Text_endOfWord (p1 : Int32) (N : Nat) (M : MM) (Q : Int32 → Prop) : Prop :=
  W_Text_endOfWord_4 p1 M Q N (p1 + 1)
theorem q_Text_endOfWord {X : Option (List AI)} {N : Nat} {M : MM} {p1 : Int32} {Q : Int32 → Prop}  (h : W_Text_endOfWord p1 N M Q) : pM X N 90 0 (ea_ar 0 [.inr (.inl (some 1)), .inl (.inl p1)]) [] M (Pi Q M) := by
  refine pM_w (F2 := [(0, .inr (.inl (some 1))), (1, .inl (.inl p1))]) (fun L hL => lo_cons (lo_lk hL rfl) (lo_cons (lo_lk hL rfl) lo_nil)) ?_
  refine pM_iln rfl rfl ?_
  refine pM_ic rfl ki_1 ?_
  refine pM_add rfl ?_
  refine pM_isn rfl rfl ?_
  refine pM_w (F2 := [(0, .inr (.inl (some 1))), (2, .inl (.inl (p1 + 1)))]) (fun L hL => lo_cons (lo_lk hL rfl) (lo_cons (lo_lk hL rfl) lo_nil)) ?_
  refine q_Text_endOfWord_4   N (Nat.le_refl N) (p1 + 1) h
def B_Text_endOfNumber_4 (p1 : Int32) (M : MM) (Q : Int32 → Prop) (N : Nat) (ih : Int32 → Prop) (v2 : Int32) : Prop :=
  ((v2 < (M.1 1 1) →
    (((V_Tape_isDigit v2 M) = 0 →
      Q v2) ∧
     (¬ (V_Tape_isDigit v2 M) = 0 →
      ih (v2 + 1)))) ∧
   (¬ v2 < (M.1 1 1) →
    Q v2))
def W_Text_endOfNumber_4 (p1 : Int32) (M : MM) (Q : Int32 → Prop) : Nat → Int32 → Prop
  | 0, _ => True
  | N + 1, v2 => B_Text_endOfNumber_4 p1 M Q N (W_Text_endOfNumber_4 p1 M Q N) v2
theorem I_Text_endOfNumber_4 (p1 : Int32) (M : MM) (Q : Int32 → Prop) (inv : Int32 → Prop) (hs : ∀ (N : Nat) (ih : Int32 → Prop) (v2 : Int32), (∀ (v2 : Int32), inv v2 → ih v2) → inv v2 → B_Text_endOfNumber_4 p1 M Q N ih v2) : ∀ (N : Nat) (v2 : Int32), inv v2 → W_Text_endOfNumber_4 p1 M Q N v2 := by
  intro N
  induction N with
  | zero => intros; trivial
  | succ N IH =>
    intro v2 h
    exact hs N _ v2 IH h
theorem q_Text_endOfNumber_4 {X : Option (List AI)} {N0 : Nat} {p1 : Int32} {M : MM} {Q : Int32 → Prop}   : ∀ (N : Nat), N ≤ N0 → ∀ (v2 : Int32), W_Text_endOfNumber_4 p1 M Q N v2 → pM X N 91 4 [(0, .inr (.inl (some 1))), (2, .inl (.inl v2))] [] M (Pi Q M) := by
  intro N
  induction N with
  | zero => intros; exact pM_zero
  | succ N IH =>
    intro hN v2 h
    replace hN := Nat.le_of_succ_le hN
    replace h : B_Text_endOfNumber_4 p1 M Q N (W_Text_endOfNumber_4 p1 M Q N) v2 := h
    refine pM_s (pMs_iln rfl rfl ?_)
    refine pM_aln rfl rfl rfl ?_
    refine pM_gi rfl rfl rfl rfl ?_
    refine pM_cge rfl rfl (fun h1 => ?_) (fun h1 => ?_)
    · replace h := h.2 h1
      refine pM_iln rfl rfl ?_
      exact pM_ri rfl (⟨_, rfl, rfl, h⟩)
    · replace h := h.1 h1
      refine pM_aln rfl rfl rfl ?_
      refine pM_iln rfl rfl ?_
      refine pM_qVi (as := [.inr (.inl (some 1)), .inl (.inl v2)]) (T := []) rfl rfl (fun C hC => cl_v hC rfl rfl rfl rfl) rfl (q_Tape_isDigit ) ?_
      refine pM_zeq rfl rfl (fun h2 => ?_) (fun h2 => ?_)
      · replace h := h.1 h2
        refine pM_iln rfl rfl ?_
        exact pM_ri rfl (⟨_, rfl, rfl, h⟩)
      · replace h := h.2 h2
        refine pM_ii rfl rfl rfl ki_1 ?_
        refine pM_go rfl rfl ?_
        refine pM_w (F2 := [(0, .inr (.inl (some 1))), (2, .inl (.inl (v2 + 1)))]) (fun L hL => lo_cons (lo_lk hL rfl) (lo_cons (lo_lk hL rfl) lo_nil)) ?_
        exact IH hN (v2 + 1) h
/-- 91: EarCode$Text.endOfNumber(LEarCode$Tape;I)I -/
def W_Text_endOfNumber (p1 : Int32) (N : Nat) (M : MM) (Q : Int32 → Prop) : Prop :=
  W_Text_endOfNumber_4 p1 M Q N (p1 + 1)
theorem q_Text_endOfNumber {X : Option (List AI)} {N : Nat} {M : MM} {p1 : Int32} {Q : Int32 → Prop}  (h : W_Text_endOfNumber p1 N M Q) : pM X N 91 0 (ea_ar 0 [.inr (.inl (some 1)), .inl (.inl p1)]) [] M (Pi Q M) := by
  refine pM_w (F2 := [(0, .inr (.inl (some 1))), (1, .inl (.inl p1))]) (fun L hL => lo_cons (lo_lk hL rfl) (lo_cons (lo_lk hL rfl) lo_nil)) ?_
  refine pM_iln rfl rfl ?_
  refine pM_ic rfl ki_1 ?_
  refine pM_add rfl ?_
  refine pM_isn rfl rfl ?_
  refine pM_w (F2 := [(0, .inr (.inl (some 1))), (2, .inl (.inl (p1 + 1)))]) (fun L hL => lo_cons (lo_lk hL rfl) (lo_cons (lo_lk hL rfl) lo_nil)) ?_
  refine q_Text_endOfNumber_4   N (Nat.le_refl N) (p1 + 1) h
def B_Text_valueOf_16 (p1 : Int32) (p2 : Int32) (M : MM) (Q : Int32 → Prop) (N : Nat) (ih : Int32 → Int32 → Prop) (v3 : Int32) (v4 : Int32) : Prop :=
  ((v4 < p2 →
    ih (((v3 * 10) + (M.1 2 (ni v4))) - 48) (v4 + 1)) ∧
   (¬ v4 < p2 →
    Q v3))
def W_Text_valueOf_16 (p1 : Int32) (p2 : Int32) (M : MM) (Q : Int32 → Prop) : Nat → Int32 → Int32 → Prop
  | 0, _, _ => True
  | N + 1, v3, v4 => B_Text_valueOf_16 p1 p2 M Q N (W_Text_valueOf_16 p1 p2 M Q N) v3 v4
theorem I_Text_valueOf_16 (p1 : Int32) (p2 : Int32) (M : MM) (Q : Int32 → Prop) (inv : Int32 → Int32 → Prop) (hs : ∀ (N : Nat) (ih : Int32 → Int32 → Prop) (v3 : Int32) (v4 : Int32), (∀ (v3 : Int32) (v4 : Int32), inv v3 v4 → ih v3 v4) → inv v3 v4 → B_Text_valueOf_16 p1 p2 M Q N ih v3 v4) : ∀ (N : Nat) (v3 : Int32) (v4 : Int32), inv v3 v4 → W_Text_valueOf_16 p1 p2 M Q N v3 v4 := by
  intro N
  induction N with
  | zero => intros; trivial
  | succ N IH =>
    intro v3 v4 h
    exact hs N _ v3 v4 IH h
theorem q_Text_valueOf_16 {X : Option (List AI)} {N0 : Nat} {p1 : Int32} {p2 : Int32} {M : MM} {Q : Int32 → Prop}   : ∀ (N : Nat), N ≤ N0 → ∀ (v3 : Int32) (v4 : Int32), W_Text_valueOf_16 p1 p2 M Q N v3 v4 → pM X N 92 16 [(0, .inr (.inl (some 1))), (2, .inl (.inl p2)), (3, .inl (.inl v3)), (4, .inl (.inl v4))] [] M (Pi Q M) := by
  intro N
  induction N with
  | zero => intros; exact pM_zero
  | succ N IH =>
    intro hN v3 v4 h
    replace hN := Nat.le_of_succ_le hN
    replace h : B_Text_valueOf_16 p1 p2 M Q N (W_Text_valueOf_16 p1 p2 M Q N) v3 v4 := h
    refine pM_s (pMs_il rfl rfl ?_)
    refine pM_iln rfl rfl ?_
    refine pM_cge rfl rfl (fun h2 => ?_) (fun h2 => ?_)
    · replace h := h.2 h2
      refine pM_iln rfl rfl ?_
      exact pM_ri rfl (⟨_, rfl, rfl, h⟩)
    · replace h := h.1 h2
      refine pM_iln rfl rfl ?_
      refine pM_bi rfl kb_10 ?_
      refine pM_mul rfl ?_
      refine pM_aln rfl rfl rfl ?_
      refine pM_gr rfl rfl rfl rfl ?_
      refine pM_il rfl rfl ?_
      refine pM_ai rfl rfl (one_p _) ?_
      refine pM_add rfl ?_
      refine pM_bi rfl kb_48 ?_
      refine pM_sub rfl ?_
      refine pM_isn rfl rfl ?_
      refine pM_ii rfl rfl rfl ki_1 ?_
      refine pM_go rfl rfl ?_
      refine pM_w (F2 := [(0, .inr (.inl (some 1))), (2, .inl (.inl p2)), (3, .inl (.inl (((v3 * 10) + (M.1 2 (ni v4))) - 48))), (4, .inl (.inl (v4 + 1)))]) (fun L hL => lo_cons (lo_lk hL rfl) (lo_cons (lo_lk hL rfl) (lo_cons (lo_lk hL rfl) (lo_cons (lo_lk hL rfl) lo_nil)))) ?_
      exact IH hN (((v3 * 10) + (M.1 2 (ni v4))) - 48) (v4 + 1) h
/-- 92: EarCode$Text.valueOf(LEarCode$Tape;II)I -/
def W_Text_valueOf (p1 : Int32) (p2 : Int32) (N : Nat) (M : MM) (Q : Int32 → Prop) : Prop :=
  ((3 < (p2 - p1) →
    Q 1000) ∧
   (¬ 3 < (p2 - p1) →
    W_Text_valueOf_16 p1 p2 M Q N 0 p1))
theorem q_Text_valueOf {X : Option (List AI)} {N : Nat} {M : MM} {p1 : Int32} {p2 : Int32} {Q : Int32 → Prop}  (h : W_Text_valueOf p1 p2 N M Q) : pM X N 92 0 (ea_ar 0 [.inr (.inl (some 1)), .inl (.inl p1), .inl (.inl p2)]) [] M (Pi Q M) := by
  refine pM_w (F2 := [(0, .inr (.inl (some 1))), (1, .inl (.inl p1)), (2, .inl (.inl p2))]) (fun L hL => lo_cons (lo_lk hL rfl) (lo_cons (lo_lk hL rfl) (lo_cons (lo_lk hL rfl) lo_nil))) ?_
  refine pM_iln rfl rfl ?_
  refine pM_iln rfl rfl ?_
  refine pM_sub rfl ?_
  refine pM_ic rfl ki_3 ?_
  refine pM_cle rfl rfl (fun h1 => ?_) (fun h1 => ?_)
  · replace h := h.2 h1
    refine pM_ic rfl ki_0 ?_
    refine pM_isn rfl rfl ?_
    refine pM_iln rfl rfl ?_
    refine pM_is rfl rfl ?_
    refine pM_w (F2 := [(0, .inr (.inl (some 1))), (2, .inl (.inl p2)), (3, .inl (.inl 0)), (4, .inl (.inl p1))]) (fun L hL => lo_cons (lo_lk hL rfl) (lo_cons (lo_lk hL rfl) (lo_cons (lo_lk hL rfl) (lo_cons (lo_lk hL rfl) lo_nil)))) ?_
    refine q_Text_valueOf_16   N (Nat.le_refl N) 0 p1 h
  · replace h := h.1 h1
    refine pM_si rfl ks_1000 ?_
    exact pM_ri rfl (⟨_, rfl, rfl, h⟩)
def B_Text_wordNumber_11 (p1 : Int32) (p2 : Int32) (M : MM) (Q : Int32 → Prop) (N : Nat) (ih : Int32 → Int32 → Int32 → Int32 → Prop) (v3 : Int32) (v4 : Int32) (v5 : Int32) (v6 : Int32) : Prop :=
  ((v6 < (Int32.ofNat (sx_len (63021502816913500094821647077860426288575505828352872431751190254872543940710353612704103794142872447020960573222899747923705051523171944367044331944129487877391232940799216069755921256384304944118173833723336490650189537168881845560507485002053376 / 128))) →
    (((sc 63021502816913500094821647077860426288575505828352872431751190254872543940710353612704103794142872447020960573222899747923705051523171944367044331944129487877391232940799216069755921256384304944118173833723336490650189537168881845560507485002053376 v6) = 32 →
      ((v5 = 0 →
        ih (v3 + 1) p1 1 (v6 + 1)) ∧
       (¬ v5 = 0 →
        ((v4 = p2 →
          Q v3) ∧
         (¬ v4 = p2 →
          ih (v3 + 1) p1 1 (v6 + 1)))))) ∧
     (¬ (sc 63021502816913500094821647077860426288575505828352872431751190254872543940710353612704103794142872447020960573222899747923705051523171944367044331944129487877391232940799216069755921256384304944118173833723336490650189537168881845560507485002053376 v6) = 32 →
      ((v5 = 0 →
        ih v3 (v4 + 1) 0 (v6 + 1)) ∧
       (¬ v5 = 0 →
        ((v4 < p2 →
          (((M.1 2 (ni v4)) = (sc 63021502816913500094821647077860426288575505828352872431751190254872543940710353612704103794142872447020960573222899747923705051523171944367044331944129487877391232940799216069755921256384304944118173833723336490650189537168881845560507485002053376 v6) →
            ih v3 (v4 + 1) 1 (v6 + 1)) ∧
           (¬ (M.1 2 (ni v4)) = (sc 63021502816913500094821647077860426288575505828352872431751190254872543940710353612704103794142872447020960573222899747923705051523171944367044331944129487877391232940799216069755921256384304944118173833723336490650189537168881845560507485002053376 v6) →
            ih v3 (v4 + 1) 0 (v6 + 1)))) ∧
         (¬ v4 < p2 →
          ih v3 (v4 + 1) 0 (v6 + 1)))))))) ∧
   (¬ v6 < (Int32.ofNat (sx_len (63021502816913500094821647077860426288575505828352872431751190254872543940710353612704103794142872447020960573222899747923705051523171944367044331944129487877391232940799216069755921256384304944118173833723336490650189537168881845560507485002053376 / 128))) →
    Q 22))
def W_Text_wordNumber_11 (p1 : Int32) (p2 : Int32) (M : MM) (Q : Int32 → Prop) : Nat → Int32 → Int32 → Int32 → Int32 → Prop
  | 0, _, _, _, _ => True
  | N + 1, v3, v4, v5, v6 => B_Text_wordNumber_11 p1 p2 M Q N (W_Text_wordNumber_11 p1 p2 M Q N) v3 v4 v5 v6
theorem I_Text_wordNumber_11 (p1 : Int32) (p2 : Int32) (M : MM) (Q : Int32 → Prop) (inv : Int32 → Int32 → Int32 → Int32 → Prop) (hs : ∀ (N : Nat) (ih : Int32 → Int32 → Int32 → Int32 → Prop) (v3 : Int32) (v4 : Int32) (v5 : Int32) (v6 : Int32), (∀ (v3 : Int32) (v4 : Int32) (v5 : Int32) (v6 : Int32), inv v3 v4 v5 v6 → ih v3 v4 v5 v6) → inv v3 v4 v5 v6 → B_Text_wordNumber_11 p1 p2 M Q N ih v3 v4 v5 v6) : ∀ (N : Nat) (v3 : Int32) (v4 : Int32) (v5 : Int32) (v6 : Int32), inv v3 v4 v5 v6 → W_Text_wordNumber_11 p1 p2 M Q N v3 v4 v5 v6 := by
  intro N
  induction N with
  | zero => intros; trivial
  | succ N IH =>
    intro v3 v4 v5 v6 h
    exact hs N _ v3 v4 v5 v6 IH h
theorem q_Text_wordNumber_11 {X : Option (List AI)} {N0 : Nat} {p1 : Int32} {p2 : Int32} {M : MM} {Q : Int32 → Prop}   : ∀ (N : Nat), N ≤ N0 → ∀ (v3 : Int32) (v4 : Int32) (v5 : Int32) (v6 : Int32), W_Text_wordNumber_11 p1 p2 M Q N v3 v4 v5 v6 → pM X N 93 11 [(0, .inr (.inl (some 1))), (1, .inl (.inl p1)), (2, .inl (.inl p2)), (3, .inl (.inl v3)), (4, .inl (.inl v4)), (5, .inl (.inl v5)), (6, .inl (.inl v6))] [] M (Pi Q M) := by
  intro N
  induction N with
  | zero => intros; exact pM_zero
  | succ N IH =>
    intro hN v3 v4 v5 v6 h
    replace hN := Nat.le_of_succ_le hN
    replace h : B_Text_wordNumber_11 p1 p2 M Q N (W_Text_wordNumber_11 p1 p2 M Q N) v3 v4 v5 v6 := h
    refine pM_s (pMs_il rfl rfl ?_)
    refine pM_lds rfl rfl ?_
    refine pM_sl rfl rfl (by decide) rfl rfl ?_
    refine pM_cge rfl rfl (fun h1 => ?_) (fun h1 => ?_)
    · replace h := h.2 h1
      refine pM_bi rfl kb_22 ?_
      exact pM_ri rfl (⟨_, rfl, rfl, h⟩)
    · replace h := h.1 h1
      refine pM_lds rfl rfl ?_
      refine pM_il rfl rfl ?_
      refine pM_sc rfl rfl (by decide) rfl rfl ?_
      refine pM_is rfl rfl ?_
      refine pM_il rfl rfl ?_
      refine pM_bi rfl kb_32 ?_
      refine pM_ceq rfl rfl (fun h2 => ?_) (fun h2 => ?_)
      · replace h := h.1 h2
        refine pM_il rfl rfl ?_
        refine pM_zeq rfl rfl (fun h3 => ?_) (fun h3 => ?_)
        · replace h := h.1 h3
          refine pM_ii rfl rfl rfl ki_1 ?_
          refine pM_iln rfl rfl ?_
          refine pM_is rfl rfl ?_
          refine pM_ic rfl ki_1 ?_
          refine pM_is rfl rfl ?_
          refine pM_ii rfl rfl rfl ki_1 ?_
          refine pM_go rfl rfl ?_
          refine pM_w (F2 := [(0, .inr (.inl (some 1))), (1, .inl (.inl p1)), (2, .inl (.inl p2)), (3, .inl (.inl (v3 + 1))), (4, .inl (.inl p1)), (5, .inl (.inl 1)), (6, .inl (.inl (v6 + 1)))]) (fun L hL => lo_cons (lo_lk hL rfl) (lo_cons (lo_lk hL rfl) (lo_cons (lo_lk hL rfl) (lo_cons (lo_lk hL rfl) (lo_cons (lo_lk hL rfl) (lo_cons (lo_lk hL rfl) (lo_cons (lo_lk hL rfl) lo_nil))))))) ?_
          exact IH hN (v3 + 1) p1 1 (v6 + 1) h
        · replace h := h.2 h3
          refine pM_il rfl rfl ?_
          refine pM_iln rfl rfl ?_
          refine pM_cne rfl rfl (fun h4 => ?_) (fun h4 => ?_)
          · replace h := h.2 h4
            refine pM_ii rfl rfl rfl ki_1 ?_
            refine pM_iln rfl rfl ?_
            refine pM_is rfl rfl ?_
            refine pM_ic rfl ki_1 ?_
            refine pM_is rfl rfl ?_
            refine pM_ii rfl rfl rfl ki_1 ?_
            refine pM_go rfl rfl ?_
            refine pM_w (F2 := [(0, .inr (.inl (some 1))), (1, .inl (.inl p1)), (2, .inl (.inl p2)), (3, .inl (.inl (v3 + 1))), (4, .inl (.inl p1)), (5, .inl (.inl 1)), (6, .inl (.inl (v6 + 1)))]) (fun L hL => lo_cons (lo_lk hL rfl) (lo_cons (lo_lk hL rfl) (lo_cons (lo_lk hL rfl) (lo_cons (lo_lk hL rfl) (lo_cons (lo_lk hL rfl) (lo_cons (lo_lk hL rfl) (lo_cons (lo_lk hL rfl) lo_nil))))))) ?_
            exact IH hN (v3 + 1) p1 1 (v6 + 1) h
          · replace h := h.1 h4
            refine pM_iln rfl rfl ?_
            exact pM_ri rfl (⟨_, rfl, rfl, h⟩)
      · replace h := h.2 h2
        refine pM_il rfl rfl ?_
        refine pM_zeq rfl rfl (fun h5 => ?_) (fun h5 => ?_)
        · replace h := h.1 h5
          refine pM_ic rfl ki_0 ?_
          refine pM_is rfl rfl ?_
          refine pM_ii rfl rfl rfl ki_1 ?_
          refine pM_go rfl rfl ?_
          refine pM_ii rfl rfl rfl ki_1 ?_
          refine pM_go rfl rfl ?_
          refine pM_w (F2 := [(0, .inr (.inl (some 1))), (1, .inl (.inl p1)), (2, .inl (.inl p2)), (3, .inl (.inl v3)), (4, .inl (.inl (v4 + 1))), (5, .inl (.inl 0)), (6, .inl (.inl (v6 + 1)))]) (fun L hL => lo_cons (lo_lk hL rfl) (lo_cons (lo_lk hL rfl) (lo_cons (lo_lk hL rfl) (lo_cons (lo_lk hL rfl) (lo_cons (lo_lk hL rfl) (lo_cons (lo_lk hL rfl) (lo_cons (lo_lk hL rfl) lo_nil))))))) ?_
          exact IH hN v3 (v4 + 1) 0 (v6 + 1) h
        · replace h := h.2 h5
          refine pM_il rfl rfl ?_
          refine pM_iln rfl rfl ?_
          refine pM_cge rfl rfl (fun h6 => ?_) (fun h6 => ?_)
          · replace h := h.2 h6
            refine pM_ic rfl ki_0 ?_
            refine pM_is rfl rfl ?_
            refine pM_ii rfl rfl rfl ki_1 ?_
            refine pM_go rfl rfl ?_
            refine pM_ii rfl rfl rfl ki_1 ?_
            refine pM_go rfl rfl ?_
            refine pM_w (F2 := [(0, .inr (.inl (some 1))), (1, .inl (.inl p1)), (2, .inl (.inl p2)), (3, .inl (.inl v3)), (4, .inl (.inl (v4 + 1))), (5, .inl (.inl 0)), (6, .inl (.inl (v6 + 1)))]) (fun L hL => lo_cons (lo_lk hL rfl) (lo_cons (lo_lk hL rfl) (lo_cons (lo_lk hL rfl) (lo_cons (lo_lk hL rfl) (lo_cons (lo_lk hL rfl) (lo_cons (lo_lk hL rfl) (lo_cons (lo_lk hL rfl) lo_nil))))))) ?_
            exact IH hN v3 (v4 + 1) 0 (v6 + 1) h
          · replace h := h.1 h6
            refine pM_aln rfl rfl rfl ?_
            refine pM_gr rfl rfl rfl rfl ?_
            refine pM_il rfl rfl ?_
            refine pM_ai rfl rfl (one_p _) ?_
            refine pM_il rfl rfl ?_
            refine pM_cne rfl rfl (fun h7 => ?_) (fun h7 => ?_)
            · replace h := h.2 h7
              refine pM_ic rfl ki_0 ?_
              refine pM_is rfl rfl ?_
              refine pM_ii rfl rfl rfl ki_1 ?_
              refine pM_go rfl rfl ?_
              refine pM_ii rfl rfl rfl ki_1 ?_
              refine pM_go rfl rfl ?_
              refine pM_w (F2 := [(0, .inr (.inl (some 1))), (1, .inl (.inl p1)), (2, .inl (.inl p2)), (3, .inl (.inl v3)), (4, .inl (.inl (v4 + 1))), (5, .inl (.inl 0)), (6, .inl (.inl (v6 + 1)))]) (fun L hL => lo_cons (lo_lk hL rfl) (lo_cons (lo_lk hL rfl) (lo_cons (lo_lk hL rfl) (lo_cons (lo_lk hL rfl) (lo_cons (lo_lk hL rfl) (lo_cons (lo_lk hL rfl) (lo_cons (lo_lk hL rfl) lo_nil))))))) ?_
              exact IH hN v3 (v4 + 1) 0 (v6 + 1) h
            · replace h := h.1 h7
              refine pM_ic rfl ki_1 ?_
              refine pM_go rfl rfl ?_
              refine pM_is rfl rfl ?_
              refine pM_ii rfl rfl rfl ki_1 ?_
              refine pM_go rfl rfl ?_
              refine pM_ii rfl rfl rfl ki_1 ?_
              refine pM_go rfl rfl ?_
              refine pM_w (F2 := [(0, .inr (.inl (some 1))), (1, .inl (.inl p1)), (2, .inl (.inl p2)), (3, .inl (.inl v3)), (4, .inl (.inl (v4 + 1))), (5, .inl (.inl 1)), (6, .inl (.inl (v6 + 1)))]) (fun L hL => lo_cons (lo_lk hL rfl) (lo_cons (lo_lk hL rfl) (lo_cons (lo_lk hL rfl) (lo_cons (lo_lk hL rfl) (lo_cons (lo_lk hL rfl) (lo_cons (lo_lk hL rfl) (lo_cons (lo_lk hL rfl) lo_nil))))))) ?_
              exact IH hN v3 (v4 + 1) 1 (v6 + 1) h
/-- 93: EarCode$Text.wordNumber(LEarCode$Tape;II)I -/
def W_Text_wordNumber (p1 : Int32) (p2 : Int32) (N : Nat) (M : MM) (Q : Int32 → Prop) : Prop :=
  W_Text_wordNumber_11 p1 p2 M Q N 0 p1 1 0
theorem q_Text_wordNumber {X : Option (List AI)} {N : Nat} {M : MM} {p1 : Int32} {p2 : Int32} {Q : Int32 → Prop}  (h : W_Text_wordNumber p1 p2 N M Q) : pM X N 93 0 (ea_ar 0 [.inr (.inl (some 1)), .inl (.inl p1), .inl (.inl p2)]) [] M (Pi Q M) := by
  refine pM_w (F2 := [(0, .inr (.inl (some 1))), (1, .inl (.inl p1)), (2, .inl (.inl p2))]) (fun L hL => lo_cons (lo_lk hL rfl) (lo_cons (lo_lk hL rfl) (lo_cons (lo_lk hL rfl) lo_nil))) ?_
  refine pM_ic rfl ki_0 ?_
  refine pM_isn rfl rfl ?_
  refine pM_iln rfl rfl ?_
  refine pM_is rfl rfl ?_
  refine pM_ic rfl ki_1 ?_
  refine pM_is rfl rfl ?_
  refine pM_ic rfl ki_0 ?_
  refine pM_is rfl rfl ?_
  refine pM_w (F2 := [(0, .inr (.inl (some 1))), (1, .inl (.inl p1)), (2, .inl (.inl p2)), (3, .inl (.inl 0)), (4, .inl (.inl p1)), (5, .inl (.inl 1)), (6, .inl (.inl 0))]) (fun L hL => lo_cons (lo_lk hL rfl) (lo_cons (lo_lk hL rfl) (lo_cons (lo_lk hL rfl) (lo_cons (lo_lk hL rfl) (lo_cons (lo_lk hL rfl) (lo_cons (lo_lk hL rfl) (lo_cons (lo_lk hL rfl) lo_nil))))))) ?_
  refine q_Text_wordNumber_11   N (Nat.le_refl N) 0 p1 1 0 h
