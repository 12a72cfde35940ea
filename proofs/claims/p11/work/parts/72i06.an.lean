/-! WHAT EACH METHOD WRITES (gw.py) -/
def fp_m_nobody  : List (Nat × Nat × Option Nat) := [(190, 190, some 0), (207, 207, none)]
theorem an_m_nobody_36 {M0 : MM} {u1 : Int32} {u3 : Int32} {k82 : Int32 → MM → Prop} {Q : Int32 → MM → Prop} (hk82 : ∀ (v2 : Int32) (M : MM), Eqo fp_m_nobody M0 M → k82 v2 M) (hQ : ∀ (r : Int32) (M1 : MM), Eqo fp_m_nobody M0 M1 → Q r M1) : ∀ (N : Nat) (v2 : Int32) (v4 : Int32) (M : MM), Eqo fp_m_nobody M0 M → W_m_nobody_36 u1 u3 k82 Q N v2 v4 M := by
  refine I_m_nobody_36 u1 u3 k82 Q (fun _ _ M => Eqo fp_m_nobody M0 M) (fun N ih v2 v4 M hih hM => ?_)
  unfold B_m_nobody_36
  refine ⟨fun _ => ?_, fun _ => ?_⟩
  · refine ⟨fun _ => ?_, fun _ => ?_⟩
    · exact hih _ _ _ hM
    · refine an_m_forbidsNow (fun r9 M10 hM10 => ?_)
      refine ⟨fun _ => ?_, fun _ => ?_⟩
      · exact hih _ _ _ (eqo_tr hM (fps_cons (i := 1) rfl fps_nil) hM10)
      · exact hih _ _ _ (eqo_tr hM (fps_cons (i := 1) rfl fps_nil) hM10)
  · exact hk82 _ _ hM
theorem an_m_nobody_27 {M0 : MM} {u1 : Int32} {Q : Int32 → MM → Prop} (hQ : ∀ (r : Int32) (M1 : MM), Eqo fp_m_nobody M0 M1 → Q r M1) : ∀ (N : Nat) (v2 : Int32) (v3 : Int32) (M : MM), Eqo fp_m_nobody M0 M → W_m_nobody_27 u1 Q N v2 v3 M := by
  refine I_m_nobody_27 u1 Q (fun _ _ M => Eqo fp_m_nobody M0 M) (fun N ih v2 v3 M hih hM => ?_)
  unfold B_m_nobody_27
  refine ⟨fun _ => ?_, fun _ => ?_⟩
  · refine an_m_nobody_36  (fun x12 M13 hMM13 => ?_) hQ N _ _ _ hM
    · exact hih _ _ _ hMM13
  · exact hQ _ _ hM
theorem an_m_nobody  {N : Nat} {M : MM} {Q : Int32 → MM → Prop} (hQ : ∀ (r : Int32) (M1 : MM), Eqo fp_m_nobody M M1 → Q r M1) : W_m_nobody  N M Q := by
  unfold W_m_nobody
  refine an_m_inForce (fun r1 => ?_)
  refine an_m_alive (fun r3 => ?_)
  refine ⟨fun _ => ?_, fun _ => ?_⟩
  · refine an_m_nobody_27   hQ N _ _ _ (eqo_wi (eqo_rf _) (i := 0) rfl (Or.inr rfl))
  · refine an_m_nobody_27   hQ N _ _ _ (eqo_wi (eqo_rf _) (i := 0) rfl (Or.inr rfl))
def fp_m_relief  : List (Nat × Nat × Option Nat) := [(190, 190, some 0), (207, 207, none), (208, 208, none)]
theorem an_m_relief_7 {M0 : MM} {k32 : MM → Prop} {Q : Int32 → MM → Prop} (hk32 : ∀  (M : MM), Eqo fp_m_relief M0 M → k32 M) (hQ : ∀ (r : Int32) (M1 : MM), Eqo fp_m_relief M0 M1 → Q r M1) : ∀ (N : Nat) (v1 : Int32) (M : MM), Eqo fp_m_relief M0 M → W_m_relief_7 k32 Q N v1 M := by
  refine I_m_relief_7 k32 Q (fun _ M => Eqo fp_m_relief M0 M) (fun N ih v1 M hih hM => ?_)
  unfold B_m_relief_7
  refine ⟨fun _ => ?_, fun _ => ?_⟩
  · refine an_m_contradicting (fun r2 M3 hM3 => ?_)
    exact hih _ _ (eqo_wi (eqo_tr hM (fps_cons (i := 1) rfl fps_nil) hM3) (i := 2) rfl (Or.inl rfl))
  · exact hk32 _ hM
theorem an_m_relief_66 {M0 : MM} {u1 : Int32} {u2 : Int32} {M : MM} {k114 : Int32 → Prop} {Q : Int32 → MM → Prop} (hM : Eqo fp_m_relief M0 M) (hk114 : ∀ (v3 : Int32), k114 v3) (hQ : ∀ (r : Int32) (M1 : MM), Eqo fp_m_relief M0 M1 → Q r M1) : ∀ (N : Nat) (v3 : Int32) (v4 : Int32), True → W_m_relief_66 u1 u2 M k114 Q N v3 v4 := by
  refine I_m_relief_66 u1 u2 M k114 Q (fun _ _ => True) (fun N ih v3 v4 hih _ => ?_)
  unfold B_m_relief_66
  refine ⟨fun _ => ?_, fun _ => ?_⟩
  · refine ⟨fun _ => ?_, fun _ => ?_⟩
    · exact hih _ _ trivial
    · refine ⟨fun _ => ?_, fun _ => ?_⟩
      · refine ⟨fun _ => ?_, fun _ => ?_⟩
        · exact hih _ _ trivial
        · exact hih _ _ trivial
      · exact hih _ _ trivial
  · exact hk114 _
theorem an_m_relief_43 {M0 : MM} {M : MM} {Q : Int32 → MM → Prop} (hM : Eqo fp_m_relief M0 M) (hQ : ∀ (r : Int32) (M1 : MM), Eqo fp_m_relief M0 M1 → Q r M1) : ∀ (N : Nat) (v1 : Int32) (v2 : Int32), True → W_m_relief_43 M Q N v1 v2 := by
  refine I_m_relief_43 M Q (fun _ _ => True) (fun N ih v1 v2 hih _ => ?_)
  unfold B_m_relief_43
  refine ⟨fun _ => ?_, fun _ => ?_⟩
  · exact hQ _ _ hM
  · refine ⟨fun _ => ?_, fun _ => ?_⟩
    · exact hih _ _ trivial
    · refine an_m_relief_66 hM (fun x11 => ?_) hQ N _ _ trivial
      · refine ⟨fun _ => ?_, fun _ => ?_⟩
        · exact hih _ _ trivial
        · exact hih _ _ trivial
theorem an_m_relief  {N : Nat} {M : MM} {Q : Int32 → MM → Prop} (hQ : ∀ (r : Int32) (M1 : MM), Eqo fp_m_relief M M1 → Q r M1) : W_m_relief  N M Q := by
  unfold W_m_relief
  refine an_m_relief_7  (fun M4 hMM4 => ?_) hQ N _ _ (eqo_wi (eqo_rf _) (i := 0) rfl (Or.inr rfl))
  · refine an_m_relief_43 hMM4  hQ N _ _ trivial
def fp_m_isWatched  : List (Nat × Nat × Option Nat) := [(190, 190, some 0), (190, 190, some 20), (190, 190, some 18), (190, 190, some 19)]
theorem an_m_isWatched_21 {M0 : MM} {M : MM} {Q : Int32 → MM → Prop} (hM : Eqo fp_m_isWatched M0 M) (hQ : ∀ (r : Int32) (M1 : MM), Eqo fp_m_isWatched M0 M1 → Q r M1) : ∀ (N : Nat) (v1 : Int32) (v2 : Int32), True → W_m_isWatched_21 M Q N v1 v2 := by
  refine I_m_isWatched_21 M Q (fun _ _ => True) (fun N ih v1 v2 hih _ => ?_)
  unfold B_m_isWatched_21
  refine ⟨fun _ => ?_, fun _ => ?_⟩
  · refine ⟨fun _ => ?_, fun _ => ?_⟩
    · exact hQ _ _ hM
    · refine ⟨fun _ => ?_, fun _ => ?_⟩
      · refine ⟨fun _ => ?_, fun _ => ?_⟩
        · exact hih _ _ trivial
        · refine ⟨fun _ => ?_, fun _ => ?_⟩
          · refine ⟨fun _ => ?_, fun _ => ?_⟩
            · exact hih _ _ trivial
            · exact hih _ _ trivial
          · exact hih _ _ trivial
      · exact hih _ _ trivial
  · exact hQ _ _ hM
theorem an_m_isWatched  {N : Nat} {M : MM} {Q : Int32 → MM → Prop} (hQ : ∀ (r : Int32) (M1 : MM), Eqo fp_m_isWatched M M1 → Q r M1) : W_m_isWatched  N M Q := by
  unfold W_m_isWatched
  refine an_m_uses (fun M2 hM2 => ?_)
  refine ⟨fun _ => ?_, fun _ => ?_⟩
  · refine an_m_isWatched_21 (eqo_tr (eqo_rf _) (fps_cons (i := 0) rfl (fps_cons (i := 1) rfl (fps_cons (i := 2) rfl (fps_cons (i := 3) rfl fps_nil)))) hM2)  hQ N _ _ trivial
  · refine an_m_isWatched_21 (eqo_tr (eqo_rf _) (fps_cons (i := 0) rfl (fps_cons (i := 1) rfl (fps_cons (i := 2) rfl (fps_cons (i := 3) rfl fps_nil)))) hM2)  hQ N _ _ trivial
theorem an_m_nevers_4 {M : MM} {Q : Int32 → Prop} (hQ : ∀ (r : Int32), Q r) : ∀ (N : Nat) (v1 : Int32) (v2 : Int32), True → W_m_nevers_4 M Q N v1 v2 := by
  refine I_m_nevers_4 M Q (fun _ _ => True) (fun N ih v1 v2 hih _ => ?_)
  unfold B_m_nevers_4
  refine ⟨fun _ => ?_, fun _ => ?_⟩
  · refine ⟨fun _ => ?_, fun _ => ?_⟩
    · exact hih _ _ trivial
    · exact hih _ _ trivial
  · exact hQ _
theorem an_m_nevers  {N : Nat} {M : MM} {Q : Int32 → Prop} (hQ : ∀ (r : Int32), Q r) : W_m_nevers  N M Q := by
  unfold W_m_nevers
  refine an_m_nevers_4   hQ N _ _ trivial
def fp_m_laysWatched  : List (Nat × Nat × Option Nat) := [(207, 207, none), (209, 209, none)]
theorem an_m_laysWatched_2 {M0 : MM} {Q : MM → Prop} (hQ : ∀  (M1 : MM), Eqo fp_m_laysWatched M0 M1 → Q M1) : ∀ (N : Nat) (v1 : Int32) (M : MM), Eqo fp_m_laysWatched M0 M → W_m_laysWatched_2 Q N v1 M := by
  refine I_m_laysWatched_2 Q (fun _ M => Eqo fp_m_laysWatched M0 M) (fun N ih v1 M hih hM => ?_)
  unfold B_m_laysWatched_2
  refine ⟨fun _ => ?_, fun _ => ?_⟩
  · refine an_m_nevers (fun r2 => ?_)
    refine an_m_forbidsNow (fun r4 M5 hM5 => ?_)
    exact hih _ _ (eqo_wi (eqo_tr hM (fps_cons (i := 0) rfl fps_nil) hM5) (i := 1) rfl (Or.inl rfl))
  · exact hQ _ hM
theorem an_m_laysWatched  {N : Nat} {M : MM} {Q : MM → Prop} (hQ : ∀  (M1 : MM), Eqo fp_m_laysWatched M M1 → Q M1) : W_m_laysWatched  N M Q := by
  unfold W_m_laysWatched
  refine an_m_laysWatched_2   hQ N _ _ (eqo_rf _)
theorem an_m_isCode_19 {p1 : Int32} {M : MM} {Q : Int32 → Prop} (hQ : ∀ (r : Int32), Q r) : ∀ (N : Nat) (v2 : Int32) (v3 : Int32), True → W_m_isCode_19 p1 M Q N v2 v3 := by
  refine I_m_isCode_19 p1 M Q (fun _ _ => True) (fun N ih v2 v3 hih _ => ?_)
  unfold B_m_isCode_19
  refine ⟨fun _ => ?_, fun _ => ?_⟩
  · refine ⟨fun _ => ?_, fun _ => ?_⟩
    · exact hQ _
    · refine ⟨fun _ => ?_, fun _ => ?_⟩
      · refine ⟨fun _ => ?_, fun _ => ?_⟩
        · exact hih _ _ trivial
        · exact hih _ _ trivial
      · refine ⟨fun _ => ?_, fun _ => ?_⟩
        · exact hih _ _ trivial
        · exact hih _ _ trivial
  · exact hQ _
theorem an_m_isCode {p1 : Int32} {N : Nat} {M : MM} {Q : Int32 → Prop} (hQ : ∀ (r : Int32), Q r) : W_m_isCode p1 N M Q := by
  unfold W_m_isCode
  refine an_m_nevers (fun r1 => ?_)
  refine ⟨fun _ => ?_, fun _ => ?_⟩
  · refine an_m_isCode_19   hQ N _ _ trivial
  · refine an_m_isCode_19   hQ N _ _ trivial
def fp_m_read  : List (Nat × Nat × Option Nat) := [(190, 190, some 0), (190, 190, some 20), (190, 190, some 18), (190, 190, some 19), (207, 207, none), (209, 209, none)]
theorem an_m_read_68 {M0 : MM} {p1 : Int32} {M : MM} {Q : Int32 → MM → Prop} (hM : Eqo fp_m_read M0 M) (hQ : ∀ (r : Int32) (M1 : MM), Eqo fp_m_read M0 M1 → Q r M1) : ∀ (N : Nat) (v3 : Int32) (v4 : Int32) (v5 : Int32) (v6 : Int32), True → W_m_read_68 p1 M Q N v3 v4 v5 v6 := by
  refine I_m_read_68 p1 M Q (fun _ _ _ _ => True) (fun N ih v3 v4 v5 v6 hih _ => ?_)
  unfold B_m_read_68
  refine ⟨fun _ => ?_, fun _ => ?_⟩
  · refine an_m_isCode (fun r14 => ?_)
    refine ⟨fun _ => ?_, fun _ => ?_⟩
    · exact hih _ _ _ _ trivial
    · exact hih _ _ _ _ trivial
  · refine ⟨fun _ => ?_, fun _ => ?_⟩
    · exact hQ _ _ hM
    · refine ⟨fun _ => ?_, fun _ => ?_⟩
      · exact hQ _ _ hM
      · refine ⟨fun _ => ?_, fun _ => ?_⟩
        · exact hQ _ _ hM
        · exact hQ _ _ hM
theorem an_m_read {p1 : Int32} {N : Nat} {M : MM} {Q : Int32 → MM → Prop} (hQ : ∀ (r : Int32) (M1 : MM), Eqo fp_m_read M M1 → Q r M1) : W_m_read p1 N M Q := by
  unfold W_m_read
  refine an_m_isWatched (fun r1 M2 hM2 => ?_)
  refine ⟨fun _ => ?_, fun _ => ?_⟩
  · refine an_m_throwsIf (fun r4 M5 hM5 => ?_)
    refine ⟨fun _ => ?_, fun _ => ?_⟩
    · refine ⟨fun _ => ?_, fun _ => ?_⟩
      · refine an_m_throwsIf (fun r8 M9 hM9 => ?_)
        refine ⟨fun _ => ?_, fun _ => ?_⟩
        · refine an_m_laysWatched (fun M12 hM12 => ?_)
          refine an_m_read_68 (eqo_tr (eqo_tr (eqo_tr (eqo_tr (eqo_rf _) (fps_cons (i := 0) rfl (fps_cons (i := 1) rfl (fps_cons (i := 2) rfl (fps_cons (i := 3) rfl fps_nil)))) hM2) (fps_cons (i := 0) rfl fps_nil) hM5) (fps_cons (i := 0) rfl fps_nil) hM9) (fps_cons (i := 4) rfl (fps_cons (i := 5) rfl fps_nil)) hM12)  hQ N _ _ _ _ trivial
        · exact hQ _ _ (eqo_tr (eqo_tr (eqo_tr (eqo_rf _) (fps_cons (i := 0) rfl (fps_cons (i := 1) rfl (fps_cons (i := 2) rfl (fps_cons (i := 3) rfl fps_nil)))) hM2) (fps_cons (i := 0) rfl fps_nil) hM5) (fps_cons (i := 0) rfl fps_nil) hM9)
      · refine an_m_throwsIf (fun r20 M21 hM21 => ?_)
        refine ⟨fun _ => ?_, fun _ => ?_⟩
        · refine an_m_laysWatched (fun M24 hM24 => ?_)
          refine an_m_read_68 (eqo_tr (eqo_tr (eqo_tr (eqo_tr (eqo_rf _) (fps_cons (i := 0) rfl (fps_cons (i := 1) rfl (fps_cons (i := 2) rfl (fps_cons (i := 3) rfl fps_nil)))) hM2) (fps_cons (i := 0) rfl fps_nil) hM5) (fps_cons (i := 0) rfl fps_nil) hM21) (fps_cons (i := 4) rfl (fps_cons (i := 5) rfl fps_nil)) hM24)  hQ N _ _ _ _ trivial
        · exact hQ _ _ (eqo_tr (eqo_tr (eqo_tr (eqo_rf _) (fps_cons (i := 0) rfl (fps_cons (i := 1) rfl (fps_cons (i := 2) rfl (fps_cons (i := 3) rfl fps_nil)))) hM2) (fps_cons (i := 0) rfl fps_nil) hM5) (fps_cons (i := 0) rfl fps_nil) hM21)
    · exact hQ _ _ (eqo_tr (eqo_tr (eqo_rf _) (fps_cons (i := 0) rfl (fps_cons (i := 1) rfl (fps_cons (i := 2) rfl (fps_cons (i := 3) rfl fps_nil)))) hM2) (fps_cons (i := 0) rfl fps_nil) hM5)
  · refine an_m_throwsIf (fun r25 M26 hM26 => ?_)
    refine ⟨fun _ => ?_, fun _ => ?_⟩
    · refine ⟨fun _ => ?_, fun _ => ?_⟩
      · refine an_m_throwsIf (fun r29 M30 hM30 => ?_)
        refine ⟨fun _ => ?_, fun _ => ?_⟩
        · refine an_m_laysWatched (fun M33 hM33 => ?_)
          refine an_m_read_68 (eqo_tr (eqo_tr (eqo_tr (eqo_tr (eqo_rf _) (fps_cons (i := 0) rfl (fps_cons (i := 1) rfl (fps_cons (i := 2) rfl (fps_cons (i := 3) rfl fps_nil)))) hM2) (fps_cons (i := 0) rfl fps_nil) hM26) (fps_cons (i := 0) rfl fps_nil) hM30) (fps_cons (i := 4) rfl (fps_cons (i := 5) rfl fps_nil)) hM33)  hQ N _ _ _ _ trivial
        · exact hQ _ _ (eqo_tr (eqo_tr (eqo_tr (eqo_rf _) (fps_cons (i := 0) rfl (fps_cons (i := 1) rfl (fps_cons (i := 2) rfl (fps_cons (i := 3) rfl fps_nil)))) hM2) (fps_cons (i := 0) rfl fps_nil) hM26) (fps_cons (i := 0) rfl fps_nil) hM30)
      · refine an_m_throwsIf (fun r34 M35 hM35 => ?_)
        refine ⟨fun _ => ?_, fun _ => ?_⟩
        · refine an_m_laysWatched (fun M38 hM38 => ?_)
          refine an_m_read_68 (eqo_tr (eqo_tr (eqo_tr (eqo_tr (eqo_rf _) (fps_cons (i := 0) rfl (fps_cons (i := 1) rfl (fps_cons (i := 2) rfl (fps_cons (i := 3) rfl fps_nil)))) hM2) (fps_cons (i := 0) rfl fps_nil) hM26) (fps_cons (i := 0) rfl fps_nil) hM35) (fps_cons (i := 4) rfl (fps_cons (i := 5) rfl fps_nil)) hM38)  hQ N _ _ _ _ trivial
        · exact hQ _ _ (eqo_tr (eqo_tr (eqo_tr (eqo_rf _) (fps_cons (i := 0) rfl (fps_cons (i := 1) rfl (fps_cons (i := 2) rfl (fps_cons (i := 3) rfl fps_nil)))) hM2) (fps_cons (i := 0) rfl fps_nil) hM26) (fps_cons (i := 0) rfl fps_nil) hM35)
    · exact hQ _ _ (eqo_tr (eqo_tr (eqo_rf _) (fps_cons (i := 0) rfl (fps_cons (i := 1) rfl (fps_cons (i := 2) rfl (fps_cons (i := 3) rfl fps_nil)))) hM2) (fps_cons (i := 0) rfl fps_nil) hM26)
def fp_m_next  : List (Nat × Nat × Option Nat) := [(190, 190, some 0), (190, 190, some 20), (190, 190, some 18), (190, 190, some 19), (207, 207, none), (209, 209, none), (210, 210, none), (211, 211, none)]
theorem an_m_next_64 {M0 : MM} {p1 : Int32} {k99 : MM → Prop} {Q : Int32 → MM → Prop} (hk99 : ∀  (M : MM), Eqo fp_m_next M0 M → k99 M) (hQ : ∀ (r : Int32) (M1 : MM), Eqo fp_m_next M0 M1 → Q r M1) : ∀ (N : Nat) (v3 : Int32) (M : MM), Eqo fp_m_next M0 M → W_m_next_64 p1 k99 Q N v3 M := by
  refine I_m_next_64 p1 k99 Q (fun _ M => Eqo fp_m_next M0 M) (fun N ih v3 M hih hM => ?_)
  unfold B_m_next_64
  refine ⟨fun _ => ?_, fun _ => ?_⟩
  · refine an_m_nevers (fun r17 => ?_)
    refine an_m_forbidsNow (fun r19 M20 hM20 => ?_)
    exact hih _ _ (eqo_wi (eqo_tr (eqo_wi hM (i := 6) rfl (Or.inl rfl)) (fps_cons (i := 4) rfl fps_nil) hM20) (i := 7) rfl (Or.inl rfl))
  · exact hk99 _ hM
theorem an_m_next_133 {M0 : MM} {p1 : Int32} {u3 : Int32} {u4 : Int32} {k174 : MM → Prop} {Q : Int32 → MM → Prop} (hk174 : ∀  (M : MM), Eqo fp_m_next M0 M → k174 M) (hQ : ∀ (r : Int32) (M1 : MM), Eqo fp_m_next M0 M1 → Q r M1) : ∀ (N : Nat) (v5 : Int32) (M : MM), Eqo fp_m_next M0 M → W_m_next_133 p1 u3 u4 k174 Q N v5 M := by
  refine I_m_next_133 p1 u3 u4 k174 Q (fun _ M => Eqo fp_m_next M0 M) (fun N ih v5 M hih hM => ?_)
  unfold B_m_next_133
  refine ⟨fun _ => ?_, fun _ => ?_⟩
  · refine ⟨fun _ => ?_, fun _ => ?_⟩
    · exact hih _ _ (eqo_wi hM (i := 6) rfl (Or.inl rfl))
    · exact hih _ _ (eqo_wi hM (i := 6) rfl (Or.inl rfl))
  · exact hk174 _ hM
theorem an_m_next_104 {M0 : MM} {p1 : Int32} {k180 : Int32 → MM → Prop} {Q : Int32 → MM → Prop} (hk180 : ∀ (v3 : Int32) (M : MM), Eqo fp_m_next M0 M → k180 v3 M) (hQ : ∀ (r : Int32) (M1 : MM), Eqo fp_m_next M0 M1 → Q r M1) : ∀ (N : Nat) (v3 : Int32) (v4 : Int32) (M : MM), Eqo fp_m_next M0 M → W_m_next_104 p1 k180 Q N v3 v4 M := by
  refine I_m_next_104 p1 k180 Q (fun _ _ M => Eqo fp_m_next M0 M) (fun N ih v3 v4 M hih hM => ?_)
  unfold B_m_next_104
  refine ⟨fun _ => ?_, fun _ => ?_⟩
  · refine an_m_isCode (fun r23 => ?_)
    refine ⟨fun _ => ?_, fun _ => ?_⟩
    · exact hih _ _ _ hM
    · refine an_m_next_133  (fun M28 hMM28 => ?_) hQ N _ _ hM
      · exact hih _ _ _ hMM28
  · exact hk180 _ _ hM
theorem an_m_next_186 {M0 : MM} {p1 : Int32} {u3 : Int32} {M : MM} {Q : Int32 → MM → Prop} (hM : Eqo fp_m_next M0 M) (hQ : ∀ (r : Int32) (M1 : MM), Eqo fp_m_next M0 M1 → Q r M1) : ∀ (N : Nat) (v4 : Int32) (v5 : Int32), True → W_m_next_186 p1 u3 M Q N v4 v5 := by
  refine I_m_next_186 p1 u3 M Q (fun _ _ => True) (fun N ih v4 v5 hih _ => ?_)
  unfold B_m_next_186
  refine ⟨fun _ => ?_, fun _ => ?_⟩
  · refine ⟨fun _ => ?_, fun _ => ?_⟩
    · exact hih _ _ trivial
    · exact hih _ _ trivial
  · refine ⟨fun _ => ?_, fun _ => ?_⟩
    · exact hQ _ _ hM
    · exact hQ _ _ hM
theorem an_m_next {p1 : Int32} {N : Nat} {M : MM} {Q : Int32 → MM → Prop} (hQ : ∀ (r : Int32) (M1 : MM), Eqo fp_m_next M M1 → Q r M1) : W_m_next p1 N M Q := by
  unfold W_m_next
  refine an_m_isWatched (fun r1 M2 hM2 => ?_)
  refine an_m_throwsIf (fun r3 M4 hM4 => ?_)
  refine ⟨fun _ => ?_, fun _ => ?_⟩
  · refine ⟨fun _ => ?_, fun _ => ?_⟩
    · refine an_m_throwsIf (fun r7 M8 hM8 => ?_)
      refine ⟨fun _ => ?_, fun _ => ?_⟩
      · refine ⟨fun _ => ?_, fun _ => ?_⟩
        · refine an_m_throwsIf (fun r11 M12 hM12 => ?_)
          refine ⟨fun _ => ?_, fun _ => ?_⟩
          · refine an_m_laysWatched (fun M15 hM15 => ?_)
            refine an_m_next_64  (fun M21 hMM21 => ?_) hQ N _ _ (eqo_tr (eqo_tr (eqo_tr (eqo_tr (eqo_tr (eqo_rf _) (fps_cons (i := 0) rfl (fps_cons (i := 1) rfl (fps_cons (i := 2) rfl (fps_cons (i := 3) rfl fps_nil)))) hM2) (fps_cons (i := 0) rfl fps_nil) hM4) (fps_cons (i := 0) rfl fps_nil) hM8) (fps_cons (i := 0) rfl fps_nil) hM12) (fps_cons (i := 4) rfl (fps_cons (i := 5) rfl fps_nil)) hM15)
            · refine an_m_next_104  (fun x29 M30 hMM30 => ?_) hQ N _ _ _ hMM21
              · refine an_m_next_186 hMM30  hQ N _ _ trivial
          · exact hQ _ _ (eqo_tr (eqo_tr (eqo_tr (eqo_tr (eqo_rf _) (fps_cons (i := 0) rfl (fps_cons (i := 1) rfl (fps_cons (i := 2) rfl (fps_cons (i := 3) rfl fps_nil)))) hM2) (fps_cons (i := 0) rfl fps_nil) hM4) (fps_cons (i := 0) rfl fps_nil) hM8) (fps_cons (i := 0) rfl fps_nil) hM12)
        · refine an_m_throwsIf (fun r34 M35 hM35 => ?_)
          refine ⟨fun _ => ?_, fun _ => ?_⟩
          · refine an_m_laysWatched (fun M38 hM38 => ?_)
            refine an_m_next_64  (fun M39 hMM39 => ?_) hQ N _ _ (eqo_tr (eqo_tr (eqo_tr (eqo_tr (eqo_tr (eqo_rf _) (fps_cons (i := 0) rfl (fps_cons (i := 1) rfl (fps_cons (i := 2) rfl (fps_cons (i := 3) rfl fps_nil)))) hM2) (fps_cons (i := 0) rfl fps_nil) hM4) (fps_cons (i := 0) rfl fps_nil) hM8) (fps_cons (i := 0) rfl fps_nil) hM35) (fps_cons (i := 4) rfl (fps_cons (i := 5) rfl fps_nil)) hM38)
            · refine an_m_next_104  (fun x40 M41 hMM41 => ?_) hQ N _ _ _ hMM39
              · refine an_m_next_186 hMM41  hQ N _ _ trivial
          · exact hQ _ _ (eqo_tr (eqo_tr (eqo_tr (eqo_tr (eqo_rf _) (fps_cons (i := 0) rfl (fps_cons (i := 1) rfl (fps_cons (i := 2) rfl (fps_cons (i := 3) rfl fps_nil)))) hM2) (fps_cons (i := 0) rfl fps_nil) hM4) (fps_cons (i := 0) rfl fps_nil) hM8) (fps_cons (i := 0) rfl fps_nil) hM35)
      · exact hQ _ _ (eqo_tr (eqo_tr (eqo_tr (eqo_rf _) (fps_cons (i := 0) rfl (fps_cons (i := 1) rfl (fps_cons (i := 2) rfl (fps_cons (i := 3) rfl fps_nil)))) hM2) (fps_cons (i := 0) rfl fps_nil) hM4) (fps_cons (i := 0) rfl fps_nil) hM8)
    · refine an_m_throwsIf (fun r42 M43 hM43 => ?_)
      refine ⟨fun _ => ?_, fun _ => ?_⟩
      · refine ⟨fun _ => ?_, fun _ => ?_⟩
        · refine an_m_throwsIf (fun r46 M47 hM47 => ?_)
          refine ⟨fun _ => ?_, fun _ => ?_⟩
          · refine an_m_laysWatched (fun M50 hM50 => ?_)
            refine an_m_next_64  (fun M51 hMM51 => ?_) hQ N _ _ (eqo_tr (eqo_tr (eqo_tr (eqo_tr (eqo_tr (eqo_rf _) (fps_cons (i := 0) rfl (fps_cons (i := 1) rfl (fps_cons (i := 2) rfl (fps_cons (i := 3) rfl fps_nil)))) hM2) (fps_cons (i := 0) rfl fps_nil) hM4) (fps_cons (i := 0) rfl fps_nil) hM43) (fps_cons (i := 0) rfl fps_nil) hM47) (fps_cons (i := 4) rfl (fps_cons (i := 5) rfl fps_nil)) hM50)
            · refine an_m_next_104  (fun x52 M53 hMM53 => ?_) hQ N _ _ _ hMM51
              · refine an_m_next_186 hMM53  hQ N _ _ trivial
          · exact hQ _ _ (eqo_tr (eqo_tr (eqo_tr (eqo_tr (eqo_rf _) (fps_cons (i := 0) rfl (fps_cons (i := 1) rfl (fps_cons (i := 2) rfl (fps_cons (i := 3) rfl fps_nil)))) hM2) (fps_cons (i := 0) rfl fps_nil) hM4) (fps_cons (i := 0) rfl fps_nil) hM43) (fps_cons (i := 0) rfl fps_nil) hM47)
        · refine an_m_throwsIf (fun r54 M55 hM55 => ?_)
          refine ⟨fun _ => ?_, fun _ => ?_⟩
          · refine an_m_laysWatched (fun M58 hM58 => ?_)
            refine an_m_next_64  (fun M59 hMM59 => ?_) hQ N _ _ (eqo_tr (eqo_tr (eqo_tr (eqo_tr (eqo_tr (eqo_rf _) (fps_cons (i := 0) rfl (fps_cons (i := 1) rfl (fps_cons (i := 2) rfl (fps_cons (i := 3) rfl fps_nil)))) hM2) (fps_cons (i := 0) rfl fps_nil) hM4) (fps_cons (i := 0) rfl fps_nil) hM43) (fps_cons (i := 0) rfl fps_nil) hM55) (fps_cons (i := 4) rfl (fps_cons (i := 5) rfl fps_nil)) hM58)
            · refine an_m_next_104  (fun x60 M61 hMM61 => ?_) hQ N _ _ _ hMM59
              · refine an_m_next_186 hMM61  hQ N _ _ trivial
          · exact hQ _ _ (eqo_tr (eqo_tr (eqo_tr (eqo_tr (eqo_rf _) (fps_cons (i := 0) rfl (fps_cons (i := 1) rfl (fps_cons (i := 2) rfl (fps_cons (i := 3) rfl fps_nil)))) hM2) (fps_cons (i := 0) rfl fps_nil) hM4) (fps_cons (i := 0) rfl fps_nil) hM43) (fps_cons (i := 0) rfl fps_nil) hM55)
      · exact hQ _ _ (eqo_tr (eqo_tr (eqo_tr (eqo_rf _) (fps_cons (i := 0) rfl (fps_cons (i := 1) rfl (fps_cons (i := 2) rfl (fps_cons (i := 3) rfl fps_nil)))) hM2) (fps_cons (i := 0) rfl fps_nil) hM4) (fps_cons (i := 0) rfl fps_nil) hM43)
  · exact hQ _ _ (eqo_tr (eqo_tr (eqo_rf _) (fps_cons (i := 0) rfl (fps_cons (i := 1) rfl (fps_cons (i := 2) rfl (fps_cons (i := 3) rfl fps_nil)))) hM2) (fps_cons (i := 0) rfl fps_nil) hM4)
def fp_m_cover  : List (Nat × Nat × Option Nat) := [(190, 190, some 0)]
theorem an_m_cover_52 {M0 : MM} {u1 : Int32} {u2 : Int32} {u3 : Int32} {M : MM} {k92 : Int32 → Prop} {Q : Int32 → MM → Prop} (hM : Eqo fp_m_cover M0 M) (hk92 : ∀ (v4 : Int32), k92 v4) (hQ : ∀ (r : Int32) (M1 : MM), Eqo fp_m_cover M0 M1 → Q r M1) : ∀ (N : Nat) (v4 : Int32) (v5 : Int32), True → W_m_cover_52 u1 u2 u3 M k92 Q N v4 v5 := by
  refine I_m_cover_52 u1 u2 u3 M k92 Q (fun _ _ => True) (fun N ih v4 v5 hih _ => ?_)
  unfold B_m_cover_52
  refine ⟨fun _ => ?_, fun _ => ?_⟩
  · refine ⟨fun _ => ?_, fun _ => ?_⟩
    · exact hih _ _ trivial
    · exact hih _ _ trivial
  · exact hk92 _
theorem an_m_cover_17 {M0 : MM} {u1 : Int32} {M : MM} {Q : Int32 → MM → Prop} (hM : Eqo fp_m_cover M0 M) (hQ : ∀ (r : Int32) (M1 : MM), Eqo fp_m_cover M0 M1 → Q r M1) : ∀ (N : Nat) (v2 : Int32) (v3 : Int32), True → W_m_cover_17 u1 M Q N v2 v3 := by
  refine I_m_cover_17 u1 M Q (fun _ _ => True) (fun N ih v2 v3 hih _ => ?_)
  unfold B_m_cover_17
  refine ⟨fun _ => ?_, fun _ => ?_⟩
  · exact hQ _ _ hM
  · refine an_m_alive (fun r6 => ?_)
    refine ⟨fun _ => ?_, fun _ => ?_⟩
    · refine ⟨fun _ => ?_, fun _ => ?_⟩
      · exact hih _ _ trivial
      · refine an_m_cover_52 hM (fun x12 => ?_) hQ N _ _ trivial
        · refine ⟨fun _ => ?_, fun _ => ?_⟩
          · exact hih _ _ trivial
          · exact hih _ _ trivial
    · exact hih _ _ trivial
theorem an_m_cover  {N : Nat} {M : MM} {Q : Int32 → MM → Prop} (hQ : ∀ (r : Int32) (M1 : MM), Eqo fp_m_cover M M1 → Q r M1) : W_m_cover  N M Q := by
  unfold W_m_cover
  refine an_m_inForce (fun r1 => ?_)
  refine an_m_alive (fun r3 => ?_)
  refine an_m_cover_17 (eqo_wi (eqo_rf _) (i := 0) rfl (Or.inr rfl))  hQ N _ _ trivial
def fp_m_dies  : List (Nat × Nat × Option Nat) := [(190, 190, some 0)]
theorem an_m_dies_45 {M0 : MM} {p1 : Int32} {M : MM} {Q : Int32 → MM → Prop} (hM : Eqo fp_m_dies M0 M) (hQ : ∀ (r : Int32) (M1 : MM), Eqo fp_m_dies M0 M1 → Q r M1) : ∀ (N : Nat) (v2 : Int32) (v3 : Int32), True → W_m_dies_45 p1 M Q N v2 v3 := by
  refine I_m_dies_45 p1 M Q (fun _ _ => True) (fun N ih v2 v3 hih _ => ?_)
  unfold B_m_dies_45
  refine ⟨fun _ => ?_, fun _ => ?_⟩
  · refine an_m_knowers (fun r9 => ?_)
    refine ⟨fun _ => ?_, fun _ => ?_⟩
    · exact hih _ _ trivial
    · exact hih _ _ trivial
  · exact hQ _ _ hM
theorem an_m_dies {p1 : Int32} {N : Nat} {M : MM} {Q : Int32 → MM → Prop} (hQ : ∀ (r : Int32) (M1 : MM), Eqo fp_m_dies M M1 → Q r M1) : W_m_dies p1 N M Q := by
  unfold W_m_dies
  refine an_m_throwsIf (fun r1 M2 hM2 => ?_)
  refine ⟨fun _ => ?_, fun _ => ?_⟩
  · refine ⟨fun _ => ?_, fun _ => ?_⟩
    · refine an_m_throwsIf (fun r5 M6 hM6 => ?_)
      refine ⟨fun _ => ?_, fun _ => ?_⟩
      · refine an_m_dies_45 (eqo_tr (eqo_tr (eqo_wi (eqo_rf _) (i := 0) rfl (Or.inr rfl)) (fps_cons (i := 0) rfl fps_nil) hM2) (fps_cons (i := 0) rfl fps_nil) hM6)  hQ N _ _ trivial
      · exact hQ _ _ (eqo_tr (eqo_tr (eqo_wi (eqo_rf _) (i := 0) rfl (Or.inr rfl)) (fps_cons (i := 0) rfl fps_nil) hM2) (fps_cons (i := 0) rfl fps_nil) hM6)
    · refine an_m_throwsIf (fun r12 M13 hM13 => ?_)
      refine ⟨fun _ => ?_, fun _ => ?_⟩
      · refine an_m_dies_45 (eqo_tr (eqo_tr (eqo_wi (eqo_rf _) (i := 0) rfl (Or.inr rfl)) (fps_cons (i := 0) rfl fps_nil) hM2) (fps_cons (i := 0) rfl fps_nil) hM13)  hQ N _ _ trivial
      · exact hQ _ _ (eqo_tr (eqo_tr (eqo_wi (eqo_rf _) (i := 0) rfl (Or.inr rfl)) (fps_cons (i := 0) rfl fps_nil) hM2) (fps_cons (i := 0) rfl fps_nil) hM13)
  · exact hQ _ _ (eqo_tr (eqo_wi (eqo_rf _) (i := 0) rfl (Or.inr rfl)) (fps_cons (i := 0) rfl fps_nil) hM2)
def fp_m_heirs  : List (Nat × Nat × Option Nat) := [(190, 190, some 0)]
theorem an_m_heirs_47 {M0 : MM} {p1 : Int32} {M : MM} {Q : Int32 → MM → Prop} (hM : Eqo fp_m_heirs M0 M) (hQ : ∀ (r : Int32) (M1 : MM), Eqo fp_m_heirs M0 M1 → Q r M1) : ∀ (N : Nat) (v2 : Int32) (v3 : Int32), True → W_m_heirs_47 p1 M Q N v2 v3 := by
  refine I_m_heirs_47 p1 M Q (fun _ _ => True) (fun N ih v2 v3 hih _ => ?_)
  unfold B_m_heirs_47
  refine ⟨fun _ => ?_, fun _ => ?_⟩
  · refine an_m_inForce (fun r9 => ?_)
    refine ⟨fun _ => ?_, fun _ => ?_⟩
    · exact hih _ _ trivial
    · refine an_m_knowers (fun r12 => ?_)
      exact hih _ _ trivial
  · exact hQ _ _ hM
theorem an_m_heirs {p1 : Int32} {N : Nat} {M : MM} {Q : Int32 → MM → Prop} (hQ : ∀ (r : Int32) (M1 : MM), Eqo fp_m_heirs M M1 → Q r M1) : W_m_heirs p1 N M Q := by
  unfold W_m_heirs
  refine ⟨fun _ => ?_, fun _ => ?_⟩
  · refine an_m_throwsIf (fun r2 M3 hM3 => ?_)
    refine ⟨fun _ => ?_, fun _ => ?_⟩
    · refine an_m_alive (fun r5 => ?_)
      refine ⟨fun _ => ?_, fun _ => ?_⟩
      · exact hQ _ _ (eqo_tr (eqo_wi (eqo_rf _) (i := 0) rfl (Or.inr rfl)) (fps_cons (i := 0) rfl fps_nil) hM3)
      · refine an_m_heirs_47 (eqo_tr (eqo_wi (eqo_rf _) (i := 0) rfl (Or.inr rfl)) (fps_cons (i := 0) rfl fps_nil) hM3)  hQ N _ _ trivial
    · exact hQ _ _ (eqo_tr (eqo_wi (eqo_rf _) (i := 0) rfl (Or.inr rfl)) (fps_cons (i := 0) rfl fps_nil) hM3)
  · refine an_m_throwsIf (fun r14 M15 hM15 => ?_)
    refine ⟨fun _ => ?_, fun _ => ?_⟩
    · refine an_m_alive (fun r17 => ?_)
      refine ⟨fun _ => ?_, fun _ => ?_⟩
      · exact hQ _ _ (eqo_tr (eqo_wi (eqo_rf _) (i := 0) rfl (Or.inr rfl)) (fps_cons (i := 0) rfl fps_nil) hM15)
      · refine an_m_heirs_47 (eqo_tr (eqo_wi (eqo_rf _) (i := 0) rfl (Or.inr rfl)) (fps_cons (i := 0) rfl fps_nil) hM15)  hQ N _ _ trivial
    · exact hQ _ _ (eqo_tr (eqo_wi (eqo_rf _) (i := 0) rfl (Or.inr rfl)) (fps_cons (i := 0) rfl fps_nil) hM15)
def fp_m_riskOf  : List (Nat × Nat × Option Nat) := [(207, 207, none)]
theorem an_m_riskOf_12 {M0 : MM} {p1 : Int32} {p2 : Int32} {p3 : Int32} {u4 : Int32} {Q : Int32 → MM → Prop} (hQ : ∀ (r : Int32) (M1 : MM), Eqo fp_m_riskOf M0 M1 → Q r M1) : ∀ (N : Nat) (v5 : Int32) (v6 : Int32) (M : MM), Eqo fp_m_riskOf M0 M → W_m_riskOf_12 p1 p2 p3 u4 Q N v5 v6 M := by
  refine I_m_riskOf_12 p1 p2 p3 u4 Q (fun _ _ M => Eqo fp_m_riskOf M0 M) (fun N ih v5 v6 M hih hM => ?_)
  unfold B_m_riskOf_12
  refine ⟨fun _ => ?_, fun _ => ?_⟩
  · refine an_m_forbidding (fun r4 M5 hM5 => ?_)
    refine ⟨fun _ => ?_, fun _ => ?_⟩
    · exact hih _ _ _ (eqo_tr hM (fps_cons (i := 0) rfl fps_nil) hM5)
    · refine an_m_forbidding (fun r7 M8 hM8 => ?_)
      refine ⟨fun _ => ?_, fun _ => ?_⟩
      · exact hih _ _ _ (eqo_tr (eqo_tr hM (fps_cons (i := 0) rfl fps_nil) hM5) (fps_cons (i := 0) rfl fps_nil) hM8)
      · exact hih _ _ _ (eqo_tr (eqo_tr hM (fps_cons (i := 0) rfl fps_nil) hM5) (fps_cons (i := 0) rfl fps_nil) hM8)
  · exact hQ _ _ hM
theorem an_m_riskOf {p1 : Int32} {p2 : Int32} {p3 : Int32} {N : Nat} {M : MM} {Q : Int32 → MM → Prop} (hQ : ∀ (r : Int32) (M1 : MM), Eqo fp_m_riskOf M M1 → Q r M1) : W_m_riskOf p1 p2 p3 N M Q := by
  unfold W_m_riskOf
  refine an_m_inForce (fun r1 => ?_)
  refine an_m_riskOf_12   hQ N _ _ _ (eqo_rf _)
def fp_m_risk  : List (Nat × Nat × Option Nat) := [(190, 190, some 0), (207, 207, none)]
theorem an_m_risk {p1 : Int32} {p2 : Int32} {N : Nat} {M : MM} {Q : Int32 → MM → Prop} (hQ : ∀ (r : Int32) (M1 : MM), Eqo fp_m_risk M M1 → Q r M1) : W_m_risk p1 p2 N M Q := by
  unfold W_m_risk
  refine an_m_throwsIf (fun r1 M2 hM2 => ?_)
  refine ⟨fun _ => ?_, fun _ => ?_⟩
  · refine an_m_throwsIf (fun r4 M5 hM5 => ?_)
    refine ⟨fun _ => ?_, fun _ => ?_⟩
    · refine ⟨fun _ => ?_, fun _ => ?_⟩
      · refine an_m_throwsIf (fun r8 M9 hM9 => ?_)
        refine ⟨fun _ => ?_, fun _ => ?_⟩
        · refine an_m_riskOf (fun r11 M12 hM12 => ?_)
          exact hQ _ _ (eqo_tr (eqo_tr (eqo_tr (eqo_tr (eqo_wi (eqo_rf _) (i := 0) rfl (Or.inr rfl)) (fps_cons (i := 0) rfl fps_nil) hM2) (fps_cons (i := 0) rfl fps_nil) hM5) (fps_cons (i := 0) rfl fps_nil) hM9) (fps_cons (i := 1) rfl fps_nil) hM12)
        · exact hQ _ _ (eqo_tr (eqo_tr (eqo_tr (eqo_wi (eqo_rf _) (i := 0) rfl (Or.inr rfl)) (fps_cons (i := 0) rfl fps_nil) hM2) (fps_cons (i := 0) rfl fps_nil) hM5) (fps_cons (i := 0) rfl fps_nil) hM9)
      · refine an_m_throwsIf (fun r13 M14 hM14 => ?_)
        refine ⟨fun _ => ?_, fun _ => ?_⟩
        · refine an_m_riskOf (fun r16 M17 hM17 => ?_)
          exact hQ _ _ (eqo_tr (eqo_tr (eqo_tr (eqo_tr (eqo_wi (eqo_rf _) (i := 0) rfl (Or.inr rfl)) (fps_cons (i := 0) rfl fps_nil) hM2) (fps_cons (i := 0) rfl fps_nil) hM5) (fps_cons (i := 0) rfl fps_nil) hM14) (fps_cons (i := 1) rfl fps_nil) hM17)
        · exact hQ _ _ (eqo_tr (eqo_tr (eqo_tr (eqo_wi (eqo_rf _) (i := 0) rfl (Or.inr rfl)) (fps_cons (i := 0) rfl fps_nil) hM2) (fps_cons (i := 0) rfl fps_nil) hM5) (fps_cons (i := 0) rfl fps_nil) hM14)
    · exact hQ _ _ (eqo_tr (eqo_tr (eqo_wi (eqo_rf _) (i := 0) rfl (Or.inr rfl)) (fps_cons (i := 0) rfl fps_nil) hM2) (fps_cons (i := 0) rfl fps_nil) hM5)
  · exact hQ _ _ (eqo_tr (eqo_wi (eqo_rf _) (i := 0) rfl (Or.inr rfl)) (fps_cons (i := 0) rfl fps_nil) hM2)
def fp_m_safe  : List (Nat × Nat × Option Nat) := [(190, 190, some 0), (207, 207, none)]
theorem an_m_safe_64 {M0 : MM} {p1 : Int32} {p2 : Int32} {u3 : Int32} {Q : Int32 → MM → Prop} (hQ : ∀ (r : Int32) (M1 : MM), Eqo fp_m_safe M0 M1 → Q r M1) : ∀ (N : Nat) (v4 : Int32) (M : MM), Eqo fp_m_safe M0 M → W_m_safe_64 p1 p2 u3 Q N v4 M := by
  refine I_m_safe_64 p1 p2 u3 Q (fun _ M => Eqo fp_m_safe M0 M) (fun N ih v4 M hih hM => ?_)
  unfold B_m_safe_64
  refine ⟨fun _ => ?_, fun _ => ?_⟩
  · refine an_m_forbidsNow (fun r13 M14 hM14 => ?_)
    refine ⟨fun _ => ?_, fun _ => ?_⟩
    · exact hQ _ _ (eqo_tr hM (fps_cons (i := 1) rfl fps_nil) hM14)
    · exact hih _ _ (eqo_tr hM (fps_cons (i := 1) rfl fps_nil) hM14)
  · exact hQ _ _ hM
theorem an_m_safe {p1 : Int32} {p2 : Int32} {N : Nat} {M : MM} {Q : Int32 → MM → Prop} (hQ : ∀ (r : Int32) (M1 : MM), Eqo fp_m_safe M M1 → Q r M1) : W_m_safe p1 p2 N M Q := by
  unfold W_m_safe
  refine ⟨fun _ => ?_, fun _ => ?_⟩
  · refine ⟨fun _ => ?_, fun _ => ?_⟩
    · refine an_m_throwsIf (fun r3 M4 hM4 => ?_)
      refine ⟨fun _ => ?_, fun _ => ?_⟩
      · refine ⟨fun _ => ?_, fun _ => ?_⟩
        · refine an_m_throwsIf (fun r7 M8 hM8 => ?_)
          refine ⟨fun _ => ?_, fun _ => ?_⟩
          · refine an_m_inForce (fun r10 => ?_)
            refine an_m_safe_64   hQ N _ _ (eqo_tr (eqo_tr (eqo_wi (eqo_rf _) (i := 0) rfl (Or.inr rfl)) (fps_cons (i := 0) rfl fps_nil) hM4) (fps_cons (i := 0) rfl fps_nil) hM8)
          · exact hQ _ _ (eqo_tr (eqo_tr (eqo_wi (eqo_rf _) (i := 0) rfl (Or.inr rfl)) (fps_cons (i := 0) rfl fps_nil) hM4) (fps_cons (i := 0) rfl fps_nil) hM8)
        · refine an_m_throwsIf (fun r16 M17 hM17 => ?_)
          refine ⟨fun _ => ?_, fun _ => ?_⟩
          · refine an_m_inForce (fun r19 => ?_)
            refine an_m_safe_64   hQ N _ _ (eqo_tr (eqo_tr (eqo_wi (eqo_rf _) (i := 0) rfl (Or.inr rfl)) (fps_cons (i := 0) rfl fps_nil) hM4) (fps_cons (i := 0) rfl fps_nil) hM17)
          · exact hQ _ _ (eqo_tr (eqo_tr (eqo_wi (eqo_rf _) (i := 0) rfl (Or.inr rfl)) (fps_cons (i := 0) rfl fps_nil) hM4) (fps_cons (i := 0) rfl fps_nil) hM17)
      · exact hQ _ _ (eqo_tr (eqo_wi (eqo_rf _) (i := 0) rfl (Or.inr rfl)) (fps_cons (i := 0) rfl fps_nil) hM4)
    · refine an_m_throwsIf (fun r21 M22 hM22 => ?_)
      refine ⟨fun _ => ?_, fun _ => ?_⟩
      · refine ⟨fun _ => ?_, fun _ => ?_⟩
        · refine an_m_throwsIf (fun r25 M26 hM26 => ?_)
          refine ⟨fun _ => ?_, fun _ => ?_⟩
          · refine an_m_inForce (fun r28 => ?_)
            refine an_m_safe_64   hQ N _ _ (eqo_tr (eqo_tr (eqo_wi (eqo_rf _) (i := 0) rfl (Or.inr rfl)) (fps_cons (i := 0) rfl fps_nil) hM22) (fps_cons (i := 0) rfl fps_nil) hM26)
          · exact hQ _ _ (eqo_tr (eqo_tr (eqo_wi (eqo_rf _) (i := 0) rfl (Or.inr rfl)) (fps_cons (i := 0) rfl fps_nil) hM22) (fps_cons (i := 0) rfl fps_nil) hM26)
        · refine an_m_throwsIf (fun r30 M31 hM31 => ?_)
          refine ⟨fun _ => ?_, fun _ => ?_⟩
          · refine an_m_inForce (fun r33 => ?_)
            refine an_m_safe_64   hQ N _ _ (eqo_tr (eqo_tr (eqo_wi (eqo_rf _) (i := 0) rfl (Or.inr rfl)) (fps_cons (i := 0) rfl fps_nil) hM22) (fps_cons (i := 0) rfl fps_nil) hM31)
          · exact hQ _ _ (eqo_tr (eqo_tr (eqo_wi (eqo_rf _) (i := 0) rfl (Or.inr rfl)) (fps_cons (i := 0) rfl fps_nil) hM22) (fps_cons (i := 0) rfl fps_nil) hM31)
      · exact hQ _ _ (eqo_tr (eqo_wi (eqo_rf _) (i := 0) rfl (Or.inr rfl)) (fps_cons (i := 0) rfl fps_nil) hM22)
  · refine an_m_throwsIf (fun r35 M36 hM36 => ?_)
    refine ⟨fun _ => ?_, fun _ => ?_⟩
    · refine ⟨fun _ => ?_, fun _ => ?_⟩
      · refine an_m_throwsIf (fun r39 M40 hM40 => ?_)
        refine ⟨fun _ => ?_, fun _ => ?_⟩
        · refine an_m_inForce (fun r42 => ?_)
          refine an_m_safe_64   hQ N _ _ (eqo_tr (eqo_tr (eqo_wi (eqo_rf _) (i := 0) rfl (Or.inr rfl)) (fps_cons (i := 0) rfl fps_nil) hM36) (fps_cons (i := 0) rfl fps_nil) hM40)
        · exact hQ _ _ (eqo_tr (eqo_tr (eqo_wi (eqo_rf _) (i := 0) rfl (Or.inr rfl)) (fps_cons (i := 0) rfl fps_nil) hM36) (fps_cons (i := 0) rfl fps_nil) hM40)
      · refine an_m_throwsIf (fun r44 M45 hM45 => ?_)
        refine ⟨fun _ => ?_, fun _ => ?_⟩
        · refine an_m_inForce (fun r47 => ?_)
          refine an_m_safe_64   hQ N _ _ (eqo_tr (eqo_tr (eqo_wi (eqo_rf _) (i := 0) rfl (Or.inr rfl)) (fps_cons (i := 0) rfl fps_nil) hM36) (fps_cons (i := 0) rfl fps_nil) hM45)
        · exact hQ _ _ (eqo_tr (eqo_tr (eqo_wi (eqo_rf _) (i := 0) rfl (Or.inr rfl)) (fps_cons (i := 0) rfl fps_nil) hM36) (fps_cons (i := 0) rfl fps_nil) hM45)
    · exact hQ _ _ (eqo_tr (eqo_wi (eqo_rf _) (i := 0) rfl (Or.inr rfl)) (fps_cons (i := 0) rfl fps_nil) hM36)
def fp_m_better  : List (Nat × Nat × Option Nat) := [(190, 190, some 0), (207, 207, none)]
theorem an_m_better_58 {M0 : MM} {p1 : Int32} {p2 : Int32} {Q : Int32 → MM → Prop} (hQ : ∀ (r : Int32) (M1 : MM), Eqo fp_m_better M0 M1 → Q r M1) : ∀ (N : Nat) (v3 : Int32) (v4 : Int32) (M : MM), Eqo fp_m_better M0 M → W_m_better_58 p1 p2 Q N v3 v4 M := by
  refine I_m_better_58 p1 p2 Q (fun _ _ M => Eqo fp_m_better M0 M) (fun N ih v3 v4 M hih hM => ?_)
  unfold B_m_better_58
  refine ⟨fun _ => ?_, fun _ => ?_⟩
  · refine an_m_riskOf (fun r12 M13 hM13 => ?_)
    refine an_m_riskOf (fun r14 M15 hM15 => ?_)
    refine ⟨fun _ => ?_, fun _ => ?_⟩
    · exact hih _ _ _ (eqo_tr (eqo_tr hM (fps_cons (i := 1) rfl fps_nil) hM13) (fps_cons (i := 1) rfl fps_nil) hM15)
    · exact hih _ _ _ (eqo_tr (eqo_tr hM (fps_cons (i := 1) rfl fps_nil) hM13) (fps_cons (i := 1) rfl fps_nil) hM15)
  · exact hQ _ _ hM
theorem an_m_better {p1 : Int32} {p2 : Int32} {N : Nat} {M : MM} {Q : Int32 → MM → Prop} (hQ : ∀ (r : Int32) (M1 : MM), Eqo fp_m_better M M1 → Q r M1) : W_m_better p1 p2 N M Q := by
  unfold W_m_better
  refine an_m_throwsIf (fun r1 M2 hM2 => ?_)
  refine ⟨fun _ => ?_, fun _ => ?_⟩
  · refine an_m_throwsIf (fun r4 M5 hM5 => ?_)
    refine ⟨fun _ => ?_, fun _ => ?_⟩
    · refine ⟨fun _ => ?_, fun _ => ?_⟩
      · refine an_m_throwsIf (fun r8 M9 hM9 => ?_)
        refine ⟨fun _ => ?_, fun _ => ?_⟩
        · refine an_m_better_58   hQ N _ _ _ (eqo_tr (eqo_tr (eqo_tr (eqo_wi (eqo_rf _) (i := 0) rfl (Or.inr rfl)) (fps_cons (i := 0) rfl fps_nil) hM2) (fps_cons (i := 0) rfl fps_nil) hM5) (fps_cons (i := 0) rfl fps_nil) hM9)
        · exact hQ _ _ (eqo_tr (eqo_tr (eqo_tr (eqo_wi (eqo_rf _) (i := 0) rfl (Or.inr rfl)) (fps_cons (i := 0) rfl fps_nil) hM2) (fps_cons (i := 0) rfl fps_nil) hM5) (fps_cons (i := 0) rfl fps_nil) hM9)
      · refine an_m_throwsIf (fun r17 M18 hM18 => ?_)
        refine ⟨fun _ => ?_, fun _ => ?_⟩
        · refine an_m_better_58   hQ N _ _ _ (eqo_tr (eqo_tr (eqo_tr (eqo_wi (eqo_rf _) (i := 0) rfl (Or.inr rfl)) (fps_cons (i := 0) rfl fps_nil) hM2) (fps_cons (i := 0) rfl fps_nil) hM5) (fps_cons (i := 0) rfl fps_nil) hM18)
        · exact hQ _ _ (eqo_tr (eqo_tr (eqo_tr (eqo_wi (eqo_rf _) (i := 0) rfl (Or.inr rfl)) (fps_cons (i := 0) rfl fps_nil) hM2) (fps_cons (i := 0) rfl fps_nil) hM5) (fps_cons (i := 0) rfl fps_nil) hM18)
    · exact hQ _ _ (eqo_tr (eqo_tr (eqo_wi (eqo_rf _) (i := 0) rfl (Or.inr rfl)) (fps_cons (i := 0) rfl fps_nil) hM2) (fps_cons (i := 0) rfl fps_nil) hM5)
  · exact hQ _ _ (eqo_tr (eqo_wi (eqo_rf _) (i := 0) rfl (Or.inr rfl)) (fps_cons (i := 0) rfl fps_nil) hM2)
def fp_m_telling  : List (Nat × Nat × Option Nat) := [(190, 190, some 0), (207, 207, none), (191, 191, none)]
theorem an_m_telling_76 {M0 : MM} {p1 : Int32} {p2 : Int32} {u3 : Int32} {u6 : Int32} {u7 : Int32} {u8 : Int32} {k178 : Int32 → Int32 → MM → Prop} {Q : Int32 → MM → Prop} (hk178 : ∀ (v4 : Int32) (v5 : Int32) (M : MM), Eqo fp_m_telling M0 M → k178 v4 v5 M) (hQ : ∀ (r : Int32) (M1 : MM), Eqo fp_m_telling M0 M1 → Q r M1) : ∀ (N : Nat) (v4 : Int32) (v5 : Int32) (v9 : Int32) (M : MM), Eqo fp_m_telling M0 M → W_m_telling_76 p1 p2 u3 u6 u7 u8 k178 Q N v4 v5 v9 M := by
  refine I_m_telling_76 p1 p2 u3 u6 u7 u8 k178 Q (fun _ _ _ M => Eqo fp_m_telling M0 M) (fun N ih v4 v5 v9 M hih hM => ?_)
  unfold B_m_telling_76
  refine ⟨fun _ => ?_, fun _ => ?_⟩
  · refine ⟨fun _ => ?_, fun _ => ?_⟩
    · refine ⟨fun _ => ?_, fun _ => ?_⟩
      · exact hih _ _ _ _ hM
      · refine an_m_sets (fun M14 hM14 => ?_)
        refine an_m_riskOf (fun r15 M16 hM16 => ?_)
        refine an_m_sets (fun M18 hM18 => ?_)
        refine ⟨fun _ => ?_, fun _ => ?_⟩
        · exact hih _ _ _ _ (eqo_tr (eqo_tr (eqo_tr hM (fps_cons (i := 2) rfl fps_nil) hM14) (fps_cons (i := 1) rfl fps_nil) hM16) (fps_cons (i := 2) rfl fps_nil) hM18)
        · refine ⟨fun _ => ?_, fun _ => ?_⟩
          · exact hih _ _ _ _ (eqo_tr (eqo_tr (eqo_tr hM (fps_cons (i := 2) rfl fps_nil) hM14) (fps_cons (i := 1) rfl fps_nil) hM16) (fps_cons (i := 2) rfl fps_nil) hM18)
          · exact hih _ _ _ _ (eqo_tr (eqo_tr (eqo_tr hM (fps_cons (i := 2) rfl fps_nil) hM14) (fps_cons (i := 1) rfl fps_nil) hM16) (fps_cons (i := 2) rfl fps_nil) hM18)
    · exact hih _ _ _ _ hM
  · exact hk178 _ _ _ hM
theorem an_m_telling_33 {M0 : MM} {p1 : Int32} {p2 : Int32} {u3 : Int32} {Q : Int32 → MM → Prop} (hQ : ∀ (r : Int32) (M1 : MM), Eqo fp_m_telling M0 M1 → Q r M1) : ∀ (N : Nat) (v4 : Int32) (v5 : Int32) (v6 : Int32) (M : MM), Eqo fp_m_telling M0 M → W_m_telling_33 p1 p2 u3 Q N v4 v5 v6 M := by
  refine I_m_telling_33 p1 p2 u3 Q (fun _ _ _ M => Eqo fp_m_telling M0 M) (fun N ih v4 v5 v6 M hih hM => ?_)
  unfold B_m_telling_33
  refine ⟨fun _ => ?_, fun _ => ?_⟩
  · refine ⟨fun _ => ?_, fun _ => ?_⟩
    · exact hih _ _ _ _ hM
    · refine an_m_riskOf (fun r8 M9 hM9 => ?_)
      refine an_m_telling_76  (fun x21 x22 M23 hMM23 => ?_) hQ N _ _ _ _ (eqo_tr hM (fps_cons (i := 1) rfl fps_nil) hM9)
      · exact hih _ _ _ _ hMM23
  · refine ⟨fun _ => ?_, fun _ => ?_⟩
    · exact hQ _ _ hM
    · exact hQ _ _ hM
theorem an_m_telling {p1 : Int32} {p2 : Int32} {N : Nat} {M : MM} {Q : Int32 → MM → Prop} (hQ : ∀ (r : Int32) (M1 : MM), Eqo fp_m_telling M M1 → Q r M1) : W_m_telling p1 p2 N M Q := by
  unfold W_m_telling
  refine an_m_throwsIf (fun r1 M2 hM2 => ?_)
  refine ⟨fun _ => ?_, fun _ => ?_⟩
  · refine an_m_inForce (fun r4 => ?_)
    refine an_m_telling_33   hQ N _ _ _ _ (eqo_tr (eqo_wi (eqo_rf _) (i := 0) rfl (Or.inr rfl)) (fps_cons (i := 0) rfl fps_nil) hM2)
  · exact hQ _ _ (eqo_tr (eqo_wi (eqo_rf _) (i := 0) rfl (Or.inr rfl)) (fps_cons (i := 0) rfl fps_nil) hM2)
def fp_m_deduced  : List (Nat × Nat × Option Nat) := [(190, 190, some 0), (207, 207, none)]
theorem an_m_deduced_45 {M0 : MM} {p1 : Int32} {Q : Int32 → MM → Prop} (hQ : ∀ (r : Int32) (M1 : MM), Eqo fp_m_deduced M0 M1 → Q r M1) : ∀ (N : Nat) (v2 : Int32) (v3 : Int32) (M : MM), Eqo fp_m_deduced M0 M → W_m_deduced_45 p1 Q N v2 v3 M := by
  refine I_m_deduced_45 p1 Q (fun _ _ M => Eqo fp_m_deduced M0 M) (fun N ih v2 v3 M hih hM => ?_)
  unfold B_m_deduced_45
  refine ⟨fun _ => ?_, fun _ => ?_⟩
  · refine ⟨fun _ => ?_, fun _ => ?_⟩
    · exact hih _ _ _ hM
    · refine an_m_inForce (fun r10 => ?_)
      refine an_m_forbidsNow (fun r12 M13 hM13 => ?_)
      exact hih _ _ _ (eqo_tr hM (fps_cons (i := 1) rfl fps_nil) hM13)
  · exact hQ _ _ hM
theorem an_m_deduced {p1 : Int32} {N : Nat} {M : MM} {Q : Int32 → MM → Prop} (hQ : ∀ (r : Int32) (M1 : MM), Eqo fp_m_deduced M M1 → Q r M1) : W_m_deduced p1 N M Q := by
  unfold W_m_deduced
  refine an_m_throwsIf (fun r1 M2 hM2 => ?_)
  refine ⟨fun _ => ?_, fun _ => ?_⟩
  · refine ⟨fun _ => ?_, fun _ => ?_⟩
    · refine an_m_throwsIf (fun r5 M6 hM6 => ?_)
      refine ⟨fun _ => ?_, fun _ => ?_⟩
      · refine an_m_deduced_45   hQ N _ _ _ (eqo_tr (eqo_tr (eqo_wi (eqo_rf _) (i := 0) rfl (Or.inr rfl)) (fps_cons (i := 0) rfl fps_nil) hM2) (fps_cons (i := 0) rfl fps_nil) hM6)
      · exact hQ _ _ (eqo_tr (eqo_tr (eqo_wi (eqo_rf _) (i := 0) rfl (Or.inr rfl)) (fps_cons (i := 0) rfl fps_nil) hM2) (fps_cons (i := 0) rfl fps_nil) hM6)
    · refine an_m_throwsIf (fun r14 M15 hM15 => ?_)
      refine ⟨fun _ => ?_, fun _ => ?_⟩
      · refine an_m_deduced_45   hQ N _ _ _ (eqo_tr (eqo_tr (eqo_wi (eqo_rf _) (i := 0) rfl (Or.inr rfl)) (fps_cons (i := 0) rfl fps_nil) hM2) (fps_cons (i := 0) rfl fps_nil) hM15)
      · exact hQ _ _ (eqo_tr (eqo_tr (eqo_wi (eqo_rf _) (i := 0) rfl (Or.inr rfl)) (fps_cons (i := 0) rfl fps_nil) hM2) (fps_cons (i := 0) rfl fps_nil) hM15)
  · exact hQ _ _ (eqo_tr (eqo_wi (eqo_rf _) (i := 0) rfl (Or.inr rfl)) (fps_cons (i := 0) rfl fps_nil) hM2)
def fp_m_hush  : List (Nat × Nat × Option Nat) := [(190, 190, some 0), (207, 207, none)]
theorem an_m_hush_45 {M0 : MM} {p1 : Int32} {u3 : Int32} {k92 : Int32 → MM → Prop} {Q : Int32 → MM → Prop} (hk92 : ∀ (v2 : Int32) (M : MM), Eqo fp_m_hush M0 M → k92 v2 M) (hQ : ∀ (r : Int32) (M1 : MM), Eqo fp_m_hush M0 M1 → Q r M1) : ∀ (N : Nat) (v2 : Int32) (v4 : Int32) (M : MM), Eqo fp_m_hush M0 M → W_m_hush_45 p1 u3 k92 Q N v2 v4 M := by
  refine I_m_hush_45 p1 u3 k92 Q (fun _ _ M => Eqo fp_m_hush M0 M) (fun N ih v2 v4 M hih hM => ?_)
  unfold B_m_hush_45
  refine ⟨fun _ => ?_, fun _ => ?_⟩
  · refine ⟨fun _ => ?_, fun _ => ?_⟩
    · exact hih _ _ _ hM
    · refine an_m_may (fun r10 M11 hM11 => ?_)
      refine ⟨fun _ => ?_, fun _ => ?_⟩
      · exact hih _ _ _ (eqo_tr hM (fps_cons (i := 1) rfl fps_nil) hM11)
      · exact hih _ _ _ (eqo_tr hM (fps_cons (i := 1) rfl fps_nil) hM11)
  · exact hk92 _ _ hM
theorem an_m_hush_36 {M0 : MM} {p1 : Int32} {Q : Int32 → MM → Prop} (hQ : ∀ (r : Int32) (M1 : MM), Eqo fp_m_hush M0 M1 → Q r M1) : ∀ (N : Nat) (v2 : Int32) (v3 : Int32) (M : MM), Eqo fp_m_hush M0 M → W_m_hush_36 p1 Q N v2 v3 M := by
  refine I_m_hush_36 p1 Q (fun _ _ M => Eqo fp_m_hush M0 M) (fun N ih v2 v3 M hih hM => ?_)
  unfold B_m_hush_36
  refine ⟨fun _ => ?_, fun _ => ?_⟩
  · refine an_m_hush_45  (fun x13 M14 hMM14 => ?_) hQ N _ _ _ hM
    · exact hih _ _ _ hMM14
  · exact hQ _ _ hM
theorem an_m_hush {p1 : Int32} {N : Nat} {M : MM} {Q : Int32 → MM → Prop} (hQ : ∀ (r : Int32) (M1 : MM), Eqo fp_m_hush M M1 → Q r M1) : W_m_hush p1 N M Q := by
  unfold W_m_hush
  refine an_m_throwsIf (fun r1 M2 hM2 => ?_)
  refine ⟨fun _ => ?_, fun _ => ?_⟩
  · refine an_m_alive (fun r4 => ?_)
    refine ⟨fun _ => ?_, fun _ => ?_⟩
    · refine an_m_hush_36   hQ N _ _ _ (eqo_tr (eqo_wi (eqo_rf _) (i := 0) rfl (Or.inr rfl)) (fps_cons (i := 0) rfl fps_nil) hM2)
    · refine an_m_hush_36   hQ N _ _ _ (eqo_tr (eqo_wi (eqo_rf _) (i := 0) rfl (Or.inr rfl)) (fps_cons (i := 0) rfl fps_nil) hM2)
  · exact hQ _ _ (eqo_tr (eqo_wi (eqo_rf _) (i := 0) rfl (Or.inr rfl)) (fps_cons (i := 0) rfl fps_nil) hM2)
def fp_m_usual  : List (Nat × Nat × Option Nat) := [(190, 190, some 0), (212, 212, none)]
theorem an_m_usual_21 {M0 : MM} {p1 : Int32} {k40 : MM → Prop} {Q : Int32 → MM → Prop} (hk40 : ∀  (M : MM), Eqo fp_m_usual M0 M → k40 M) (hQ : ∀ (r : Int32) (M1 : MM), Eqo fp_m_usual M0 M1 → Q r M1) : ∀ (N : Nat) (v2 : Int32) (M : MM), Eqo fp_m_usual M0 M → W_m_usual_21 p1 k40 Q N v2 M := by
  refine I_m_usual_21 p1 k40 Q (fun _ M => Eqo fp_m_usual M0 M) (fun N ih v2 M hih hM => ?_)
  unfold B_m_usual_21
  refine ⟨fun _ => ?_, fun _ => ?_⟩
  · exact hih _ _ (eqo_wi hM (i := 1) rfl (Or.inl rfl))
  · exact hk40 _ hM
theorem an_m_usual_52 {M0 : MM} {p1 : Int32} {u2 : Int32} {k113 : MM → Prop} {Q : Int32 → MM → Prop} (hk113 : ∀  (M : MM), Eqo fp_m_usual M0 M → k113 M) (hQ : ∀ (r : Int32) (M1 : MM), Eqo fp_m_usual M0 M1 → Q r M1) : ∀ (N : Nat) (v3 : Int32) (M : MM), Eqo fp_m_usual M0 M → W_m_usual_52 p1 u2 k113 Q N v3 M := by
  refine I_m_usual_52 p1 u2 k113 Q (fun _ M => Eqo fp_m_usual M0 M) (fun N ih v3 M hih hM => ?_)
  unfold B_m_usual_52
  refine ⟨fun _ => ?_, fun _ => ?_⟩
  · exact hk113 _ hM
  · refine ⟨fun _ => ?_, fun _ => ?_⟩
    · refine ⟨fun _ => ?_, fun _ => ?_⟩
      · exact hih _ _ (eqo_wi hM (i := 1) rfl (Or.inl rfl))
      · exact hih _ _ hM
    · exact hk113 _ hM
theorem an_m_usual_42 {M0 : MM} {p1 : Int32} {k119 : MM → Prop} {Q : Int32 → MM → Prop} (hk119 : ∀  (M : MM), Eqo fp_m_usual M0 M → k119 M) (hQ : ∀ (r : Int32) (M1 : MM), Eqo fp_m_usual M0 M1 → Q r M1) : ∀ (N : Nat) (v2 : Int32) (M : MM), Eqo fp_m_usual M0 M → W_m_usual_42 p1 k119 Q N v2 M := by
  refine I_m_usual_42 p1 k119 Q (fun _ M => Eqo fp_m_usual M0 M) (fun N ih v2 M hih hM => ?_)
  unfold B_m_usual_42
  refine ⟨fun _ => ?_, fun _ => ?_⟩
  · refine an_m_usual_52  (fun M10 hMM10 => ?_) hQ N _ _ hM
    · exact hih _ _ hMM10
  · exact hk119 _ hM
theorem an_m_usual_123 {M0 : MM} {p1 : Int32} {M : MM} {Q : Int32 → MM → Prop} (hM : Eqo fp_m_usual M0 M) (hQ : ∀ (r : Int32) (M1 : MM), Eqo fp_m_usual M0 M1 → Q r M1) : ∀ (N : Nat) (v2 : Int32) (v3 : Int32), True → W_m_usual_123 p1 M Q N v2 v3 := by
  refine I_m_usual_123 p1 M Q (fun _ _ => True) (fun N ih v2 v3 hih _ => ?_)
  unfold B_m_usual_123
  refine ⟨fun _ => ?_, fun _ => ?_⟩
  · refine ⟨fun _ => ?_, fun _ => ?_⟩
    · refine ⟨fun _ => ?_, fun _ => ?_⟩
      · exact hih _ _ trivial
      · refine ⟨fun _ => ?_, fun _ => ?_⟩
        · exact hih _ _ trivial
        · exact hih _ _ trivial
    · exact hih _ _ trivial
  · exact hQ _ _ hM
theorem an_m_usual {p1 : Int32} {N : Nat} {M : MM} {Q : Int32 → MM → Prop} (hQ : ∀ (r : Int32) (M1 : MM), Eqo fp_m_usual M M1 → Q r M1) : W_m_usual p1 N M Q := by
  unfold W_m_usual
  refine an_m_throwsIf (fun r1 M2 hM2 => ?_)
  refine ⟨fun _ => ?_, fun _ => ?_⟩
  · refine an_m_usual_21  (fun M5 hMM5 => ?_) hQ N _ _ (eqo_tr (eqo_wi (eqo_rf _) (i := 0) rfl (Or.inr rfl)) (fps_cons (i := 0) rfl fps_nil) hM2)
    · refine an_m_usual_42  (fun M11 hMM11 => ?_) hQ N _ _ hMM5
      · refine an_m_usual_123 hMM11  hQ N _ _ trivial
  · exact hQ _ _ (eqo_tr (eqo_wi (eqo_rf _) (i := 0) rfl (Or.inr rfl)) (fps_cons (i := 0) rfl fps_nil) hM2)
def fp_m_feared  : List (Nat × Nat × Option Nat) := [(190, 190, some 0)]
theorem an_m_feared_15 {M0 : MM} {p1 : Int32} {M : MM} {Q : Int64 → MM → Prop} (hM : Eqo fp_m_feared M0 M) (hQ : ∀ (r : Int64) (M1 : MM), Eqo fp_m_feared M0 M1 → Q r M1) : ∀ (N : Nat) (v2 : Int64) (v4 : Int64) (v6 : Int32), True → W_m_feared_15 p1 M Q N v2 v4 v6 := by
  refine I_m_feared_15 p1 M Q (fun _ _ _ => True) (fun N ih v2 v4 v6 hih _ => ?_)
  unfold B_m_feared_15
  refine ⟨fun _ => ?_, fun _ => ?_⟩
  · refine ⟨fun _ => ?_, fun _ => ?_⟩
    · exact hih _ _ _ trivial
    · exact hih _ _ _ trivial
  · refine an_m_alive (fun r3 => ?_)
    refine ⟨fun _ => ?_, fun _ => ?_⟩
    · exact hQ _ _ hM
    · refine ⟨fun _ => ?_, fun _ => ?_⟩
      · exact hQ _ _ hM
      · exact hQ _ _ hM
theorem an_m_feared {p1 : Int32} {N : Nat} {M : MM} {Q : Int64 → MM → Prop} (hQ : ∀ (r : Int64) (M1 : MM), Eqo fp_m_feared M M1 → Q r M1) : W_m_feared p1 N M Q := by
  unfold W_m_feared
  refine an_m_feared_15 (eqo_wi (eqo_rf _) (i := 0) rfl (Or.inr rfl))  hQ N _ _ _ trivial
theorem an_m_halfOfOthers_28 {p1 : Int32} {u2 : Int32} {u3 : Int64} {u5 : Int32} {M : MM} {k83 : Int32 → Prop} {Q : Int64 → Prop} (hk83 : ∀ (v6 : Int32), k83 v6) (hQ : ∀ (r : Int64), Q r) : ∀ (N : Nat) (v6 : Int32) (v7 : Int32), True → W_m_halfOfOthers_28 p1 u2 u3 u5 M k83 Q N v6 v7 := by
  refine I_m_halfOfOthers_28 p1 u2 u3 u5 M k83 Q (fun _ _ => True) (fun N ih v6 v7 hih _ => ?_)
  unfold B_m_halfOfOthers_28
  refine ⟨fun _ => ?_, fun _ => ?_⟩
  · refine ⟨fun _ => ?_, fun _ => ?_⟩
    · exact hih _ _ trivial
    · refine ⟨fun _ => ?_, fun _ => ?_⟩
      · exact hih _ _ trivial
      · refine ⟨fun _ => ?_, fun _ => ?_⟩
        · exact hih _ _ trivial
        · exact hih _ _ trivial
  · exact hk83 _
theorem an_m_halfOfOthers_15 {p1 : Int32} {u2 : Int32} {M : MM} {Q : Int64 → Prop} (hQ : ∀ (r : Int64), Q r) : ∀ (N : Nat) (v3 : Int64) (v5 : Int32), True → W_m_halfOfOthers_15 p1 u2 M Q N v3 v5 := by
  refine I_m_halfOfOthers_15 p1 u2 M Q (fun _ _ => True) (fun N ih v3 v5 hih _ => ?_)
  unfold B_m_halfOfOthers_15
  refine ⟨fun _ => ?_, fun _ => ?_⟩
  · refine an_m_halfOfOthers_28  (fun x8 => ?_) hQ N _ _ trivial
    · refine ⟨fun _ => ?_, fun _ => ?_⟩
      · exact hih _ _ trivial
      · exact hih _ _ trivial
  · exact hQ _
theorem an_m_halfOfOthers {p1 : Int32} {N : Nat} {M : MM} {Q : Int64 → Prop} (hQ : ∀ (r : Int64), Q r) : W_m_halfOfOthers p1 N M Q := by
  unfold W_m_halfOfOthers
  refine an_m_alive (fun r1 => ?_)
  refine an_m_halfOfOthers_15   hQ N _ _ trivial
def fp_m_goesRound  : List (Nat × Nat × Option Nat) := [(213, 213, none), (214, 214, none)]
theorem an_m_goesRound_4 {M0 : MM} {Q : Int32 → MM → Prop} (hQ : ∀ (r : Int32) (M1 : MM), Eqo fp_m_goesRound M0 M1 → Q r M1) : ∀ (N : Nat) (v1 : Int32) (v2 : Int32) (M : MM), Eqo fp_m_goesRound M0 M → W_m_goesRound_4 Q N v1 v2 M := by
  refine I_m_goesRound_4 Q (fun _ _ M => Eqo fp_m_goesRound M0 M) (fun N ih v1 v2 M hih hM => ?_)
  unfold B_m_goesRound_4
  refine ⟨fun _ => ?_, fun _ => ?_⟩
  · refine ⟨fun _ => ?_, fun _ => ?_⟩
    · refine ⟨fun _ => ?_, fun _ => ?_⟩
      · refine ⟨fun _ => ?_, fun _ => ?_⟩
        · exact hih _ _ _ (eqo_wj hM (i := 1) rfl (Or.inl rfl))
        · exact hih _ _ _ (eqo_wj hM (i := 1) rfl (Or.inl rfl))
      · exact hih _ _ _ (eqo_wj hM (i := 1) rfl (Or.inl rfl))
    · refine an_m_halfOfOthers (fun r5 => ?_)
      refine ⟨fun _ => ?_, fun _ => ?_⟩
      · refine ⟨fun _ => ?_, fun _ => ?_⟩
        · exact hih _ _ _ (eqo_wj hM (i := 1) rfl (Or.inl rfl))
        · exact hih _ _ _ (eqo_wj hM (i := 1) rfl (Or.inl rfl))
      · exact hih _ _ _ (eqo_wj hM (i := 1) rfl (Or.inl rfl))
  · refine an_m_likensSeen (fun M10 hM10 => ?_)
    exact hQ _ _ (eqo_tr hM (fps_cons (i := 0) rfl fps_nil) hM10)
theorem an_m_goesRound  {N : Nat} {M : MM} {Q : Int32 → MM → Prop} (hQ : ∀ (r : Int32) (M1 : MM), Eqo fp_m_goesRound M M1 → Q r M1) : W_m_goesRound  N M Q := by
  unfold W_m_goesRound
  refine an_m_goesRound_4   hQ N _ _ _ (eqo_rf _)
theorem an_m_sumOf_4 {a : Nat} {M : MM} {Q : Int32 → Prop} (hQ : ∀ (r : Int32), Q r) : ∀ (N : Nat) (v2 : Int32) (v3 : Int32), True → W_m_sumOf_4 a M Q N v2 v3 := by
  refine I_m_sumOf_4 a M Q (fun _ _ => True) (fun N ih v2 v3 hih _ => ?_)
  unfold B_m_sumOf_4
  refine ⟨fun _ => ?_, fun _ => ?_⟩
  · refine ⟨fun _ => ?_, fun _ => ?_⟩
    · exact hih _ _ trivial
    · exact hih _ _ trivial
  · exact hQ _
theorem an_m_sumOf {a : Nat} {N : Nat} {M : MM} {Q : Int32 → Prop} (hQ : ∀ (r : Int32), Q r) : W_m_sumOf a N M Q := by
  unfold W_m_sumOf
  refine an_m_sumOf_4   hQ N _ _ trivial
def fp_m_custom  : List (Nat × Nat × Option Nat) := [(190, 190, some 0), (213, 213, none), (214, 214, none)]
theorem an_m_custom_45 {M0 : MM} {p1 : Int32} {Q : Int32 → MM → Prop} (hQ : ∀ (r : Int32) (M1 : MM), Eqo fp_m_custom M0 M1 → Q r M1) : ∀ (N : Nat) (v2 : Int32) (M : MM), Eqo fp_m_custom M0 M → W_m_custom_45 p1 Q N v2 M := by
  refine I_m_custom_45 p1 Q (fun _ M => Eqo fp_m_custom M0 M) (fun N ih v2 M hih hM => ?_)
  unfold B_m_custom_45
  refine ⟨fun _ => ?_, fun _ => ?_⟩
  · refine an_m_goesRound (fun r8 M9 hM9 => ?_)
    exact hih _ _ (eqo_tr hM (fps_cons (i := 1) rfl (fps_cons (i := 2) rfl fps_nil)) hM9)
  · refine an_m_sumOf (fun r10 => ?_)
    exact hQ _ _ hM
theorem an_m_custom {p1 : Int32} {N : Nat} {M : MM} {Q : Int32 → MM → Prop} (hQ : ∀ (r : Int32) (M1 : MM), Eqo fp_m_custom M M1 → Q r M1) : W_m_custom p1 N M Q := by
  unfold W_m_custom
  refine ⟨fun _ => ?_, fun _ => ?_⟩
  · refine an_m_throwsIf (fun r2 M3 hM3 => ?_)
    refine ⟨fun _ => ?_, fun _ => ?_⟩
    · refine an_m_likensSeen (fun M6 hM6 => ?_)
      refine an_m_custom_45   hQ N _ _ (eqo_tr (eqo_tr (eqo_wi (eqo_rf _) (i := 0) rfl (Or.inr rfl)) (fps_cons (i := 0) rfl fps_nil) hM3) (fps_cons (i := 1) rfl fps_nil) hM6)
    · exact hQ _ _ (eqo_tr (eqo_wi (eqo_rf _) (i := 0) rfl (Or.inr rfl)) (fps_cons (i := 0) rfl fps_nil) hM3)
  · refine an_m_throwsIf (fun r12 M13 hM13 => ?_)
    refine ⟨fun _ => ?_, fun _ => ?_⟩
    · refine an_m_likensSeen (fun M16 hM16 => ?_)
      refine an_m_custom_45   hQ N _ _ (eqo_tr (eqo_tr (eqo_wi (eqo_rf _) (i := 0) rfl (Or.inr rfl)) (fps_cons (i := 0) rfl fps_nil) hM13) (fps_cons (i := 1) rfl fps_nil) hM16)
    · exact hQ _ _ (eqo_tr (eqo_wi (eqo_rf _) (i := 0) rfl (Or.inr rfl)) (fps_cons (i := 0) rfl fps_nil) hM13)
def fp_m_settles  : List (Nat × Nat × Option Nat) := [(190, 190, some 0), (213, 213, none), (214, 214, none)]
theorem an_m_settles_20 {M0 : MM} {Q : Int32 → MM → Prop} (hQ : ∀ (r : Int32) (M1 : MM), Eqo fp_m_settles M0 M1 → Q r M1) : ∀ (N : Nat) (v1 : Int32) (M : MM), Eqo fp_m_settles M0 M → W_m_settles_20 Q N v1 M := by
  refine I_m_settles_20 Q (fun _ M => Eqo fp_m_settles M0 M) (fun N ih v1 M hih hM => ?_)
  unfold B_m_settles_20
  refine ⟨fun _ => ?_, fun _ => ?_⟩
  · exact hQ _ _ hM
  · refine an_m_goesRound (fun r4 M5 hM5 => ?_)
    refine ⟨fun _ => ?_, fun _ => ?_⟩
    · exact hQ _ _ (eqo_tr hM (fps_cons (i := 1) rfl (fps_cons (i := 2) rfl fps_nil)) hM5)
    · exact hih _ _ (eqo_tr hM (fps_cons (i := 1) rfl (fps_cons (i := 2) rfl fps_nil)) hM5)
theorem an_m_settles  {N : Nat} {M : MM} {Q : Int32 → MM → Prop} (hQ : ∀ (r : Int32) (M1 : MM), Eqo fp_m_settles M M1 → Q r M1) : W_m_settles  N M Q := by
  unfold W_m_settles
  refine an_m_likensSeen (fun M2 hM2 => ?_)
  refine an_m_settles_20   hQ N _ _ (eqo_tr (eqo_wi (eqo_rf _) (i := 0) rfl (Or.inr rfl)) (fps_cons (i := 1) rfl fps_nil) hM2)
def fp_m_worthOf  : List (Nat × Nat × Option Nat) := [(207, 207, none)]
theorem an_m_worthOf {p1 : Int32} {p2 : Int32} {N : Nat} {M : MM} {Q : Int32 → MM → Prop} (hQ : ∀ (r : Int32) (M1 : MM), Eqo fp_m_worthOf M M1 → Q r M1) : W_m_worthOf p1 p2 N M Q := by
  unfold W_m_worthOf
  refine an_m_inForce (fun r1 => ?_)
  refine an_m_forbidsNow (fun r3 M4 hM4 => ?_)
  refine ⟨fun _ => ?_, fun _ => ?_⟩
  · exact hQ _ _ (eqo_tr (eqo_rf _) (fps_cons (i := 0) rfl fps_nil) hM4)
  · exact hQ _ _ (eqo_tr (eqo_rf _) (fps_cons (i := 0) rfl fps_nil) hM4)
def fp_m_worthiest  : List (Nat × Nat × Option Nat) := [(207, 207, none)]
theorem an_m_worthiest_5 {M0 : MM} {p1 : Int32} {p2 : Int32} {Q : Int32 → MM → Prop} (hQ : ∀ (r : Int32) (M1 : MM), Eqo fp_m_worthiest M0 M1 → Q r M1) : ∀ (N : Nat) (v3 : Int32) (v4 : Int32) (M : MM), Eqo fp_m_worthiest M0 M → W_m_worthiest_5 p1 p2 Q N v3 v4 M := by
  refine I_m_worthiest_5 p1 p2 Q (fun _ _ M => Eqo fp_m_worthiest M0 M) (fun N ih v3 v4 M hih hM => ?_)
  unfold B_m_worthiest_5
  refine ⟨fun _ => ?_, fun _ => ?_⟩
  · refine ⟨fun _ => ?_, fun _ => ?_⟩
    · exact hih _ _ _ hM
    · refine ⟨fun _ => ?_, fun _ => ?_⟩
      · exact hih _ _ _ hM
      · refine an_m_worthOf (fun r4 M5 hM5 => ?_)
        refine an_m_worthOf (fun r6 M7 hM7 => ?_)
        refine ⟨fun _ => ?_, fun _ => ?_⟩
        · exact hih _ _ _ (eqo_tr (eqo_tr hM (fps_cons (i := 0) rfl fps_nil) hM5) (fps_cons (i := 0) rfl fps_nil) hM7)
        · exact hih _ _ _ (eqo_tr (eqo_tr hM (fps_cons (i := 0) rfl fps_nil) hM5) (fps_cons (i := 0) rfl fps_nil) hM7)
  · exact hQ _ _ hM
theorem an_m_worthiest {p1 : Int32} {p2 : Int32} {N : Nat} {M : MM} {Q : Int32 → MM → Prop} (hQ : ∀ (r : Int32) (M1 : MM), Eqo fp_m_worthiest M M1 → Q r M1) : W_m_worthiest p1 p2 N M Q := by
  unfold W_m_worthiest
  refine an_m_worthiest_5   hQ N _ _ _ (eqo_rf _)
def fp_m_provoked  : List (Nat × Nat × Option Nat) := [(190, 190, some 0), (207, 207, none)]
theorem an_m_provoked {p1 : Int32} {p2 : Int32} {N : Nat} {M : MM} {Q : Int32 → MM → Prop} (hQ : ∀ (r : Int32) (M1 : MM), Eqo fp_m_provoked M M1 → Q r M1) : W_m_provoked p1 p2 N M Q := by
  unfold W_m_provoked
  refine an_m_throwsIf (fun r1 M2 hM2 => ?_)
  refine ⟨fun _ => ?_, fun _ => ?_⟩
  · refine ⟨fun _ => ?_, fun _ => ?_⟩
    · refine an_m_throwsIf (fun r5 M6 hM6 => ?_)
      refine ⟨fun _ => ?_, fun _ => ?_⟩
      · refine an_m_worthiest (fun r8 M9 hM9 => ?_)
        refine ⟨fun _ => ?_, fun _ => ?_⟩
        · refine ⟨fun _ => ?_, fun _ => ?_⟩
          · exact hQ _ _ (eqo_tr (eqo_tr (eqo_tr (eqo_wi (eqo_rf _) (i := 0) rfl (Or.inr rfl)) (fps_cons (i := 0) rfl fps_nil) hM2) (fps_cons (i := 0) rfl fps_nil) hM6) (fps_cons (i := 1) rfl fps_nil) hM9)
          · refine an_m_worthOf (fun r12 M13 hM13 => ?_)
            exact hQ _ _ (eqo_tr (eqo_tr (eqo_tr (eqo_tr (eqo_wi (eqo_rf _) (i := 0) rfl (Or.inr rfl)) (fps_cons (i := 0) rfl fps_nil) hM2) (fps_cons (i := 0) rfl fps_nil) hM6) (fps_cons (i := 1) rfl fps_nil) hM9) (fps_cons (i := 1) rfl fps_nil) hM13)
        · refine an_m_worthiest (fun r14 M15 hM15 => ?_)
          refine ⟨fun _ => ?_, fun _ => ?_⟩
          · exact hQ _ _ (eqo_tr (eqo_tr (eqo_tr (eqo_tr (eqo_wi (eqo_rf _) (i := 0) rfl (Or.inr rfl)) (fps_cons (i := 0) rfl fps_nil) hM2) (fps_cons (i := 0) rfl fps_nil) hM6) (fps_cons (i := 1) rfl fps_nil) hM9) (fps_cons (i := 1) rfl fps_nil) hM15)
          · refine an_m_worthOf (fun r17 M18 hM18 => ?_)
            exact hQ _ _ (eqo_tr (eqo_tr (eqo_tr (eqo_tr (eqo_tr (eqo_wi (eqo_rf _) (i := 0) rfl (Or.inr rfl)) (fps_cons (i := 0) rfl fps_nil) hM2) (fps_cons (i := 0) rfl fps_nil) hM6) (fps_cons (i := 1) rfl fps_nil) hM9) (fps_cons (i := 1) rfl fps_nil) hM15) (fps_cons (i := 1) rfl fps_nil) hM18)
      · exact hQ _ _ (eqo_tr (eqo_tr (eqo_wi (eqo_rf _) (i := 0) rfl (Or.inr rfl)) (fps_cons (i := 0) rfl fps_nil) hM2) (fps_cons (i := 0) rfl fps_nil) hM6)
    · refine an_m_throwsIf (fun r19 M20 hM20 => ?_)
      refine ⟨fun _ => ?_, fun _ => ?_⟩
      · refine an_m_worthiest (fun r22 M23 hM23 => ?_)
        refine ⟨fun _ => ?_, fun _ => ?_⟩
        · refine ⟨fun _ => ?_, fun _ => ?_⟩
          · exact hQ _ _ (eqo_tr (eqo_tr (eqo_tr (eqo_wi (eqo_rf _) (i := 0) rfl (Or.inr rfl)) (fps_cons (i := 0) rfl fps_nil) hM2) (fps_cons (i := 0) rfl fps_nil) hM20) (fps_cons (i := 1) rfl fps_nil) hM23)
          · refine an_m_worthOf (fun r26 M27 hM27 => ?_)
            exact hQ _ _ (eqo_tr (eqo_tr (eqo_tr (eqo_tr (eqo_wi (eqo_rf _) (i := 0) rfl (Or.inr rfl)) (fps_cons (i := 0) rfl fps_nil) hM2) (fps_cons (i := 0) rfl fps_nil) hM20) (fps_cons (i := 1) rfl fps_nil) hM23) (fps_cons (i := 1) rfl fps_nil) hM27)
        · refine an_m_worthiest (fun r28 M29 hM29 => ?_)
          refine ⟨fun _ => ?_, fun _ => ?_⟩
          · exact hQ _ _ (eqo_tr (eqo_tr (eqo_tr (eqo_tr (eqo_wi (eqo_rf _) (i := 0) rfl (Or.inr rfl)) (fps_cons (i := 0) rfl fps_nil) hM2) (fps_cons (i := 0) rfl fps_nil) hM20) (fps_cons (i := 1) rfl fps_nil) hM23) (fps_cons (i := 1) rfl fps_nil) hM29)
          · refine an_m_worthOf (fun r31 M32 hM32 => ?_)
            exact hQ _ _ (eqo_tr (eqo_tr (eqo_tr (eqo_tr (eqo_tr (eqo_wi (eqo_rf _) (i := 0) rfl (Or.inr rfl)) (fps_cons (i := 0) rfl fps_nil) hM2) (fps_cons (i := 0) rfl fps_nil) hM20) (fps_cons (i := 1) rfl fps_nil) hM23) (fps_cons (i := 1) rfl fps_nil) hM29) (fps_cons (i := 1) rfl fps_nil) hM32)
      · exact hQ _ _ (eqo_tr (eqo_tr (eqo_wi (eqo_rf _) (i := 0) rfl (Or.inr rfl)) (fps_cons (i := 0) rfl fps_nil) hM2) (fps_cons (i := 0) rfl fps_nil) hM20)
  · exact hQ _ _ (eqo_tr (eqo_wi (eqo_rf _) (i := 0) rfl (Or.inr rfl)) (fps_cons (i := 0) rfl fps_nil) hM2)
def fp_m_crowd  : List (Nat × Nat × Option Nat) := [(190, 190, some 0)]
theorem an_m_crowd_47 {M0 : MM} {p1 : Int32} {p2 : Int32} {M : MM} {Q : Int32 → MM → Prop} (hM : Eqo fp_m_crowd M0 M) (hQ : ∀ (r : Int32) (M1 : MM), Eqo fp_m_crowd M0 M1 → Q r M1) : ∀ (N : Nat) (v3 : Int32) (v4 : Int32), True → W_m_crowd_47 p1 p2 M Q N v3 v4 := by
  refine I_m_crowd_47 p1 p2 M Q (fun _ _ => True) (fun N ih v3 v4 hih _ => ?_)
  unfold B_m_crowd_47
  refine ⟨fun _ => ?_, fun _ => ?_⟩
  · refine ⟨fun _ => ?_, fun _ => ?_⟩
    · exact hih _ _ trivial
    · refine ⟨fun _ => ?_, fun _ => ?_⟩
      · exact hih _ _ trivial
      · exact hih _ _ trivial
  · exact hQ _ _ hM
theorem an_m_crowd {p1 : Int32} {p2 : Int32} {N : Nat} {M : MM} {Q : Int32 → MM → Prop} (hQ : ∀ (r : Int32) (M1 : MM), Eqo fp_m_crowd M M1 → Q r M1) : W_m_crowd p1 p2 N M Q := by
  unfold W_m_crowd
  refine an_m_throwsIf (fun r1 M2 hM2 => ?_)
  refine ⟨fun _ => ?_, fun _ => ?_⟩
  · refine ⟨fun _ => ?_, fun _ => ?_⟩
    · refine an_m_throwsIf (fun r5 M6 hM6 => ?_)
      refine ⟨fun _ => ?_, fun _ => ?_⟩
      · refine an_m_crowd_47 (eqo_tr (eqo_tr (eqo_wi (eqo_rf _) (i := 0) rfl (Or.inr rfl)) (fps_cons (i := 0) rfl fps_nil) hM2) (fps_cons (i := 0) rfl fps_nil) hM6)  hQ N _ _ trivial
      · exact hQ _ _ (eqo_tr (eqo_tr (eqo_wi (eqo_rf _) (i := 0) rfl (Or.inr rfl)) (fps_cons (i := 0) rfl fps_nil) hM2) (fps_cons (i := 0) rfl fps_nil) hM6)
    · refine an_m_throwsIf (fun r11 M12 hM12 => ?_)
      refine ⟨fun _ => ?_, fun _ => ?_⟩
      · refine an_m_crowd_47 (eqo_tr (eqo_tr (eqo_wi (eqo_rf _) (i := 0) rfl (Or.inr rfl)) (fps_cons (i := 0) rfl fps_nil) hM2) (fps_cons (i := 0) rfl fps_nil) hM12)  hQ N _ _ trivial
      · exact hQ _ _ (eqo_tr (eqo_tr (eqo_wi (eqo_rf _) (i := 0) rfl (Or.inr rfl)) (fps_cons (i := 0) rfl fps_nil) hM2) (fps_cons (i := 0) rfl fps_nil) hM12)
  · exact hQ _ _ (eqo_tr (eqo_wi (eqo_rf _) (i := 0) rfl (Or.inr rfl)) (fps_cons (i := 0) rfl fps_nil) hM2)
def fp_m_witnesses  : List (Nat × Nat × Option Nat) := [(190, 190, some 0)]
theorem an_m_witnesses_67 {M0 : MM} {p1 : Int32} {p2 : Int32} {p3 : Int32} {M : MM} {Q : Int32 → MM → Prop} (hM : Eqo fp_m_witnesses M0 M) (hQ : ∀ (r : Int32) (M1 : MM), Eqo fp_m_witnesses M0 M1 → Q r M1) : ∀ (N : Nat) (v4 : Int32) (v5 : Int32), True → W_m_witnesses_67 p1 p2 p3 M Q N v4 v5 := by
  refine I_m_witnesses_67 p1 p2 p3 M Q (fun _ _ => True) (fun N ih v4 v5 hih _ => ?_)
  unfold B_m_witnesses_67
  refine ⟨fun _ => ?_, fun _ => ?_⟩
  · refine ⟨fun _ => ?_, fun _ => ?_⟩
    · exact hih _ _ trivial
    · exact hih _ _ trivial
  · exact hQ _ _ hM
theorem an_m_witnesses {p1 : Int32} {p2 : Int32} {p3 : Int32} {N : Nat} {M : MM} {Q : Int32 → MM → Prop} (hQ : ∀ (r : Int32) (M1 : MM), Eqo fp_m_witnesses M M1 → Q r M1) : W_m_witnesses p1 p2 p3 N M Q := by
  unfold W_m_witnesses
  refine ⟨fun _ => ?_, fun _ => ?_⟩
  · refine ⟨fun _ => ?_, fun _ => ?_⟩
    · refine an_m_throwsIf (fun r3 M4 hM4 => ?_)
      refine ⟨fun _ => ?_, fun _ => ?_⟩
      · refine ⟨fun _ => ?_, fun _ => ?_⟩
        · refine an_m_throwsIf (fun r7 M8 hM8 => ?_)
          refine ⟨fun _ => ?_, fun _ => ?_⟩
          · refine an_m_witnesses_67 (eqo_tr (eqo_tr (eqo_wi (eqo_rf _) (i := 0) rfl (Or.inr rfl)) (fps_cons (i := 0) rfl fps_nil) hM4) (fps_cons (i := 0) rfl fps_nil) hM8)  hQ N _ _ trivial
          · exact hQ _ _ (eqo_tr (eqo_tr (eqo_wi (eqo_rf _) (i := 0) rfl (Or.inr rfl)) (fps_cons (i := 0) rfl fps_nil) hM4) (fps_cons (i := 0) rfl fps_nil) hM8)
        · refine ⟨fun _ => ?_, fun _ => ?_⟩
          · refine an_m_throwsIf (fun r13 M14 hM14 => ?_)
            refine ⟨fun _ => ?_, fun _ => ?_⟩
            · refine an_m_witnesses_67 (eqo_tr (eqo_tr (eqo_wi (eqo_rf _) (i := 0) rfl (Or.inr rfl)) (fps_cons (i := 0) rfl fps_nil) hM4) (fps_cons (i := 0) rfl fps_nil) hM14)  hQ N _ _ trivial
            · exact hQ _ _ (eqo_tr (eqo_tr (eqo_wi (eqo_rf _) (i := 0) rfl (Or.inr rfl)) (fps_cons (i := 0) rfl fps_nil) hM4) (fps_cons (i := 0) rfl fps_nil) hM14)
          · refine an_m_throwsIf (fun r16 M17 hM17 => ?_)
            refine ⟨fun _ => ?_, fun _ => ?_⟩
            · refine an_m_witnesses_67 (eqo_tr (eqo_tr (eqo_wi (eqo_rf _) (i := 0) rfl (Or.inr rfl)) (fps_cons (i := 0) rfl fps_nil) hM4) (fps_cons (i := 0) rfl fps_nil) hM17)  hQ N _ _ trivial
            · exact hQ _ _ (eqo_tr (eqo_tr (eqo_wi (eqo_rf _) (i := 0) rfl (Or.inr rfl)) (fps_cons (i := 0) rfl fps_nil) hM4) (fps_cons (i := 0) rfl fps_nil) hM17)
      · exact hQ _ _ (eqo_tr (eqo_wi (eqo_rf _) (i := 0) rfl (Or.inr rfl)) (fps_cons (i := 0) rfl fps_nil) hM4)
    · refine an_m_throwsIf (fun r19 M20 hM20 => ?_)
      refine ⟨fun _ => ?_, fun _ => ?_⟩
      · refine ⟨fun _ => ?_, fun _ => ?_⟩
        · refine an_m_throwsIf (fun r23 M24 hM24 => ?_)
          refine ⟨fun _ => ?_, fun _ => ?_⟩
          · refine an_m_witnesses_67 (eqo_tr (eqo_tr (eqo_wi (eqo_rf _) (i := 0) rfl (Or.inr rfl)) (fps_cons (i := 0) rfl fps_nil) hM20) (fps_cons (i := 0) rfl fps_nil) hM24)  hQ N _ _ trivial
          · exact hQ _ _ (eqo_tr (eqo_tr (eqo_wi (eqo_rf _) (i := 0) rfl (Or.inr rfl)) (fps_cons (i := 0) rfl fps_nil) hM20) (fps_cons (i := 0) rfl fps_nil) hM24)
        · refine ⟨fun _ => ?_, fun _ => ?_⟩
          · refine an_m_throwsIf (fun r27 M28 hM28 => ?_)
            refine ⟨fun _ => ?_, fun _ => ?_⟩
            · refine an_m_witnesses_67 (eqo_tr (eqo_tr (eqo_wi (eqo_rf _) (i := 0) rfl (Or.inr rfl)) (fps_cons (i := 0) rfl fps_nil) hM20) (fps_cons (i := 0) rfl fps_nil) hM28)  hQ N _ _ trivial
            · exact hQ _ _ (eqo_tr (eqo_tr (eqo_wi (eqo_rf _) (i := 0) rfl (Or.inr rfl)) (fps_cons (i := 0) rfl fps_nil) hM20) (fps_cons (i := 0) rfl fps_nil) hM28)
          · refine an_m_throwsIf (fun r30 M31 hM31 => ?_)
            refine ⟨fun _ => ?_, fun _ => ?_⟩
            · refine an_m_witnesses_67 (eqo_tr (eqo_tr (eqo_wi (eqo_rf _) (i := 0) rfl (Or.inr rfl)) (fps_cons (i := 0) rfl fps_nil) hM20) (fps_cons (i := 0) rfl fps_nil) hM31)  hQ N _ _ trivial
            · exact hQ _ _ (eqo_tr (eqo_tr (eqo_wi (eqo_rf _) (i := 0) rfl (Or.inr rfl)) (fps_cons (i := 0) rfl fps_nil) hM20) (fps_cons (i := 0) rfl fps_nil) hM31)
      · exact hQ _ _ (eqo_tr (eqo_wi (eqo_rf _) (i := 0) rfl (Or.inr rfl)) (fps_cons (i := 0) rfl fps_nil) hM20)
  · refine an_m_throwsIf (fun r33 M34 hM34 => ?_)
    refine ⟨fun _ => ?_, fun _ => ?_⟩
    · refine ⟨fun _ => ?_, fun _ => ?_⟩
      · refine an_m_throwsIf (fun r37 M38 hM38 => ?_)
        refine ⟨fun _ => ?_, fun _ => ?_⟩
        · refine an_m_witnesses_67 (eqo_tr (eqo_tr (eqo_wi (eqo_rf _) (i := 0) rfl (Or.inr rfl)) (fps_cons (i := 0) rfl fps_nil) hM34) (fps_cons (i := 0) rfl fps_nil) hM38)  hQ N _ _ trivial
        · exact hQ _ _ (eqo_tr (eqo_tr (eqo_wi (eqo_rf _) (i := 0) rfl (Or.inr rfl)) (fps_cons (i := 0) rfl fps_nil) hM34) (fps_cons (i := 0) rfl fps_nil) hM38)
      · refine ⟨fun _ => ?_, fun _ => ?_⟩
        · refine an_m_throwsIf (fun r41 M42 hM42 => ?_)
          refine ⟨fun _ => ?_, fun _ => ?_⟩
          · refine an_m_witnesses_67 (eqo_tr (eqo_tr (eqo_wi (eqo_rf _) (i := 0) rfl (Or.inr rfl)) (fps_cons (i := 0) rfl fps_nil) hM34) (fps_cons (i := 0) rfl fps_nil) hM42)  hQ N _ _ trivial
          · exact hQ _ _ (eqo_tr (eqo_tr (eqo_wi (eqo_rf _) (i := 0) rfl (Or.inr rfl)) (fps_cons (i := 0) rfl fps_nil) hM34) (fps_cons (i := 0) rfl fps_nil) hM42)
        · refine an_m_throwsIf (fun r44 M45 hM45 => ?_)
          refine ⟨fun _ => ?_, fun _ => ?_⟩
          · refine an_m_witnesses_67 (eqo_tr (eqo_tr (eqo_wi (eqo_rf _) (i := 0) rfl (Or.inr rfl)) (fps_cons (i := 0) rfl fps_nil) hM34) (fps_cons (i := 0) rfl fps_nil) hM45)  hQ N _ _ trivial
          · exact hQ _ _ (eqo_tr (eqo_tr (eqo_wi (eqo_rf _) (i := 0) rfl (Or.inr rfl)) (fps_cons (i := 0) rfl fps_nil) hM34) (fps_cons (i := 0) rfl fps_nil) hM45)
    · exact hQ _ _ (eqo_tr (eqo_wi (eqo_rf _) (i := 0) rfl (Or.inr rfl)) (fps_cons (i := 0) rfl fps_nil) hM34)
def fp_m_keepsAll  : List (Nat × Nat × Option Nat) := [(194, 194, none), (199, 199, none)]
theorem an_m_keepsAll  {N : Nat} {M : MM} {Q : MM → Prop} (hQ : ∀  (M1 : MM), Eqo fp_m_keepsAll M M1 → Q M1) : W_m_keepsAll  N M Q := by
  unfold W_m_keepsAll
  refine an_m_likens (fun M2 hM2 => ?_)
  refine an_m_likensSeen (fun M4 hM4 => ?_)
  exact hQ _ (eqo_tr (eqo_tr (eqo_rf _) (fps_cons (i := 0) rfl fps_nil) hM2) (fps_cons (i := 1) rfl fps_nil) hM4)
def fp_m_bringsBack  : List (Nat × Nat × Option Nat) := [(191, 191, none), (196, 196, none)]
theorem an_m_bringsBack  {N : Nat} {M : MM} {Q : MM → Prop} (hQ : ∀  (M1 : MM), Eqo fp_m_bringsBack M M1 → Q M1) : W_m_bringsBack  N M Q := by
  unfold W_m_bringsBack
  refine an_m_likens (fun M2 hM2 => ?_)
  refine an_m_likensSeen (fun M4 hM4 => ?_)
  exact hQ _ (eqo_tr (eqo_tr (eqo_rf _) (fps_cons (i := 0) rfl fps_nil) hM2) (fps_cons (i := 1) rfl fps_nil) hM4)
theorem an_m_takenNow_4 {M : MM} {Q : Int32 → Prop} (hQ : ∀ (r : Int32), Q r) : ∀ (N : Nat) (v1 : Int32) (v2 : Int32), True → W_m_takenNow_4 M Q N v1 v2 := by
  refine I_m_takenNow_4 M Q (fun _ _ => True) (fun N ih v1 v2 hih _ => ?_)
  unfold B_m_takenNow_4
  refine ⟨fun _ => ?_, fun _ => ?_⟩
  · refine ⟨fun _ => ?_, fun _ => ?_⟩
    · exact hih _ _ trivial
    · exact hih _ _ trivial
  · exact hQ _
theorem an_m_takenNow  {N : Nat} {M : MM} {Q : Int32 → Prop} (hQ : ∀ (r : Int32), Q r) : W_m_takenNow  N M Q := by
  unfold W_m_takenNow
  refine an_m_takenNow_4   hQ N _ _ trivial
def fp_m_trial  : List (Nat × Nat × Option Nat) := [(190, 190, some 0), (194, 194, none), (199, 199, none), (191, 191, none), (196, 196, none), (190, 190, some 29), (190, 190, some 30), (207, 207, none)]
theorem an_m_trial_58 {M0 : MM} {p1 : Int32} {p2 : Int32} {k73 : MM → Prop} {Q : Int32 → MM → Prop} (hk73 : ∀  (M : MM), Eqo fp_m_trial M0 M → k73 M) (hQ : ∀ (r : Int32) (M1 : MM), Eqo fp_m_trial M0 M1 → Q r M1) : ∀ (N : Nat) (v3 : Int32) (M : MM), Eqo fp_m_trial M0 M → W_m_trial_58 p1 p2 k73 Q N v3 M := by
  refine I_m_trial_58 p1 p2 k73 Q (fun _ M => Eqo fp_m_trial M0 M) (fun N ih v3 M hih hM => ?_)
  unfold B_m_trial_58
  refine ⟨fun _ => ?_, fun _ => ?_⟩
  · refine an_m_oneDay (fun M13 hM13 => ?_)
    exact hih _ _ (eqo_tr hM (fps_cons (i := 5) rfl (fps_cons (i := 6) rfl (fps_cons (i := 3) rfl (fps_cons (i := 4) rfl (fps_cons (i := 7) rfl fps_nil))))) hM13)
  · exact hk73 _ hM
theorem an_m_trial {p1 : Int32} {p2 : Int32} {N : Nat} {M : MM} {Q : Int32 → MM → Prop} (hQ : ∀ (r : Int32) (M1 : MM), Eqo fp_m_trial M M1 → Q r M1) : W_m_trial p1 p2 N M Q := by
  unfold W_m_trial
  refine ⟨fun _ => ?_, fun _ => ?_⟩
  · refine an_m_throwsIf (fun r2 M3 hM3 => ?_)
    refine ⟨fun _ => ?_, fun _ => ?_⟩
    · refine ⟨fun _ => ?_, fun _ => ?_⟩
      · refine an_m_throwsIf (fun r6 M7 hM7 => ?_)
        refine ⟨fun _ => ?_, fun _ => ?_⟩
        · refine an_m_keepsAll (fun M10 hM10 => ?_)
          refine an_m_trial_58  (fun M14 hMM14 => ?_) hQ N _ _ (eqo_tr (eqo_tr (eqo_tr (eqo_wi (eqo_rf _) (i := 0) rfl (Or.inr rfl)) (fps_cons (i := 0) rfl fps_nil) hM3) (fps_cons (i := 0) rfl fps_nil) hM7) (fps_cons (i := 1) rfl (fps_cons (i := 2) rfl fps_nil)) hM10)
          · refine ⟨fun _ => ?_, fun _ => ?_⟩
            · refine an_m_bringsBack (fun M17 hM17 => ?_)
              exact hQ _ _ (eqo_tr hMM14 (fps_cons (i := 3) rfl (fps_cons (i := 4) rfl fps_nil)) hM17)
            · refine ⟨fun _ => ?_, fun _ => ?_⟩
              · refine an_m_bringsBack (fun M20 hM20 => ?_)
                exact hQ _ _ (eqo_tr hMM14 (fps_cons (i := 3) rfl (fps_cons (i := 4) rfl fps_nil)) hM20)
              · refine ⟨fun _ => ?_, fun _ => ?_⟩
                · refine an_m_takenNow (fun r22 => ?_)
                  refine an_m_bringsBack (fun M25 hM25 => ?_)
                  exact hQ _ _ (eqo_tr hMM14 (fps_cons (i := 3) rfl (fps_cons (i := 4) rfl fps_nil)) hM25)
                · refine an_m_sumOf (fun r26 => ?_)
                  refine an_m_bringsBack (fun M29 hM29 => ?_)
                  exact hQ _ _ (eqo_tr hMM14 (fps_cons (i := 3) rfl (fps_cons (i := 4) rfl fps_nil)) hM29)
        · exact hQ _ _ (eqo_tr (eqo_tr (eqo_wi (eqo_rf _) (i := 0) rfl (Or.inr rfl)) (fps_cons (i := 0) rfl fps_nil) hM3) (fps_cons (i := 0) rfl fps_nil) hM7)
      · refine an_m_throwsIf (fun r30 M31 hM31 => ?_)
        refine ⟨fun _ => ?_, fun _ => ?_⟩
        · refine an_m_keepsAll (fun M34 hM34 => ?_)
          refine an_m_trial_58  (fun M35 hMM35 => ?_) hQ N _ _ (eqo_tr (eqo_tr (eqo_tr (eqo_wi (eqo_rf _) (i := 0) rfl (Or.inr rfl)) (fps_cons (i := 0) rfl fps_nil) hM3) (fps_cons (i := 0) rfl fps_nil) hM31) (fps_cons (i := 1) rfl (fps_cons (i := 2) rfl fps_nil)) hM34)
          · refine ⟨fun _ => ?_, fun _ => ?_⟩
            · refine an_m_bringsBack (fun M38 hM38 => ?_)
              exact hQ _ _ (eqo_tr hMM35 (fps_cons (i := 3) rfl (fps_cons (i := 4) rfl fps_nil)) hM38)
            · refine ⟨fun _ => ?_, fun _ => ?_⟩
              · refine an_m_bringsBack (fun M41 hM41 => ?_)
                exact hQ _ _ (eqo_tr hMM35 (fps_cons (i := 3) rfl (fps_cons (i := 4) rfl fps_nil)) hM41)
              · refine ⟨fun _ => ?_, fun _ => ?_⟩
                · refine an_m_takenNow (fun r43 => ?_)
                  refine an_m_bringsBack (fun M46 hM46 => ?_)
                  exact hQ _ _ (eqo_tr hMM35 (fps_cons (i := 3) rfl (fps_cons (i := 4) rfl fps_nil)) hM46)
                · refine an_m_sumOf (fun r47 => ?_)
                  refine an_m_bringsBack (fun M50 hM50 => ?_)
                  exact hQ _ _ (eqo_tr hMM35 (fps_cons (i := 3) rfl (fps_cons (i := 4) rfl fps_nil)) hM50)
        · exact hQ _ _ (eqo_tr (eqo_tr (eqo_wi (eqo_rf _) (i := 0) rfl (Or.inr rfl)) (fps_cons (i := 0) rfl fps_nil) hM3) (fps_cons (i := 0) rfl fps_nil) hM31)
    · exact hQ _ _ (eqo_tr (eqo_wi (eqo_rf _) (i := 0) rfl (Or.inr rfl)) (fps_cons (i := 0) rfl fps_nil) hM3)
  · refine an_m_throwsIf (fun r51 M52 hM52 => ?_)
    refine ⟨fun _ => ?_, fun _ => ?_⟩
    · refine ⟨fun _ => ?_, fun _ => ?_⟩
      · refine an_m_throwsIf (fun r55 M56 hM56 => ?_)
        refine ⟨fun _ => ?_, fun _ => ?_⟩
        · refine an_m_keepsAll (fun M59 hM59 => ?_)
          refine an_m_trial_58  (fun M60 hMM60 => ?_) hQ N _ _ (eqo_tr (eqo_tr (eqo_tr (eqo_wi (eqo_rf _) (i := 0) rfl (Or.inr rfl)) (fps_cons (i := 0) rfl fps_nil) hM52) (fps_cons (i := 0) rfl fps_nil) hM56) (fps_cons (i := 1) rfl (fps_cons (i := 2) rfl fps_nil)) hM59)
          · refine ⟨fun _ => ?_, fun _ => ?_⟩
            · refine an_m_bringsBack (fun M63 hM63 => ?_)
              exact hQ _ _ (eqo_tr hMM60 (fps_cons (i := 3) rfl (fps_cons (i := 4) rfl fps_nil)) hM63)
            · refine ⟨fun _ => ?_, fun _ => ?_⟩
              · refine an_m_bringsBack (fun M66 hM66 => ?_)
                exact hQ _ _ (eqo_tr hMM60 (fps_cons (i := 3) rfl (fps_cons (i := 4) rfl fps_nil)) hM66)
              · refine ⟨fun _ => ?_, fun _ => ?_⟩
                · refine an_m_takenNow (fun r68 => ?_)
                  refine an_m_bringsBack (fun M71 hM71 => ?_)
                  exact hQ _ _ (eqo_tr hMM60 (fps_cons (i := 3) rfl (fps_cons (i := 4) rfl fps_nil)) hM71)
                · refine an_m_sumOf (fun r72 => ?_)
                  refine an_m_bringsBack (fun M75 hM75 => ?_)
                  exact hQ _ _ (eqo_tr hMM60 (fps_cons (i := 3) rfl (fps_cons (i := 4) rfl fps_nil)) hM75)
        · exact hQ _ _ (eqo_tr (eqo_tr (eqo_wi (eqo_rf _) (i := 0) rfl (Or.inr rfl)) (fps_cons (i := 0) rfl fps_nil) hM52) (fps_cons (i := 0) rfl fps_nil) hM56)
      · refine an_m_throwsIf (fun r76 M77 hM77 => ?_)
        refine ⟨fun _ => ?_, fun _ => ?_⟩
        · refine an_m_keepsAll (fun M80 hM80 => ?_)
          refine an_m_trial_58  (fun M81 hMM81 => ?_) hQ N _ _ (eqo_tr (eqo_tr (eqo_tr (eqo_wi (eqo_rf _) (i := 0) rfl (Or.inr rfl)) (fps_cons (i := 0) rfl fps_nil) hM52) (fps_cons (i := 0) rfl fps_nil) hM77) (fps_cons (i := 1) rfl (fps_cons (i := 2) rfl fps_nil)) hM80)
          · refine ⟨fun _ => ?_, fun _ => ?_⟩
            · refine an_m_bringsBack (fun M84 hM84 => ?_)
              exact hQ _ _ (eqo_tr hMM81 (fps_cons (i := 3) rfl (fps_cons (i := 4) rfl fps_nil)) hM84)
            · refine ⟨fun _ => ?_, fun _ => ?_⟩
              · refine an_m_bringsBack (fun M87 hM87 => ?_)
                exact hQ _ _ (eqo_tr hMM81 (fps_cons (i := 3) rfl (fps_cons (i := 4) rfl fps_nil)) hM87)
              · refine ⟨fun _ => ?_, fun _ => ?_⟩
                · refine an_m_takenNow (fun r89 => ?_)
                  refine an_m_bringsBack (fun M92 hM92 => ?_)
                  exact hQ _ _ (eqo_tr hMM81 (fps_cons (i := 3) rfl (fps_cons (i := 4) rfl fps_nil)) hM92)
                · refine an_m_sumOf (fun r93 => ?_)
                  refine an_m_bringsBack (fun M96 hM96 => ?_)
                  exact hQ _ _ (eqo_tr hMM81 (fps_cons (i := 3) rfl (fps_cons (i := 4) rfl fps_nil)) hM96)
        · exact hQ _ _ (eqo_tr (eqo_tr (eqo_wi (eqo_rf _) (i := 0) rfl (Or.inr rfl)) (fps_cons (i := 0) rfl fps_nil) hM52) (fps_cons (i := 0) rfl fps_nil) hM77)
    · exact hQ _ _ (eqo_tr (eqo_wi (eqo_rf _) (i := 0) rfl (Or.inr rfl)) (fps_cons (i := 0) rfl fps_nil) hM52)
def fp_m_span  : List (Nat × Nat × Option Nat) := [(190, 190, some 0), (194, 194, none), (199, 199, none), (191, 191, none), (196, 196, none), (190, 190, some 29), (190, 190, some 30), (207, 207, none)]
theorem an_m_span_58 {M0 : MM} {p1 : Int32} {p2 : Int32} {u3 : Int32} {u4 : Int32} {k74 : MM → Prop} {Q : Int32 → MM → Prop} (hk74 : ∀  (M : MM), Eqo fp_m_span M0 M → k74 M) (hQ : ∀ (r : Int32) (M1 : MM), Eqo fp_m_span M0 M1 → Q r M1) : ∀ (N : Nat) (v5 : Int32) (M : MM), Eqo fp_m_span M0 M → W_m_span_58 p1 p2 u3 u4 k74 Q N v5 M := by
  refine I_m_span_58 p1 p2 u3 u4 k74 Q (fun _ M => Eqo fp_m_span M0 M) (fun N ih v5 M hih hM => ?_)
  unfold B_m_span_58
  refine ⟨fun _ => ?_, fun _ => ?_⟩
  · refine an_m_oneDay (fun M10 hM10 => ?_)
    exact hih _ _ (eqo_tr hM (fps_cons (i := 5) rfl (fps_cons (i := 6) rfl (fps_cons (i := 3) rfl (fps_cons (i := 4) rfl (fps_cons (i := 7) rfl fps_nil))))) hM10)
  · exact hk74 _ hM
theorem an_m_span_39 {M0 : MM} {p1 : Int32} {p2 : Int32} {Q : Int32 → MM → Prop} (hQ : ∀ (r : Int32) (M1 : MM), Eqo fp_m_span M0 M1 → Q r M1) : ∀ (N : Nat) (v3 : Int32) (v4 : Int32) (M : MM), Eqo fp_m_span M0 M → W_m_span_39 p1 p2 Q N v3 v4 M := by
  refine I_m_span_39 p1 p2 Q (fun _ _ M => Eqo fp_m_span M0 M) (fun N ih v3 v4 M hih hM => ?_)
  unfold B_m_span_39
  refine ⟨fun _ => ?_, fun _ => ?_⟩
  · exact hQ _ _ hM
  · refine an_m_span_58  (fun M11 hMM11 => ?_) hQ N _ _ (eqo_wi hM (i := 3) rfl (Or.inl rfl))
    · refine an_m_bringsBack (fun M13 hM13 => ?_)
      refine ⟨fun _ => ?_, fun _ => ?_⟩
      · exact hih _ _ _ (eqo_tr hMM11 (fps_cons (i := 3) rfl (fps_cons (i := 4) rfl fps_nil)) hM13)
      · refine ⟨fun _ => ?_, fun _ => ?_⟩
        · exact hih _ _ _ (eqo_tr hMM11 (fps_cons (i := 3) rfl (fps_cons (i := 4) rfl fps_nil)) hM13)
        · exact hih _ _ _ (eqo_tr hMM11 (fps_cons (i := 3) rfl (fps_cons (i := 4) rfl fps_nil)) hM13)
theorem an_m_span {p1 : Int32} {p2 : Int32} {N : Nat} {M : MM} {Q : Int32 → MM → Prop} (hQ : ∀ (r : Int32) (M1 : MM), Eqo fp_m_span M M1 → Q r M1) : W_m_span p1 p2 N M Q := by
  unfold W_m_span
  refine ⟨fun _ => ?_, fun _ => ?_⟩
  · refine an_m_throwsIf (fun r2 M3 hM3 => ?_)
    refine ⟨fun _ => ?_, fun _ => ?_⟩
    · refine an_m_keepsAll (fun M6 hM6 => ?_)
      refine an_m_span_39   hQ N _ _ _ (eqo_tr (eqo_tr (eqo_wi (eqo_rf _) (i := 0) rfl (Or.inr rfl)) (fps_cons (i := 0) rfl fps_nil) hM3) (fps_cons (i := 1) rfl (fps_cons (i := 2) rfl fps_nil)) hM6)
    · exact hQ _ _ (eqo_tr (eqo_wi (eqo_rf _) (i := 0) rfl (Or.inr rfl)) (fps_cons (i := 0) rfl fps_nil) hM3)
  · refine an_m_throwsIf (fun r16 M17 hM17 => ?_)
    refine ⟨fun _ => ?_, fun _ => ?_⟩
    · refine an_m_keepsAll (fun M20 hM20 => ?_)
      refine an_m_span_39   hQ N _ _ _ (eqo_tr (eqo_tr (eqo_wi (eqo_rf _) (i := 0) rfl (Or.inr rfl)) (fps_cons (i := 0) rfl fps_nil) hM17) (fps_cons (i := 1) rfl (fps_cons (i := 2) rfl fps_nil)) hM20)
    · exact hQ _ _ (eqo_tr (eqo_wi (eqo_rf _) (i := 0) rfl (Or.inr rfl)) (fps_cons (i := 0) rfl fps_nil) hM17)
def fp_m_first  : List (Nat × Nat × Option Nat) := [(190, 190, some 0), (194, 194, none), (199, 199, none), (191, 191, none), (196, 196, none), (190, 190, some 29), (190, 190, some 30), (207, 207, none)]
theorem an_m_first_11 {M0 : MM} {k42 : Int32 → MM → Prop} {Q : Int32 → MM → Prop} (hk42 : ∀ (v1 : Int32) (M : MM), Eqo fp_m_first M0 M → k42 v1 M) (hQ : ∀ (r : Int32) (M1 : MM), Eqo fp_m_first M0 M1 → Q r M1) : ∀ (N : Nat) (v1 : Int32) (M : MM), Eqo fp_m_first M0 M → W_m_first_11 k42 Q N v1 M := by
  refine I_m_first_11 k42 Q (fun _ M => Eqo fp_m_first M0 M) (fun N ih v1 M hih hM => ?_)
  unfold B_m_first_11
  refine ⟨fun _ => ?_, fun _ => ?_⟩
  · refine ⟨fun _ => ?_, fun _ => ?_⟩
    · refine an_m_oneDay (fun M6 hM6 => ?_)
      exact hih _ _ (eqo_tr hM (fps_cons (i := 5) rfl (fps_cons (i := 6) rfl (fps_cons (i := 3) rfl (fps_cons (i := 4) rfl (fps_cons (i := 7) rfl fps_nil))))) hM6)
    · exact hk42 _ _ hM
  · exact hk42 _ _ hM
theorem an_m_first  {N : Nat} {M : MM} {Q : Int32 → MM → Prop} (hQ : ∀ (r : Int32) (M1 : MM), Eqo fp_m_first M M1 → Q r M1) : W_m_first  N M Q := by
  unfold W_m_first
  refine an_m_keepsAll (fun M2 hM2 => ?_)
  refine an_m_first_11  (fun x7 M8 hMM8 => ?_) hQ N _ _ (eqo_tr (eqo_wi (eqo_rf _) (i := 0) rfl (Or.inr rfl)) (fps_cons (i := 1) rfl (fps_cons (i := 2) rfl fps_nil)) hM2)
  · refine ⟨fun _ => ?_, fun _ => ?_⟩
    · refine an_m_bringsBack (fun M11 hM11 => ?_)
      exact hQ _ _ (eqo_tr hMM8 (fps_cons (i := 3) rfl (fps_cons (i := 4) rfl fps_nil)) hM11)
    · refine an_m_bringsBack (fun M14 hM14 => ?_)
      exact hQ _ _ (eqo_tr hMM8 (fps_cons (i := 3) rfl (fps_cons (i := 4) rfl fps_nil)) hM14)
def fp_m_led  : List (Nat × Nat × Option Nat) := [(190, 190, some 0)]
theorem an_m_led_37 {M0 : MM} {p1 : Int32} {M : MM} {Q : Int32 → MM → Prop} (hM : Eqo fp_m_led M0 M) (hQ : ∀ (r : Int32) (M1 : MM), Eqo fp_m_led M0 M1 → Q r M1) : ∀ (N : Nat) (v2 : Int32) (v3 : Int32), True → W_m_led_37 p1 M Q N v2 v3 := by
  refine I_m_led_37 p1 M Q (fun _ _ => True) (fun N ih v2 v3 hih _ => ?_)
  unfold B_m_led_37
  refine ⟨fun _ => ?_, fun _ => ?_⟩
  · refine ⟨fun _ => ?_, fun _ => ?_⟩
    · exact hih _ _ trivial
    · refine ⟨fun _ => ?_, fun _ => ?_⟩
      · exact hih _ _ trivial
      · exact hih _ _ trivial
  · exact hQ _ _ hM
theorem an_m_led {p1 : Int32} {N : Nat} {M : MM} {Q : Int32 → MM → Prop} (hQ : ∀ (r : Int32) (M1 : MM), Eqo fp_m_led M M1 → Q r M1) : W_m_led p1 N M Q := by
  unfold W_m_led
  refine ⟨fun _ => ?_, fun _ => ?_⟩
  · refine an_m_throwsIf (fun r2 M3 hM3 => ?_)
    refine ⟨fun _ => ?_, fun _ => ?_⟩
    · refine an_m_led_37 (eqo_tr (eqo_wi (eqo_rf _) (i := 0) rfl (Or.inr rfl)) (fps_cons (i := 0) rfl fps_nil) hM3)  hQ N _ _ trivial
    · exact hQ _ _ (eqo_tr (eqo_wi (eqo_rf _) (i := 0) rfl (Or.inr rfl)) (fps_cons (i := 0) rfl fps_nil) hM3)
  · refine ⟨fun _ => ?_, fun _ => ?_⟩
    · refine an_m_throwsIf (fun r9 M10 hM10 => ?_)
      refine ⟨fun _ => ?_, fun _ => ?_⟩
      · refine an_m_led_37 (eqo_tr (eqo_wi (eqo_rf _) (i := 0) rfl (Or.inr rfl)) (fps_cons (i := 0) rfl fps_nil) hM10)  hQ N _ _ trivial
      · exact hQ _ _ (eqo_tr (eqo_wi (eqo_rf _) (i := 0) rfl (Or.inr rfl)) (fps_cons (i := 0) rfl fps_nil) hM10)
    · refine an_m_throwsIf (fun r12 M13 hM13 => ?_)
      refine ⟨fun _ => ?_, fun _ => ?_⟩
      · refine an_m_led_37 (eqo_tr (eqo_wi (eqo_rf _) (i := 0) rfl (Or.inr rfl)) (fps_cons (i := 0) rfl fps_nil) hM13)  hQ N _ _ trivial
      · exact hQ _ _ (eqo_tr (eqo_wi (eqo_rf _) (i := 0) rfl (Or.inr rfl)) (fps_cons (i := 0) rfl fps_nil) hM13)
theorem an_m_takenFor_4 {p1 : Int32} {M : MM} {Q : Int32 → Prop} (hQ : ∀ (r : Int32), Q r) : ∀ (N : Nat) (v2 : Int32) (v3 : Int32), True → W_m_takenFor_4 p1 M Q N v2 v3 := by
  refine I_m_takenFor_4 p1 M Q (fun _ _ => True) (fun N ih v2 v3 hih _ => ?_)
  unfold B_m_takenFor_4
  refine ⟨fun _ => ?_, fun _ => ?_⟩
  · refine ⟨fun _ => ?_, fun _ => ?_⟩
    · exact hih _ _ trivial
    · exact hih _ _ trivial
  · exact hQ _
theorem an_m_takenFor {p1 : Int32} {N : Nat} {M : MM} {Q : Int32 → Prop} (hQ : ∀ (r : Int32), Q r) : W_m_takenFor p1 N M Q := by
  unfold W_m_takenFor
  refine an_m_takenFor_4   hQ N _ _ trivial
def fp_m_worst  : List (Nat × Nat × Option Nat) := [(190, 190, some 0)]
theorem an_m_worst_9 {M0 : MM} {M : MM} {Q : Int32 → MM → Prop} (hM : Eqo fp_m_worst M0 M) (hQ : ∀ (r : Int32) (M1 : MM), Eqo fp_m_worst M0 M1 → Q r M1) : ∀ (N : Nat) (v1 : Int32) (v2 : Int32), True → W_m_worst_9 M Q N v1 v2 := by
  refine I_m_worst_9 M Q (fun _ _ => True) (fun N ih v1 v2 hih _ => ?_)
  unfold B_m_worst_9
  refine ⟨fun _ => ?_, fun _ => ?_⟩
  · refine an_m_takenFor (fun r2 => ?_)
    refine ⟨fun _ => ?_, fun _ => ?_⟩
    · refine ⟨fun _ => ?_, fun _ => ?_⟩
      · exact hih _ _ trivial
      · refine an_m_takenFor (fun r6 => ?_)
        refine an_m_takenFor (fun r8 => ?_)
        refine ⟨fun _ => ?_, fun _ => ?_⟩
        · exact hih _ _ trivial
        · exact hih _ _ trivial
    · exact hih _ _ trivial
  · exact hQ _ _ hM
theorem an_m_worst  {N : Nat} {M : MM} {Q : Int32 → MM → Prop} (hQ : ∀ (r : Int32) (M1 : MM), Eqo fp_m_worst M M1 → Q r M1) : W_m_worst  N M Q := by
  unfold W_m_worst
  refine an_m_worst_9 (eqo_wi (eqo_rf _) (i := 0) rfl (Or.inr rfl))  hQ N _ _ trivial
def fp_m_log  : List (Nat × Nat × Option Nat) := [(190, 190, some 0)]
theorem an_m_log {p1 : Int32} {p2 : Int32} {N : Nat} {M : MM} {Q : Int32 → MM → Prop} (hQ : ∀ (r : Int32) (M1 : MM), Eqo fp_m_log M M1 → Q r M1) : W_m_log p1 p2 N M Q := by
  unfold W_m_log
  refine ⟨fun _ => ?_, fun _ => ?_⟩
  · refine an_m_throwsIf (fun r2 M3 hM3 => ?_)
    refine ⟨fun _ => ?_, fun _ => ?_⟩
    · refine ⟨fun _ => ?_, fun _ => ?_⟩
      · exact hQ _ _ (eqo_tr (eqo_wi (eqo_rf _) (i := 0) rfl (Or.inr rfl)) (fps_cons (i := 0) rfl fps_nil) hM3)
      · exact hQ _ _ (eqo_tr (eqo_wi (eqo_rf _) (i := 0) rfl (Or.inr rfl)) (fps_cons (i := 0) rfl fps_nil) hM3)
    · exact hQ _ _ (eqo_tr (eqo_wi (eqo_rf _) (i := 0) rfl (Or.inr rfl)) (fps_cons (i := 0) rfl fps_nil) hM3)
  · refine an_m_throwsIf (fun r6 M7 hM7 => ?_)
    refine ⟨fun _ => ?_, fun _ => ?_⟩
    · refine ⟨fun _ => ?_, fun _ => ?_⟩
      · exact hQ _ _ (eqo_tr (eqo_wi (eqo_rf _) (i := 0) rfl (Or.inr rfl)) (fps_cons (i := 0) rfl fps_nil) hM7)
      · exact hQ _ _ (eqo_tr (eqo_wi (eqo_rf _) (i := 0) rfl (Or.inr rfl)) (fps_cons (i := 0) rfl fps_nil) hM7)
    · exact hQ _ _ (eqo_tr (eqo_wi (eqo_rf _) (i := 0) rfl (Or.inr rfl)) (fps_cons (i := 0) rfl fps_nil) hM7)
def fp_m_seed  : List (Nat × Nat × Option Nat) := [(190, 190, some 0), (191, 191, none)]
theorem an_m_seed {p1 : Int32} {N : Nat} {M : MM} {Q : Int32 → MM → Prop} (hQ : ∀ (r : Int32) (M1 : MM), Eqo fp_m_seed M M1 → Q r M1) : W_m_seed p1 N M Q := by
  unfold W_m_seed
  exact hQ _ _ (eqo_wi (eqo_wi (eqo_rf _) (i := 0) rfl (Or.inr rfl)) (i := 1) rfl (Or.inl rfl))
def fp_m_count  : List (Nat × Nat × Option Nat) := [(190, 190, some 0)]
theorem an_m_count {p1 : Int32} {N : Nat} {M : MM} {Q : Int32 → MM → Prop} (hQ : ∀ (r : Int32) (M1 : MM), Eqo fp_m_count M M1 → Q r M1) : W_m_count p1 N M Q := by
  unfold W_m_count
  refine ⟨?_, ?_, ?_, ?_, ?_, ?_, ?_, ?_, ?_, ?_, ?_, ?_, ?_, ?_, ?_⟩
  · intro _
    exact hQ _ _ (eqo_wi (eqo_rf _) (i := 0) rfl (Or.inr rfl))
  · intro _
    exact hQ _ _ (eqo_wi (eqo_rf _) (i := 0) rfl (Or.inr rfl))
  · intro _
    refine an_m_alive (fun r2 => ?_)
    exact hQ _ _ (eqo_wi (eqo_rf _) (i := 0) rfl (Or.inr rfl))
  · intro _
    exact hQ _ _ (eqo_wi (eqo_rf _) (i := 0) rfl (Or.inr rfl))
  · intro _
    exact hQ _ _ (eqo_wi (eqo_rf _) (i := 0) rfl (Or.inr rfl))
  · intro _
    refine an_m_inForce (fun r4 => ?_)
    exact hQ _ _ (eqo_wi (eqo_rf _) (i := 0) rfl (Or.inr rfl))
  · intro _
    refine an_m_takenNow (fun r6 => ?_)
    exact hQ _ _ (eqo_wi (eqo_rf _) (i := 0) rfl (Or.inr rfl))
  · intro _
    exact hQ _ _ (eqo_wi (eqo_rf _) (i := 0) rfl (Or.inr rfl))
  · intro _
    exact hQ _ _ (eqo_wi (eqo_rf _) (i := 0) rfl (Or.inr rfl))
  · intro _
    exact hQ _ _ (eqo_wi (eqo_rf _) (i := 0) rfl (Or.inr rfl))
  · intro _
    exact hQ _ _ (eqo_wi (eqo_rf _) (i := 0) rfl (Or.inr rfl))
  · intro _
    exact hQ _ _ (eqo_wi (eqo_rf _) (i := 0) rfl (Or.inr rfl))
  · intro _
    exact hQ _ _ (eqo_wi (eqo_rf _) (i := 0) rfl (Or.inr rfl))
  · intro _
    exact hQ _ _ (eqo_wi (eqo_rf _) (i := 0) rfl (Or.inr rfl))
  · intro _ _ _ _ _ _ _ _ _ _ _ _ _ _
    exact hQ _ _ (eqo_wi (eqo_rf _) (i := 0) rfl (Or.inr rfl))
