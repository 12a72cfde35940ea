/-! THE TAPE READ: read and next leave it empty on both sides -/
def Zn (M0 M : MM) : Prop := Eqo fp_m_next M0 M ∧ M.1 190 18 = 0
section ZS
variable {B : Int} {M0 M : MM} {N : Nat} {p p1 : Int32}
theorem zn_1 {x : Int32} (h : Zn M0 M) : Zn M0 (wi M 190 0 x) := ⟨eqo_wi (i := 0) h.1 rfl (Or.inr rfl), by rw [wi_1n (by omega)]; exact h.2⟩
theorem zn_e {l : List (Nat × Nat × Option Nat)} {M' : MM} (h : Zn M0 M) (e : Eqo l M M') (hs : fps l fp_m_next) (hl : fpf l 190 18 = true) : Zn M0 M' := ⟨eqo_tr h.1 hs e, by rw [eq1 e hl]; exact h.2⟩
theorem zn_w {Q : Int32 → MM → Prop} (hQ : ∀ r M', Zn M M' → Q r M') : W_m_isWatched N M Q := by
  unfold W_m_isWatched W_m_uses
  have z : Zn M (wi (wi (wi (wi M 190 0 0) 190 20 ((wi M 190 0 0).1 190 18)) 190 18 0) 190 19 0) := ⟨eqo_wi (i := 3) (eqo_wi (i := 2) (eqo_wi (i := 1) (eqo_wi (i := 0) (eqo_rf _) rfl (Or.inr rfl)) rfl (Or.inr rfl)) rfl (Or.inr rfl)) rfl (Or.inr rfl), by rw [wi_1n (by omega), wi_1e]⟩
  have hq := fun r => hQ r _ z
  refine ⟨fun _ => ?_, fun _ => ?_⟩
  all_goals
    refine I_m_isWatched_21 _ _ (fun _ _ => True) (fun N ih v1 v2 hih _ => ?_) N _ _ trivial
    unfold B_m_isWatched_21
    repeat' first | exact hq _ | exact hih _ _ trivial | refine ⟨fun _ => ?_, fun _ => ?_⟩
theorem zn_l {Q : MM → Prop} (h : Zn M0 M) (hQ : ∀ M', Zn M0 M' → Q M') : W_m_laysWatched N M Q := an_m_laysWatched (fun _ e => hQ _ (zn_e h e (fps_cons (i := 4) rfl (fps_cons (i := 5) rfl fps_nil)) rfl))
theorem zn_68 {Q : Int32 → MM → Prop} {v3 v4 v5 v6 : Int32} (hQ : ∀ r, Q r M) : W_m_read_68 p1 M Q N v3 v4 v5 v6 := by
  refine I_m_read_68 _ _ _ (fun _ _ _ _ => True) (fun N ih v3 v4 v5 v6 hih _ => ?_) N _ _ _ _ trivial
  unfold B_m_read_68
  repeat' first | exact hQ _ | exact hih _ _ _ _ trivial | refine an_m_isCode (fun _ => ?_) | refine ⟨fun _ => ?_, fun _ => ?_⟩
theorem z_read : W_m_read p N M (fun _ M1 => Zn M M1) := by
  unfold W_m_read W_m_throwsIf
  refine zn_w (fun r M2 z => ?_)
  simp only [e10, e10n, true_implies, false_implies, not_true_eq_false, not_false_eq_true, and_true, true_and, forall_const]
  repeat' first | exact z | exact zn_1 z | exact zn_1 (zn_1 z) | exact zn_l z (fun M3 z3 => zn_68 (fun _ => z3)) | refine ⟨fun _ => ?_, fun _ => ?_⟩
theorem zn_64 {Q : Int32 → MM → Prop} {k : MM → Prop} {v3 : Int32} (h : Zn M0 M) (hQ : ∀ M', Zn M0 M' → k M') : W_m_next_64 p1 k Q N v3 M := by
  refine I_m_next_64 _ _ _ (fun _ M' => Zn M0 M') (fun N ih v3 M' hih h => ?_) N _ _ h
  unfold B_m_next_64
  refine ⟨fun _ => an_m_nevers (fun _ => an_m_forbidsNow (fun _ M2 e => hih _ _ ?_)), fun _ => hQ _ h⟩
  exact zn_e (zn_e (zn_e h eqo_a (fps_cons (i := 6) rfl fps_nil) rfl) e (fps_cons (i := 4) rfl fps_nil) rfl) eqo_a (fps_cons (i := 7) rfl fps_nil) rfl
theorem zn_133 {Q : Int32 → MM → Prop} {k : MM → Prop} {v5 u3 u4 : Int32} (h : Zn M0 M) (hQ : ∀ M', Zn M0 M' → k M') : W_m_next_133 p1 u3 u4 k Q N v5 M := by
  refine I_m_next_133 _ _ _ _ _ (fun _ M' => Zn M0 M') (fun N ih v3 M' hih h => ?_) N _ _ h
  unfold B_m_next_133
  repeat' first | exact hQ _ h | exact hih _ _ (zn_e h eqo_a (fps_cons (i := 6) rfl fps_nil) rfl) | refine ⟨fun _ => ?_, fun _ => ?_⟩
theorem zn_104 {Q : Int32 → MM → Prop} {k : Int32 → MM → Prop} {v3 v4 : Int32} (h : Zn M0 M) (hQ : ∀ r M', Zn M0 M' → k r M') : W_m_next_104 p1 k Q N v3 v4 M := by
  refine I_m_next_104 _ _ _ (fun _ _ M' => Zn M0 M') (fun N ih v3 v4 M' hih h => ?_) N _ _ _ h
  unfold B_m_next_104
  refine ⟨fun _ => an_m_isCode (fun _ => ⟨fun _ => hih _ _ _ h, fun _ => zn_133 h (fun M2 z2 => hih _ _ _ z2)⟩), fun _ => hQ _ _ h⟩
theorem zn_186 {Q : Int32 → MM → Prop} {u3 v4 v5 : Int32} (hQ : ∀ r, Q r M) : W_m_next_186 p1 u3 M Q N v4 v5 := by
  refine I_m_next_186 _ _ _ _ (fun _ _ => True) (fun N ih v4 v5 hih _ => ?_) N _ _ trivial
  unfold B_m_next_186
  repeat' first | exact hQ _ | exact hih _ _ trivial | refine ⟨fun _ => ?_, fun _ => ?_⟩
theorem z_next : W_m_next p N M (fun _ M1 => Zn M M1) := by
  unfold W_m_next W_m_throwsIf
  refine zn_w (fun r M2 z => ?_)
  simp only [e10, e10n, true_implies, false_implies, not_true_eq_false, not_false_eq_true, and_true, true_and, forall_const]
  repeat' first | exact z | exact zn_1 z | exact zn_1 (zn_1 z) | exact zn_l z (fun M3 z3 => zn_64 z3 (fun M4 z4 => zn_104 z4 (fun _ M5 z5 => zn_186 (fun _ => z5)))) | exact zn_l (zn_1 z) (fun M3 z3 => zn_64 z3 (fun M4 z4 => zn_104 z4 (fun _ M5 z5 => zn_186 (fun _ => z5)))) | refine ⟨fun _ => ?_, fun _ => ?_⟩
end ZS
section ZC
variable {B : Int} {M0 M : MM} {N : Nat} {p p1 : Int32}
def Zc (M0 M : MM) : Prop := Eqo fp_E_next M0 M ∧ M.1 1 1 = 0
theorem zc_1 (h : Eqo fp_E_next M0 M) : Zc M0 (wi M 1 1 0) := ⟨eqo_wi (i := 3) h rfl (Or.inr rfl), wi_1e⟩
theorem zc_e {l : List (Nat × Nat × Option Nat)} {M' : MM} (h : Zc M0 M) (e : Eqo l M M') (hs : fps l fp_E_next) (hl : fpf l 1 1 = true) : Zc M0 M' := ⟨eqo_tr h.1 hs e, by rw [eq1 e hl]; exact h.2⟩
theorem zc_t {Q : Int32 → MM → Prop} (hQ : ∀ r M', Zc M (wi M' 1 1 0) → Q r M') : W_Reading_takeRows N M Q := an_Reading_takeRows (fun _ _ e => hQ _ _ (zc_1 (eqo_tr (eqo_rf _) (fps_cons (i := 0) rfl (fps_cons (i := 1) rfl (fps_cons (i := 2) rfl fps_nil))) e)))
theorem zc_f {Q : MM → Prop} (h : Zc M0 M) (hQ : ∀ M', Zc M0 M' → Q M') : W_Reading_findCodes N M Q := an_Reading_findCodes (fun _ e => hQ _ (zc_e h e (fps_cons (i := 4) rfl (fps_cons (i := 5) rfl (fps_cons (i := 6) rfl (fps_cons (i := 7) rfl fps_nil)))) rfl))
theorem zc_b {Q : Int32 → MM → Prop} (h : Zc M0 M) (hQ : ∀ r M', Zc M0 M' → Q r M') : W_Reading_bestSplit p1 N M Q := an_Reading_bestSplit (fun _ _ e => hQ _ _ (zc_e h e (fps_cons (i := 7) rfl fps_nil) rfl))
theorem zc_read : W_E_read p N M (fun _ M1 => Zc M M1) (fun _ M1 => Zc M M1) := by
  unfold W_E_read
  refine zc_t (fun r M2 z => ?_)
  repeat' first | exact z | refine zc_f z (fun M7 z => ?_) | refine ⟨fun _ => ?_, fun _ => ?_⟩
theorem zc_next : W_E_next p N M (fun _ M1 => Zc M M1) (fun _ M1 => Zc M M1) := by
  unfold W_E_next
  refine zc_t (fun r M2 z => ?_)
  refine an_E_needCitizen ⟨fun _ => z, fun _ => an_E_needAlive (zc_f z (fun M9 z => ⟨fun _ => z, fun _ => zc_b z (fun _ M3 z => z)⟩)) (fun _ => z)⟩ (fun _ => z)
theorem Z_CP {M1 M2 : MM} (h : CP B M) (z1 : Zc M M1) (z2 : Zn M1 M2) : CP B M2 := by
  have e := eqo_app z1.1 z2.1
  refine CP_tp h e rfl ⟨0, by omega, ?_, z2.2, fun j hj => absurd hj (by omega)⟩
  rw [eq1 z2.1 (b := 1) (k := 1) rfl]
  exact z1.2
theorem Z_CPz {M1 M2 : MM} {z : Int64} (h : CP B M) (z1 : Zc M M1) (z2 : Zn (wj M1 215 0 z) M2) : CP B M2 := by
  have e := eqo_app (eqo_app z1.1 (eqo_z (z := z))) z2.1
  refine CP_tp h e rfl ⟨0, by omega, ?_, z2.2, fun j hj => absurd hj (by omega)⟩
  rw [eq1 z2.1 (b := 1) (k := 1) rfl]
  exact z1.2
theorem f_read (h : CP B M) : W_E_read p N M (fun _ M1 => ∀ z N', W_m_read p N' (wj M1 215 0 z) (fun _ M2 => CP B M2)) (fun _ M1 => ∀ N', W_m_read p N' M1 (fun _ M2 => CP B M2)) := and_E_read (Q1 := fun _ M1 => Zc M M1) (E1 := fun _ M1 => Zc M M1) (fun _ _ z _ _ _ => and_m_read (fun _ _ z2 _ => Z_CPz h z z2) z_read z_read) (fun _ _ z _ _ => and_m_read (fun _ _ z2 _ => Z_CP h z z2) z_read z_read) zc_read zc_read
theorem f_next (h : CP B M) : W_E_next p N M (fun _ M1 => ∀ z N', W_m_next p N' (wj M1 215 0 z) (fun _ M2 => CP B M2)) (fun _ M1 => ∀ N', W_m_next p N' M1 (fun _ M2 => CP B M2)) := and_E_next (Q1 := fun _ M1 => Zc M M1) (E1 := fun _ M1 => Zc M M1) (fun _ _ z _ _ _ => and_m_next (fun _ _ z2 _ => Z_CPz h z z2) z_next z_next) (fun _ _ z _ _ => and_m_next (fun _ _ z2 _ => Z_CP h z z2) z_next z_next) zc_next zc_next
end ZC
