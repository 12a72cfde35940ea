/-! ACTS: class and reference, one behind the other -/
theorem e10 : ((1 : Int32) = 0) = False := eq_false (by decide)
theorem eqo_app {l1 l2 : List (Nat × Nat × Option Nat)} {M M1 M2 : MM} (h1 : Eqo l1 M M1) (h2 : Eqo l2 M1 M2) : Eqo (l1 ++ l2) M M2 := fun b j hb => by
  unfold fpm at hb
  rw [List.any_append, Bool.or_eq_false_iff] at hb
  exact ⟨(h2 b j hb.2).1.trans (h1 b j hb.1).1, (h2 b j hb.2).2.trans (h1 b j hb.1).2⟩
theorem eqo_1 {M : MM} {a k : Nat} {x : Int32} : Eqo [(a, a, some k)] M (wi M a k x) := eqo_wi (i := 0) (eqo_rf M) rfl (Or.inr rfl)
theorem eqo_a {M : MM} {a k : Nat} {x : Int32} : Eqo [(a, a, none)] M (wi M a k x) := eqo_wi (i := 0) (eqo_rf M) rfl (Or.inl rfl)
theorem eqo_b {M : MM} {a k : Nat} {x : Int64} : Eqo [(a, a, none)] M (wj M a k x) := eqo_wj (i := 0) (eqo_rf M) rfl (Or.inl rfl)
theorem eqo_z {M : MM} {z : Int64} : Eqo [(215, 215, none)] M (wj M 215 0 z) := eqo_wj (i := 0) (eqo_rf M) rfl (Or.inl rfl)
theorem CP_0 {B : Int} {M : MM} (h : CP B M) (x : Int32) : CP B (wi M 190 0 x) := CP_eq h eqo_1 (by decide)
theorem GW_le {B B' : Int} {w : RW} (h : GW B w) (hB : B ≤ B') : GW B' w := ⟨h.1, h.2.1, by have := h.2.2.1; omega, h.2.2.2⟩
def acl (l : List (Nat × Nat × Option Nat)) : Bool := (tpk l && (fpf l 0 15 && fpf l 190 23)) && (lwk l && imk l)
theorem IMG_le {B B' : Int} {M : MM} {L : LWT} (h : IMG B M L) (hB : B ≤ B') : IMG B' M L := by
  refine ⟨h.1, ?_⟩
  rcases h.2 with h2 | ⟨h2, h3, h4, h5⟩
  · exact Or.inl h2
  · exact Or.inr ⟨h2, h3, GW_le h4 hB, h5⟩
theorem CP_mk {l : List (Nat × Nat × Option Nat)} {M M2 : MM} {B B' : Int} {w : RW} {s : RS} {m : Nat} {hh : HW} (h : CP B M) (e : Eqo l M M2) (hl : acl l = true) (hw : M2.1 191 = w) (hs : M2.2 196 = s) (hc : CW M2 18 w s) (hg : GW B' w) (hm : CM M2 m hh) (hr : RMm M2 m hh) (hi : ∀ i, i < m → GW B' (hh i).1) (hB : B ≤ B') : CP B' M2 := by
  simp only [acl, Bool.and_eq_true] at hl
  obtain ⟨⟨k1, k2, k3⟩, k4, k5⟩ := hl
  obtain ⟨h1, h2, ⟨L, h3, h4, h5, h6⟩, -⟩ := h
  exact ⟨TP_fr h1 e k1, by rw [eq1 e k2, eq1 e k3]; exact h2, ⟨L, LawC_eq h3 e (lwk_C k4), LawR_eq h4 e (lwk_R k4), TLD_eq h5 e k4, IMG_le (IMG_eq h6 e k5) hB⟩, ⟨by rw [hw, hs]; exact hc, by rw [hw]; exact hg⟩, m, hh, hm, hr, hi⟩
/-- there is such a citizen -/
def okc (M : MM) (p : Int32) : Bool := decide (0 ≤ p.toInt ∧ p.toInt < (M.1 191 0).toInt)
theorem v_in {p lo hi : Int32} {M : MM} : V_m_in p lo hi M = b32 (decide (lo.toInt ≤ p.toInt ∧ p.toInt ≤ hi.toInt)) := by
  unfold V_m_in
  by_cases h1 : p < lo
  · rw [if_pos h1]
    rw [Int32.lt_iff_toInt_lt] at h1
    rw [decide_eq_false (by omega)]; rfl
  · rw [if_neg h1]
    rw [Int32.lt_iff_toInt_lt] at h1
    by_cases h2 : hi < p
    · rw [if_pos h2]
      rw [Int32.lt_iff_toInt_lt] at h2
      rw [decide_eq_false (by omega)]; rfl
    · rw [if_neg h2]
      rw [Int32.lt_iff_toInt_lt] at h2
      rw [decide_eq_true (by omega)]; rfl
section ACT
variable {B : Int} {M : MM} {p : Int32}
theorem v_noc (hw : WF (M.1 191)) : V_m_noCitizen p M = b32 (!okc M p) := by
  obtain ⟨e0, hn, ei⟩ := nC_i hw
  unfold V_m_noCitizen
  have ec : (V_m_citizens M - 1).toInt = (M.1 191 0).toInt - 1 := by
    unfold V_m_citizens
    rw [n0, i32_sub (by rw [show (1 : Int32).toInt = 1 from rfl]; omega) (by rw [show (1 : Int32).toInt = 1 from rfl]; omega)]
    rfl
  rw [v_in, ec, show (0 : Int32).toInt = 0 from rfl]
  unfold okc
  by_cases h : 0 ≤ p.toInt ∧ p.toInt < (M.1 191 0).toInt
  · rw [decide_eq_true h, decide_eq_true (by omega), b32_1, if_neg (by decide)]; rfl
  · rw [decide_eq_false h, decide_eq_false (by omega), b32_0, if_pos rfl]; rfl
theorem s_cit {N : Nat} {Q : Prop} {E : Nat → Prop} (h : CW M 18 (M.1 191) (M.2 196)) (hQ : okc M p = true → Q) (hE : okc M p = false → E 2) : W_E_needCitizen p N M Q E := by
  unfold W_E_needCitizen W_E_needIndex
  rw [h.1.1]
  unfold okc at hQ hE
  refine ⟨fun h1 => hE (decide_eq_false ?_), fun h1 => ⟨fun h2 => hQ (decide_eq_true ?_), fun h2 => hE (decide_eq_false ?_)⟩⟩
  · rw [Int32.lt_iff_toInt_lt, show (0 : Int32).toInt = 0 from rfl] at h1; omega
  · rw [Int32.lt_iff_toInt_lt, show (0 : Int32).toInt = 0 from rfl] at h1
    rw [Int32.lt_iff_toInt_lt] at h2; omega
  · rw [Int32.lt_iff_toInt_lt] at h2; omega
theorem okc_c (hw : WF (M.1 191)) (h : okc M p = true) : ∃ c, p = i32 c ∧ c < nC (M.1 191) ∧ c < 10 := by
  obtain ⟨e0, hn, ei⟩ := nC_i hw
  obtain ⟨h1, h2⟩ := of_decide_eq_true h
  exact ⟨ni p, i32_ni h1, by unfold ni; omega, by unfold ni; omega⟩
theorem s_alive {N : Nat} {Q : Prop} {E : Nat → Prop} {c : Nat} (h : CW M 18 (M.1 191) (M.2 196)) (hw : WF (M.1 191)) (hc : c < nC (M.1 191)) (hQ : alv (M.1 191) c = true → Q) (hE : alv (M.1 191) c = false → E 1) : W_E_needAlive (i32 c) N M Q E := by
  unfold W_E_needAlive
  rw [c_alive h hw hc]
  exact ⟨fun h => hE (b32_eq0.mp h), fun h => hQ (b32_ne0.mp h)⟩
theorem a_seed (h : CP B M) {N : Nat} : W_E_seed p N M (fun y M1 => ∀ N', W_m_seed p N' M1 (fun b M2 => CP B M2 ∧ M2.1 190 0 = 0 ∧ y = b)) := by
  have h' := h
  obtain ⟨-, -, -, ⟨hc, hg⟩, m, hh, hm, hr, hi⟩ := h'
  unfold W_E_seed
  intro N'
  unfold W_m_seed
  have hw := nC_i hg.1
  have e : Eqo ([(18, 18, some 14)] ++ ([(190, 190, some 0)] ++ [(191, 191, none)])) M (wi (wi (wi M 18 14 p) 190 0 0) 191 (ni 9) p) := eqo_app eqo_1 (eqo_app eqo_1 eqo_a)
  have hr1 : (wi (wi (wi M 18 14 p) 190 0 0) 191 (ni 9) p).1 191 = up1 (M.1 191) 9 p := by
    funext j
    by_cases hj : j = 9
    · subst hj; rw [up1_e]; exact wi_1e
    · rw [up1_n hj, wi_1n (by rw [n9]; omega), wi_1n (by omega), wi_1n (by omega)]
  refine ⟨CP_mk (w := up1 (M.1 191) 9 p) (s := M.2 196) h e (by decide) hr1 rfl ?_ ?_ (CM_eq hm e (by decide)) (RMm_eq hr e (by decide)) hi (Int.le_refl _), ?_, ?_⟩
  · have h1 := CW_sc (x := p) hc (Or.inr (Or.inr (Or.inr (Or.inr (Or.inr (Or.inr (Or.inr ⟨rfl, rfl⟩)))))))
    exact CW_fr h1 (fun b j q1 q2 => ⟨by rw [wi_1n (by omega), wi_1n (by omega)], rfl⟩)
  · exact ⟨WF_sc hg.1 (by omega) (by omega) (by omega) (by omega), by rw [up1_n (by omega)]; exact hg.2.1, by rw [up1_n (by omega), up1_n (by omega)]; exact hg.2.2⟩
  · rw [wi_1n (by omega), wi_1e]
  · rw [hc.1.2.2.2.2.2.2.2.2, wi_1n (by omega), wi_1n (by omega)]
    rfl
end ACT
