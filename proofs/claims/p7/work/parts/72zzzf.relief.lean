/-! ANSWERS: relief -/
theorem bc12f : ∀ (a b : Fin 64), bcz (64 * a + b) < 13 := by decide +kernel
theorem bc12 {z : Nat} (h : z < 4096) : bcz z < 13 := by
  have t : bcz (64 * (z / 64) + z % 64) < 13 := bc12f ⟨z / 64, by omega⟩ ⟨z % 64, by omega⟩
  rw [show 64 * (z / 64) + z % 64 = z by omega] at t
  exact t
theorem bt_0 {x : Int32} {j : Nat} (hj : j < 32) : (sr x (i32 j) &&& 1) = 0 ↔ tb x j = false := by
  rw [bt_b hj]
  cases tb x j
  · exact ⟨fun _ => rfl, fun _ => rfl⟩
  · exact ⟨fun h => absurd h (by decide), fun h => by cases h⟩
section REL
variable {B : Int} {M X : MM} {p q : Int32} {w : RW} {s : RS} {L : LWT}
def S2 (X X' : MM) : Prop := Eqo [(207, 207, none), (208, 208, none)] X X'
theorem S2_v {X X' : MM} (h : S2 X X') (val : Nat → Int32) : S2 X (svM X' val) := eqo_tr h (fps_cons (i := 0) rfl fps_nil) (SV_e (X := X') ⟨val, rfl⟩)
theorem S2_k {X X' : MM} (h : S2 X X') {k : Nat} {x : Int32} : S2 X (wi X' 208 k x) := eqo_wi (i := 1) h rfl (Or.inl rfl)
theorem S2_x {X X' : MM} (h : S2 X X') (hx : X.1 191 = w) : X'.1 191 = w := (eqb h (lo := 191) (hi := 191) rfl (Nat.le_refl _) (Nat.le_refl _)).trans hx
theorem S2_L {X X' : MM} (h : S2 X X') (hL : LawR X L) : LawR X' L := LawR_eq hL h rfl
theorem S2_c {X X' : MM} {x : Int32} (h : S2 X X') (hn : V_m_clauses X = x) : V_m_clauses X' = x := by
  unfold V_m_clauses at *
  rw [eq1 h (b := 190) (k := 15) rfl]
  exact hn
theorem r_isT {k c mm N : Nat} {Q : Int32 → MM → Prop} (hx : X.1 191 = w) (hL : LawR X L) (hw : WF w) (hd : dOK w) (hcn : c < nC w) (hk : k < L.1) (hm : mm < 64) (hQ : ∀ val, Q (b32 (isT L w k mm c)) (svM X val)) : W_m_isOf (i32 k) (i32 mm) (i32 c) (X.1 191 (ni 2)) N X Q := by
  have hn10 := (nC_i hw).2.1
  have ek : knw X (i32 c) = bcn (cl w c 1) := by
    unfold knw
    rw [show V_m_of (i32 c) 1 X = cl w c 1 from of_row (i := 1) hx (by omega) (by omega)]
    rfl
  rw [hx, n2]
  refine sp_isOf hL hk (by rw [ek]; exact rngM (by omega) hm ⟨hd.1, by have := hd.2; omega⟩ _) (fun val => ?_)
  rw [ek]
  exact hQ val
theorem ctP_m {d a b n : Nat} (hn : n ≤ 8) (h : ctP L w d a b n = true) : ctP L w d a b 8 = true := by
  obtain ⟨pl, h1, h2⟩ := (ctP_i n).mp h
  exact (ctP_i 8).mpr ⟨pl, by omega, h2⟩
theorem r_ctr {a b N : Nat} {Q : Int32 → MM → Prop} {X0 : MM} (hX : S2 X0 X) (hx : X0.1 191 = w) (hL : LawR X0 L) (hw : WF w) (hd : dOK w) (hD : DB L) (ha : a < L.1) (hb : b < L.1) (hQ : ∀ X', S2 X0 X' → (∀ j, X'.1 208 j = X.1 208 j) → Q (b32 (ctr L w a b)) X') : W_m_contradict (i32 a) (i32 b) N X Q := by
  obtain ⟨e0, hn10, ei⟩ := nC_i hw
  have l12 := hL.1
  obtain ⟨d, hd8, ed⟩ := hD a ha
  have dem : ∀ (k : Nat) (Y : MM), k < L.1 → S2 X0 Y → V_m_demands (i32 k) Y = L.2.1 k := fun k Y hk hY => by
    unfold V_m_demands
    rw [show (4 : Int32) * i32 k = i32 (4 * k) from i32_m 4 k, ni_i (by omega)]
    exact ((S2_L hY hL).2 k hk).1
  have dee : ∀ (k : Nat) (Y : MM), k < L.1 → S2 X0 Y → V_m_deedOf (i32 k) Y = L.2.2.1 k := fun k Y hk hY => by
    unfold V_m_deedOf
    rw [show (4 : Int32) * i32 k = i32 (4 * k) from i32_m 4 k, i32_s, ni_i (by omega)]
    exact ((S2_L hY hL).2 k hk).2.1
  unfold W_m_contradict
  refine I_m_contradict_5 (i32 a) (i32 b) Q (fun v3 v4 X' => ∃ pl, pl ≤ 8 ∧ v4 = i32 pl ∧ S2 X0 X' ∧ (∀ j, X'.1 208 j = X.1 208 j) ∧ v3 = b32 (ctP L w d a b pl) ∧ (pl = 0 ∨ (L.2.1 a ≠ L.2.1 b ∧ L.2.2.1 a = L.2.2.1 b))) (fun N ih v3 v4 X' hih hv => ?_) N _ _ _ ⟨0, by omega, rfl, hX, fun _ => rfl, rfl, Or.inl rfl⟩
  obtain ⟨pl, hpl, rfl, hS, h208, rfl, hg⟩ := hv
  have ctrE : L.2.1 a ≠ L.2.1 b → L.2.2.1 a = L.2.2.1 b → ctr L w a b = ctP L w d a b 8 := fun h1 h2 => by
    unfold ctr
    rw [decide_eq_true h1, decide_eq_true h2, ed, ni_i (by omega)]
    rfl
  unfold B_m_contradict_5
  rw [show i32 pl < 8 ↔ pl < 8 from i32_lt (k := 8) (by omega) (by omega), dem a X' ha hS, dem b X' hb hS, dee a X' ha hS, dee b X' hb hS]
  have yes : ¬ b32 (ctP L w d a b pl) = 0 → Q (b32 (ctP L w d a b pl)) X' := fun e => by
    have e' := b32_ne0.mp e
    rcases hg with rfl | ⟨g1, g2⟩
    · cases e'
    · have := hQ X' hS h208
      rw [ctrE g1 g2, ctP_m hpl e'] at this
      rw [e']
      exact this
  have no : b32 (ctP L w d a b pl) = 0 → ctr L w a b = false → Q (b32 (ctP L w d a b pl)) X' := fun e e2 => by
    have := hQ X' hS h208
    rw [e2] at this
    rw [e]
    exact this
  refine ⟨fun hlt => ⟨fun e => ⟨fun e1 => no e ?_, fun e1 => ⟨fun e2 => ?_, fun e2 => no e ?_⟩⟩, yes⟩, fun hlt => ?_⟩
  · unfold ctr
    rw [decide_eq_false (fun h => h e1), Bool.false_and]
  · have ef := b32_eq0.mp e
    refine I_m_contradict_45 (i32 a) (i32 b) (i32 pl) _ Q (fun v3 v5 X'' => ∃ c, c ≤ nC w ∧ v5 = i32 c ∧ S2 X0 X'' ∧ (∀ j, X''.1 208 j = X.1 208 j) ∧ v3 = b32 (ctC L w d a b pl c)) (fun N ih2 v3 v5 X'' hih2 hv2 => ?_) N _ _ _ ⟨0, by omega, rfl, hS, h208, e⟩
    obtain ⟨c, hcn, rfl, hS2, h208', rfl⟩ := hv2
    have hx2 := S2_x hS2 hx
    unfold B_m_contradict_45
    have ec : V_m_citizens X'' = i32 (nC w) := by unfold V_m_citizens; rw [hx2, n0, ei]
    rw [ec, i32_lt (by omega) (by omega)]
    refine ⟨fun hlt2 => ?_, fun hlt2 => ?_⟩
    · have nx : ∀ (Y : MM) (x : Int32), S2 X0 Y → (∀ j, Y.1 208 j = X.1 208 j) → x = b32 (ctC L w d a b pl c || (alv w c && both L w d a b c pl)) → ih2 x (i32 c + 1) Y := fun Y x y1 y2 y5 => hih2 _ _ _ ⟨c + 1, by omega, i32_s c, y1, y2, y5⟩
      rw [show V_m_isAlive (i32 c) X'' = b32 (alv w c) from (v_alive (by omega)).trans (by rw [hx2]), dee a X'' ha hS2, ed, show (8 * i32 d + i32 pl : Int32) = i32 (8 * d + pl) by rw [show (8 : Int32) * i32 d = i32 (8 * d) from i32_m 8 d, i32_a]]
      refine ⟨fun f0 => ⟨fun al => nx _ _ hS2 h208' ?_, fun al => ?_⟩, fun f0 => nx _ _ hS2 h208' ?_⟩
      · rw [b32_eq0.mp f0, b32_eq0.mp al]; rfl
      · refine r_isT hx2 (S2_L hS2 hL) hw hd hlt2 ha (by omega) (fun val => ⟨fun t => ?_, fun t => ?_⟩)
        · refine nx _ _ (S2_v hS2 val) (fun j => by rw [svM_n (by omega)]; exact h208' j) ?_
          unfold both
          rw [b32_eq0.mp f0, b32_eq0.mp t, Bool.false_and, Bool.and_false]; rfl
        · have y208 : ∀ j, (svM X'' val).1 208 j = X.1 208 j := fun j => by rw [svM_n (by omega)]; exact h208' j
          refine r_isT (X := svM X'' val) hx2 (LawR_sv (S2_L hS2 hL) val) hw hd hlt2 hb (by omega) (fun val2 => ⟨fun t2 => ?_, fun t2 => ?_⟩)
          · refine nx _ _ (S2_v (S2_v hS2 val) val2) (fun j => by rw [svM_n (by omega)]; exact y208 j) ?_
            unfold both
            rw [b32_eq0.mp f0, b32_eq0.mp t2, Bool.and_false, Bool.and_false]; rfl
          · refine nx _ _ (S2_v (S2_v hS2 val) val2) (fun j => by rw [svM_n (by omega)]; exact y208 j) ?_
            unfold both
            rw [b32_ne0.mp t, b32_ne0.mp t2, b32_ne0.mp al]
            cases ctC L w d a b pl c <;> rfl
      · rw [b32_ne0.mp f0]; rfl
    · obtain rfl : c = nC w := by omega
      refine hih _ _ _ ⟨pl + 1, by omega, i32_s pl, hS2, h208', ?_, Or.inr ⟨e1, e2⟩⟩
      unfold ctP
      rw [ef, Bool.false_or]
  · unfold ctr
    rw [decide_eq_false e2, Bool.false_and, Bool.and_false]
  · obtain rfl : pl = 8 := by omega
    rcases hg with h | ⟨g1, g2⟩
    · omega
    · have := hQ X' hS h208
      rw [ctrE g1 g2] at this
      exact this
theorem r_ctrs {a N : Nat} {Q : Int32 → MM → Prop} {X0 : MM} (hX : S2 X0 X) (hx : X0.1 191 = w) (hL : LawR X0 L) (hn : V_m_clauses X0 = i32 L.1) (hw : WF w) (hd : dOK w) (hD : DB L) (ha : a < L.1) (hQ : ∀ X', S2 X0 X' → (∀ j, X'.1 208 j = X.1 208 j) → Q (bs (ctr L w a) L.1) X') : W_m_contradicting (i32 a) N X Q := by
  have l12 := hL.1
  unfold W_m_contradicting
  refine I_m_contradicting_4 (i32 a) Q (fun v2 v3 X' => ∃ o, o ≤ L.1 ∧ v3 = i32 o ∧ S2 X0 X' ∧ (∀ j, X'.1 208 j = X.1 208 j) ∧ v2 = bs (ctr L w a) o) (fun N ih v2 v3 X' hih hv => ?_) N _ _ _ ⟨0, by omega, rfl, hX, fun _ => rfl, rfl⟩
  obtain ⟨o, ho, rfl, hS, h208, rfl⟩ := hv
  unfold B_m_contradicting_4
  rw [S2_c hS hn, i32_lt (by omega) (by omega)]
  refine ⟨fun hlt => r_ctr hS hx hL hw hd hD ha hlt (fun X2 s2 e2 => ?_), fun hlt => ?_⟩
  · have nx : ih (bs (ctr L w a) (o + 1)) (i32 o + 1) X2 := hih _ _ _ ⟨o + 1, by omega, i32_s o, s2, fun j => (e2 j).trans (h208 j), rfl⟩
    rw [bs_s] at nx
    rw [Int32.or_zero]
    refine ⟨fun e => ?_, fun e => ?_⟩
    · rw [b32_eq0.mp e, if_neg (by decide)] at nx; exact nx
    · rw [b32_ne0.mp e, if_pos rfl] at nx; exact nx
  · obtain rfl : o = L.1 := by omega
    exact hQ _ hS h208
/-- a set that leaves nothing to contradict -/
def rlF (R : Nat → Int32) (x : Int32) : Nat → Bool
  | 0 => true
  | n + 1 => rlF R x n && (tb x n || decide ((R n &&& (x ^^^ (-1))) = 0))
theorem rlF_f {R : Nat → Int32} {x : Int32} {j : Nat} (h : rlF R x (j + 1) = false) : ∀ n, j + 1 ≤ n → rlF R x n = false := by
  intro n hn
  induction n with
  | zero => omega
  | succ n ih =>
    by_cases e : j + 1 = n + 1
    · rw [← e]; exact h
    · unfold rlF
      rw [ih (by omega), Bool.false_and]
theorem rlF_1 {R : Nat → Int32} {x : Int32} : ∀ n, (∀ k, k < n → tb x k = true) → rlF R x n = true
  | 0, _ => rfl
  | n + 1, h => by
    unfold rlF
    rw [rlF_1 n (fun k hk => h k (by omega)), h n (by omega)]
    rfl
theorem c_isRel {R : Nat → Int32} {x : Int32} {N : Nat} {Q : Int32 → Prop} (hL : LawC M 8 L) (hR : OTH L R M) (hQ : Q (b32 (rlF R x L.1))) : W_Inquiry_isRelief x N M Q := by
  have l12 := hL.2.1
  unfold W_Inquiry_isRelief
  refine I_Inquiry_isRelief_2 x M Q (fun v => ∃ j, j ≤ L.1 ∧ v = i32 j ∧ rlF R x j = true) (fun N ih v hih hv => ?_) N _ ⟨0, by omega, rfl, rfl⟩
  obtain ⟨j, hj, rfl, hr⟩ := hv
  unfold B_Inquiry_isRelief_2
  rw [hL.1, i32_lt (by omega) (by omega), ni_i (by omega)]
  refine ⟨fun hlt => ?_, fun hlt => ?_⟩
  · unfold V_E_bit
    rw [bt_0 (by omega), hR j hlt]
    refine ⟨fun e => ⟨fun e1 => hih _ ⟨j + 1, by omega, i32_s j, ?_⟩, fun e1 => ?_⟩, fun e => hih _ ⟨j + 1, by omega, i32_s j, ?_⟩⟩
    · unfold rlF
      rw [hr, decide_eq_true e1, Bool.or_true]; rfl
    · have hf : rlF R x (j + 1) = false := by
        unfold rlF
        rw [hr, e, decide_eq_false e1]; rfl
      rw [rlF_f hf L.1 (by omega)] at hQ
      exact hQ
    · unfold rlF
      rw [Bool.not_eq_false] at e
      rw [hr, e]; rfl
  · obtain rfl : j = L.1 := by omega
    rw [hr] at hQ
    exact hQ
/-- relief: the class's walk up -/
theorem c_fewD {N : Nat} {Q : Int32 → MM → Prop} (hc : CW M 18 w s) (hw : WF w) (hL : LawC M 8 L) (hK : KD L) (hD : DB L) (hd : dOK w) (hQ : ∀ x M', MNP (2 ^ L.1) (fun z => rlF (fun k => bs (ctr L w k) L.1) (i32 z) L.1 = true) x → Q (i32 x) M') : W_Inquiry_fewestToDie N M Q := by
  have l12 := hL.2.1
  have hT : 2 ^ L.1 ≤ 4096 := Nat.pow_le_pow_right (n := 2) (by omega) l12
  unfold W_Inquiry_fewestToDie
  refine c_clrO l12 (fun M2 h2 o2 => ?_)
  refine I_Inquiry_fewestToDie_6 _ Q (fun v M' => ∃ d, d ≤ 8 ∧ v = i32 d ∧ OT M M' ∧ OTH L (fun k => foD L w k d) M') (fun N ih v M' hih hv => ?_) N _ _ ⟨0, by omega, rfl, o2, h2⟩
  obtain ⟨d, hd8, rfl, o3, h3⟩ := hv
  unfold B_Inquiry_fewestToDie_6
  rw [show i32 d < 8 ↔ d < 8 from i32_lt (k := 8) (by omega) (by omega)]
  refine ⟨fun hlt => c_findO (OT_w o3 hc) hw (OT_L o3 hL) hd hlt h3 (fun M4 h4 o4 => hih _ _ ⟨d + 1, by omega, i32_s d, OT_t o3 o4, h4⟩), fun hlt => ?_⟩
  obtain rfl : d = 8 := by omega
  have hR : OTH L (fun k => bs (ctr L w k) L.1) M' := fun k hk => by rw [h3 k hk]; exact foD_e l12 hK hD hk
  have hL' := OT_L o3 hL
  show W_Inquiry_fewestToDie_30 M' Q _ 0 13 0
  refine I_Inquiry_fewestToDie_30 M' Q (fun v1 v2 v3 => ∃ k, k ≤ 2 ^ L.1 ∧ v3 = i32 k ∧ ((v2.toInt = 13 ∧ ∀ z, z < k → ¬ rlF (fun k => bs (ctr L w k) L.1) (i32 z) L.1 = true) ∨ (∃ x, x < k ∧ v1 = i32 x ∧ v2 = bcn (i32 x) ∧ rlF (fun k => bs (ctr L w k) L.1) (i32 x) L.1 = true ∧ (∀ z, z < k → rlF (fun k => bs (ctr L w k) L.1) (i32 z) L.1 = true → bcz x ≤ bcz z) ∧ ∀ z, z < x → rlF (fun k => bs (ctr L w k) L.1) (i32 z) L.1 = true → bcz x < bcz z))) (fun N ih v1 v2 v3 hih hv => ?_) _ _ _ _ ⟨0, Nat.zero_le _, rfl, Or.inl ⟨rfl, fun z hz => absurd hz (by omega)⟩⟩
  obtain ⟨k, hk, rfl, hv⟩ := hv
  unfold B_Inquiry_fewestToDie_30
  rw [hL'.1, show sl 1 (i32 L.1) = i32 (2 ^ L.1) from sl_n ⟨L.1, by omega⟩, i32_lt (by omega) (by omega), show V_Int_bitCount (i32 k) M' = bcn (i32 k) from rfl, lt_lit]
  refine ⟨fun hlt => ?_, fun hlt => ?_⟩
  · have no : (rlF (fun k => bs (ctr L w k) L.1) (i32 k) L.1 = true → v2.toInt ≤ bcz k) → ih v1 v2 (i32 k + 1) := fun hno => hih _ _ _ ⟨k + 1, by omega, i32_s k, by
      rcases hv with ⟨h1, h2⟩ | ⟨x, h1, h2, h3, h4, h5, h6⟩
      · refine Or.inl ⟨h1, fun z hz hz2 => ?_⟩
        by_cases e : z = k
        · subst e
          have := hno hz2
          have b : bcz z < 13 := bc12 (by omega)
          omega
        · exact h2 z (by omega) hz2
      · refine Or.inr ⟨x, by omega, h2, h3, h4, fun z hz hz2 => ?_, h6⟩
        by_cases e : z = k
        · subst e
          have := hno hz2
          rw [h3] at this
          exact this
        · exact h5 z (by omega) hz2⟩
    refine ⟨fun h1 => c_isRel hL' hR ⟨fun h2 => no (fun hV => absurd hV (by rw [b32_eq0.mp h2]; decide)), fun h2 => ?_⟩, fun h1 => no (fun _ => ?_)⟩
    · refine hih _ _ _ ⟨k + 1, by omega, i32_s k, Or.inr ⟨k, by omega, rfl, rfl, b32_ne0.mp h2, fun z hz hz2 => ?_, fun z hz hz2 => ?_⟩⟩
      · by_cases e : z = k
        · subst e; exact Int.le_refl _
        · rcases hv with ⟨g1, g2⟩ | ⟨x, g1, g2, g3, g4, g5, g6⟩
          · exact absurd hz2 (g2 z (by omega))
          · have := g5 z (by omega) hz2
            rw [g3] at h1
            have h1' : bcz k < bcz x := h1
            omega
      · rcases hv with ⟨g1, g2⟩ | ⟨x, g1, g2, g3, g4, g5, g6⟩
        · exact absurd hz2 (g2 z hz)
        · have := g5 z hz hz2
          rw [g3] at h1
          have h1' : bcz k < bcz x := h1
          omega
    · have h1' : ¬ bcz k < v2.toInt := h1
      omega
  · obtain rfl : k = 2 ^ L.1 := by omega
    rcases hv with ⟨h1, h2⟩ | ⟨x, h1, h2, h3, h4, h5, h6⟩
    · have hp : 0 < 2 ^ L.1 := Nat.two_pow_pos _
      refine absurd (rlF_1 (R := fun k => bs (ctr L w k) L.1) (x := i32 (2 ^ L.1 - 1)) L.1 (fun k hk => ?_)) (h2 (2 ^ L.1 - 1) (by omega))
      rw [tb_ix (by omega), Nat.testBit_two_pow_sub_one, decide_eq_true hk]
    · rw [h2]
      exact hQ x _ ⟨h1, h4, h5, h6⟩
/-- .. and the reference's walk down -/
theorem r_rel {N : Nat} {Q : Int32 → MM → Prop} (hx : X.1 191 = w) (hL : LawR X L) (hn : V_m_clauses X = i32 L.1) (hw : WF w) (hd : dOK w) (hD : DB L) (hQ : ∀ x X', S2 X X' → MNP (2 ^ L.1) (fun z => rlF (fun k => bs (ctr L w k) L.1) (i32 z) L.1 = true) x → Q (i32 x) X') : W_m_relief_7 (fun M4 => W_m_relief_43 M4 Q N ((sl 1 (V_m_clauses M4)) - 1) ((sl 1 (V_m_clauses M4)) - 1)) Q N 0 X := by
  have l12 := hL.1
  have hT : 2 ^ L.1 ≤ 4096 := Nat.pow_le_pow_right (n := 2) (by omega) l12
  have hp : 0 < 2 ^ L.1 := Nat.two_pow_pos _
  refine I_m_relief_7 _ Q (fun v X' => ∃ k, k ≤ L.1 ∧ v = i32 k ∧ S2 X X' ∧ ∀ j, j < k → X'.1 208 j = bs (ctr L w j) L.1) (fun N ih v X' hih hv => ?_) N _ _ ⟨0, by omega, rfl, eqo_rf X, fun j hj => absurd hj (by omega)⟩
  obtain ⟨k, hk, rfl, hS, h8⟩ := hv
  unfold B_m_relief_7
  rw [S2_c hS hn, i32_lt (by omega) (by omega), ni_i (by omega)]
  refine ⟨fun hlt => r_ctrs hS hx hL hn hw hd hD hlt (fun X2 s2 e2 => hih _ _ ⟨k + 1, by omega, i32_s k, S2_k s2, fun j hj => ?_⟩), fun hlt => ?_⟩
  · by_cases e : j = k
    · subst e; exact wi_1e
    · rw [wi_1n (by omega), e2 j]; exact h8 j (by omega)
  · obtain rfl : k = L.1 := by omega
    rw [S2_c hS hn, show sl 1 (i32 L.1) = i32 (2 ^ L.1) from sl_n ⟨L.1, by omega⟩, i32_m1 hp]
    generalize hA : 2 ^ L.1 - 1 = A
    have vA : rlF (fun k => bs (ctr L w k) L.1) (i32 A) L.1 = true := rlF_1 _ (fun k hk => by rw [tb_ix (by omega), ← hA, Nat.testBit_two_pow_sub_one, decide_eq_true hk])
    refine I_m_relief_43 X' Q (fun v1 v2 => ∃ k b, k ≤ A + 1 ∧ v2 = i32 k + (-1) ∧ b ≤ A ∧ v1 = i32 b ∧ rlF (fun k => bs (ctr L w k) L.1) (i32 b) L.1 = true ∧ ∀ z, k ≤ z → z ≤ A → rlF (fun k => bs (ctr L w k) L.1) (i32 z) L.1 = true → bcz b ≤ bcz z ∧ (z < b → bcz b < bcz z)) (fun N ih v1 v2 hih hv => ?_) _ _ _ ⟨A + 1, A, by omega, ?_, by omega, rfl, vA, fun z h1 h2 => absurd h1 (by omega)⟩
    · obtain ⟨k, b, hk, rfl, hb, rfl, hV, hz⟩ := hv
      unfold B_m_relief_43
      match k, hk, hz with
      | 0, hk, hz =>
        refine ⟨fun _ => ?_, fun h => absurd (by decide) h⟩
        exact hQ b X' hS ⟨by omega, hV, fun z h1 h2 => (hz z (by omega) (by omega) h2).1, fun z h1 h2 => (hz z (by omega) (by omega) h2).2 h1⟩
      | k + 1, hk, hz =>
        have e1 : (i32 (k + 1) + (-1) : Int32) = i32 k := by
          rw [← i32_s k, Int32.add_assoc, show ((1 : Int32) + (-1)) = 0 from rfl, Int32.add_zero]
        rw [e1]
        refine ⟨fun h => absurd h (by rw [lt_lit, i32_i (by omega), show (0 : Int32).toInt = 0 from rfl]; omega), fun _ => ?_⟩
        have st : (rlF (fun k => bs (ctr L w k) L.1) (i32 k) L.1 = true → bcz b ≤ bcz k ∧ (k < b → bcz b < bcz k)) → ih (i32 b) (i32 k + (-1)) := fun hno => hih _ _ ⟨k, b, by omega, rfl, hb, rfl, hV, fun z h1 h2 h3 => by
          by_cases e : z = k
          · subst e; exact hno h3
          · exact hz z (by omega) h2 h3⟩
        rw [show V_Int_bitCount (i32 b) X' = bcn (i32 b) from rfl, show V_Int_bitCount (i32 k) X' = bcn (i32 k) from rfl, lt_lit]
        refine ⟨fun h2 => ?_, fun h2 => ?_⟩
        · have h2' : bcz b < bcz k := h2
          exact st (fun _ => ⟨by omega, fun _ => h2'⟩)
        · have h2' : ¬ bcz b < bcz k := h2
          refine I_m_relief_66 (i32 b) (i32 k) X' _ Q (fun v3 v4 => ∃ j, j ≤ L.1 ∧ v4 = i32 j ∧ v3 = b32 (rlF (fun k => bs (ctr L w k) L.1) (i32 k) j)) (fun N ih2 v3 v4 hih2 hv2 => ?_) N _ _ ⟨0, by omega, rfl, rfl⟩
          obtain ⟨j, hj, rfl, rfl⟩ := hv2
          unfold B_m_relief_66
          rw [S2_c hS hn, i32_lt (by omega) (by omega), ni_i (by omega)]
          refine ⟨fun hlt => ?_, fun hlt => ?_⟩
          · have nx : ∀ x, x = b32 (rlF (fun k => bs (ctr L w k) L.1) (i32 k) j && (tb (i32 k) j || decide ((bs (ctr L w j) L.1 &&& (i32 k ^^^ (-1))) = 0))) → ih2 x (i32 j + 1) := fun x hx => hih2 _ _ ⟨j + 1, by omega, i32_s j, hx⟩
            rw [v_has (by omega), h8 j hlt]
            refine ⟨fun f => nx _ ?_, fun f => ⟨fun t => ⟨fun u => nx _ ?_, fun u => nx _ ?_⟩, fun t => nx _ ?_⟩⟩
            · rw [b32_eq0.mp f]; rfl
            · rw [b32_ne0.mp f, decide_eq_true u, Bool.or_true]; rfl
            · rw [b32_ne0.mp f, b32_eq0.mp t, decide_eq_false u]; rfl
            · rw [b32_ne0.mp f, b32_ne0.mp t]; rfl
          · obtain rfl : j = L.1 := by omega
            refine ⟨fun h3 => st (fun hV2 => absurd hV2 (by rw [b32_eq0.mp h3]; decide)), fun h3 => hih _ _ ⟨k, k, by omega, rfl, by omega, rfl, b32_ne0.mp h3, fun z g1 g2 g3 => ?_⟩⟩
            by_cases e : z = k
            · subst e; exact ⟨Int.le_refl _, fun h => absurd h (by omega)⟩
            · have := (hz z (by omega) g2 g3).1
              exact ⟨by omega, fun h => absurd h (by omega)⟩
    · rw [← i32_s A, Int32.add_assoc, show ((1 : Int32) + (-1)) = 0 from rfl, Int32.add_zero]
theorem a_relief (h : CP B M) (hB : 0 ≤ B ∧ B ≤ 28000) (hdb : ∀ L, LawR M L → LawC M 8 L → DB L) {N : Nat} : W_E_relief N M (fun y M1 => ∀ N', W_m_relief N' M1 (fun b M2 => CP B M2 ∧ M2.1 190 0 = 0 ∧ y = b)) := by
  obtain ⟨L, hL, hR, hcl, hc, hg⟩ := CP_w h
  have hd := dok_g hg hB
  refine and_E_relief (Q1 := fun y _ => ∃ x, MNP (2 ^ L.1) (fun z => rlF (fun k => bs (ctr L (M.1 191) k) L.1) (i32 z) L.1 = true) x ∧ y = i32 x) (fun y M1 hy h1 N' => ?_) ?_ (an_E_relief (Q := fun _ M1 => Eqo fp_E_relief M M1) (fun _ _ e => e))
  · obtain ⟨x, hx, rfl⟩ := hy
    have x191 : M1.1 191 = M.1 191 := eqb h1 (lo := 191) (hi := 191) rfl (Nat.le_refl _) (Nat.le_refl _)
    have hp : CP B M1 := CP_eq h h1 rfl
    refine and_m_relief (Q1 := fun b M2 => M2.1 190 0 = 0 ∧ i32 x = b) (fun b M2 q1 q2 => ⟨q2, q1⟩) ?_ (fm_relief hp)
    unfold W_m_relief
    refine r_rel (X := wi M1 190 0 0) (w := M.1 191) x191 (LawR_eq (LawR_eq hR h1 rfl) eqo_1 rfl) ((show V_m_clauses (wi M1 190 0 0) = V_m_clauses M by unfold V_m_clauses; rw [wi_1n (by omega), eq1 h1 (b := 190) (k := 15) rfl]).trans hcl) hg.1 hd (hdb L hR hL) (fun y X' hS hy => ⟨?_, ?_⟩)
    · rw [eq1 hS (b := 190) (k := 0) rfl]; exact wi_1e
    · rw [MNP_u hx hy hx.1 hy.1]
  · unfold W_E_relief
    exact c_fewD hc hg.1 hL (KD_R hR) (hdb L hR hL) hd (fun x M' hx => ⟨x, hx, rfl⟩)
end REL
