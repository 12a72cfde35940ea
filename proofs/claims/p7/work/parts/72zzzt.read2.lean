/-! READING: the class takes the rows, finds the codes -/
def RDt (L : LWT) (w : RW) (f : BY) (M' : MM) (k : Nat) : Prop := M'.1 166 4 = baR L w f k ∧ ∃ m, m ≤ k ∧ M'.1 166 3 = i32 m ∧ ∀ s : Int32, (∀ j, j < m → ¬ M'.1 167 j &&& s = 0) ↔ ∀ i, i < k → tkB f i = true → ¬ fbR L w f i &&& s = 0
def fRw : List (Nat × Nat × Option Nat) := [(166, 166, none), (167, 167, none)]
def fRc : List (Nat × Nat × Option Nat) := [(166, 166, some 6), (166, 166, some 7), (166, 166, some 8), (168, 168, none)]
section RDC
variable {M : MM} {L : LWT} {w : RW} {s : RS} {f : BY} {n N : Nat}
theorem c_addN {x : Int32} {m : Nat} {Q : MM → Prop} (h3 : M.1 166 3 = i32 m) (hm : m < 133) (h1 : (∃ j, j < m ∧ M.1 167 j = x) → Q M) (h2 : Q (wi (wi M 167 m x) 166 3 (i32 (m + 1)))) : W_Reading_addNeed x N M Q := by
  unfold W_Reading_addNeed
  refine I_Reading_addNeed_2 x M _ Q (fun v => ∃ j, j ≤ m ∧ v = i32 j) (fun N ih v hih hv => ?_) N _ ⟨0, by omega, rfl⟩
  obtain ⟨j, hj, rfl⟩ := hv
  unfold B_Reading_addNeed_2
  rw [h3, i32_lt (j := j) (by omega) (by omega), ni_i (j := j) (by omega)]
  refine ⟨fun hl => ⟨fun e => h1 ⟨j, hl, e⟩, fun _ => hih _ ⟨j + 1, by omega, i32_s j⟩⟩, fun _ => ⟨fun _ => ?_, fun h => absurd ((i32_lt (j := m) (k := 133) (by omega) (by omega)).mpr hm) h⟩⟩
  rw [ni_i (j := m) (by omega), wi_1n (by omega), h3, i32_s]
  exact h2
theorem c_row {j : Nat} {Q : Int32 → MM → Prop} (hc : CW M 18 w s) (hw : WF w) (hL : LawC M 8 L) (hd : dOK w) (hb : BOK f n) (hj : j + 3 ≤ n) (hf : rwB w f j = false → Q 0 M) (h0 : rwB w f j = true → ¬ bnf f (j + 2) = 1 → Q 1 (wi M 166 4 (M.1 166 4 ||| fbm L w (bnf f j) (i32 (bnf f (j + 1)))))) (h1 : rwB w f j = true → bnf f (j + 2) = 1 → W_Reading_addNeed (fbm L w (bnf f j) (i32 (bnf f (j + 1)))) N M (fun M9 => Q 1 M9)) : W_Reading_takeRow (f j) (f (j + 1)) (f (j + 2)) N M Q := by
  have b0 := bnf_l hb (show j < n by omega)
  have b1 := bnf_l hb (show j + 1 < n by omega)
  have b2 := bnf_l hb (show j + 2 < n by omega)
  obtain ⟨e0, hn10, ei⟩ := nC_i hw
  unfold W_Reading_takeRow
  rw [bnf_e hb (show j < n by omega), bnf_e hb (show j + 1 < n by omega), bnf_e hb (show j + 2 < n by omega), hc.1.1, ei, i32_lt (j := bnf f j) (by omega) (by omega)]
  refine ⟨fun ha => ?_, fun ha => hf (rwB_n (fun h => ha h.1))⟩
  rw [c_alive hc hw ha]
  refine ⟨fun e => hf (rwB_n (fun h => ?_)), fun e => ?_⟩
  · rw [b32_eq0, h.2.1] at e
    cases e
  rw [b32_ne0] at e
  refine ⟨fun hm => ?_, fun hm => hf (rwB_n (fun h => hm ((i32_lt (k := 64) (by omega) (by omega)).mpr h.2.2.1)))⟩
  have hm' : bnf f (j + 1) < 64 := (i32_lt (k := 64) (by omega) (by omega)).mp hm
  refine ⟨fun ht => hf (rwB_n (fun h => ?_)), fun ht => ?_⟩
  · have : 1 < bnf f (j + 2) := (i32_lt (j := 1) (by omega) (by omega)).mp ht
    omega
  have ht' : bnf f (j + 2) ≤ 1 := by
    have : ¬ 1 < bnf f (j + 2) := fun h => ht ((i32_lt (j := 1) (by omega) (by omega)).mpr h)
    omega
  have ok : rwB w f j = true := rwB_i.mpr ⟨ha, e, hm', ht'⟩
  rw [c_known hc ha hw, hc.1.2.2.1]
  refine sp_bearing hL (Or.inl rfl) (rngM (by omega) hm' ⟨hd.1, by have := hd.2; omega⟩ (cl w (bnf f j) 1)) ⟨fun h => ?_, fun h => ?_⟩
  · refine h0 ok (fun h' => ?_)
    rw [h'] at h
    exact absurd h (by decide)
  · refine h1 ok ?_
    by_cases h' : bnf f (j + 2) = 0
    · rw [h'] at h
      exact absurd rfl h
    · omega
theorem c_rows {Q : Int32 → MM → Prop} (h1 : M.1 1 1 = i32 n) (hn : n ≤ 400) (hf : M.1 2 = f) (hb : BOK f n) (hc : CW M 18 w s) (hw : WF w) (hL : LawC M 8 L) (hd : dOK w) (hQ0 : tpB w f n = false → ∀ M', Eqo fRw M M' → Q 0 M') (hQ1 : tpB w f n = true → ∀ M', Eqo fRw M M' → RDt L w f M' (n / 3) → Q 1 M') : W_Reading_takeRows N M Q := by
  unfold W_Reading_takeRows
  refine I_Reading_takeRows_12 Q (fun v M' => ∃ k, v = i32 (3 * k) ∧ 3 * k ≤ n ∧ alR w f k = true ∧ Eqo fRw M M' ∧ RDt L w f M' k) (fun N ih v M' hih hv => ?_) N _ _ ⟨0, rfl, by omega, rfl, eqo_wi (i := 0) (eqo_wi (i := 0) (eqo_rf _) rfl (Or.inl rfl)) rfl (Or.inl rfl), wi_1e, 0, by omega, by rw [wi_1n (by omega), wi_1e]; rfl, fun s => ⟨fun _ i hi => by omega, fun _ j hj => by omega⟩⟩
  obtain ⟨k, rfl, hk, ha, eE, hR⟩ := hv
  have s1 : M'.1 1 1 = i32 n := by rw [eq1 eE (b := 1) (k := 1) rfl]; exact h1
  have s2 : M'.1 2 = f := by rw [eqb eE (lo := 2) (hi := 2) rfl (Nat.le_refl _) (Nat.le_refl _)]; exact hf
  have hc' : CW M' 18 w s := CW_eq hc eE rfl
  have hL' : LawC M' 8 L := LawC_eq hL eE rfl
  unfold B_Reading_takeRows_12
  rw [s1, show i32 (3 * k) + 3 = i32 (3 * k + 3) from i32_a (3 * k) 3, i32_lt (j := 3 * k) (k := n) (by omega) (by omega), i32_lt (j := n) (k := 3 * k + 3) (by omega) (by omega)]
  refine ⟨fun hl => ⟨fun hs => hQ0 ?_ _ eE, fun hs => ?_⟩, fun hl => hQ1 ?_ _ eE ?_⟩
  · unfold tpB
    rw [decide_eq_false (by omega)]
    rfl
  · rw [s2, show i32 (3 * k) + 1 = i32 (3 * k + 1) from i32_a (3 * k) 1, show i32 (3 * k) + 2 = i32 (3 * k + 2) from i32_a (3 * k) 2, ni_i (j := 3 * k) (by omega), ni_i (j := 3 * k + 1) (by omega), ni_i (j := 3 * k + 2) (by omega)]
    obtain ⟨r4, m, hm, r3, hs2⟩ := hR
    have al1 : rwB w f (3 * k) = true → alR w f (k + 1) = true := fun e => by
      unfold alR
      rw [ha, e]
      rfl
    refine c_row hc' hw hL' hd hb (j := 3 * k) (by omega) (fun e => ⟨fun _ => hQ0 ?_ _ eE, fun h => absurd rfl h⟩) (fun e e2 => ⟨fun h => absurd h (by decide), fun _ => hih _ _ ⟨k + 1, rfl, by omega, al1 e, eqo_wi (i := 0) eE rfl (Or.inl rfl), ?_, m, by omega, ?_, fun s => ?_⟩⟩) (fun e e2 => ?_)
    · cases h : tpB w f n with
      | false => rfl
      | true =>
        unfold tpB at h
        rw [Bool.and_eq_true] at h
        have := (alR_i (n / 3)).mp h.2 k (by omega)
        rw [e] at this
        cases this
    · have ht : ¬ tkB f k = true := fun h => e2 (of_decide_eq_true h)
      rw [wi_1e, r4]
      show _ = (if tkB f k = true then _ else _)
      rw [if_neg ht]
      rfl
    · rw [wi_1n (by omega)]
      exact r3
    · have ht : ¬ tkB f k = true := fun h => e2 (of_decide_eq_true h)
      have e7 : ∀ x, (wi M' 166 4 x).1 167 = M'.1 167 := fun x => by
        funext j
        exact wi_1n (by omega)
      rw [e7, hs2 s]
      refine ⟨fun h i hi h0 => ?_, fun h i hi => h i (by omega)⟩
      by_cases ei : i = k
      · rw [ei] at h0
        exact absurd h0 ht
      · exact h i (by omega) h0
    · have ht : tkB f k = true := decide_eq_true e2
      have b4 : baR L w f (k + 1) = baR L w f k := if_pos ht
      refine c_addN r3 (by omega) (fun ⟨j, hj, ej⟩ => ⟨fun h => absurd h (by decide), fun _ => hih _ _ ⟨k + 1, rfl, by omega, al1 e, eE, r4.trans b4.symm, m, by omega, r3, fun s => ?_⟩⟩) ⟨fun h => absurd h (by decide), fun _ => hih _ _ ⟨k + 1, rfl, by omega, al1 e, eqo_wi (i := 0) (eqo_wi (i := 1) eE rfl (Or.inl rfl)) rfl (Or.inl rfl), ?_, m + 1, by omega, wi_1e, fun s => ?_⟩⟩
      · rw [hs2 s]
        refine ⟨fun h i hi h0 => ?_, fun h i hi => h i (by omega)⟩
        by_cases ei : i = k
        · subst ei
          have := (hs2 s).mpr h j hj
          rw [ej] at this
          exact this
        · exact h i (by omega) h0
      · rw [wi_1n (by omega), wi_1n (by omega), r4, b4]
      · have e7 : ∀ j, (wi (wi M' 167 m (fbm L w (bnf f (3 * k)) (i32 (bnf f (3 * k + 1))))) 166 3 (i32 (m + 1))).1 167 j = if j = m then fbR L w f k else M'.1 167 j := fun j => by
          rw [wi_1n (by omega)]
          by_cases ej : j = m
          · rw [ej, if_pos rfl]
            exact wi_1e
          · rw [if_neg ej]
            exact wi_1n (by omega)
        refine ⟨fun h i hi h0 => ?_, fun h j hj => ?_⟩
        · by_cases ei : i = k
          · subst ei
            have := h m (by omega)
            rw [e7, if_pos rfl] at this
            exact this
          · refine (hs2 s).mp (fun j hj => ?_) i (by omega) h0
            have := h j (by omega)
            rw [e7, if_neg (by omega)] at this
            exact this
        · rw [e7]
          by_cases ej : j = m
          · rw [if_pos ej]
            exact h k (by omega) ht
          · rw [if_neg ej]
            exact (hs2 s).mpr (fun i hi => h i (by omega)) j (by omega)
  · unfold tpB
    rw [decide_eq_true (show n % 3 = 0 by omega), show n / 3 = k by omega, ha]
    rfl
  · rw [show n / 3 = k by omega]
    exact hR
theorem v_nev (hL : LawC M 8 L) : V_Law_never 8 M = nvB L := by
  obtain ⟨l1, l2, -, l4⟩ := hL
  have hp : 0 < 2 ^ L.1 := Nat.pow_pos (by omega)
  unfold V_Law_never
  rw [l1, show sl 1 (i32 L.1) = i32 (2 ^ L.1) from sl_n ⟨L.1, by omega⟩, i32_m1 hp]
  apply tb_ext
  intro k hk
  rw [tb_and, tb_not hk, tb_ix hk, Nat.testBit_two_pow_sub_one]
  unfold nvB
  rw [tb_bs _ _ (by omega) _ hk]
  by_cases e : k < L.1
  · have h := (l4 k e).1
    rw [bt_b hk] at h
    rw [decide_eq_true e, Bool.and_true, Bool.true_and, ← h]
    cases tb (M.1 8 2) k <;> decide
  · rw [decide_eq_false e, Bool.and_false, Bool.false_and]
theorem c_meet {m : Nat} {x : Int32} {Q : Int32 → Prop} (h3 : M.1 166 3 = i32 m) (hm : m ≤ 400) (h1 : (∀ j, j < m → ¬ M.1 167 j &&& x = 0) → Q 1) (h0 : ¬ (∀ j, j < m → ¬ M.1 167 j &&& x = 0) → Q 0) : W_Reading_meetsNeeds x N M Q := by
  unfold W_Reading_meetsNeeds
  refine I_Reading_meetsNeeds_2 x M Q (fun v => ∃ j, j ≤ m ∧ v = i32 j ∧ ∀ i, i < j → ¬ M.1 167 i &&& x = 0) (fun N ih v hih hv => ?_) N _ ⟨0, by omega, rfl, fun i hi => by omega⟩
  obtain ⟨j, hj, rfl, hp⟩ := hv
  unfold B_Reading_meetsNeeds_2
  rw [h3, i32_lt (by omega) (by omega), ni_i (by omega)]
  refine ⟨fun hl => ⟨fun e => h0 (fun h => h j hl e), fun e => hih _ ⟨j + 1, by omega, i32_s j, fun i hi => ?_⟩⟩, fun hl => h1 (fun i hi => hp i (by omega))⟩
  by_cases ei : i = j
  · rw [ei]; exact e
  · exact hp i (by omega)
theorem c_codes {Q : MM → Prop} (hn : n ≤ 400) (hL : LawC M 8 L) (hR : RDt L w f M (n / 3)) (hQ : ∀ M'', Eqo fRc M M'' → M''.1 166 6 = i32 (cnF (cdB L w f n) (2 ^ L.1)) → M''.1 166 7 = (if cnF (cdB L w f n) (2 ^ L.1) = 0 then 0 else anF (cdB L w f n) (-1) (2 ^ L.1)) → M''.1 166 8 = orF (cdB L w f n) (2 ^ L.1) → (∀ t, t < 2 ^ L.1 → M''.1 168 t = i32 (if cdB L w f n t = true then 1 else 0)) → Q M'') : W_Reading_findCodes N M Q := by
  obtain ⟨r4, m, hm, r3, hs2⟩ := hR
  have l12 := hL.2.1
  have hT : 2 ^ L.1 ≤ 4096 := Nat.pow_le_pow_right (n := 2) (by omega) l12
  unfold W_Reading_findCodes
  rw [v_nev hL, r4, show sl 1 (M.1 8 1) = i32 (2 ^ L.1) from by rw [hL.1]; exact sl_n ⟨L.1, by omega⟩]
  generalize hF : cdB L w f n = F at hQ
  have fit : ∀ t : Nat, F t = true ↔ (i32 t &&& ((nvB L &&& (baR L w f (n / 3) ^^^ (-1))) ^^^ (-1)) = 0 ∧ ∀ j, j < m → ¬ M.1 167 j &&& i32 t = 0) := fun t => by
    rw [← hF, cdB_i, ← fit_i, hs2 (i32 t)]
  refine I_Reading_findCodes_42 _ _ Q (fun v X => ∃ k, k ≤ 2 ^ L.1 ∧ v = i32 k ∧ Eqo fRc M X ∧ X.1 166 6 = i32 (cnF F k) ∧ X.1 166 7 = anF F (-1) k ∧ X.1 166 8 = orF F k ∧ ∀ t, t < k → X.1 168 t = i32 (if F t = true then 1 else 0)) (fun N ih v X hih hv => ?_) N _ _ ⟨0, Nat.zero_le _, rfl, eqo_wi (i := 2) (eqo_wi (i := 1) (eqo_wi (i := 0) (eqo_rf _) rfl (Or.inr rfl)) rfl (Or.inr rfl)) rfl (Or.inr rfl), rfl, rfl, rfl, fun t ht => by omega⟩
  obtain ⟨k, hk, rfl, eE, g6, g7, g8, gm⟩ := hv
  have x3 : X.1 166 3 = i32 m := by rw [eq1 eE (b := 166) (k := 3) rfl]; exact r3
  have x7 : X.1 167 = M.1 167 := eqb eE (lo := 167) (hi := 167) rfl (Nat.le_refl _) (Nat.le_refl _)
  have hck := cnF_le (F := F) k
  unfold B_Reading_findCodes_42
  rw [i32_lt (j := k) (by omega) (by omega), ni_i (j := k) (by omega)]
  refine ⟨fun hl => ?_, fun hl => ?_⟩
  · have mk : ∀ (Y : MM) (x : Int32), Y.1 168 = X.1 168 → x = i32 (if F k = true then 1 else 0) → ∀ t, t < k + 1 → (wi Y 168 k x).1 168 t = i32 (if F t = true then 1 else 0) := fun Y x hY hx t ht => by
      by_cases e : t = k
      · rw [e, hx]
        exact wi_1e
      · rw [wi_1n (by omega), hY]
        exact gm t (by omega)
    have no : ¬ F k = true → ih (i32 k + 1) (wi X 168 k 0) := fun e => by
      refine hih _ _ ⟨k + 1, by omega, i32_s k, eqo_wi (i := 3) eE rfl (Or.inl rfl), ?_, ?_, ?_, mk X 0 rfl (by rw [if_neg e]; rfl)⟩
      · rw [wi_1n (by omega), g6]
        show _ = i32 (if F k = true then _ else _)
        rw [if_neg e]
      · rw [wi_1n (by omega), g7]
        show _ = (if F k = true then _ else _)
        rw [if_neg e]
      · rw [wi_1n (by omega), g8]
        show _ = (if F k = true then _ else _)
        rw [if_neg e]
    refine ⟨fun h1 => ?_, fun h1 => no (fun e => h1 ((fit k).mp e).1)⟩
    refine c_meet x3 (by omega) (fun h2 => ⟨fun h => absurd h (by decide), fun _ => ?_⟩) (fun h2 => ⟨fun _ => no (fun e => h2 (by rw [x7]; exact ((fit k).mp e).2)), fun h => absurd rfl h⟩)
    have e : F k = true := (fit k).mpr ⟨h1, by rw [← x7]; exact h2⟩
    refine hih _ _ ⟨k + 1, by omega, i32_s k, eqo_wi (i := 2) (eqo_wi (i := 1) (eqo_wi (i := 0) (eqo_wi (i := 3) eE rfl (Or.inl rfl)) rfl (Or.inr rfl)) rfl (Or.inr rfl)) rfl (Or.inr rfl), ?_, ?_, ?_, fun t ht => ?_⟩
    · rw [wi_1n (by omega), wi_1n (by omega), wi_1e, wi_1n (by omega), g6, i32_s]
      show _ = i32 (if F k = true then _ else _)
      rw [if_pos e]
    · rw [wi_1n (by omega), wi_1e, wi_1n (by omega), wi_1n (by omega), g7]
      show _ = (if F k = true then _ else _)
      rw [if_pos e]
    · rw [wi_1e, wi_1n (by omega), wi_1n (by omega), wi_1n (by omega), g8]
      show _ = (if F k = true then _ else _)
      rw [if_pos e]
    · rw [wi_1n (by omega), wi_1n (by omega), wi_1n (by omega)]
      exact mk X 1 rfl (by rw [if_pos e]; rfl) t ht
  · obtain rfl : k = 2 ^ L.1 := by omega
    rw [g6]
    refine ⟨fun e => ?_, fun e => ?_⟩
    · have e0 : cnF F (2 ^ L.1) = 0 := (i32_inj (k := 0) (by omega) (by omega)).mp e
      refine hQ _ (eqo_wi (i := 1) eE rfl (Or.inr rfl)) ?_ ?_ ?_ (fun t ht => ?_)
      · rw [wi_1n (by omega)]; exact g6
      · rw [wi_1e, if_pos e0]
      · rw [wi_1n (by omega)]; exact g8
      · rw [wi_1n (by omega)]; exact gm t ht
    · refine hQ _ eE g6 ?_ g8 gm
      rw [g7, if_neg (fun h => e (by rw [h]; rfl))]
/-- what the class's read and next leave changed -/
def fRz : List (Nat × Nat × Option Nat) := [(1, 1, some 1), (166, 166, none), (167, 167, none), (168, 168, none)]
theorem z_rw {M' : MM} (e : Eqo fRw M M') : Eqo fRz M (wi M' 1 1 0) := eqo_wi (i := 0) (eqo_tr (eqo_rf _) (fps_cons (i := 1) rfl (fps_cons (i := 2) rfl fps_nil)) e) rfl (Or.inr rfl)
theorem z_rc {M' M'' : MM} (e : Eqo fRz M M') (e2 : Eqo fRc M' M'') : Eqo fRz M M'' := eqo_tr e (fps_any (i := 1) rfl (fps_any (i := 1) rfl (fps_any (i := 1) rfl (fps_cons (i := 3) rfl fps_nil)))) e2
theorem c_read {p : Int32} (h1 : M.1 1 1 = i32 n) (hn : n ≤ 400) (hf : M.1 2 = f) (hb : BOK f n) (hc : CW M 18 w s) (hw : WF w) (hL : LawC M 8 L) (hd : dOK w) : W_E_read p N M (fun y M1 => Eqo fRz M M1 ∧ tpB w f n = true ∧ (0 ≤ p.toInt ∧ p.toInt ≤ 2) ∧ y = rdA (cdB L w f n) (2 ^ L.1) p) (fun ce M1 => Eqo fRz M M1 ∧ ((ce = 0 ∧ tpB w f n = false) ∨ (ce = 4 ∧ tpB w f n = true ∧ ¬ (0 ≤ p.toInt ∧ p.toInt ≤ 2)))) := by
  unfold W_E_read
  refine c_rows h1 hn hf hb hc hw hL hd (fun e M' eE => ⟨fun _ => ⟨z_rw eE, Or.inl ⟨rfl, e⟩⟩, fun h => absurd rfl h⟩) (fun e M' eE hR => ⟨fun h => absurd h (by decide), fun _ => ?_⟩)
  have z0 : (0 : Int32).toInt = 0 := rfl
  have z2 : (2 : Int32).toInt = 2 := rfl
  rw [lt_lit, lt_lit, z0, z2]
  refine ⟨fun h => ⟨z_rw eE, Or.inr ⟨rfl, e, by omega⟩⟩, fun ha => ⟨fun h => ⟨z_rw eE, Or.inr ⟨rfl, e, by omega⟩⟩, fun hb2 => ?_⟩⟩
  have hL2 : LawC (wi M' 1 1 0) 8 L := LawC_eq (LawC_eq hL eE rfl) eqo_1 rfl
  refine c_codes hn hL2 (show RDt L w f (wi M' 1 1 0) (n / 3) from hR) (fun M'' e2 g6 g7 g8 gm => ?_)
  have ez := z_rc (z_rw eE) e2
  refine ⟨fun hp => ⟨ez, e, by omega, ?_⟩, fun hp => ⟨fun hp1 => ⟨ez, e, by omega, ?_⟩, fun hp1 => ⟨ez, e, by omega, ?_⟩⟩⟩
  · unfold rdA
    rw [if_pos hp, g6]
  · unfold rdA
    rw [if_neg hp, if_pos hp1, g7]
  · unfold rdA
    rw [if_neg hp, if_neg hp1, g8]
    by_cases h0 : cnF (cdB L w f n) (2 ^ L.1) = 0
    · rw [if_pos h0, orF_0 _ h0]
    · rw [if_neg h0]
end RDC
