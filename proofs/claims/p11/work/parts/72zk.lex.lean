/-! THE TAPE'S BYTES AS BOTH SIDES READ THEM -/
abbrev BY : Type := Nat → Int32
abbrev LT (f : BY) (n i : Nat) : Prop := i < n ∧ 97 ≤ (f i).toInt ∧ (f i).toInt ≤ 122
abbrev DG (f : BY) (n i : Nat) : Prop := i < n ∧ 48 ≤ (f i).toInt ∧ (f i).toInt ≤ 57
/-- bytes 0 to 255 -/
def BOK (f : BY) (n : Nat) : Prop := ∀ j, j < n → 0 ≤ (f j).toInt ∧ (f j).toInt < 256
theorem sg_i {x : Int32} (h : 0 ≤ x.toInt ∧ x.toInt < 256) : x.toInt8.toInt32.toInt = if x.toInt < 128 then x.toInt else x.toInt - 256 := by
  rw [Int8.toInt_toInt32, Int32.toInt_toInt8]
  rw [Int.bmod_def, show ((2 ^ 8 : Nat) : Int) = 256 from rfl]
  split <;> split <;> omega
/-- the class's tape -/
def TXc (M : MM) (f : BY) (n : Nat) : Prop := M.1 1 1 = i32 n ∧ M.1 2 = f
/-- the reference's text as it is read: at p, begin g -/
def TXr (M : MM) (f : BY) (n p g : Nat) : Prop := M.1 190 20 = i32 n ∧ M.1 190 19 = i32 p ∧ M.1 190 21 = i32 g ∧ ∀ j, j < n → M.1 203 j = (f j).toInt8.toInt32
section LX
variable {f : BY} {n i p g : Nat} {M : MM}
theorem lt_lit {x : Int32} {k : Int32} : (x < k) ↔ x.toInt < k.toInt := Int32.lt_iff_toInt_lt
theorem v_let (h : TXc M f n) (hn : n ≤ 400) (hi : i < 1000) : V_Tape_isLetter (i32 i) M = b32 (decide (LT f n i)) := by
  unfold V_Tape_isLetter LT
  rw [h.1, h.2, ni_i (by omega), if_neg (by rw [lt_lit, i32_i (by omega)]; show ¬ (i : Int) < 0; omega)]
  by_cases a : i < n
  · rw [if_pos ((i32_lt (by omega) (by omega)).mpr a)]
    by_cases b : f i < 97
    · rw [if_pos b, decide_eq_false (by rw [lt_lit] at b; have : (97 : Int32).toInt = 97 := rfl; omega)]
      rfl
    · rw [if_neg b]
      by_cases c : (122 : Int32) < f i
      · rw [if_pos c, decide_eq_false (by rw [lt_lit] at c; have : (122 : Int32).toInt = 122 := rfl; omega)]
        rfl
      · rw [if_neg c, decide_eq_true (by rw [lt_lit] at b c; have : (97 : Int32).toInt = 97 := rfl; have : (122 : Int32).toInt = 122 := rfl; omega)]
        rfl
  · rw [if_neg (fun e => a ((i32_lt (by omega) (by omega)).mp e)), decide_eq_false (by omega)]
    rfl
theorem v_dig (h : TXc M f n) (hn : n ≤ 400) (hi : i < 1000) : V_Tape_isDigit (i32 i) M = b32 (decide (DG f n i)) := by
  unfold V_Tape_isDigit DG
  rw [h.1, h.2, ni_i (by omega), if_neg (by rw [lt_lit, i32_i (by omega)]; show ¬ (i : Int) < 0; omega)]
  by_cases a : i < n
  · rw [if_pos ((i32_lt (by omega) (by omega)).mpr a)]
    by_cases b : f i < 48
    · rw [if_pos b, decide_eq_false (by rw [lt_lit] at b; have : (48 : Int32).toInt = 48 := rfl; omega)]
      rfl
    · rw [if_neg b]
      by_cases c : (57 : Int32) < f i
      · rw [if_pos c, decide_eq_false (by rw [lt_lit] at c; have : (57 : Int32).toInt = 57 := rfl; omega)]
        rfl
      · rw [if_neg c, decide_eq_true (by rw [lt_lit] at b c; have : (48 : Int32).toInt = 48 := rfl; have : (57 : Int32).toInt = 57 := rfl; omega)]
        rfl
  · rw [if_neg (fun e => a ((i32_lt (by omega) (by omega)).mp e)), decide_eq_false (by omega)]
    rfl
theorem i32_m1 {i : Nat} (h : 0 < i) : i32 i - 1 = i32 (i - 1) := by
  have : i32 (i - 1) + 1 = i32 i := by rw [i32_s, show i - 1 + 1 = i by omega]
  rw [← this]
  exact Int32.add_sub_cancel _ _
theorem v_letp (h : TXc M f n) (hn : n ≤ 400) (hi : i < 1000) : V_Tape_isLetter (i32 i - 1) M = b32 (decide (0 < i ∧ LT f n (i - 1))) := by
  by_cases a : 0 < i
  · rw [i32_m1 a, v_let h hn (by omega)]
    congr 1
    exact decide_eq_decide.mpr ⟨fun e => ⟨a, e⟩, fun e => e.2⟩
  · obtain rfl : i = 0 := by omega
    rw [decide_eq_false (by omega)]
    unfold V_Tape_isLetter
    exact if_pos (by decide)
theorem v_digp (h : TXc M f n) (hn : n ≤ 400) (hi : i < 1000) : V_Tape_isDigit (i32 i - 1) M = b32 (decide (0 < i ∧ DG f n (i - 1))) := by
  by_cases a : 0 < i
  · rw [i32_m1 a, v_dig h hn (by omega)]
    congr 1
    exact decide_eq_decide.mpr ⟨fun e => ⟨a, e⟩, fun e => e.2⟩
  · obtain rfl : i = 0 := by omega
    rw [decide_eq_false (by omega)]
    unfold V_Tape_isDigit
    exact if_pos (by decide)
theorem v_at {lo hi : Int32} (h : TXr M f n p g) (hb : BOK f n) (hn : n ≤ 400) (hp : p < 1000) (h1 : 0 ≤ lo.toInt) (h2 : hi.toInt < 128) : V_m_isAt lo hi M = b32 (decide (p < n ∧ lo.toInt ≤ (f p).toInt ∧ (f p).toInt ≤ hi.toInt)) := by
  obtain ⟨a1, a2, a3, a4⟩ := h
  unfold V_m_isAt
  rw [a1, a2, ni_i (by omega)]
  by_cases a : p < n
  · rw [if_pos ((i32_lt (by omega) (by omega)).mpr a), a4 p a]
    have hs := sg_i (hb p a)
    have hb' := hb p a
    by_cases b : (f p).toInt8.toInt32 < lo
    · rw [if_pos b]
      rw [lt_lit, hs] at b
      rw [decide_eq_false (by split at b <;> omega)]
      rfl
    · rw [if_neg b]
      rw [lt_lit, hs] at b
      by_cases c : hi < (f p).toInt8.toInt32
      · rw [if_pos c]
        rw [lt_lit, hs] at c
        rw [decide_eq_false (by split at c <;> omega)]
        rfl
      · rw [if_neg c]
        rw [lt_lit, hs] at c
        rw [decide_eq_true (by split at b <;> split at c <;> omega)]
        rfl
  · rw [if_neg (fun e => a ((i32_lt (by omega) (by omega)).mp e)), decide_eq_false (by omega)]
    rfl
/-- the next that is no blank -/
def NB (f : BY) (n p q : Nat) : Prop := p ≤ q ∧ q ≤ n ∧ (∀ j, p ≤ j → j < q → (f j).toInt = 32) ∧ (q < n → (f q).toInt ≠ 32)
theorem NB_u {q q' : Nat} (h : NB f n p q) (h' : NB f n p q') : q = q' := by
  obtain ⟨a1, a2, a3, a4⟩ := h
  obtain ⟨b1, b2, b3, b4⟩ := h'
  rcases Nat.lt_trichotomy q q' with e | e | e
  · exact absurd (b3 q a1 e) (a4 (by omega))
  · exact e
  · exact absurd (a3 q' b1 e) (b4 (by omega))
/-- as long as letters (digits) go on -/
def ENd (P : Nat → Prop) (n q e : Nat) : Prop := q ≤ e ∧ e ≤ n ∧ (∀ j, q ≤ j → j < e → P j) ∧ ¬ P e
theorem ENd_u {P : Nat → Prop} {q e e' : Nat} (h : ENd P n q e) (h' : ENd P n q e') : e = e' := by
  obtain ⟨a1, a2, a3, a4⟩ := h
  obtain ⟨b1, b2, b3, b4⟩ := h'
  rcases Nat.lt_trichotomy e e' with c | c | c
  · exact absurd (b3 e a1 c) a4
  · exact c
  · exact absurd (a3 e' b1 c) b4
/-- at another place -/
def atP (M : MM) (p g : Nat) : MM := (fun b j => if b = 190 ∧ j = 19 then i32 p else if b = 190 ∧ j = 21 then i32 g else M.1 b j, M.2)
theorem atP_p {q : Nat} : wi (atP M p g) 190 19 (i32 q) = atP M q g := by
  apply Prod.ext
  · funext b j
    show (if b = 190 ∧ j = 19 then i32 q else if b = 190 ∧ j = 19 then i32 p else if b = 190 ∧ j = 21 then i32 g else M.1 b j) = if b = 190 ∧ j = 19 then i32 q else if b = 190 ∧ j = 21 then i32 g else M.1 b j
    by_cases e : b = 190 ∧ j = 19
    · rw [if_pos e, if_pos e]
    · rw [if_neg e, if_neg e, if_neg e]
  · rfl
theorem atP_g {q : Nat} : wi (atP M p g) 190 21 (i32 q) = atP M p q := by
  apply Prod.ext
  · funext b j
    show (if b = 190 ∧ j = 21 then i32 q else if b = 190 ∧ j = 19 then i32 p else if b = 190 ∧ j = 21 then i32 g else M.1 b j) = if b = 190 ∧ j = 19 then i32 p else if b = 190 ∧ j = 21 then i32 q else M.1 b j
    by_cases e : b = 190 ∧ j = 21
    · rw [if_pos e, if_neg (by omega), if_pos e]
    · rw [if_neg e, if_neg e, if_neg e]
  · rfl
theorem atP_0 (h : TXr M f n p g) : atP M p g = M := by
  apply Prod.ext
  · funext b j
    show (if b = 190 ∧ j = 19 then i32 p else if b = 190 ∧ j = 21 then i32 g else M.1 b j) = M.1 b j
    by_cases e : b = 190 ∧ j = 19
    · rw [if_pos e, e.1, e.2, h.2.1]
    · rw [if_neg e]
      by_cases e : b = 190 ∧ j = 21
      · rw [if_pos e, e.1, e.2, h.2.2.1]
      · rw [if_neg e]
  · rfl
theorem atP_2 {p' g' : Nat} : atP (atP M p g) p' g' = atP M p' g' := by
  apply Prod.ext
  · funext b j
    show (if b = 190 ∧ j = 19 then i32 p' else if b = 190 ∧ j = 21 then i32 g' else if b = 190 ∧ j = 19 then i32 p else if b = 190 ∧ j = 21 then i32 g else M.1 b j) = if b = 190 ∧ j = 19 then i32 p' else if b = 190 ∧ j = 21 then i32 g' else M.1 b j
    by_cases e : b = 190 ∧ j = 19
    · rw [if_pos e, if_pos e]
    · rw [if_neg e, if_neg e]
      by_cases e' : b = 190 ∧ j = 21
      · rw [if_pos e', if_neg e, if_pos e']
      · rw [if_neg e', if_neg e', if_neg e, if_neg e']
  · rfl
theorem atP_T {p' g' : Nat} (h : TXr M f n p g) : TXr (atP M p' g') f n p' g' := by
  obtain ⟨a1, a2, a3, a4⟩ := h
  exact ⟨a1, rfl, rfl, fun j hj => a4 j hj⟩
theorem TXr_p {q : Nat} (h : TXr M f n p g) : TXr (wi M 190 19 (i32 q)) f n q g := by
  obtain ⟨a1, a2, a3, a4⟩ := h
  exact ⟨by rw [wi_1n (by omega)]; exact a1, wi_1e, by rw [wi_1n (by omega)]; exact a3, fun j hj => by rw [wi_1n (by omega)]; exact a4 j hj⟩
theorem TXr_g {q : Nat} (h : TXr M f n p g) : TXr (wi M 190 21 (i32 q)) f n p q := by
  obtain ⟨a1, a2, a3, a4⟩ := h
  exact ⟨by rw [wi_1n (by omega)]; exact a1, by rw [wi_1n (by omega)]; exact a2, wi_1e, fun j hj => by rw [wi_1n (by omega)]; exact a4 j hj⟩
theorem wi_self {a k : Nat} {x : Int32} (h : M.1 a k = x) : wi M a k x = M := by
  apply Prod.ext
  · funext b j
    show (if b = a ∧ j = k then x else M.1 b j) = M.1 b j
    by_cases e : b = a ∧ j = k
    · rw [if_pos e, e.1, e.2, h]
    · rw [if_neg e]
  · rfl
theorem wi_wi {a k : Nat} {x y : Int32} : wi (wi M a k x) a k y = wi M a k y := by
  apply Prod.ext
  · funext b j
    show (if b = a ∧ j = k then y else if b = a ∧ j = k then x else M.1 b j) = if b = a ∧ j = k then y else M.1 b j
    by_cases e : b = a ∧ j = k
    · rw [if_pos e, if_pos e]
    · rw [if_neg e, if_neg e, if_neg e]
  · rfl
theorem r_blanks {N : Nat} {Q : MM → Prop} (h : TXr M f n p g) (hb : BOK f n) (hn : n ≤ 400) (hp : p ≤ n) (hQ : ∀ q, NB f n p q → Q (atP M q q)) : W_m_blanks N M Q := by
  unfold W_m_blanks
  refine I_m_blanks_0 _ (fun M' => ∃ q, p ≤ q ∧ q ≤ n ∧ (∀ j, p ≤ j → j < q → (f j).toInt = 32) ∧ M' = atP M q g) (fun N ih M' hih hv => ?_) N _ ⟨p, Nat.le_refl _, hp, fun j h1 h2 => by omega, (atP_0 h).symm⟩
  obtain ⟨q, q1, q2, q3, rfl⟩ := hv
  unfold B_m_blanks_0
  have hq := atP_T (p' := q) (g' := g) h
  rw [v_at hq hb hn (by omega) (by decide) (by decide), hq.2.1]
  have e32 : (32 : Int32).toInt = 32 := rfl
  rw [e32]
  refine ⟨fun h0 => ?_, fun h0 => ?_⟩
  · rw [b32_eq0, decide_eq_false_iff_not] at h0
    rw [atP_g]
    exact hQ q ⟨q1, q2, q3, fun a b => h0 ⟨a, by omega, by omega⟩⟩
  · rw [b32_ne0, decide_eq_true_eq] at h0
    rw [i32_s, atP_p]
    refine hih _ ⟨q + 1, by omega, by omega, fun j j1 j2 => ?_, rfl⟩
    by_cases e : j = q
    · rw [e]; omega
    · exact q3 j j1 (by omega)
theorem r_letters {N : Nat} {Q : MM → Prop} (h : TXr M f n p g) (hb : BOK f n) (hn : n ≤ 400) (hp : p ≤ n) (hQ : ∀ q e, NB f n p q → ENd (LT f n) n q e → Q (atP M e q)) : W_m_letters N M Q := by
  unfold W_m_letters
  refine r_blanks h hb hn hp (fun q hq => ?_)
  refine I_m_letters_4 _ (fun M' => ∃ e, q ≤ e ∧ e ≤ n ∧ (∀ j, q ≤ j → j < e → LT f n j) ∧ M' = atP M e q) (fun N ih M' hih hv => ?_) N _ ⟨q, Nat.le_refl _, hq.2.1, fun j h1 h2 => by omega, rfl⟩
  obtain ⟨e, q1, q2, q3, rfl⟩ := hv
  unfold B_m_letters_4
  have ht := atP_T (p' := e) (g' := q) h
  rw [v_at ht hb hn (by omega) (by decide) (by decide), ht.2.1]
  have e1 : (97 : Int32).toInt = 97 := rfl
  have e2 : (122 : Int32).toInt = 122 := rfl
  rw [e1, e2]
  refine ⟨fun h0 => ?_, fun h0 => ?_⟩
  · rw [b32_eq0, decide_eq_false_iff_not] at h0
    exact hQ q e hq ⟨q1, q2, q3, h0⟩
  · rw [b32_ne0, decide_eq_true_eq] at h0
    rw [i32_s, atP_p]
    refine hih _ ⟨e + 1, by omega, by omega, fun j j1 j2 => ?_, rfl⟩
    by_cases e : j = e
    · rw [e]; exact h0
    · exact q3 j j1 (by omega)
theorem r_sign {N : Nat} {c : Int32} {Q : Int32 → MM → Prop} (h : TXr M f n p g) (hb : BOK f n) (hn : n ≤ 400) (hp : p ≤ n) (h1 : 0 ≤ c.toInt) (h2 : c.toInt < 128) (hQ : ∀ q, NB f n p q → ((q < n ∧ f q = c) → Q 1 (atP M (q + 1) q)) ∧ (¬ (q < n ∧ f q = c) → Q 0 (atP M q q))) : W_m_sign c N M Q := by
  unfold W_m_sign
  refine r_blanks h hb hn hp (fun q hq => ?_)
  have ht := atP_T (p' := q) (g' := q) h
  have hq2 := hq.2.1
  rw [v_at ht hb hn (by omega) h1 h2, ht.2.1]
  have he : (c.toInt ≤ (f q).toInt ∧ (f q).toInt ≤ c.toInt) ↔ f q = c := ⟨fun e => Int32.toInt_inj.mp (by omega), fun e => by rw [e]; omega⟩
  refine ⟨fun h0 => ?_, fun h0 => ?_⟩
  · rw [b32_eq0, decide_eq_false_iff_not, he] at h0
    exact (hQ q hq).2 h0
  · rw [b32_ne0, decide_eq_true_eq, he] at h0
    rw [i32_s, atP_p]
    exact (hQ q hq).1 h0
/-- a word's bytes -/
def wdL (f : BY) (q e : Nat) : List Int := (List.range (e - q)).map (fun j => (f (q + j)).toInt)
def stL (s : Nat) : List Int := (List.range (sx_len ((s + 1) / 128))).map (fun j => (sc (s + 1) (i32 j)).toInt)
theorem r_isWord {s N q e : Nat} {Q : Int32 → Prop} (h : TXr M f n e q) (hb : BOK f n) (hn : n ≤ 400) (he : ENd (LT f n) n q e) (hs : sx_len ((s + 1) / 128) < 100) (hQ : Q (b32 (decide (wdL f q e = stL s)))) : W_m_isWord s N M Q := by
  obtain ⟨a1, a2, a3, a4⟩ := h
  obtain ⟨q1, q2, q3, q4⟩ := he
  unfold W_m_isWord
  have ee : (i32 e - i32 q : Int32) = i32 (e - q) := by
    have : i32 (e - q) + i32 q = i32 e := by rw [i32_a, Nat.sub_add_cancel q1]
    rw [← this]
    exact Int32.add_sub_cancel _ _
  rw [a2, a3, ee]
  refine ⟨fun hl => ?_, fun hl => ?_⟩
  · have hl' : e - q = sx_len ((s + 1) / 128) := by
      have := congrArg Int32.toInt hl
      rw [i32_i (by omega), show (Int32.ofNat (sx_len ((s + 1) / 128))) = i32 (sx_len ((s + 1) / 128)) from rfl, i32_i (by omega)] at this
      omega
    have hw : wdL f q e = stL s ↔ ∀ j, j < e - q → (f (q + j)).toInt = (sc (s + 1) (i32 j)).toInt := by
      unfold wdL stL
      rw [← hl']
      constructor
      · intro hh j hj
        exact List.map_inj_left.mp hh j (List.mem_range.mpr hj)
      · intro hh
        exact List.map_inj_left.mpr (fun j hj => hh j (List.mem_range.mp hj))
    refine I_m_isWord_24 s M Q (fun v2 v3 => (v2 = 0 ∧ ¬ wdL f q e = stL s) ∨ (v2 = 1 ∧ ∃ k, k ≤ e - q ∧ v3 = i32 k ∧ ∀ j, j < k → (f (q + j)).toInt = (sc (s + 1) (i32 j)).toInt)) (fun N ih v2 v3 hih hv => ?_) N _ _ (Or.inr ⟨rfl, 0, by omega, rfl, fun j hj => by omega⟩)
    unfold B_m_isWord_24
    rcases hv with ⟨rfl, h2⟩ | ⟨rfl, k, k1, rfl, k3⟩
    · refine ⟨fun _ => ?_, fun hb => absurd rfl hb⟩
      rw [decide_eq_false h2] at hQ
      exact hQ
    · refine ⟨fun hb => absurd hb (by decide), fun _ => ⟨fun hk => ?_, fun hk => ?_⟩⟩
      · have hk' : k < e - q := by
          rw [show (Int32.ofNat (sx_len ((s + 1) / 128))) = i32 (sx_len ((s + 1) / 128)) from rfl, ← hl'] at hk
          exact (i32_lt (by omega) (by omega)).mp hk
        rw [a3, i32_a, ni_i (by omega), a4 _ (by omega)]
        have hlt := q3 (q + k) (by omega) (by omega)
        have hsg := sg_i (hb (q + k) (by omega))
        rw [if_pos (by have := hlt.2.2; omega)] at hsg
        refine ⟨fun he => hih _ _ (Or.inr ⟨rfl, k + 1, by omega, i32_s k, fun j hj => ?_⟩), fun he => hih _ _ (Or.inl ⟨rfl, fun hh => he ?_⟩)⟩
        · by_cases e0 : j = k
          · rw [e0, ← hsg, he]
          · exact k3 j (by omega)
        · have := hw.mp hh k hk'
          exact Int32.toInt_inj.mp (by rw [hsg]; exact this)
      · have hk' : ¬ k < e - q := by
          rw [show (Int32.ofNat (sx_len ((s + 1) / 128))) = i32 (sx_len ((s + 1) / 128)) from rfl, ← hl'] at hk
          exact fun x => hk ((i32_lt (by omega) (by omega)).mpr x)
        rw [decide_eq_true (hw.mpr (fun j hj => k3 j (by omega)))] at hQ
        exact hQ
  · have hw : ¬ wdL f q e = stL s := fun hh => hl (by
      have := congrArg List.length hh
      unfold wdL stL at this
      rw [List.length_map, List.length_map, List.length_range, List.length_range] at this
      rw [this]
      rfl)
    rw [decide_eq_false hw] at hQ
    refine I_m_isWord_24 s M Q (fun v2 _ => v2 = 0) (fun N ih v2 v3 hih hv => ?_) N _ _ rfl
    unfold B_m_isWord_24
    subst hv
    exact ⟨fun _ => hQ, fun hb => absurd rfl hb⟩
theorem r_passes {s N : Nat} {Q : Int32 → MM → Prop} (h : TXr M f n p g) (hb : BOK f n) (hn : n ≤ 400) (hp : p ≤ n) (hs : sx_len ((s + 1) / 128) < 100) (hQ : ∀ q e, NB f n p q → ENd (LT f n) n q e → (wdL f q e = stL s → Q 1 (atP M e q)) ∧ (¬ wdL f q e = stL s → Q 0 (atP M q q))) : W_m_passes s N M Q := by
  unfold W_m_passes
  refine r_letters h hb hn hp (fun q e hq he => ?_)
  refine r_isWord (atP_T h) hb hn he hs ?_
  refine ⟨fun h0 => ?_, fun h0 => ?_⟩
  · rw [b32_eq0, decide_eq_false_iff_not] at h0
    rw [show (atP M e q).1 190 21 = i32 q from rfl, atP_p]
    exact (hQ q e hq he).2 h0
  · rw [b32_ne0, decide_eq_true_eq] at h0
    exact (hQ q e hq he).1 h0
end LX
