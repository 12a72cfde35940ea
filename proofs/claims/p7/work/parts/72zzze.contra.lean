/-! ANSWERS: clauses that contradict each other -/
section CTR
variable {B : Int} {M X : MM} {p q : Int32} {w : RW} {s : RS} {L : LWT}
def DB (L : LWT) : Prop := ∀ k, k < L.1 → ∃ d, d < 8 ∧ L.2.2.1 k = i32 d
/-- what one clause gets of two sets -/
def adF (a b : Int32) (k : Nat) : Int32 := if tb a k = true then b else if tb b k = true then a else 0
/-- .. of the places of a deed, of the citizens, of the deeds -/
def foP (L : LWT) (w : RW) (d c k : Nat) : Nat → Int32
  | 0 => 0
  | n + 1 => foP L w d c k n ||| adF (fbm L w c (i32 (8 * d + n))) (dmm L w c (i32 (8 * d + n))) k
def foC (L : LWT) (w : RW) (d k : Nat) : Nat → Int32
  | 0 => 0
  | n + 1 => if alv w n = true then foC L w d k n ||| foP L w d n k 8 else foC L w d k n
theorem foC_s {L : LWT} {w : RW} {d k n : Nat} : foC L w d k (n + 1) = if alv w n = true then foC L w d k n ||| foP L w d n k 8 else foC L w d k n := rfl
def foD (L : LWT) (w : RW) (k : Nat) : Nat → Int32
  | 0 => 0
  | n + 1 => foD L w k n ||| foC L w n k (nC w)
/-- the class's rows of others -/
def OTH (L : LWT) (R : Nat → Int32) (M : MM) : Prop := ∀ k, k < L.1 → M.1 172 k = R k
theorem c_addO {a b : Int32} {R : Nat → Int32} {N : Nat} {Q : MM → Prop} (hL : LawC M 8 L) (hR : OTH L R M) (hQ : ∀ M', OTH L (fun k => R k ||| adF a b k) M' → Eqo fp_Inquiry_addOthers M M' → Q M') : W_Inquiry_addOthers a b N M Q := by
  have l12 := hL.2.1
  refine and_Inquiry_addOthers (Q1 := fun M' => OTH L (fun k => R k ||| adF a b k) M') (fun M' h1 h2 => hQ M' h1 h2) ?_ (an_Inquiry_addOthers (Q := fun M' => Eqo fp_Inquiry_addOthers M M') (fun M1 h => h))
  unfold W_Inquiry_addOthers
  refine I_Inquiry_addOthers_2 a b _ (fun v M' => ∃ j, j ≤ L.1 ∧ v = i32 j ∧ M'.1 8 1 = i32 L.1 ∧ ∀ k, k < L.1 → M'.1 172 k = if k < j then R k ||| adF a b k else R k) (fun N ih v M' hih hv => ?_) N _ _ ⟨0, by omega, rfl, hL.1, fun k hk => by rw [if_neg (by omega)]; exact hR k hk⟩
  obtain ⟨j, hj, rfl, h8, hr⟩ := hv
  unfold B_Inquiry_addOthers_2
  rw [h8, i32_lt (by omega) (by omega), ni_i (by omega)]
  refine ⟨fun hlt => ?_, fun hlt k hk => ?_⟩
  · have ej : M'.1 172 j = R j := by rw [hr j hlt, if_neg (by omega)]
    have nx : ∀ x, x = R j ||| adF a b j → ih (i32 j + 1) (wi M' 172 j x) := fun x hx => hih _ _ ⟨j + 1, by omega, i32_s j, by rw [wi_1n (by omega)]; exact h8, fun k hk => by
      by_cases e : k = j
      · subst e; rw [wi_1e, if_pos (by omega), hx]
      · rw [wi_1n (by omega), hr k hk]
        by_cases l : k < j
        · rw [if_pos l, if_pos (by omega)]
        · rw [if_neg l, if_neg (by omega)]⟩
    unfold V_E_bit
    rw [bt_1 (by omega), bt_1 (by omega), ej]
    unfold adF at nx
    refine ⟨fun e1 => ?_, fun e1 => ⟨fun e2 => ?_, fun e2 => ?_⟩⟩
    · exact nx _ (by rw [if_pos e1])
    · exact nx _ (by rw [if_neg e1, if_pos e2])
    · refine hih _ _ ⟨j + 1, by omega, i32_s j, h8, fun k hk => ?_⟩
      rw [hr k hk]
      by_cases e : k = j
      · subst e; rw [if_neg (by omega), if_pos (by omega)]
        unfold adF
        rw [if_neg e1, if_neg e2, Int32.or_zero]
      · by_cases l : k < j
        · rw [if_pos l, if_pos (by omega)]
        · rw [if_neg l, if_neg (by omega)]
  · obtain rfl : j = L.1 := by omega
    rw [hr k hk, if_pos hk]
/-- what is the same but for the rows of others -/
def OT (M M' : MM) : Prop := Eqo [(172, 172, none)] M M'
theorem OT_w {M M' : MM} (h : OT M M') (hc : CW M 18 w s) : CW M' 18 w s := CW_eq hc h rfl
theorem OT_L {M M' : MM} (h : OT M M') (hL : LawC M 8 L) : LawC M' 8 L := LawC_eq hL h rfl
theorem OT_t {M M' M'' : MM} (h : OT M M') (h2 : OT M' M'') : OT M M'' := eqo_tr h (fps_cons (i := 0) rfl fps_nil) h2
theorem c_findO {d N : Nat} {R : Nat → Int32} {Q : MM → Prop} (hc : CW M 18 w s) (hw : WF w) (hL : LawC M 8 L) (hd : dOK w) (hd8 : d < 8) (hR : OTH L R M) (hQ : ∀ M', OTH L (fun k => R k ||| foC L w d k (nC w)) M' → OT M M' → Q M') : W_Inquiry_findOthers (i32 d) N M Q := by
  obtain ⟨e0, hn10, ei⟩ := nC_i hw
  unfold W_Inquiry_findOthers
  refine I_Inquiry_findOthers_2 (i32 d) Q (fun v M' => ∃ c, c ≤ nC w ∧ v = i32 c ∧ OT M M' ∧ OTH L (fun k => R k ||| foC L w d k c) M') (fun N ih v M' hih hv => ?_) N _ _ ⟨0, by omega, rfl, eqo_rf M, fun k hk => by
    dsimp only
    rw [show foC L w d k 0 = 0 from rfl, Int32.or_zero]
    exact hR k hk⟩
  obtain ⟨c, hcn, rfl, ho, hr⟩ := hv
  unfold B_Inquiry_findOthers_2
  have hc' := OT_w ho hc
  rw [hc'.1.1, ei, i32_lt (by omega) (by omega)]
  refine ⟨fun hlt => ?_, fun hlt => ?_⟩
  · refine I_Inquiry_findOthers_15 (i32 d) (i32 c) _ Q (fun v M'' => ∃ k8, k8 ≤ 8 ∧ v = i32 k8 ∧ OT M M'' ∧ (alv w c = false → k8 = 0) ∧ OTH L (fun k => (R k ||| foC L w d k c) ||| foP L w d c k k8) M'') (fun N ih2 v M'' hih2 hv2 => ?_) N _ _ ⟨0, by omega, rfl, ho, fun _ => rfl, fun k hk => by
      dsimp only
      rw [show foP L w d c k 0 = 0 from rfl, Int32.or_zero]
      exact hr k hk⟩
    obtain ⟨k8, hk8, rfl, ho2, hz, hr2⟩ := hv2
    have hc2 := OT_w ho2 hc
    have hL2 := OT_L ho2 hL
    unfold B_Inquiry_findOthers_15
    rw [c_alive hc2 hw hlt, show i32 k8 < 8 ↔ k8 < 8 from i32_lt (k := 8) (by omega) (by omega)]
    have fin : (alv w c = true → k8 = 8) → OTH L (fun k => R k ||| foC L w d k (c + 1)) M'' := fun hh k hk => by
      rw [hr2 k hk]
      dsimp only
      rw [foC_s]
      cases ha : alv w c with
      | true => rw [hh ha, if_pos rfl, Int32.or_assoc]
      | false => rw [hz ha, if_neg (by decide), show foP L w d c k 0 = 0 from rfl, Int32.or_zero]
    refine ⟨fun h8 => ⟨fun ea => ?_, fun ea => ?_⟩, fun h8 => ?_⟩
    · exact hih _ _ ⟨c + 1, by omega, i32_s c, ho2, fin (fun h => by rw [b32_eq0.mp ea] at h; cases h)⟩
    · rw [show (i32 d * 8 + i32 k8 : Int32) = i32 (8 * d + k8) by rw [show i32 d * 8 = i32 (d * 8) from i32_m d 8, i32_a, Nat.mul_comm]]
      refine c_forb hc2 hw hL2 hd hlt (by omega) (c_dem hc2 hw hL2 hd hlt (by omega) (c_addO hL2 hr2 (fun M4 h4 e4 => hih2 _ _ ⟨k8 + 1, by omega, i32_s k8, OT_t ho2 e4, fun h => ?_, fun k hk => ?_⟩)))
      · rw [b32_ne0.mp ea] at h; cases h
      · rw [h4 k hk]
        dsimp only
        rw [Int32.or_assoc]
        rfl
    · exact hih _ _ ⟨c + 1, by omega, i32_s c, ho2, fin (fun _ => by omega)⟩
  · obtain rfl : c = nC w := by omega
    exact hQ _ hr ho
theorem c_clrO {N : Nat} {Q : MM → Prop} (hL : L.1 ≤ 12) (hQ : ∀ M', OTH L (fun _ => 0) M' → OT M M' → Q M') : W_Inquiry_clearOthers N M Q := by
  unfold W_Inquiry_clearOthers
  refine I_Inquiry_clearOthers_2 Q (fun v M' => ∃ j, j ≤ 12 ∧ v = i32 j ∧ OT M M' ∧ ∀ k, k < j → M'.1 172 k = 0) (fun N ih v M' hih hv => ?_) N _ _ ⟨0, by omega, rfl, eqo_rf M, fun k hk => absurd hk (by omega)⟩
  obtain ⟨j, hj, rfl, ho, hr⟩ := hv
  unfold B_Inquiry_clearOthers_2
  rw [show i32 j < 12 ↔ j < 12 from i32_lt (k := 12) (by omega) (by omega), ni_i (by omega)]
  refine ⟨fun hlt => hih _ _ ⟨j + 1, by omega, i32_s j, OT_t ho eqo_a, fun k hk => ?_⟩, fun hlt => hQ _ (fun k hk => hr k (by omega)) ho⟩
  by_cases e : k = j
  · subst e; exact wi_1e
  · rw [wi_1n (by omega)]; exact hr k (by omega)
/-- two clauses contradict each other -/
def isT (L : LWT) (w : RW) (k m c : Nat) : Bool := decide (L.2.2.1 k = i32 m / 8) && L.2.2.2 k (rm (i32 m) 8) (i32 c) (bcn (cl w c 1)) (w 2)
def CTD (L : LWT) (w : RW) (a b : Nat) : Prop := L.2.1 a ≠ L.2.1 b ∧ L.2.2.1 a = L.2.2.1 b
/-- both bear on a matter of a deed and a place -/
def both (L : LWT) (w : RW) (d a b c pl : Nat) : Bool := isT L w a (8 * d + pl) c && isT L w b (8 * d + pl) c
def ctC (L : LWT) (w : RW) (d a b pl : Nat) : Nat → Bool
  | 0 => false
  | n + 1 => ctC L w d a b pl n || (alv w n && both L w d a b n pl)
def ctP (L : LWT) (w : RW) (d a b : Nat) : Nat → Bool
  | 0 => false
  | n + 1 => ctP L w d a b n || ctC L w d a b n (nC w)
theorem ctC_i {d a b pl : Nat} : ∀ n, ctC L w d a b pl n = true ↔ ∃ c, c < n ∧ alv w c = true ∧ both L w d a b c pl = true
  | 0 => ⟨(fun h => by cases h), fun ⟨c, h, _⟩ => absurd h (by omega)⟩
  | n + 1 => by
    unfold ctC
    rw [Bool.or_eq_true, Bool.and_eq_true, ctC_i n]
    constructor
    · rintro (⟨c, h1, h2⟩ | h)
      · exact ⟨c, by omega, h2⟩
      · exact ⟨n, by omega, h⟩
    · rintro ⟨c, h1, h2⟩
      by_cases e : c = n
      · subst e; exact Or.inr h2
      · exact Or.inl ⟨c, by omega, h2⟩
theorem ctP_i {d a b : Nat} : ∀ n, ctP L w d a b n = true ↔ ∃ pl, pl < n ∧ ∃ c, c < nC w ∧ alv w c = true ∧ both L w d a b c pl = true
  | 0 => ⟨(fun h => by cases h), fun ⟨c, h, _⟩ => absurd h (by omega)⟩
  | n + 1 => by
    unfold ctP
    rw [Bool.or_eq_true, ctP_i n, ctC_i]
    constructor
    · rintro (⟨c, h1, h2⟩ | h)
      · exact ⟨c, by omega, h2⟩
      · exact ⟨n, by omega, h⟩
    · rintro ⟨c, h1, h2⟩
      by_cases e : c = n
      · subst e; exact Or.inr h2
      · exact Or.inl ⟨c, by omega, h2⟩
/-- all that contradict one -/
def ctr (L : LWT) (w : RW) (a b : Nat) : Bool := decide (L.2.1 a ≠ L.2.1 b) && (decide (L.2.2.1 a = L.2.2.1 b) && ctP L w (ni (L.2.2.1 a)) a b 8)
/-- the bits of what the class gathers -/
theorem tb_foP {d c k o : Nat} (ho : o < 32) : ∀ n, tb (foP L w d c k n) o = true ↔ ∃ pl, pl < n ∧ tb (adF (fbm L w c (i32 (8 * d + pl))) (dmm L w c (i32 (8 * d + pl))) k) o = true
  | 0 => by
    unfold foP
    rw [tb_0]
    exact ⟨(fun h => by cases h), fun ⟨c, h, _⟩ => absurd h (by omega)⟩
  | n + 1 => by
    unfold foP
    rw [tb_or, Bool.or_eq_true, tb_foP ho n]
    constructor
    · rintro (⟨c, h1, h2⟩ | h)
      · exact ⟨c, by omega, h2⟩
      · exact ⟨n, by omega, h⟩
    · rintro ⟨c, h1, h2⟩
      by_cases e : c = n
      · subst e; exact Or.inr h2
      · exact Or.inl ⟨c, by omega, h2⟩
theorem tb_foC {d k o : Nat} (ho : o < 32) : ∀ n, tb (foC L w d k n) o = true ↔ ∃ c, c < n ∧ alv w c = true ∧ tb (foP L w d c k 8) o = true
  | 0 => by
    unfold foC
    rw [tb_0]
    exact ⟨(fun h => by cases h), fun ⟨c, h, _⟩ => absurd h (by omega)⟩
  | n + 1 => by
    unfold foC
    cases ha : alv w n with
    | true =>
      rw [if_pos rfl, tb_or, Bool.or_eq_true, tb_foC ho n]
      constructor
      · rintro (⟨c, h1, h2⟩ | h)
        · exact ⟨c, by omega, h2⟩
        · exact ⟨n, by omega, ha, h⟩
      · rintro ⟨c, h1, h2⟩
        by_cases e : c = n
        · subst e; exact Or.inr h2.2
        · exact Or.inl ⟨c, by omega, h2⟩
    | false =>
      rw [if_neg (by decide), tb_foC ho n]
      constructor
      · rintro ⟨c, h1, h2⟩
        exact ⟨c, by omega, h2⟩
      · rintro ⟨c, h1, h2⟩
        by_cases e : c = n
        · subst e; rw [ha] at h2; exact absurd h2.1 (by decide)
        · exact ⟨c, by omega, h2⟩
theorem tb_foD {k o : Nat} (ho : o < 32) : ∀ n, tb (foD L w k n) o = true ↔ ∃ d, d < n ∧ tb (foC L w d k (nC w)) o = true
  | 0 => by
    unfold foD
    rw [tb_0]
    exact ⟨(fun h => by cases h), fun ⟨c, h, _⟩ => absurd h (by omega)⟩
  | n + 1 => by
    unfold foD
    rw [tb_or, Bool.or_eq_true, tb_foD ho n]
    constructor
    · rintro (⟨c, h1, h2⟩ | h)
      · exact ⟨c, by omega, h2⟩
      · exact ⟨n, by omega, h⟩
    · rintro ⟨c, h1, h2⟩
      by_cases e : c = n
      · subst e; exact Or.inr h2
      · exact Or.inl ⟨c, by omega, h2⟩
theorem tb_fbm {c m k : Nat} (hL : L.1 ≤ 12) (hk : k < 32) : tb (fbm L w c (i32 m)) k = (decide (k < L.1) && (decide (L.2.1 k = 0) && isT L w k m c)) := by
  unfold fbm
  rw [tb_bs _ _ (by omega) _ hk]
  unfold bear isT
  cases decide (k < L.1) <;> cases decide (L.2.2.1 k = i32 m / 8) <;> cases decide (L.2.1 k = 0) <;> rfl
theorem tb_dmm {c m k : Nat} (hL : L.1 ≤ 12) (hk : k < 32) : tb (dmm L w c (i32 m)) k = (decide (k < L.1) && (decide (L.2.1 k = 1) && isT L w k m c)) := by
  unfold dmm
  rw [tb_bs _ _ (by omega) _ hk]
  unfold bear isT
  cases decide (k < L.1) <;> cases decide (L.2.2.1 k = i32 m / 8) <;> cases decide (L.2.1 k = 1) <;> rfl
/-- a clause forbids or demands -/
def KD (L : LWT) : Prop := ∀ k, k < L.1 → L.2.1 k = 0 ∨ L.2.1 k = 1
theorem KD_R (hR : LawR X L) : KD L := fun k hk => by
  rw [← (hR.2 k hk).1]
  by_cases e : X.1 201 (4 * k) = 1
  · rw [if_pos e]; exact Or.inr rfl
  · rw [if_neg e]; exact Or.inl rfl
theorem ad_i {c m k o : Nat} (hL : L.1 ≤ 12) (hK : KD L) (hk : k < L.1) (ho : o < 32) : tb (adF (fbm L w c (i32 m)) (dmm L w c (i32 m)) k) o = true ↔ o < L.1 ∧ L.2.1 k ≠ L.2.1 o ∧ isT L w k m c = true ∧ isT L w o m c = true := by
  unfold adF
  rw [tb_fbm hL (by omega), tb_dmm hL (by omega), decide_eq_true hk, Bool.true_and, Bool.true_and]
  rcases hK k hk with e | e <;> rw [e]
  · rw [decide_eq_true (rfl : (0 : Int32) = 0), decide_eq_false (show ¬ (0 : Int32) = 1 by decide), Bool.true_and, Bool.false_and]
    cases hT : isT L w k m c with
    | true =>
      rw [if_pos rfl, tb_dmm hL ho, Bool.and_eq_true, Bool.and_eq_true, decide_eq_true_eq, decide_eq_true_eq]
      constructor
      · rintro ⟨h1, h2, h3⟩
        exact ⟨h1, by rw [h2]; decide, rfl, h3⟩
      · rintro ⟨h1, h2, h3, h4⟩
        refine ⟨h1, ?_, h4⟩
        rcases hK o h1 with e2 | e2
        · exact absurd e2.symm h2
        · exact e2
    | false =>
      rw [if_neg (by decide), if_neg (by decide), tb_0]
      exact ⟨(fun h => by cases h), fun ⟨_, _, h, _⟩ => by cases h⟩
  · rw [decide_eq_true (rfl : (1 : Int32) = 1), decide_eq_false (show ¬ (1 : Int32) = 0 by decide), Bool.true_and, Bool.false_and, if_neg (by decide)]
    cases hT : isT L w k m c with
    | true =>
      rw [if_pos rfl, tb_fbm hL ho, Bool.and_eq_true, Bool.and_eq_true, decide_eq_true_eq, decide_eq_true_eq]
      constructor
      · rintro ⟨h1, h2, h3⟩
        exact ⟨h1, by rw [h2]; decide, rfl, h3⟩
      · rintro ⟨h1, h2, h3, h4⟩
        refine ⟨h1, ?_, h4⟩
        rcases hK o h1 with e2 | e2
        · exact e2
        · exact absurd e2.symm h2
    | false =>
      rw [if_neg (by decide), tb_0]
      exact ⟨(fun h => by cases h), fun ⟨_, _, h, _⟩ => by cases h⟩
theorem isT_d {k d pl c : Nat} (hd : d < 8) (hp : pl < 8) (h : isT L w k (8 * d + pl) c = true) : L.2.2.1 k = i32 d := by
  unfold isT at h
  rw [Bool.and_eq_true, decide_eq_true_eq, show (i32 (8 * d + pl) / 8 : Int32) = i32 ((8 * d + pl) / 8) from i32_d (y := 8) (by omega) (by omega), show (8 * d + pl) / 8 = d by omega] at h
  exact h.1
/-- the deed alone decides -/
theorem foC_c {d k o : Nat} (hL : L.1 ≤ 12) (hK : KD L) (hd : d < 8) (hk : k < L.1) (ho : o < 32) : tb (foC L w d k (nC w)) o = true ↔ o < L.1 ∧ L.2.1 k ≠ L.2.1 o ∧ ctP L w d k o 8 = true := by
  rw [tb_foC ho, ctP_i]
  constructor
  · rintro ⟨c, h1, h2, h3⟩
    obtain ⟨pl, p1, p2⟩ := (tb_foP ho 8).mp h3
    obtain ⟨q1, q2, q3, q4⟩ := (ad_i hL hK hk ho).mp p2
    exact ⟨q1, q2, pl, p1, c, h1, h2, by unfold both; rw [q3, q4]; rfl⟩
  · rintro ⟨h1, h2, pl, p1, c, c1, c2, c3⟩
    unfold both at c3
    rw [Bool.and_eq_true] at c3
    exact ⟨c, c1, c2, (tb_foP ho 8).mpr ⟨pl, p1, (ad_i hL hK hk ho).mpr ⟨h1, h2, c3.1, c3.2⟩⟩⟩
theorem ct_dd {d k o : Nat} (hd : d < 8) (h : ctP L w d k o 8 = true) : L.2.2.1 k = i32 d ∧ L.2.2.1 o = i32 d := by
  obtain ⟨pl, p1, c, c1, c2, c3⟩ := (ctP_i 8).mp h
  unfold both at c3
  rw [Bool.and_eq_true] at c3
  exact ⟨isT_d hd p1 c3.1, isT_d hd p1 c3.2⟩
theorem foC_e {k : Nat} (hL : L.1 ≤ 12) (hK : KD L) (hD : DB L) (hk : k < L.1) {d : Nat} (hd : d < 8) (e : L.2.2.1 k = i32 d) : foC L w d k (nC w) = bs (ctr L w k) L.1 := by
  apply tb_ext
  intro o ho
  rw [tb_bs _ _ (by omega) _ ho]
  rw [Bool.eq_iff_iff, foC_c hL hK hd hk ho, Bool.and_eq_true, decide_eq_true_eq]
  unfold ctr
  rw [e, ni_i (by omega), Bool.and_eq_true, Bool.and_eq_true, decide_eq_true_eq, decide_eq_true_eq]
  constructor
  · rintro ⟨h1, h2, h3⟩
    exact ⟨h1, h2, (ct_dd hd h3).2.symm, h3⟩
  · rintro ⟨h1, h2, _, h3⟩
    exact ⟨h1, h2, h3⟩
theorem foD_e {k : Nat} (hL : L.1 ≤ 12) (hK : KD L) (hD : DB L) (hk : k < L.1) : foD L w k 8 = bs (ctr L w k) L.1 := by
  obtain ⟨d, hd, e⟩ := hD k hk
  rw [← foC_e hL hK hD hk hd e]
  apply tb_ext
  intro o ho
  rw [Bool.eq_iff_iff, tb_foD ho]
  constructor
  · rintro ⟨d', h1, h2⟩
    have := (ct_dd h1 ((foC_c hL hK h1 hk ho).mp h2).2.2).1
    rw [e] at this
    rw [(i32_ij (by omega) (by omega)).mp this]
    exact h2
  · intro h
    exact ⟨d, hd, h⟩
end CTR
