/-! WHAT A PROGRAM'S WORDS SAY -/
theorem ea_hd_some {sub : Nat → Nat → Bool} {ce pc : Nat} : ∀ {hs : List (Nat × Nat × Nat × Nat × Nat)} {h : Nat}, ea_hd sub ce pc hs = some h → ∃ pre q suf, hs = pre ++ q :: suf ∧ (∀ z ∈ pre, ¬ (z.1 ≤ pc ∧ pc < z.2.1 ∧ sub ce z.2.2.2.1 = true)) ∧ q.1 ≤ pc ∧ pc < q.2.1 ∧ sub ce q.2.2.2.1 = true ∧ q.2.2.1 = h
  | [], h, e => by cases e
  | q :: t, h, e => by
    unfold ea_hd at e
    cases hb : (Nat.ble q.1 pc && (Nat.blt pc q.2.1 && sub ce q.2.2.2.1)) with
    | true =>
      rw [hb] at e
      simp only [Bool.and_eq_true] at hb
      exact ⟨[], q, t, rfl, fun z hz => (nomatch hz), Nat.le_of_ble_eq_true hb.1, Nat.le_of_ble_eq_true hb.2.1, hb.2.2, Option.some.inj e⟩
    | false =>
      rw [hb] at e
      obtain ⟨pre, q', suf, h1, h2, h3⟩ := ea_hd_some (hs := t) e
      refine ⟨q :: pre, q', suf, by rw [h1]; rfl, fun z hz => ?_, h3⟩
      rcases List.mem_cons.mp hz with rfl | hz
      · intro hc
        have : (Nat.ble z.1 pc && (Nat.blt pc z.2.1 && sub ce z.2.2.2.1)) = true := by
          simp only [Bool.and_eq_true]
          exact ⟨Nat.ble_eq_true_of_le hc.1, Nat.ble_eq_true_of_le hc.2.1, hc.2.2⟩
        rw [hb] at this
        cases this
      · exact h2 z hz
theorem ea_hd_none {sub : Nat → Nat → Bool} {ce pc : Nat} : ∀ {hs : List (Nat × Nat × Nat × Nat × Nat)}, ea_hd sub ce pc hs = none → ∀ z ∈ hs, ¬ (z.1 ≤ pc ∧ pc < z.2.1 ∧ sub ce z.2.2.2.1 = true)
  | [], _, z, hz => nomatch hz
  | q :: t, e, z, hz => by
    unfold ea_hd at e
    cases hb : (Nat.ble q.1 pc && (Nat.blt pc q.2.1 && sub ce q.2.2.2.1)) with
    | true => rw [hb] at e; cases e
    | false =>
      rw [hb] at e
      rcases List.mem_cons.mp hz with rfl | hz
      · intro hc
        have : (Nat.ble z.1 pc && (Nat.blt pc z.2.1 && sub ce z.2.2.2.1)) = true := by
          simp only [Bool.and_eq_true]
          exact ⟨Nat.ble_eq_true_of_le hc.1, Nat.ble_eq_true_of_le hc.2.1, hc.2.2⟩
        rw [hb] at this
        cases this
      · exact ea_hd_none e z hz
/-- the names of a program: its methods, their bytes, what they give; the classes of its objects; the classes of exceptions, and what is above them; good words, words of nests and casts, Strings, classes of arrays, pairs that cannot be cast; how many methods -/
abbrev EN : Type := (Nat → MethodName) × (Nat → ByteArray) × (Nat → Option FieldType) × List vw_C × (Nat → String) × List String × List Jvm.Cond × List Jvm.Cond × List (String × Nat × String) × List String × List (String × Nat × String × Nat) × Nat
abbrev en_y (N : EN) : Nat → MethodName := N.1
abbrev en_b (N : EN) : Nat → ByteArray := N.2.1
abbrev en_r (N : EN) : Nat → Option FieldType := N.2.2.1
abbrev en_cl (N : EN) : List vw_C := N.2.2.2.1
abbrev en_x (N : EN) : Nat → String := N.2.2.2.2.1
abbrev en_up (N : EN) : List String := N.2.2.2.2.2.1
abbrev en_T (N : EN) : List Jvm.Cond := N.2.2.2.2.2.2.1
abbrev en_n (N : EN) : List Jvm.Cond := N.2.2.2.2.2.2.2.1
abbrev en_s (N : EN) : List (String × Nat × String) := N.2.2.2.2.2.2.2.2.1
abbrev en_a (N : EN) : List String := N.2.2.2.2.2.2.2.2.2.1
/-- Strings that are looked at: whose constant, its place, its text, the text and its number as a number -/
abbrev en_S (N : EN) : List (String × Nat × String × Nat) := N.2.2.2.2.2.2.2.2.2.2.1
abbrev en_k (N : EN) : Nat := N.2.2.2.2.2.2.2.2.2.2.2
def ea_hs (P : EP) (m : Nat) : List (Nat × Nat × Nat × Nat) := (ep_hdl P m).map (fun q => (q.1, q.2.1, q.2.2.1, q.2.2.2.2))
/-- a method's own word -/
def ea_hw (P : EP) (N : EN) (m : Nat) : Jvm.Cond := match ep_hdl P m with
  | [] => .code (en_y N m) (en_b N m) (ep_nls P m) (en_r N m)
  | _ => .codeWith (en_y N m) (en_b N m) (ep_nls P m) (en_r N m) (ea_hs P m)
def ea_rk (r : Nat) (t : Option FieldType) : Prop := match r with
  | 0 => t = none
  | 1 => t = some .int
  | 2 => t = some .long
  | 3 => t = some .boolean
  | 4 => t = some .char
  | 5 => t = some .byte
  | _ => True
/-- how many parameters -/
def ea_pn (y : MethodName) (n : Nat) : Prop := (parseMethodDescriptor y.desc).map (fun d => d.parameters.length) = some n
/-- what a pool entry says -/
def ea_ps (P : EP) (N : EN) (own : String) (x : Nat) (r : Nat × Nat × Nat) : Prop := match r with
  | (0, ci, k) => ∃ q, (en_cl N)[ci]? = some q ∧ k < q.2.2 ∧ Jvm.Cond.fieldLink own x (q.2.1 k).1 (q.2.1 k).2.1 (q.2.1 k).2.2.1 ∈ en_T N ∧ (q.2.1 k).2.2.2 = false
  | (20, ci, k) => ∃ q, (en_cl N)[ci]? = some q ∧ k < q.2.2 ∧ Jvm.Cond.fieldLink own x (q.2.1 k).1 (q.2.1 k).2.1 (q.2.1 k).2.2.1 ∈ en_T N
  | (21, ci, k) => ∃ q, (en_cl N)[ci]? = some q ∧ k < q.2.2 ∧ Jvm.Cond.fieldLink own x (q.2.1 k).1 (q.2.1 k).2.1 (q.2.1 k).2.2.1 ∈ en_T N ∧ (q.2.1 k).2.2.2 = true ∧ (q.2.1 k).1 = own
  | (5, ci, n) => ∃ q, (en_cl N)[ci]? = some q ∧ q.2.2 = n ∧ Jvm.Cond.classLink own x q.1 ∈ en_T N ∧ Jvm.Cond.instantiable q.1 n ∈ en_T N ∧ Jvm.Cond.initialized q.1 ∈ en_T N
  | (6, v, _) => Jvm.Cond.constant own x (Int32.ofNat v) ∈ en_T N
  | (7, v, _) => Jvm.Cond.constantLong own x (Int64.ofNat v) ∈ en_T N
  | (10, ci, _) => ∃ q, (en_cl N)[ci]? = some q ∧ Jvm.Cond.classLink own x q.1 ∈ en_T N ∧ q.1 ∈ en_a N
  | (22, ci, n) => ∃ q, (en_cl N)[ci]? = some q ∧ q.2.2 = n ∧ Jvm.Cond.classLink own x q.1 ∈ en_T N ∧ Jvm.Cond.instantiable q.1 n ∈ en_T N ∧ Jvm.Cond.initialized q.1 ∈ en_T N ∧ q.1 ∈ en_a N
  | (1, mj, n) => 0 < mj ∧ mj < en_k N ∧ Jvm.Cond.methodLink own x (en_y N mj) ∈ en_T N ∧ Jvm.Cond.static (en_y N mj) ∈ en_T N ∧ ea_pn (en_y N mj) n
  | (13, mj, n) => 0 < mj ∧ mj < en_k N ∧ ep_hdl P mj = [] ∧ (∃ h, Jvm.Cond.methodLinkNest own x (en_y N mj) h ∈ en_n N) ∧ Jvm.Cond.static (en_y N mj) ∈ en_T N ∧ ea_pn (en_y N mj) n
  | (2, mj, n) => 0 < mj ∧ mj < en_k N ∧ ep_hdl P mj = [] ∧ Jvm.Cond.methodLink own x (en_y N mj) ∈ en_T N ∧ Jvm.Cond.instanceMethod (en_y N mj) ∈ en_T N ∧ Jvm.Cond.selects (en_y N mj).cls (en_y N mj) (en_y N mj) ∈ en_T N ∧ (∃ q, (en_cl N)[ep_own P mj]? = some q ∧ q.1 = (en_y N mj).cls) ∧ ea_pn (en_y N mj) n
  | (3, mj, n) => 0 < mj ∧ mj < en_k N ∧ ep_hdl P mj = [] ∧ Jvm.Cond.methodLink own x (en_y N mj) ∈ en_T N ∧ Jvm.Cond.instanceMethod (en_y N mj) ∈ en_T N ∧ (en_y N mj).name = "<init>" ∧ en_r N mj = none ∧ ea_pn (en_y N mj) n
  | (15, mj, n) => 0 < mj ∧ mj < en_k N ∧ ep_hdl P mj = [] ∧ (∃ h, Jvm.Cond.methodLinkNest own x (en_y N mj) h ∈ en_n N) ∧ Jvm.Cond.instanceMethod (en_y N mj) ∈ en_T N ∧ (en_y N mj).name = "<init>" ∧ en_r N mj = none ∧ ea_pn (en_y N mj) n
  | (4, _, _) => Jvm.Cond.methodLink own x objectInit ∈ en_T N ∧ Jvm.Cond.instanceMethod objectInit ∈ en_T N ∧ Jvm.Cond.code objectInit ⟨#[0xb1]⟩ 1 none ∈ en_T N
  | (9, _, _) => Jvm.Cond.methodLink own x arraycopyName ∈ en_T N ∧ Jvm.Cond.native arraycopyName ∈ en_T N ∧ Jvm.Cond.static arraycopyName ∈ en_T N ∧ Jvm.Cond.initialized "java/lang/System" ∈ en_T N
  | (16, _, _) => Jvm.Cond.methodLink own x Jvm.Lib.Math.max.name ∈ en_T N ∧ Jvm.Cond.static Jvm.Lib.Math.max.name ∈ en_T N ∧ Jvm.Cond.initialized "java/lang/Math" ∈ en_T N ∧ Jvm.Cond.code Jvm.Lib.Math.max.name Jvm.Lib.Math.max.code 2 (some .int) ∈ en_T N
  | (17, _, _) => Jvm.Cond.methodLink own x Jvm.Lib.Math.min.name ∈ en_T N ∧ Jvm.Cond.static Jvm.Lib.Math.min.name ∈ en_T N ∧ Jvm.Cond.initialized "java/lang/Math" ∈ en_T N ∧ Jvm.Cond.code Jvm.Lib.Math.min.name Jvm.Lib.Math.min.code 2 (some .int) ∈ en_T N
  | (8, _, _) => ∃ tx, (own, x, tx) ∈ en_s N
  | (23, q, _) => ∃ tx, (own, x, tx, q / 2) ∈ en_S N
  | (24, 0, _) => Jvm.Cond.fieldLink own x "java/lang/String" "value" "[B" ∈ en_T N
  | (24, _ + 1, _) => Jvm.Cond.fieldLink own x "java/lang/String" "coder" "B" ∈ en_T N
  | (25, _, _) => Jvm.Cond.fieldLink own x "java/lang/String" "COMPACT_STRINGS" "Z" ∈ en_T N
  | (27, _, _) => Jvm.Cond.fieldLink own x "jdk/internal/util/Preconditions" "SIOOBE_FORMATTER" "Ljava/util/function/BiFunction;" ∈ en_T N
  | (26, mj, n) => 0 < mj ∧ mj < en_k N ∧ ep_hdl P mj = [] ∧ Jvm.Cond.methodLink own x (en_y N mj) ∈ en_T N ∧ Jvm.Cond.instanceMethod (en_y N mj) ∈ en_T N ∧ Jvm.Cond.selects (en_y N mj).cls (en_y N mj) (en_y N mj) ∈ en_T N ∧ (en_y N mj).cls = "java/lang/String" ∧ ea_pn (en_y N mj) n
  | (11, ce, _) => Jvm.Cond.classLink own x (en_x N ce) ∈ en_T N ∧ Jvm.Cond.initialized (en_x N ce) ∈ en_T N ∧ vx_ot (.classLink own x (en_x N ce)) = true ∧ vx_ot (.initialized (en_x N ce)) = true
  | (12, ce, _) => Bundle.fit (en_x N ce) = true ∧ ∃ ix rx, ec_rx ix rx ∧ ∀ w ∈ ec_at own x (en_x N ce) ix rx (en_up N), (w ∈ en_T N ∨ w ∈ en_n N) ∧ vx_ot w = true
  | _ => True
/-- what is known of a method -/
def ea_mo (P : EP) (N : EN) (m : Nat) : Prop := plainName (en_y N m).cls = true ∧ ((en_y N m).cls ≠ "java/lang/invoke/MethodHandle" ∧ (en_y N m).cls ≠ "java/lang/invoke/VarHandle") ∧ ea_hw P N m ∈ en_T N ∧ (∀ pc q, ep_cod P m pc = some q → decode (en_b N m) pc = .ok q) ∧ (ep_ini P m = true → (en_y N m).name = "<init>") ∧ ea_rk (ep_rtp P m) (en_r N m) ∧ Jvm.Cond.initialized (en_y N m).cls ∈ en_T N ∧ (∀ q ∈ ep_hdl P m, q.2.2.2.2 ≠ 0 ∧ Jvm.Cond.classLink (en_y N m).cls q.2.2.2.2 (en_x N q.2.2.2.1) ∈ en_T N) ∧ (∀ x r, ep_pl P m x = some r → ea_ps P N (en_y N m).cls x r) ∧ ep_nls P m ≤ 80
/-- what is known of a program -/
def ea_pr (P : EP) (N : EN) : Prop := (∀ m, m < en_k N → ea_mo P N m) ∧ ea_cw (en_T N) (en_cl N) (ep_fty P) ∧ (∀ w ∈ en_T N, goodWord w = true) ∧ (∀ w ∈ en_n N, (∃ a b, w = .castable a b) ∨ (∃ a i x h, w = .methodLinkNest a i x h) ∨ ∃ x, w = .declares x) ∧ (∀ n ∈ en_up N, Bundle.fit n = true) ∧ (en_up N).length ≤ 4 ∧ (∀ t, t = FieldType.int ∨ t = FieldType.long ∨ t = FieldType.byte → Jvm.Cond.arrayClass t ∈ en_T N) ∧ (∀ a b, ep_sub P a b = true → Jvm.Cond.castable (en_x N a) (en_x N b) ∈ en_n N) ∧ ∀ m, 0 < m → ep_scr P m = none
/-- what holds of a state's tables and of the cells that stay -/
def ea_G (N : EN) (P : EP) (D : va_G) (A : Nat → Prop) (sb : SB) (U : State) (H : Heap) : Prop := va_K D (en_cl N) [] U ∧ (∀ w ∈ en_n N, va_Nw w U) ∧ (∀ q ∈ en_s N, ∃ a, vk_R q.1 q.2.1 q.2.2 a U) ∧ (∀ C ∈ en_a N, va_AO C U) ∧ (∀ a b, ep_sub P a b = false → va_Nc (en_x N a) (en_x N b) U) ∧ vx_Zq Bundle.tN "UNASSIGNED_STACK" Bundle.steD A U H ∧ vx_Zq Bundle.tN "SUPPRESSED_SENTINEL" Bundle.listD A U H ∧ (∀ q, H.size ≤ q → A q) ∧ ea_St sb A U H ∧ ∀ t ∈ en_S N, t.2.2.2 ∈ sb.2.2.2.1 ∧ vk_R t.1 t.2.1 t.2.2.1 (sb.2.1 (t.2.2.2 % 64)) U
theorem ea_G_step {P : EP} {N : EN} (hpr : ea_pr P N) {D : va_G} {A : Nat → Prop} {sb : SB} {s U : State} {H H1 : Heap} (hW : s.WarmedH U.vm) (hz : H.size ≤ H1.size) (hq : ∀ q : Nat, q < H.size → ¬ A q → H1[q]? = H[q]?) (h : ea_G N P D A sb s H) : ea_G N P D A sb U H1 := by
  obtain ⟨h1, h2, h3, h4, h5, h6, h7, h8, h10, h11⟩ := h
  refine ⟨va_K.moved hW.alike h1, fun w hw => ?_, fun q hqq => ?_, fun C hC => va_AO.moved hW.alike (h4 C hC), fun a b hab => va_Nc.moved hW.alike (h5 a b hab), vx_Zq.moved hW.alike (h6.kept hq), vx_Zq.moved hW.alike (h7.kept hq), fun q hqq => h8 q (Nat.le_trans hz hqq), ea_St_step hW.alike hq h10, fun t ht => ⟨(h11 t ht).1, (h11 t ht).2.warm hW⟩⟩
  · rcases hpr.2.2.2.1 w hw with ⟨a, b, rfl⟩ | ⟨a, i, x, hh, rfl⟩ | ⟨x, rfl⟩
    · exact va_Nw.warmC hW (h2 _ hw)
    · exact va_Nw.warmM hW (h2 _ hw)
    · exact va_Nw.warmD hW (h2 _ hw)
  · obtain ⟨a, ha⟩ := h3 q hqq
    exact ⟨a, ha.warm hW⟩
/-- a pool entry's words, where they hold -/
theorem ea_po_of {P : EP} {N : EN} {D : va_G} {A : Nat → Prop} {sb : SB} {U : State} {H : Heap} (hG : ea_G N P D A sb U H) {own : String} {x : Nat} {r : Nat × Nat × Nat} (h : ea_ps P N own x r) : ea_po (en_T N) (en_cl N) U own x r := by
  unfold ea_po
  split
  · exact h
  · exact h
  · exact h
  · exact h
  · exact h
  · exact h
  · obtain ⟨q, h1, h2, h3⟩ := h
    exact ⟨q, h1, h2, hG.2.2.2.1 _ h3⟩
  · obtain ⟨q, h1, h2, h3, h4, h5, h6⟩ := h
    exact ⟨q, h1, h2, h3, h4, h5, hG.2.2.2.1 _ h6⟩
  · trivial
theorem ea_pz_of {P : EP} {N : EN} {D : va_G} {A : Nat → Prop} {sb : SB} {U : State} {H : Heap} (hG : ea_G N P D A sb U H) {own : String} {x : Nat} {r : Nat × Nat × Nat} (h : ea_ps P N own x r) : ea_pz (en_T N) sb U own x r := by
  unfold ea_pz
  split
  · obtain ⟨tx, ht⟩ := h
    obtain ⟨h1, h2⟩ := hG.2.2.2.2.2.2.2.2.2 _ ht
    exact ⟨h1, tx, h2⟩
  · exact h
  · exact h
  · exact h
  · exact h
  · trivial
