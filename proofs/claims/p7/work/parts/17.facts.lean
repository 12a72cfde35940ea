section
/-! WHAT A PROGRAM'S WORDS SAY -/
theorem ea_hd_some {sub : Nat → Nat → Bool} {ce pc : Nat} : ∀ {hs : List (Nat × Nat × Nat × Nat × Nat)} {h : Nat}, ea_hd sub ce pc hs = some h → ∃ pre q suf, hs = pre ++ q :: suf ∧ (∀ z ∈ pre, ¬ (z.1 ≤ pc ∧ pc < z.2.1 ∧ sub ce z.2.2.2.1 = true)) ∧ q.1 ≤ pc ∧ pc < q.2.1 ∧ sub ce q.2.2.2.1 = true ∧ q.2.2.1 = h
  | [], h, e => by cases e
  | q :: t, h, e => by
    unfold ea_hd at e
    cases hb : (Nat.ble q.1 pc && (Nat.blt pc q.2.1 && sub ce q.2.2.2.1)) with
    | true =>
      rw [hb] at e
      simp only [Bool.and_eq_true] at hb
      exact ⟨[], q, t, rfl, fun z hz => (nomatch hz), Nat.le_of_ble_eq_true hb.1, Nat.le_of_ble_eq_true hb.2.1, hb.2.2, Option.some.inj e⟩
    | false =>
      rw [hb] at e
      obtain ⟨pre, q', suf, h1, h2, h3⟩ := ea_hd_some (hs := t) e
      refine ⟨q :: pre, q', suf, by rw [h1]; rfl, fun z hz => ?_, h3⟩
      rcases List.mem_cons.mp hz with rfl | hz
      · intro hc
        have : (Nat.ble z.1 pc && (Nat.blt pc z.2.1 && sub ce z.2.2.2.1)) = true := by
          simp only [Bool.and_eq_true]
          exact ⟨Nat.ble_eq_true_of_le hc.1, Nat.ble_eq_true_of_le hc.2.1, hc.2.2⟩
        rw [hb] at this
        cases this
      · exact h2 z hz
theorem ea_hd_none {sub : Nat → Nat → Bool} {ce pc : Nat} : ∀ {hs : List (Nat × Nat × Nat × Nat × Nat)}, ea_hd sub ce pc hs = none → ∀ z ∈ hs, ¬ (z.1 ≤ pc ∧ pc < z.2.1 ∧ sub ce z.2.2.2.1 = true)
  | [], _, z, hz => nomatch hz
  | q :: t, e, z, hz => by
    unfold ea_hd at e
    cases hb : (Nat.ble q.1 pc && (Nat.blt pc q.2.1 && sub ce q.2.2.2.1)) with
    | true => rw [hb] at e; cases e
    | false =>
      rw [hb] at e
      rcases List.mem_cons.mp hz with rfl | hz
      · intro hc
        have : (Nat.ble z.1 pc && (Nat.blt pc z.2.1 && sub ce z.2.2.2.1)) = true := by
          simp only [Bool.and_eq_true]
          exact ⟨Nat.ble_eq_true_of_le hc.1, Nat.ble_eq_true_of_le hc.2.1, hc.2.2⟩
        rw [hb] at this
        cases this
      · exact ea_hd_none e z hz
/-- the names of a program: its methods, their bytes, what they give; the classes of its objects; the classes of exceptions, and what is above them; good words, words of nests and casts, Strings, classes of arrays, pairs that cannot be cast; how many methods -/
abbrev EN : Type := (Nat → MethodName) × (Nat → ByteArray) × (Nat → Option FieldType) × List vw_C × (Nat → String) × List String × List Jvm.Cond × List Jvm.Cond × List (String × Nat × String) × List String × List (String × Nat × String × Nat) × Nat
abbrev en_y (N : EN) : Nat → MethodName := N.1
abbrev en_b (N : EN) : Nat → ByteArray := N.2.1
abbrev en_r (N : EN) : Nat → Option FieldType := N.2.2.1
abbrev en_cl (N : EN) : List vw_C := N.2.2.2.1
abbrev en_x (N : EN) : Nat → String := N.2.2.2.2.1
abbrev en_up (N : EN) : List String := N.2.2.2.2.2.1
abbrev en_T (N : EN) : List Jvm.Cond := N.2.2.2.2.2.2.1
abbrev en_n (N : EN) : List Jvm.Cond := N.2.2.2.2.2.2.2.1
abbrev en_s (N : EN) : List (String × Nat × String) := N.2.2.2.2.2.2.2.2.1
abbrev en_a (N : EN) : List String := N.2.2.2.2.2.2.2.2.2.1
/-- Strings that are looked at: whose constant, its place, its text, the text and its number as a number -/
abbrev en_S (N : EN) : List (String × Nat × String × Nat) := N.2.2.2.2.2.2.2.2.2.2.1
abbrev en_k (N : EN) : Nat := N.2.2.2.2.2.2.2.2.2.2.2
def ea_hs (P : EP) (m : Nat) : List (Nat × Nat × Nat × Nat) := (ep_hdl P m).map (fun q => (q.1, q.2.1, q.2.2.1, q.2.2.2.2))
/-- a method's own word -/
def ea_hw (P : EP) (N : EN) (m : Nat) : Jvm.Cond := match ep_hdl P m with
  | [] => .code (en_y N m) (en_b N m) (ep_nls P m) (en_r N m)
  | _ => .codeWith (en_y N m) (en_b N m) (ep_nls P m) (en_r N m) (ea_hs P m)
def ea_rk (r : Nat) (t : Option FieldType) : Prop := match r with
  | 0 => t = none
  | 1 => t = some .int
  | 2 => t = some .long
  | 3 => t = some .boolean
  | 4 => t = some .char
  | 5 => t = some .byte
  | _ => True
/-- how many parameters -/
def ea_pn (y : MethodName) (n : Nat) : Prop := (parseMethodDescriptor y.desc).map (fun d => d.parameters.length) = some n
/-- what a pool entry says -/
def ea_ps (P : EP) (N : EN) (own : String) (x : Nat) (r : Nat × Nat × Nat) : Prop := match r with
  | (0, ci, k) => ∃ q, (en_cl N)[ci]? = some q ∧ k < q.2.2 ∧ Jvm.Cond.fieldLink own x (q.2.1 k).1 (q.2.1 k).2.1 (q.2.1 k).2.2.1 ∈ en_T N ∧ (q.2.1 k).2.2.2 = false
  | (20, ci, k) => ∃ q, (en_cl N)[ci]? = some q ∧ k < q.2.2 ∧ Jvm.Cond.fieldLink own x (q.2.1 k).1 (q.2.1 k).2.1 (q.2.1 k).2.2.1 ∈ en_T N
  | (21, ci, k) => ∃ q, (en_cl N)[ci]? = some q ∧ k < q.2.2 ∧ Jvm.Cond.fieldLink own x (q.2.1 k).1 (q.2.1 k).2.1 (q.2.1 k).2.2.1 ∈ en_T N ∧ (q.2.1 k).2.2.2 = true ∧ (q.2.1 k).1 = own
  | (5, ci, n) => ∃ q, (en_cl N)[ci]? = some q ∧ q.2.2 = n ∧ Jvm.Cond.classLink own x q.1 ∈ en_T N ∧ Jvm.Cond.instantiable q.1 n ∈ en_T N ∧ Jvm.Cond.initialized q.1 ∈ en_T N
  | (6, v, _) => Jvm.Cond.constant own x (Int32.ofNat v) ∈ en_T N
  | (7, v, _) => Jvm.Cond.constantLong own x (Int64.ofNat v) ∈ en_T N
  | (10, ci, _) => ∃ q, (en_cl N)[ci]? = some q ∧ Jvm.Cond.classLink own x q.1 ∈ en_T N ∧ q.1 ∈ en_a N
  | (22, ci, n) => ∃ q, (en_cl N)[ci]? = some q ∧ q.2.2 = n ∧ Jvm.Cond.classLink own x q.1 ∈ en_T N ∧ Jvm.Cond.instantiable q.1 n ∈ en_T N ∧ Jvm.Cond.initialized q.1 ∈ en_T N ∧ q.1 ∈ en_a N
  | (1, mj, n) => 0 < mj ∧ mj < en_k N ∧ Jvm.Cond.methodLink own x (en_y N mj) ∈ en_T N ∧ Jvm.Cond.static (en_y N mj) ∈ en_T N ∧ ea_pn (en_y N mj) n
  | (13, mj, n) => 0 < mj ∧ mj < en_k N ∧ ep_hdl P mj = [] ∧ (∃ h, Jvm.Cond.methodLinkNest own x (en_y N mj) h ∈ en_n N) ∧ Jvm.Cond.static (en_y N mj) ∈ en_T N ∧ ea_pn (en_y N mj) n
  | (2, mj, n) => 0 < mj ∧ mj < en_k N ∧ ep_hdl P mj = [] ∧ Jvm.Cond.methodLink own x (en_y N mj) ∈ en_T N ∧ Jvm.Cond.instanceMethod (en_y N mj) ∈ en_T N ∧ Jvm.Cond.selects (en_y N mj).cls (en_y N mj) (en_y N mj) ∈ en_T N ∧ (∃ q, (en_cl N)[ep_own P mj]? = some q ∧ q.1 = (en_y N mj).cls) ∧ ea_pn (en_y N mj) n
  | (3, mj, n) => 0 < mj ∧ mj < en_k N ∧ ep_hdl P mj = [] ∧ Jvm.Cond.methodLink own x (en_y N mj) ∈ en_T N ∧ Jvm.Cond.instanceMethod (en_y N mj) ∈ en_T N ∧ (en_y N mj).name = "<init>" ∧ en_r N mj = none ∧ ea_pn (en_y N mj) n
  | (15, mj, n) => 0 < mj ∧ mj < en_k N ∧ ep_hdl P mj = [] ∧ (∃ h, Jvm.Cond.methodLinkNest own x (en_y N mj) h ∈ en_n N) ∧ Jvm.Cond.instanceMethod (en_y N mj) ∈ en_T N ∧ (en_y N mj).name = "<init>" ∧ en_r N mj = none ∧ ea_pn (en_y N mj) n
  | (4, _, _) => Jvm.Cond.methodLink own x objectInit ∈ en_T N ∧ Jvm.Cond.instanceMethod objectInit ∈ en_T N ∧ Jvm.Cond.code objectInit ⟨#[0xb1]⟩ 1 none ∈ en_T N
  | (9, _, _) => Jvm.Cond.methodLink own x arraycopyName ∈ en_T N ∧ Jvm.Cond.native arraycopyName ∈ en_T N ∧ Jvm.Cond.static arraycopyName ∈ en_T N ∧ Jvm.Cond.initialized "java/lang/System" ∈ en_T N
  | (16, _, _) => Jvm.Cond.methodLink own x Jvm.Lib.Math.max.name ∈ en_T N ∧ Jvm.Cond.static Jvm.Lib.Math.max.name ∈ en_T N ∧ Jvm.Cond.initialized "java/lang/Math" ∈ en_T N ∧ Jvm.Cond.code Jvm.Lib.Math.max.name Jvm.Lib.Math.max.code 2 (some .int) ∈ en_T N
  | (17, _, _) => Jvm.Cond.methodLink own x Jvm.Lib.Math.min.name ∈ en_T N ∧ Jvm.Cond.static Jvm.Lib.Math.min.name ∈ en_T N ∧ Jvm.Cond.initialized "java/lang/Math" ∈ en_T N ∧ Jvm.Cond.code Jvm.Lib.Math.min.name Jvm.Lib.Math.min.code 2 (some .int) ∈ en_T N
  | (8, _, _) => ∃ tx, (own, x, tx) ∈ en_s N
  | (23, q, _) => ∃ tx, (own, x, tx, q / 2) ∈ en_S N
  | (24, 0, _) => Jvm.Cond.fieldLink own x "java/lang/String" "value" "[B" ∈ en_T N
  | (24, _ + 1, _) => Jvm.Cond.fieldLink own x "java/lang/String" "coder" "B" ∈ en_T N
  | (25, _, _) => Jvm.Cond.fieldLink own x "java/lang/String" "COMPACT_STRINGS" "Z" ∈ en_T N
  | (27, _, _) => Jvm.Cond.fieldLink own x "jdk/internal/util/Preconditions" "SIOOBE_FORMATTER" "Ljava/util/function/BiFunction;" ∈ en_T N
  | (26, mj, n) => 0 < mj ∧ mj < en_k N ∧ ep_hdl P mj = [] ∧ Jvm.Cond.methodLink own x (en_y N mj) ∈ en_T N ∧ Jvm.Cond.instanceMethod (en_y N mj) ∈ en_T N ∧ Jvm.Cond.selects (en_y N mj).cls (en_y N mj) (en_y N mj) ∈ en_T N ∧ (en_y N mj).cls = "java/lang/String" ∧ ea_pn (en_y N mj) n
  | (11, ce, _) => Jvm.Cond.classLink own x (en_x N ce) ∈ en_T N ∧ Jvm.Cond.initialized (en_x N ce) ∈ en_T N ∧ vx_ot (.classLink own x (en_x N ce)) = true ∧ vx_ot (.initialized (en_x N ce)) = true
  | (12, ce, _) => Bundle.fit (en_x N ce) = true ∧ ∃ ix rx, ec_rx ix rx ∧ ∀ w ∈ ec_at own x (en_x N ce) ix rx (en_up N), (w ∈ en_T N ∨ w ∈ en_n N) ∧ vx_ot w = true
  | _ => True
/-- what is known of a method -/
def ea_mo (P : EP) (N : EN) (m : Nat) : Prop := plainName (en_y N m).cls = true ∧ ((en_y N m).cls ≠ "java/lang/invoke/MethodHandle" ∧ (en_y N m).cls ≠ "java/lang/invoke/VarHandle") ∧ ea_hw P N m ∈ en_T N ∧ (∀ pc q, ep_cod P m pc = some q → decode (en_b N m) pc = .ok q) ∧ (ep_ini P m = true → (en_y N m).name = "<init>") ∧ ea_rk (ep_rtp P m) (en_r N m) ∧ Jvm.Cond.initialized (en_y N m).cls ∈ en_T N ∧ (∀ q ∈ ep_hdl P m, q.2.2.2.2 ≠ 0 ∧ Jvm.Cond.classLink (en_y N m).cls q.2.2.2.2 (en_x N q.2.2.2.1) ∈ en_T N) ∧ (∀ x r, ep_pl P m x = some r → ea_ps P N (en_y N m).cls x r) ∧ ep_nls P m ≤ 80
/-- what is known of a program -/
def ea_pr (P : EP) (N : EN) : Prop := (∀ m, m < en_k N → ea_mo P N m) ∧ ea_cw (en_T N) (en_cl N) (ep_fty P) ∧ (∀ w ∈ en_T N, goodWord w = true) ∧ (∀ w ∈ en_n N, (∃ a b, w = .castable a b) ∨ (∃ a i x h, w = .methodLinkNest a i x h) ∨ ∃ x, w = .declares x) ∧ (∀ n ∈ en_up N, Bundle.fit n = true) ∧ (en_up N).length ≤ 4 ∧ (∀ t, t = FieldType.int ∨ t = FieldType.long ∨ t = FieldType.byte → Jvm.Cond.arrayClass t ∈ en_T N) ∧ (∀ a b, ep_sub P a b = true → Jvm.Cond.castable (en_x N a) (en_x N b) ∈ en_n N) ∧ ∀ m, 0 < m → ep_scr P m = none
/-- what holds of a state's tables and of the cells that stay -/
def ea_G (N : EN) (P : EP) (D : va_G) (A : Nat → Prop) (sb : SB) (U : State) (H : Heap) : Prop := va_K D (en_cl N) [] U ∧ (∀ w ∈ en_n N, va_Nw w U) ∧ (∀ q ∈ en_s N, ∃ a, vk_R q.1 q.2.1 q.2.2 a U) ∧ (∀ C ∈ en_a N, va_AO C U) ∧ (∀ a b, ep_sub P a b = false → va_Nc (en_x N a) (en_x N b) U) ∧ vx_Zq Bundle.tN "UNASSIGNED_STACK" Bundle.steD A U H ∧ vx_Zq Bundle.tN "SUPPRESSED_SENTINEL" Bundle.listD A U H ∧ (∀ q, H.size ≤ q → A q) ∧ ea_St sb A U H ∧ ∀ t ∈ en_S N, t.2.2.2 ∈ sb.2.2.2.1 ∧ vk_R t.1 t.2.1 t.2.2.1 (sb.2.1 (t.2.2.2 % 64)) U
theorem ea_G_step {P : EP} {N : EN} (hpr : ea_pr P N) {D : va_G} {A : Nat → Prop} {sb : SB} {s U : State} {H H1 : Heap} (hW : s.WarmedH U.vm) (hz : H.size ≤ H1.size) (hq : ∀ q : Nat, q < H.size → ¬ A q → H1[q]? = H[q]?) (h : ea_G N P D A sb s H) : ea_G N P D A sb U H1 := by
  obtain ⟨h1, h2, h3, h4, h5, h6, h7, h8, h10, h11⟩ := h
  refine ⟨va_K.moved hW.alike h1, fun w hw => ?_, fun q hqq => ?_, fun C hC => va_AO.moved hW.alike (h4 C hC), fun a b hab => va_Nc.moved hW.alike (h5 a b hab), vx_Zq.moved hW.alike (h6.kept hq), vx_Zq.moved hW.alike (h7.kept hq), fun q hqq => h8 q (Nat.le_trans hz hqq), ea_St_step hW.alike hq h10, fun t ht => ⟨(h11 t ht).1, (h11 t ht).2.warm hW⟩⟩
  · rcases hpr.2.2.2.1 w hw with ⟨a, b, rfl⟩ | ⟨a, i, x, hh, rfl⟩ | ⟨x, rfl⟩
    · exact va_Nw.warmC hW (h2 _ hw)
    · exact va_Nw.warmM hW (h2 _ hw)
    · exact va_Nw.warmD hW (h2 _ hw)
  · obtain ⟨a, ha⟩ := h3 q hqq
    exact ⟨a, ha.warm hW⟩
/-- a pool entry's words, where they hold -/
theorem ea_po_of {P : EP} {N : EN} {D : va_G} {A : Nat → Prop} {sb : SB} {U : State} {H : Heap} (hG : ea_G N P D A sb U H) {own : String} {x : Nat} {r : Nat × Nat × Nat} (h : ea_ps P N own x r) : ea_po (en_T N) (en_cl N) U own x r := by
  unfold ea_po
  split
  · exact h
  · exact h
  · exact h
  · exact h
  · exact h
  · exact h
  · obtain ⟨q, h1, h2, h3⟩ := h
    exact ⟨q, h1, h2, hG.2.2.2.1 _ h3⟩
  · obtain ⟨q, h1, h2, h3, h4, h5, h6⟩ := h
    exact ⟨q, h1, h2, h3, h4, h5, hG.2.2.2.1 _ h6⟩
  · trivial
theorem ea_pz_of {P : EP} {N : EN} {D : va_G} {A : Nat → Prop} {sb : SB} {U : State} {H : Heap} (hG : ea_G N P D A sb U H) {own : String} {x : Nat} {r : Nat × Nat × Nat} (h : ea_ps P N own x r) : ea_pz (en_T N) sb U own x r := by
  unfold ea_pz
  split
  · obtain ⟨tx, ht⟩ := h
    obtain ⟨h1, h2⟩ := hG.2.2.2.2.2.2.2.2.2 _ ht
    exact ⟨h1, tx, h2⟩
  · exact h
  · exact h
  · exact h
  · exact h
  · trivial
end
section
/-! THE ABSTRACT MACHINE AND THE MACHINE: contracts -/
theorem ea_ext_t {a b c : va_W} (h1 : ea_ext a b) (h2 : ea_ext b c) : ea_ext a c := fun k q h => h2 k q (h1 k q h)
theorem ea_ext_p {ws ws' : va_W} (h : ea_ext ws ws') (sb : SB) : (sb, ws.map Prod.fst).1 = (sb, ws'.map Prod.fst).1 ∧ ∀ k q : Nat, (sb, ws.map Prod.fst).2[k]? = some q → (sb, ws'.map Prod.fst).2[k]? = some q := ⟨rfl, h⟩
def ea_rv (ad : SB × List Nat) (o : Option AV) (v : Option Value) : Prop := match o with
  | none => v = none
  | some a => ∃ x, v = some x ∧ ea_gv ad a x
/-- a world in a state -/
def ea_S (N : EN) (D : va_G) (A : Nat → Prop) (sb : SB) (C : List AC) (ws : va_W) (U : State) : Prop := va_P D (en_cl N) ws U.heap ∧ va_D A ws ∧ ea_H (en_cl N) U sb C ws
def ea_Pc (N : EN) (P : EP) (D : va_G) (A : Nat → Prop) (sb : SB) (C : List AC) (ws : va_W) (vs : List Value) : Array Value → State → Prop := fun a U => a = vs.toArray ∧ ea_S N D A sb C ws U ∧ ea_G N P D A sb U U.heap
def ea_Qc (N : EN) (D : va_G) (A : Nat → Prop) (sb : SB) (ws : va_W) (o : Option AV ⊕ Nat) (C : List AC) : Array Value → State → Outcome → State → Prop := fun _ st oc t => match o with
  | .inl ov => ∃ ws' v, oc = .returned v ∧ ea_ext ws ws' ∧ ea_rv (sb, ws'.map Prod.fst) ov v ∧ ea_S N D A sb C ws' t ∧ va_F A st t
  | .inr _ => False
def ea_XC (N : EN) (D : va_G) (A : Nat → Prop) (sb : SB) (ws : va_W) (o : Option AV ⊕ Nat) (C : List AC) : String → State → State → Prop := fun E st t => match o with
  | .inl _ => False
  | .inr ce => ∃ ws', E = en_x N ce ∧ ea_ext ws ws' ∧ ea_S N D A sb C ws' t ∧ va_F A st t
theorem ea_blind {N : EN} {P : EP} {D : va_G} {A : Nat → Prop} {sb : SB} {C : List AC} {ws : va_W} {vs : List Value} (hpr : ea_pr P N) : FrameBlind (ea_Pc N P D A sb C ws vs) := by
  intro a U g mk h
  obtain ⟨h1, ⟨hP, hD, hH⟩, hG⟩ := h
  have hW : U.WarmedH (U.calling g mk a).vm := State.WarmedH.refl U
  exact ⟨h1, ⟨hP, hD, ea_H_moved hW.alike hH⟩, ea_G_step (U := U.calling g mk a) (H1 := U.heap) hpr hW (Nat.le_refl _) (fun _ _ _ => rfl) hG⟩
/-- what holds in the body of a method -/
def ea_cx (P : EP) (N : EN) (D : va_G) (A : Nat → Prop) (sb : SB) (mi : Nat) (p : Program) (l : Launch) (s : State) (m : MethodId) (args : Array Value) (meth : Method) (c : Code) : Prop :=
  p.tables.exec = Jvm.exec ∧ c.code = en_b N mi ∧ (∀ w ∈ en_T N, w.before args s = true) ∧ s.vm.findClass (en_y N mi).cls = some m.cls ∧ (ep_ini P mi = true → meth.name = "<init>") ∧ meth.locks = false ∧ meth.sig.returnType = en_r N mi ∧ c.maxLocals = ep_nls P mi ∧
  c.exceptionTable.toList = tableOf (ea_hs P mi) ∧ ea_G N P D A sb s s.heap ∧ l.stackTraces = false ∧ ∀ X, ep_scr P mi = some X → ¬ A sb.1 ∧ sb.1 < s.heap.size ∧ ∃ xs : Nat → Int32, va_X sb.1 X.length xs s s.heap ∧ ∀ j v, X[j]? = some v → ea_gi v (xs j)
theorem ea_wt_ok {ad : SB × List Nat} : ∀ {S : List AV} {st : List Value}, ea_rl (ea_gv ad) S st → (st.map fun v => v.category).sum = ea_wt S
  | [], [], _ => rfl
  | a :: S, v :: st, h => by
    rw [List.map_cons, List.sum_cons, ea_wt_ok h.2, ea_gv_cat h.1]
    rfl
  | [], _ :: _, h => h.elim
  | _ :: _, [], h => h.elim
theorem ea_sl_ok {ad : SB × List Nat} : ∀ {S : List AV} {st : List Value}, ea_rl (ea_gv ad) S st → (lg_sl st).length = ea_wt S
  | [], [], _ => rfl
  | a :: S, v :: st, h => by
    have hc := ea_gv_cat h.1
    have ih : (List.flatMap (fun v : Value => if v.category = 2 then [Slot.val v, .second] else [Slot.val v]) st).length = ea_wt S := ea_sl_ok h.2
    show (List.flatMap (fun v : Value => if v.category = 2 then [Slot.val v, .second] else [Slot.val v]) (v :: st)).length = ea_cat a + ea_wt S
    rw [List.flatMap_cons, List.length_append, ih, hc]
    rcases lv_cat v with h1 | h1 <;> rw [hc] at h1 <;> simp [h1]
  | [], _ :: _, h => h.elim
  | _ :: _, [], h => h.elim
theorem ea_ar_ok {ad : SB × List Nat} : ∀ {as : List AV} {vs : List Value} (i : Nat), ea_rl (ea_gv ad) as vs → ea_rl (ea_lr ad) (ea_ar i as) (lv_args i vs)
  | [], [], _, _ => trivial
  | a :: as, v :: vs, i, h => by
    refine ⟨⟨rfl, h.1⟩, ?_⟩
    rw [ea_gv_cat h.1]
    exact ea_ar_ok _ h.2
  | [], _ :: _, _, h => h.elim
  | _ :: _, [], _, h => h.elim
section EAC
variable {p : Program} {l : Launch} {e : Env} {R : Room} {s : State} {m : MethodId} {args : Array Value} {below : List Frame} {meth : Method} {c : Code} {H : Heap} {locs : List Loc} {k w : Nat} {Q : State → Prop}
variable {pc : Nat} {ls : Array Slot} {st rest : List Value} {P : EP} {N : EN} {D : va_G} {A : Nat → Prop} {sb : SB} {ws : va_W} {C : List AC}
/-- behind a call -/
theorem ea_after {mc ms : Nat} {o : Option AV ⊕ Nat} {a : Array Value} (hr : vx_Run p l e R s m args below meth c H locs k w mc ms (F0 m pc ls st) rest (ea_Qc N D A sb ws o C a) (ea_XC N D A sb ws o C) A) (hS : va_S A s.heap H locs)
    (kr : ∀ ov, o = .inl ov → ∀ (ws' : va_W) (v : Option Value) (H1 : Heap) (locs1 : List Loc), ea_W D (en_cl N) A s sb C ws' H1 locs1 → ea_ext ws ws' → ea_rv (sb, ws'.map Prod.fst) ov v → W p l e R s m args below meth c H1 locs1 (k + mc) (w + ms) Q (F0 m (pc + 3) ls (v.toList ++ rest)))
    (kx : ∀ ce, o = .inr ce → ∀ (ws' : va_W) (q : Addr) (cell : Cell) (H1 : Heap) (locs1 : List Loc), ea_W D (en_cl N) A s sb C ws' H1 locs1 → ea_ext ws ws' → H1[q]? = some cell → cell.vm = .none → s.vm.findClass (en_x N ce) = some cell.cls → vx_W p l e R s m args below meth c H1 locs1 (k + mc) (w + ms) Q (F0 m pc ls rest) q) :
    W p l e R s m args below meth c H locs k w Q (F0 m pc ls st) := by
  intro T hT X
  rcases hr T hT X with ⟨v, st₀, t, T', L, h0, X', hL, e1, e2, hq, st2⟩ | ⟨q, st₀, t, T', L, E, ce, h0, X', hL, e1, e2, hq, hce, hcv, hcl, st2⟩
  · cases o with
    | inr _ => exact hq.elim
    | inl ov =>
      obtain ⟨ws', v', hv, hext, hrv, ⟨hP, hD, hH⟩, hF⟩ := hq
      cases hv
      obtain ⟨k1, k2, k3⟩ := vx_keep h0 e1 hS (fun _ _ h => h) (fun _ h => h) hL hF
      have hal : t.vm.Alike s.vm := by rw [← e2]; exact X'.warmed.alike.symm
      obtain ⟨t2, a1, b1⟩ := kr ov rfl ws' v T'.heap (locs ++ L) ⟨by rw [e1]; exact hP, hD, k3, ea_H_moved hal hH⟩ hext hrv T' rfl X'
      exact ⟨t2, st2 t2 a1, b1⟩
  · cases o with
    | inl _ => exact hq.elim
    | inr x =>
      obtain ⟨ws', rfl, hext, ⟨hP, hD, hH⟩, hF⟩ := hq
      obtain ⟨k1, k2, k3⟩ := vx_keep h0 e1 hS (fun _ _ h => h) (fun _ h => h) hL hF
      have hal : t.vm.Alike s.vm := by rw [← e2]; exact X'.warmed.alike.symm
      obtain ⟨t2, a1, b1⟩ := kx x rfl ws' q ce T'.heap (locs ++ L) ⟨by rw [e1]; exact hP, hD, k3, ea_H_moved hal hH⟩ hext (by rw [e1]; exact hce) hcv hcl T' rfl X'
      exact ⟨t2, st2.trans a1, b1⟩
/-- the end of a method -/
theorem ea_rt_ok {mi : Nat} {i : Instr} {len : Nat} {S : List AV} {v : Option AV} {ws0 : va_W} (hcx : ea_cx P N D A sb mi p l s m args meth c) (hrk : ea_rk (ep_rtp P mi) (en_r N mi)) (hdg : decode (en_b N mi) pc = .ok (i, len)) (hlen : ea_len i = 0 ∨ ea_len i = len) (hp : ea_rt (ep_rtp P mi) i S = some v)
    (hW : ea_W D (en_cl N) A s sb C ws H locs) (hext : ea_ext ws0 ws) (hs : ea_rl (ea_gv (sb, ws.map Prod.fst)) S st) :
    W p l e R s m args below meth c H locs k w (vx_MQ below (ea_Qc N D A sb ws0 (.inl v) C) (ea_XC N D A sb ws0 (.inl v) C) args s k w A) (F0 m pc ls st) := by
  obtain ⟨hexec, hb, hts, hown, hini, hlocks, hret, hml, hex, hG, hst, hX⟩ := hcx
  obtain ⟨hP, hD, hS, hH⟩ := hW
  have hq : ∀ (x : Option Value), ea_rv (sb, ws.map Prod.fst) v x → ∀ t : State, t.heap = H → s.WarmedH t.vm → ea_Qc N D A sb ws0 (.inl v) C args s (.returned x) t := fun x hx t ht hWt =>
    ⟨ws, x, rfl, hext, hx, ⟨by rw [ht]; exact hP, hD, ea_H_moved hWt.alike hH⟩, hS.F ht⟩
  unfold ea_rt at hp
  split at hp
  · rename_i a
    obtain rfl : 1 = len := by simpa [ea_len] using hlen
    obtain ⟨x, _, rfl, hv, hs1⟩ := ea_pop hs
    obtain rfl := ea_rl_nil hs1
    split at hp
    · rename_i hr
      cases hf : ea_fit 0 a with
      | false => rw [hf] at hp; cases hp
      | true =>
        rw [hf] at hp
        cases hp
        rw [hr] at hrk
        obtain ⟨y, rfl, hy⟩ : ∃ y : Int32, x = .int y ∧ True := by
          unfold ea_fit at hf
          split at hf <;> first | cases hf | skip
          all_goals first | (obtain ⟨y, rfl, -⟩ := hv; exact ⟨y, rfl, trivial⟩) | contradiction
        exact vx_ret (W.iret hexec hb (hret.trans hrk) (hq _ ⟨_, rfl, hv⟩) hS.2.2 hdg hlocks)
    · rename_i hr
      cases hf : ea_fit 2 a with
      | false => rw [hf] at hp; cases hp
      | true =>
        rw [hf] at hp
        cases hp
        rw [hr] at hrk
        obtain ⟨hn, -⟩ := ea_fit_ok hf hv (show ea_tg 2 .boolean from rfl)
        obtain ⟨y, rfl, hy⟩ : ∃ y : Int32, x = .int y ∧ True := by
          unfold ea_fit at hf
          split at hf <;> first | cases hf | skip
          all_goals first | (obtain ⟨y, rfl, -⟩ := hv; exact ⟨y, rfl, trivial⟩) | contradiction
        exact vx_ret (W.zret hexec hb (hret.trans hrk) hn (hq _ ⟨_, rfl, hv⟩) hS.2.2 hdg hlocks)
    · rename_i hr
      split at hp
      · rename_i y
        split at hp
        · rename_i hy
          cases hp
          rw [hr] at hrk
          obtain ⟨z, rfl, hz⟩ := hv
          obtain rfl : z = y := hz
          exact vx_ret (W.zret hexec hb (hret.trans hrk) (by show Value.int _ = _; rw [hy]) (hq _ ⟨_, rfl, ⟨_, rfl, rfl⟩⟩) hS.2.2 hdg hlocks)
        · cases hp
      · cases hp
    · rename_i hr
      split at hp
      · rename_i y
        split at hp
        · rename_i hy
          cases hp
          rw [hr] at hrk
          obtain ⟨z, rfl, hz⟩ := hv
          obtain rfl : z = y := hz
          exact vx_ret (W.zret hexec hb (hret.trans hrk) (by show Value.int _ = _; rw [hy]) (hq _ ⟨_, rfl, ⟨_, rfl, rfl⟩⟩) hS.2.2 hdg hlocks)
        · cases hp
      · cases hp
    · cases hp
  · rename_i a
    obtain rfl : 1 = len := by simpa [ea_len] using hlen
    obtain ⟨x, _, rfl, hv, hs1⟩ := ea_pop hs
    obtain rfl := ea_rl_nil hs1
    split at hp
    · rename_i hr
      cases hf : ea_fit 1 a with
      | false => rw [hf] at hp; cases hp
      | true =>
        rw [hf] at hp
        cases hp
        rw [hr] at hrk
        obtain ⟨y, rfl, hy⟩ : ∃ y : Int64, x = .long y ∧ True := by
          unfold ea_fit at hf
          split at hf <;> first | cases hf | skip
          all_goals first | (obtain ⟨y, rfl, -⟩ := ea_gl hv; exact ⟨y, rfl, trivial⟩) | contradiction
        exact vx_ret (W.lret hexec hb (hret.trans hrk) (hq _ ⟨_, rfl, hv⟩) hS.2.2 hdg hlocks)
    · cases hp
  · obtain rfl : 1 = len := by simpa [ea_len] using hlen
    obtain rfl := ea_rl_nil hs
    split at hp
    · rename_i hr
      cases hp
      rw [hr] at hrk
      exact vx_ret (W.vret hexec hb (hret.trans hrk) (hq _ rfl) hS.2.2 hdg hlocks)
    · cases hp
  · cases hp
end EAC
end
section
/-! THE ABSTRACT MACHINE AND THE MACHINE: what it runs, the machine runs -/
def ea_rm (P : EP) (m k w : Nat) : Room := { frames := ep_dep P m, cells := k, slots := w, locals := 100 * ep_dep P m }
def ea_good (P : EP) (N : EN) (D : va_G) (A : Nat → Prop) (sb : SB) (l : Launch) (mi pc : Nat) (L : List (Nat × AV)) (S : List AV) (C : List AC) (k w : Nat) (o : Option AV ⊕ Nat) (C' : List AC) (k1 w1 : Nat) : Prop :=
  k ≤ k1 ∧ w ≤ w1 ∧ ∀ (p : Program) (e : Env) (s : State) (m : MethodId) (args : Array Value) (below : List Frame) (meth : Method) (c : Code) (H : Heap) (locs : List Loc) (ls : Array Slot) (st : List Value) (ws ws0 : va_W),
    ea_cx P N D A sb mi p l s m args meth c → ea_W D (en_cl N) A s sb C ws H locs → ea_ext ws0 ws → ea_L (sb, ws.map Prod.fst) (ep_nls P mi) L ls → ea_rl (ea_gv (sb, ws.map Prod.fst)) S st →
    W p l e (ea_rm P mi k1 w1) s m args below meth c H locs k w (vx_MQ below (ea_Qc N D A sb ws0 o C') (ea_XC N D A sb ws0 o C') args s k1 w1 A) (F0 m pc ls st)
section EAM
variable {P : EP} {N : EN} {D : va_G} {A : Nat → Prop} {sb : SB} {l : Launch}
theorem ea_met (hpr : ea_pr P N) (hst : l.stackTraces = false) {mj : Nat} (h0 : 0 < mj) (hk : mj < en_k N) {as : List AV} {C C1 : List AC} {o : Option AV ⊕ Nat} {dk dw : Nat} (hg : ea_good P N D A sb l mj 0 (ea_ar 0 as) [] C 0 0 o C1 dk dw) (hwt : ea_wt as ≤ ep_nls P mj) {ws : va_W} {vs : List Value} (hvs : ea_rl (ea_gv (sb, ws.map Prod.fst)) as vs) :
    vx_Met l (en_y N mj) (ea_hw P N mj :: en_T N) (ea_rm P mj dk dw) (ea_Pc N P D A sb C ws vs) (ea_Qc N D A sb ws o C1) (ea_XC N D A sb ws o C1) dk dw A := by
  obtain ⟨hy, hyh, hwd, hdec, hini, hrk, hinit, hhc, hpool, hnl⟩ := hpr.1 mj hk
  have body : ∀ p e s m args below meth c s₁, BodyLoose p l (en_y N mj) (headSpec (ea_hw P N mj :: en_T N) (ea_rm P mj dk dw)) (en_b N mj) (ep_nls P mj) (en_r N mj) e s m args below meth c s₁ → c.maxLocals = ep_nls P mj → c.exceptionTable.toList = tableOf (ea_hs P mj) → ea_Pc N P D A sb C ws vs args s →
      W p l e (headSpec (ea_hw P N mj :: en_T N) (ea_rm P mj dk dw)).room s m args below meth c s.heap [] 0 0 (vx_MQ below (ea_Qc N D A sb ws o C1) (ea_XC N D A sb ws o C1) args s dk dw A) (entryFrame m args (ep_nls P mj)) := by
    intro p e s m args below meth c s₁ B hml ht hv
    obtain ⟨rfl, ⟨hP, hD, hH⟩, hG⟩ := hv
    have hts := atoms_spec (ws := ea_hw P N mj :: en_T N) B.pre
    have hl := lv_entry vs (n := ep_nls P mj) (by rw [ea_sl_ok hvs]; exact hwt)
    rw [lg_entry_eq]
    exact hg.2.2 p e s m _ below meth c s.heap [] _ [] ws ws ⟨B.exec, B.bytes, fun w hw => hts w (List.mem_cons_of_mem _ hw), findClass_of_methodNamed B.named, fun hi => (name_of_methodNamed B.named B.method).1.trans (hini hi), B.notSynchronized, B.returns, hml, ht, hG, hst, fun X hX => by rw [hpr.2.2.2.2.2.2.2.2 mj h0] at hX; cases hX⟩
      ⟨hP, hD, va_S.rf, hH⟩ (ea_ext_r ws) ⟨_, ea_ar_ok 0 hvs, hl⟩ trivial
  cases hh : ep_hdl P mj with
  | nil =>
    refine vx_ofW (cc := en_b N mj) (maxL := ep_nls P mj) (ret := en_r N mj) (ws' := en_T N) hy (by simp only [ea_hw, hh]) ?_
    intro p e s m args below meth c s₁ B hml ht hv
    refine body p e s m args below meth c s₁ B hml ?_ hv
    have : ea_hs P mj = [] := by unfold ea_hs; rw [hh]; rfl
    rw [this]
    exact List.eq_nil_iff_forall_not_mem.mpr (fun x hx => ht x hx)
  | cons q t =>
    have hwe : ea_hw P N mj = .codeWith (en_y N mj) (en_b N mj) (ep_nls P mj) (en_r N mj) (ea_hs P mj) := by simp only [ea_hw, hh]
    refine vx_ofWH (cc := en_b N mj) (maxL := ep_nls P mj) (ret := en_r N mj) (hh := ea_hs P mj) (ws' := en_T N) hy (by rw [hwe]) ?_
    intro p e s m args below meth c s₁ B hml hv
    refine body p e s m args below meth c s₁ B hml ?_ hv
    have hts := atoms_spec (ws := ea_hw P N mj :: en_T N) B.pre
    exact vx_table (x := en_y N mj) B (by have := hts _ List.mem_cons_self; rw [hwe] at this; exact this)
/-- a contract that never throws -/
theorem ea_ret {y : MethodName} {ws : List Jvm.Cond} {rm : Room} {Pc : Array Value → State → Prop} {Qc : Array Value → State → Outcome → State → Prop} {XC : String → State → State → Prop} {mc ms : Nat} {free : Addr → Prop} (hX : ∀ E a b, ¬ XC E a b) (h : vx_Met l y ws rm Pc Qc XC mc ms free) : Met l y ws rm Pc Qc mc ms free := by
  intro p e ha hc hk s m args below hf happ hP hK
  obtain ⟨n, o, h1, h2, h3, h4⟩ := h p e ha hc hk s m args below hf happ hP hK
  refine ⟨n, o, h1, h2, h3, ?_⟩
  rcases h4 with h4 | ⟨q, -, E, ce, L, hx, -⟩
  · exact h4
  · exact absurd hx (hX _ _ _)
theorem ea_runX {p : Program} {e : Env} {R : Room} {s : State} {m : MethodId} {args : Array Value} {below : List Frame} {meth : Method} {c : Code} {H : Heap} {locs : List Loc} {cells slots mc ms : Nat} {g : JFrame} {rest : List Value} {Qa : State → Outcome → State → Prop} {XC : String → State → State → Prop} {free : Addr → Prop}
    (h : va_Run p l e R s m args below meth c H locs cells slots mc ms g rest Qa free) : vx_Run p l e R s m args below meth c H locs cells slots mc ms g rest Qa XC free := fun T hT X => Or.inl (h T hT X)
variable {p : Program} {e : Env} {s : State} {m : MethodId} {args : Array Value} {below : List Frame} {meth : Method} {c : Code} {H : Heap} {locs : List Loc} {k w : Nat}
variable {pc : Nat} {ls : Array Slot} {st : List Value} {ws : va_W} {C : List AC}
/-- a callee's start, at the call -/
theorem ea_pre (hpr : ea_pr P N) {mi : Nat} (hcx : ea_cx P N D A sb mi p l s m args meth c) (hW : ea_W D (en_cl N) A s sb C ws H locs) (vs : List Value) : ∀ U : State, U.heap = H → s.WarmedH U.vm → ea_Pc N P D A sb C ws vs vs.toArray U := by
  intro U hU hWU
  obtain ⟨hP, hD, hS, hH⟩ := hW
  obtain ⟨-, -, -, -, -, -, -, -, -, hG, -⟩ := hcx
  exact ⟨rfl, ⟨by rw [hU]; exact hP, hD, ea_H_moved hWU.alike hH⟩, ea_G_step hpr hWU (by rw [hU]; exact hS.1) (fun q h1 h2 => by rw [hU]; exact hS.2.1 q h1 h2) hG⟩
theorem ea_words (hpr : ea_pr P N) {mj : Nat} (hk : mj < en_k N) (hts : ∀ w ∈ en_T N, w.before args s = true) : ∀ w ∈ ea_hw P N mj :: en_T N, ∀ (a' : Array Value) (U : State), s.WarmedH U.vm → w.before a' U = true := by
  intro w hw a' U hWU
  have hm : w ∈ en_T N := by
    rcases List.mem_cons.mp hw with rfl | h
    · exact (hpr.1 mj hk).2.2.1
    · exact h
  exact word_at hWU (good_of_word (hpr.2.2.1 w hm)) (hts w hm)
theorem ea_parm {y : MethodName} {n : Nat} (h : ea_pn y n) : ∀ sig, parseMethodDescriptor y.desc = some sig → n = sig.parameters.length := by
  intro sig hs
  unfold ea_pn at h
  rw [hs] at h
  exact (Option.some.inj h).symm
theorem ea_room {mi mj k1 w1 dk dw : Nat} (hpr : ea_pr P N) (hk : mj < en_k N) (hd : ep_dep P mj < ep_dep P mi) : (ea_rm P mj dk dw).frames + 1 ≤ (ea_rm P mi k1 w1).frames ∧ 8 + (ep_nls P mj + 11) + (ea_rm P mj dk dw).locals ≤ (ea_rm P mi k1 w1).locals := by
  have hn : ep_nls P mj ≤ 80 := (hpr.1 mj hk).2.2.2.2.2.2.2.2.2
  refine ⟨hd, ?_⟩
  show 8 + (ep_nls P mj + 11) + 100 * ep_dep P mj ≤ 100 * ep_dep P mi
  omega
theorem ea_split {S : List AV} {st : List Value} (hs : ea_rl (ea_gv (sb, ws.map Prod.fst)) S st) (n : Nat) (hn : n ≤ S.length) : st = (st.take n).reverse.reverse ++ st.drop n ∧ (st.take n).reverse.length = n ∧ ea_rl (ea_gv (sb, ws.map Prod.fst)) (S.take n).reverse (st.take n).reverse ∧ ea_rl (ea_gv (sb, ws.map Prod.fst)) (S.drop n) (st.drop n) := by
  have hl := ea_rl_len hs
  obtain ⟨h1, h2⟩ := ea_rl_take n hs
  refine ⟨by rw [List.reverse_reverse, List.take_append_drop], ?_, ea_rl_rev h1, h2⟩
  rw [List.length_reverse, List.length_take]
  omega
set_option maxHeartbeats 4000000 in
/-- a call comes back, or throws -/
theorem ea_run (hpr : ea_pr P N) {mi mj x k1 w1 dk dw : Nat} (hmi : mi < en_k N) {i : Instr} {S as T : List AV} {o : Option AV ⊕ Nat} {C1 : List AC} (hcx : ea_cx P N D A sb mi p l s m args meth c) (hW : ea_W D (en_cl N) A s sb C ws H locs) {L : List (Nat × AV)} (hl : ea_L (sb, ws.map Prod.fst) (ep_nls P mi) L ls) (hs : ea_rl (ea_gv (sb, ws.map Prod.fst)) S st)
    (hi : i = .invokestatic x ∨ i = .invokespecial x ∨ i = .invokevirtual x) (hdg : decode (en_b N mi) pc = .ok (i, 3)) {b : Bool} (hc : ea_cl (ep_own P) i (ep_pl P mi x) S C = some (mj, as, T, b)) (hob : b = false → ∃ ov, o = .inl ov) (hd : ep_dep P mj < ep_dep P mi) (hw8 : ea_wt T ≤ 8) (hwa : ea_wt as ≤ ep_nls P mj) (hkk : k + dk ≤ k1 ∧ w + dw ≤ w1)
    (hg : 0 < mj → mj < en_k N → ea_good P N D A sb l mj 0 (ea_ar 0 as) [] C 0 0 o C1 dk dw) :
    ∃ (rest : List Value) (a : Array Value), ea_rl (ea_gv (sb, ws.map Prod.fst)) T rest ∧ vx_Run p l e (ea_rm P mi k1 w1) s m args below meth c H locs k w dk dw (F0 m pc ls st) rest (ea_Qc N D A sb ws o C1 a) (ea_XC N D A sb ws o C1) A := by
  obtain ⟨hexec, hb, hts, hown, hini, hlocks, hret, hml, hex, hG, hst, hX⟩ := id hcx
  have hpool := (hpr.1 mi hmi).2.2.2.2.2.2.2.2.1
  have hsz : (F0 m pc ls st).locals.size = ep_nls P mi := by obtain ⟨vl, -, h⟩ := hl; exact h.1
  have fix : CallFix p m c (en_b N mi) (ep_nls P mi) s args (en_T N) (en_y N mi).cls := ⟨hexec, hb, hml, hown, hts⟩
  unfold ea_cl at hc
  split at hc
  · -- a static method
    rename_i z mj' n hr
    obtain rfl : z = x := by rcases hi with h | h | h <;> cases h; rfl
    cases hbl : Nat.ble n S.length with
    | false => rw [hbl] at hc; cases hc
    | true =>
      rw [hbl] at hc
      cases hc
      obtain ⟨h0, hk, hlink, hstat, hpn⟩ := hpool _ _ hr
      obtain ⟨hy, hyh, hwd, hdec, hini', hrk, hinit, hhc, -, hnl⟩ := hpr.1 mj hk
      obtain ⟨e1, e2, e3, e4⟩ := ea_split hs n (Nat.le_of_ble_eq_true hbl)
      have hM := ea_met hpr hst h0 hk (hg h0 hk) hwa e3
      refine ⟨st.drop n, (st.take n).reverse.toArray, e4, ?_⟩
      have hw' := Nat.le_trans (Nat.le_of_eq (ea_wt_ok e4)) hw8
      cases hh : ep_hdl P mj with
      | nil =>
        have hwe : ea_hw P N mj = .code (en_y N mj) (en_b N mj) (ep_nls P mj) (en_r N mj) := by simp only [ea_hw, hh]
        exact vx_runS (As := (st.take n).reverse) fix hM ⟨⟨rfl, rfl, (ea_room hpr hk hd).1, (ea_room hpr hk hd).2, ea_words hpr hk hts, by rw [hwe]; exact List.mem_cons_self, by rw [← hwe]; exact hts _ hwd, hts _ hinit, hyh, ea_parm hpn, hts _ hlink⟩, hts _ hstat⟩
          ⟨ea_blind hpr, ea_pre hpr hcx hW _⟩ rfl e2 hsz e1 (lv_room hw') hdg hkk
      | cons q t =>
        have hwe : ea_hw P N mj = .codeWith (en_y N mj) (en_b N mj) (ep_nls P mj) (en_r N mj) (ea_hs P mj) := by simp only [ea_hw, hh]
        exact vx_runSX (As := (st.take n).reverse) fix hM ⟨⟨rfl, rfl, (ea_room hpr hk hd).1, (ea_room hpr hk hd).2, ea_words hpr hk hts, by rw [hwe]; exact List.mem_cons_self⟩, by rw [← hwe]; exact hts _ hwd, hts _ hinit, hyh, ea_parm hpn, hts _ hlink, hts _ hstat⟩
          ⟨ea_blind hpr, ea_pre hpr hcx hW _⟩ rfl e2 hsz e1 (lv_room hw') hdg hkk
  · -- a static method of a nest mate
    rename_i z mj' n hr
    obtain rfl : z = x := by rcases hi with h | h | h <;> cases h; rfl
    cases hbl : Nat.ble n S.length with
    | false => rw [hbl] at hc; cases hc
    | true =>
      rw [hbl] at hc
      cases hc
      obtain ⟨ov, rfl⟩ := hob rfl
      obtain ⟨h0, hk, hh, ⟨host, hnest⟩, hstat, hpn⟩ := hpool _ _ hr
      obtain ⟨hy, hyh, hwd, hdec, hini', hrk, hinit, hhc, -, hnl⟩ := hpr.1 mj hk
      obtain ⟨e1, e2, e3, e4⟩ := ea_split hs n (Nat.le_of_ble_eq_true hbl)
      have hM := ea_ret (fun _ _ _ h => h) (ea_met hpr hst h0 hk (hg h0 hk) hwa e3)
      refine ⟨st.drop n, (st.take n).reverse.toArray, e4, ?_⟩
      have hw' := Nat.le_trans (Nat.le_of_eq (ea_wt_ok e4)) hw8
      have hwe : ea_hw P N mj = .code (en_y N mj) (en_b N mj) (ep_nls P mj) (en_r N mj) := by simp only [ea_hw, hh]
      exact ea_runX (va_runSN (As := (st.take n).reverse) (host := host) fix hM ⟨⟨⟨rfl, rfl, (ea_room hpr hk hd).1, (ea_room hpr hk hd).2, ea_words hpr hk hts, by rw [hwe]; exact List.mem_cons_self⟩, by rw [← hwe]; exact hts _ hwd, hts _ hinit, hyh, ea_parm hpn, va_Nw.use rfl (hG.2.1 _ hnest)⟩, hts _ hstat, trivial⟩
        ⟨ea_blind hpr, ea_pre hpr hcx hW _⟩ rfl e2 hsz e1 (lv_room hw') hdg hkk)
  · -- a constructor
    rename_i z mj' n hr
    obtain rfl : z = x := by rcases hi with h | h | h <;> cases h; rfl
    split at hc
    · rename_i aa T' hdr
      cases hc
      obtain ⟨ov, rfl⟩ := hob rfl
      obtain ⟨h0, hk, hh, hlink, hinst, hnm, hrn, hpn⟩ := hpool _ _ hr
      obtain ⟨hy, hyh, hwd, hdec, hini', hrk, hinit, hhc, -, hnl⟩ := hpr.1 mj hk
      have hle : n ≤ S.length := by
        have := congrArg List.length hdr
        rw [List.length_drop, List.length_cons] at this
        omega
      obtain ⟨e1, e2, e3, e4⟩ := ea_split hs n hle
      rw [hdr] at e4
      obtain ⟨_, rest, hst4, ⟨bb, rfl, hbb⟩, e5⟩ := ea_pop e4
      rw [hst4] at e1
      have hM := ea_ret (fun _ _ _ h => h) (ea_met (vs := .ref bb :: (st.take n).reverse) hpr hst h0 hk (hg h0 hk) hwa ⟨⟨bb, rfl, hbb⟩, e3⟩)
      refine ⟨rest, (Value.ref bb :: (st.take n).reverse).toArray, e5, ?_⟩
      have hw' := Nat.le_trans (Nat.le_of_eq (ea_wt_ok e5)) hw8
      have hwe : ea_hw P N mj = .code (en_y N mj) (en_b N mj) (ep_nls P mj) none := by simp only [ea_hw, hh, hrn]
      exact ea_runX (va_runI (As := (st.take n).reverse) (b := bb) fix hM ⟨⟨rfl, rfl, (ea_room hpr hk hd).1, (ea_room hpr hk hd).2, ea_words hpr hk hts, by rw [hwe]; exact List.mem_cons_self, by rw [← hwe]; exact hts _ hwd, hts _ hinit, hyh, ea_parm hpn, hts _ hlink⟩, hnm, hts _ hinst⟩ ⟨ea_blind hpr, ea_pre hpr hcx hW _⟩ rfl e2 hsz e1 (lv_room hw') hdg hkk)
    · cases hc
  · -- a constructor of a nest mate
    rename_i z mj' n hr
    obtain rfl : z = x := by rcases hi with h | h | h <;> cases h; rfl
    split at hc
    · rename_i aa T' hdr
      cases hc
      obtain ⟨ov, rfl⟩ := hob rfl
      obtain ⟨h0, hk, hh, ⟨host, hnest⟩, hinst, hnm, hrn, hpn⟩ := hpool _ _ hr
      obtain ⟨hy, hyh, hwd, hdec, hini', hrk, hinit, hhc, -, hnl⟩ := hpr.1 mj hk
      have hle : n ≤ S.length := by
        have := congrArg List.length hdr
        rw [List.length_drop, List.length_cons] at this
        omega
      obtain ⟨e1, e2, e3, e4⟩ := ea_split hs n hle
      rw [hdr] at e4
      obtain ⟨_, rest, hst4, ⟨bb, rfl, hbb⟩, e5⟩ := ea_pop e4
      rw [hst4] at e1
      have hM := ea_ret (fun _ _ _ h => h) (ea_met (vs := .ref bb :: (st.take n).reverse) hpr hst h0 hk (hg h0 hk) hwa ⟨⟨bb, rfl, hbb⟩, e3⟩)
      refine ⟨rest, (Value.ref bb :: (st.take n).reverse).toArray, e5, ?_⟩
      have hw' := Nat.le_trans (Nat.le_of_eq (ea_wt_ok e5)) hw8
      have hwe : ea_hw P N mj = .code (en_y N mj) (en_b N mj) (ep_nls P mj) none := by simp only [ea_hw, hh, hrn]
      exact ea_runX (va_runIN (As := (st.take n).reverse) (b := bb) (host := host) fix hM ⟨⟨⟨rfl, rfl, (ea_room hpr hk hd).1, (ea_room hpr hk hd).2, ea_words hpr hk hts, by rw [hwe]; exact List.mem_cons_self⟩, by rw [← hwe]; exact hts _ hwd, hts _ hinit, hyh, ea_parm hpn, va_Nw.use rfl (hG.2.1 _ hnest)⟩, hnm, hts _ hinst⟩ ⟨ea_blind hpr, ea_pre hpr hcx hW _⟩ rfl e2 hsz e1 (lv_room hw') hdg hkk)
    · cases hc
  · -- a method of an object
    rename_i z mj' n hr
    obtain rfl : z = x := by rcases hi with h | h | h <;> cases h; rfl
    split at hc
    · rename_i aa T' hdr
      split at hc
      · rename_i o1 ho1
        cases hbq : Nat.beq o1.1 (ep_own P mj') with
        | false => rw [hbq] at hc; cases hc
        | true =>
          rw [hbq] at hc
          cases hc
          obtain ⟨h0, hk, hh, hlink, hinst, hsel, ⟨q, hq1, hq2⟩, hpn⟩ := hpool _ _ hr
          obtain ⟨hy, hyh, hwd, hdec, hini', hrk, hinit, hhc, -, hnl⟩ := hpr.1 mj hk
          have hle : n ≤ S.length := by
            have := congrArg List.length hdr
            rw [List.length_drop, List.length_cons] at this
            omega
          obtain ⟨e1, e2, e3, e4⟩ := ea_split hs n hle
          rw [hdr] at e4
          obtain ⟨_, rest, hst4, ⟨bb, rfl, hbb⟩, e5⟩ := ea_pop e4
          rw [hst4] at e1
          have hM := ea_met (vs := .ref bb :: (st.take n).reverse) hpr hst h0 hk (hg h0 hk) hwa ⟨⟨bb, rfl, hbb⟩, e3⟩
          refine ⟨rest, (Value.ref bb :: (st.take n).reverse).toArray, e5, ?_⟩
          have hw' := Nat.le_trans (Nat.le_of_eq (ea_wt_ok e5)) hw8
          have hwe : ea_hw P N mj = .code (en_y N mj) (en_b N mj) (ep_nls P mj) (en_r N mj) := by simp only [ea_hw, hh]
          have hrecv : ∃ cellB : Cell, H[bb]? = some cellB ∧ cellB.vm.isStatics = false ∧ s.vm.findClass (en_y N mj).cls = some cellB.cls := by
            obtain ⟨hP, hD, hS, hH⟩ := hW
            obtain ⟨a1, E, g1, g2, g3⟩ := ea_H_get hH ho1
            obtain rfl : bb = a1 := Option.some.inj (hbb.symm.trans g3)
            match E, g1, g2 with
            | .inr (ci', vs'), g1, ⟨e9, _⟩ =>
              obtain rfl : ci' = ep_own P mj := e9.symm.trans (Nat.eq_of_beq_eq_true hbq)
              rw [← hq2]
              exact va_recv hG.1 hP hq1 g1
          exact vx_runV (As := (st.take n).reverse) (b := bb) (C := (en_y N mj).cls) fix hM ⟨⟨rfl, rfl, (ea_room hpr hk hd).1, (ea_room hpr hk hd).2, ea_words hpr hk hts, by rw [hwe]; exact List.mem_cons_self, by rw [← hwe]; exact hts _ hwd, hts _ hinit, hyh, ea_parm hpn, hts _ hlink⟩, hts _ hinst, hts _ hsel⟩
            ⟨ea_blind hpr, hrecv, ea_pre hpr hcx hW _⟩ rfl e2 hsz e1 (lv_room hw') hdg hkk
      · cases hc
    · cases hc
  · -- a method of a String
    rename_i z mj' n hr
    obtain rfl : z = x := by rcases hi with h | h | h <;> cases h; rfl
    split at hc
    · rename_i q9 T' hdr
      cases hbq : Nat.beq ((q9 + 1) % 2) 0 with
      | false => rw [hbq] at hc; cases hc
      | true =>
        rw [hbq] at hc
        cases hc
        obtain ⟨h0, hk, hh, hlink, hinst, hsel, hq2, hpn⟩ := hpool _ _ hr
        obtain ⟨hy, hyh, hwd, hdec, hini', hrk, hinit, hhc, -, hnl⟩ := hpr.1 mj hk
        have hle : n ≤ S.length := by
          have := congrArg List.length hdr
          rw [List.length_drop, List.length_cons] at this
          omega
        obtain ⟨e1, e2, e3, e4⟩ := ea_split hs n hle
        rw [hdr] at e4
        obtain ⟨v4, rest, hst4, hv4, e5⟩ := ea_pop e4
        obtain ⟨rfl, hq9⟩ : v4 = .ref (sx_ad sb (q9 + 1)) ∧ (q9 + 1) / 2 ∈ sb.2.2.2.1 := hv4
        rw [hst4] at e1
        have hM := ea_met (vs := .ref (sx_ad sb (q9 + 1)) :: (st.take n).reverse) hpr hst h0 hk (hg h0 hk) hwa ⟨⟨rfl, hq9⟩, e3⟩
        refine ⟨rest, (Value.ref (sx_ad sb (q9 + 1)) :: (st.take n).reverse).toArray, e5, ?_⟩
        have hw' := Nat.le_trans (Nat.le_of_eq (ea_wt_ok e5)) hw8
        have hwe : ea_hw P N mj = .code (en_y N mj) (en_b N mj) (ep_nls P mj) (en_r N mj) := by simp only [ea_hw, hh]
        have hrecv : ∃ cellB : Cell, H[sx_ad sb (q9 + 1)]? = some cellB ∧ cellB.vm.isStatics = false ∧ s.vm.findClass (en_y N mj).cls = some cellB.cls := by
          rw [(sx_even (sb := sb) hbq).1, hq2]
          obtain ⟨cell, c1, c2, c3, -⟩ := ((hG.2.2.2.2.2.2.2.2.1).2 _ hq9).1.kept hW.2.2.1.2.1
          exact ⟨cell, c1, c2, c3⟩
        exact vx_runV (As := (st.take n).reverse) (b := sx_ad sb (q9 + 1)) (C := (en_y N mj).cls) fix hM ⟨⟨rfl, rfl, (ea_room hpr hk hd).1, (ea_room hpr hk hd).2, ea_words hpr hk hts, by rw [hwe]; exact List.mem_cons_self, by rw [← hwe]; exact hts _ hwd, hts _ hinit, hyh, ea_parm hpn, hts _ hlink⟩, hts _ hinst, hts _ hsel⟩
          ⟨ea_blind hpr, hrecv, ea_pre hpr hcx hW _⟩ rfl e2 hsz e1 (lv_room hw') hdg hkk
    · cases hc
  · cases hc
end EAM
end
section
/-! THE ABSTRACT MACHINE AND THE MACHINE: copies, throws, and the whole -/
section EAS
variable {P : EP} {N : EN} {D : va_G} {A : Nat → Prop} {sb : SB} {l : Launch} {p : Program} {e : Env} {s : State} {m : MethodId} {args : Array Value} {below : List Frame} {meth : Method} {c : Code} {H : Heap} {locs : List Loc} {k w : Nat}
variable {pc : Nat} {ls : Array Slot} {st : List Value} {ws : va_W} {C : List AC}
theorem ea_K2 {cl : List vw_C} (hK : va_K D cl [] s) {t : Nat} {cA cB : ClassId} (h : ea_AT cl s t cA) (h' : ea_AT cl s t cB) : va_K D cl [(cA, ea_ty cl t), (cB, ea_ty cl t)] s := ⟨hK.1, fun k q hq => by
  have hz : k < 2 := (List.getElem?_eq_some_iff.mp hq).1
  rcases (show k = 0 ∨ k = 1 by omega) with rfl | rfl
  · cases hq; exact h
  · cases hq; exact h'⟩
set_option maxHeartbeats 4000000 in
theorem ea_cy_ok (hpr : ea_pr P N) {mi x k1 w1 : Nat} (hmi : mi < en_k N) {u : Nat × Nat} {S T : List AV} {C' : List AC} {Q : State → Prop} (hcx : ea_cx P N D A sb mi p l s m args meth c) (hW : ea_W D (en_cl N) A s sb C ws H locs) {L : List (Nat × AV)} (hl : ea_L (sb, ws.map Prod.fst) (ep_nls P mi) L ls) (hs : ea_rl (ea_gv (sb, ws.map Prod.fst)) S st)
    (hpe : ep_pl P mi x = some (9, u)) (hdg : decode (en_b N mi) pc = .ok (.invokestatic x, 3)) (hp : ea_cy S C = some (T, C')) (hd : 1 ≤ ep_dep P mi)
    (kk : ∀ (st' : List Value) (ws' : va_W) (H' : Heap) (locs' : List Loc), ea_W D (en_cl N) A s sb C' ws' H' locs' → ea_ext ws ws' → ea_L (sb, ws'.map Prod.fst) (ep_nls P mi) L ls → ea_rl (ea_gv (sb, ws'.map Prod.fst)) T st' → W p l e (ea_rm P mi k1 w1) s m args below meth c H' locs' k w Q (F0 m (pc + 3) ls st')) :
    W p l e (ea_rm P mi k1 w1) s m args below meth c H locs k w Q (F0 m pc ls st) := by
  obtain ⟨hexec, hb, hts, hown, hini, hlocks, hret, hml, hex, hG, hst, hX⟩ := id hcx
  obtain ⟨hlink, hnat, hstat, hsys⟩ := (hpr.1 mi hmi).2.2.2.2.2.2.2.2.1 _ _ hpe
  obtain ⟨hP, hD, hS, hH⟩ := hW
  have hsz : ls.size = ep_nls P mi := by obtain ⟨vl, -, h⟩ := hl; exact h.1
  have hnw : nativeFrameWords "java/lang/System" "arraycopy" 5 + 11 ≤ 90 := by decide
  have hro : ∀ z : Nat, z ≤ 8 → z + (nativeFrameWords "java/lang/System" "arraycopy" 5 + 11) ≤ 100 * ep_dep P mi := fun z hz => by omega
  unfold ea_cy at hp
  split at hp
  · rename_i n dp b sp a T0
    split at hp
    · rename_i t n0 d us t1 n1 d1 us1 ho hob
      split at hp
      · rename_i hc
        obtain ⟨rfl, ht2, rfl, hn31, rfl, rfl, rfl, hw8⟩ := hc
        cases hp
        obtain ⟨_, _, rfl, ⟨x1, rfl, h1⟩, hs1⟩ := ea_pop hs
        obtain ⟨_, _, rfl, ⟨x2, rfl, h2⟩, hs2⟩ := ea_pop hs1
        obtain ⟨_, _, rfl, ⟨bb, rfl, hbb⟩, hs3⟩ := ea_pop hs2
        obtain ⟨_, _, rfl, ⟨x4, rfl, h4⟩, hs4⟩ := ea_pop hs3
        obtain ⟨_, _, rfl, ⟨aa, rfl, haa⟩, hs5⟩ := ea_pop hs4
        obtain rfl : x1 = Int32.ofNat n0 := h1
        obtain rfl : x2 = 0 := h2
        obtain rfl : x4 = 0 := h4
        obtain ⟨a1, E, g1, g2, g3⟩ := ea_H_get hH ho
        obtain rfl : aa = a1 := Option.some.inj (haa.symm.trans g3)
        obtain ⟨b1, F, f1, f2, f3⟩ := ea_H_get hH hob
        obtain rfl : bb = b1 := Option.some.inj (hbb.symm.trans f3)
        have hcl : (Int32.ofNat n0).toNatClampNeg = n0 := nI_clamp hn31
        have hnn : ¬ Int32.ofNat n0 < 0 := nI_pos hn31
        have hwt := hro _ (Nat.le_trans (Nat.le_of_eq (ea_wt_ok hs5)) hw8)
        match E, g1, g2, F, f1, f2 with
        | .inl (cA, na, fa), g1, ⟨ea, hata, hka, hca⟩, .inl (cB, nb, fb), f1, ⟨eb, hatb, hkb, hcb⟩ =>
          dsimp only at ea eb hka hkb hca hcb hata hatb
          subst ea
          subst eb
          rcases (show t = 0 ∨ t = 1 by omega) with rfl | rfl
          · obtain ⟨f, rfl⟩ := hka
            obtain ⟨g, rfl⟩ := hkb
            refine va_copyi (ty := .int) hexec hb (hml.trans hsz.symm) hown (hts _ hlink) (hts _ hnat) (hts _ hstat) (hts _ hsys) (ea_K2 hG.1 hata hatb) hP hD hS a b 0 1 g1 f1 rfl rfl rfl (by decide) (by decide) hnn (by rw [hcl, sb_cl0, Nat.zero_add]; exact Nat.le_refl _) (by rw [hcl, sb_cl0, Nat.zero_add]; exact Nat.le_refl _) (fun _ _ => rfl) hd hwt hdg (fun H1 locs1 p1 d1 s1 => ?_)
            refine kk _ _ H1 locs1 ⟨p1, d1, s1, ea_H_set hH f1 ⟨rfl, hatb, ⟨_, rfl⟩, fun j hj => ?_⟩⟩ (fun k q h => by rw [ea_map_set f1]; exact h) (by rw [ea_map_set f1]; exact hl) (by rw [ea_map_set f1]; exact hs5)
            dsimp only
            have := hca j hj
            simp only [ea_cv] at this ⊢
            rw [hcl, sb_cl0, sb_cpy0 hj]
            exact this
          · obtain ⟨f, rfl⟩ := hka
            obtain ⟨g, rfl⟩ := hkb
            refine va_copyl (ty := .long) hexec hb (hml.trans hsz.symm) hown (hts _ hlink) (hts _ hnat) (hts _ hstat) (hts _ hsys) (ea_K2 hG.1 hata hatb) hP hD hS a b 0 1 g1 f1 rfl rfl rfl (by decide) (by decide) hnn (by rw [hcl, sb_cl0, Nat.zero_add]; exact Nat.le_refl _) (by rw [hcl, sb_cl0, Nat.zero_add]; exact Nat.le_refl _) (fun _ _ => rfl) hd hwt hdg (fun H1 locs1 p1 d1 s1 => ?_)
            refine kk _ _ H1 locs1 ⟨p1, d1, s1, ea_H_set hH f1 ⟨rfl, hatb, ⟨_, rfl⟩, fun j hj => ?_⟩⟩ (fun k q h => by rw [ea_map_set f1]; exact h) (by rw [ea_map_set f1]; exact hl) (by rw [ea_map_set f1]; exact hs5)
            dsimp only
            have := hca j hj
            simp only [ea_cv] at this ⊢
            rw [hcl, sb_cl0, pk_cpy_in (Nat.zero_le _) (by rw [Nat.zero_add]; exact hj), Nat.sub_zero, Nat.zero_add]
            exact this
      · cases hp
    · cases hp
  · cases hp
theorem ea_mx_ok {S T : List AV} (h : ea_mx S = some T) : ∃ a b T', S = .inl b :: .inl a :: T' ∧ T = .inl (ea_i2 (fun x y => if x < y then y else x) a b) :: T' := by
  unfold ea_mx at h
  split at h
  · cases h; exact ⟨_, _, _, rfl, rfl⟩
  · cases h
theorem ea_mn_ok {S T : List AV} (h : ea_mn S = some T) : ∃ a b T', S = .inl b :: .inl a :: T' ∧ T = .inl (ea_i2 (fun x y => if y < x then y else x) a b) :: T' := by
  unfold ea_mn at h
  split at h
  · cases h; exact ⟨_, _, _, rfl, rfl⟩
  · cases h
theorem ea_mm_ok (hpr : ea_pr P N) {mi x k1 w1 : Nat} (hmi : mi < en_k N) {S T : List AV} {Q : State → Prop} (hcx : ea_cx P N D A sb mi p l s m args meth c) {L : List (Nat × AV)} (hl : ea_L (sb, ws.map Prod.fst) (ep_nls P mi) L ls) (hs : ea_rl (ea_gv (sb, ws.map Prod.fst)) S st)
    (hdg : decode (en_b N mi) pc = .ok (.invokestatic x, 3)) (hp : ea_mm (ep_pl P mi x) S = some T) (hd : 1 ≤ ep_dep P mi) (hw8 : ea_wt T ≤ 80) (hk : k ≤ k1) (hw : w ≤ w1)
    (kk : ∀ st' : List Value, ea_rl (ea_gv (sb, ws.map Prod.fst)) T st' → W p l e (ea_rm P mi k1 w1) s m args below meth c H locs k w Q (F0 m (pc + 3) ls st')) :
    W p l e (ea_rm P mi k1 w1) s m args below meth c H locs k w Q (F0 m pc ls st) := by
  obtain ⟨hexec, hb, hts, hown, hini, hlocks, hret, hml, hex, hG, hst, hX⟩ := id hcx
  have hsz : ls.size = ep_nls P mi := by obtain ⟨vl, -, h⟩ := hl; exact h.1
  have hpool := (hpr.1 mi hmi).2.2.2.2.2.2.2.2.1
  unfold ea_mm at hp
  split at hp
  · rename_i u hpe
    obtain ⟨w1', w2', w3', w4'⟩ := hpool _ _ hpe
    obtain ⟨a, b, T', rfl, rfl⟩ := ea_mx_ok hp
    obtain ⟨_, _, rfl, ⟨y, rfl, hy⟩, hs1⟩ := ea_pop hs
    obtain ⟨_, _, rfl, ⟨x1, rfl, hx1⟩, hs2⟩ := ea_pop hs1
    have hwt : ea_wt T' ≤ 79 := by
      have h9 : 1 + ea_wt T' ≤ 80 := hw8
      omega
    refine va_mmax hexec hb (hml.trans hsz.symm) hown (hts _ w1') (hts _ w2') (hts _ w3') (hts _ w4') hd ?_ hk hw hdg (kk _ ⟨⟨_, rfl, ea_i2_ok (fun x y => if x < y then y else x) hx1 hy⟩, hs2⟩)
    show _ ≤ 100 * ep_dep P mi
    rw [ea_wt_ok hs2]
    omega
  · rename_i u hpe
    obtain ⟨w1', w2', w3', w4'⟩ := hpool _ _ hpe
    obtain ⟨a, b, T', rfl, rfl⟩ := ea_mn_ok hp
    obtain ⟨_, _, rfl, ⟨y, rfl, hy⟩, hs1⟩ := ea_pop hs
    obtain ⟨_, _, rfl, ⟨x1, rfl, hx1⟩, hs2⟩ := ea_pop hs1
    have hwt : ea_wt T' ≤ 79 := by
      have h9 : 1 + ea_wt T' ≤ 80 := hw8
      omega
    refine va_mmin hexec hb (hml.trans hsz.symm) hown (hts _ w1') (hts _ w2') (hts _ w3') (hts _ w4') hd ?_ hk hw hdg (kk _ ⟨⟨_, rfl, ea_i2_ok (fun x y => if y < x then y else x) hx1 hy⟩, hs2⟩)
    show _ ≤ 100 * ep_dep P mi
    rw [ea_wt_ok hs2]
    omega
  · cases hp
theorem ea_t2_ok (hpr : ea_pr P N) {mi ce y a b : Nat} (hmi : mi < en_k N) (hcx : ea_cx P N D A sb mi p l s m args meth c) (hp : ea_t2 P mi pc y a b = some ce) :
    ∃ x z tx sa ix rx, ec_rx ix rx ∧ decode (en_b N mi) pc = .ok (.new x, 3) ∧ decode (en_b N mi) (pc + 3) = .ok (.dup, 1) ∧ decode (en_b N mi) (pc + a) = .ok (.invokespecial z, 3) ∧ decode (en_b N mi) (pc + b) = .ok (.athrow, 1) ∧ 9 ≤ ep_dep P mi ∧ (∀ q, ∀ x ∈ c.exceptionTable.toList, covers x q = false) ∧
      (Jvm.Cond.classLink (en_y N mi).cls x (en_x N ce)).before args s = true ∧ (Jvm.Cond.initialized (en_x N ce)).before args s = true ∧ vk_R (en_y N mi).cls y tx sa s ∧ Bundle.fit (en_x N ce) = true ∧ (∀ w ∈ ec_at (en_y N mi).cls z (en_x N ce) ix rx (en_up N), w.before args s = true) ∧
      ∀ w ∈ Jvm.Cond.classLink (en_y N mi).cls x (en_x N ce) :: Jvm.Cond.initialized (en_x N ce) :: ec_at (en_y N mi).cls z (en_x N ce) ix rx (en_up N), vx_ot w = true := by
  obtain ⟨hexec, hb, hts, hown, hini, hlocks, hret, hml, hex, hG, hst, hX⟩ := id hcx
  obtain ⟨hy, hyh, hwd, hdec, hini', hrk, hinit, hhc, hpool, hnl⟩ := hpr.1 mi hmi
  unfold ea_t2 at hp
  split at hp
  · rename_i x z h0 h3 h6 h9
    split at hp
    · rename_i ce1 u0 u1 u2 ce2 u3 q1 q2 q3
      cases hbq : (Nat.beq ce1 ce2 && Nat.ble 9 (ep_dep P mi)) with
      | false => rw [hbq] at hp; cases hp
      | true =>
        rw [hbq] at hp
        simp only [cond_true] at hp
        simp only [Bool.and_eq_true] at hbq
        obtain rfl : ce1 = ce2 := Nat.eq_of_beq_eq_true hbq.1
        have hd9 : 9 ≤ ep_dep P mi := Nat.le_of_ble_eq_true hbq.2
        split at hp
        · rename_i hnil
          cases hp
          obtain ⟨hcl, hci, go1, go2⟩ := hpool _ _ q1
          obtain ⟨tx, htx⟩ := hpool _ _ q2
          obtain ⟨hfit, ix, rx, hr, hat⟩ := hpool _ _ q3
          obtain ⟨sa, hsa⟩ := hG.2.2.1 _ htx
          have hempty : ∀ q, ∀ x ∈ c.exceptionTable.toList, covers x q = false := by
            rw [hex]
            unfold ea_hs
            rw [hnil]
            intro q x hx
            cases hx
          refine ⟨x, z, tx, sa, ix, rx, hr, hdec _ _ h0, hdec _ _ h3, hdec _ _ h6, hdec _ _ h9, hd9, hempty, hts _ hcl, hts _ hci, hsa, hfit, fun w hw => ?_, fun w hw => ?_⟩
          · rcases (hat w hw).1 with h | h
            · exact hts _ h
            · rcases hpr.2.2.2.1 w h with ⟨a, b, rfl⟩ | ⟨a, i, x, hh, rfl⟩ | ⟨x, rfl⟩
              · exact va_Nw.use rfl (hG.2.1 _ h)
              · exact va_Nw.use rfl (hG.2.1 _ h)
              · exact va_Nw.use rfl (hG.2.1 _ h)
          · rcases List.mem_cons.mp hw with rfl | hw
            · exact go1
            · rcases List.mem_cons.mp hw with rfl | hw
              · exact go2
              · exact (hat w hw).2
        · cases hp
    · cases hp
  · cases hp
theorem ea_tw_ok (hpr : ea_pr P N) {mi ce : Nat} (hmi : mi < en_k N) {S : List AV} {ws0 : va_W} (hcx : ea_cx P N D A sb mi p l s m args meth c) (hW : ea_W D (en_cl N) A s sb C ws H locs) (hext : ea_ext ws0 ws) {L : List (Nat × AV)} (hl : ea_L (sb, ws.map Prod.fst) (ep_nls P mi) L ls) (hs : ea_rl (ea_gv (sb, ws.map Prod.fst)) S st)
    (hwt : ea_wt S ≤ 100) (hp : ea_tw P mi pc = some ce) :
    W p l e (ea_rm P mi (k + 1) (w + 6)) s m args below meth c H locs k w (vx_MQ below (ea_Qc N D A sb ws0 (.inr ce) C) (ea_XC N D A sb ws0 (.inr ce) C) args s (k + 1) (w + 6) A) (F0 m pc ls st) := by
  obtain ⟨hexec, hb, hts, hown, hini, hlocks, hret, hml, hex, hG, hst, hX⟩ := id hcx
  obtain ⟨hy, hyh, hwd, hdec, hini', hrk, hinit, hhc, hpool, hnl⟩ := hpr.1 mi hmi
  obtain ⟨hP, hD, hS, hH⟩ := hW
  have hsz : ls.size = ep_nls P mi := by obtain ⟨vl, -, h⟩ := hl; exact h.1
  have hup := hpr.2.2.2.2.2.1
  have hxx : ∀ t : State, s.vm.Alike t.vm → H.size ≤ t.heap.size → (∀ q : Nat, q < H.size → t.heap[q]? = H[q]?) → ea_XC N D A sb ws0 (.inr ce) C (en_x N ce) s t := fun t hal hz hk => by
    refine ⟨ws, rfl, hext, ⟨hP.kept (fun k x hx => hk x.1 (hP k x hx).lt), hD, ea_H_moved hal hH⟩, Nat.le_trans hS.1 hz, fun q h1 h2 => ?_⟩
    rw [hk q (Nat.lt_of_lt_of_le h1 hS.1)]
    exact hS.2.1 q h1 h2
  unfold ea_tw at hp
  split at hp
  · rename_i y h4
    obtain ⟨x, z, tx, sa, ix, rx, hr, d0, d3, d6, d9, hd9, hempty, hcl, hci, hsa, hfit, hat, hgo⟩ := ea_t2_ok hpr hmi hcx hp
    refine ec_throwS (own := (en_y N mi).cls) (cls := en_x N ce) (names := en_up N) (A := A) (sa := sa) hexec hb hst hr hown hfit hpr.2.2.2.2.1 hcl hci hsa hat hgo hG.2.2.2.2.2.1 hG.2.2.2.2.2.2.1 hS (hsz.trans hml.symm) d0 d3 (hdec _ _ h4) d6 d9 (hempty _) ?_ ?_ (Nat.le_refl _) (Nat.le_refl _) hlocks hxx hS.2.2 (Nat.le_refl _) (Nat.le_refl _)
    · show (en_up N).length + 3 < ep_dep P mi
      omega
    · show _ ≤ 100 * ep_dep P mi
      rw [ea_wt_ok hs]
      omega
  · rename_i y h4
    obtain ⟨x, z, tx, sa, ix, rx, hr, d0, d3, d6, d9, hd9, hempty, hcl, hci, hsa, hfit, hat, hgo⟩ := ea_t2_ok hpr hmi hcx hp
    refine ec_throwSW (own := (en_y N mi).cls) (cls := en_x N ce) (names := en_up N) (A := A) (sa := sa) hexec hb hst hr hown hfit hpr.2.2.2.2.1 hcl hci hsa hat hgo hG.2.2.2.2.2.1 hG.2.2.2.2.2.2.1 hS (hsz.trans hml.symm) d0 d3 (hdec _ _ h4) d6 d9 (hempty _) ?_ ?_ (Nat.le_refl _) (Nat.le_refl _) hlocks hxx hS.2.2 (Nat.le_refl _) (Nat.le_refl _)
    · show (en_up N).length + 3 < ep_dep P mi
      omega
    · show _ ≤ 100 * ep_dep P mi
      rw [ea_wt_ok hs]
      omega
  · cases hp
end EAS
end
section
/-! THE ABSTRACT MACHINE AND THE MACHINE: whatever it runs to its end, the machine runs so -/
/-- one instruction goes on: the machine does so -/
def ea_goes (P : EP) (N : EN) (D : va_G) (A : Nat → Prop) (sb : SB) (l : Launch) (mi pc : Nat) (L : List (Nat × AV)) (S : List AV) (C : List AC) (k w : Nat) (f : AF) : Prop :=
  k ≤ f.2.2.2.2.1 ∧ w ≤ f.2.2.2.2.2 ∧ ∀ (k1 w1 : Nat) (p : Program) (e : Env) (s : State) (m : MethodId) (args : Array Value) (below : List Frame) (meth : Method) (c : Code) (H : Heap) (locs : List Loc) (ls : Array Slot) (st : List Value) (ws : va_W) (Q : State → Prop), f.2.2.2.2.1 ≤ k1 → f.2.2.2.2.2 ≤ w1 →
    ea_cx P N D A sb mi p l s m args meth c → ea_W D (en_cl N) A s sb C ws H locs → ea_L (sb, ws.map Prod.fst) (ep_nls P mi) L ls → ea_rl (ea_gv (sb, ws.map Prod.fst)) S st →
    (∀ (H' : Heap) (locs' : List Loc) (ls' : Array Slot) (st' : List Value) (ws' : va_W), ea_ext ws ws' → ea_W D (en_cl N) A s sb f.2.2.2.1 ws' H' locs' → ea_L (sb, ws'.map Prod.fst) (ep_nls P mi) f.2.1 ls' → ea_rl (ea_gv (sb, ws'.map Prod.fst)) f.2.2.1 st' → W p l e (ea_rm P mi k1 w1) s m args below meth c H' locs' f.2.2.2.2.1 f.2.2.2.2.2 Q (F0 m f.1 ls' st')) →
    W p l e (ea_rm P mi k1 w1) s m args below meth c H locs k w Q (F0 m pc ls st)
def ea_one (P : EP) (N : EN) (D : va_G) (A : Nat → Prop) (sb : SB) (l : Launch) (mi pc : Nat) (L : List (Nat × AV)) (S : List AV) (C : List AC) (k w : Nat) (x : AF ⊕ AR) : Prop := match x with
  | .inl f => ea_goes P N D A sb l mi pc L S C k w f
  | .inr r => ea_good P N D A sb l mi pc L S C k w r.1 r.2.1 r.2.2.1 r.2.2.2
section EAW
variable {P : EP} {N : EN} {D : va_G} {A : Nat → Prop} {sb : SB} {l : Launch}
theorem ea_good_call (hpr : ea_pr P N) (hst : l.stackTraces = false) {ih : Nat → Nat → List (Nat × AV) → List AV → List AC → Nat → Nat → Option AR}
    (IH : ∀ (mi pc : Nat) (L : List (Nat × AV)) (S : List AV) (C : List AC) (k w : Nat) (o : Option AV ⊕ Nat) (C' : List AC) (k1 w1 : Nat), mi < en_k N → ih mi pc L S C k w = some (o, C', k1, w1) → ea_good P N D A sb l mi pc L S C k w o C' k1 w1)
    {mi pc x k w : Nat} (hmi : mi < en_k N) {i : Instr} (hi : i = .invokestatic x ∨ i = .invokespecial x ∨ i = .invokevirtual x) (hdg : decode (en_b N mi) pc = .ok (i, 3)) {L : List (Nat × AV)} {S : List AV} {C : List AC} {z : AF ⊕ AR}
    (h : ea_q P ih mi pc L S C k w i (ep_pl P mi x) = some z) : ea_one P N D A sb l mi pc L S C k w z := by
  unfold ea_q at h
  split at h
  · rename_i mj as T b hc
    cases hb : (Nat.blt (ep_dep P mj) (ep_dep P mi) && (Nat.ble (ea_wt T) 8 && Nat.ble (ea_wt as) (ep_nls P mj))) with
    | false => rw [hb] at h; cases h
    | true =>
      rw [hb] at h
      simp only [cond_true] at h
      simp only [Bool.and_eq_true] at hb
      obtain ⟨hd0, hw8, hwa⟩ := hb
      have hd : ep_dep P mj < ep_dep P mi := Nat.le_of_ble_eq_true hd0
      have hw8 := Nat.le_of_ble_eq_true hw8
      have hwa := Nat.le_of_ble_eq_true hwa
      split at h
      · -- it comes back
        rename_i v C1 dk dw hcal
        rw [ea_fn_eq, ea_fn_eq, ea_fn_eq] at h
        cases h
        refine ⟨Nat.le_add_right _ _, Nat.le_add_right _ _, fun k1 w1 p e s m args below meth c H locs ls st ws Q hk1 hw1 hcx hW hl hs kk => ?_⟩
        obtain ⟨rest, a, hrest, hrun⟩ := ea_run (e := e) (below := below) (k := k) (w := w) (k1 := k1) (w1 := w1) hpr hmi hcx hW hl hs hi hdg hc (fun _ => ⟨v, rfl⟩) hd hw8 hwa ⟨hk1, hw1⟩ (fun h0 hk => IH _ _ _ _ _ _ _ _ _ _ _ hk hcal)
        refine ea_after hrun hW.2.2.1 (fun ov ho ws' v' H1 locs1 hW1 hext1 hrv => ?_) (fun ce ho => by cases ho)
        cases ho
        refine kk H1 locs1 ls _ ws' hext1 hW1 (ea_L_mono (ea_ext_p hext1 sb) hl) ?_
        have hrest' := ea_rl_mono (fun _ _ h => ea_gv_mono (ea_ext_p hext1 sb) h) hrest
        cases v with
        | none =>
          obtain rfl : v' = none := hrv
          exact hrest'
        | some a =>
          obtain ⟨x, rfl, hx⟩ := hrv
          exact ⟨hx, hrest'⟩
      · -- it throws
        rename_i ce C1 dk dw hcal
        cases b with
        | false => cases h
        | true =>
          simp only [cond_true] at h
          rw [ea_fn_eq, ea_fn_eq] at h
          obtain ⟨hy, hyh, hwd, hdec, hini', hrk, hinit, hhc, hpool, hnl⟩ := hpr.1 mi hmi
          split at h
          · -- caught here
            rename_i hpc hhd
            cases h
            refine ⟨Nat.le_add_right _ _, Nat.le_add_right _ _, fun k1 w1 p e s m args below meth c H locs ls st ws Q hk1 hw1 hcx hW hl hs kk => ?_⟩
            obtain ⟨rest, a, hrest, hrun⟩ := ea_run (e := e) (below := below) (k := k) (w := w) (k1 := k1) (w1 := w1) hpr hmi hcx hW hl hs hi hdg hc (fun q => by cases q) hd hw8 hwa ⟨hk1, hw1⟩ (fun h0 hk => IH _ _ _ _ _ _ _ _ _ _ _ hk hcal)
            refine ea_after hrun hW.2.2.1 (fun ov ho => by cases ho) (fun ce' ho ws' q cell H1 locs1 hW1 hext1 hq hv hcl => ?_)
            cases ho
            obtain ⟨hexec, hb, hts, hown, hini, hlocks, hret, hml, hex, hG, hst', hX⟩ := id hcx
            obtain ⟨pre, r, suf, e1, e2, e3, e4, e5, e6⟩ := ea_hd_some hhd
            have hr : r ∈ ep_hdl P mi := by rw [e1]; simp
            refine ec_catch (own := (en_y N mi).cls) (name := en_x N r.2.2.2.1) hown (tableOf (pre.map (fun q => (q.1, q.2.1, q.2.2.1, q.2.2.2.2)))) ⟨r.1, r.2.1, r.2.2.1, r.2.2.2.2⟩ (tableOf (suf.map (fun q => (q.1, q.2.1, q.2.2.1, q.2.2.2.2)))) ?_ ?_ ?_ (hhc r hr).1 (hts _ (hhc r hr).2) (va_Nw.use rfl (hG.2.1 _ (hpr.2.2.2.2.2.2.2.1 _ _ e5))) hq hv hcl ?_
            · rw [hex]
              unfold ea_hs
              rw [e1]
              simp [tableOf]
            · intro z hz
              simp only [tableOf, List.map_map, List.mem_map, Function.comp] at hz
              obtain ⟨y, hy1, rfl⟩ := hz
              by_cases hcov : y.1 ≤ pc ∧ pc < y.2.1
              · have hno : ep_sub P ce y.2.2.2.1 = false := by
                  cases hsb : ep_sub P ce y.2.2.2.1 with
                  | false => rfl
                  | true => exact absurd ⟨hcov.1, hcov.2, hsb⟩ (e2 y hy1)
                have hy2 : y ∈ ep_hdl P mi := by rw [e1]; exact List.mem_append_left _ hy1
                exact Or.inr ⟨(hhc y hy2).1, en_x N y.2.2.2.1, hts _ (hhc y hy2).2, hG.2.2.2.2.1 _ _ hno⟩
              · refine Or.inl ?_
                simp only [covers, Bool.and_eq_false_iff, decide_eq_false_iff_not]
                by_cases h1 : y.1 ≤ pc
                · exact Or.inr (fun h2 => hcov ⟨h1, h2⟩)
                · exact Or.inl h1
            · simp [covers, e3, e4]
            · dsimp only
              rw [e6]
              exact kk H1 locs1 ls _ ws' hext1 hW1 (ea_L_mono (ea_ext_p hext1 sb) hl) ⟨⟨q, rfl⟩, trivial⟩
          · -- not caught here
            rename_i hhd
            cases h
            refine ⟨Nat.le_add_right _ _, Nat.le_add_right _ _, fun p e s m args below meth c H locs ls st ws ws0 hcx hW hext hl hs => ?_⟩
            obtain ⟨rest, a, hrest, hrun⟩ := ea_run (e := e) (below := below) (k := k) (w := w) (k1 := k + dk) (w1 := w + dw) hpr hmi hcx hW hl hs hi hdg hc (fun q => by cases q) hd hw8 hwa ⟨by omega, by omega⟩ (fun h0 hk => IH _ _ _ _ _ _ _ _ _ _ _ hk hcal)
            refine ea_after hrun hW.2.2.1 (fun ov ho => by cases ho) (fun ce' ho ws' q cell H1 locs1 hW1 hext1 hq hv hcl => ?_)
            cases ho
            obtain ⟨hexec, hb, hts, hown, hini, hlocks, hret, hml, hex, hG, hst', hX⟩ := id hcx
            obtain ⟨hP1, hD1, hS1, hH1⟩ := hW1
            refine ec_out (own := (en_y N mi).cls) hown hlocks ?_ hq hv hcl (fun t ht hal => ⟨ws', rfl, ea_ext_t hext hext1, ⟨by rw [ht]; exact hP1, hD1, ea_H_moved hal hH1⟩, hS1.F ht⟩) hS1.2.2 (Nat.le_refl _) (Nat.le_refl _)
            intro z hz
            rw [hex] at hz
            simp only [ea_hs, tableOf, List.map_map, List.mem_map, Function.comp] at hz
            obtain ⟨y, hy1, rfl⟩ := hz
            by_cases hcov : y.1 ≤ pc ∧ pc < y.2.1
            · have hno : ep_sub P ce y.2.2.2.1 = false := by
                cases hsb : ep_sub P ce y.2.2.2.1 with
                | false => rfl
                | true => exact absurd ⟨hcov.1, hcov.2, hsb⟩ (ea_hd_none hhd y hy1)
              exact Or.inr ⟨(hhc y hy1).1, en_x N y.2.2.2.1, hts _ (hhc y hy1).2, hG.2.2.2.2.1 _ _ hno⟩
            · refine Or.inl ?_
              simp only [covers, Bool.and_eq_false_iff, decide_eq_false_iff_not]
              by_cases h1 : y.1 ≤ pc
              · exact Or.inr (fun h2 => hcov ⟨h1, h2⟩)
              · exact Or.inl h1
      · cases h
  · cases h
set_option maxHeartbeats 4000000 in
theorem ea_1_ok (hpr : ea_pr P N) (hst : l.stackTraces = false) {ih : Nat → Nat → List (Nat × AV) → List AV → List AC → Nat → Nat → Option AR}
    (IH : ∀ (mi pc : Nat) (L : List (Nat × AV)) (S : List AV) (C : List AC) (k w : Nat) (o : Option AV ⊕ Nat) (C' : List AC) (k1 w1 : Nat), mi < en_k N → ih mi pc L S C k w = some (o, C', k1, w1) → ea_good P N D A sb l mi pc L S C k w o C' k1 w1)
    {mi pc : Nat} {L : List (Nat × AV)} {S : List AV} {C : List AC} {k w : Nat} {z : AF ⊕ AR} (hmi : mi < en_k N) (h : ea_1 P ih mi pc L S C k w = some z) : ea_one P N D A sb l mi pc L S C k w z := by
  obtain ⟨hy, hyh, hwd, hdec, hini', hrk, hinit, hhc, hpool, hnl⟩ := hpr.1 mi hmi
  unfold ea_1 at h
  split at h
  · cases h
  · rename_i i len hcod
    have hdg := hdec _ _ hcod
    cases hle : (Nat.beq (ea_len i) 0 || Nat.beq (ea_len i) len) with
    | false => rw [hle] at h; cases h
    | true =>
      rw [hle] at h
      simp only [cond_true] at h
      have hlen : ea_len i = 0 ∨ ea_len i = len := by
        rcases Bool.or_eq_true _ _ ▸ hle with q | q
        · exact Or.inl (Nat.eq_of_beq_eq_true q)
        · exact Or.inr (Nat.eq_of_beq_eq_true q)
      split at h
      · -- no cell is touched
        rename_i pc' L' S' hp
        rw [ea_fn_eq, ea_fL_eq, ea_fS_eq] at h
        cases h
        refine ⟨Nat.le_refl _, Nat.le_refl _, fun k1 w1 p e s m args below meth c H locs ls st ws Q hk1 hw1 hcx hW hl hs kk => ?_⟩
        exact ea_p_ok hcx.1 hcx.2.1 hdg hlen hp hl hs (fun ls' st' hl' hs' => kk H locs ls' st' ws (ea_ext_r ws) hW hl' hs')
      · split at h
        · -- cells
          rename_i pc' S' C1 dk dw hp
          rw [ea_fn_eq, ea_fS_eq, ea_fn_eq, ea_fn_eq] at h
          obtain rfl : Sum.inl (pc', L, S', C1.getD C, k + dk, w + dw) = z := by
            cases C1 with
            | none => exact Option.some.inj h
            | some C1 => dsimp only at h; rw [ea_fL_eq] at h; exact Option.some.inj h
          refine ⟨Nat.le_add_right _ _, Nat.le_add_right _ _, fun k1 w1 p e s m args below meth c H locs ls st ws Q hk1 hw1 hcx hW hl hs kk => ?_⟩
          obtain ⟨hexec, hb, hts, hown, hini, hlocks, hret, hml, hex, hG, hst', hX⟩ := id hcx
          exact ea_h_ok hexec hb hts hown hini hG.1 hG.2.2.2.2.2.2.2.1 hpr.2.1 (fun x r hr => ea_po_of hG (hpool x r hr)) hpr.2.2.2.2.2.2.1 hX (fun x r hr => ea_pz_of hG (hpool x r hr)) hG.2.2.2.2.2.2.2.2.1 hdg hlen hp hW hl hs hk1 hw1 (fun st' ws' H' locs' hext' hW' hl' hs' => kk H' locs' ls st' ws' hext' hW' hl' hs')
        · split at h
          · -- the end
            rename_i v hv
            cases h
            exact ⟨Nat.le_refl _, Nat.le_refl _, fun p e s m args below meth c H locs ls st ws ws0 hcx hW hext hl hs => ea_rt_ok hcx hrk hdg hlen hv hW hext hs⟩
          · cases i with
            | invokespecial x =>
              dsimp only at h
              obtain rfl : 3 = len := by simpa [ea_len] using hlen
              split at h
              · rename_i T hoi
                obtain ⟨u, a, hpe, rfl⟩ := ea_oi_ok hoi
                cases hbb : (Nat.ble (ea_wt T) 8 && Nat.ble 1 (ep_dep P mi)) with
                | false => rw [hbb] at h; cases h
                | true =>
                  rw [hbb] at h
                  simp only [cond_true] at h
                  simp only [Bool.and_eq_true] at hbb
                  rw [ea_fn_eq] at h
                  cases h
                  refine ⟨Nat.le_refl _, Nat.le_refl _, fun k1 w1 p e s m args below meth c H locs ls st ws Q hk1 hw1 hcx hW hl hs kk => ?_⟩
                  obtain ⟨hexec, hb, hts, hown, hini, hlocks, hret, hml, hex, hG, hst', hX⟩ := id hcx
                  obtain ⟨q1, q2, q3⟩ := hpool _ _ hpe
                  obtain ⟨_, _, rfl, ⟨aa, rfl, haa⟩, hs1⟩ := ea_pop hs
                  have hsz : ls.size = ep_nls P mi := by obtain ⟨vl, -, h⟩ := hl; exact h.1
                  have hd1 : 1 ≤ ep_dep P mi := Nat.le_of_ble_eq_true hbb.2
                  refine W.objInit hexec hb hown (hts _ q1) (hts _ q2) (hts _ q3) rfl (hsz.trans hml.symm) rfl hdg hd1 ?_ (kk H locs ls _ ws (ea_ext_r ws) hW hl hs1)
                  show 2 * 0 + _ + 12 ≤ 100 * ep_dep P mi
                  rw [ea_wt_ok hs1]
                  have := Nat.le_of_ble_eq_true hbb.1
                  omega
              · exact ea_good_call hpr hst IH hmi (Or.inr (Or.inl rfl)) hdg h
            | invokestatic x =>
              dsimp only at h
              obtain rfl : 3 = len := by simpa [ea_len] using hlen
              split at h
              · rename_i T hmm
                cases hbb : (Nat.ble (ea_wt T) 80 && Nat.ble 1 (ep_dep P mi)) with
                | false => rw [hbb] at h; cases h
                | true =>
                  rw [hbb] at h
                  simp only [cond_true] at h
                  rw [ea_fn_eq, ea_fS_eq] at h
                  cases h
                  simp only [Bool.and_eq_true] at hbb
                  refine ⟨Nat.le_refl _, Nat.le_refl _, fun k1 w1 p e s m args below meth c H locs ls st ws Q hk1 hw1 hcx hW hl hs kk => ?_⟩
                  exact ea_mm_ok hpr hmi hcx hl hs hdg hmm (Nat.le_of_ble_eq_true hbb.2) (Nat.le_of_ble_eq_true hbb.1) hk1 hw1 (fun st' hs' => kk H locs ls st' ws (ea_ext_r ws) hW hl hs')
              · cases h9 : ea_is9 (ep_pl P mi x) with
                | true =>
                  obtain ⟨u, hpe⟩ := ea_is9_ok h9
                  rw [h9] at h
                  simp only [cond_true] at h
                  split at h
                  · rename_i T C1 hcy
                    cases hbb : Nat.ble 1 (ep_dep P mi) with
                    | false => rw [hbb] at h; cases h
                    | true =>
                      rw [hbb] at h
                      simp only [cond_true] at h
                      rw [ea_fn_eq, ea_fL_eq] at h
                      cases h
                      refine ⟨Nat.le_refl _, Nat.le_refl _, fun k1 w1 p e s m args below meth c H locs ls st ws Q hk1 hw1 hcx hW hl hs kk => ?_⟩
                      exact ea_cy_ok hpr hmi hcx hW hl hs hpe hdg hcy (Nat.le_of_ble_eq_true hbb) (fun st' ws' H' locs' hW' hext' hl' hs' => kk H' locs' ls st' ws' hext' hW' hl' hs')
                  · cases h
                | false =>
                  rw [h9] at h
                  simp only [cond_false] at h
                  exact ea_good_call hpr hst IH hmi (Or.inl rfl) hdg h
            | invokevirtual x =>
              dsimp only at h
              obtain rfl : 3 = len := by simpa [ea_len] using hlen
              exact ea_good_call hpr hst IH hmi (Or.inr (Or.inr rfl)) hdg h
            | new x =>
              dsimp only at h
              cases hbb : Nat.ble (ea_wt S) 100 with
              | false => rw [hbb] at h; cases h
              | true =>
                rw [hbb] at h
                simp only [cond_true] at h
                split at h
                · rename_i ce htw
                  cases h
                  exact ⟨Nat.le_add_right _ _, Nat.le_add_right _ _, fun p e s m args below meth c H locs ls st ws ws0 hcx hW hext hl hs => ea_tw_ok hpr hmi hcx hW hext hl hs (Nat.le_of_ble_eq_true hbb) htw⟩
                · cases h
            | _ => cases h
theorem ea_main (hpr : ea_pr P N) (hst : l.stackTraces = false) (n : Nat) : ∀ (mi pc : Nat) (L : List (Nat × AV)) (S : List AV) (C : List AC) (k w : Nat) (o : Option AV ⊕ Nat) (C' : List AC) (k1 w1 : Nat), mi < en_k N → ea_x P n mi pc L S C k w = some (o, C', k1, w1) → ea_good P N D A sb l mi pc L S C k w o C' k1 w1 := by
  induction n with
  | zero => intro mi pc L S C k w o C' k1 w1 _ h; cases h
  | succ n IH =>
    intro mi pc L S C k w o C' k1 w1 hmi hx
    have h : ea_b P (ea_x P n) mi pc L S C k w = some (o, C', k1, w1) := hx
    clear hx
    unfold ea_b at h
    split at h
    · rename_i pc' L' S' C2 k' w' h1
      obtain ⟨j1, j2, j3⟩ : ea_goes P N D A sb l mi pc L S C k w (pc', L', S', C2, k', w') := ea_1_ok hpr hst IH hmi h1
      obtain ⟨i1, i2, i3⟩ := IH _ _ _ _ _ _ _ _ _ _ _ hmi h
      dsimp only at j1 j2 j3
      refine ⟨Nat.le_trans j1 i1, Nat.le_trans j2 i2, fun p e s m args below meth c H locs ls st ws ws0 hcx hW hext hl hs => ?_⟩
      exact j3 k1 w1 p e s m args below meth c H locs ls st ws _ i1 i2 hcx hW hl hs (fun H' locs' ls' st' ws' hext' hW' hl' hs' => i3 p e s m args below meth c H' locs' ls' st' ws' ws0 hcx hW' (ea_ext_t hext hext') hl' hs')
    · rename_i r h1
      cases h
      exact ea_1_ok hpr hst IH hmi h1
    · cases h
/-- up to a place -/
theorem ea_upto (hpr : ea_pr P N) (hst : l.stackTraces = false) {cc mi stop : Nat} (hmi : mi < en_k N) (n : Nat) : ∀ (pc : Nat) (L : List (Nat × AV)) (S : List AV) (C : List AC) (k w : Nat) (f : AF), ea_y P cc mi stop n pc L S C k w = some f → f.1 = stop ∧ ea_goes P N D A sb l mi pc L S C k w f := by
  induction n with
  | zero => intro pc L S C k w f h; cases h
  | succ n IH =>
    intro pc L S C k w f hx
    have h : (bif Nat.beq pc stop then some (pc, L, S, C, k, w) else match ea_1 P (ea_x P cc) mi pc L S C k w with
      | some (.inl (pc, L, S, C, k, w)) => ea_y P cc mi stop n pc L S C k w
      | _ => none) = some f := hx
    clear hx
    cases hb : Nat.beq pc stop with
    | true =>
      rw [hb] at h
      cases h
      exact ⟨Nat.eq_of_beq_eq_true hb, Nat.le_refl _, Nat.le_refl _, fun k1 w1 p e s m args below meth c H locs ls st ws Q _ _ hcx hW hl hs kk => kk H locs ls st ws (ea_ext_r ws) hW hl hs⟩
    | false =>
      rw [hb] at h
      simp only [cond_false] at h
      split at h
      · rename_i pc' L' S' C2 k' w' h1
        obtain ⟨j1, j2, j3⟩ : ea_goes P N D A sb l mi pc L S C k w (pc', L', S', C2, k', w') := ea_1_ok hpr hst (ea_main hpr hst cc) hmi h1
        obtain ⟨i0, i1, i2, i3⟩ := IH _ _ _ _ _ _ _ h
        dsimp only at j1 j2 j3
        refine ⟨i0, Nat.le_trans j1 i1, Nat.le_trans j2 i2, fun k1 w1 p e s m args below meth c H locs ls st ws Q hk1 hw1 hcx hW hl hs kk => ?_⟩
        exact j3 k1 w1 p e s m args below meth c H locs ls st ws _ (Nat.le_trans i1 hk1) (Nat.le_trans i2 hw1) hcx hW hl hs (fun H' locs' ls' st' ws' hext' hW' hl' hs' => i3 k1 w1 p e s m args below meth c H' locs' ls' st' ws' Q hk1 hw1 hcx hW' hl' hs' (fun H2 locs2 ls2 st2 ws2 hext2 hW2 hl2 hs2 => kk H2 locs2 ls2 st2 ws2 (ea_ext_t hext' hext2) hW2 hl2 hs2))
      · cases h
end EAW
end
section
/-! THE LAW: a walk of its own method, where a branch on what is not known goes both ways -/
def ea_ir (q : Option (Instr × Nat)) : Bool := match q with
  | some (.ireturn, 1) => true
  | _ => false
theorem ea_ir_ok {q : Option (Instr × Nat)} (h : ea_ir q = true) : q = some (.ireturn, 1) := by
  unfold ea_ir at h
  split at h
  · rfl
  · cases h
/-- the law's end: 1 on the stack, within the room -/
def ea_e1 (K V : Nat) (S : List AV) (k w : Nat) : Bool := match S with
  | [.inl (.inl x)] => Nat.beq x.toUInt32.toNat 1 && (Nat.ble k K && Nat.ble w V)
  | _ => false
/-- a branch on what is not known -/
def ea_br (q : Option (Instr × Nat)) (pc : Nat) (S : List AV) : Option (Nat × List AV) := match q, S with
  | some (.ifCond _ off, 3), .inl _ :: T => match ea_to pc off with
    | some t => some (t, T)
    | none => none
  | _, _ => none
def ea_v (P : EP) (cal : Nat → Nat → List (Nat × AV) → List AV → List AC → Nat → Nat → Option AR) (K V : Nat) (n : Nat) : Nat → List (Nat × AV) → List AV → List AC → Nat → Nat → Bool := Nat.rec (fun _ _ _ _ _ _ => false) (fun _ ih pc L S C k w =>
  bif ea_ir (ep_cod P 0 pc) then ea_e1 K V S k w else match ea_1 P cal 0 pc L S C k w with
  | some (.inl (pc, L, S, C, k, w)) => ih pc L S C k w
  | some (.inr _) => false
  | none => match ea_br (ep_cod P 0 pc) pc S with
    | some (t, T) => ih t L T C k w && ih (pc + 3) L T C k w
    | none => false) n
/-- the script cut at hints, where the walk asks it -/
def ea_bx (f : List AI → Bool) (hs : List (Nat × Int)) (X : List AI) : Bool := match hs with
  | [] => f X
  | q :: t => bif f X then true else match ea_nt X q.1 with
    | some i => bif decide (ea_lo i < q.2) && decide (q.2 ≤ ea_hi i) then ea_bx f t (X.set q.1 (ea_mk (ea_lo i) (q.2 - 1))) && ea_bx f t (X.set q.1 (ea_mk q.2 (ea_hi i))) else ea_bx f t X
    | none => false
theorem ea_br_ok {q : Option (Instr × Nat)} {pc : Nat} {S : List AV} {t : Nat} {T : List AV} (h : ea_br q pc S = some (t, T)) : ∃ c off a, q = some (.ifCond c off, 3) ∧ S = .inl a :: T ∧ ea_to pc off = some t := by
  unfold ea_br at h
  split at h
  · split at h
    · rename_i ht
      cases h
      exact ⟨_, _, _, rfl, rfl, ht⟩
    · cases h
  · cases h
def ea_Z (K V : Nat) (below : List Frame) (s : State) : State → Prop := fun t => ∃ o, t.status = .running ∧ Ended t below o ∧ o = .returned (some (.int 1)) ∧ Framed s o t [] K V
theorem ea_ret1 {p : Program} {l : Launch} {e : Env} {R : Room} {s : State} {m : MethodId} {args : Array Value} {below : List Frame} {meth : Method} {c : Code} {cc : ByteArray} {K V : Nat} (hx : p.tables.exec = Jvm.exec) (hb : c.code = cc) (hr : meth.sig.returnType = some .boolean) (hlocks : meth.locks = false) {pc : Nat} {H : Heap} {ls : Array Slot} (hdg : decode cc pc = .ok (.ireturn, 1)) : W p l e R s m args below meth c H [] K V (ea_Z K V below s) (F0 m pc ls [.int 1]) := by
  intro T hT X
  obtain ⟨fs, hret, hrun, hended, hW, hframe⟩ := X.leave (v := some (.int 1)) (hlocks := hlocks) (fun h => by rw [hr] at h; cases h)
  have hmeth' : T.vm.method? m = some meth := X.method'
  refine ⟨T.setFrames fs, ?_, .returned (some (.int 1)), hrun, hended, rfl, ⟨_, rfl⟩, hW, hframe⟩
  jvm_step X.here [X.here.top, hx, hb, hdg, hmeth', hr, narrow_b1]
  (try refine ⟨rfl, ?_⟩); (try refine ⟨rfl, ?_⟩)
  first | (intro acts; rw [hret _ acts rfl rfl rfl]) | rw [hret _ _ rfl rfl rfl]
  exact Steps.refl _
theorem ea_v_ok {P : EP} {N : EN} {D : va_G} {A : Nat → Prop} {sb : SB} {l : Launch} (hpr : ea_pr P N) (hst : l.stackTraces = false) (h0 : 0 < en_k N) (hr0 : en_r N 0 = some .boolean) {cal : Nat → Nat → List (Nat × AV) → List AV → List AC → Nat → Nat → Option AR}
    (hcal : ∀ (mi pc : Nat) (L : List (Nat × AV)) (S : List AV) (C : List AC) (k w : Nat) (o : Option AV ⊕ Nat) (C' : List AC) (k1 w1 : Nat), mi < en_k N → cal mi pc L S C k w = some (o, C', k1, w1) → ea_good P N D A sb l mi pc L S C k w o C' k1 w1) {K V : Nat} (n : Nat) : ∀ (pc : Nat) (L : List (Nat × AV)) (S : List AV) (C : List AC) (k w : Nat), ea_v P cal K V n pc L S C k w = true →
    k ≤ K ∧ w ≤ V ∧ ∀ (p : Program) (e : Env) (s : State) (m : MethodId) (args : Array Value) (below : List Frame) (meth : Method) (c : Code) (H : Heap) (locs : List Loc) (ls : Array Slot) (st : List Value) (ws : va_W), (∀ q, A q → s.heap.size ≤ q) →
      ea_cx P N D A sb 0 p l s m args meth c → ea_W D (en_cl N) A s sb C ws H locs → ea_L (sb, ws.map Prod.fst) (ep_nls P 0) L ls → ea_rl (ea_gv (sb, ws.map Prod.fst)) S st →
      W p l e (ea_rm P 0 K V) s m args below meth c H locs k w (ea_Z K V below s) (F0 m pc ls st) := by
  induction n with
  | zero => intro pc L S C k w h; cases h
  | succ n IH =>
    intro pc L S C k w hx
    have h : (bif ea_ir (ep_cod P 0 pc) then ea_e1 K V S k w else match ea_1 P cal 0 pc L S C k w with
      | some (.inl (pc, L, S, C, k, w)) => ea_v P cal K V n pc L S C k w
      | some (.inr _) => false
      | none => match ea_br (ep_cod P 0 pc) pc S with
        | some (t, T) => ea_v P cal K V n t L T C k w && ea_v P cal K V n (pc + 3) L T C k w
        | none => false) = true := hx
    clear hx
    have hdec := (hpr.1 0 h0).2.2.2.1
    cases hi : ea_ir (ep_cod P 0 pc) with
    | true =>
      rw [hi] at h
      have hd := hdec _ _ (ea_ir_ok hi)
      simp only [cond_true] at h
      unfold ea_e1 at h
      split at h
      · rename_i x
        simp only [Bool.and_eq_true] at h
        obtain ⟨g1, g2, g3⟩ := h
        have hk := Nat.le_of_ble_eq_true g2
        have hw := Nat.le_of_ble_eq_true g3
        have hx1 : x = 1 := by
          have e1 : x.toUInt32.toNat = 1 := Nat.eq_of_beq_eq_true g1
          have e2 : x.toUInt32 = 1 := UInt32.toNat_inj.mp (by rw [e1]; rfl)
          rw [← Int32.toInt32_toUInt32 x, e2]; rfl
        refine ⟨hk, hw, fun p e s m args below meth c H locs ls st ws hA hcx hW hl hs => ?_⟩
        obtain ⟨_, _, rfl, ⟨y, rfl, hy⟩, hs1⟩ := ea_pop hs
        obtain rfl := ea_rl_nil hs1
        obtain rfl : y = x := hy
        subst hx1
        refine va_forget (fun q hq => hA _ (hW.2.2.1.2.2 q hq)) (W.widen hk hw ?_)
        exact ea_ret1 hcx.1 hcx.2.1 (hcx.2.2.2.2.2.2.1.trans hr0) hcx.2.2.2.2.2.1 hd
      · cases h
    | false =>
      rw [hi] at h
      simp only [cond_false] at h
      split at h
      · rename_i pc' L' S' C2 k' w' h1
        obtain ⟨j1, j2, j3⟩ : ea_goes P N D A sb l 0 pc L S C k w (pc', L', S', C2, k', w') := ea_1_ok hpr hst hcal h0 h1
        obtain ⟨i1, i2, i3⟩ := IH _ _ _ _ _ _ h
        dsimp only at j1 j2 j3
        refine ⟨Nat.le_trans j1 i1, Nat.le_trans j2 i2, fun p e s m args below meth c H locs ls st ws hA hcx hW hl hs => ?_⟩
        exact j3 K V p e s m args below meth c H locs ls st ws _ i1 i2 hcx hW hl hs (fun H' locs' ls' st' ws' hext' hW' hl' hs' => i3 p e s m args below meth c H' locs' ls' st' ws' hA hcx hW' hl' hs')
      · cases h
      · split at h
        · rename_i t T hbr
          simp only [Bool.and_eq_true] at h
          obtain ⟨cnd, off, a, hc, rfl, ht⟩ := ea_br_ok hbr
          have hd := hdec _ _ hc
          obtain ⟨i1, i2, i3⟩ := IH _ _ _ _ _ _ h.1
          obtain ⟨_, _, j3⟩ := IH _ _ _ _ _ _ h.2
          refine ⟨i1, i2, fun p e s m args below meth c H locs ls st ws hA hcx hW hl hs => ?_⟩
          obtain ⟨_, _, rfl, ⟨y, rfl, hy⟩, hs1⟩ := ea_pop hs
          have r1 := i3 p e s m args below meth c H locs ls _ ws hA hcx hW hl hs1
          have r2 := j3 p e s m args below meth c H locs ls _ ws hA hcx hW hl hs1
          cases cnd with
          | eq => exact lv_if_eq hcx.1 hcx.2.1 hd (ea_to_ok ht) (fun _ => r1) (fun _ => r2)
          | ne => exact lv_if_ne hcx.1 hcx.2.1 hd (ea_to_ok ht) (fun _ => r1) (fun _ => r2)
          | lt => exact lv_if_lt hcx.1 hcx.2.1 hd (ea_to_ok ht) (fun _ => r1) (fun _ => r2)
          | ge => exact lv_if_ge hcx.1 hcx.2.1 hd (ea_to_ok ht) (fun _ => r1) (fun _ => r2)
          | gt => exact lv_if_gt hcx.1 hcx.2.1 hd (ea_to_ok ht) (fun _ => r1) (fun _ => r2)
          | le => exact lv_if_le hcx.1 hcx.2.1 hd (ea_to_ok ht) (fun _ => r1) (fun _ => r2)
        · cases h
/-- more room -/
theorem ea_wider {p : Program} {l : Launch} {e : Env} {R R' : Room} {s : State} {m : MethodId} {args : Array Value} {below : List Frame} {meth : Method} {c : Code} {H : Heap} {locs : List Loc} {k w : Nat} {Q : State → Prop} {g : JFrame} (hR : R.frames ≤ R'.frames ∧ R.cells ≤ R'.cells ∧ R.slots ≤ R'.slots ∧ R.locals ≤ R'.locals) (kk : W p l e R s m args below meth c H locs k w Q g) : W p l e R' s m args below meth c H locs k w Q g := by
  intro T hT X
  have hr : s.hasRoom e.platform R = true := by
    have h := X.room
    simp only [State.hasRoom, Bool.and_eq_true, decide_eq_true_eq] at h ⊢
    obtain ⟨⟨⟨⟨h1, h2⟩, h3⟩, h4⟩, h5⟩ := h
    refine ⟨⟨⟨⟨by omega, ?_⟩, by omega⟩, by omega⟩, h5⟩
    omega
  exact kk T hT ⟨X.admits, X.cas, X.clock, X.frames, hr, X.hears, X.method, X.code, X.here, X.tail, X.warmed, X.limits, X.bytes, X.same⟩
/-- cuts of the script: one of them holds -/
theorem ea_bx_ok (f : List AI → Bool) (xs : Nat → Int32) : ∀ (hs : List (Nat × Int)) (X : List AI), (∀ j v, X[j]? = some v → ea_gi v (xs j)) → ea_bx f hs X = true → ∃ X', f X' = true ∧ X'.length = X.length ∧ ∀ j v, X'[j]? = some v → ea_gi v (xs j)
  | [], X, hX, h => ⟨X, h, rfl, hX⟩
  | q :: t, X, hX, h => by
    unfold ea_bx at h
    cases hf : f X with
    | true => exact ⟨X, hf, rfl, hX⟩
    | false =>
      rw [hf] at h
      simp only [cond_false] at h
      split at h
      · rename_i i hi
        rw [ea_nt_eq] at hi
        have hxi := hX _ _ hi
        have hb := ea_bd hxi
        cases hc : (decide (ea_lo i < q.2) && decide (q.2 ≤ ea_hi i)) with
        | true =>
          rw [hc] at h
          simp only [cond_true, Bool.and_eq_true] at h
          have key : ∀ u : AI, ea_gi u (xs q.1) → ∀ j v, (X.set q.1 u)[j]? = some v → ea_gi v (xs j) := by
            intro u hu j v hv
            rw [List.getElem?_set] at hv
            split at hv
            · rename_i e
              subst e
              split at hv
              · cases hv; exact hu
              · cases hv
            · exact hX j v hv
          by_cases hlt : (xs q.1).toInt < q.2
          · obtain ⟨X', g1, g2, g3⟩ := ea_bx_ok f xs t _ (key _ (ea_mk_ok hb.1 (by omega))) h.1
            exact ⟨X', g1, by rw [g2, List.length_set], g3⟩
          · obtain ⟨X', g1, g2, g3⟩ := ea_bx_ok f xs t _ (key _ (ea_mk_ok (by omega) hb.2)) h.2
            exact ⟨X', g1, by rw [g2, List.length_set], g3⟩
        | false =>
          rw [hc] at h
          simp only [cond_false] at h
          exact ea_bx_ok f xs t X hX h
      · cases h
end
section
/-! RUNS OF THE LIST MACHINE AS SUCH: what is shown of them is shown of the machine (ea_main) -/
theorem ok_q_mono {P : EP} {cal cal' : Nat → Nat → List (Nat × AV) → List AV → List AC → Nat → Nat → Option AR} (hm : ∀ m pc L S C k w r, cal m pc L S C k w = some r → cal' m pc L S C k w = some r) {m pc : Nat} {L : List (Nat × AV)} {S : List AV} {C : List AC} {k w : Nat} {i : Instr} {r : Option (Nat × Nat × Nat)} {x : AF ⊕ AR} (h : ea_q P cal m pc L S C k w i r = some x) : ea_q P cal' m pc L S C k w i r = some x := by
  unfold ea_q at h ⊢
  cases hc : ea_cl (ep_own P) i r S C with
  | none => rw [hc] at h; cases h
  | some q =>
    obtain ⟨mj, as, T, b⟩ := q
    rw [hc] at h
    dsimp only at h ⊢
    cases hb : (Nat.blt (ep_dep P mj) (ep_dep P m) && (Nat.ble (ea_wt T) 8 && Nat.ble (ea_wt as) (ep_nls P mj))) with
    | false => rw [hb] at h; cases h
    | true =>
      rw [hb] at h
      simp only [cond_true] at h ⊢
      cases hr : cal mj 0 (ea_ar 0 as) [] C 0 0 with
      | none => rw [hr] at h; cases h
      | some r1 =>
        rw [hr] at h
        rw [hm _ _ _ _ _ _ _ _ hr]
        exact h
theorem ok_1_mono {P : EP} {cal cal' : Nat → Nat → List (Nat × AV) → List AV → List AC → Nat → Nat → Option AR} (hm : ∀ m pc L S C k w r, cal m pc L S C k w = some r → cal' m pc L S C k w = some r) {m pc : Nat} {L : List (Nat × AV)} {S : List AV} {C : List AC} {k w : Nat} {x : AF ⊕ AR} (h : ea_1 P cal m pc L S C k w = some x) : ea_1 P cal' m pc L S C k w = some x := by
  unfold ea_1 at h ⊢
  cases hc : ep_cod P m pc with
  | none => rw [hc] at h; cases h
  | some q =>
    obtain ⟨i, len⟩ := q
    rw [hc] at h
    dsimp only at h ⊢
    cases hb : (Nat.beq (ea_len i) 0 || Nat.beq (ea_len i) len) with
    | false => rw [hb] at h; cases h
    | true =>
      rw [hb] at h
      simp only [cond_true] at h ⊢
      cases hp : ea_p i pc (ep_nls P m) L S with
      | some f => rw [hp] at h; exact h
      | none =>
        rw [hp] at h
        dsimp only at h ⊢
        cases hh : ea_h (ep_ini P m) (ep_pl P m) (ep_fty P) (ep_scr P m) i pc S C with
        | some f => rw [hh] at h; exact h
        | none =>
          rw [hh] at h
          dsimp only at h ⊢
          cases hr : ea_rt (ep_rtp P m) i S with
          | some f => rw [hr] at h; exact h
          | none =>
            rw [hr] at h
            dsimp only at h ⊢
            cases i with
            | invokespecial x =>
              dsimp only at h ⊢
              cases ho : ea_oi (ep_pl P m x) S with
              | some T => rw [ho] at h; exact h
              | none => rw [ho] at h; exact ok_q_mono hm h
            | invokestatic x =>
              dsimp only at h ⊢
              cases ho : ea_mm (ep_pl P m x) S with
              | some T => rw [ho] at h; exact h
              | none =>
                rw [ho] at h
                dsimp only at h ⊢
                cases h9 : ea_is9 (ep_pl P m x) with
                | true => rw [h9] at h; exact h
                | false => rw [h9] at h; exact ok_q_mono hm h
            | invokevirtual x => exact ok_q_mono hm h
            | _ => exact h
theorem ok_x_succ {P : EP} : ∀ (n : Nat) (m pc : Nat) (L : List (Nat × AV)) (S : List AV) (C : List AC) (k w : Nat) (r : AR), ea_x P n m pc L S C k w = some r → ea_x P (n + 1) m pc L S C k w = some r := by
  intro n
  induction n with
  | zero => intro m pc L S C k w r h; cases h
  | succ n IH =>
    intro m pc L S C k w r hx
    have h : ea_b P (ea_x P n) m pc L S C k w = some r := hx
    show ea_b P (ea_x P (n + 1)) m pc L S C k w = some r
    unfold ea_b at h ⊢
    cases h1 : ea_1 P (ea_x P n) m pc L S C k w with
    | none => rw [h1] at h; cases h
    | some y =>
      rw [h1] at h
      rw [ok_1_mono IH h1]
      match y, h with
      | .inl (pc', L', S', C', k', w'), h => exact IH _ _ _ _ _ _ _ _ h
      | .inr r', h => exact h
theorem ok_x_mono {P : EP} {n n' : Nat} (hn : n ≤ n') {m pc : Nat} {L : List (Nat × AV)} {S : List AV} {C : List AC} {k w : Nat} {r : AR} (h : ea_x P n m pc L S C k w = some r) : ea_x P n' m pc L S C k w = some r := by
  obtain ⟨d, rfl⟩ := Nat.exists_eq_add_of_le hn
  clear hn
  induction d with
  | zero => exact h
  | succ d ih => exact ok_x_succ _ _ _ _ _ _ _ _ _ ih
/-- what an end costs: an exception is a cell of six slots -/
def ok_k (o : Option AV ⊕ Nat) : Nat := match o with
  | .inl _ => 0
  | .inr _ => 1
def ok_w (o : Option AV ⊕ Nat) : Nat := match o with
  | .inl _ => 0
  | .inr _ => 6
/-- the run from here ends, and so that K holds -/
def ok_ (P : EP) (m pc : Nat) (L : List (Nat × AV)) (S : List AV) (C : List AC) (K : Option AV ⊕ Nat → List AC → Prop) : Prop := ∃ (n : Nat) (o : Option AV ⊕ Nat) (C' : List AC), (∀ k w, ea_x P n m pc L S C k w = some (o, C', k + ok_k o, w + ok_w o)) ∧ K o C'
theorem ok_post {P : EP} {m pc : Nat} {L : List (Nat × AV)} {S : List AV} {C : List AC} {K K' : Option AV ⊕ Nat → List AC → Prop} (h : ok_ P m pc L S C K) (hK : ∀ o C', K o C' → K' o C') : ok_ P m pc L S C K' := by
  obtain ⟨n, o, C', h1, h2⟩ := h
  exact ⟨n, o, C', h1, hK _ _ h2⟩
/-- an instruction that goes on -/
theorem ok_step {P : EP} {m pc : Nat} {L : List (Nat × AV)} {S : List AV} {C : List AC} {K : Option AV ⊕ Nat → List AC → Prop} {pc' : Nat} {L' : List (Nat × AV)} {S' : List AV} {C' : List AC} (n0 : Nat) (h1 : ∀ k w, ea_1 P (ea_x P n0) m pc L S C k w = some (.inl (pc', L', S', C', k, w))) (h : ok_ P m pc' L' S' C' K) : ok_ P m pc L S C K := by
  obtain ⟨n, o, C2, h2, h3⟩ := h
  refine ⟨max n0 n + 1, o, C2, fun k w => ?_, h3⟩
  show ea_b P (ea_x P (max n0 n)) m pc L S C k w = _
  unfold ea_b
  rw [ok_1_mono (fun _ _ _ _ _ _ _ _ hr => ok_x_mono (Nat.le_max_left n0 n) hr) (h1 k w)]
  exact ok_x_mono (Nat.le_max_right n0 n) (h2 k w)
/-- an instruction that ends it -/
theorem ok_end {P : EP} {m pc : Nat} {L : List (Nat × AV)} {S : List AV} {C : List AC} {K : Option AV ⊕ Nat → List AC → Prop} {o : Option AV ⊕ Nat} {C' : List AC} (n0 : Nat) (h1 : ∀ k w, ea_1 P (ea_x P n0) m pc L S C k w = some (.inr (o, C', k + ok_k o, w + ok_w o))) (h : K o C') : ok_ P m pc L S C K := by
  refine ⟨n0 + 1, o, C', fun k w => ?_, h⟩
  show ea_b P (ea_x P n0) m pc L S C k w = _
  unfold ea_b
  rw [h1 k w]
/-- plain instructions -/
theorem ok_p {P : EP} {m pc : Nat} {i : Instr} {len : Nat} {L : List (Nat × AV)} {S : List AV} {C : List AC} {K : Option AV ⊕ Nat → List AC → Prop} {pc' : Nat} {L' : List (Nat × AV)} {S' : List AV} (hc : ep_cod P m pc = some (i, len)) (hl : (Nat.beq (ea_len i) 0 || Nat.beq (ea_len i) len) = true) (hp : ea_p i pc (ep_nls P m) L S = some (pc', L', S')) (h : ok_ P m pc' L' S' C K) : ok_ P m pc L S C K := by
  refine ok_step 0 (fun k w => ?_) h
  unfold ea_1
  rw [hc]
  dsimp only
  rw [hl]
  simp only [cond_true]
  rw [hp]
  dsimp only
  rw [ea_fn_eq, ea_fL_eq, ea_fS_eq]
/-- instructions on cells -/
theorem ok_h {P : EP} {m pc : Nat} {i : Instr} {len : Nat} {L : List (Nat × AV)} {S : List AV} {C : List AC} {K : Option AV ⊕ Nat → List AC → Prop} {pc' : Nat} {S' : List AV} {C' : Option (List AC)} (hc : ep_cod P m pc = some (i, len)) (hl : (Nat.beq (ea_len i) 0 || Nat.beq (ea_len i) len) = true) (hp : ea_p i pc (ep_nls P m) L S = none) (hh : ea_h (ep_ini P m) (ep_pl P m) (ep_fty P) (ep_scr P m) i pc S C = some (pc', S', C', 0, 0)) (h : ok_ P m pc' L S' (C'.getD C) K) : ok_ P m pc L S C K := by
  refine ok_step 0 (fun k w => ?_) h
  unfold ea_1
  rw [hc]
  dsimp only
  rw [hl]
  simp only [cond_true]
  rw [hp]
  dsimp only
  rw [hh]
  dsimp only
  rw [ea_fn_eq, ea_fS_eq, ea_fn_eq, ea_fn_eq]
  cases C' with
  | none => rfl
  | some C1 => dsimp only; rw [ea_fL_eq]; rfl
/-- the end of a method -/
theorem ok_r {P : EP} {m pc : Nat} {i : Instr} {len : Nat} {L : List (Nat × AV)} {S : List AV} {C : List AC} {K : Option AV ⊕ Nat → List AC → Prop} {v : Option AV} (hc : ep_cod P m pc = some (i, len)) (hl : (Nat.beq (ea_len i) 0 || Nat.beq (ea_len i) len) = true) (hp : ea_p i pc (ep_nls P m) L S = none) (hh : ea_h (ep_ini P m) (ep_pl P m) (ep_fty P) (ep_scr P m) i pc S C = none) (hr : ea_rt (ep_rtp P m) i S = some v) (h : K (.inl v) C) : ok_ P m pc L S C K := by
  refine ok_end (o := .inl v) (C' := C) 0 (fun k w => ?_) h
  unfold ea_1
  rw [hc]
  dsimp only
  rw [hl]
  simp only [cond_true]
  rw [hp]
  dsimp only
  rw [hh]
  dsimp only
  rw [hr]
  rfl
/-- which call an instruction is, no copy, no Math -/
def ok_iv (P : EP) (m : Nat) (i : Instr) (S : List AV) : Option (Option (Nat × Nat × Nat)) := match i with
  | .invokespecial x => match ea_oi (ep_pl P m x) S with
    | some _ => none
    | none => some (ep_pl P m x)
  | .invokestatic x => match ea_mm (ep_pl P m x) S with
    | some _ => none
    | none => bif ea_is9 (ep_pl P m x) then none else some (ep_pl P m x)
  | .invokevirtual x => some (ep_pl P m x)
  | _ => none
/-- a call: what it comes back with, the run goes on so -/
def ok_back (P : EP) (m pc : Nat) (L : List (Nat × AV)) (T : List AV) (b : Bool) (K : Option AV ⊕ Nat → List AC → Prop) : Option AV ⊕ Nat → List AC → Prop := fun o C' => match o with
  | .inl v => ok_ P m (pc + 3) L (v.toList ++ T) C' K
  | .inr ce => b = true ∧ ea_hd (ep_sub P) ce pc (ep_hdl P m) = none ∧ K (.inr ce) C'
theorem ok_call {P : EP} {m pc : Nat} {i : Instr} {L : List (Nat × AV)} {S : List AV} {C : List AC} {K : Option AV ⊕ Nat → List AC → Prop} {r : Option (Nat × Nat × Nat)} {mj : Nat} {as T : List AV} {b : Bool} (hc : ep_cod P m pc = some (i, 3)) (hi : ok_iv P m i S = some r) (hq : ea_cl (ep_own P) i r S C = some (mj, as, T, b)) (hd : (Nat.blt (ep_dep P mj) (ep_dep P m) && (Nat.ble (ea_wt T) 8 && Nat.ble (ea_wt as) (ep_nls P mj))) = true)
    (h : ok_ P mj 0 (ea_ar 0 as) [] C (ok_back P m pc L T b K)) : ok_ P m pc L S C K := by
  obtain ⟨n, o, C', h1, h2⟩ := h
  have key : ∀ k w, ea_1 P (ea_x P n) m pc L S C k w = ea_q P (ea_x P n) m pc L S C k w i r := by
    intro k w
    unfold ea_1
    rw [hc]
    unfold ok_iv at hi
    split at hi
    · split at hi
      · cases hi
      · rename_i ho
        cases hi
        show (match ea_oi _ S with | some T => _ | none => _) = _
        rw [ho]
    · split at hi
      · cases hi
      · rename_i ho
        cases h9 : ea_is9 (ep_pl P m _) with
        | true => rw [h9] at hi; cases hi
        | false =>
          rw [h9] at hi
          cases hi
          show (match ea_mm _ S with | some T => _ | none => _) = _
          rw [ho]
          dsimp only
          rw [h9]
          rfl
    · cases hi
      rfl
    · cases hi
  have q1 : ∀ k w, ea_q P (ea_x P n) m pc L S C k w i r = match o with
      | .inl v => some (.inl (pc + 3, L, v.toList ++ T, C', k, w))
      | .inr ce => bif b then match ea_hd (ep_sub P) ce pc (ep_hdl P m) with
          | some h => some (.inl (h, L, [.inr (.inr (.inr (.inl false)))], C', k + 1, w + 6))
          | none => some (.inr (.inr ce, C', k + 1, w + 6))
        else none := by
    intro k w
    unfold ea_q
    rw [hq]
    dsimp only
    rw [hd]
    simp only [cond_true]
    rw [h1 0 0]
    cases o with
    | inl v => dsimp only; rw [ea_fn_eq, ea_fn_eq, ea_fn_eq]; rfl
    | inr ce =>
      dsimp only
      cases b with
      | false => rfl
      | true =>
        simp only [cond_true]
        rw [ea_fn_eq, ea_fn_eq]
        rfl
  cases o with
  | inl v => exact ok_step n (fun k w => by rw [key, q1]) h2
  | inr ce =>
    obtain ⟨hb, hh, hK⟩ := h2
    refine ok_end (o := .inr ce) (C' := C') n (fun k w => ?_) hK
    rw [key, q1]
    dsimp only
    rw [hb]
    simp only [cond_true]
    rw [hh]
    rfl
end
