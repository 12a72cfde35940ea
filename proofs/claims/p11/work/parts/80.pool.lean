/-! what the program's words say: where they stand -/
theorem tw_in {w : Jvm.Cond} (h : w ∈ lw_tbl) (hg : goodWord w = true) : w ∈ tb_T := List.mem_cons_of_mem _ (List.mem_filter.mpr ⟨h, hg⟩)
theorem tw_t {w : Jvm.Cond} (h : w ∈ tables_1) : w ∈ lw_tbl := List.mem_append_right _ h
theorem tw_l {c i : Nat} {w : Jvm.Cond} (h : tb_get c i = some w) : w ∈ lw_tbl := by
  unfold tb_get at h
  split at h
  · exact List.mem_append_left _ (List.mem_of_getElem? h)
  · exact tw_t (by unfold tables_1; exact List.mem_append_left _ (List.mem_of_getElem? h))
  · exact tw_t (by unfold tables_1; exact List.mem_append_right _ (List.mem_append_left _ (List.mem_of_getElem? h)))
  · exact tw_t (by unfold tables_1; exact List.mem_append_right _ (List.mem_append_right _ (List.mem_append_left _ (List.mem_of_getElem? h))))
  · exact tw_t (by unfold tables_1; exact List.mem_append_right _ (List.mem_append_right _ (List.mem_append_right _ (List.mem_append_left _ (List.mem_of_getElem? h)))))
  · exact tw_t (by unfold tables_1; exact List.mem_append_right _ (List.mem_append_right _ (List.mem_append_right _ (List.mem_append_right _ (List.mem_append_left _ (List.mem_of_getElem? h))))))
  · exact tw_t (by unfold tables_1; exact List.mem_append_right _ (List.mem_append_right _ (List.mem_append_right _ (List.mem_append_right _ (List.mem_append_right _ (List.mem_append_left _ (List.mem_of_getElem? h)))))))
  · exact tw_t (by unfold tables_1; exact List.mem_append_right _ (List.mem_append_right _ (List.mem_append_right _ (List.mem_append_right _ (List.mem_append_right _ (List.mem_append_right _ (List.mem_append_left _ (List.mem_of_getElem? h))))))))
  · exact tw_t (by unfold tables_1; exact List.mem_append_right _ (List.mem_append_right _ (List.mem_append_right _ (List.mem_append_right _ (List.mem_append_right _ (List.mem_append_right _ (List.mem_append_right _ (List.mem_append_left _ (List.mem_of_getElem? h)))))))))
  · exact tw_t (by unfold tables_1; exact List.mem_append_right _ (List.mem_append_right _ (List.mem_append_right _ (List.mem_append_right _ (List.mem_append_right _ (List.mem_append_right _ (List.mem_append_right _ (List.mem_append_right _ (List.mem_append_left _ (List.mem_of_getElem? h))))))))))
  · exact tw_t (by unfold tables_1; exact List.mem_append_right _ (List.mem_append_right _ (List.mem_append_right _ (List.mem_append_right _ (List.mem_append_right _ (List.mem_append_right _ (List.mem_append_right _ (List.mem_append_right _ (List.mem_append_right _ (List.mem_of_getElem? h))))))))))
  · cases h
theorem tw_mem {c i : Nat} {w : Jvm.Cond} (h : tb_get c i = some w) (hg : goodWord w = true) : w ∈ tb_T := tw_in (tw_l h) hg
/-- a list's words, where each stands -/
def at_ok : List Jvm.Cond → List (Nat × Nat) → Bool
  | [], _ => true
  | _ :: _, [] => false
  | w :: l, (c, i) :: hs => (bif Nat.beq c 99 then decide (tb_n[i]? = some w) else (decide (tb_get c i = some w) && goodWord w)) && (vx_ot w && at_ok l hs)
theorem at_in : ∀ {l : List Jvm.Cond} {hs : List (Nat × Nat)}, at_ok l hs = true → ∀ w ∈ l, (w ∈ tb_T ∨ w ∈ tb_n) ∧ vx_ot w = true
  | [], _, _ => fun _ hw => absurd hw List.not_mem_nil
  | _ :: _, [], h => by cases h
  | w :: l, (c, i) :: hs, h => by
    unfold at_ok at h
    simp only [Bool.and_eq_true] at h
    obtain ⟨h1, h2, h3⟩ := h
    intro w' hw'
    rcases List.mem_cons.mp hw' with rfl | hw'
    · refine ⟨?_, h2⟩
      cases hb : Nat.beq c 99 with
      | true =>
        rw [hb] at h1
        exact .inr (List.mem_of_getElem? (of_decide_eq_true h1))
      | false =>
        rw [hb] at h1
        simp only [cond_false, Bool.and_eq_true, decide_eq_true_eq] at h1
        exact .inl (tw_mem h1.1 h1.2)
    · exact at_in h3 w' hw'
section PSN
variable {Y : Option (List AI)} {own : String} {x : Nat}
theorem ps_0 {ci k : Nat} {q : vw_C} (h1 : tb_cl[ci]? = some q) (h2 : k < q.2.2) (h3 : Jvm.Cond.fieldLink own x (q.2.1 k).1 (q.2.1 k).2.1 (q.2.1 k).2.2.1 ∈ tb_T) (h4 : (q.2.1 k).2.2.2 = false) : ea_ps (tb_P Y) tb_N own x (0, ci, k) := ⟨q, h1, h2, h3, h4⟩
theorem ps_20 {ci k : Nat} {q : vw_C} (h1 : tb_cl[ci]? = some q) (h2 : k < q.2.2) (h3 : Jvm.Cond.fieldLink own x (q.2.1 k).1 (q.2.1 k).2.1 (q.2.1 k).2.2.1 ∈ tb_T) : ea_ps (tb_P Y) tb_N own x (20, ci, k) := ⟨q, h1, h2, h3⟩
theorem ps_21 {ci k : Nat} {q : vw_C} (h1 : tb_cl[ci]? = some q) (h2 : k < q.2.2) (h3 : Jvm.Cond.fieldLink own x (q.2.1 k).1 (q.2.1 k).2.1 (q.2.1 k).2.2.1 ∈ tb_T) (h4 : (q.2.1 k).2.2.2 = true) (h5 : (q.2.1 k).1 = own) : ea_ps (tb_P Y) tb_N own x (21, ci, k) := ⟨q, h1, h2, h3, h4, h5⟩
theorem ps_5 {ci n : Nat} {q : vw_C} (h1 : tb_cl[ci]? = some q) (h2 : q.2.2 = n) (h3 : Jvm.Cond.classLink own x q.1 ∈ tb_T) (h4 : Jvm.Cond.instantiable q.1 n ∈ tb_T) (h5 : Jvm.Cond.initialized q.1 ∈ tb_T) : ea_ps (tb_P Y) tb_N own x (5, ci, n) := ⟨q, h1, h2, h3, h4, h5⟩
theorem ps_22 {ci n : Nat} {q : vw_C} (h1 : tb_cl[ci]? = some q) (h2 : q.2.2 = n) (h3 : Jvm.Cond.classLink own x q.1 ∈ tb_T) (h4 : Jvm.Cond.instantiable q.1 n ∈ tb_T) (h5 : Jvm.Cond.initialized q.1 ∈ tb_T) (h6 : q.1 ∈ ["EarCode$World"]) : ea_ps (tb_P Y) tb_N own x (22, ci, n) := ⟨q, h1, h2, h3, h4, h5, h6⟩
theorem ps_6 {v u : Nat} (h : Jvm.Cond.constant own x (Int32.ofNat v) ∈ tb_T) : ea_ps (tb_P Y) tb_N own x (6, v, u) := h
theorem ps_7 {v u : Nat} (h : Jvm.Cond.constantLong own x (Int64.ofNat v) ∈ tb_T) : ea_ps (tb_P Y) tb_N own x (7, v, u) := h
theorem ps_1 {mj n : Nat} (h1 : 0 < mj) (h2 : mj < 389) (h3 : Jvm.Cond.methodLink own x (tb_y mj) ∈ tb_T) (h4 : Jvm.Cond.static (tb_y mj) ∈ tb_T) (h5 : (parseMethodDescriptor (tb_y mj).desc).map (fun d => d.parameters.length) = some n) : ea_ps (tb_P Y) tb_N own x (1, mj, n) := ⟨h1, h2, h3, h4, h5⟩
theorem ps_13 {mj n : Nat} {h : String} (h1 : 0 < mj) (h2 : mj < 389) (h6 : ep_hdl (tb_P Y) mj = []) (h3 : Jvm.Cond.methodLinkNest own x (tb_y mj) h ∈ tb_n) (h4 : Jvm.Cond.static (tb_y mj) ∈ tb_T) (h5 : (parseMethodDescriptor (tb_y mj).desc).map (fun d => d.parameters.length) = some n) : ea_ps (tb_P Y) tb_N own x (13, mj, n) := ⟨h1, h2, h6, ⟨h, h3⟩, h4, h5⟩
theorem ps_2 {mj n : Nat} {q : vw_C} (h1 : 0 < mj) (h2 : mj < 389) (h6 : ep_hdl (tb_P Y) mj = []) (h3 : Jvm.Cond.methodLink own x (tb_y mj) ∈ tb_T) (h4 : Jvm.Cond.instanceMethod (tb_y mj) ∈ tb_T) (h7 : Jvm.Cond.selects (tb_y mj).cls (tb_y mj) (tb_y mj) ∈ tb_T) (h8 : tb_cl[ep_own (tb_P Y) mj]? = some q) (h9 : q.1 = (tb_y mj).cls) (h5 : (parseMethodDescriptor (tb_y mj).desc).map (fun d => d.parameters.length) = some n) : ea_ps (tb_P Y) tb_N own x (2, mj, n) := ⟨h1, h2, h6, h3, h4, h7, ⟨q, h8, h9⟩, h5⟩
theorem ps_3 {mj n : Nat} (h1 : 0 < mj) (h2 : mj < 389) (h6 : ep_hdl (tb_P Y) mj = []) (h3 : Jvm.Cond.methodLink own x (tb_y mj) ∈ tb_T) (h4 : Jvm.Cond.instanceMethod (tb_y mj) ∈ tb_T) (h7 : (tb_y mj).name = "<init>") (h8 : tb_r mj = none) (h5 : (parseMethodDescriptor (tb_y mj).desc).map (fun d => d.parameters.length) = some n) : ea_ps (tb_P Y) tb_N own x (3, mj, n) := ⟨h1, h2, h6, h3, h4, h7, h8, h5⟩
theorem ps_15 {mj n : Nat} {h : String} (h1 : 0 < mj) (h2 : mj < 389) (h6 : ep_hdl (tb_P Y) mj = []) (h3 : Jvm.Cond.methodLinkNest own x (tb_y mj) h ∈ tb_n) (h4 : Jvm.Cond.instanceMethod (tb_y mj) ∈ tb_T) (h7 : (tb_y mj).name = "<init>") (h8 : tb_r mj = none) (h5 : (parseMethodDescriptor (tb_y mj).desc).map (fun d => d.parameters.length) = some n) : ea_ps (tb_P Y) tb_N own x (15, mj, n) := ⟨h1, h2, h6, ⟨h, h3⟩, h4, h7, h8, h5⟩
theorem ps_4 {u v : Nat} (h1 : Jvm.Cond.methodLink own x objectInit ∈ tb_T) (h2 : Jvm.Cond.instanceMethod objectInit ∈ tb_T) (h3 : Jvm.Cond.code objectInit ⟨#[0xb1]⟩ 1 none ∈ tb_T) : ea_ps (tb_P Y) tb_N own x (4, u, v) := ⟨h1, h2, h3⟩
theorem ps_9 {u v : Nat} (h1 : Jvm.Cond.methodLink own x arraycopyName ∈ tb_T) (h2 : Jvm.Cond.native arraycopyName ∈ tb_T) (h3 : Jvm.Cond.static arraycopyName ∈ tb_T) (h4 : Jvm.Cond.initialized "java/lang/System" ∈ tb_T) : ea_ps (tb_P Y) tb_N own x (9, u, v) := ⟨h1, h2, h3, h4⟩
theorem ps_16 {u v : Nat} (h1 : Jvm.Cond.methodLink own x Jvm.Lib.Math.max.name ∈ tb_T) (h2 : Jvm.Cond.static Jvm.Lib.Math.max.name ∈ tb_T) (h3 : Jvm.Cond.initialized "java/lang/Math" ∈ tb_T) (h4 : Jvm.Cond.code Jvm.Lib.Math.max.name Jvm.Lib.Math.max.code 2 (some .int) ∈ tb_T) : ea_ps (tb_P Y) tb_N own x (16, u, v) := ⟨h1, h2, h3, h4⟩
theorem ps_17 {u v : Nat} (h1 : Jvm.Cond.methodLink own x Jvm.Lib.Math.min.name ∈ tb_T) (h2 : Jvm.Cond.static Jvm.Lib.Math.min.name ∈ tb_T) (h3 : Jvm.Cond.initialized "java/lang/Math" ∈ tb_T) (h4 : Jvm.Cond.code Jvm.Lib.Math.min.name Jvm.Lib.Math.min.code 2 (some .int) ∈ tb_T) : ea_ps (tb_P Y) tb_N own x (17, u, v) := ⟨h1, h2, h3, h4⟩
theorem ps_8 {u v i : Nat} {tx : String} (h : tb_s[i]? = some (own, x, tx)) : ea_ps (tb_P Y) tb_N own x (8, u, v) := ⟨tx, List.mem_of_getElem? h⟩
theorem ps_11 {ce u : Nat} (h1 : Jvm.Cond.classLink own x (tb_x ce) ∈ tb_T) (h2 : Jvm.Cond.initialized (tb_x ce) ∈ tb_T) (h3 : vx_ot (.classLink own x (tb_x ce)) = true) (h4 : vx_ot (.initialized (tb_x ce)) = true) : ea_ps (tb_P Y) tb_N own x (11, ce, u) := ⟨h1, h2, h3, h4⟩
theorem ps_12 {ce u ix : Nat} {rx : ByteArray} (h1 : Bundle.fit (tb_x ce) = true) (hr : ec_rx ix rx) (h2 : ∀ w ∈ ec_at own x (tb_x ce) ix rx ["java/lang/RuntimeException", "java/lang/Exception"], (w ∈ tb_T ∨ w ∈ tb_n) ∧ vx_ot w = true) : ea_ps (tb_P Y) tb_N own x (12, ce, u) := ⟨h1, ix, rx, hr, h2⟩
theorem ps_23 {u q i z : Nat} {tx : String} (h : tb_S[i]? = some (own, x, tx, z)) (e : z = q / 2) : ea_ps (tb_P Y) tb_N own x (23, q, u) := by
  subst e
  exact ⟨tx, List.mem_of_getElem? h⟩
theorem ps_24a {u : Nat} (h : Jvm.Cond.fieldLink own x "java/lang/String" "value" "[B" ∈ tb_T) : ea_ps (tb_P Y) tb_N own x (24, 0, u) := h
theorem ps_24b {u v : Nat} (h : Jvm.Cond.fieldLink own x "java/lang/String" "coder" "B" ∈ tb_T) : ea_ps (tb_P Y) tb_N own x (24, v + 1, u) := h
theorem ps_25 {u v : Nat} (h : Jvm.Cond.fieldLink own x "java/lang/String" "COMPACT_STRINGS" "Z" ∈ tb_T) : ea_ps (tb_P Y) tb_N own x (25, u, v) := h
theorem ps_27 {u v : Nat} (h : Jvm.Cond.fieldLink own x "jdk/internal/util/Preconditions" "SIOOBE_FORMATTER" "Ljava/util/function/BiFunction;" ∈ tb_T) : ea_ps (tb_P Y) tb_N own x (27, u, v) := h
theorem ps_26 {mj n : Nat} (h1 : 0 < mj) (h2 : mj < 389) (h6 : ep_hdl (tb_P Y) mj = []) (h3 : Jvm.Cond.methodLink own x (tb_y mj) ∈ tb_T) (h4 : Jvm.Cond.instanceMethod (tb_y mj) ∈ tb_T) (h7 : Jvm.Cond.selects (tb_y mj).cls (tb_y mj) (tb_y mj) ∈ tb_T) (h8 : (tb_y mj).cls = "java/lang/String") (h5 : (parseMethodDescriptor (tb_y mj).desc).map (fun d => d.parameters.length) = some n) : ea_ps (tb_P Y) tb_N own x (26, mj, n) := ⟨h1, h2, h6, h3, h4, h7, h8, h5⟩
end PSN
