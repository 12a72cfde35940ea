theorem ea_ty_q {cl : List vw_C} {ci : Nat} {q : vw_C} (h : cl[ci]? = some q) : ea_ty cl (ci + 3) = .object q.1 := by
  show FieldType.object (((cl[ci]?).map (fun q => q.1)).getD "") = _
  rw [h]
  rfl
/-- the kind of a field's type -/
def ea_tg (t : Nat) (ty : FieldType) : Prop := match t with
  | 0 => ty = .int
  | 1 => ty = .long
  | 2 => ty = .boolean
  | 3 => (∃ n, ty = .object n) ∨ ∃ u, ty = .array u
  | _ => False
/-- of the classes: their words are among Ts; their fields have different names, and types of these kinds -/
def ea_cw (Ts : List Jvm.Cond) (cl : List vw_C) (fty : Nat → Nat → Nat) : Prop := ∀ (ci : Nat) (q : vw_C), cl[ci]? = some q → (∀ w ∈ u_ws q.1 q.2.1 q.2.2, w ∈ Ts) ∧ (∀ a, a < q.2.2 → ∀ b, b < q.2.2 → a ≠ b → (q.2.1 a).2.1 ≠ (q.2.1 b).2.1) ∧ ∃ ty : Nat → FieldType, (∀ k, k < q.2.2 → parseFieldDescriptor (q.2.1 k).2.2.1 = some (ty k)) ∧ ∀ k, k < q.2.2 → ea_tg (fty ci k) (ty k)
/-- of a pool entry -/
def ea_po (Ts : List Jvm.Cond) (cl : List vw_C) (U : State) (own : String) (x : Nat) (r : Nat × Nat × Nat) : Prop := match r with
  | (0, ci, k) => ∃ q, cl[ci]? = some q ∧ k < q.2.2 ∧ Jvm.Cond.fieldLink own x (q.2.1 k).1 (q.2.1 k).2.1 (q.2.1 k).2.2.1 ∈ Ts ∧ (q.2.1 k).2.2.2 = false
  | (20, ci, k) => ∃ q, cl[ci]? = some q ∧ k < q.2.2 ∧ Jvm.Cond.fieldLink own x (q.2.1 k).1 (q.2.1 k).2.1 (q.2.1 k).2.2.1 ∈ Ts
  | (21, ci, k) => ∃ q, cl[ci]? = some q ∧ k < q.2.2 ∧ Jvm.Cond.fieldLink own x (q.2.1 k).1 (q.2.1 k).2.1 (q.2.1 k).2.2.1 ∈ Ts ∧ (q.2.1 k).2.2.2 = true ∧ (q.2.1 k).1 = own
  | (5, ci, n) => ∃ q, cl[ci]? = some q ∧ q.2.2 = n ∧ Jvm.Cond.classLink own x q.1 ∈ Ts ∧ Jvm.Cond.instantiable q.1 n ∈ Ts ∧ Jvm.Cond.initialized q.1 ∈ Ts
  | (6, v, _) => Jvm.Cond.constant own x (Int32.ofNat v) ∈ Ts
  | (7, v, _) => Jvm.Cond.constantLong own x (Int64.ofNat v) ∈ Ts
  | (10, ci, _) => ∃ q, cl[ci]? = some q ∧ Jvm.Cond.classLink own x q.1 ∈ Ts ∧ va_AO q.1 U
  | (22, ci, n) => ∃ q, cl[ci]? = some q ∧ q.2.2 = n ∧ Jvm.Cond.classLink own x q.1 ∈ Ts ∧ Jvm.Cond.instantiable q.1 n ∈ Ts ∧ Jvm.Cond.initialized q.1 ∈ Ts ∧ va_AO q.1 U
  | _ => True
/-- what is known of Strings: that they are compact, and of each its fields and bytes -/
def ea_St (sb : SB) (A : Nat → Prop) (U : State) (H : Heap) : Prop := (va_Z "java/lang/String" "COMPACT_STRINGS" "Z" (.int 1) A U H ∧ va_Z "jdk/internal/util/Preconditions" "SIOOBE_FORMATTER" "Ljava/util/function/BiFunction;" sb.2.2.2.2 A U H ∧ sb.2.2.2.2.category = 1) ∧ ∀ z ∈ sb.2.2.2.1, va_O "java/lang/String" (sb.2.1 (z % 64)) A U H ∧ va_OF "java/lang/String" "coder" "B" (.int 0) (sb.2.1 (z % 64)) A U H ∧ va_OF "java/lang/String" "value" "[B" (.ref (sb.2.2.1 (z % 64))) (sb.2.1 (z % 64)) A U H ∧ va_T .byte (sb.2.2.1 (z % 64)) (sx_len (z / 64)) (fun j => .int (Int32.ofNat (sx_ch (z / 64) j))) A U H
theorem ea_St_step {sb : SB} {A : Nat → Prop} {s U : State} {H H1 : Heap} (hvm : s.vm.Alike U.vm) (hq : ∀ q : Nat, q < H.size → ¬ A q → H1[q]? = H[q]?) (h : ea_St sb A s H) : ea_St sb A U H1 :=
  ⟨⟨va_Z.moved hvm (h.1.1.kept hq), va_Z.moved hvm (h.1.2.1.kept hq), h.1.2.2⟩, fun z hz => ⟨va_O.moved hvm ((h.2 z hz).1.kept hq), va_OF.moved hvm ((h.2 z hz).2.1.kept hq), va_OF.moved hvm ((h.2 z hz).2.2.1.kept hq), va_T.moved hvm ((h.2 z hz).2.2.2.kept hq)⟩⟩
/-- what a pool entry on Strings says -/
def ea_pz (Ts : List Jvm.Cond) (sb : SB) (U : State) (own : String) (x : Nat) (r : Nat × Nat × Nat) : Prop := match r with
  | (23, q, _) => q / 2 ∈ sb.2.2.2.1 ∧ ∃ tx, vk_R own x tx (sb.2.1 (q / 2 % 64)) U
  | (24, 0, _) => Jvm.Cond.fieldLink own x "java/lang/String" "value" "[B" ∈ Ts
  | (24, _ + 1, _) => Jvm.Cond.fieldLink own x "java/lang/String" "coder" "B" ∈ Ts
  | (25, _, _) => Jvm.Cond.fieldLink own x "java/lang/String" "COMPACT_STRINGS" "Z" ∈ Ts
  | (27, _, _) => Jvm.Cond.fieldLink own x "jdk/internal/util/Preconditions" "SIOOBE_FORMATTER" "Ljava/util/function/BiFunction;" ∈ Ts
  | _ => True
theorem sx_even {sb : SB} {q : Nat} (h : Nat.beq (q % 2) 0 = true) : sx_ad sb q = sb.2.1 (q / 2 % 64) ∧ sx_ad sb (q + 1) = sb.2.2.1 (q / 2 % 64) ∧ (q + 1) / 2 = q / 2 := by
  have h1 := Nat.eq_of_beq_eq_true h
  have h2 : (q + 1) / 2 = q / 2 := by omega
  unfold sx_ad
  rw [if_pos h1, if_neg (by omega), h2]
  exact ⟨rfl, rfl, rfl⟩
theorem sx_odd {sb : SB} {q : Nat} (h : Nat.beq (q % 2) 1 = true) : sx_ad sb q = sb.2.2.1 (q / 2 % 64) ∧ q / 128 = q / 2 / 64 := by
  have h1 := Nat.eq_of_beq_eq_true h
  unfold sx_ad
  rw [if_neg (by omega)]
  exact ⟨rfl, by omega⟩
theorem ea_fit_ok {t : Nat} {a : AV} {ad : SB × List Nat} {v : Value} {ty : FieldType} (h : ea_fit t a = true) (hv : ea_gv ad a v) (ht : ea_tg t ty) : narrow ty v = v ∧ fits ty v = true := by
  unfold ea_fit at h
  split at h
  · obtain ⟨x, rfl, -⟩ := hv
    obtain rfl : ty = .int := ht
    exact ⟨rfl, rfl⟩
  · obtain ⟨x, rfl, -⟩ := ea_gl hv
    obtain rfl : ty = .long := ht
    exact ⟨rfl, rfl⟩
  · obtain ⟨x, rfl, hx⟩ := hv
    obtain rfl : ty = .boolean := ht
    obtain rfl : x = _ := hx
    rcases (by simpa using h : x = 0 ∨ x = 1) with rfl | rfl <;> exact ⟨by decide, by decide⟩
  · rename_i o
    cases o with
    | none =>
      obtain rfl : v = .null := hv
      rcases ht with ⟨n, rfl⟩ | ⟨u, rfl⟩ <;> exact ⟨rfl, rfl⟩
    | some k =>
      obtain ⟨q, rfl, -⟩ := hv
      rcases ht with ⟨n, rfl⟩ | ⟨u, rfl⟩ <;> exact ⟨rfl, rfl⟩
  · cases h
theorem ea_d_ok {t : Nat} {ty : FieldType} (ad : SB × List Nat) (ht : ea_tg t ty) : ea_gv ad (ea_d t) (defaultValue ty) := by
  match t, ht with
  | 0, ht => obtain rfl : ty = .int := ht; exact ⟨0, rfl, rfl⟩
  | 1, ht => obtain rfl : ty = .long := ht; exact rfl
  | 2, ht => obtain rfl : ty = .boolean := ht; exact ⟨0, rfl, rfl⟩
  | 3, ht => rcases ht with ⟨n, rfl⟩ | ⟨u, rfl⟩ <;> exact rfl
theorem ea_rl_map {α β γ : Type} {R : β → γ → Prop} (f : α → β) (g : α → γ) : ∀ (l : List α), (∀ a ∈ l, R (f a) (g a)) → ea_rl R (l.map f) (l.map g)
  | [], _ => trivial
  | a :: t, h => ⟨h a List.mem_cons_self, ea_rl_map f g t (fun b hb => h b (List.mem_cons_of_mem _ hb))⟩
section EAH
variable {p : Program} {l : Launch} {e : Env} {R : Room} {s : State} {m : MethodId} {args : Array Value} {below : List Frame} {meth : Method} {c : Code} {H : Heap} {locs : List Loc} {cells slots : Nat} {Q : State → Prop}
variable {cc : ByteArray} {pc : Nat} {ls : Array Slot} {st : List Value} {D : va_G} {cl : List vw_C} {A : Nat → Prop} {Ts : List Jvm.Cond} {own : String} {ws : va_W} {sb : SB} {C : List AC}
theorem ea_rd_ok {U : State} {pl : Nat → Option (Nat × Nat × Nat)} (hpl : ∀ x r, pl x = some r → ea_po Ts cl U own x r) {x ci k : Nat} (h : ea_rd (pl x) = some (ci, k)) : ∃ q, cl[ci]? = some q ∧ k < q.2.2 ∧ Jvm.Cond.fieldLink own x (q.2.1 k).1 (q.2.1 k).2.1 (q.2.1 k).2.2.1 ∈ Ts := by
  unfold ea_rd at h
  split at h
  · rename_i q hq
    cases h
    obtain ⟨q, h1, h2, h3, -⟩ := hpl _ _ hq
    exact ⟨q, h1, h2, h3⟩
  · rename_i q hq
    cases h
    exact hpl _ _ hq
  · rename_i q hq
    cases h
    obtain ⟨q, h1, h2, h3, -⟩ := hpl _ _ hq
    exact ⟨q, h1, h2, h3⟩
  · cases h
theorem ea_wr_ok {U : State} {pl : Nat → Option (Nat × Nat × Nat)} (hpl : ∀ x r, pl x = some r → ea_po Ts cl U own x r) {ini : Bool} {x ci k : Nat} (h : ea_wr ini (pl x) = some (ci, k)) : ∃ q, cl[ci]? = some q ∧ k < q.2.2 ∧ Jvm.Cond.fieldLink own x (q.2.1 k).1 (q.2.1 k).2.1 (q.2.1 k).2.2.1 ∈ Ts ∧ ((q.2.1 k).2.2.2 = false ∨ (ini = true ∧ (q.2.1 k).2.2.2 = true ∧ (q.2.1 k).1 = own)) := by
  unfold ea_wr at h
  split at h
  · rename_i q hq
    cases h
    obtain ⟨q, h1, h2, h3, h4⟩ := hpl _ _ hq
    exact ⟨q, h1, h2, h3, Or.inl h4⟩
  · rename_i q hq
    cases hi : ini with
    | false => rw [hi] at h; cases h
    | true =>
      rw [hi] at h
      cases h
      obtain ⟨q, h1, h2, h3, h4, h5⟩ := hpl _ _ hq
      exact ⟨q, h1, h2, h3, Or.inr ⟨rfl, h4, h5⟩⟩
  · cases h
def ea_ext (ws ws' : va_W) : Prop := ∀ k q : Nat, (ws.map Prod.fst)[k]? = some q → (ws'.map Prod.fst)[k]? = some q
theorem ea_ext_r (ws : va_W) : ea_ext ws ws := fun _ _ h => h
theorem ea_ext_u {ws : va_W} {x : Nat × va_E} : ea_ext ws (ws ++ [x]) := (ea_map_push (sb := (0, fun _ => 0, fun _ => 0, [], .null))).2
theorem ea_ext_s {ws : va_W} {k a : Nat} {E E' : va_E} (h : ws[k]? = some (a, E)) : ea_ext ws (ws.set k (a, E')) := fun j q hq => by rw [ea_map_set h]; exact hq
/-- the world at a point -/
def ea_W (D : va_G) (cl : List vw_C) (A : Nat → Prop) (s : State) (sb : SB) (C : List AC) (ws : va_W) (H : Heap) (locs : List Loc) : Prop := va_P D cl ws H ∧ va_D A ws ∧ va_S A s.heap H locs ∧ ea_H cl s sb C ws
theorem ea_K1 (hK : va_K D cl [] s) {t : Nat} {cA : ClassId} (h : ea_AT cl s t cA) : va_K D cl [(cA, ea_ty cl t)] s := ⟨hK.1, fun k q hq => by
  have hz : k < 1 := (List.getElem?_eq_some_iff.mp hq).1
  rw [show k = 0 by omega] at hq
  cases hq
  exact h⟩
set_option maxHeartbeats 4000000 in
set_option maxRecDepth 20000 in
theorem va_ldcSW (hexec : p.tables.exec = Jvm.exec) (hb : c.code = cc) {own tx : String} {index q : Nat} {rest : List Value} (hown : s.vm.findClass own = some m.cls) (hZ : vk_R own index tx q s) (hdg : decode cc pc = .ok (.ldc_w index, 3))
    (k : W p l e R s m args below meth c H locs cells slots Q (F0 m (pc + 3) ls (.ref q :: rest))) : W p l e R s m args below meth c H locs cells slots Q (F0 m pc ls rest) := by
  intro T hT X
  obtain ⟨t, a1, b1⟩ := k T hT X
  exact ⟨t, X.ldcStringW hexec hown (text := tx) (a := q) hZ.1 hZ.2 (g := F0 m pc ls rest) rfl (by rw [hb]; exact hdg) t a1, b1⟩
theorem ea_h_ok {ini : Bool} {pl : Nat → Option (Nat × Nat × Nat)} {fty : Nat → Nat → Nat} {scr : Option (List AI)} {i : Instr} {len nL pc' dk dw : Nat} {L : List (Nat × AV)} {S S' : List AV} {C' : Option (List AC)}
    (hexec : p.tables.exec = Jvm.exec) (hb : c.code = cc) (hts : ∀ w ∈ Ts, w.before args s = true) (hown : s.vm.findClass own = some m.cls) (hini : ini = true → meth.name = "<init>") (hK : va_K D cl [] s) (hA : ∀ q, s.heap.size ≤ q → A q) (hcw : ea_cw Ts cl fty) (hpl : ∀ x r, pl x = some r → ea_po Ts cl s own x r)
    (har : ∀ t, t = FieldType.int ∨ t = FieldType.long ∨ t = FieldType.byte → Jvm.Cond.arrayClass t ∈ Ts) (hX : ∀ X, scr = some X → ¬ A sb.1 ∧ sb.1 < s.heap.size ∧ ∃ xs : Nat → Int32, va_X sb.1 X.length xs s s.heap ∧ ∀ j v, X[j]? = some v → ea_gi v (xs j))
    (hpz : ∀ x r, pl x = some r → ea_pz Ts sb s own x r) (hSt : ea_St sb A s s.heap) (hdg : decode cc pc = .ok (i, len)) (hlen : ea_len i = 0 ∨ ea_len i = len) (hp : ea_h ini pl fty scr i pc S C = some (pc', S', C', dk, dw)) (hW : ea_W D cl A s sb C ws H locs) (hl : ea_L (sb, ws.map Prod.fst) nL L ls) (hs : ea_rl (ea_gv (sb, ws.map Prod.fst)) S st) (hcr : cells + dk ≤ R.cells) (hsr : slots + dw ≤ R.slots)
    (kk : ∀ (st' : List Value) (ws' : va_W) (H' : Heap) (locs' : List Loc), ea_ext ws ws' → ea_W D cl A s sb (C'.getD C) ws' H' locs' → ea_L (sb, ws'.map Prod.fst) nL L ls → ea_rl (ea_gv (sb, ws'.map Prod.fst)) S' st' → W p l e R s m args below meth c H' locs' (cells + dk) (slots + dw) Q (F0 m pc' ls st')) : W p l e R s m args below meth c H locs cells slots Q (F0 m pc ls st) := by
  obtain ⟨hP, hD, hS, hH⟩ := hW
  cases i with
  | getfield x =>
    obtain rfl : 3 = len := by simpa [ea_len] using hlen
    simp only [ea_h] at hp
    split at hp
    · rename_i ci k a S0 hr
      split at hp
      · rename_i o ho
        cases hb1 : Nat.beq o.1 ci with
        | false => rw [hb1] at hp; cases hp
        | true =>
          rw [hb1] at hp
          simp only [cond_true] at hp
          split at hp
          · rename_i v hv
            cases hp
            obtain ⟨q, h1, h2, h3⟩ := ea_rd_ok hpl hr
            obtain ⟨_, _, rfl, ⟨aa, rfl, ha⟩, hs1⟩ := ea_pop hs
            obtain ⟨a1, E, g1, g2, g3⟩ := ea_H_get hH ho
            obtain rfl : aa = a1 := Option.some.inj (ha.symm.trans g3)
            match E, g1, g2 with
            | .inr (ci', vs), g1, ⟨e1, g2⟩ =>
              obtain rfl : ci' = ci := e1.symm.trans (Nat.eq_of_beq_eq_true hb1)
              rw [ea_nt_eq] at hv
              obtain ⟨w, w1, w2⟩ := ea_rl_get g2 hv
              exact va_get (T := q.2.1) (N := q.2.2) (C := q.1) hexec hb hts (hcw _ _ h1).1 hown hK hP a g1 h1 k h2 (hts _ h3) (fun _ h => h) w1 hdg (kk _ ws H locs (ea_ext_r ws) ⟨hP, hD, hS, hH⟩ hl ⟨w2, hs1⟩)
          · cases hp
      · cases hp
    · rename_i q S0 hr
      split at hp
      · rename_i v hv
        cases hp
        obtain ⟨_, _, rfl, ⟨rfl, hq⟩, hs1⟩ := ea_pop hs
        unfold sx_f at hv
        split at hv
        · rename_i z hz
          cases hb1 : Nat.beq ((q + 1) % 2) 0 with
          | false => rw [hb1] at hv; cases hv
          | true =>
            rw [hb1] at hv
            cases hv
            obtain ⟨e1, e2, e3⟩ := sx_even (sb := sb) hb1
            rw [e1]
            exact vk_getf (ref := "java/lang/String") hexec hb (hSt.2 _ hq).2.2.1 hS hown (hts _ (hpz _ _ hz)) (fun _ h => h) hdg (kk _ ws H locs (ea_ext_r ws) ⟨hP, hD, hS, hH⟩ hl ⟨⟨by show _ = Value.ref (sx_ad sb (q + 1 + 1)); rw [e2], by show (q + 1 + 1) / 2 ∈ _; rw [e3]; exact hq⟩, hs1⟩)
        · rename_i j z hz
          cases hb1 : Nat.beq ((q + 1) % 2) 0 with
          | false => rw [hb1] at hv; cases hv
          | true =>
            rw [hb1] at hv
            cases hv
            obtain ⟨e1, e2, e3⟩ := sx_even (sb := sb) hb1
            rw [e1]
            exact vk_getf (ref := "java/lang/String") hexec hb (hSt.2 _ hq).2.1 hS hown (hts _ (hpz _ _ hz)) (fun _ h => h) hdg (kk _ ws H locs (ea_ext_r ws) ⟨hP, hD, hS, hH⟩ hl ⟨⟨_, rfl, rfl⟩, hs1⟩)
        · cases hv
      · cases hp
    · cases hp
  | getstatic x =>
    obtain rfl : 3 = len := by simpa [ea_len] using hlen
    simp only [ea_h] at hp
    split at hp
    · rename_i u1 u2 hr
      cases hp
      exact va_gets (ref := "java/lang/String") hexec hb hSt.1.1 hS hown (hts _ (hpz _ _ hr)) (fun _ h => h) hdg (kk _ ws H locs (ea_ext_r ws) ⟨hP, hD, hS, hH⟩ hl ⟨⟨_, rfl, rfl⟩, hs⟩)
    · rename_i u1 u2 hr
      cases hp
      exact va_gets (ref := "jdk/internal/util/Preconditions") hexec hb hSt.1.2.1 hS hown (hts _ (hpz _ _ hr)) (fun _ h => h) hdg (kk _ ws H locs (ea_ext_r ws) ⟨hP, hD, hS, hH⟩ hl ⟨⟨rfl, hSt.1.2.2⟩, hs⟩)
    · cases hp
  | putfield x =>
    obtain rfl : 3 = len := by simpa [ea_len] using hlen
    simp only [ea_h] at hp
    split at hp
    · rename_i ci k v a S0 hr
      split at hp
      · rename_i o ho
        cases hb1 : (Nat.beq o.1 ci && (ea_fit (fty ci k) v && Nat.blt k o.2.length)) with
        | false => rw [hb1] at hp; cases hp
        | true =>
          rw [hb1] at hp
          simp only [cond_true] at hp
          cases hp
          simp only [Bool.and_eq_true] at hb1
          obtain ⟨hc1, hf, hk⟩ := hb1
          obtain ⟨q, h1, h2, h3, h4⟩ := ea_wr_ok hpl hr
          obtain ⟨hin, hnm, ty, hty, htg⟩ := hcw _ _ h1
          obtain ⟨v', _, rfl, hv, hs1⟩ := ea_pop hs
          obtain ⟨_, _, rfl, ⟨aa, rfl, ha⟩, hs2⟩ := ea_pop hs1
          obtain ⟨a1, E, g1, g2, g3⟩ := ea_H_get hH ho
          obtain rfl : aa = a1 := Option.some.inj (ha.symm.trans g3)
          obtain ⟨n1, n2⟩ := ea_fit_ok hf hv (htg k h2)
          match E, g1, g2 with
          | .inr (ci', vs), g1, ⟨e1, g2⟩ =>
            obtain rfl : ci' = ci := e1.symm.trans (Nat.eq_of_beq_eq_true hc1)
            have hlt : k < vs.length := by rw [← ea_rl_len g2]; exact Nat.le_of_ble_eq_true hk
            have hkk : ∀ (H1 : Heap) (locs1 : List Loc), va_P D cl (ws.set a (aa, .inr (ci', vs.set k v'))) H1 → va_D A (ws.set a (aa, .inr (ci', vs.set k v'))) → va_S A s.heap H1 locs1 → W p l e R s m args below meth c H1 locs1 cells slots Q (F0 m (pc + 3) ls _) := fun H1 locs1 p1 d1 s1 => by
              refine kk _ (ws.set a (aa, .inr (ci', vs.set k v'))) H1 locs1 (ea_ext_s g1) ⟨p1, d1, s1, ea_H_set hH g1 ⟨rfl, ea_rl_set g2 k hv⟩⟩ ?_ ?_
              · rw [ea_map_set g1]; exact hl
              · rw [ea_map_set g1]; exact hs2
            rcases h4 with h4 | ⟨i1, i2, i3⟩
            · exact va_put (T := q.2.1) (N := q.2.2) (C := q.1) hexec hb hts hin ty hty hnm hown hK hP hD hS a g1 h1 k h2 (hts _ h3) (fun _ h => h) h4 (hty k h2) n1 n2 hlt hdg hkk
            · exact va_putF (T := q.2.1) (N := q.2.2) (C := q.1) hexec hb hts hin ty hty hnm hown hK hP hD hS a g1 h1 k h2 (hts _ h3) (fun _ h => h) i2 (hini i1) i3 (hty k h2) n1 n2 hlt hdg hkk
      · cases hp
    · cases hp
  | new x =>
    obtain rfl : 3 = len := by simpa [ea_len] using hlen
    simp only [ea_h] at hp
    split at hp
    · rename_i ci n hr
      cases hp
      obtain ⟨q, h1, h2, h3, h4, h5⟩ := hpl _ _ hr
      subst h2
      obtain ⟨hin, hnm, ty, hty, htg⟩ := hcw _ _ h1
      refine va_new (ci := ci) (fs := (List.range q.2.2).map (fun k => defaultValue (ty k))) (C := q.1) (T := q.2.1) (N := q.2.2) hexec hb hts hin ty hty hown (hts _ h3) (hts _ h4) (hts _ h5) hK hP hD hS hA h1 (fun j hj => ?_) hcr hsr hdg (fun a H1 p1 d1 s1 => ?_)
      · simp [vp_V, hj]
      · exact kk _ _ H1 locs ea_ext_u ⟨p1, d1, s1, ea_H_push hH ⟨rfl, ea_rl_map _ _ _ (fun k hk => ea_d_ok _ (htg k (List.mem_range.mp hk)))⟩⟩ (ea_L_mono ea_map_push hl) ⟨⟨a, rfl, ea_at_push hH⟩, ea_rl_mono (fun _ _ h => ea_gv_mono ea_map_push h) hs⟩
    · rename_i ci n hr
      cases hp
      obtain ⟨q, h1, h2, h3, h4, h5, -⟩ := hpl _ _ hr
      subst h2
      obtain ⟨hin, hnm, ty, hty, htg⟩ := hcw _ _ h1
      refine va_new (ci := ci) (fs := (List.range q.2.2).map (fun k => defaultValue (ty k))) (C := q.1) (T := q.2.1) (N := q.2.2) hexec hb hts hin ty hty hown (hts _ h3) (hts _ h4) (hts _ h5) hK hP hD hS hA h1 (fun j hj => ?_) hcr hsr hdg (fun a H1 p1 d1 s1 => ?_)
      · simp [vp_V, hj]
      · exact kk _ _ H1 locs ea_ext_u ⟨p1, d1, s1, ea_H_push hH ⟨rfl, ea_rl_map _ _ _ (fun k hk => ea_d_ok _ (htg k (List.mem_range.mp hk)))⟩⟩ (ea_L_mono ea_map_push hl) ⟨⟨a, rfl, ea_at_push hH⟩, ea_rl_mono (fun _ _ h => ea_gv_mono ea_map_push h) hs⟩
    · cases hp
  | newarray t =>
    obtain rfl : 2 = len := by simpa [ea_len] using hlen
    simp only [ea_h] at hp
    split at hp
    · rename_i x S0
      split at hp
      · rename_i hx
        obtain ⟨_, _, rfl, ⟨y, rfl, hy⟩, hs1⟩ := ea_pop hs
        obtain rfl : y = x := hy
        have hn : ¬ y < 0 := by rw [Int32.lt_iff_toInt_lt]; show ¬ y.toInt < 0; omega
        have hN : y.toNatClampNeg ≤ 65536 := by show y.toInt.toNat ≤ 65536; omega
        cases t with
        | int =>
          cases hp
          refine va_newa (ty := .int) (a0 := (y.toNatClampNeg, .inl (fun _ => 0))) hexec hb (hts _ (har _ (Or.inl rfl))) rfl hK hP hD hS hA (fun cA => rfl) hn rfl (by show y.toNatClampNeg * 4 ≤ 536870912; omega) hcr hsr hdg (fun a cA H1 k1 p1 d1 s1 => ?_)
          exact kk _ _ H1 locs ea_ext_u ⟨p1, d1, s1, ea_H_push hH ⟨rfl, k1.2 0 _ rfl, ⟨_, rfl⟩, fun j hj => ⟨0, rfl, rfl⟩⟩⟩ (ea_L_mono ea_map_push hl) ⟨⟨a, rfl, ea_at_push hH⟩, ea_rl_mono (fun _ _ h => ea_gv_mono ea_map_push h) hs1⟩
        | long =>
          cases hp
          refine va_newa (ty := .long) (a0 := (y.toNatClampNeg, .inr (.inl (fun _ => 0)))) hexec hb (hts _ (har _ (Or.inr (Or.inl rfl)))) rfl hK hP hD hS hA (fun cA => rfl) hn rfl (by show y.toNatClampNeg * 8 ≤ 536870912; omega) hcr hsr hdg (fun a cA H1 k1 p1 d1 s1 => ?_)
          exact kk _ _ H1 locs ea_ext_u ⟨p1, d1, s1, ea_H_push hH ⟨rfl, k1.2 0 _ rfl, ⟨_, rfl⟩, fun j hj => rfl⟩⟩ (ea_L_mono ea_map_push hl) ⟨⟨a, rfl, ea_at_push hH⟩, ea_rl_mono (fun _ _ h => ea_gv_mono ea_map_push h) hs1⟩
        | byte =>
          cases hp
          refine va_newa (ty := .byte) (a0 := (y.toNatClampNeg, .inl (fun _ => 0))) hexec hb (hts _ (har _ (Or.inr (Or.inr rfl)))) rfl hK hP hD hS hA (fun cA => rfl) hn rfl (by show y.toNatClampNeg * 1 ≤ 536870912; omega) hcr hsr hdg (fun a cA H1 k1 p1 d1 s1 => ?_)
          exact kk _ _ H1 locs ea_ext_u ⟨p1, d1, s1, ea_H_push hH ⟨rfl, k1.2 0 _ rfl, ⟨_, rfl⟩, fun j hj => ⟨0, rfl, rfl⟩⟩⟩ (ea_L_mono ea_map_push hl) ⟨⟨a, rfl, ea_at_push hH⟩, ea_rl_mono (fun _ _ h => ea_gv_mono ea_map_push h) hs1⟩
        | _ => cases hp
      · cases hp
    · cases hp
  | anewarray x =>
    obtain rfl : 3 = len := by simpa [ea_len] using hlen
    simp only [ea_h] at hp
    split at hp
    · rename_i ci z x S0 hr
      split at hp
      · rename_i hx
        cases hp
        obtain ⟨_, _, rfl, ⟨y, rfl, hy⟩, hs1⟩ := ea_pop hs
        obtain rfl : y = x := hy
        have hn : ¬ y < 0 := by rw [Int32.lt_iff_toInt_lt]; show ¬ y.toInt < 0; omega
        have hN : y.toNatClampNeg ≤ 65536 := by show y.toInt.toNat ≤ 65536; omega
        obtain ⟨q, h1, h3, h4⟩ := hpl _ _ hr
        refine va_newq hexec hb hown (hts _ h3) h4 hK hP hD hS hA hn rfl (by omega) hcr hsr hdg (fun a cA H1 k1 p1 d1 s1 => ?_)
        exact kk _ _ H1 locs ea_ext_u ⟨p1, d1, s1, ea_H_push hH ⟨rfl, by show ArrOfT s cA (ea_ty cl (ci + 3)) ∧ va_RA s cA (ea_ty cl (ci + 3)); rw [ea_ty_q h1]; exact k1.2 0 _ rfl, ⟨_, rfl⟩, fun j hj => rfl⟩⟩ (ea_L_mono ea_map_push hl) ⟨⟨a, rfl, ea_at_push hH⟩, ea_rl_mono (fun _ _ h => ea_gv_mono ea_map_push h) hs1⟩
      · cases hp
    · rename_i ci z x S0 hr
      split at hp
      · rename_i hx
        cases hp
        obtain ⟨_, _, rfl, ⟨y, rfl, hy⟩, hs1⟩ := ea_pop hs
        obtain rfl : y = x := hy
        have hn : ¬ y < 0 := by rw [Int32.lt_iff_toInt_lt]; show ¬ y.toInt < 0; omega
        have hN : y.toNatClampNeg ≤ 65536 := by show y.toInt.toNat ≤ 65536; omega
        obtain ⟨q, h1, -, h3, -, -, h4⟩ := hpl _ _ hr
        refine va_newq hexec hb hown (hts _ h3) h4 hK hP hD hS hA hn rfl (by omega) hcr hsr hdg (fun a cA H1 k1 p1 d1 s1 => ?_)
        exact kk _ _ H1 locs ea_ext_u ⟨p1, d1, s1, ea_H_push hH ⟨rfl, by show ArrOfT s cA (ea_ty cl (ci + 3)) ∧ va_RA s cA (ea_ty cl (ci + 3)); rw [ea_ty_q h1]; exact k1.2 0 _ rfl, ⟨_, rfl⟩, fun j hj => rfl⟩⟩ (ea_L_mono ea_map_push hl) ⟨⟨a, rfl, ea_at_push hH⟩, ea_rl_mono (fun _ _ h => ea_gv_mono ea_map_push h) hs1⟩
      · cases hp
    · cases hp
  | arraylength =>
    obtain rfl : 1 = len := by simpa [ea_len] using hlen
    simp only [ea_h] at hp
    split at hp
    · rename_i a S0
      split at hp
      · rename_i q ho
        cases hp
        obtain ⟨_, _, rfl, ⟨aa, rfl, ha⟩, hs1⟩ := ea_pop hs
        obtain ⟨a1, E, g1, g2, g3⟩ := ea_H_get hH ho
        obtain rfl : aa = a1 := Option.some.inj (ha.symm.trans g3)
        match E, g1, g2 with
        | .inl (cA, n', x), g1, ⟨e1, hat, hkd, hct⟩ =>
          exact va_alen hexec hb (ea_K1 hK hat) hP a 0 g1 rfl rfl hdg (kk _ ws H locs (ea_ext_r ws) ⟨hP, hD, hS, hH⟩ hl ⟨⟨_, rfl, by rw [show n' = q.2.1 from e1]; rfl⟩, hs1⟩)
      · cases hp
    · split at hp
      · rename_i X
        cases hp
        obtain ⟨hbA, hbl, xs, hXX, hxs⟩ := hX X rfl
        obtain ⟨v, _, rfl, hv, hs1⟩ := ea_pop hs
        obtain rfl : v = .ref sb.1 := hv
        exact va_slen hexec hb hXX hbl hbA hS hdg (kk _ ws H locs (ea_ext_r ws) ⟨hP, hD, hS, hH⟩ hl ⟨⟨_, rfl, rfl⟩, hs1⟩)
      · cases hp
    · rename_i q S0
      cases hb1 : Nat.beq ((q + 1) % 2) 1 with
      | false => rw [hb1] at hp; cases hp
      | true =>
        rw [hb1] at hp
        cases hp
        obtain ⟨_, _, rfl, ⟨rfl, hq⟩, hs1⟩ := ea_pop hs
        obtain ⟨e1, e2⟩ := sx_odd (sb := sb) hb1
        rw [e1]
        exact va_tlen hexec hb (hSt.2 _ hq).2.2.2 hS rfl hdg (kk _ ws H locs (ea_ext_r ws) ⟨hP, hD, hS, hH⟩ hl ⟨⟨_, rfl, by rw [e2]; rfl⟩, hs1⟩)
    · cases hp
  | iaload =>
    obtain rfl : 1 = len := by simpa [ea_len] using hlen
    simp only [ea_h] at hp
    split at hp
    · rename_i i a S0
      split at hp
      · rename_i n d us ho
        split at hp
        · rename_i j hj
          split at hp
          · rename_i v hv
            cases hp
            obtain ⟨_, _, rfl, ⟨x, rfl, hx⟩, hs1⟩ := ea_pop hs
            obtain ⟨_, _, rfl, ⟨aa, rfl, ha⟩, hs2⟩ := ea_pop hs1
            obtain ⟨a1, E, g1, g2, g3⟩ := ea_H_get hH ho
            obtain rfl : aa = a1 := Option.some.inj (ha.symm.trans g3)
            obtain ⟨hin, hj1, hj2⟩ := ea_ix_ok hj hx
            match E, g1, g2 with
            | .inl (cA, n', y), g1, ⟨e1, hat, ⟨f, hf⟩, hct⟩ =>
              dsimp only at e1 hf hct
              subst e1
              subst hf
              have hc := hct j hj2
              rw [hv] at hc
              rw [← hj1] at hc
              exact va_iald hexec hb (ea_K1 hK hat) hP a 0 g1 rfl hin hdg (kk _ ws H locs (ea_ext_r ws) ⟨hP, hD, hS, hH⟩ hl ⟨hc, hs2⟩)
          · cases hp
        · cases hp
      · cases hp
    · rename_i i S0
      split at hp
      · rename_i X
        split at hp
        · rename_i j hj
          split at hp
          · rename_i v hv
            cases hp
            obtain ⟨hbA, hbl, xs, hXX, hxs⟩ := hX X rfl
            obtain ⟨_, _, rfl, ⟨x, rfl, hx⟩, hs1⟩ := ea_pop hs
            obtain ⟨u, _, rfl, hu, hs2⟩ := ea_pop hs1
            obtain rfl : u = .ref sb.1 := hu
            obtain ⟨hin, hj1, hj2⟩ := ea_ix_ok hj hx
            rw [ea_nt_eq] at hv
            exact va_sld hexec hb hXX hbl hbA hS hin hdg (kk _ ws H locs (ea_ext_r ws) ⟨hP, hD, hS, hH⟩ hl ⟨⟨_, rfl, by rw [hj1]; exact hxs j v hv⟩, hs2⟩)
          · cases hp
        · cases hp
      · cases hp
    · cases hp
  | baload =>
    obtain rfl : 1 = len := by simpa [ea_len] using hlen
    simp only [ea_h] at hp
    split at hp
    · rename_i i a S0
      split at hp
      · rename_i n d us ho
        split at hp
        · rename_i j hj
          split at hp
          · rename_i v hv
            cases hp
            obtain ⟨_, _, rfl, ⟨x, rfl, hx⟩, hs1⟩ := ea_pop hs
            obtain ⟨_, _, rfl, ⟨aa, rfl, ha⟩, hs2⟩ := ea_pop hs1
            obtain ⟨a1, E, g1, g2, g3⟩ := ea_H_get hH ho
            obtain rfl : aa = a1 := Option.some.inj (ha.symm.trans g3)
            obtain ⟨hin, hj1, hj2⟩ := ea_ix_ok hj hx
            match E, g1, g2 with
            | .inl (cA, n', y), g1, ⟨e1, hat, ⟨f, hf⟩, hct⟩ =>
              dsimp only at e1 hf hct
              subst e1
              subst hf
              have hc := hct j hj2
              rw [hv] at hc
              rw [← hj1] at hc
              exact va_bald hexec hb (ea_K1 hK hat) hP a 0 g1 rfl hin hdg (kk _ ws H locs (ea_ext_r ws) ⟨hP, hD, hS, hH⟩ hl ⟨hc, hs2⟩)
          · cases hp
        · cases hp
      · cases hp
    · rename_i i q S0
      cases hb1 : Nat.beq ((q + 1) % 2) 1 with
      | false => rw [hb1] at hp; cases hp
      | true =>
        rw [hb1] at hp
        simp only [cond_true] at hp
        split at hp
        · rename_i j hj
          cases hp
          obtain ⟨_, _, rfl, ⟨x, rfl, hx⟩, hs1⟩ := ea_pop hs
          obtain ⟨_, _, rfl, ⟨rfl, hq⟩, hs2⟩ := ea_pop hs1
          obtain ⟨e1, e2⟩ := sx_odd (sb := sb) hb1
          obtain ⟨hin, hj1, hj2⟩ := ea_ix_ok hj hx
          rw [e2] at hin
          rw [e1]
          exact va_tb hexec hb (hSt.2 _ hq).2.2.2 hS hin rfl hdg (kk _ ws H locs (ea_ext_r ws) ⟨hP, hD, hS, hH⟩ hl ⟨⟨_, rfl, by rw [e2, hj1]; rfl⟩, hs2⟩)
        · cases hp
    · cases hp
  | laload =>
    obtain rfl : 1 = len := by simpa [ea_len] using hlen
    simp only [ea_h] at hp
    split at hp
    · rename_i i a S0
      split at hp
      · rename_i n d us ho
        split at hp
        · rename_i j hj
          split at hp
          · rename_i v hv
            cases hp
            obtain ⟨_, _, rfl, ⟨x, rfl, hx⟩, hs1⟩ := ea_pop hs
            obtain ⟨_, _, rfl, ⟨aa, rfl, ha⟩, hs2⟩ := ea_pop hs1
            obtain ⟨a1, E, g1, g2, g3⟩ := ea_H_get hH ho
            obtain rfl : aa = a1 := Option.some.inj (ha.symm.trans g3)
            obtain ⟨hin, hj1, hj2⟩ := ea_ix_ok hj hx
            match E, g1, g2 with
            | .inl (cA, n', y), g1, ⟨e1, hat, ⟨f, hf⟩, hct⟩ =>
              dsimp only at e1 hf hct
              subst e1
              subst hf
              have hc := hct j hj2
              rw [hv] at hc
              rw [← hj1] at hc
              exact va_lald hexec hb (ea_K1 hK hat) hP a 0 g1 rfl hin hdg (kk _ ws H locs (ea_ext_r ws) ⟨hP, hD, hS, hH⟩ hl ⟨hc, hs2⟩)
          · cases hp
        · cases hp
      · cases hp
    · cases hp
  | aaload =>
    obtain rfl : 1 = len := by simpa [ea_len] using hlen
    simp only [ea_h] at hp
    split at hp
    · rename_i i a S0
      split at hp
      · rename_i t n d us ho
        split at hp
        · rename_i j hj
          split at hp
          · rename_i v hv
            cases hp
            obtain ⟨_, _, rfl, ⟨x, rfl, hx⟩, hs1⟩ := ea_pop hs
            obtain ⟨_, _, rfl, ⟨aa, rfl, ha⟩, hs2⟩ := ea_pop hs1
            obtain ⟨a1, E, g1, g2, g3⟩ := ea_H_get hH ho
            obtain rfl : aa = a1 := Option.some.inj (ha.symm.trans g3)
            obtain ⟨hin, hj1, hj2⟩ := ea_ix_ok hj hx
            match E, g1, g2 with
            | .inl (cA, n', y), g1, ⟨e1, hat, ⟨f, hf⟩, hct⟩ =>
              dsimp only at e1 hf hct
              subst e1
              subst hf
              have hc := hct j hj2
              rw [hv] at hc
              rw [← hj1] at hc
              exact va_aldq hexec hb (ea_K1 hK hat) hP a 0 g1 rfl hin hdg (kk _ ws H locs (ea_ext_r ws) ⟨hP, hD, hS, hH⟩ hl ⟨hc, hs2⟩)
          · cases hp
        · cases hp
      · cases hp
    · cases hp
  | iastore =>
    obtain rfl : 1 = len := by simpa [ea_len] using hlen
    simp only [ea_h] at hp
    split at hp
    · rename_i v i a S0
      split at hp
      · rename_i n d us ho
        split at hp
        · rename_i j hj
          cases hp
          obtain ⟨_, _, rfl, ⟨v1, rfl, hv⟩, hs1⟩ := ea_pop hs
          obtain ⟨_, _, rfl, ⟨x, rfl, hx⟩, hs2⟩ := ea_pop hs1
          obtain ⟨_, _, rfl, ⟨aa, rfl, ha⟩, hs3⟩ := ea_pop hs2
          obtain ⟨a1, E, g1, g2, g3⟩ := ea_H_get hH ho
          obtain rfl : aa = a1 := Option.some.inj (ha.symm.trans g3)
          obtain ⟨hin, hj1, hj2⟩ := ea_ix_ok hj hx
          match E, g1, g2 with
          | .inl (cA, n', y), g1, ⟨e1, hat, ⟨f, hf⟩, hct⟩ =>
            dsimp only at e1 hf hct
            subst e1
            subst hf
            refine va_iast hexec hb (ea_K1 hK hat) hP hD hS a 0 g1 rfl hin hdg (fun H1 locs1 p1 d1 s1 => kk _ _ H1 locs1 (ea_ext_s g1) ⟨p1, d1, s1, ea_H_set hH g1 ⟨rfl, hat, ⟨_, rfl⟩, fun k hk => ?_⟩⟩ (by rw [ea_map_set g1]; exact hl) (by rw [ea_map_set g1]; exact hs3))
            dsimp only
            rw [ea_al_at]
            by_cases hkj : k = j
            · subst hkj
              rw [if_pos rfl, hj1]
              simp only [ea_cv, upd, if_pos]
              exact ⟨v1, rfl, hv⟩
            · rw [if_neg hkj, hj1]
              simp only [ea_cv, upd, if_neg hkj]
              exact hct k hk
        · cases hp
      · cases hp
    · cases hp
  | bastore =>
    obtain rfl : 1 = len := by simpa [ea_len] using hlen
    simp only [ea_h] at hp
    split at hp
    · rename_i v i a S0
      split at hp
      · rename_i n d us ho
        split at hp
        · rename_i j hj
          cases hp
          obtain ⟨_, _, rfl, ⟨v1, rfl, hv⟩, hs1⟩ := ea_pop hs
          obtain ⟨_, _, rfl, ⟨x, rfl, hx⟩, hs2⟩ := ea_pop hs1
          obtain ⟨_, _, rfl, ⟨aa, rfl, ha⟩, hs3⟩ := ea_pop hs2
          obtain ⟨a1, E, g1, g2, g3⟩ := ea_H_get hH ho
          obtain rfl : aa = a1 := Option.some.inj (ha.symm.trans g3)
          obtain ⟨hin, hj1, hj2⟩ := ea_ix_ok hj hx
          match E, g1, g2 with
          | .inl (cA, n', y), g1, ⟨e1, hat, ⟨f, hf⟩, hct⟩ =>
            dsimp only at e1 hf hct
            subst e1
            subst hf
            refine va_bast hexec hb (ea_K1 hK hat) hP hD hS a 0 g1 rfl hin hdg (fun H1 locs1 p1 d1 s1 => kk _ _ H1 locs1 (ea_ext_s g1) ⟨p1, d1, s1, ea_H_set hH g1 ⟨rfl, hat, ⟨_, rfl⟩, fun k hk => ?_⟩⟩ (by rw [ea_map_set g1]; exact hl) (by rw [ea_map_set g1]; exact hs3))
            dsimp only
            rw [ea_al_at]
            by_cases hkj : k = j
            · subst hkj
              rw [if_pos rfl, hj1]
              simp only [ea_cv, upd, if_pos]
              exact ⟨_, rfl, ea_i1_ok (fun x => vp_nar .byte x) hv⟩
            · rw [if_neg hkj, hj1]
              simp only [ea_cv, upd, if_neg hkj]
              exact hct k hk
        · cases hp
      · cases hp
    · cases hp
  | lastore =>
    obtain rfl : 1 = len := by simpa [ea_len] using hlen
    simp only [ea_h] at hp
    split at hp
    · rename_i v i a S0
      split at hp
      · rename_i n d us ho
        split at hp
        · rename_i j hj
          cases hp
          obtain ⟨_, _, rfl, hv, hs1⟩ := ea_pop hs
          obtain ⟨v1, rfl, hv1⟩ := ea_gl hv
          obtain ⟨_, _, rfl, ⟨x, rfl, hx⟩, hs2⟩ := ea_pop hs1
          obtain ⟨_, _, rfl, ⟨aa, rfl, ha⟩, hs3⟩ := ea_pop hs2
          obtain ⟨a1, E, g1, g2, g3⟩ := ea_H_get hH ho
          obtain rfl : aa = a1 := Option.some.inj (ha.symm.trans g3)
          obtain ⟨hin, hj1, hj2⟩ := ea_ix_ok hj hx
          match E, g1, g2 with
          | .inl (cA, n', y), g1, ⟨e1, hat, ⟨f, hf⟩, hct⟩ =>
            dsimp only at e1 hf hct
            subst e1
            subst hf
            refine va_last hexec hb (ea_K1 hK hat) hP hD hS a 0 g1 rfl hin hdg (fun H1 locs1 p1 d1 s1 => kk _ _ H1 locs1 (ea_ext_s g1) ⟨p1, d1, s1, ea_H_set hH g1 ⟨rfl, hat, ⟨_, rfl⟩, fun k hk => ?_⟩⟩ (by rw [ea_map_set g1]; exact hl) (by rw [ea_map_set g1]; exact hs3))
            dsimp only
            rw [ea_al_at]
            by_cases hkj : k = j
            · subst hkj
              rw [if_pos rfl, hj1]
              simp only [ea_cv, vp_updL, if_pos]
              exact ea_lg hv1
            · rw [if_neg hkj, hj1]
              simp only [ea_cv, vp_updL, if_neg hkj]
              exact hct k hk
        · cases hp
      · cases hp
    · cases hp
  | aastore =>
    obtain rfl : 1 = len := by simpa [ea_len] using hlen
    simp only [ea_h] at hp
    split at hp
    · rename_i v i a S0
      split at hp
      · rename_i t n d us o ho hov
        split at hp
        · rename_i j hj
          cases hb1 : Nat.beq o.1 t with
          | false => rw [hb1] at hp; cases hp
          | true =>
            rw [hb1] at hp
            simp only [cond_true] at hp
            cases hp
            obtain ⟨_, _, rfl, ⟨v1, rfl, hv⟩, hs1⟩ := ea_pop hs
            obtain ⟨_, _, rfl, ⟨x, rfl, hx⟩, hs2⟩ := ea_pop hs1
            obtain ⟨_, _, rfl, ⟨aa, rfl, ha⟩, hs3⟩ := ea_pop hs2
            obtain ⟨a1, E, g1, g2, g3⟩ := ea_H_get hH ho
            obtain rfl : aa = a1 := Option.some.inj (ha.symm.trans g3)
            obtain ⟨a2, E2, k1, k2, k3⟩ := ea_H_get hH hov
            obtain rfl : v1 = a2 := Option.some.inj (hv.symm.trans k3)
            obtain ⟨hin, hj1, hj2⟩ := ea_ix_ok hj hx
            match E, g1, g2 with
            | .inl (cA, n', y), g1, ⟨e1, hat, ⟨f, hf⟩, hct⟩ =>
              match E2, k1, k2 with
              | .inr (ci', vs), k1, ⟨e2, k2⟩ =>
                dsimp only at e1 hf hct e2
                subst e1
                subst hf
                obtain rfl : ci' = t := e2.symm.trans (Nat.eq_of_beq_eq_true hb1)
                obtain ⟨r, hr1, -⟩ := hP v _ k1
                have hty : ea_ty cl (ci' + 3) = .object r.1 := ea_ty_q hr1
                refine va_astq (r := r) hexec hb (ea_K1 hK hat) hP hD hS a 0 v ci' g1 (by rw [hty]; rfl) k1 hr1 hin hdg (fun H1 locs1 p1 d1 s1 => kk _ _ H1 locs1 (ea_ext_s g1) ⟨p1, d1, s1, ea_H_set hH g1 ⟨rfl, hat, ⟨_, rfl⟩, fun k hk => ?_⟩⟩ (by rw [ea_map_set g1]; exact hl) (by rw [ea_map_set g1]; exact hs3))
                dsimp only
                rw [ea_al_at]
                by_cases hkj : k = j
                · subst hkj
                  rw [if_pos rfl, hj1]
                  simp only [ea_cv, va_up, if_pos]
                  exact ⟨v1, rfl, hv⟩
                · rw [if_neg hkj, hj1]
                  simp only [ea_cv, va_up, if_neg hkj]
                  exact hct k hk
        · cases hp
      · cases hp
    · cases hp
  | ldc x =>
    obtain rfl : 2 = len := by simpa [ea_len] using hlen
    simp only [ea_h] at hp
    split at hp
    · rename_i v z hr
      cases hp
      exact lv_ldc hexec hb hown (hts _ (hpl _ _ hr)) hdg (kk _ ws H locs (ea_ext_r ws) ⟨hP, hD, hS, hH⟩ hl ⟨⟨_, rfl, rfl⟩, hs⟩)
    · rename_i q z hr
      cases hb1 : Nat.beq ((q + 1) % 2) 0 with
      | false => rw [hb1] at hp; cases hp
      | true =>
        rw [hb1] at hp
        cases hp
        obtain ⟨hq, tx, hR⟩ := hpz _ _ hr
        exact va_ldcS hexec hb hown hR hdg (kk _ ws H locs (ea_ext_r ws) ⟨hP, hD, hS, hH⟩ hl ⟨⟨by rw [(sx_even (sb := sb) hb1).1], hq⟩, hs⟩)
    · cases hp
  | ldc_w x =>
    obtain rfl : 3 = len := by simpa [ea_len] using hlen
    simp only [ea_h] at hp
    split at hp
    · rename_i v z hr
      cases hp
      exact lv_ldcw hexec hb hown (hts _ (hpl _ _ hr)) hdg (kk _ ws H locs (ea_ext_r ws) ⟨hP, hD, hS, hH⟩ hl ⟨⟨_, rfl, rfl⟩, hs⟩)
    · rename_i q z hr
      cases hb1 : Nat.beq ((q + 1) % 2) 0 with
      | false => rw [hb1] at hp; cases hp
      | true =>
        rw [hb1] at hp
        cases hp
        obtain ⟨hq, tx, hR⟩ := hpz _ _ hr
        exact va_ldcSW hexec hb hown hR hdg (kk _ ws H locs (ea_ext_r ws) ⟨hP, hD, hS, hH⟩ hl ⟨⟨by rw [(sx_even (sb := sb) hb1).1], hq⟩, hs⟩)
    · cases hp
  | ldc2_w x =>
    obtain rfl : 3 = len := by simpa [ea_len] using hlen
    simp only [ea_h] at hp
    split at hp
    · rename_i v z hr
      cases hp
      exact lv_ldc2 hexec hb hown (hts _ (hpl _ _ hr)) hdg (kk _ ws H locs (ea_ext_r ws) ⟨hP, hD, hS, hH⟩ hl ⟨rfl, hs⟩)
    · cases hp
  | _ => cases hp
end EAH
