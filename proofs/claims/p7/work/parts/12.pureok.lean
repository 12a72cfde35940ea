section
section EAP
variable {p : Program} {l : Launch} {e : Env} {R : Room} {s : State} {m : MethodId} {args : Array Value} {below : List Frame} {meth : Method} {c : Code} {H : Heap} {locs : List Loc} {cells slots : Nat} {Q : State → Prop}
variable {cc : ByteArray} {pc : Nat} {ls : Array Slot} {st : List Value}
theorem ea_pop {ad : SB × List Nat} {a : AV} {S : List AV} {st : List Value} (h : ea_rl (ea_gv ad) (a :: S) st) : ∃ v t, st = v :: t ∧ ea_gv ad a v ∧ ea_rl (ea_gv ad) S t := ea_rl_cons h
theorem ea_gl {ad : SB × List Nat} {a : Option Int64} {v : Value} (h : ea_gv ad (.inr (.inr (.inl a))) v) : ∃ x : Int64, v = .long x ∧ ∀ y, a = some y → x = y := by
  cases a with
  | none => obtain ⟨x, rfl⟩ := h; exact ⟨x, rfl, fun y q => by cases q⟩
  | some z => exact ⟨z, h, fun y q => by cases q; rfl⟩
theorem ea_lg {ad : SB × List Nat} {a : Option Int64} {x : Int64} (h : ∀ y, a = some y → x = y) : ea_gv ad (.inr (.inr (.inl a))) (.long x) := by
  cases a with
  | none => exact ⟨x, rfl⟩
  | some z => rw [h z rfl]; rfl
theorem ea_l2_ok (f : Int64 → Int64 → Int64) {a b : Option Int64} {x y : Int64} (hx : ∀ z, a = some z → x = z) (hy : ∀ z, b = some z → y = z) : ∀ z, ea_l2 f a b = some z → f x y = z := by
  intro z h
  cases a with
  | none => cases b <;> cases h
  | some u => cases b with
    | none => cases h
    | some v => cases h; rw [hx u rfl, hy v rfl]
theorem ea_sw_ok {dflt lo hi off : Int} {offs : Array Int} {i : AI} (h : ea_sw dflt lo hi offs i = some off) {x : Int32} (hx : ea_gi i x) : (off = dflt ∧ (x.toInt < lo ∨ hi < x.toInt)) ∨ (¬ x.toInt < lo ∧ ¬ hi < x.toInt ∧ offs[(x.toInt - lo).toNat]? = some off) := by
  have bx := ea_bd hx
  unfold ea_sw at h
  split at h
  · cases h; exact Or.inl ⟨rfl, Or.inl (by omega)⟩
  · split at h
    · cases h; exact Or.inl ⟨rfl, Or.inr (by omega)⟩
    · match i, h, hx with
      | .inl y, h, hx =>
        obtain rfl : x = y := hx
        dsimp only at h
        split at h
        · rename_i hin
          exact Or.inr ⟨hin.1, hin.2, by rw [← Array.getElem?_toList]; exact h⟩
        · cases h
      | .inr q, h, _ => cases h
set_option maxHeartbeats 4000000 in
set_option maxRecDepth 20000 in
theorem ea_p_ok {ad : SB × List Nat} {nL pc' len : Nat} {i : Instr} {L L' : List (Nat × AV)} {S S' : List AV} (hexec : p.tables.exec = Jvm.exec) (hb : c.code = cc) (hdg : decode cc pc = .ok (i, len)) (hlen : ea_len i = 0 ∨ ea_len i = len) (hp : ea_p i pc nL L S = some (pc', L', S')) (hl : ea_L ad nL L ls) (hs : ea_rl (ea_gv ad) S st)
    (kk : ∀ (ls' : Array Slot) (st' : List Value), ea_L ad nL L' ls' → ea_rl (ea_gv ad) S' st' → W p l e R s m args below meth c H locs cells slots Q (F0 m pc' ls' st')) : W p l e R s m args below meth c H locs cells slots Q (F0 m pc ls st) := by
  cases i with
  | iconst n =>
    obtain rfl : 1 = len := by simpa [ea_len] using hlen
    simp only [ea_p] at hp
    cases hp
    exact lv_iconst hexec hb hdg rfl (kk _ _ hl ⟨⟨_, rfl, rfl⟩, hs⟩)
  | bipush n =>
    obtain rfl : 2 = len := by simpa [ea_len] using hlen
    simp only [ea_p] at hp
    cases hp
    exact lv_bipush hexec hb hdg rfl (kk _ _ hl ⟨⟨_, rfl, rfl⟩, hs⟩)
  | sipush n =>
    obtain rfl : 3 = len := by simpa [ea_len] using hlen
    simp only [ea_p] at hp
    cases hp
    exact lv_sipush hexec hb hdg rfl (kk _ _ hl ⟨⟨_, rfl, rfl⟩, hs⟩)
  | lconst n =>
    obtain rfl : 1 = len := by simpa [ea_len] using hlen
    simp only [ea_p] at hp
    cases hp
    exact lv_lconst hexec hb hdg rfl (kk _ _ hl ⟨rfl, hs⟩)
  | iload_n k =>
    obtain rfl : 1 = len := by simpa [ea_len] using hlen
    simp only [ea_p] at hp
    split at hp
    · rename_i a hk
      cases hp
      obtain ⟨v, h1, x, rfl, hx⟩ := ea_L_at hl hk
      exact lv_iload_n hexec hb hdg rfl h1 (kk _ _ hl ⟨⟨_, rfl, hx⟩, hs⟩)
    · cases hp
  | iload k =>
    obtain rfl : 2 = len := by simpa [ea_len] using hlen
    simp only [ea_p] at hp
    split at hp
    · rename_i a hk
      cases hp
      obtain ⟨v, h1, x, rfl, hx⟩ := ea_L_at hl hk
      exact lv_iload hexec hb hdg h1 (kk _ _ hl ⟨⟨_, rfl, hx⟩, hs⟩)
    · cases hp
  | lload_n k =>
    obtain rfl : 1 = len := by simpa [ea_len] using hlen
    simp only [ea_p] at hp
    split at hp
    · rename_i a hk
      cases hp
      obtain ⟨v, h1, h2⟩ := ea_L_at hl hk
      cases a with
      | none =>
        obtain ⟨x, rfl⟩ := h2
        exact lv_lload_n hexec hb hdg rfl h1 (kk _ _ hl ⟨⟨_, rfl⟩, hs⟩)
      | some y =>
        obtain rfl : v = .long y := h2
        exact lv_lload_n hexec hb hdg rfl h1 (kk _ _ hl ⟨rfl, hs⟩)
    · cases hp
  | lload k =>
    obtain rfl : 2 = len := by simpa [ea_len] using hlen
    simp only [ea_p] at hp
    split at hp
    · rename_i a hk
      cases hp
      obtain ⟨v, h1, h2⟩ := ea_L_at hl hk
      cases a with
      | none =>
        obtain ⟨x, rfl⟩ := h2
        exact lv_lload hexec hb hdg h1 (kk _ _ hl ⟨⟨_, rfl⟩, hs⟩)
      | some y =>
        obtain rfl : v = .long y := h2
        exact lv_lload hexec hb hdg h1 (kk _ _ hl ⟨rfl, hs⟩)
    · cases hp
  | aload_n k =>
    obtain rfl : 1 = len := by simpa [ea_len] using hlen
    simp only [ea_p] at hp
    split at hp
    · split at hp
      · rename_i a hk hr
        cases hp
        obtain ⟨v, h1, hv⟩ := ea_L_at hl hk
        obtain ⟨x, rfl⟩ := ea_isr_ok hr hv
        exact lv_aload_n hexec hb hdg rfl h1 (kk _ _ hl ⟨hv, hs⟩)
      · cases hp
    · cases hp
  | aload k =>
    obtain rfl : 2 = len := by simpa [ea_len] using hlen
    simp only [ea_p] at hp
    split at hp
    · split at hp
      · rename_i a hk hr
        cases hp
        obtain ⟨v, h1, hv⟩ := ea_L_at hl hk
        obtain ⟨x, rfl⟩ := ea_isr_ok hr hv
        exact lv_aload hexec hb hdg h1 (kk _ _ hl ⟨hv, hs⟩)
      · cases hp
    · cases hp
  | astore_n k =>
    obtain rfl : 1 = len := by simpa [ea_len] using hlen
    simp only [ea_p] at hp
    split at hp
    · split at hp
      · rename_i a S hk
        cases hp
        obtain ⟨v, t, rfl, hv, hs1⟩ := ea_pop hs
        obtain ⟨x, rfl⟩ := ea_isr_ok hk.1 hv
        obtain ⟨vl, h1, h2⟩ := hl
        exact lv_astore_n hexec hb hdg rfl h2 hk.2 rfl (fun ls' h3 => kk _ _ ⟨_, ea_rl_s1 h1 _ hv, h3⟩ hs1)
      · cases hp
    · cases hp
  | astore k =>
    obtain rfl : 2 = len := by simpa [ea_len] using hlen
    simp only [ea_p] at hp
    split at hp
    · split at hp
      · rename_i a S hk
        cases hp
        obtain ⟨v, t, rfl, hv, hs1⟩ := ea_pop hs
        obtain ⟨x, rfl⟩ := ea_isr_ok hk.1 hv
        obtain ⟨vl, h1, h2⟩ := hl
        exact lv_astore hexec hb hdg h2 hk.2 rfl (fun ls' h3 => kk _ _ ⟨_, ea_rl_s1 h1 _ hv, h3⟩ hs1)
      · cases hp
    · cases hp
  | istore_n k =>
    obtain rfl : 1 = len := by simpa [ea_len] using hlen
    simp only [ea_p] at hp
    split at hp
    · split at hp
      · rename_i a S hk
        cases hp
        obtain ⟨v, t, rfl, ⟨x, rfl, hx⟩, hs1⟩ := ea_pop hs
        obtain ⟨vl, h1, h2⟩ := hl
        exact lv_istore_n hexec hb hdg rfl h2 hk rfl (fun ls' h3 => kk _ _ ⟨_, ea_rl_s1 h1 _ ⟨_, rfl, hx⟩, h3⟩ hs1)
      · cases hp
    · cases hp
  | istore k =>
    obtain rfl : 2 = len := by simpa [ea_len] using hlen
    simp only [ea_p] at hp
    split at hp
    · split at hp
      · rename_i a S hk
        cases hp
        obtain ⟨v, t, rfl, ⟨x, rfl, hx⟩, hs1⟩ := ea_pop hs
        obtain ⟨vl, h1, h2⟩ := hl
        exact lv_istore hexec hb hdg h2 hk rfl (fun ls' h3 => kk _ _ ⟨_, ea_rl_s1 h1 _ ⟨_, rfl, hx⟩, h3⟩ hs1)
      · cases hp
    · cases hp
  | lstore_n k =>
    obtain rfl : 1 = len := by simpa [ea_len] using hlen
    simp only [ea_p] at hp
    split at hp
    · split at hp
      · rename_i a S hk
        cases hp
        obtain ⟨v, t, rfl, hv, hs1⟩ := ea_pop hs
        obtain ⟨vl, h1, h2⟩ := hl
        cases a with
        | none =>
          obtain ⟨x, rfl⟩ := hv
          exact lv_lstore_n hexec hb hdg rfl h2 hk rfl (fun ls' h3 => kk _ _ ⟨_, ea_rl_s2 h1 _ ⟨_, rfl⟩, h3⟩ hs1)
        | some y =>
          obtain rfl : v = .long y := hv
          exact lv_lstore_n hexec hb hdg rfl h2 hk rfl (fun ls' h3 => kk _ _ ⟨_, ea_rl_s2 h1 _ rfl, h3⟩ hs1)
      · cases hp
    · cases hp
  | lstore k =>
    obtain rfl : 2 = len := by simpa [ea_len] using hlen
    simp only [ea_p] at hp
    split at hp
    · split at hp
      · rename_i a S hk
        cases hp
        obtain ⟨v, t, rfl, hv, hs1⟩ := ea_pop hs
        obtain ⟨vl, h1, h2⟩ := hl
        cases a with
        | none =>
          obtain ⟨x, rfl⟩ := hv
          exact lv_lstore hexec hb hdg h2 hk rfl (fun ls' h3 => kk _ _ ⟨_, ea_rl_s2 h1 _ ⟨_, rfl⟩, h3⟩ hs1)
        | some y =>
          obtain rfl : v = .long y := hv
          exact lv_lstore hexec hb hdg h2 hk rfl (fun ls' h3 => kk _ _ ⟨_, ea_rl_s2 h1 _ rfl, h3⟩ hs1)
      · cases hp
    · cases hp
  | iinc k n =>
    obtain rfl : 3 = len := by simpa [ea_len] using hlen
    simp only [ea_p] at hp
    split at hp
    · split at hp
      · rename_i a hk hlt
        cases hp
        obtain ⟨vl, h1, h2⟩ := hl
        obtain ⟨j, hj⟩ := ea_lk_mem hk
        obtain ⟨⟨i', v⟩, h3, h4, x, h5, hx⟩ := ea_rl_get h1 hj
        dsimp only at h4 h5
        subst h4
        subst h5
        exact lv_iinc hexec hb hdg h2 h3 rfl hlt rfl (fun ls' h6 => kk _ _ ⟨_, ea_rl_s1 h1 _ ⟨_, rfl, iv_2_ok (f := fun x y => x + y) iv_addg_ok hx (rfl : ea_gi (.inl (Int32.ofInt n)) (Int32.ofInt n))⟩, h6⟩ hs)
      · cases hp
    · cases hp
  | iadd =>
    obtain rfl : 1 = len := by simpa [ea_len] using hlen
    simp only [ea_p] at hp
    split at hp
    · cases hp
      obtain ⟨_, _, rfl, ⟨y, rfl, hy⟩, hs1⟩ := ea_pop hs
      obtain ⟨_, _, rfl, ⟨x, rfl, hx⟩, hs2⟩ := ea_pop hs1
      exact lv_iadd hexec hb hdg (kk _ _ hl ⟨⟨_, rfl, iv_2_ok iv_addg_ok hx hy⟩, hs2⟩)
    · cases hp
  | isub =>
    obtain rfl : 1 = len := by simpa [ea_len] using hlen
    simp only [ea_p] at hp
    split at hp
    · cases hp
      obtain ⟨_, _, rfl, ⟨y, rfl, hy⟩, hs1⟩ := ea_pop hs
      obtain ⟨_, _, rfl, ⟨x, rfl, hx⟩, hs2⟩ := ea_pop hs1
      exact lv_isub hexec hb hdg (kk _ _ hl ⟨⟨_, rfl, iv_2_ok iv_subg_ok hx hy⟩, hs2⟩)
    · cases hp
  | imul =>
    obtain rfl : 1 = len := by simpa [ea_len] using hlen
    simp only [ea_p] at hp
    split at hp
    · cases hp
      obtain ⟨_, _, rfl, ⟨y, rfl, hy⟩, hs1⟩ := ea_pop hs
      obtain ⟨_, _, rfl, ⟨x, rfl, hx⟩, hs2⟩ := ea_pop hs1
      exact lv_imul hexec hb hdg (kk _ _ hl ⟨⟨_, rfl, iv_2_ok iv_mulg_ok hx hy⟩, hs2⟩)
    · cases hp
  | iand =>
    obtain rfl : 1 = len := by simpa [ea_len] using hlen
    simp only [ea_p] at hp
    split at hp
    · cases hp
      obtain ⟨_, _, rfl, ⟨y, rfl, hy⟩, hs1⟩ := ea_pop hs
      obtain ⟨_, _, rfl, ⟨x, rfl, hx⟩, hs2⟩ := ea_pop hs1
      exact lv_iand hexec hb hdg (kk _ _ hl ⟨⟨_, rfl, iv_2_ok iv_andg_ok hx hy⟩, hs2⟩)
    · cases hp
  | ior =>
    obtain rfl : 1 = len := by simpa [ea_len] using hlen
    simp only [ea_p] at hp
    split at hp
    · cases hp
      obtain ⟨_, _, rfl, ⟨y, rfl, hy⟩, hs1⟩ := ea_pop hs
      obtain ⟨_, _, rfl, ⟨x, rfl, hx⟩, hs2⟩ := ea_pop hs1
      exact lv_ior hexec hb hdg (kk _ _ hl ⟨⟨_, rfl, iv_2_ok iv_org_ok hx hy⟩, hs2⟩)
    · cases hp
  | ixor =>
    obtain rfl : 1 = len := by simpa [ea_len] using hlen
    simp only [ea_p] at hp
    split at hp
    · cases hp
      obtain ⟨_, _, rfl, ⟨y, rfl, hy⟩, hs1⟩ := ea_pop hs
      obtain ⟨_, _, rfl, ⟨x, rfl, hx⟩, hs2⟩ := ea_pop hs1
      exact lv_ixor hexec hb hdg (kk _ _ hl ⟨⟨_, rfl, iv_2_ok iv_xorg_ok hx hy⟩, hs2⟩)
    · cases hp
  | ishl =>
    obtain rfl : 1 = len := by simpa [ea_len] using hlen
    simp only [ea_p] at hp
    split at hp
    · cases hp
      obtain ⟨_, _, rfl, ⟨y, rfl, hy⟩, hs1⟩ := ea_pop hs
      obtain ⟨_, _, rfl, ⟨x, rfl, hx⟩, hs2⟩ := ea_pop hs1
      exact lv_ishl hexec hb hdg (kk _ _ hl ⟨⟨_, rfl, iv_2_ok iv_shlg_ok hx hy⟩, hs2⟩)
    · cases hp
  | ishr =>
    obtain rfl : 1 = len := by simpa [ea_len] using hlen
    simp only [ea_p] at hp
    split at hp
    · cases hp
      obtain ⟨_, _, rfl, ⟨y, rfl, hy⟩, hs1⟩ := ea_pop hs
      obtain ⟨_, _, rfl, ⟨x, rfl, hx⟩, hs2⟩ := ea_pop hs1
      exact lv_ishr hexec hb hdg (kk _ _ hl ⟨⟨_, rfl, ea_i2_ok (fun x y => x >>> (y &&& 31)) hx hy⟩, hs2⟩)
    · cases hp
  | iushr =>
    obtain rfl : 1 = len := by simpa [ea_len] using hlen
    simp only [ea_p] at hp
    split at hp
    · cases hp
      obtain ⟨_, _, rfl, ⟨y, rfl, hy⟩, hs1⟩ := ea_pop hs
      obtain ⟨_, _, rfl, ⟨x, rfl, hx⟩, hs2⟩ := ea_pop hs1
      exact lv_iushr hexec hb hdg rfl (kk _ _ hl ⟨⟨_, rfl, ea_i2_ok (fun x y => (x.toUInt32 >>> (y.toUInt32 &&& Int32.toUInt32 31)).toInt32) hx hy⟩, hs2⟩)
    · cases hp
  | ineg =>
    obtain rfl : 1 = len := by simpa [ea_len] using hlen
    simp only [ea_p] at hp
    split at hp
    · cases hp
      obtain ⟨_, _, rfl, ⟨x, rfl, hx⟩, hs1⟩ := ea_pop hs
      exact lv_ineg hexec hb hdg (kk _ _ hl ⟨⟨_, rfl, ea_i1_ok (fun x => -x) hx⟩, hs1⟩)
    · cases hp
  | idiv =>
    obtain rfl : 1 = len := by simpa [ea_len] using hlen
    simp only [ea_p] at hp
    split at hp
    · split at hp
      · rename_i b a S h0
        cases hp
        obtain ⟨_, _, rfl, ⟨z, rfl, hy⟩, hs1⟩ := ea_pop hs
        obtain ⟨_, _, rfl, ⟨x, rfl, hx⟩, hs2⟩ := ea_pop hs1
        exact lv_idiv hexec hb hdg (iv_nz_ok h0 hy) (kk _ _ hl ⟨⟨_, rfl, iv_2_ok iv_divg_ok hx hy⟩, hs2⟩)
      · cases hp
    · cases hp
  | irem =>
    obtain rfl : 1 = len := by simpa [ea_len] using hlen
    simp only [ea_p] at hp
    split at hp
    · split at hp
      · rename_i b a S h0
        cases hp
        obtain ⟨_, _, rfl, ⟨z, rfl, hy⟩, hs1⟩ := ea_pop hs
        obtain ⟨_, _, rfl, ⟨x, rfl, hx⟩, hs2⟩ := ea_pop hs1
        exact lv_irem hexec hb hdg (iv_nz_ok h0 hy) (kk _ _ hl ⟨⟨_, rfl, iv_2_ok iv_remg_ok hx hy⟩, hs2⟩)
      · cases hp
    · cases hp
  | i2c =>
    obtain rfl : 1 = len := by simpa [ea_len] using hlen
    simp only [ea_p] at hp
    split at hp
    · cases hp
      obtain ⟨_, _, rfl, ⟨x, rfl, hx⟩, hs1⟩ := ea_pop hs
      exact lv_i2c hexec hb hdg rfl (kk _ _ hl ⟨⟨_, rfl, ch_1_ok hx⟩, hs1⟩)
    · cases hp
  | i2b =>
    obtain rfl : 1 = len := by simpa [ea_len] using hlen
    simp only [ea_p] at hp
    split at hp
    · cases hp
      obtain ⟨_, _, rfl, ⟨x, rfl, hx⟩, hs1⟩ := ea_pop hs
      exact lv_i2b hexec hb hdg rfl (kk _ _ hl ⟨⟨_, rfl, iv_by_ok hx⟩, hs1⟩)
    · cases hp
  | i2l =>
    obtain rfl : 1 = len := by simpa [ea_len] using hlen
    simp only [ea_p] at hp
    split at hp
    · cases hp
      obtain ⟨_, _, rfl, ⟨x, rfl, hx⟩, hs1⟩ := ea_pop hs
      obtain rfl : x = _ := hx
      exact lv_i2l hexec hb hdg rfl (kk _ _ hl ⟨rfl, hs1⟩)
    · cases hp
      obtain ⟨_, _, rfl, ⟨x, rfl, hx⟩, hs1⟩ := ea_pop hs
      exact lv_i2l hexec hb hdg rfl (kk _ _ hl ⟨⟨_, rfl⟩, hs1⟩)
    · cases hp
  | l2i =>
    obtain rfl : 1 = len := by simpa [ea_len] using hlen
    simp only [ea_p] at hp
    split at hp
    · rename_i x S
      cases hp
      obtain ⟨v, _, rfl, hv, hs1⟩ := ea_pop hs
      obtain rfl : v = .long x := hv
      exact lv_l2i hexec hb hdg rfl (kk _ _ hl ⟨⟨_, rfl, rfl⟩, hs1⟩)
    · cases hp
      obtain ⟨_, _, rfl, ⟨x, rfl⟩, hs1⟩ := ea_pop hs
      exact lv_l2i hexec hb hdg rfl (kk _ _ hl ⟨⟨_, rfl, ea_any_ok _⟩, hs1⟩)
    · cases hp
  | ladd =>
    obtain rfl : 1 = len := by simpa [ea_len] using hlen
    simp only [ea_p] at hp
    split at hp
    · cases hp
      obtain ⟨_, _, rfl, hv, hs1⟩ := ea_pop hs
      obtain ⟨y, rfl, hy⟩ := ea_gl hv
      obtain ⟨_, _, rfl, hv, hs2⟩ := ea_pop hs1
      obtain ⟨x, rfl, hx⟩ := ea_gl hv
      exact lv_ladd hexec hb hdg (kk _ _ hl ⟨ea_lg (ea_l2_ok (fun x y => x + y) hx hy), hs2⟩)
    · cases hp
  | lsub =>
    obtain rfl : 1 = len := by simpa [ea_len] using hlen
    simp only [ea_p] at hp
    split at hp
    · cases hp
      obtain ⟨_, _, rfl, hv, hs1⟩ := ea_pop hs
      obtain ⟨y, rfl, hy⟩ := ea_gl hv
      obtain ⟨_, _, rfl, hv, hs2⟩ := ea_pop hs1
      obtain ⟨x, rfl, hx⟩ := ea_gl hv
      exact lv_lsub hexec hb hdg (kk _ _ hl ⟨ea_lg (ea_l2_ok (fun x y => x - y) hx hy), hs2⟩)
    · cases hp
  | land =>
    obtain rfl : 1 = len := by simpa [ea_len] using hlen
    simp only [ea_p] at hp
    split at hp
    · cases hp
      obtain ⟨_, _, rfl, hv, hs1⟩ := ea_pop hs
      obtain ⟨y, rfl, hy⟩ := ea_gl hv
      obtain ⟨_, _, rfl, hv, hs2⟩ := ea_pop hs1
      obtain ⟨x, rfl, hx⟩ := ea_gl hv
      exact lv_land hexec hb hdg (kk _ _ hl ⟨ea_lg (ea_l2_ok (fun x y => x &&& y) hx hy), hs2⟩)
    · cases hp
  | lor =>
    obtain rfl : 1 = len := by simpa [ea_len] using hlen
    simp only [ea_p] at hp
    split at hp
    · cases hp
      obtain ⟨_, _, rfl, hv, hs1⟩ := ea_pop hs
      obtain ⟨y, rfl, hy⟩ := ea_gl hv
      obtain ⟨_, _, rfl, hv, hs2⟩ := ea_pop hs1
      obtain ⟨x, rfl, hx⟩ := ea_gl hv
      exact lv_lor hexec hb hdg (kk _ _ hl ⟨ea_lg (ea_l2_ok (fun x y => x ||| y) hx hy), hs2⟩)
    · cases hp
  | lxor =>
    obtain rfl : 1 = len := by simpa [ea_len] using hlen
    simp only [ea_p] at hp
    split at hp
    · cases hp
      obtain ⟨_, _, rfl, hv, hs1⟩ := ea_pop hs
      obtain ⟨y, rfl, hy⟩ := ea_gl hv
      obtain ⟨_, _, rfl, hv, hs2⟩ := ea_pop hs1
      obtain ⟨x, rfl, hx⟩ := ea_gl hv
      exact lv_lxor hexec hb hdg (kk _ _ hl ⟨ea_lg (ea_l2_ok (fun x y => x ^^^ y) hx hy), hs2⟩)
    · cases hp
  | lshl =>
    obtain rfl : 1 = len := by simpa [ea_len] using hlen
    simp only [ea_p] at hp
    split at hp
    · rename_i y x S
      cases hp
      obtain ⟨_, _, rfl, ⟨z, rfl, hz⟩, hs1⟩ := ea_pop hs
      obtain ⟨v, _, rfl, hv, hs2⟩ := ea_pop hs1
      obtain rfl : z = y := hz
      obtain rfl : v = .long x := hv
      exact lv_lshl hexec hb hdg rfl (kk _ _ hl ⟨rfl, hs2⟩)
    · cases hp
      obtain ⟨_, _, rfl, ⟨z, rfl, hz⟩, hs1⟩ := ea_pop hs
      obtain ⟨_, _, rfl, hv, hs2⟩ := ea_pop hs1
      obtain ⟨x, rfl, hx⟩ := ea_gl hv
      exact lv_lshl hexec hb hdg rfl (kk _ _ hl ⟨⟨_, rfl⟩, hs2⟩)
    · cases hp
  | lshr =>
    obtain rfl : 1 = len := by simpa [ea_len] using hlen
    simp only [ea_p] at hp
    split at hp
    · rename_i y x S
      cases hp
      obtain ⟨_, _, rfl, ⟨z, rfl, hz⟩, hs1⟩ := ea_pop hs
      obtain ⟨v, _, rfl, hv, hs2⟩ := ea_pop hs1
      obtain rfl : z = y := hz
      obtain rfl : v = .long x := hv
      exact lv_lshr hexec hb hdg rfl (kk _ _ hl ⟨rfl, hs2⟩)
    · cases hp
      obtain ⟨_, _, rfl, ⟨z, rfl, hz⟩, hs1⟩ := ea_pop hs
      obtain ⟨_, _, rfl, hv, hs2⟩ := ea_pop hs1
      obtain ⟨x, rfl, hx⟩ := ea_gl hv
      exact lv_lshr hexec hb hdg rfl (kk _ _ hl ⟨⟨_, rfl⟩, hs2⟩)
    · cases hp
  | lushr =>
    obtain rfl : 1 = len := by simpa [ea_len] using hlen
    simp only [ea_p] at hp
    split at hp
    · rename_i y x S
      cases hp
      obtain ⟨_, _, rfl, ⟨z, rfl, hz⟩, hs1⟩ := ea_pop hs
      obtain ⟨v, _, rfl, hv, hs2⟩ := ea_pop hs1
      obtain rfl : z = y := hz
      obtain rfl : v = .long x := hv
      exact lv_lushr hexec hb hdg rfl (kk _ _ hl ⟨rfl, hs2⟩)
    · cases hp
      obtain ⟨_, _, rfl, ⟨z, rfl, hz⟩, hs1⟩ := ea_pop hs
      obtain ⟨_, _, rfl, hv, hs2⟩ := ea_pop hs1
      obtain ⟨x, rfl, hx⟩ := ea_gl hv
      exact lv_lushr hexec hb hdg rfl (kk _ _ hl ⟨⟨_, rfl⟩, hs2⟩)
    · cases hp
  | lcmp =>
    obtain rfl : 1 = len := by simpa [ea_len] using hlen
    simp only [ea_p] at hp
    split at hp
    · rename_i y x S
      cases hp
      obtain ⟨v, _, rfl, hv, hs1⟩ := ea_pop hs
      obtain ⟨u, _, rfl, hu, hs2⟩ := ea_pop hs1
      obtain rfl : v = .long y := hv
      obtain rfl : u = .long x := hu
      exact W.lcmp hexec hb hdg (kk _ _ hl ⟨⟨_, rfl, rfl⟩, hs2⟩)
    · cases hp
      obtain ⟨_, _, rfl, hv, hs1⟩ := ea_pop hs
      obtain ⟨y, rfl, -⟩ := ea_gl hv
      obtain ⟨_, _, rfl, hv, hs2⟩ := ea_pop hs1
      obtain ⟨x, rfl, -⟩ := ea_gl hv
      exact W.lcmp hexec hb hdg (kk _ _ hl ⟨⟨_, rfl, ea_any_ok _⟩, hs2⟩)
    · cases hp
  | dup =>
    obtain rfl : 1 = len := by simpa [ea_len] using hlen
    simp only [ea_p] at hp
    split at hp
    · split at hp
      · rename_i a S h1
        cases hp
        obtain ⟨v, _, rfl, hv, hs1⟩ := ea_pop hs
        exact lv_dup hexec hb hdg ((ea_gv_cat hv).trans h1) (kk _ _ hl ⟨hv, hv, hs1⟩)
      · cases hp
    · cases hp
  | pop =>
    obtain rfl : 1 = len := by simpa [ea_len] using hlen
    simp only [ea_p] at hp
    split at hp
    · split at hp
      · rename_i a S h1
        cases hp
        obtain ⟨v, _, rfl, hv, hs1⟩ := ea_pop hs
        exact lv_pop hexec hb hdg ((ea_gv_cat hv).trans h1) (kk _ _ hl hs1)
      · cases hp
    · cases hp
  | pop2 =>
    obtain rfl : 1 = len := by simpa [ea_len] using hlen
    simp only [ea_p] at hp
    split at hp
    · split at hp
      · rename_i a S h1
        cases hp
        obtain ⟨v, _, rfl, hv, hs1⟩ := ea_pop hs
        exact lv_pop2_2 hexec hb hdg ((ea_gv_cat hv).trans h1) (kk _ _ hl hs1)
      · cases hp
    · cases hp
  | dup_x1 =>
    obtain rfl : 1 = len := by simpa [ea_len] using hlen
    simp only [ea_p] at hp
    split at hp
    · split at hp
      · rename_i a b S h1
        cases hp
        obtain ⟨v, _, rfl, hv, hs1⟩ := ea_pop hs
        obtain ⟨u, _, rfl, hu, hs2⟩ := ea_pop hs1
        exact lv_dup_x1 hexec hb hdg ((ea_gv_cat hv).trans h1.1) ((ea_gv_cat hu).trans h1.2) (kk _ _ hl ⟨hv, hu, hv, hs2⟩)
      · cases hp
    · cases hp
  | dup_x2 =>
    obtain rfl : 1 = len := by simpa [ea_len] using hlen
    simp only [ea_p] at hp
    split at hp
    · split at hp
      · rename_i a b d S h1
        cases hp
        obtain ⟨v, _, rfl, hv, hs1⟩ := ea_pop hs
        obtain ⟨u, _, rfl, hu, hs2⟩ := ea_pop hs1
        obtain ⟨r, _, rfl, hr, hs3⟩ := ea_pop hs2
        exact lv_dup_x2 hexec hb hdg ((ea_gv_cat hv).trans h1.1) ((ea_gv_cat hu).trans h1.2.1) ((ea_gv_cat hr).trans h1.2.2) (kk _ _ hl ⟨hv, hu, hr, hv, hs3⟩)
      · cases hp
    · cases hp
  | dup2 =>
    obtain rfl : 1 = len := by simpa [ea_len] using hlen
    simp only [ea_p] at hp
    split at hp
    · split at hp
      · rename_i a b S h1
        cases hp
        obtain ⟨v, _, rfl, hv, hs1⟩ := ea_pop hs
        obtain ⟨u, _, rfl, hu, hs2⟩ := ea_pop hs1
        exact lv_dup2_11 hexec hb hdg ((ea_gv_cat hv).trans h1.1) ((ea_gv_cat hu).trans h1.2) (kk _ _ hl ⟨hv, hu, hv, hu, hs2⟩)
      · cases hp
    · cases hp
  | goto off =>
    obtain rfl : 3 = len := by simpa [ea_len] using hlen
    simp only [ea_p] at hp
    split at hp
    · rename_i t ht
      cases hp
      exact lv_goto hexec hb hdg (ea_to_ok ht) (kk _ _ hl hs)
    · cases hp
  | ifCond cnd off =>
    obtain rfl : 3 = len := by simpa [ea_len] using hlen
    simp only [ea_p] at hp
    split at hp
    · split at hp
      · rename_i hc ht
        cases hp
        obtain ⟨_, _, rfl, ⟨x, rfl, hx⟩, hs1⟩ := ea_pop hs
        have hq := ea_if_ok hc hx (rfl : ea_gi (.inl 0) 0)
        cases cnd with
        | eq => exact lv_if_eq hexec hb hdg (ea_to_ok ht) (fun _ => kk _ _ hl hs1) (fun h => absurd (hq.mpr rfl) (by simpa [ea_cp] using h))
        | ne => exact lv_if_ne hexec hb hdg (ea_to_ok ht) (fun _ => kk _ _ hl hs1) (fun h => absurd (hq.mpr rfl) (by simpa [ea_cp] using h))
        | lt => exact lv_if_lt hexec hb hdg (ea_to_ok ht) (fun _ => kk _ _ hl hs1) (fun h => absurd (hq.mpr rfl) (by simpa [ea_cp] using h))
        | ge => exact lv_if_ge hexec hb hdg (ea_to_ok ht) (fun _ => kk _ _ hl hs1) (fun h => absurd (hq.mpr rfl) (by simpa [ea_cp] using h))
        | gt => exact lv_if_gt hexec hb hdg (ea_to_ok ht) (fun _ => kk _ _ hl hs1) (fun h => absurd (hq.mpr rfl) (by simpa [ea_cp] using h))
        | le => exact lv_if_le hexec hb hdg (ea_to_ok ht) (fun _ => kk _ _ hl hs1) (fun h => absurd (hq.mpr rfl) (by simpa [ea_cp] using h))
      · rename_i hc ht
        cases hp
        obtain ⟨_, _, rfl, ⟨x, rfl, hx⟩, hs1⟩ := ea_pop hs
        have hq := ea_if_ok hc hx (rfl : ea_gi (.inl 0) 0)
        cases cnd with
        | eq => exact lv_if_eq hexec hb hdg (ea_to_ok ht) (fun h => absurd (hq.mp (by simpa [ea_cp] using h)) (by decide)) (fun _ => kk _ _ hl hs1)
        | ne => exact lv_if_ne hexec hb hdg (ea_to_ok ht) (fun h => absurd (hq.mp (by simpa [ea_cp] using h)) (by decide)) (fun _ => kk _ _ hl hs1)
        | lt => exact lv_if_lt hexec hb hdg (ea_to_ok ht) (fun h => absurd (hq.mp (by simpa [ea_cp] using h)) (by decide)) (fun _ => kk _ _ hl hs1)
        | ge => exact lv_if_ge hexec hb hdg (ea_to_ok ht) (fun h => absurd (hq.mp (by simpa [ea_cp] using h)) (by decide)) (fun _ => kk _ _ hl hs1)
        | gt => exact lv_if_gt hexec hb hdg (ea_to_ok ht) (fun h => absurd (hq.mp (by simpa [ea_cp] using h)) (by decide)) (fun _ => kk _ _ hl hs1)
        | le => exact lv_if_le hexec hb hdg (ea_to_ok ht) (fun h => absurd (hq.mp (by simpa [ea_cp] using h)) (by decide)) (fun _ => kk _ _ hl hs1)
      · cases hp
    · cases hp
  | if_icmp cnd off =>
    obtain rfl : 3 = len := by simpa [ea_len] using hlen
    simp only [ea_p] at hp
    split at hp
    · split at hp
      · rename_i hc ht
        cases hp
        obtain ⟨_, _, rfl, ⟨y, rfl, hy⟩, hs1⟩ := ea_pop hs
        obtain ⟨_, _, rfl, ⟨x, rfl, hx⟩, hs2⟩ := ea_pop hs1
        have hq := ea_if_ok hc hx hy
        cases cnd with
        | eq => exact lv_icmp_eq hexec hb hdg (ea_to_ok ht) (fun _ => kk _ _ hl hs2) (fun h => absurd (hq.mpr rfl) (by simpa [ea_cp] using h))
        | ne => exact lv_icmp_ne hexec hb hdg (ea_to_ok ht) (fun _ => kk _ _ hl hs2) (fun h => absurd (hq.mpr rfl) (by simpa [ea_cp] using h))
        | lt => exact lv_icmp_lt hexec hb hdg (ea_to_ok ht) (fun _ => kk _ _ hl hs2) (fun h => absurd (hq.mpr rfl) (by simpa [ea_cp] using h))
        | ge => exact lv_icmp_ge hexec hb hdg (ea_to_ok ht) (fun _ => kk _ _ hl hs2) (fun h => absurd (hq.mpr rfl) (by simpa [ea_cp] using h))
        | gt => exact lv_icmp_gt hexec hb hdg (ea_to_ok ht) (fun _ => kk _ _ hl hs2) (fun h => absurd (hq.mpr rfl) (by simpa [ea_cp] using h))
        | le => exact lv_icmp_le hexec hb hdg (ea_to_ok ht) (fun _ => kk _ _ hl hs2) (fun h => absurd (hq.mpr rfl) (by simpa [ea_cp] using h))
      · rename_i hc ht
        cases hp
        obtain ⟨_, _, rfl, ⟨y, rfl, hy⟩, hs1⟩ := ea_pop hs
        obtain ⟨_, _, rfl, ⟨x, rfl, hx⟩, hs2⟩ := ea_pop hs1
        have hq := ea_if_ok hc hx hy
        cases cnd with
        | eq => exact lv_icmp_eq hexec hb hdg (ea_to_ok ht) (fun h => absurd (hq.mp (by simpa [ea_cp] using h)) (by decide)) (fun _ => kk _ _ hl hs2)
        | ne => exact lv_icmp_ne hexec hb hdg (ea_to_ok ht) (fun h => absurd (hq.mp (by simpa [ea_cp] using h)) (by decide)) (fun _ => kk _ _ hl hs2)
        | lt => exact lv_icmp_lt hexec hb hdg (ea_to_ok ht) (fun h => absurd (hq.mp (by simpa [ea_cp] using h)) (by decide)) (fun _ => kk _ _ hl hs2)
        | ge => exact lv_icmp_ge hexec hb hdg (ea_to_ok ht) (fun h => absurd (hq.mp (by simpa [ea_cp] using h)) (by decide)) (fun _ => kk _ _ hl hs2)
        | gt => exact lv_icmp_gt hexec hb hdg (ea_to_ok ht) (fun h => absurd (hq.mp (by simpa [ea_cp] using h)) (by decide)) (fun _ => kk _ _ hl hs2)
        | le => exact lv_icmp_le hexec hb hdg (ea_to_ok ht) (fun h => absurd (hq.mp (by simpa [ea_cp] using h)) (by decide)) (fun _ => kk _ _ hl hs2)
      · cases hp
    · cases hp
  | tableswitch dflt lo hi offs =>
    simp only [ea_p] at hp
    split at hp
    · split at hp
      · rename_i off hw
        split at hp
        · rename_i t ht
          cases hp
          obtain ⟨_, _, rfl, ⟨x, rfl, hx⟩, hs1⟩ := ea_pop hs
          rcases ea_sw_ok hw hx with ⟨rfl, h1⟩ | ⟨h1, h2, h3⟩
          · exact lv_tableOut hexec hb hdg h1 (ea_to_ok ht) (kk _ _ hl hs1)
          · exact lv_tableIn hexec hb hdg h1 h2 h3 (ea_to_ok ht) (kk _ _ hl hs1)
        · cases hp
      · cases hp
    · cases hp
  | lookupswitch dflt ps =>
    simp only [ea_p] at hp
    split at hp
    · split at hp
      · rename_i x S ha
        split at hp
        · rename_i t ht
          cases hp
          obtain ⟨_, _, rfl, ⟨z, rfl, hz⟩, hs1⟩ := ea_pop hs
          obtain rfl : z = x := hz
          exact lv_lookup hexec hb hdg ha rfl (ea_to_ok ht) (kk _ _ hl hs1)
        · cases hp
      · cases hp
    · cases hp
  | _ => cases hp
end EAP
end
section
/-! THE ABSTRACT MACHINE, its cells -/
def ea_nt {α : Type} (l : List α) (n : Nat) : Option α := match l with
  | [] => none
  | a :: t => match n with
    | 0 => some a
    | k + 1 => ea_nt t k
theorem ea_nt_eq {α : Type} : ∀ (l : List α) (n : Nat), ea_nt l n = l[n]?
  | [], n => by simp [ea_nt]
  | a :: t, 0 => by simp [ea_nt]
  | a :: t, k + 1 => by simp [ea_nt, ea_nt_eq t k]
def ea_al (d : AV) (us : List (Nat × AV)) (j : Nat) : AV := match us with
  | [] => d
  | q :: t => bif Nat.beq q.1 j then q.2 else ea_al d t j
theorem ea_al_at (d : AV) (us : List (Nat × AV)) (k : Nat) (v : AV) (j : Nat) : ea_al d ((k, v) :: us) j = if j = k then v else ea_al d us j := by
  show (bif Nat.beq k j then v else ea_al d us j) = _
  by_cases h : j = k
  · subst h
    rw [if_pos rfl, Nat.beq_refl]
    rfl
  · rw [if_neg h]
    cases hb : Nat.beq k j with
    | true => exact absurd (Nat.eq_of_beq_eq_true hb).symm h
    | false => rfl
/-- an index within an array's length -/
def ea_ix (i : AI) (n : Nat) : Option Nat := match i with
  | .inl x => if 0 ≤ x.toInt ∧ x.toInt < n then some x.toNatClampNeg else none
  | .inr _ => none
theorem ea_ix_ok {i : AI} {n j : Nat} (h : ea_ix i n = some j) {x : Int32} (hx : ea_gi i x) : vp_in x n ∧ x.toNatClampNeg = j ∧ j < n := by
  match i, h, hx with
  | .inl y, h, hx =>
    obtain rfl : x = y := hx
    simp only [ea_ix] at h
    split at h
    · rename_i hin
      cases h
      have h1 := vp_in_iff.mpr hin
      exact ⟨h1, rfl, Nat.not_le.mp fun q => h1 (Or.inr q)⟩
    · cases h
/-- the type of an array's elements, by its kind -/
def ea_ty (cl : List vw_C) (t : Nat) : FieldType := match t with
  | 0 => .int
  | 1 => .long
  | 2 => .byte
  | n + 3 => .object (((cl[n]?).map (fun q => q.1)).getD "")
def ea_AT (cl : List vw_C) (U : State) (t : Nat) (cA : ClassId) : Prop := ArrOfT U cA (ea_ty cl t) ∧ va_RA U cA (ea_ty cl t)
def ea_cv (x : (Nat → Int32) ⊕ (Nat → Int64) ⊕ (Nat → UInt32) ⊕ (Nat → UInt64) ⊕ (Nat → Option Nat)) (j : Nat) : Value := match x with
  | .inl f => .int (f j)
  | .inr (.inl f) => .long (f j)
  | .inr (.inr (.inl f)) => .float (f j)
  | .inr (.inr (.inr (.inl f))) => .double (f j)
  | .inr (.inr (.inr (.inr f))) => va_rf (f j)
def ea_kd (t : Nat) (x : (Nat → Int32) ⊕ (Nat → Int64) ⊕ (Nat → UInt32) ⊕ (Nat → UInt64) ⊕ (Nat → Option Nat)) : Prop := match t with
  | 0 => ∃ f, x = .inl f
  | 1 => ∃ f, x = .inr (.inl f)
  | 2 => ∃ f, x = .inl f
  | _ + 3 => ∃ f, x = .inr (.inr (.inr (.inr f)))
/-- a cell and what it may be -/
def ea_gc (cl : List vw_C) (U : State) (ad : SB × List Nat) (c : AC) (E : va_E) : Prop := match c, E with
  | .inl q, .inl a => a.2.1 = q.2.1 ∧ ea_AT cl U q.1 a.1 ∧ ea_kd q.1 a.2.2 ∧ ∀ j, j < q.2.1 → ea_gv ad (ea_al q.2.2.1 q.2.2.2 j) (ea_cv a.2.2 j)
  | .inr o, .inr b => o.1 = b.1 ∧ ea_rl (ea_gv ad) o.2 b.2
  | _, _ => False
theorem ea_AT_moved {cl : List vw_C} {u U : State} (hvm : u.vm.Alike U.vm) {t : Nat} {cA : ClassId} (h : ea_AT cl u t cA) : ea_AT cl U t cA := ⟨arrOfT_moved hvm h.1, h.2.moved hvm⟩
theorem ea_gc_moved {cl : List vw_C} {u U : State} (hvm : u.vm.Alike U.vm) {ad : SB × List Nat} {c : AC} {E : va_E} (h : ea_gc cl u ad c E) : ea_gc cl U ad c E := by
  match c, E, h with
  | .inl q, .inl a, h => exact ⟨h.1, ea_AT_moved hvm h.2.1, h.2.2⟩
  | .inr o, .inr b, h => exact h
theorem ea_gc_mono {cl : List vw_C} {U : State} {ad ad' : SB × List Nat} (hp : ad.1 = ad'.1 ∧ ∀ k q : Nat, ad.2[k]? = some q → ad'.2[k]? = some q) {c : AC} {E : va_E} (h : ea_gc cl U ad c E) : ea_gc cl U ad' c E := by
  match c, E, h with
  | .inl q, .inl a, h => exact ⟨h.1, h.2.1, h.2.2.1, fun j hj => ea_gv_mono hp (h.2.2.2 j hj)⟩
  | .inr o, .inr b, h => exact ⟨h.1, ea_rl_mono (fun a b hab => ea_gv_mono hp hab) h.2⟩
/-- the heap: the cells of the abstract machine are those of the world, place by place -/
def ea_H (cl : List vw_C) (U : State) (sb : SB) (C : List AC) (ws : va_W) : Prop := ea_rl (fun c (q : Nat × va_E) => ea_gc cl U (sb, ws.map Prod.fst) c q.2) C ws
theorem ea_map_set {ws : va_W} {q0 a : Nat} {E E' : va_E} (h : ws[q0]? = some (a, E)) : (ws.set q0 (a, E')).map Prod.fst = ws.map Prod.fst := by
  apply List.ext_getElem?
  intro n
  rw [List.getElem?_map, List.getElem?_map, List.getElem?_set]
  by_cases hn : q0 = n
  · subst hn
    have hl : q0 < ws.length := (List.getElem?_eq_some_iff.mp h).1
    rw [if_pos rfl, if_pos hl, h]
    rfl
  · rw [if_neg hn]
theorem ea_H_moved {cl : List vw_C} {u U : State} (hvm : u.vm.Alike U.vm) {sb : SB} {C : List AC} {ws : va_W} (h : ea_H cl u sb C ws) : ea_H cl U sb C ws := ea_rl_mono (fun _ _ hq => ea_gc_moved hvm hq) h
theorem ea_H_get {cl : List vw_C} {U : State} {sb : SB} {C : List AC} {ws : va_W} (h : ea_H cl U sb C ws) {k : Nat} {c : AC} (hc : ea_nt C k = some c) : ∃ a E, ws[k]? = some (a, E) ∧ ea_gc cl U (sb, ws.map Prod.fst) c E ∧ (ws.map Prod.fst)[k]? = some a := by
  rw [ea_nt_eq] at hc
  obtain ⟨⟨a, E⟩, h1, h2⟩ := ea_rl_get h hc
  exact ⟨a, E, h1, h2, by rw [List.getElem?_map, h1]; rfl⟩
theorem ea_H_set {cl : List vw_C} {U : State} {sb : SB} {C : List AC} {ws : va_W} (h : ea_H cl U sb C ws) {k a : Nat} {E E' : va_E} (hk : ws[k]? = some (a, E)) {c : AC} (hc : ea_gc cl U (sb, ws.map Prod.fst) c E') : ea_H cl U sb (C.set k c) (ws.set k (a, E')) := by
  unfold ea_H
  rw [ea_map_set hk]
  exact ea_rl_set h k hc
theorem ea_map_push {ws : va_W} {x : Nat × va_E} {sb : SB} : (sb, ws.map Prod.fst).1 = (sb, (ws ++ [x]).map Prod.fst).1 ∧ ∀ k q : Nat, (sb, ws.map Prod.fst).2[k]? = some q → (sb, (ws ++ [x]).map Prod.fst).2[k]? = some q := by
  refine ⟨rfl, fun k q h => ?_⟩
  show ((ws ++ [x]).map Prod.fst)[k]? = some q
  have hl : k < (ws.map Prod.fst).length := (List.getElem?_eq_some_iff.mp h).1
  rw [List.map_append, List.getElem?_append_left hl]
  exact h
theorem ea_H_push {cl : List vw_C} {U : State} {sb : SB} {C : List AC} {ws : va_W} (h : ea_H cl U sb C ws) {a : Nat} {E : va_E} {c : AC} (hc : ea_gc cl U (sb, (ws ++ [(a, E)]).map Prod.fst) c E) : ea_H cl U sb (C ++ [c]) (ws ++ [(a, E)]) :=
  ea_rl_app (ea_rl_mono (fun _ _ hq => ea_gc_mono ea_map_push hq) h) ⟨hc, trivial⟩
theorem ea_at_push {ws : va_W} {C : List AC} {cl : List vw_C} {U : State} {sb : SB} {a : Nat} {E : va_E} (h : ea_H cl U sb C ws) : ((ws ++ [(a, E)]).map Prod.fst)[C.length]? = some a := by
  rw [ea_rl_len h, List.getElem?_map, List.getElem?_append_right (Nat.le_refl _), Nat.sub_self]
  rfl
end
section
/-! THE ABSTRACT MACHINE, its instructions on cells. pl: what a pool entry is (0: a field: class, place (not final); 5: a class to be made; 6: an int; 7: a long; 10: the class of an array's elements); fty: the kind of a field (0 int, 1 long, 2 boolean, 3 a reference); 20: a final field, 21: one of the own class -/
def ea_fit (t : Nat) (a : AV) : Bool := match t, a with
  | 0, .inl _ => true
  | 1, .inr (.inr (.inl _)) => true
  | 2, .inl (.inl x) => decide (x = 0) || decide (x = 1)
  | 3, .inr (.inl _) => true
  | _, _ => false
def ea_d (t : Nat) : AV := match t with
  | 1 => .inr (.inr (.inl (some 0)))
  | 3 => .inr (.inl none)
  | _ => .inl (.inl 0)
def ea_df (fty : Nat → Nat → Nat) (ci n : Nat) : List AV := (List.range n).map (fun k => ea_d (fty ci k))
/-- a field that may be read -/
def ea_rd (r : Option (Nat × Nat × Nat)) : Option (Nat × Nat) := match r with
  | some (0, q) => some q
  | some (20, q) => some q
  | some (21, q) => some q
  | _ => none
/-- a field that may be written: ini: in a constructor -/
def ea_wr (ini : Bool) (r : Option (Nat × Nat × Nat)) : Option (Nat × Nat) := match r with
  | some (0, q) => some q
  | some (21, q) => bif ini then some q else none
  | _ => none
/-- a text as a number: its length, its bytes -/
def sx_len (c : Nat) : Nat := Nat.log2 c / 8
def sx_ch (c j : Nat) : Nat := c >>> (8 * j) % 256
/-- a field of a String: 0 its bytes, else its coder -/
def sx_f (r : Option (Nat × Nat × Nat)) (q : Nat) : Option AV := match r with
  | some (24, 0, _) => bif Nat.beq (q % 2) 0 then some (.inr (.inr (.inr (.inr (q + 1))))) else none
  | some (24, _ + 1, _) => bif Nat.beq (q % 2) 0 then some (.inl (.inl 0)) else none
  | _ => none
def ea_h (ini : Bool) (pl : Nat → Option (Nat × Nat × Nat)) (fty : Nat → Nat → Nat) (scr : Option (List AI)) (i : Instr) (pc : Nat) (S : List AV) (C : List AC) : Option (Nat × List AV × Option (List AC) × Nat × Nat) :=
  match i with
  | .getfield x => match ea_rd (pl x), S with
    | some (ci, k), .inr (.inl (some a)) :: S => match ea_nt C a with
      | some (.inr o) => bif Nat.beq o.1 ci then match ea_nt o.2 k with
          | some v => some (pc + 3, v :: S, none, 0, 0)
          | none => none
        else none
      | _ => none
    | none, .inr (.inr (.inr (.inr (q + 1)))) :: S => match sx_f (pl x) (q + 1) with
      | some v => some (pc + 3, v :: S, none, 0, 0)
      | none => none
    | _, _ => none
  | .getstatic x => match pl x with
    | some (25, _, _) => some (pc + 3, .inl (.inl 1) :: S, none, 0, 0)
    | some (27, _, _) => some (pc + 3, .inr (.inr (.inr (.inr 0))) :: S, none, 0, 0)
    | _ => none
  | .putfield x => match ea_wr ini (pl x), S with
    | some (ci, k), v :: .inr (.inl (some a)) :: S => match ea_nt C a with
      | some (.inr o) => bif Nat.beq o.1 ci && (ea_fit (fty ci k) v && Nat.blt k o.2.length) then some (pc + 3, S, some (C.set a (.inr (ci, o.2.set k v))), 0, 0) else none
      | _ => none
    | _, _ => none
  | .new x => match pl x with
    | some (5, ci, n) => some (pc + 3, .inr (.inl (some C.length)) :: S, some (C ++ [.inr (ci, ea_df fty ci n)]), 1, n)
    | some (22, ci, n) => some (pc + 3, .inr (.inl (some C.length)) :: S, some (C ++ [.inr (ci, ea_df fty ci n)]), 1, n)
    | _ => none
  | .newarray t => match S with
    | .inl (.inl x) :: S => if 0 ≤ x.toInt ∧ x.toInt ≤ 65536 then match t with
        | .int => some (pc + 2, .inr (.inl (some C.length)) :: S, some (C ++ [.inl (0, x.toNatClampNeg, .inl (.inl 0), [])]), 1, x.toNatClampNeg)
        | .long => some (pc + 2, .inr (.inl (some C.length)) :: S, some (C ++ [.inl (1, x.toNatClampNeg, .inr (.inr (.inl (some 0))), [])]), 1, x.toNatClampNeg)
        | .byte => some (pc + 2, .inr (.inl (some C.length)) :: S, some (C ++ [.inl (2, x.toNatClampNeg, .inl (.inl 0), [])]), 1, x.toNatClampNeg)
        | _ => none
      else none
    | _ => none
  | .anewarray x => match pl x, S with
    | some (10, ci, _), .inl (.inl x) :: S => if 0 ≤ x.toInt ∧ x.toInt ≤ 65536 then some (pc + 3, .inr (.inl (some C.length)) :: S, some (C ++ [.inl (ci + 3, x.toNatClampNeg, .inr (.inl none), [])]), 1, x.toNatClampNeg) else none
    | some (22, ci, _), .inl (.inl x) :: S => if 0 ≤ x.toInt ∧ x.toInt ≤ 65536 then some (pc + 3, .inr (.inl (some C.length)) :: S, some (C ++ [.inl (ci + 3, x.toNatClampNeg, .inr (.inl none), [])]), 1, x.toNatClampNeg) else none
    | _, _ => none
  | .arraylength => match S with
    | .inr (.inl (some a)) :: S => match ea_nt C a with
      | some (.inl q) => some (pc + 1, .inl (.inl (Int32.ofNat q.2.1)) :: S, none, 0, 0)
      | _ => none
    | .inr (.inr (.inr (.inl true))) :: S => match scr with
      | some X => some (pc + 1, .inl (.inl (Int32.ofNat X.length)) :: S, none, 0, 0)
      | none => none
    | .inr (.inr (.inr (.inr (q + 1)))) :: S => bif Nat.beq ((q + 1) % 2) 1 then some (pc + 1, .inl (.inl (Int32.ofNat (sx_len ((q + 1) / 128)))) :: S, none, 0, 0) else none
    | _ => none
  | .iaload => match S with
    | .inl i :: .inr (.inl (some a)) :: S => match ea_nt C a with
      | some (.inl (0, n, d, us)) => match ea_ix i n with
        | some j => match ea_al d us j with
          | .inl v => some (pc + 1, .inl v :: S, none, 0, 0)
          | _ => none
        | none => none
      | _ => none
    | .inl i :: .inr (.inr (.inr (.inl true))) :: S => match scr with
      | some X => match ea_ix i X.length with
        | some j => match ea_nt X j with
          | some v => some (pc + 1, .inl v :: S, none, 0, 0)
          | none => none
        | none => none
      | none => none
    | _ => none
  | .baload => match S with
    | .inl i :: .inr (.inl (some a)) :: S => match ea_nt C a with
      | some (.inl (2, n, d, us)) => match ea_ix i n with
        | some j => match ea_al d us j with
          | .inl v => some (pc + 1, .inl v :: S, none, 0, 0)
          | _ => none
        | none => none
      | _ => none
    | .inl i :: .inr (.inr (.inr (.inr (q + 1)))) :: S => bif Nat.beq ((q + 1) % 2) 1 then (match ea_ix i (sx_len ((q + 1) / 128)) with
      | some j => some (pc + 1, .inl (.inl (Int32.ofNat (sx_ch ((q + 1) / 128) j))) :: S, none, 0, 0)
      | none => none) else none
    | _ => none
  | .laload => match S with
    | .inl i :: .inr (.inl (some a)) :: S => match ea_nt C a with
      | some (.inl (1, n, d, us)) => match ea_ix i n with
        | some j => match ea_al d us j with
          | .inr (.inr (.inl v)) => some (pc + 1, .inr (.inr (.inl v)) :: S, none, 0, 0)
          | _ => none
        | none => none
      | _ => none
    | _ => none
  | .aaload => match S with
    | .inl i :: .inr (.inl (some a)) :: S => match ea_nt C a with
      | some (.inl (_ + 3, n, d, us)) => match ea_ix i n with
        | some j => match ea_al d us j with
          | .inr (.inl (some v)) => some (pc + 1, .inr (.inl (some v)) :: S, none, 0, 0)
          | _ => none
        | none => none
      | _ => none
    | _ => none
  | .iastore => match S with
    | .inl v :: .inl i :: .inr (.inl (some a)) :: S => match ea_nt C a with
      | some (.inl (0, n, d, us)) => match ea_ix i n with
        | some j => some (pc + 1, S, some (C.set a (.inl (0, n, d, (j, .inl v) :: us))), 0, 0)
        | none => none
      | _ => none
    | _ => none
  | .bastore => match S with
    | .inl v :: .inl i :: .inr (.inl (some a)) :: S => match ea_nt C a with
      | some (.inl (2, n, d, us)) => match ea_ix i n with
        | some j => some (pc + 1, S, some (C.set a (.inl (2, n, d, (j, .inl (ea_i1 (fun x => vp_nar .byte x) v)) :: us))), 0, 0)
        | none => none
      | _ => none
    | _ => none
  | .lastore => match S with
    | .inr (.inr (.inl v)) :: .inl i :: .inr (.inl (some a)) :: S => match ea_nt C a with
      | some (.inl (1, n, d, us)) => match ea_ix i n with
        | some j => some (pc + 1, S, some (C.set a (.inl (1, n, d, (j, .inr (.inr (.inl v))) :: us))), 0, 0)
        | none => none
      | _ => none
    | _ => none
  | .aastore => match S with
    | .inr (.inl (some v)) :: .inl i :: .inr (.inl (some a)) :: S => match ea_nt C a, ea_nt C v with
      | some (.inl (t + 3, n, d, us)), some (.inr o) => match ea_ix i n with
        | some j => bif Nat.beq o.1 t then some (pc + 1, S, some (C.set a (.inl (t + 3, n, d, (j, .inr (.inl (some v))) :: us))), 0, 0) else none
        | none => none
      | _, _ => none
    | _ => none
  | .ldc x => match pl x with
    | some (6, v, _) => some (pc + 2, .inl (.inl (Int32.ofNat v)) :: S, none, 0, 0)
    | some (23, q + 1, _) => bif Nat.beq ((q + 1) % 2) 0 then some (pc + 2, .inr (.inr (.inr (.inr (q + 1)))) :: S, none, 0, 0) else none
    | _ => none
  | .ldc_w x => match pl x with
    | some (6, v, _) => some (pc + 3, .inl (.inl (Int32.ofNat v)) :: S, none, 0, 0)
    | some (23, q + 1, _) => bif Nat.beq ((q + 1) % 2) 0 then some (pc + 3, .inr (.inr (.inr (.inr (q + 1)))) :: S, none, 0, 0) else none
    | _ => none
  | .ldc2_w x => match pl x with
    | some (7, v, _) => some (pc + 3, .inr (.inr (.inl (some (Int64.ofNat v)))) :: S, none, 0, 0)
    | _ => none
  | _ => none
end
section
theorem ea_ty_q {cl : List vw_C} {ci : Nat} {q : vw_C} (h : cl[ci]? = some q) : ea_ty cl (ci + 3) = .object q.1 := by
  show FieldType.object (((cl[ci]?).map (fun q => q.1)).getD "") = _
  rw [h]
  rfl
/-- the kind of a field's type -/
def ea_tg (t : Nat) (ty : FieldType) : Prop := match t with
  | 0 => ty = .int
  | 1 => ty = .long
  | 2 => ty = .boolean
  | 3 => (∃ n, ty = .object n) ∨ ∃ u, ty = .array u
  | _ => False
/-- of the classes: their words are among Ts; their fields have different names, and types of these kinds -/
def ea_cw (Ts : List Jvm.Cond) (cl : List vw_C) (fty : Nat → Nat → Nat) : Prop := ∀ (ci : Nat) (q : vw_C), cl[ci]? = some q → (∀ w ∈ u_ws q.1 q.2.1 q.2.2, w ∈ Ts) ∧ (∀ a, a < q.2.2 → ∀ b, b < q.2.2 → a ≠ b → (q.2.1 a).2.1 ≠ (q.2.1 b).2.1) ∧ ∃ ty : Nat → FieldType, (∀ k, k < q.2.2 → parseFieldDescriptor (q.2.1 k).2.2.1 = some (ty k)) ∧ ∀ k, k < q.2.2 → ea_tg (fty ci k) (ty k)
/-- of a pool entry -/
def ea_po (Ts : List Jvm.Cond) (cl : List vw_C) (U : State) (own : String) (x : Nat) (r : Nat × Nat × Nat) : Prop := match r with
  | (0, ci, k) => ∃ q, cl[ci]? = some q ∧ k < q.2.2 ∧ Jvm.Cond.fieldLink own x (q.2.1 k).1 (q.2.1 k).2.1 (q.2.1 k).2.2.1 ∈ Ts ∧ (q.2.1 k).2.2.2 = false
  | (20, ci, k) => ∃ q, cl[ci]? = some q ∧ k < q.2.2 ∧ Jvm.Cond.fieldLink own x (q.2.1 k).1 (q.2.1 k).2.1 (q.2.1 k).2.2.1 ∈ Ts
  | (21, ci, k) => ∃ q, cl[ci]? = some q ∧ k < q.2.2 ∧ Jvm.Cond.fieldLink own x (q.2.1 k).1 (q.2.1 k).2.1 (q.2.1 k).2.2.1 ∈ Ts ∧ (q.2.1 k).2.2.2 = true ∧ (q.2.1 k).1 = own
  | (5, ci, n) => ∃ q, cl[ci]? = some q ∧ q.2.2 = n ∧ Jvm.Cond.classLink own x q.1 ∈ Ts ∧ Jvm.Cond.instantiable q.1 n ∈ Ts ∧ Jvm.Cond.initialized q.1 ∈ Ts
  | (6, v, _) => Jvm.Cond.constant own x (Int32.ofNat v) ∈ Ts
  | (7, v, _) => Jvm.Cond.constantLong own x (Int64.ofNat v) ∈ Ts
  | (10, ci, _) => ∃ q, cl[ci]? = some q ∧ Jvm.Cond.classLink own x q.1 ∈ Ts ∧ va_AO q.1 U
  | (22, ci, n) => ∃ q, cl[ci]? = some q ∧ q.2.2 = n ∧ Jvm.Cond.classLink own x q.1 ∈ Ts ∧ Jvm.Cond.instantiable q.1 n ∈ Ts ∧ Jvm.Cond.initialized q.1 ∈ Ts ∧ va_AO q.1 U
  | _ => True
/-- what is known of Strings: that they are compact, and of each its fields and bytes -/
def ea_St (sb : SB) (A : Nat → Prop) (U : State) (H : Heap) : Prop := (va_Z "java/lang/String" "COMPACT_STRINGS" "Z" (.int 1) A U H ∧ va_Z "jdk/internal/util/Preconditions" "SIOOBE_FORMATTER" "Ljava/util/function/BiFunction;" sb.2.2.2.2 A U H ∧ sb.2.2.2.2.category = 1) ∧ ∀ z ∈ sb.2.2.2.1, va_O "java/lang/String" (sb.2.1 (z % 64)) A U H ∧ va_OF "java/lang/String" "coder" "B" (.int 0) (sb.2.1 (z % 64)) A U H ∧ va_OF "java/lang/String" "value" "[B" (.ref (sb.2.2.1 (z % 64))) (sb.2.1 (z % 64)) A U H ∧ va_T .byte (sb.2.2.1 (z % 64)) (sx_len (z / 64)) (fun j => .int (Int32.ofNat (sx_ch (z / 64) j))) A U H
theorem ea_St_step {sb : SB} {A : Nat → Prop} {s U : State} {H H1 : Heap} (hvm : s.vm.Alike U.vm) (hq : ∀ q : Nat, q < H.size → ¬ A q → H1[q]? = H[q]?) (h : ea_St sb A s H) : ea_St sb A U H1 :=
  ⟨⟨va_Z.moved hvm (h.1.1.kept hq), va_Z.moved hvm (h.1.2.1.kept hq), h.1.2.2⟩, fun z hz => ⟨va_O.moved hvm ((h.2 z hz).1.kept hq), va_OF.moved hvm ((h.2 z hz).2.1.kept hq), va_OF.moved hvm ((h.2 z hz).2.2.1.kept hq), va_T.moved hvm ((h.2 z hz).2.2.2.kept hq)⟩⟩
/-- what a pool entry on Strings says -/
def ea_pz (Ts : List Jvm.Cond) (sb : SB) (U : State) (own : String) (x : Nat) (r : Nat × Nat × Nat) : Prop := match r with
  | (23, q, _) => q / 2 ∈ sb.2.2.2.1 ∧ ∃ tx, vk_R own x tx (sb.2.1 (q / 2 % 64)) U
  | (24, 0, _) => Jvm.Cond.fieldLink own x "java/lang/String" "value" "[B" ∈ Ts
  | (24, _ + 1, _) => Jvm.Cond.fieldLink own x "java/lang/String" "coder" "B" ∈ Ts
  | (25, _, _) => Jvm.Cond.fieldLink own x "java/lang/String" "COMPACT_STRINGS" "Z" ∈ Ts
  | (27, _, _) => Jvm.Cond.fieldLink own x "jdk/internal/util/Preconditions" "SIOOBE_FORMATTER" "Ljava/util/function/BiFunction;" ∈ Ts
  | _ => True
theorem sx_even {sb : SB} {q : Nat} (h : Nat.beq (q % 2) 0 = true) : sx_ad sb q = sb.2.1 (q / 2 % 64) ∧ sx_ad sb (q + 1) = sb.2.2.1 (q / 2 % 64) ∧ (q + 1) / 2 = q / 2 := by
  have h1 := Nat.eq_of_beq_eq_true h
  have h2 : (q + 1) / 2 = q / 2 := by omega
  unfold sx_ad
  rw [if_pos h1, if_neg (by omega), h2]
  exact ⟨rfl, rfl, rfl⟩
theorem sx_odd {sb : SB} {q : Nat} (h : Nat.beq (q % 2) 1 = true) : sx_ad sb q = sb.2.2.1 (q / 2 % 64) ∧ q / 128 = q / 2 / 64 := by
  have h1 := Nat.eq_of_beq_eq_true h
  unfold sx_ad
  rw [if_neg (by omega)]
  exact ⟨rfl, by omega⟩
theorem ea_fit_ok {t : Nat} {a : AV} {ad : SB × List Nat} {v : Value} {ty : FieldType} (h : ea_fit t a = true) (hv : ea_gv ad a v) (ht : ea_tg t ty) : narrow ty v = v ∧ fits ty v = true := by
  unfold ea_fit at h
  split at h
  · obtain ⟨x, rfl, -⟩ := hv
    obtain rfl : ty = .int := ht
    exact ⟨rfl, rfl⟩
  · obtain ⟨x, rfl, -⟩ := ea_gl hv
    obtain rfl : ty = .long := ht
    exact ⟨rfl, rfl⟩
  · obtain ⟨x, rfl, hx⟩ := hv
    obtain rfl : ty = .boolean := ht
    obtain rfl : x = _ := hx
    rcases (by simpa using h : x = 0 ∨ x = 1) with rfl | rfl <;> exact ⟨by decide, by decide⟩
  · rename_i o
    cases o with
    | none =>
      obtain rfl : v = .null := hv
      rcases ht with ⟨n, rfl⟩ | ⟨u, rfl⟩ <;> exact ⟨rfl, rfl⟩
    | some k =>
      obtain ⟨q, rfl, -⟩ := hv
      rcases ht with ⟨n, rfl⟩ | ⟨u, rfl⟩ <;> exact ⟨rfl, rfl⟩
  · cases h
theorem ea_d_ok {t : Nat} {ty : FieldType} (ad : SB × List Nat) (ht : ea_tg t ty) : ea_gv ad (ea_d t) (defaultValue ty) := by
  match t, ht with
  | 0, ht => obtain rfl : ty = .int := ht; exact ⟨0, rfl, rfl⟩
  | 1, ht => obtain rfl : ty = .long := ht; exact rfl
  | 2, ht => obtain rfl : ty = .boolean := ht; exact ⟨0, rfl, rfl⟩
  | 3, ht => rcases ht with ⟨n, rfl⟩ | ⟨u, rfl⟩ <;> exact rfl
theorem ea_rl_map {α β γ : Type} {R : β → γ → Prop} (f : α → β) (g : α → γ) : ∀ (l : List α), (∀ a ∈ l, R (f a) (g a)) → ea_rl R (l.map f) (l.map g)
  | [], _ => trivial
  | a :: t, h => ⟨h a List.mem_cons_self, ea_rl_map f g t (fun b hb => h b (List.mem_cons_of_mem _ hb))⟩
section EAH
variable {p : Program} {l : Launch} {e : Env} {R : Room} {s : State} {m : MethodId} {args : Array Value} {below : List Frame} {meth : Method} {c : Code} {H : Heap} {locs : List Loc} {cells slots : Nat} {Q : State → Prop}
variable {cc : ByteArray} {pc : Nat} {ls : Array Slot} {st : List Value} {D : va_G} {cl : List vw_C} {A : Nat → Prop} {Ts : List Jvm.Cond} {own : String} {ws : va_W} {sb : SB} {C : List AC}
theorem ea_rd_ok {U : State} {pl : Nat → Option (Nat × Nat × Nat)} (hpl : ∀ x r, pl x = some r → ea_po Ts cl U own x r) {x ci k : Nat} (h : ea_rd (pl x) = some (ci, k)) : ∃ q, cl[ci]? = some q ∧ k < q.2.2 ∧ Jvm.Cond.fieldLink own x (q.2.1 k).1 (q.2.1 k).2.1 (q.2.1 k).2.2.1 ∈ Ts := by
  unfold ea_rd at h
  split at h
  · rename_i q hq
    cases h
    obtain ⟨q, h1, h2, h3, -⟩ := hpl _ _ hq
    exact ⟨q, h1, h2, h3⟩
  · rename_i q hq
    cases h
    exact hpl _ _ hq
  · rename_i q hq
    cases h
    obtain ⟨q, h1, h2, h3, -⟩ := hpl _ _ hq
    exact ⟨q, h1, h2, h3⟩
  · cases h
theorem ea_wr_ok {U : State} {pl : Nat → Option (Nat × Nat × Nat)} (hpl : ∀ x r, pl x = some r → ea_po Ts cl U own x r) {ini : Bool} {x ci k : Nat} (h : ea_wr ini (pl x) = some (ci, k)) : ∃ q, cl[ci]? = some q ∧ k < q.2.2 ∧ Jvm.Cond.fieldLink own x (q.2.1 k).1 (q.2.1 k).2.1 (q.2.1 k).2.2.1 ∈ Ts ∧ ((q.2.1 k).2.2.2 = false ∨ (ini = true ∧ (q.2.1 k).2.2.2 = true ∧ (q.2.1 k).1 = own)) := by
  unfold ea_wr at h
  split at h
  · rename_i q hq
    cases h
    obtain ⟨q, h1, h2, h3, h4⟩ := hpl _ _ hq
    exact ⟨q, h1, h2, h3, Or.inl h4⟩
  · rename_i q hq
    cases hi : ini with
    | false => rw [hi] at h; cases h
    | true =>
      rw [hi] at h
      cases h
      obtain ⟨q, h1, h2, h3, h4, h5⟩ := hpl _ _ hq
      exact ⟨q, h1, h2, h3, Or.inr ⟨rfl, h4, h5⟩⟩
  · cases h
def ea_ext (ws ws' : va_W) : Prop := ∀ k q : Nat, (ws.map Prod.fst)[k]? = some q → (ws'.map Prod.fst)[k]? = some q
theorem ea_ext_r (ws : va_W) : ea_ext ws ws := fun _ _ h => h
theorem ea_ext_u {ws : va_W} {x : Nat × va_E} : ea_ext ws (ws ++ [x]) := (ea_map_push (sb := (0, fun _ => 0, fun _ => 0, [], .null))).2
theorem ea_ext_s {ws : va_W} {k a : Nat} {E E' : va_E} (h : ws[k]? = some (a, E)) : ea_ext ws (ws.set k (a, E')) := fun j q hq => by rw [ea_map_set h]; exact hq
/-- the world at a point -/
def ea_W (D : va_G) (cl : List vw_C) (A : Nat → Prop) (s : State) (sb : SB) (C : List AC) (ws : va_W) (H : Heap) (locs : List Loc) : Prop := va_P D cl ws H ∧ va_D A ws ∧ va_S A s.heap H locs ∧ ea_H cl s sb C ws
theorem ea_K1 (hK : va_K D cl [] s) {t : Nat} {cA : ClassId} (h : ea_AT cl s t cA) : va_K D cl [(cA, ea_ty cl t)] s := ⟨hK.1, fun k q hq => by
  have hz : k < 1 := (List.getElem?_eq_some_iff.mp hq).1
  rw [show k = 0 by omega] at hq
  cases hq
  exact h⟩
set_option maxHeartbeats 4000000 in
set_option maxRecDepth 20000 in
theorem va_ldcSW (hexec : p.tables.exec = Jvm.exec) (hb : c.code = cc) {own tx : String} {index q : Nat} {rest : List Value} (hown : s.vm.findClass own = some m.cls) (hZ : vk_R own index tx q s) (hdg : decode cc pc = .ok (.ldc_w index, 3))
    (k : W p l e R s m args below meth c H locs cells slots Q (F0 m (pc + 3) ls (.ref q :: rest))) : W p l e R s m args below meth c H locs cells slots Q (F0 m pc ls rest) := by
  intro T hT X
  obtain ⟨t, a1, b1⟩ := k T hT X
  exact ⟨t, X.ldcStringW hexec hown (text := tx) (a := q) hZ.1 hZ.2 (g := F0 m pc ls rest) rfl (by rw [hb]; exact hdg) t a1, b1⟩
theorem ea_h_ok {ini : Bool} {pl : Nat → Option (Nat × Nat × Nat)} {fty : Nat → Nat → Nat} {scr : Option (List AI)} {i : Instr} {len nL pc' dk dw : Nat} {L : List (Nat × AV)} {S S' : List AV} {C' : Option (List AC)}
    (hexec : p.tables.exec = Jvm.exec) (hb : c.code = cc) (hts : ∀ w ∈ Ts, w.before args s = true) (hown : s.vm.findClass own = some m.cls) (hini : ini = true → meth.name = "<init>") (hK : va_K D cl [] s) (hA : ∀ q, s.heap.size ≤ q → A q) (hcw : ea_cw Ts cl fty) (hpl : ∀ x r, pl x = some r → ea_po Ts cl s own x r)
    (har : ∀ t, t = FieldType.int ∨ t = FieldType.long ∨ t = FieldType.byte → Jvm.Cond.arrayClass t ∈ Ts) (hX : ∀ X, scr = some X → ¬ A sb.1 ∧ sb.1 < s.heap.size ∧ ∃ xs : Nat → Int32, va_X sb.1 X.length xs s s.heap ∧ ∀ j v, X[j]? = some v → ea_gi v (xs j))
    (hpz : ∀ x r, pl x = some r → ea_pz Ts sb s own x r) (hSt : ea_St sb A s s.heap) (hdg : decode cc pc = .ok (i, len)) (hlen : ea_len i = 0 ∨ ea_len i = len) (hp : ea_h ini pl fty scr i pc S C = some (pc', S', C', dk, dw)) (hW : ea_W D cl A s sb C ws H locs) (hl : ea_L (sb, ws.map Prod.fst) nL L ls) (hs : ea_rl (ea_gv (sb, ws.map Prod.fst)) S st) (hcr : cells + dk ≤ R.cells) (hsr : slots + dw ≤ R.slots)
    (kk : ∀ (st' : List Value) (ws' : va_W) (H' : Heap) (locs' : List Loc), ea_ext ws ws' → ea_W D cl A s sb (C'.getD C) ws' H' locs' → ea_L (sb, ws'.map Prod.fst) nL L ls → ea_rl (ea_gv (sb, ws'.map Prod.fst)) S' st' → W p l e R s m args below meth c H' locs' (cells + dk) (slots + dw) Q (F0 m pc' ls st')) : W p l e R s m args below meth c H locs cells slots Q (F0 m pc ls st) := by
  obtain ⟨hP, hD, hS, hH⟩ := hW
  cases i with
  | getfield x =>
    obtain rfl : 3 = len := by simpa [ea_len] using hlen
    simp only [ea_h] at hp
    split at hp
    · rename_i ci k a S0 hr
      split at hp
      · rename_i o ho
        cases hb1 : Nat.beq o.1 ci with
        | false => rw [hb1] at hp; cases hp
        | true =>
          rw [hb1] at hp
          simp only [cond_true] at hp
          split at hp
          · rename_i v hv
            cases hp
            obtain ⟨q, h1, h2, h3⟩ := ea_rd_ok hpl hr
            obtain ⟨_, _, rfl, ⟨aa, rfl, ha⟩, hs1⟩ := ea_pop hs
            obtain ⟨a1, E, g1, g2, g3⟩ := ea_H_get hH ho
            obtain rfl : aa = a1 := Option.some.inj (ha.symm.trans g3)
            match E, g1, g2 with
            | .inr (ci', vs), g1, ⟨e1, g2⟩ =>
              obtain rfl : ci' = ci := e1.symm.trans (Nat.eq_of_beq_eq_true hb1)
              rw [ea_nt_eq] at hv
              obtain ⟨w, w1, w2⟩ := ea_rl_get g2 hv
              exact va_get (T := q.2.1) (N := q.2.2) (C := q.1) hexec hb hts (hcw _ _ h1).1 hown hK hP a g1 h1 k h2 (hts _ h3) (fun _ h => h) w1 hdg (kk _ ws H locs (ea_ext_r ws) ⟨hP, hD, hS, hH⟩ hl ⟨w2, hs1⟩)
          · cases hp
      · cases hp
    · rename_i q S0 hr
      split at hp
      · rename_i v hv
        cases hp
        obtain ⟨_, _, rfl, ⟨rfl, hq⟩, hs1⟩ := ea_pop hs
        unfold sx_f at hv
        split at hv
        · rename_i z hz
          cases hb1 : Nat.beq ((q + 1) % 2) 0 with
          | false => rw [hb1] at hv; cases hv
          | true =>
            rw [hb1] at hv
            cases hv
            obtain ⟨e1, e2, e3⟩ := sx_even (sb := sb) hb1
            rw [e1]
            exact vk_getf (ref := "java/lang/String") hexec hb (hSt.2 _ hq).2.2.1 hS hown (hts _ (hpz _ _ hz)) (fun _ h => h) hdg (kk _ ws H locs (ea_ext_r ws) ⟨hP, hD, hS, hH⟩ hl ⟨⟨by show _ = Value.ref (sx_ad sb (q + 1 + 1)); rw [e2], by show (q + 1 + 1) / 2 ∈ _; rw [e3]; exact hq⟩, hs1⟩)
        · rename_i j z hz
          cases hb1 : Nat.beq ((q + 1) % 2) 0 with
          | false => rw [hb1] at hv; cases hv
          | true =>
            rw [hb1] at hv
            cases hv
            obtain ⟨e1, e2, e3⟩ := sx_even (sb := sb) hb1
            rw [e1]
            exact vk_getf (ref := "java/lang/String") hexec hb (hSt.2 _ hq).2.1 hS hown (hts _ (hpz _ _ hz)) (fun _ h => h) hdg (kk _ ws H locs (ea_ext_r ws) ⟨hP, hD, hS, hH⟩ hl ⟨⟨_, rfl, rfl⟩, hs1⟩)
        · cases hv
      · cases hp
    · cases hp
  | getstatic x =>
    obtain rfl : 3 = len := by simpa [ea_len] using hlen
    simp only [ea_h] at hp
    split at hp
    · rename_i u1 u2 hr
      cases hp
      exact va_gets (ref := "java/lang/String") hexec hb hSt.1.1 hS hown (hts _ (hpz _ _ hr)) (fun _ h => h) hdg (kk _ ws H locs (ea_ext_r ws) ⟨hP, hD, hS, hH⟩ hl ⟨⟨_, rfl, rfl⟩, hs⟩)
    · rename_i u1 u2 hr
      cases hp
      exact va_gets (ref := "jdk/internal/util/Preconditions") hexec hb hSt.1.2.1 hS hown (hts _ (hpz _ _ hr)) (fun _ h => h) hdg (kk _ ws H locs (ea_ext_r ws) ⟨hP, hD, hS, hH⟩ hl ⟨⟨rfl, hSt.1.2.2⟩, hs⟩)
    · cases hp
  | putfield x =>
    obtain rfl : 3 = len := by simpa [ea_len] using hlen
    simp only [ea_h] at hp
    split at hp
    · rename_i ci k v a S0 hr
      split at hp
      · rename_i o ho
        cases hb1 : (Nat.beq o.1 ci && (ea_fit (fty ci k) v && Nat.blt k o.2.length)) with
        | false => rw [hb1] at hp; cases hp
        | true =>
          rw [hb1] at hp
          simp only [cond_true] at hp
          cases hp
          simp only [Bool.and_eq_true] at hb1
          obtain ⟨hc1, hf, hk⟩ := hb1
          obtain ⟨q, h1, h2, h3, h4⟩ := ea_wr_ok hpl hr
          obtain ⟨hin, hnm, ty, hty, htg⟩ := hcw _ _ h1
          obtain ⟨v', _, rfl, hv, hs1⟩ := ea_pop hs
          obtain ⟨_, _, rfl, ⟨aa, rfl, ha⟩, hs2⟩ := ea_pop hs1
          obtain ⟨a1, E, g1, g2, g3⟩ := ea_H_get hH ho
          obtain rfl : aa = a1 := Option.some.inj (ha.symm.trans g3)
          obtain ⟨n1, n2⟩ := ea_fit_ok hf hv (htg k h2)
          match E, g1, g2 with
          | .inr (ci', vs), g1, ⟨e1, g2⟩ =>
            obtain rfl : ci' = ci := e1.symm.trans (Nat.eq_of_beq_eq_true hc1)
            have hlt : k < vs.length := by rw [← ea_rl_len g2]; exact Nat.le_of_ble_eq_true hk
            have hkk : ∀ (H1 : Heap) (locs1 : List Loc), va_P D cl (ws.set a (aa, .inr (ci', vs.set k v'))) H1 → va_D A (ws.set a (aa, .inr (ci', vs.set k v'))) → va_S A s.heap H1 locs1 → W p l e R s m args below meth c H1 locs1 cells slots Q (F0 m (pc + 3) ls _) := fun H1 locs1 p1 d1 s1 => by
              refine kk _ (ws.set a (aa, .inr (ci', vs.set k v'))) H1 locs1 (ea_ext_s g1) ⟨p1, d1, s1, ea_H_set hH g1 ⟨rfl, ea_rl_set g2 k hv⟩⟩ ?_ ?_
              · rw [ea_map_set g1]; exact hl
              · rw [ea_map_set g1]; exact hs2
            rcases h4 with h4 | ⟨i1, i2, i3⟩
            · exact va_put (T := q.2.1) (N := q.2.2) (C := q.1) hexec hb hts hin ty hty hnm hown hK hP hD hS a g1 h1 k h2 (hts _ h3) (fun _ h => h) h4 (hty k h2) n1 n2 hlt hdg hkk
            · exact va_putF (T := q.2.1) (N := q.2.2) (C := q.1) hexec hb hts hin ty hty hnm hown hK hP hD hS a g1 h1 k h2 (hts _ h3) (fun _ h => h) i2 (hini i1) i3 (hty k h2) n1 n2 hlt hdg hkk
      · cases hp
    · cases hp
  | new x =>
    obtain rfl : 3 = len := by simpa [ea_len] using hlen
    simp only [ea_h] at hp
    split at hp
    · rename_i ci n hr
      cases hp
      obtain ⟨q, h1, h2, h3, h4, h5⟩ := hpl _ _ hr
      subst h2
      obtain ⟨hin, hnm, ty, hty, htg⟩ := hcw _ _ h1
      refine va_new (ci := ci) (fs := (List.range q.2.2).map (fun k => defaultValue (ty k))) (C := q.1) (T := q.2.1) (N := q.2.2) hexec hb hts hin ty hty hown (hts _ h3) (hts _ h4) (hts _ h5) hK hP hD hS hA h1 (fun j hj => ?_) hcr hsr hdg (fun a H1 p1 d1 s1 => ?_)
      · simp [vp_V, hj]
      · exact kk _ _ H1 locs ea_ext_u ⟨p1, d1, s1, ea_H_push hH ⟨rfl, ea_rl_map _ _ _ (fun k hk => ea_d_ok _ (htg k (List.mem_range.mp hk)))⟩⟩ (ea_L_mono ea_map_push hl) ⟨⟨a, rfl, ea_at_push hH⟩, ea_rl_mono (fun _ _ h => ea_gv_mono ea_map_push h) hs⟩
    · rename_i ci n hr
      cases hp
      obtain ⟨q, h1, h2, h3, h4, h5, -⟩ := hpl _ _ hr
      subst h2
      obtain ⟨hin, hnm, ty, hty, htg⟩ := hcw _ _ h1
      refine va_new (ci := ci) (fs := (List.range q.2.2).map (fun k => defaultValue (ty k))) (C := q.1) (T := q.2.1) (N := q.2.2) hexec hb hts hin ty hty hown (hts _ h3) (hts _ h4) (hts _ h5) hK hP hD hS hA h1 (fun j hj => ?_) hcr hsr hdg (fun a H1 p1 d1 s1 => ?_)
      · simp [vp_V, hj]
      · exact kk _ _ H1 locs ea_ext_u ⟨p1, d1, s1, ea_H_push hH ⟨rfl, ea_rl_map _ _ _ (fun k hk => ea_d_ok _ (htg k (List.mem_range.mp hk)))⟩⟩ (ea_L_mono ea_map_push hl) ⟨⟨a, rfl, ea_at_push hH⟩, ea_rl_mono (fun _ _ h => ea_gv_mono ea_map_push h) hs⟩
    · cases hp
  | newarray t =>
    obtain rfl : 2 = len := by simpa [ea_len] using hlen
    simp only [ea_h] at hp
    split at hp
    · rename_i x S0
      split at hp
      · rename_i hx
        obtain ⟨_, _, rfl, ⟨y, rfl, hy⟩, hs1⟩ := ea_pop hs
        obtain rfl : y = x := hy
        have hn : ¬ y < 0 := by rw [Int32.lt_iff_toInt_lt]; show ¬ y.toInt < 0; omega
        have hN : y.toNatClampNeg ≤ 65536 := by show y.toInt.toNat ≤ 65536; omega
        cases t with
        | int =>
          cases hp
          refine va_newa (ty := .int) (a0 := (y.toNatClampNeg, .inl (fun _ => 0))) hexec hb (hts _ (har _ (Or.inl rfl))) rfl hK hP hD hS hA (fun cA => rfl) hn rfl (by show y.toNatClampNeg * 4 ≤ 536870912; omega) hcr hsr hdg (fun a cA H1 k1 p1 d1 s1 => ?_)
          exact kk _ _ H1 locs ea_ext_u ⟨p1, d1, s1, ea_H_push hH ⟨rfl, k1.2 0 _ rfl, ⟨_, rfl⟩, fun j hj => ⟨0, rfl, rfl⟩⟩⟩ (ea_L_mono ea_map_push hl) ⟨⟨a, rfl, ea_at_push hH⟩, ea_rl_mono (fun _ _ h => ea_gv_mono ea_map_push h) hs1⟩
        | long =>
          cases hp
          refine va_newa (ty := .long) (a0 := (y.toNatClampNeg, .inr (.inl (fun _ => 0)))) hexec hb (hts _ (har _ (Or.inr (Or.inl rfl)))) rfl hK hP hD hS hA (fun cA => rfl) hn rfl (by show y.toNatClampNeg * 8 ≤ 536870912; omega) hcr hsr hdg (fun a cA H1 k1 p1 d1 s1 => ?_)
          exact kk _ _ H1 locs ea_ext_u ⟨p1, d1, s1, ea_H_push hH ⟨rfl, k1.2 0 _ rfl, ⟨_, rfl⟩, fun j hj => rfl⟩⟩ (ea_L_mono ea_map_push hl) ⟨⟨a, rfl, ea_at_push hH⟩, ea_rl_mono (fun _ _ h => ea_gv_mono ea_map_push h) hs1⟩
        | byte =>
          cases hp
          refine va_newa (ty := .byte) (a0 := (y.toNatClampNeg, .inl (fun _ => 0))) hexec hb (hts _ (har _ (Or.inr (Or.inr rfl)))) rfl hK hP hD hS hA (fun cA => rfl) hn rfl (by show y.toNatClampNeg * 1 ≤ 536870912; omega) hcr hsr hdg (fun a cA H1 k1 p1 d1 s1 => ?_)
          exact kk _ _ H1 locs ea_ext_u ⟨p1, d1, s1, ea_H_push hH ⟨rfl, k1.2 0 _ rfl, ⟨_, rfl⟩, fun j hj => ⟨0, rfl, rfl⟩⟩⟩ (ea_L_mono ea_map_push hl) ⟨⟨a, rfl, ea_at_push hH⟩, ea_rl_mono (fun _ _ h => ea_gv_mono ea_map_push h) hs1⟩
        | _ => cases hp
      · cases hp
    · cases hp
  | anewarray x =>
    obtain rfl : 3 = len := by simpa [ea_len] using hlen
    simp only [ea_h] at hp
    split at hp
    · rename_i ci z x S0 hr
      split at hp
      · rename_i hx
        cases hp
        obtain ⟨_, _, rfl, ⟨y, rfl, hy⟩, hs1⟩ := ea_pop hs
        obtain rfl : y = x := hy
        have hn : ¬ y < 0 := by rw [Int32.lt_iff_toInt_lt]; show ¬ y.toInt < 0; omega
        have hN : y.toNatClampNeg ≤ 65536 := by show y.toInt.toNat ≤ 65536; omega
        obtain ⟨q, h1, h3, h4⟩ := hpl _ _ hr
        refine va_newq hexec hb hown (hts _ h3) h4 hK hP hD hS hA hn rfl (by omega) hcr hsr hdg (fun a cA H1 k1 p1 d1 s1 => ?_)
        exact kk _ _ H1 locs ea_ext_u ⟨p1, d1, s1, ea_H_push hH ⟨rfl, by show ArrOfT s cA (ea_ty cl (ci + 3)) ∧ va_RA s cA (ea_ty cl (ci + 3)); rw [ea_ty_q h1]; exact k1.2 0 _ rfl, ⟨_, rfl⟩, fun j hj => rfl⟩⟩ (ea_L_mono ea_map_push hl) ⟨⟨a, rfl, ea_at_push hH⟩, ea_rl_mono (fun _ _ h => ea_gv_mono ea_map_push h) hs1⟩
      · cases hp
    · rename_i ci z x S0 hr
      split at hp
      · rename_i hx
        cases hp
        obtain ⟨_, _, rfl, ⟨y, rfl, hy⟩, hs1⟩ := ea_pop hs
        obtain rfl : y = x := hy
        have hn : ¬ y < 0 := by rw [Int32.lt_iff_toInt_lt]; show ¬ y.toInt < 0; omega
        have hN : y.toNatClampNeg ≤ 65536 := by show y.toInt.toNat ≤ 65536; omega
        obtain ⟨q, h1, -, h3, -, -, h4⟩ := hpl _ _ hr
        refine va_newq hexec hb hown (hts _ h3) h4 hK hP hD hS hA hn rfl (by omega) hcr hsr hdg (fun a cA H1 k1 p1 d1 s1 => ?_)
        exact kk _ _ H1 locs ea_ext_u ⟨p1, d1, s1, ea_H_push hH ⟨rfl, by show ArrOfT s cA (ea_ty cl (ci + 3)) ∧ va_RA s cA (ea_ty cl (ci + 3)); rw [ea_ty_q h1]; exact k1.2 0 _ rfl, ⟨_, rfl⟩, fun j hj => rfl⟩⟩ (ea_L_mono ea_map_push hl) ⟨⟨a, rfl, ea_at_push hH⟩, ea_rl_mono (fun _ _ h => ea_gv_mono ea_map_push h) hs1⟩
      · cases hp
    · cases hp
  | arraylength =>
    obtain rfl : 1 = len := by simpa [ea_len] using hlen
    simp only [ea_h] at hp
    split at hp
    · rename_i a S0
      split at hp
      · rename_i q ho
        cases hp
        obtain ⟨_, _, rfl, ⟨aa, rfl, ha⟩, hs1⟩ := ea_pop hs
        obtain ⟨a1, E, g1, g2, g3⟩ := ea_H_get hH ho
        obtain rfl : aa = a1 := Option.some.inj (ha.symm.trans g3)
        match E, g1, g2 with
        | .inl (cA, n', x), g1, ⟨e1, hat, hkd, hct⟩ =>
          exact va_alen hexec hb (ea_K1 hK hat) hP a 0 g1 rfl rfl hdg (kk _ ws H locs (ea_ext_r ws) ⟨hP, hD, hS, hH⟩ hl ⟨⟨_, rfl, by rw [show n' = q.2.1 from e1]; rfl⟩, hs1⟩)
      · cases hp
    · split at hp
      · rename_i X
        cases hp
        obtain ⟨hbA, hbl, xs, hXX, hxs⟩ := hX X rfl
        obtain ⟨v, _, rfl, hv, hs1⟩ := ea_pop hs
        obtain rfl : v = .ref sb.1 := hv
        exact va_slen hexec hb hXX hbl hbA hS hdg (kk _ ws H locs (ea_ext_r ws) ⟨hP, hD, hS, hH⟩ hl ⟨⟨_, rfl, rfl⟩, hs1⟩)
      · cases hp
    · rename_i q S0
      cases hb1 : Nat.beq ((q + 1) % 2) 1 with
      | false => rw [hb1] at hp; cases hp
      | true =>
        rw [hb1] at hp
        cases hp
        obtain ⟨_, _, rfl, ⟨rfl, hq⟩, hs1⟩ := ea_pop hs
        obtain ⟨e1, e2⟩ := sx_odd (sb := sb) hb1
        rw [e1]
        exact va_tlen hexec hb (hSt.2 _ hq).2.2.2 hS rfl hdg (kk _ ws H locs (ea_ext_r ws) ⟨hP, hD, hS, hH⟩ hl ⟨⟨_, rfl, by rw [e2]; rfl⟩, hs1⟩)
    · cases hp
  | iaload =>
    obtain rfl : 1 = len := by simpa [ea_len] using hlen
    simp only [ea_h] at hp
    split at hp
    · rename_i i a S0
      split at hp
      · rename_i n d us ho
        split at hp
        · rename_i j hj
          split at hp
          · rename_i v hv
            cases hp
            obtain ⟨_, _, rfl, ⟨x, rfl, hx⟩, hs1⟩ := ea_pop hs
            obtain ⟨_, _, rfl, ⟨aa, rfl, ha⟩, hs2⟩ := ea_pop hs1
            obtain ⟨a1, E, g1, g2, g3⟩ := ea_H_get hH ho
            obtain rfl : aa = a1 := Option.some.inj (ha.symm.trans g3)
            obtain ⟨hin, hj1, hj2⟩ := ea_ix_ok hj hx
            match E, g1, g2 with
            | .inl (cA, n', y), g1, ⟨e1, hat, ⟨f, hf⟩, hct⟩ =>
              dsimp only at e1 hf hct
              subst e1
              subst hf
              have hc := hct j hj2
              rw [hv] at hc
              rw [← hj1] at hc
              exact va_iald hexec hb (ea_K1 hK hat) hP a 0 g1 rfl hin hdg (kk _ ws H locs (ea_ext_r ws) ⟨hP, hD, hS, hH⟩ hl ⟨hc, hs2⟩)
          · cases hp
        · cases hp
      · cases hp
    · rename_i i S0
      split at hp
      · rename_i X
        split at hp
        · rename_i j hj
          split at hp
          · rename_i v hv
            cases hp
            obtain ⟨hbA, hbl, xs, hXX, hxs⟩ := hX X rfl
            obtain ⟨_, _, rfl, ⟨x, rfl, hx⟩, hs1⟩ := ea_pop hs
            obtain ⟨u, _, rfl, hu, hs2⟩ := ea_pop hs1
            obtain rfl : u = .ref sb.1 := hu
            obtain ⟨hin, hj1, hj2⟩ := ea_ix_ok hj hx
            rw [ea_nt_eq] at hv
            exact va_sld hexec hb hXX hbl hbA hS hin hdg (kk _ ws H locs (ea_ext_r ws) ⟨hP, hD, hS, hH⟩ hl ⟨⟨_, rfl, by rw [hj1]; exact hxs j v hv⟩, hs2⟩)
          · cases hp
        · cases hp
      · cases hp
    · cases hp
  | baload =>
    obtain rfl : 1 = len := by simpa [ea_len] using hlen
    simp only [ea_h] at hp
    split at hp
    · rename_i i a S0
      split at hp
      · rename_i n d us ho
        split at hp
        · rename_i j hj
          split at hp
          · rename_i v hv
            cases hp
            obtain ⟨_, _, rfl, ⟨x, rfl, hx⟩, hs1⟩ := ea_pop hs
            obtain ⟨_, _, rfl, ⟨aa, rfl, ha⟩, hs2⟩ := ea_pop hs1
            obtain ⟨a1, E, g1, g2, g3⟩ := ea_H_get hH ho
            obtain rfl : aa = a1 := Option.some.inj (ha.symm.trans g3)
            obtain ⟨hin, hj1, hj2⟩ := ea_ix_ok hj hx
            match E, g1, g2 with
            | .inl (cA, n', y), g1, ⟨e1, hat, ⟨f, hf⟩, hct⟩ =>
              dsimp only at e1 hf hct
              subst e1
              subst hf
              have hc := hct j hj2
              rw [hv] at hc
              rw [← hj1] at hc
              exact va_bald hexec hb (ea_K1 hK hat) hP a 0 g1 rfl hin hdg (kk _ ws H locs (ea_ext_r ws) ⟨hP, hD, hS, hH⟩ hl ⟨hc, hs2⟩)
          · cases hp
        · cases hp
      · cases hp
    · rename_i i q S0
      cases hb1 : Nat.beq ((q + 1) % 2) 1 with
      | false => rw [hb1] at hp; cases hp
      | true =>
        rw [hb1] at hp
        simp only [cond_true] at hp
        split at hp
        · rename_i j hj
          cases hp
          obtain ⟨_, _, rfl, ⟨x, rfl, hx⟩, hs1⟩ := ea_pop hs
          obtain ⟨_, _, rfl, ⟨rfl, hq⟩, hs2⟩ := ea_pop hs1
          obtain ⟨e1, e2⟩ := sx_odd (sb := sb) hb1
          obtain ⟨hin, hj1, hj2⟩ := ea_ix_ok hj hx
          rw [e2] at hin
          rw [e1]
          exact va_tb hexec hb (hSt.2 _ hq).2.2.2 hS hin rfl hdg (kk _ ws H locs (ea_ext_r ws) ⟨hP, hD, hS, hH⟩ hl ⟨⟨_, rfl, by rw [e2, hj1]; rfl⟩, hs2⟩)
        · cases hp
    · cases hp
  | laload =>
    obtain rfl : 1 = len := by simpa [ea_len] using hlen
    simp only [ea_h] at hp
    split at hp
    · rename_i i a S0
      split at hp
      · rename_i n d us ho
        split at hp
        · rename_i j hj
          split at hp
          · rename_i v hv
            cases hp
            obtain ⟨_, _, rfl, ⟨x, rfl, hx⟩, hs1⟩ := ea_pop hs
            obtain ⟨_, _, rfl, ⟨aa, rfl, ha⟩, hs2⟩ := ea_pop hs1
            obtain ⟨a1, E, g1, g2, g3⟩ := ea_H_get hH ho
            obtain rfl : aa = a1 := Option.some.inj (ha.symm.trans g3)
            obtain ⟨hin, hj1, hj2⟩ := ea_ix_ok hj hx
            match E, g1, g2 with
            | .inl (cA, n', y), g1, ⟨e1, hat, ⟨f, hf⟩, hct⟩ =>
              dsimp only at e1 hf hct
              subst e1
              subst hf
              have hc := hct j hj2
              rw [hv] at hc
              rw [← hj1] at hc
              exact va_lald hexec hb (ea_K1 hK hat) hP a 0 g1 rfl hin hdg (kk _ ws H locs (ea_ext_r ws) ⟨hP, hD, hS, hH⟩ hl ⟨hc, hs2⟩)
          · cases hp
        · cases hp
      · cases hp
    · cases hp
  | aaload =>
    obtain rfl : 1 = len := by simpa [ea_len] using hlen
    simp only [ea_h] at hp
    split at hp
    · rename_i i a S0
      split at hp
      · rename_i t n d us ho
        split at hp
        · rename_i j hj
          split at hp
          · rename_i v hv
            cases hp
            obtain ⟨_, _, rfl, ⟨x, rfl, hx⟩, hs1⟩ := ea_pop hs
            obtain ⟨_, _, rfl, ⟨aa, rfl, ha⟩, hs2⟩ := ea_pop hs1
            obtain ⟨a1, E, g1, g2, g3⟩ := ea_H_get hH ho
            obtain rfl : aa = a1 := Option.some.inj (ha.symm.trans g3)
            obtain ⟨hin, hj1, hj2⟩ := ea_ix_ok hj hx
            match E, g1, g2 with
            | .inl (cA, n', y), g1, ⟨e1, hat, ⟨f, hf⟩, hct⟩ =>
              dsimp only at e1 hf hct
              subst e1
              subst hf
              have hc := hct j hj2
              rw [hv] at hc
              rw [← hj1] at hc
              exact va_aldq hexec hb (ea_K1 hK hat) hP a 0 g1 rfl hin hdg (kk _ ws H locs (ea_ext_r ws) ⟨hP, hD, hS, hH⟩ hl ⟨hc, hs2⟩)
          · cases hp
        · cases hp
      · cases hp
    · cases hp
  | iastore =>
    obtain rfl : 1 = len := by simpa [ea_len] using hlen
    simp only [ea_h] at hp
    split at hp
    · rename_i v i a S0
      split at hp
      · rename_i n d us ho
        split at hp
        · rename_i j hj
          cases hp
          obtain ⟨_, _, rfl, ⟨v1, rfl, hv⟩, hs1⟩ := ea_pop hs
          obtain ⟨_, _, rfl, ⟨x, rfl, hx⟩, hs2⟩ := ea_pop hs1
          obtain ⟨_, _, rfl, ⟨aa, rfl, ha⟩, hs3⟩ := ea_pop hs2
          obtain ⟨a1, E, g1, g2, g3⟩ := ea_H_get hH ho
          obtain rfl : aa = a1 := Option.some.inj (ha.symm.trans g3)
          obtain ⟨hin, hj1, hj2⟩ := ea_ix_ok hj hx
          match E, g1, g2 with
          | .inl (cA, n', y), g1, ⟨e1, hat, ⟨f, hf⟩, hct⟩ =>
            dsimp only at e1 hf hct
            subst e1
            subst hf
            refine va_iast hexec hb (ea_K1 hK hat) hP hD hS a 0 g1 rfl hin hdg (fun H1 locs1 p1 d1 s1 => kk _ _ H1 locs1 (ea_ext_s g1) ⟨p1, d1, s1, ea_H_set hH g1 ⟨rfl, hat, ⟨_, rfl⟩, fun k hk => ?_⟩⟩ (by rw [ea_map_set g1]; exact hl) (by rw [ea_map_set g1]; exact hs3))
            dsimp only
            rw [ea_al_at]
            by_cases hkj : k = j
            · subst hkj
              rw [if_pos rfl, hj1]
              simp only [ea_cv, upd, if_pos]
              exact ⟨v1, rfl, hv⟩
            · rw [if_neg hkj, hj1]
              simp only [ea_cv, upd, if_neg hkj]
              exact hct k hk
        · cases hp
      · cases hp
    · cases hp
  | bastore =>
    obtain rfl : 1 = len := by simpa [ea_len] using hlen
    simp only [ea_h] at hp
    split at hp
    · rename_i v i a S0
      split at hp
      · rename_i n d us ho
        split at hp
        · rename_i j hj
          cases hp
          obtain ⟨_, _, rfl, ⟨v1, rfl, hv⟩, hs1⟩ := ea_pop hs
          obtain ⟨_, _, rfl, ⟨x, rfl, hx⟩, hs2⟩ := ea_pop hs1
          obtain ⟨_, _, rfl, ⟨aa, rfl, ha⟩, hs3⟩ := ea_pop hs2
          obtain ⟨a1, E, g1, g2, g3⟩ := ea_H_get hH ho
          obtain rfl : aa = a1 := Option.some.inj (ha.symm.trans g3)
          obtain ⟨hin, hj1, hj2⟩ := ea_ix_ok hj hx
          match E, g1, g2 with
          | .inl (cA, n', y), g1, ⟨e1, hat, ⟨f, hf⟩, hct⟩ =>
            dsimp only at e1 hf hct
            subst e1
            subst hf
            refine va_bast hexec hb (ea_K1 hK hat) hP hD hS a 0 g1 rfl hin hdg (fun H1 locs1 p1 d1 s1 => kk _ _ H1 locs1 (ea_ext_s g1) ⟨p1, d1, s1, ea_H_set hH g1 ⟨rfl, hat, ⟨_, rfl⟩, fun k hk => ?_⟩⟩ (by rw [ea_map_set g1]; exact hl) (by rw [ea_map_set g1]; exact hs3))
            dsimp only
            rw [ea_al_at]
            by_cases hkj : k = j
            · subst hkj
              rw [if_pos rfl, hj1]
              simp only [ea_cv, upd, if_pos]
              exact ⟨_, rfl, ea_i1_ok (fun x => vp_nar .byte x) hv⟩
            · rw [if_neg hkj, hj1]
              simp only [ea_cv, upd, if_neg hkj]
              exact hct k hk
        · cases hp
      · cases hp
    · cases hp
  | lastore =>
    obtain rfl : 1 = len := by simpa [ea_len] using hlen
    simp only [ea_h] at hp
    split at hp
    · rename_i v i a S0
      split at hp
      · rename_i n d us ho
        split at hp
        · rename_i j hj
          cases hp
          obtain ⟨_, _, rfl, hv, hs1⟩ := ea_pop hs
          obtain ⟨v1, rfl, hv1⟩ := ea_gl hv
          obtain ⟨_, _, rfl, ⟨x, rfl, hx⟩, hs2⟩ := ea_pop hs1
          obtain ⟨_, _, rfl, ⟨aa, rfl, ha⟩, hs3⟩ := ea_pop hs2
          obtain ⟨a1, E, g1, g2, g3⟩ := ea_H_get hH ho
          obtain rfl : aa = a1 := Option.some.inj (ha.symm.trans g3)
          obtain ⟨hin, hj1, hj2⟩ := ea_ix_ok hj hx
          match E, g1, g2 with
          | .inl (cA, n', y), g1, ⟨e1, hat, ⟨f, hf⟩, hct⟩ =>
            dsimp only at e1 hf hct
            subst e1
            subst hf
            refine va_last hexec hb (ea_K1 hK hat) hP hD hS a 0 g1 rfl hin hdg (fun H1 locs1 p1 d1 s1 => kk _ _ H1 locs1 (ea_ext_s g1) ⟨p1, d1, s1, ea_H_set hH g1 ⟨rfl, hat, ⟨_, rfl⟩, fun k hk => ?_⟩⟩ (by rw [ea_map_set g1]; exact hl) (by rw [ea_map_set g1]; exact hs3))
            dsimp only
            rw [ea_al_at]
            by_cases hkj : k = j
            · subst hkj
              rw [if_pos rfl, hj1]
              simp only [ea_cv, vp_updL, if_pos]
              exact ea_lg hv1
            · rw [if_neg hkj, hj1]
              simp only [ea_cv, vp_updL, if_neg hkj]
              exact hct k hk
        · cases hp
      · cases hp
    · cases hp
  | aastore =>
    obtain rfl : 1 = len := by simpa [ea_len] using hlen
    simp only [ea_h] at hp
    split at hp
    · rename_i v i a S0
      split at hp
      · rename_i t n d us o ho hov
        split at hp
        · rename_i j hj
          cases hb1 : Nat.beq o.1 t with
          | false => rw [hb1] at hp; cases hp
          | true =>
            rw [hb1] at hp
            simp only [cond_true] at hp
            cases hp
            obtain ⟨_, _, rfl, ⟨v1, rfl, hv⟩, hs1⟩ := ea_pop hs
            obtain ⟨_, _, rfl, ⟨x, rfl, hx⟩, hs2⟩ := ea_pop hs1
            obtain ⟨_, _, rfl, ⟨aa, rfl, ha⟩, hs3⟩ := ea_pop hs2
            obtain ⟨a1, E, g1, g2, g3⟩ := ea_H_get hH ho
            obtain rfl : aa = a1 := Option.some.inj (ha.symm.trans g3)
            obtain ⟨a2, E2, k1, k2, k3⟩ := ea_H_get hH hov
            obtain rfl : v1 = a2 := Option.some.inj (hv.symm.trans k3)
            obtain ⟨hin, hj1, hj2⟩ := ea_ix_ok hj hx
            match E, g1, g2 with
            | .inl (cA, n', y), g1, ⟨e1, hat, ⟨f, hf⟩, hct⟩ =>
              match E2, k1, k2 with
              | .inr (ci', vs), k1, ⟨e2, k2⟩ =>
                dsimp only at e1 hf hct e2
                subst e1
                subst hf
                obtain rfl : ci' = t := e2.symm.trans (Nat.eq_of_beq_eq_true hb1)
                obtain ⟨r, hr1, -⟩ := hP v _ k1
                have hty : ea_ty cl (ci' + 3) = .object r.1 := ea_ty_q hr1
                refine va_astq (r := r) hexec hb (ea_K1 hK hat) hP hD hS a 0 v ci' g1 (by rw [hty]; rfl) k1 hr1 hin hdg (fun H1 locs1 p1 d1 s1 => kk _ _ H1 locs1 (ea_ext_s g1) ⟨p1, d1, s1, ea_H_set hH g1 ⟨rfl, hat, ⟨_, rfl⟩, fun k hk => ?_⟩⟩ (by rw [ea_map_set g1]; exact hl) (by rw [ea_map_set g1]; exact hs3))
                dsimp only
                rw [ea_al_at]
                by_cases hkj : k = j
                · subst hkj
                  rw [if_pos rfl, hj1]
                  simp only [ea_cv, va_up, if_pos]
                  exact ⟨v1, rfl, hv⟩
                · rw [if_neg hkj, hj1]
                  simp only [ea_cv, va_up, if_neg hkj]
                  exact hct k hk
        · cases hp
      · cases hp
    · cases hp
  | ldc x =>
    obtain rfl : 2 = len := by simpa [ea_len] using hlen
    simp only [ea_h] at hp
    split at hp
    · rename_i v z hr
      cases hp
      exact lv_ldc hexec hb hown (hts _ (hpl _ _ hr)) hdg (kk _ ws H locs (ea_ext_r ws) ⟨hP, hD, hS, hH⟩ hl ⟨⟨_, rfl, rfl⟩, hs⟩)
    · rename_i q z hr
      cases hb1 : Nat.beq ((q + 1) % 2) 0 with
      | false => rw [hb1] at hp; cases hp
      | true =>
        rw [hb1] at hp
        cases hp
        obtain ⟨hq, tx, hR⟩ := hpz _ _ hr
        exact va_ldcS hexec hb hown hR hdg (kk _ ws H locs (ea_ext_r ws) ⟨hP, hD, hS, hH⟩ hl ⟨⟨by rw [(sx_even (sb := sb) hb1).1], hq⟩, hs⟩)
    · cases hp
  | ldc_w x =>
    obtain rfl : 3 = len := by simpa [ea_len] using hlen
    simp only [ea_h] at hp
    split at hp
    · rename_i v z hr
      cases hp
      exact lv_ldcw hexec hb hown (hts _ (hpl _ _ hr)) hdg (kk _ ws H locs (ea_ext_r ws) ⟨hP, hD, hS, hH⟩ hl ⟨⟨_, rfl, rfl⟩, hs⟩)
    · rename_i q z hr
      cases hb1 : Nat.beq ((q + 1) % 2) 0 with
      | false => rw [hb1] at hp; cases hp
      | true =>
        rw [hb1] at hp
        cases hp
        obtain ⟨hq, tx, hR⟩ := hpz _ _ hr
        exact va_ldcSW hexec hb hown hR hdg (kk _ ws H locs (ea_ext_r ws) ⟨hP, hD, hS, hH⟩ hl ⟨⟨by rw [(sx_even (sb := sb) hb1).1], hq⟩, hs⟩)
    · cases hp
  | ldc2_w x =>
    obtain rfl : 3 = len := by simpa [ea_len] using hlen
    simp only [ea_h] at hp
    split at hp
    · rename_i v z hr
      cases hp
      exact lv_ldc2 hexec hb hown (hts _ (hpl _ _ hr)) hdg (kk _ ws H locs (ea_ext_r ws) ⟨hP, hD, hS, hH⟩ hl ⟨rfl, hs⟩)
    · cases hp
  | _ => cases hp
end EAH
end
section
/-! THE ABSTRACT MACHINE: an index between bounds, in a row of which every element lies between the same bounds -/
def iv_ix (i : AI) (n : Nat) : Bool := decide (0 ≤ ea_lo i) && decide (ea_hi i < (n : Int))
theorem iv_ix_ok {i : AI} {n : Nat} (h : iv_ix i n = true) {x : Int32} (hx : ea_gi i x) : vp_in x n ∧ x.toNatClampNeg < n := by
  have b := ea_bd hx
  unfold iv_ix at h
  simp only [Bool.and_eq_true, decide_eq_true_eq] at h
  have hin := vp_in_iff.mpr (show 0 ≤ x.toInt ∧ x.toInt < n from ⟨by omega, by omega⟩)
  exact ⟨hin, Nat.not_le.mp fun q => hin (Or.inr q)⟩
def ea_g (i : Instr) (pc : Nat) (S : List AV) (C : List AC) : Option (Nat × List AV) := match i with
  | .iaload => match S with
    | .inl i :: .inr (.inl (some a)) :: S => match ea_nt C a with
      | some (.inl (0, n, .inl v, [])) => bif iv_ix i n then some (pc + 1, .inl v :: S) else none
      | _ => none
    | _ => none
  | .baload => match S with
    | .inl i :: .inr (.inl (some a)) :: S => match ea_nt C a with
      | some (.inl (2, n, .inl v, [])) => bif iv_ix i n then some (pc + 1, .inl v :: S) else none
      | _ => none
    | _ => none
  | .laload => match S with
    | .inl i :: .inr (.inl (some a)) :: S => match ea_nt C a with
      | some (.inl (1, n, .inr (.inr (.inl none)), [])) => bif iv_ix i n then some (pc + 1, .inr (.inr (.inl none)) :: S) else none
      | _ => none
    | _ => none
  | .iastore => match S with
    | .inl v :: .inl i :: .inr (.inl (some a)) :: S => match ea_nt C a with
      | some (.inl (0, n, .inl d, [])) => bif iv_ix i n && iv_le v d then some (pc + 1, S) else none
      | _ => none
    | _ => none
  | .bastore => match S with
    | .inl v :: .inl i :: .inr (.inl (some a)) :: S => match ea_nt C a with
      | some (.inl (2, n, .inl d, [])) => bif iv_ix i n && iv_le (iv_by v) d then some (pc + 1, S) else none
      | _ => none
    | _ => none
  | .lastore => match S with
    | .inr (.inr (.inl _)) :: .inl i :: .inr (.inl (some a)) :: S => match ea_nt C a with
      | some (.inl (1, n, .inr (.inr (.inl none)), [])) => bif iv_ix i n then some (pc + 1, S) else none
      | _ => none
    | _ => none
  | _ => none
theorem ea_set_same {C : List AC} {a : Nat} {c : AC} (h : ea_nt C a = some c) : C.set a c = C := by
  rw [ea_nt_eq] at h
  apply List.ext_getElem?
  intro i
  rw [List.getElem?_set]
  split
  · rename_i e
    subst e
    rw [if_pos (List.getElem?_eq_some_iff.mp h).1, h]
  · rfl
section EAG
variable {p : Program} {l : Launch} {e : Env} {R : Room} {s : State} {m : MethodId} {args : Array Value} {below : List Frame} {meth : Method} {c : Code} {H : Heap} {locs : List Loc} {cells slots : Nat} {Q : State → Prop}
variable {cc : ByteArray} {pc : Nat} {ls : Array Slot} {st : List Value} {D : va_G} {cl : List vw_C} {A : Nat → Prop} {ws : va_W} {sb : SB} {C : List AC}
theorem ea_g_ok {i : Instr} {len nL pc' : Nat} {L : List (Nat × AV)} {S S' : List AV} (hexec : p.tables.exec = Jvm.exec) (hb : c.code = cc) (hK : va_K D cl [] s) (hdg : decode cc pc = .ok (i, len)) (hlen : ea_len i = 0 ∨ ea_len i = len) (hp : ea_g i pc S C = some (pc', S'))
    (hP : va_P D cl ws H) (hD : va_D A ws) (hS : va_S A s.heap H locs) (hH : ea_H cl s sb C ws) (hl : ea_L (sb, ws.map Prod.fst) nL L ls) (hs : ea_rl (ea_gv (sb, ws.map Prod.fst)) S st)
    (kk : ∀ (st' : List Value) (ws' : va_W) (H' : Heap) (locs' : List Loc), ea_ext ws ws' → ea_W D cl A s sb C ws' H' locs' → ea_L (sb, ws'.map Prod.fst) nL L ls → ea_rl (ea_gv (sb, ws'.map Prod.fst)) S' st' → W p l e R s m args below meth c H' locs' cells slots Q (F0 m pc' ls st')) : W p l e R s m args below meth c H locs cells slots Q (F0 m pc ls st) := by
  cases i with
  | iaload =>
    obtain rfl : 1 = len := by simpa [ea_len] using hlen
    simp only [ea_g] at hp
    split at hp
    · rename_i i a S0
      split at hp
      · rename_i n v ho
        cases hx0 : iv_ix i n with
        | false => rw [hx0] at hp; cases hp
        | true =>
          rw [hx0] at hp
          cases hp
          obtain ⟨_, _, rfl, ⟨x, rfl, hx⟩, hs1⟩ := ea_pop hs
          obtain ⟨_, _, rfl, ⟨aa, rfl, ha⟩, hs2⟩ := ea_pop hs1
          obtain ⟨a1, E, g1, g2, g3⟩ := ea_H_get hH ho
          obtain rfl : aa = a1 := Option.some.inj (ha.symm.trans g3)
          obtain ⟨hin, hj2⟩ := iv_ix_ok hx0 hx
          match E, g1, g2 with
          | .inl (cA, n', y), g1, ⟨e1, hat, ⟨f, hf⟩, hct⟩ =>
            dsimp only at e1 hf hct
            subst e1
            subst hf
            have hc := hct _ hj2
            exact va_iald hexec hb (ea_K1 hK hat) hP a 0 g1 rfl hin hdg (kk _ ws H locs (ea_ext_r ws) ⟨hP, hD, hS, hH⟩ hl ⟨hc, hs2⟩)
      · cases hp
    · cases hp
  | baload =>
    obtain rfl : 1 = len := by simpa [ea_len] using hlen
    simp only [ea_g] at hp
    split at hp
    · rename_i i a S0
      split at hp
      · rename_i n v ho
        cases hx0 : iv_ix i n with
        | false => rw [hx0] at hp; cases hp
        | true =>
          rw [hx0] at hp
          cases hp
          obtain ⟨_, _, rfl, ⟨x, rfl, hx⟩, hs1⟩ := ea_pop hs
          obtain ⟨_, _, rfl, ⟨aa, rfl, ha⟩, hs2⟩ := ea_pop hs1
          obtain ⟨a1, E, g1, g2, g3⟩ := ea_H_get hH ho
          obtain rfl : aa = a1 := Option.some.inj (ha.symm.trans g3)
          obtain ⟨hin, hj2⟩ := iv_ix_ok hx0 hx
          match E, g1, g2 with
          | .inl (cA, n', y), g1, ⟨e1, hat, ⟨f, hf⟩, hct⟩ =>
            dsimp only at e1 hf hct
            subst e1
            subst hf
            have hc := hct _ hj2
            exact va_bald hexec hb (ea_K1 hK hat) hP a 0 g1 rfl hin hdg (kk _ ws H locs (ea_ext_r ws) ⟨hP, hD, hS, hH⟩ hl ⟨hc, hs2⟩)
      · cases hp
    · cases hp
  | laload =>
    obtain rfl : 1 = len := by simpa [ea_len] using hlen
    simp only [ea_g] at hp
    split at hp
    · rename_i i a S0
      split at hp
      · rename_i n ho
        cases hx0 : iv_ix i n with
        | false => rw [hx0] at hp; cases hp
        | true =>
          rw [hx0] at hp
          cases hp
          obtain ⟨_, _, rfl, ⟨x, rfl, hx⟩, hs1⟩ := ea_pop hs
          obtain ⟨_, _, rfl, ⟨aa, rfl, ha⟩, hs2⟩ := ea_pop hs1
          obtain ⟨a1, E, g1, g2, g3⟩ := ea_H_get hH ho
          obtain rfl : aa = a1 := Option.some.inj (ha.symm.trans g3)
          obtain ⟨hin, hj2⟩ := iv_ix_ok hx0 hx
          match E, g1, g2 with
          | .inl (cA, n', y), g1, ⟨e1, hat, ⟨f, hf⟩, hct⟩ =>
            dsimp only at e1 hf hct
            subst e1
            subst hf
            have hc := hct _ hj2
            exact va_lald hexec hb (ea_K1 hK hat) hP a 0 g1 rfl hin hdg (kk _ ws H locs (ea_ext_r ws) ⟨hP, hD, hS, hH⟩ hl ⟨hc, hs2⟩)
      · cases hp
    · cases hp
  | iastore =>
    obtain rfl : 1 = len := by simpa [ea_len] using hlen
    simp only [ea_g] at hp
    split at hp
    · rename_i v i a S0
      split at hp
      · rename_i n d ho
        cases hx0 : (iv_ix i n && iv_le v d) with
        | false => rw [hx0] at hp; cases hp
        | true =>
          rw [hx0] at hp
          cases hp
          simp only [Bool.and_eq_true] at hx0
          obtain ⟨_, _, rfl, ⟨v1, rfl, hv⟩, hs1⟩ := ea_pop hs
          obtain ⟨_, _, rfl, ⟨x, rfl, hx⟩, hs2⟩ := ea_pop hs1
          obtain ⟨_, _, rfl, ⟨aa, rfl, ha⟩, hs3⟩ := ea_pop hs2
          obtain ⟨a1, E, g1, g2, g3⟩ := ea_H_get hH ho
          obtain rfl : aa = a1 := Option.some.inj (ha.symm.trans g3)
          obtain ⟨hin, hj2⟩ := iv_ix_ok hx0.1 hx
          match E, g1, g2 with
          | .inl (cA, n', y), g1, ⟨e1, hat, ⟨f, hf⟩, hct⟩ =>
            dsimp only at e1 hf hct
            subst e1
            subst hf
            refine va_iast hexec hb (ea_K1 hK hat) hP hD hS a 0 g1 rfl hin hdg (fun H1 locs1 p1 d1 s1 => kk _ _ H1 locs1 (ea_ext_s g1) ⟨p1, d1, s1, ?_⟩ (by rw [ea_map_set g1]; exact hl) (by rw [ea_map_set g1]; exact hs3))
            rw [← ea_set_same ho]
            refine ea_H_set hH g1 ⟨rfl, hat, ⟨_, rfl⟩, fun k hk => ?_⟩
            dsimp only
            by_cases hkj : k = x.toNatClampNeg
            · subst hkj
              simp only [ea_cv, upd, if_pos]
              exact ⟨v1, rfl, iv_le_ok hx0.2 hv⟩
            · simp only [ea_cv, upd, if_neg hkj]
              exact hct k hk
      · cases hp
    · cases hp
  | bastore =>
    obtain rfl : 1 = len := by simpa [ea_len] using hlen
    simp only [ea_g] at hp
    split at hp
    · rename_i v i a S0
      split at hp
      · rename_i n d ho
        cases hx0 : (iv_ix i n && iv_le (iv_by v) d) with
        | false => rw [hx0] at hp; cases hp
        | true =>
          rw [hx0] at hp
          cases hp
          simp only [Bool.and_eq_true] at hx0
          obtain ⟨_, _, rfl, ⟨v1, rfl, hv⟩, hs1⟩ := ea_pop hs
          obtain ⟨_, _, rfl, ⟨x, rfl, hx⟩, hs2⟩ := ea_pop hs1
          obtain ⟨_, _, rfl, ⟨aa, rfl, ha⟩, hs3⟩ := ea_pop hs2
          obtain ⟨a1, E, g1, g2, g3⟩ := ea_H_get hH ho
          obtain rfl : aa = a1 := Option.some.inj (ha.symm.trans g3)
          obtain ⟨hin, hj2⟩ := iv_ix_ok hx0.1 hx
          match E, g1, g2 with
          | .inl (cA, n', y), g1, ⟨e1, hat, ⟨f, hf⟩, hct⟩ =>
            dsimp only at e1 hf hct
            subst e1
            subst hf
            refine va_bast hexec hb (ea_K1 hK hat) hP hD hS a 0 g1 rfl hin hdg (fun H1 locs1 p1 d1 s1 => kk _ _ H1 locs1 (ea_ext_s g1) ⟨p1, d1, s1, ?_⟩ (by rw [ea_map_set g1]; exact hl) (by rw [ea_map_set g1]; exact hs3))
            rw [← ea_set_same ho]
            refine ea_H_set hH g1 ⟨rfl, hat, ⟨_, rfl⟩, fun k hk => ?_⟩
            dsimp only
            by_cases hkj : k = x.toNatClampNeg
            · subst hkj
              simp only [ea_cv, upd, if_pos]
              exact ⟨_, rfl, iv_le_ok hx0.2 (iv_by_ok hv)⟩
            · simp only [ea_cv, upd, if_neg hkj]
              exact hct k hk
      · cases hp
    · cases hp
  | lastore =>
    obtain rfl : 1 = len := by simpa [ea_len] using hlen
    simp only [ea_g] at hp
    split at hp
    · rename_i v i a S0
      split at hp
      · rename_i n ho
        cases hx0 : iv_ix i n with
        | false => rw [hx0] at hp; cases hp
        | true =>
          rw [hx0] at hp
          cases hp
          obtain ⟨_, _, rfl, hv, hs1⟩ := ea_pop hs
          obtain ⟨v1, rfl, hv1⟩ := ea_gl hv
          obtain ⟨_, _, rfl, ⟨x, rfl, hx⟩, hs2⟩ := ea_pop hs1
          obtain ⟨_, _, rfl, ⟨aa, rfl, ha⟩, hs3⟩ := ea_pop hs2
          obtain ⟨a1, E, g1, g2, g3⟩ := ea_H_get hH ho
          obtain rfl : aa = a1 := Option.some.inj (ha.symm.trans g3)
          obtain ⟨hin, hj2⟩ := iv_ix_ok hx0 hx
          match E, g1, g2 with
          | .inl (cA, n', y), g1, ⟨e1, hat, ⟨f, hf⟩, hct⟩ =>
            dsimp only at e1 hf hct
            subst e1
            subst hf
            refine va_last hexec hb (ea_K1 hK hat) hP hD hS a 0 g1 rfl hin hdg (fun H1 locs1 p1 d1 s1 => kk _ _ H1 locs1 (ea_ext_s g1) ⟨p1, d1, s1, ?_⟩ (by rw [ea_map_set g1]; exact hl) (by rw [ea_map_set g1]; exact hs3))
            rw [← ea_set_same ho]
            refine ea_H_set hH g1 ⟨rfl, hat, ⟨_, rfl⟩, fun k hk => ?_⟩
            dsimp only
            by_cases hkj : k = x.toNatClampNeg
            · subst hkj
              simp only [ea_cv, vp_updL, if_pos]
              exact ⟨v1, rfl⟩
            · simp only [ea_cv, vp_updL, if_neg hkj]
              exact hct k hk
      · cases hp
    · cases hp
  | _ => cases hp
end EAG
end
section
/-! THE ABSTRACT MACHINE, its run -/
def ea_ar (i : Nat) (as : List AV) : List (Nat × AV) := match as with
  | [] => []
  | a :: t => (i, a) :: ea_ar (if ea_cat a = 2 then i + 2 else i + 1) t
/-- evaluated first -/
def ea_fn {α : Type} (n : Nat) (k : Nat → α) : α := match n with
  | 0 => k 0
  | m + 1 => k (m + 1)
theorem ea_fn_eq {α : Type} (n : Nat) (k : Nat → α) : ea_fn n k = k n := by cases n <;> rfl
def ea_fi {α : Type} (x : Int32) (k : Int32 → α) : α := ea_fn x.toUInt32.toNat (fun n => k (UInt32.ofNat n).toInt32)
theorem ea_fi_eq {α : Type} (x : Int32) (k : Int32 → α) : ea_fi x k = k x := by
  rw [ea_fi, ea_fn_eq]
  congr 1
  simp
def ea_fL {α β : Type} (l : List α) (k : List α → β) : β := match l with
  | [] => k []
  | a :: t => ea_fL t (fun t => k (a :: t))
theorem ea_fL_eq {α β : Type} : ∀ (l : List α) (k : List α → β), ea_fL l k = k l
  | [], k => rfl
  | a :: t, k => by rw [ea_fL, ea_fL_eq t]
def ea_fS {β : Type} (S : List AV) (k : List AV → β) : β := match S with
  | .inl (.inl x) :: t => ea_fi x (fun x => k (.inl (.inl x) :: t))
  | S => k S
theorem ea_fS_eq {β : Type} (S : List AV) (k : List AV → β) : ea_fS S k = k S := by
  unfold ea_fS
  split
  · rw [ea_fi_eq]
  · rfl
/-- what a run gives: a value, nothing, or an exception (by its class); the cells; how many cells and slots were made -/
abbrev AR : Type := (Option AV ⊕ Nat) × List AC × Nat × Nat
/-- A PROGRAM, its methods by numbers: its instructions; its class's pool (1, 13: a static method: number, how many arguments; 2: a method of an object; 3, 15: a constructor; 4: Object's; 9: System.arraycopy; 8: a String; 11: the class of an exception to be made; 12: its constructor); the kinds of fields; is it a constructor; its locals; what it gives (0 nothing, 1 int, 2 long, 3 boolean); how deep it calls; its class's number; its handlers (from, to, where, the class, its pool entry); which exception is one of which class; the script -/
abbrev EP : Type := (Nat → Nat → Option (Instr × Nat)) × (Nat → Nat → Option (Nat × Nat × Nat)) × (Nat → Nat → Nat) × (Nat → Bool) × (Nat → Nat) × (Nat → Nat) × (Nat → Nat) × (Nat → Nat) × (Nat → List (Nat × Nat × Nat × Nat × Nat)) × (Nat → Nat → Bool) × (Nat → Option (List AI))
abbrev ep_cod (P : EP) : Nat → Nat → Option (Instr × Nat) := P.1
abbrev ep_pl (P : EP) : Nat → Nat → Option (Nat × Nat × Nat) := P.2.1
abbrev ep_fty (P : EP) : Nat → Nat → Nat := P.2.2.1
abbrev ep_ini (P : EP) : Nat → Bool := P.2.2.2.1
abbrev ep_nls (P : EP) : Nat → Nat := P.2.2.2.2.1
abbrev ep_rtp (P : EP) : Nat → Nat := P.2.2.2.2.2.1
abbrev ep_dep (P : EP) : Nat → Nat := P.2.2.2.2.2.2.1
abbrev ep_own (P : EP) : Nat → Nat := P.2.2.2.2.2.2.2.1
abbrev ep_hdl (P : EP) : Nat → List (Nat × Nat × Nat × Nat × Nat) := P.2.2.2.2.2.2.2.2.1
abbrev ep_sub (P : EP) : Nat → Nat → Bool := P.2.2.2.2.2.2.2.2.2.1
abbrev ep_scr (P : EP) : Nat → Option (List AI) := P.2.2.2.2.2.2.2.2.2.2
/-- the handler that takes an exception of the class ce at pc -/
def ea_hd (sub : Nat → Nat → Bool) (ce pc : Nat) (hs : List (Nat × Nat × Nat × Nat × Nat)) : Option Nat := match hs with
  | [] => none
  | q :: t => bif Nat.ble q.1 pc && (Nat.blt pc q.2.1 && sub ce q.2.2.2.1) then some q.2.2.1 else ea_hd sub ce pc t
/-- the end of a method -/
def ea_rt (r : Nat) (i : Instr) (S : List AV) : Option (Option AV) := match i, S with
  | .ireturn, [a] => match r with
    | 1 => bif ea_fit 0 a then some (some a) else none
    | 3 => bif ea_fit 2 a then some (some a) else none
    | 4 => match a with
      | .inl (.inl x) => if x.toUInt32.toUInt16.toUInt32.toInt32 = x then some (some (.inl (.inl x))) else none
      | _ => none
    | 5 => match a with
      | .inl (.inl x) => if x.toInt8.toInt32 = x then some (some (.inl (.inl x))) else none
      | _ => none
    | _ => none
  | .lreturn, [a] => match r with
    | 2 => bif ea_fit 1 a then some (some a) else none
    | _ => none
  | .return_, [] => match r with
    | 0 => some none
    | _ => none
  | _, _ => none
/-- which call it is: the method's number, its arguments (the object first), what stays on the stack; may it throw -/
def ea_cl (own : Nat → Nat) (i : Instr) (r : Option (Nat × Nat × Nat)) (S : List AV) (C : List AC) : Option (Nat × List AV × List AV × Bool) := match i, r with
  | .invokestatic _, some (1, mj, n) => bif Nat.ble n S.length then some (mj, (S.take n).reverse, S.drop n, true) else none
  | .invokestatic _, some (13, mj, n) => bif Nat.ble n S.length then some (mj, (S.take n).reverse, S.drop n, false) else none
  | .invokespecial _, some (3, mj, n) => match S.drop n with
    | .inr (.inl (some a)) :: T => some (mj, .inr (.inl (some a)) :: (S.take n).reverse, T, false)
    | _ => none
  | .invokespecial _, some (15, mj, n) => match S.drop n with
    | .inr (.inl (some a)) :: T => some (mj, .inr (.inl (some a)) :: (S.take n).reverse, T, false)
    | _ => none
  | .invokevirtual _, some (2, mj, n) => match S.drop n with
    | .inr (.inl (some a)) :: T => match ea_nt C a with
      | some (.inr o) => bif Nat.beq o.1 (own mj) then some (mj, .inr (.inl (some a)) :: (S.take n).reverse, T, true) else none
      | _ => none
    | _ => none
  | .invokevirtual _, some (26, mj, n) => match S.drop n with
    | .inr (.inr (.inr (.inr (q + 1)))) :: T => bif Nat.beq ((q + 1) % 2) 0 then some (mj, .inr (.inr (.inr (.inr (q + 1)))) :: (S.take n).reverse, T, true) else none
    | _ => none
  | _, _ => none
def ea_wt (S : List AV) : Nat := match S with
  | [] => 0
  | a :: t => ea_cat a + ea_wt t
/-- Object's constructor: what stays -/
def ea_oi (r : Option (Nat × Nat × Nat)) (S : List AV) : Option (List AV) := match r, S with
  | some (4, _), .inr (.inl (some _)) :: T => some T
  | _, _ => none
theorem ea_oi_ok {r : Option (Nat × Nat × Nat)} {S T : List AV} (h : ea_oi r S = some T) : ∃ u a, r = some (4, u) ∧ S = .inr (.inl (some a)) :: T := by
  unfold ea_oi at h
  split at h
  · cases h; exact ⟨_, _, rfl, rfl⟩
  · cases h
/-- Math.max, Math.min -/
def ea_mx (S : List AV) : Option (List AV) := match S with
  | .inl b :: .inl a :: T => some (.inl (ea_i2 (fun x y => if x < y then y else x) a b) :: T)
  | _ => none
def ea_mn (S : List AV) : Option (List AV) := match S with
  | .inl b :: .inl a :: T => some (.inl (ea_i2 (fun x y => if y < x then y else x) a b) :: T)
  | _ => none
def ea_mm (r : Option (Nat × Nat × Nat)) (S : List AV) : Option (List AV) := match r with
  | some (16, _) => ea_mx S
  | some (17, _) => ea_mn S
  | _ => none
def ea_is9 (r : Option (Nat × Nat × Nat)) : Bool := match r with
  | some (9, _) => true
  | _ => false
theorem ea_is9_ok {r : Option (Nat × Nat × Nat)} (h : ea_is9 r = true) : ∃ u, r = some (9, u) := by
  unfold ea_is9 at h
  split at h
  · exact ⟨_, rfl⟩
  · cases h
/-- System.arraycopy of a whole array onto one of its kind and length -/
def ea_cy (S : List AV) (C : List AC) : Option (List AV × List AC) := match S with
  | .inl (.inl n) :: .inl (.inl dp) :: .inr (.inl (some b)) :: .inl (.inl sp) :: .inr (.inl (some a)) :: T => match ea_nt C a, ea_nt C b with
    | some (.inl (t, n0, d, us)), some (.inl (t1, n1, _, _)) => if t = t1 ∧ t < 2 ∧ n0 = n1 ∧ n0 < 2147483648 ∧ n = Int32.ofNat n0 ∧ sp = 0 ∧ dp = 0 ∧ ea_wt T ≤ 8 then some (T, C.set b (.inl (t, n0, d, us))) else none
    | _, _ => none
  | _ => none
/-- 'throw new X("..")' from its first instruction on, the constructor a further, athrow b further: the class -/
def ea_t2 (P : EP) (m pc y a b : Nat) : Option Nat := match ep_cod P m pc, ep_cod P m (pc + 3), ep_cod P m (pc + a), ep_cod P m (pc + b) with
  | some (.new x, 3), some (.dup, 1), some (.invokespecial z, 3), some (.athrow, 1) => match ep_pl P m x, ep_pl P m y, ep_pl P m z with
    | some (11, ce, _), some (8, _, _), some (12, ce', _) => bif Nat.beq ce ce' && Nat.ble 9 (ep_dep P m) then match ep_hdl P m with
        | [] => some ce
        | _ => none
      else none
    | _, _, _ => none
  | _, _, _, _ => none
def ea_tw (P : EP) (m pc : Nat) : Option Nat := match ep_cod P m (pc + 4) with
  | some (.ldc y, 2) => ea_t2 P m pc y 6 9
  | some (.ldc_w y, 3) => ea_t2 P m pc y 7 10
  | _ => none
/-- a point of a method: where, locals, stack, cells, how many cells and slots were made -/
abbrev AF : Type := Nat × List (Nat × AV) × List AV × List AC × Nat × Nat
/-- a call -/
def ea_q (P : EP) (cal : Nat → Nat → List (Nat × AV) → List AV → List AC → Nat → Nat → Option AR) (m pc : Nat) (L : List (Nat × AV)) (S : List AV) (C : List AC) (k w : Nat) (i : Instr) (r : Option (Nat × Nat × Nat)) : Option (AF ⊕ AR) :=
  match ea_cl (ep_own P) i r S C with
  | some (mj, as, T, b) =>
    bif Nat.blt (ep_dep P mj) (ep_dep P m) && (Nat.ble (ea_wt T) 8 && Nat.ble (ea_wt as) (ep_nls P mj)) then
      match cal mj 0 (ea_ar 0 as) [] C 0 0 with
      | some (.inl v, C, dk, dw) => ea_fn (pc + 3) fun pc => ea_fn (k + dk) fun k => ea_fn (w + dw) fun w => some (.inl (pc, L, v.toList ++ T, C, k, w))
      | some (.inr ce, C, dk, dw) => bif b then ea_fn (k + dk) fun k => ea_fn (w + dw) fun w => match ea_hd (ep_sub P) ce pc (ep_hdl P m) with
          | some h => some (.inl (h, L, [.inr (.inr (.inr (.inl false)))], C, k, w))
          | none => some (.inr (.inr ce, C, k, w))
        else none
      | none => none
    else none
  | none => none
/-- one instruction -/
def ea_1 (P : EP) (cal : Nat → Nat → List (Nat × AV) → List AV → List AC → Nat → Nat → Option AR) (m pc : Nat) (L : List (Nat × AV)) (S : List AV) (C : List AC) (k w : Nat) : Option (AF ⊕ AR) :=
  match ep_cod P m pc with
  | none => none
  | some (i, len) =>
    bif Nat.beq (ea_len i) 0 || Nat.beq (ea_len i) len then
      match ea_p i pc (ep_nls P m) L S with
      | some (pc, L, S) => ea_fn pc fun pc => ea_fL L fun L => ea_fS S fun S => some (.inl (pc, L, S, C, k, w))
      | none =>
        match ea_h (ep_ini P m) (ep_pl P m) (ep_fty P) (ep_scr P m) i pc S C with
        | some (pc, S, C', dk, dw) => ea_fn pc fun pc => ea_fS S fun S => ea_fn (k + dk) fun k => ea_fn (w + dw) fun w => match C' with
          | none => some (.inl (pc, L, S, C, k, w))
          | some C' => ea_fL C' fun C' => some (.inl (pc, L, S, C', k, w))
        | none =>
          match ea_rt (ep_rtp P m) i S with
          | some v => some (.inr (.inl v, C, k, w))
          | none =>
            match i with
            | .invokespecial x => match ea_oi (ep_pl P m x) S with
              | some T => bif Nat.ble (ea_wt T) 8 && Nat.ble 1 (ep_dep P m) then ea_fn (pc + 3) fun pc => some (.inl (pc, L, T, C, k, w)) else none
              | none => ea_q P cal m pc L S C k w (.invokespecial x) (ep_pl P m x)
            | .invokestatic x => match ea_mm (ep_pl P m x) S with
              | some T => bif Nat.ble (ea_wt T) 80 && Nat.ble 1 (ep_dep P m) then ea_fn (pc + 3) fun pc => ea_fS T fun T => some (.inl (pc, L, T, C, k, w)) else none
              | none => bif ea_is9 (ep_pl P m x) then match ea_cy S C with
                | some (T, C) => bif Nat.ble 1 (ep_dep P m) then ea_fn (pc + 3) fun pc => ea_fL C fun C => some (.inl (pc, L, T, C, k, w)) else none
                | none => none
              else ea_q P cal m pc L S C k w (.invokestatic x) (ep_pl P m x)
            | .invokevirtual x => ea_q P cal m pc L S C k w (.invokevirtual x) (ep_pl P m x)
            | .new _ => bif Nat.ble (ea_wt S) 100 then match ea_tw P m pc with
                | some ce => some (.inr (.inr ce, C, k + 1, w + 6))
                | none => none
              else none
            | _ => none
    else none
def ea_b (P : EP) (ih : Nat → Nat → List (Nat × AV) → List AV → List AC → Nat → Nat → Option AR) (m pc : Nat) (L : List (Nat × AV)) (S : List AV) (C : List AC) (k w : Nat) : Option AR := match ea_1 P ih m pc L S C k w with
  | some (.inl (pc, L, S, C, k, w)) => ih m pc L S C k w
  | some (.inr r) => some r
  | none => none
/-- a run to the end -/
def ea_x (P : EP) (n : Nat) : Nat → Nat → List (Nat × AV) → List AV → List AC → Nat → Nat → Option AR := Nat.rec (fun _ _ _ _ _ _ _ => none) (fun _ ih => ea_b P ih) n
/-- a run of the method m up to the place stop -/
def ea_y (P : EP) (c m stop : Nat) (n : Nat) : Nat → List (Nat × AV) → List AV → List AC → Nat → Nat → Option AF := Nat.rec (fun _ _ _ _ _ _ => none) (fun _ ih pc L S C k w => bif Nat.beq pc stop then some (pc, L, S, C, k, w) else match ea_1 P (ea_x P c) m pc L S C k w with
  | some (.inl (pc, L, S, C, k, w)) => ih pc L S C k w
  | _ => none) n
end
