section EAP
variable {p : Program} {l : Launch} {e : Env} {R : Room} {s : State} {m : MethodId} {args : Array Value} {below : List Frame} {meth : Method} {c : Code} {H : Heap} {locs : List Loc} {cells slots : Nat} {Q : State → Prop}
variable {cc : ByteArray} {pc : Nat} {ls : Array Slot} {st : List Value}
theorem ea_pop {ad : SB × List Nat} {a : AV} {S : List AV} {st : List Value} (h : ea_rl (ea_gv ad) (a :: S) st) : ∃ v t, st = v :: t ∧ ea_gv ad a v ∧ ea_rl (ea_gv ad) S t := ea_rl_cons h
theorem ea_gl {ad : SB × List Nat} {a : Option Int64} {v : Value} (h : ea_gv ad (.inr (.inr (.inl a))) v) : ∃ x : Int64, v = .long x ∧ ∀ y, a = some y → x = y := by
  cases a with
  | none => obtain ⟨x, rfl⟩ := h; exact ⟨x, rfl, fun y q => by cases q⟩
  | some z => exact ⟨z, h, fun y q => by cases q; rfl⟩
theorem ea_lg {ad : SB × List Nat} {a : Option Int64} {x : Int64} (h : ∀ y, a = some y → x = y) : ea_gv ad (.inr (.inr (.inl a))) (.long x) := by
  cases a with
  | none => exact ⟨x, rfl⟩
  | some z => rw [h z rfl]; rfl
theorem ea_l2_ok (f : Int64 → Int64 → Int64) {a b : Option Int64} {x y : Int64} (hx : ∀ z, a = some z → x = z) (hy : ∀ z, b = some z → y = z) : ∀ z, ea_l2 f a b = some z → f x y = z := by
  intro z h
  cases a with
  | none => cases b <;> cases h
  | some u => cases b with
    | none => cases h
    | some v => cases h; rw [hx u rfl, hy v rfl]
theorem ea_sw_ok {dflt lo hi off : Int} {offs : Array Int} {i : AI} (h : ea_sw dflt lo hi offs i = some off) {x : Int32} (hx : ea_gi i x) : (off = dflt ∧ (x.toInt < lo ∨ hi < x.toInt)) ∨ (¬ x.toInt < lo ∧ ¬ hi < x.toInt ∧ offs[(x.toInt - lo).toNat]? = some off) := by
  have bx := ea_bd hx
  unfold ea_sw at h
  split at h
  · cases h; exact Or.inl ⟨rfl, Or.inl (by omega)⟩
  · split at h
    · cases h; exact Or.inl ⟨rfl, Or.inr (by omega)⟩
    · match i, h, hx with
      | .inl y, h, hx =>
        obtain rfl : x = y := hx
        dsimp only at h
        split at h
        · rename_i hin
          exact Or.inr ⟨hin.1, hin.2, by rw [← Array.getElem?_toList]; exact h⟩
        · cases h
      | .inr q, h, _ => cases h
set_option maxHeartbeats 4000000 in
set_option maxRecDepth 20000 in
theorem ea_p_ok {ad : SB × List Nat} {nL pc' len : Nat} {i : Instr} {L L' : List (Nat × AV)} {S S' : List AV} (hexec : p.tables.exec = Jvm.exec) (hb : c.code = cc) (hdg : decode cc pc = .ok (i, len)) (hlen : ea_len i = 0 ∨ ea_len i = len) (hp : ea_p i pc nL L S = some (pc', L', S')) (hl : ea_L ad nL L ls) (hs : ea_rl (ea_gv ad) S st)
    (kk : ∀ (ls' : Array Slot) (st' : List Value), ea_L ad nL L' ls' → ea_rl (ea_gv ad) S' st' → W p l e R s m args below meth c H locs cells slots Q (F0 m pc' ls' st')) : W p l e R s m args below meth c H locs cells slots Q (F0 m pc ls st) := by
  cases i with
  | iconst n =>
    obtain rfl : 1 = len := by simpa [ea_len] using hlen
    simp only [ea_p] at hp
    cases hp
    exact lv_iconst hexec hb hdg rfl (kk _ _ hl ⟨⟨_, rfl, rfl⟩, hs⟩)
  | bipush n =>
    obtain rfl : 2 = len := by simpa [ea_len] using hlen
    simp only [ea_p] at hp
    cases hp
    exact lv_bipush hexec hb hdg rfl (kk _ _ hl ⟨⟨_, rfl, rfl⟩, hs⟩)
  | sipush n =>
    obtain rfl : 3 = len := by simpa [ea_len] using hlen
    simp only [ea_p] at hp
    cases hp
    exact lv_sipush hexec hb hdg rfl (kk _ _ hl ⟨⟨_, rfl, rfl⟩, hs⟩)
  | lconst n =>
    obtain rfl : 1 = len := by simpa [ea_len] using hlen
    simp only [ea_p] at hp
    cases hp
    exact lv_lconst hexec hb hdg rfl (kk _ _ hl ⟨rfl, hs⟩)
  | iload_n k =>
    obtain rfl : 1 = len := by simpa [ea_len] using hlen
    simp only [ea_p] at hp
    split at hp
    · rename_i a hk
      cases hp
      obtain ⟨v, h1, x, rfl, hx⟩ := ea_L_at hl hk
      exact lv_iload_n hexec hb hdg rfl h1 (kk _ _ hl ⟨⟨_, rfl, hx⟩, hs⟩)
    · cases hp
  | iload k =>
    obtain rfl : 2 = len := by simpa [ea_len] using hlen
    simp only [ea_p] at hp
    split at hp
    · rename_i a hk
      cases hp
      obtain ⟨v, h1, x, rfl, hx⟩ := ea_L_at hl hk
      exact lv_iload hexec hb hdg h1 (kk _ _ hl ⟨⟨_, rfl, hx⟩, hs⟩)
    · cases hp
  | lload_n k =>
    obtain rfl : 1 = len := by simpa [ea_len] using hlen
    simp only [ea_p] at hp
    split at hp
    · rename_i a hk
      cases hp
      obtain ⟨v, h1, h2⟩ := ea_L_at hl hk
      cases a with
      | none =>
        obtain ⟨x, rfl⟩ := h2
        exact lv_lload_n hexec hb hdg rfl h1 (kk _ _ hl ⟨⟨_, rfl⟩, hs⟩)
      | some y =>
        obtain rfl : v = .long y := h2
        exact lv_lload_n hexec hb hdg rfl h1 (kk _ _ hl ⟨rfl, hs⟩)
    · cases hp
  | lload k =>
    obtain rfl : 2 = len := by simpa [ea_len] using hlen
    simp only [ea_p] at hp
    split at hp
    · rename_i a hk
      cases hp
      obtain ⟨v, h1, h2⟩ := ea_L_at hl hk
      cases a with
      | none =>
        obtain ⟨x, rfl⟩ := h2
        exact lv_lload hexec hb hdg h1 (kk _ _ hl ⟨⟨_, rfl⟩, hs⟩)
      | some y =>
        obtain rfl : v = .long y := h2
        exact lv_lload hexec hb hdg h1 (kk _ _ hl ⟨rfl, hs⟩)
    · cases hp
  | aload_n k =>
    obtain rfl : 1 = len := by simpa [ea_len] using hlen
    simp only [ea_p] at hp
    split at hp
    · split at hp
      · rename_i a hk hr
        cases hp
        obtain ⟨v, h1, hv⟩ := ea_L_at hl hk
        obtain ⟨x, rfl⟩ := ea_isr_ok hr hv
        exact lv_aload_n hexec hb hdg rfl h1 (kk _ _ hl ⟨hv, hs⟩)
      · cases hp
    · cases hp
  | aload k =>
    obtain rfl : 2 = len := by simpa [ea_len] using hlen
    simp only [ea_p] at hp
    split at hp
    · split at hp
      · rename_i a hk hr
        cases hp
        obtain ⟨v, h1, hv⟩ := ea_L_at hl hk
        obtain ⟨x, rfl⟩ := ea_isr_ok hr hv
        exact lv_aload hexec hb hdg h1 (kk _ _ hl ⟨hv, hs⟩)
      · cases hp
    · cases hp
  | astore_n k =>
    obtain rfl : 1 = len := by simpa [ea_len] using hlen
    simp only [ea_p] at hp
    split at hp
    · split at hp
      · rename_i a S hk
        cases hp
        obtain ⟨v, t, rfl, hv, hs1⟩ := ea_pop hs
        obtain ⟨x, rfl⟩ := ea_isr_ok hk.1 hv
        obtain ⟨vl, h1, h2⟩ := hl
        exact lv_astore_n hexec hb hdg rfl h2 hk.2 rfl (fun ls' h3 => kk _ _ ⟨_, ea_rl_s1 h1 _ hv, h3⟩ hs1)
      · cases hp
    · cases hp
  | astore k =>
    obtain rfl : 2 = len := by simpa [ea_len] using hlen
    simp only [ea_p] at hp
    split at hp
    · split at hp
      · rename_i a S hk
        cases hp
        obtain ⟨v, t, rfl, hv, hs1⟩ := ea_pop hs
        obtain ⟨x, rfl⟩ := ea_isr_ok hk.1 hv
        obtain ⟨vl, h1, h2⟩ := hl
        exact lv_astore hexec hb hdg h2 hk.2 rfl (fun ls' h3 => kk _ _ ⟨_, ea_rl_s1 h1 _ hv, h3⟩ hs1)
      · cases hp
    · cases hp
  | istore_n k =>
    obtain rfl : 1 = len := by simpa [ea_len] using hlen
    simp only [ea_p] at hp
    split at hp
    · split at hp
      · rename_i a S hk
        cases hp
        obtain ⟨v, t, rfl, ⟨x, rfl, hx⟩, hs1⟩ := ea_pop hs
        obtain ⟨vl, h1, h2⟩ := hl
        exact lv_istore_n hexec hb hdg rfl h2 hk rfl (fun ls' h3 => kk _ _ ⟨_, ea_rl_s1 h1 _ ⟨_, rfl, hx⟩, h3⟩ hs1)
      · cases hp
    · cases hp
  | istore k =>
    obtain rfl : 2 = len := by simpa [ea_len] using hlen
    simp only [ea_p] at hp
    split at hp
    · split at hp
      · rename_i a S hk
        cases hp
        obtain ⟨v, t, rfl, ⟨x, rfl, hx⟩, hs1⟩ := ea_pop hs
        obtain ⟨vl, h1, h2⟩ := hl
        exact lv_istore hexec hb hdg h2 hk rfl (fun ls' h3 => kk _ _ ⟨_, ea_rl_s1 h1 _ ⟨_, rfl, hx⟩, h3⟩ hs1)
      · cases hp
    · cases hp
  | lstore_n k =>
    obtain rfl : 1 = len := by simpa [ea_len] using hlen
    simp only [ea_p] at hp
    split at hp
    · split at hp
      · rename_i a S hk
        cases hp
        obtain ⟨v, t, rfl, hv, hs1⟩ := ea_pop hs
        obtain ⟨vl, h1, h2⟩ := hl
        cases a with
        | none =>
          obtain ⟨x, rfl⟩ := hv
          exact lv_lstore_n hexec hb hdg rfl h2 hk rfl (fun ls' h3 => kk _ _ ⟨_, ea_rl_s2 h1 _ ⟨_, rfl⟩, h3⟩ hs1)
        | some y =>
          obtain rfl : v = .long y := hv
          exact lv_lstore_n hexec hb hdg rfl h2 hk rfl (fun ls' h3 => kk _ _ ⟨_, ea_rl_s2 h1 _ rfl, h3⟩ hs1)
      · cases hp
    · cases hp
  | lstore k =>
    obtain rfl : 2 = len := by simpa [ea_len] using hlen
    simp only [ea_p] at hp
    split at hp
    · split at hp
      · rename_i a S hk
        cases hp
        obtain ⟨v, t, rfl, hv, hs1⟩ := ea_pop hs
        obtain ⟨vl, h1, h2⟩ := hl
        cases a with
        | none =>
          obtain ⟨x, rfl⟩ := hv
          exact lv_lstore hexec hb hdg h2 hk rfl (fun ls' h3 => kk _ _ ⟨_, ea_rl_s2 h1 _ ⟨_, rfl⟩, h3⟩ hs1)
        | some y =>
          obtain rfl : v = .long y := hv
          exact lv_lstore hexec hb hdg h2 hk rfl (fun ls' h3 => kk _ _ ⟨_, ea_rl_s2 h1 _ rfl, h3⟩ hs1)
      · cases hp
    · cases hp
  | iinc k n =>
    obtain rfl : 3 = len := by simpa [ea_len] using hlen
    simp only [ea_p] at hp
    split at hp
    · split at hp
      · rename_i a hk hlt
        cases hp
        obtain ⟨vl, h1, h2⟩ := hl
        obtain ⟨j, hj⟩ := ea_lk_mem hk
        obtain ⟨⟨i', v⟩, h3, h4, x, h5, hx⟩ := ea_rl_get h1 hj
        dsimp only at h4 h5
        subst h4
        subst h5
        exact lv_iinc hexec hb hdg h2 h3 rfl hlt rfl (fun ls' h6 => kk _ _ ⟨_, ea_rl_s1 h1 _ ⟨_, rfl, iv_2_ok (f := fun x y => x + y) iv_addg_ok hx (rfl : ea_gi (.inl (Int32.ofInt n)) (Int32.ofInt n))⟩, h6⟩ hs)
      · cases hp
    · cases hp
  | iadd =>
    obtain rfl : 1 = len := by simpa [ea_len] using hlen
    simp only [ea_p] at hp
    split at hp
    · cases hp
      obtain ⟨_, _, rfl, ⟨y, rfl, hy⟩, hs1⟩ := ea_pop hs
      obtain ⟨_, _, rfl, ⟨x, rfl, hx⟩, hs2⟩ := ea_pop hs1
      exact lv_iadd hexec hb hdg (kk _ _ hl ⟨⟨_, rfl, iv_2_ok iv_addg_ok hx hy⟩, hs2⟩)
    · cases hp
  | isub =>
    obtain rfl : 1 = len := by simpa [ea_len] using hlen
    simp only [ea_p] at hp
    split at hp
    · cases hp
      obtain ⟨_, _, rfl, ⟨y, rfl, hy⟩, hs1⟩ := ea_pop hs
      obtain ⟨_, _, rfl, ⟨x, rfl, hx⟩, hs2⟩ := ea_pop hs1
      exact lv_isub hexec hb hdg (kk _ _ hl ⟨⟨_, rfl, iv_2_ok iv_subg_ok hx hy⟩, hs2⟩)
    · cases hp
  | imul =>
    obtain rfl : 1 = len := by simpa [ea_len] using hlen
    simp only [ea_p] at hp
    split at hp
    · cases hp
      obtain ⟨_, _, rfl, ⟨y, rfl, hy⟩, hs1⟩ := ea_pop hs
      obtain ⟨_, _, rfl, ⟨x, rfl, hx⟩, hs2⟩ := ea_pop hs1
      exact lv_imul hexec hb hdg (kk _ _ hl ⟨⟨_, rfl, iv_2_ok iv_mulg_ok hx hy⟩, hs2⟩)
    · cases hp
  | iand =>
    obtain rfl : 1 = len := by simpa [ea_len] using hlen
    simp only [ea_p] at hp
    split at hp
    · cases hp
      obtain ⟨_, _, rfl, ⟨y, rfl, hy⟩, hs1⟩ := ea_pop hs
      obtain ⟨_, _, rfl, ⟨x, rfl, hx⟩, hs2⟩ := ea_pop hs1
      exact lv_iand hexec hb hdg (kk _ _ hl ⟨⟨_, rfl, iv_2_ok iv_andg_ok hx hy⟩, hs2⟩)
    · cases hp
  | ior =>
    obtain rfl : 1 = len := by simpa [ea_len] using hlen
    simp only [ea_p] at hp
    split at hp
    · cases hp
      obtain ⟨_, _, rfl, ⟨y, rfl, hy⟩, hs1⟩ := ea_pop hs
      obtain ⟨_, _, rfl, ⟨x, rfl, hx⟩, hs2⟩ := ea_pop hs1
      exact lv_ior hexec hb hdg (kk _ _ hl ⟨⟨_, rfl, iv_2_ok iv_org_ok hx hy⟩, hs2⟩)
    · cases hp
  | ixor =>
    obtain rfl : 1 = len := by simpa [ea_len] using hlen
    simp only [ea_p] at hp
    split at hp
    · cases hp
      obtain ⟨_, _, rfl, ⟨y, rfl, hy⟩, hs1⟩ := ea_pop hs
      obtain ⟨_, _, rfl, ⟨x, rfl, hx⟩, hs2⟩ := ea_pop hs1
      exact lv_ixor hexec hb hdg (kk _ _ hl ⟨⟨_, rfl, iv_2_ok iv_xorg_ok hx hy⟩, hs2⟩)
    · cases hp
  | ishl =>
    obtain rfl : 1 = len := by simpa [ea_len] using hlen
    simp only [ea_p] at hp
    split at hp
    · cases hp
      obtain ⟨_, _, rfl, ⟨y, rfl, hy⟩, hs1⟩ := ea_pop hs
      obtain ⟨_, _, rfl, ⟨x, rfl, hx⟩, hs2⟩ := ea_pop hs1
      exact lv_ishl hexec hb hdg (kk _ _ hl ⟨⟨_, rfl, iv_2_ok iv_shlg_ok hx hy⟩, hs2⟩)
    · cases hp
  | ishr =>
    obtain rfl : 1 = len := by simpa [ea_len] using hlen
    simp only [ea_p] at hp
    split at hp
    · cases hp
      obtain ⟨_, _, rfl, ⟨y, rfl, hy⟩, hs1⟩ := ea_pop hs
      obtain ⟨_, _, rfl, ⟨x, rfl, hx⟩, hs2⟩ := ea_pop hs1
      exact lv_ishr hexec hb hdg (kk _ _ hl ⟨⟨_, rfl, ea_i2_ok (fun x y => x >>> (y &&& 31)) hx hy⟩, hs2⟩)
    · cases hp
  | iushr =>
    obtain rfl : 1 = len := by simpa [ea_len] using hlen
    simp only [ea_p] at hp
    split at hp
    · cases hp
      obtain ⟨_, _, rfl, ⟨y, rfl, hy⟩, hs1⟩ := ea_pop hs
      obtain ⟨_, _, rfl, ⟨x, rfl, hx⟩, hs2⟩ := ea_pop hs1
      exact lv_iushr hexec hb hdg rfl (kk _ _ hl ⟨⟨_, rfl, ea_i2_ok (fun x y => (x.toUInt32 >>> (y.toUInt32 &&& Int32.toUInt32 31)).toInt32) hx hy⟩, hs2⟩)
    · cases hp
  | ineg =>
    obtain rfl : 1 = len := by simpa [ea_len] using hlen
    simp only [ea_p] at hp
    split at hp
    · cases hp
      obtain ⟨_, _, rfl, ⟨x, rfl, hx⟩, hs1⟩ := ea_pop hs
      exact lv_ineg hexec hb hdg (kk _ _ hl ⟨⟨_, rfl, ea_i1_ok (fun x => -x) hx⟩, hs1⟩)
    · cases hp
  | idiv =>
    obtain rfl : 1 = len := by simpa [ea_len] using hlen
    simp only [ea_p] at hp
    split at hp
    · split at hp
      · rename_i b a S h0
        cases hp
        obtain ⟨_, _, rfl, ⟨z, rfl, hy⟩, hs1⟩ := ea_pop hs
        obtain ⟨_, _, rfl, ⟨x, rfl, hx⟩, hs2⟩ := ea_pop hs1
        exact lv_idiv hexec hb hdg (iv_nz_ok h0 hy) (kk _ _ hl ⟨⟨_, rfl, iv_2_ok iv_divg_ok hx hy⟩, hs2⟩)
      · cases hp
    · cases hp
  | irem =>
    obtain rfl : 1 = len := by simpa [ea_len] using hlen
    simp only [ea_p] at hp
    split at hp
    · split at hp
      · rename_i b a S h0
        cases hp
        obtain ⟨_, _, rfl, ⟨z, rfl, hy⟩, hs1⟩ := ea_pop hs
        obtain ⟨_, _, rfl, ⟨x, rfl, hx⟩, hs2⟩ := ea_pop hs1
        exact lv_irem hexec hb hdg (iv_nz_ok h0 hy) (kk _ _ hl ⟨⟨_, rfl, iv_2_ok iv_remg_ok hx hy⟩, hs2⟩)
      · cases hp
    · cases hp
  | i2c =>
    obtain rfl : 1 = len := by simpa [ea_len] using hlen
    simp only [ea_p] at hp
    split at hp
    · cases hp
      obtain ⟨_, _, rfl, ⟨x, rfl, hx⟩, hs1⟩ := ea_pop hs
      exact lv_i2c hexec hb hdg rfl (kk _ _ hl ⟨⟨_, rfl, ch_1_ok hx⟩, hs1⟩)
    · cases hp
  | i2b =>
    obtain rfl : 1 = len := by simpa [ea_len] using hlen
    simp only [ea_p] at hp
    split at hp
    · cases hp
      obtain ⟨_, _, rfl, ⟨x, rfl, hx⟩, hs1⟩ := ea_pop hs
      exact lv_i2b hexec hb hdg rfl (kk _ _ hl ⟨⟨_, rfl, iv_by_ok hx⟩, hs1⟩)
    · cases hp
  | i2l =>
    obtain rfl : 1 = len := by simpa [ea_len] using hlen
    simp only [ea_p] at hp
    split at hp
    · cases hp
      obtain ⟨_, _, rfl, ⟨x, rfl, hx⟩, hs1⟩ := ea_pop hs
      obtain rfl : x = _ := hx
      exact lv_i2l hexec hb hdg rfl (kk _ _ hl ⟨rfl, hs1⟩)
    · cases hp
      obtain ⟨_, _, rfl, ⟨x, rfl, hx⟩, hs1⟩ := ea_pop hs
      exact lv_i2l hexec hb hdg rfl (kk _ _ hl ⟨⟨_, rfl⟩, hs1⟩)
    · cases hp
  | l2i =>
    obtain rfl : 1 = len := by simpa [ea_len] using hlen
    simp only [ea_p] at hp
    split at hp
    · rename_i x S
      cases hp
      obtain ⟨v, _, rfl, hv, hs1⟩ := ea_pop hs
      obtain rfl : v = .long x := hv
      exact lv_l2i hexec hb hdg rfl (kk _ _ hl ⟨⟨_, rfl, rfl⟩, hs1⟩)
    · cases hp
      obtain ⟨_, _, rfl, ⟨x, rfl⟩, hs1⟩ := ea_pop hs
      exact lv_l2i hexec hb hdg rfl (kk _ _ hl ⟨⟨_, rfl, ea_any_ok _⟩, hs1⟩)
    · cases hp
  | ladd =>
    obtain rfl : 1 = len := by simpa [ea_len] using hlen
    simp only [ea_p] at hp
    split at hp
    · cases hp
      obtain ⟨_, _, rfl, hv, hs1⟩ := ea_pop hs
      obtain ⟨y, rfl, hy⟩ := ea_gl hv
      obtain ⟨_, _, rfl, hv, hs2⟩ := ea_pop hs1
      obtain ⟨x, rfl, hx⟩ := ea_gl hv
      exact lv_ladd hexec hb hdg (kk _ _ hl ⟨ea_lg (ea_l2_ok (fun x y => x + y) hx hy), hs2⟩)
    · cases hp
  | lsub =>
    obtain rfl : 1 = len := by simpa [ea_len] using hlen
    simp only [ea_p] at hp
    split at hp
    · cases hp
      obtain ⟨_, _, rfl, hv, hs1⟩ := ea_pop hs
      obtain ⟨y, rfl, hy⟩ := ea_gl hv
      obtain ⟨_, _, rfl, hv, hs2⟩ := ea_pop hs1
      obtain ⟨x, rfl, hx⟩ := ea_gl hv
      exact lv_lsub hexec hb hdg (kk _ _ hl ⟨ea_lg (ea_l2_ok (fun x y => x - y) hx hy), hs2⟩)
    · cases hp
  | land =>
    obtain rfl : 1 = len := by simpa [ea_len] using hlen
    simp only [ea_p] at hp
    split at hp
    · cases hp
      obtain ⟨_, _, rfl, hv, hs1⟩ := ea_pop hs
      obtain ⟨y, rfl, hy⟩ := ea_gl hv
      obtain ⟨_, _, rfl, hv, hs2⟩ := ea_pop hs1
      obtain ⟨x, rfl, hx⟩ := ea_gl hv
      exact lv_land hexec hb hdg (kk _ _ hl ⟨ea_lg (ea_l2_ok (fun x y => x &&& y) hx hy), hs2⟩)
    · cases hp
  | lor =>
    obtain rfl : 1 = len := by simpa [ea_len] using hlen
    simp only [ea_p] at hp
    split at hp
    · cases hp
      obtain ⟨_, _, rfl, hv, hs1⟩ := ea_pop hs
      obtain ⟨y, rfl, hy⟩ := ea_gl hv
      obtain ⟨_, _, rfl, hv, hs2⟩ := ea_pop hs1
      obtain ⟨x, rfl, hx⟩ := ea_gl hv
      exact lv_lor hexec hb hdg (kk _ _ hl ⟨ea_lg (ea_l2_ok (fun x y => x ||| y) hx hy), hs2⟩)
    · cases hp
  | lxor =>
    obtain rfl : 1 = len := by simpa [ea_len] using hlen
    simp only [ea_p] at hp
    split at hp
    · cases hp
      obtain ⟨_, _, rfl, hv, hs1⟩ := ea_pop hs
      obtain ⟨y, rfl, hy⟩ := ea_gl hv
      obtain ⟨_, _, rfl, hv, hs2⟩ := ea_pop hs1
      obtain ⟨x, rfl, hx⟩ := ea_gl hv
      exact lv_lxor hexec hb hdg (kk _ _ hl ⟨ea_lg (ea_l2_ok (fun x y => x ^^^ y) hx hy), hs2⟩)
    · cases hp
  | lshl =>
    obtain rfl : 1 = len := by simpa [ea_len] using hlen
    simp only [ea_p] at hp
    split at hp
    · rename_i y x S
      cases hp
      obtain ⟨_, _, rfl, ⟨z, rfl, hz⟩, hs1⟩ := ea_pop hs
      obtain ⟨v, _, rfl, hv, hs2⟩ := ea_pop hs1
      obtain rfl : z = y := hz
      obtain rfl : v = .long x := hv
      exact lv_lshl hexec hb hdg rfl (kk _ _ hl ⟨rfl, hs2⟩)
    · cases hp
      obtain ⟨_, _, rfl, ⟨z, rfl, hz⟩, hs1⟩ := ea_pop hs
      obtain ⟨_, _, rfl, hv, hs2⟩ := ea_pop hs1
      obtain ⟨x, rfl, hx⟩ := ea_gl hv
      exact lv_lshl hexec hb hdg rfl (kk _ _ hl ⟨⟨_, rfl⟩, hs2⟩)
    · cases hp
  | lshr =>
    obtain rfl : 1 = len := by simpa [ea_len] using hlen
    simp only [ea_p] at hp
    split at hp
    · rename_i y x S
      cases hp
      obtain ⟨_, _, rfl, ⟨z, rfl, hz⟩, hs1⟩ := ea_pop hs
      obtain ⟨v, _, rfl, hv, hs2⟩ := ea_pop hs1
      obtain rfl : z = y := hz
      obtain rfl : v = .long x := hv
      exact lv_lshr hexec hb hdg rfl (kk _ _ hl ⟨rfl, hs2⟩)
    · cases hp
      obtain ⟨_, _, rfl, ⟨z, rfl, hz⟩, hs1⟩ := ea_pop hs
      obtain ⟨_, _, rfl, hv, hs2⟩ := ea_pop hs1
      obtain ⟨x, rfl, hx⟩ := ea_gl hv
      exact lv_lshr hexec hb hdg rfl (kk _ _ hl ⟨⟨_, rfl⟩, hs2⟩)
    · cases hp
  | lushr =>
    obtain rfl : 1 = len := by simpa [ea_len] using hlen
    simp only [ea_p] at hp
    split at hp
    · rename_i y x S
      cases hp
      obtain ⟨_, _, rfl, ⟨z, rfl, hz⟩, hs1⟩ := ea_pop hs
      obtain ⟨v, _, rfl, hv, hs2⟩ := ea_pop hs1
      obtain rfl : z = y := hz
      obtain rfl : v = .long x := hv
      exact lv_lushr hexec hb hdg rfl (kk _ _ hl ⟨rfl, hs2⟩)
    · cases hp
      obtain ⟨_, _, rfl, ⟨z, rfl, hz⟩, hs1⟩ := ea_pop hs
      obtain ⟨_, _, rfl, hv, hs2⟩ := ea_pop hs1
      obtain ⟨x, rfl, hx⟩ := ea_gl hv
      exact lv_lushr hexec hb hdg rfl (kk _ _ hl ⟨⟨_, rfl⟩, hs2⟩)
    · cases hp
  | lcmp =>
    obtain rfl : 1 = len := by simpa [ea_len] using hlen
    simp only [ea_p] at hp
    split at hp
    · rename_i y x S
      cases hp
      obtain ⟨v, _, rfl, hv, hs1⟩ := ea_pop hs
      obtain ⟨u, _, rfl, hu, hs2⟩ := ea_pop hs1
      obtain rfl : v = .long y := hv
      obtain rfl : u = .long x := hu
      exact W.lcmp hexec hb hdg (kk _ _ hl ⟨⟨_, rfl, rfl⟩, hs2⟩)
    · cases hp
      obtain ⟨_, _, rfl, hv, hs1⟩ := ea_pop hs
      obtain ⟨y, rfl, -⟩ := ea_gl hv
      obtain ⟨_, _, rfl, hv, hs2⟩ := ea_pop hs1
      obtain ⟨x, rfl, -⟩ := ea_gl hv
      exact W.lcmp hexec hb hdg (kk _ _ hl ⟨⟨_, rfl, ea_any_ok _⟩, hs2⟩)
    · cases hp
  | dup =>
    obtain rfl : 1 = len := by simpa [ea_len] using hlen
    simp only [ea_p] at hp
    split at hp
    · split at hp
      · rename_i a S h1
        cases hp
        obtain ⟨v, _, rfl, hv, hs1⟩ := ea_pop hs
        exact lv_dup hexec hb hdg ((ea_gv_cat hv).trans h1) (kk _ _ hl ⟨hv, hv, hs1⟩)
      · cases hp
    · cases hp
  | pop =>
    obtain rfl : 1 = len := by simpa [ea_len] using hlen
    simp only [ea_p] at hp
    split at hp
    · split at hp
      · rename_i a S h1
        cases hp
        obtain ⟨v, _, rfl, hv, hs1⟩ := ea_pop hs
        exact lv_pop hexec hb hdg ((ea_gv_cat hv).trans h1) (kk _ _ hl hs1)
      · cases hp
    · cases hp
  | pop2 =>
    obtain rfl : 1 = len := by simpa [ea_len] using hlen
    simp only [ea_p] at hp
    split at hp
    · split at hp
      · rename_i a S h1
        cases hp
        obtain ⟨v, _, rfl, hv, hs1⟩ := ea_pop hs
        exact lv_pop2_2 hexec hb hdg ((ea_gv_cat hv).trans h1) (kk _ _ hl hs1)
      · cases hp
    · cases hp
  | dup_x1 =>
    obtain rfl : 1 = len := by simpa [ea_len] using hlen
    simp only [ea_p] at hp
    split at hp
    · split at hp
      · rename_i a b S h1
        cases hp
        obtain ⟨v, _, rfl, hv, hs1⟩ := ea_pop hs
        obtain ⟨u, _, rfl, hu, hs2⟩ := ea_pop hs1
        exact lv_dup_x1 hexec hb hdg ((ea_gv_cat hv).trans h1.1) ((ea_gv_cat hu).trans h1.2) (kk _ _ hl ⟨hv, hu, hv, hs2⟩)
      · cases hp
    · cases hp
  | dup_x2 =>
    obtain rfl : 1 = len := by simpa [ea_len] using hlen
    simp only [ea_p] at hp
    split at hp
    · split at hp
      · rename_i a b d S h1
        cases hp
        obtain ⟨v, _, rfl, hv, hs1⟩ := ea_pop hs
        obtain ⟨u, _, rfl, hu, hs2⟩ := ea_pop hs1
        obtain ⟨r, _, rfl, hr, hs3⟩ := ea_pop hs2
        exact lv_dup_x2 hexec hb hdg ((ea_gv_cat hv).trans h1.1) ((ea_gv_cat hu).trans h1.2.1) ((ea_gv_cat hr).trans h1.2.2) (kk _ _ hl ⟨hv, hu, hr, hv, hs3⟩)
      · cases hp
    · cases hp
  | dup2 =>
    obtain rfl : 1 = len := by simpa [ea_len] using hlen
    simp only [ea_p] at hp
    split at hp
    · split at hp
      · rename_i a b S h1
        cases hp
        obtain ⟨v, _, rfl, hv, hs1⟩ := ea_pop hs
        obtain ⟨u, _, rfl, hu, hs2⟩ := ea_pop hs1
        exact lv_dup2_11 hexec hb hdg ((ea_gv_cat hv).trans h1.1) ((ea_gv_cat hu).trans h1.2) (kk _ _ hl ⟨hv, hu, hv, hu, hs2⟩)
      · cases hp
    · cases hp
  | goto off =>
    obtain rfl : 3 = len := by simpa [ea_len] using hlen
    simp only [ea_p] at hp
    split at hp
    · rename_i t ht
      cases hp
      exact lv_goto hexec hb hdg (ea_to_ok ht) (kk _ _ hl hs)
    · cases hp
  | ifCond cnd off =>
    obtain rfl : 3 = len := by simpa [ea_len] using hlen
    simp only [ea_p] at hp
    split at hp
    · split at hp
      · rename_i hc ht
        cases hp
        obtain ⟨_, _, rfl, ⟨x, rfl, hx⟩, hs1⟩ := ea_pop hs
        have hq := ea_if_ok hc hx (rfl : ea_gi (.inl 0) 0)
        cases cnd with
        | eq => exact lv_if_eq hexec hb hdg (ea_to_ok ht) (fun _ => kk _ _ hl hs1) (fun h => absurd (hq.mpr rfl) (by simpa [ea_cp] using h))
        | ne => exact lv_if_ne hexec hb hdg (ea_to_ok ht) (fun _ => kk _ _ hl hs1) (fun h => absurd (hq.mpr rfl) (by simpa [ea_cp] using h))
        | lt => exact lv_if_lt hexec hb hdg (ea_to_ok ht) (fun _ => kk _ _ hl hs1) (fun h => absurd (hq.mpr rfl) (by simpa [ea_cp] using h))
        | ge => exact lv_if_ge hexec hb hdg (ea_to_ok ht) (fun _ => kk _ _ hl hs1) (fun h => absurd (hq.mpr rfl) (by simpa [ea_cp] using h))
        | gt => exact lv_if_gt hexec hb hdg (ea_to_ok ht) (fun _ => kk _ _ hl hs1) (fun h => absurd (hq.mpr rfl) (by simpa [ea_cp] using h))
        | le => exact lv_if_le hexec hb hdg (ea_to_ok ht) (fun _ => kk _ _ hl hs1) (fun h => absurd (hq.mpr rfl) (by simpa [ea_cp] using h))
      · rename_i hc ht
        cases hp
        obtain ⟨_, _, rfl, ⟨x, rfl, hx⟩, hs1⟩ := ea_pop hs
        have hq := ea_if_ok hc hx (rfl : ea_gi (.inl 0) 0)
        cases cnd with
        | eq => exact lv_if_eq hexec hb hdg (ea_to_ok ht) (fun h => absurd (hq.mp (by simpa [ea_cp] using h)) (by decide)) (fun _ => kk _ _ hl hs1)
        | ne => exact lv_if_ne hexec hb hdg (ea_to_ok ht) (fun h => absurd (hq.mp (by simpa [ea_cp] using h)) (by decide)) (fun _ => kk _ _ hl hs1)
        | lt => exact lv_if_lt hexec hb hdg (ea_to_ok ht) (fun h => absurd (hq.mp (by simpa [ea_cp] using h)) (by decide)) (fun _ => kk _ _ hl hs1)
        | ge => exact lv_if_ge hexec hb hdg (ea_to_ok ht) (fun h => absurd (hq.mp (by simpa [ea_cp] using h)) (by decide)) (fun _ => kk _ _ hl hs1)
        | gt => exact lv_if_gt hexec hb hdg (ea_to_ok ht) (fun h => absurd (hq.mp (by simpa [ea_cp] using h)) (by decide)) (fun _ => kk _ _ hl hs1)
        | le => exact lv_if_le hexec hb hdg (ea_to_ok ht) (fun h => absurd (hq.mp (by simpa [ea_cp] using h)) (by decide)) (fun _ => kk _ _ hl hs1)
      · cases hp
    · cases hp
  | if_icmp cnd off =>
    obtain rfl : 3 = len := by simpa [ea_len] using hlen
    simp only [ea_p] at hp
    split at hp
    · split at hp
      · rename_i hc ht
        cases hp
        obtain ⟨_, _, rfl, ⟨y, rfl, hy⟩, hs1⟩ := ea_pop hs
        obtain ⟨_, _, rfl, ⟨x, rfl, hx⟩, hs2⟩ := ea_pop hs1
        have hq := ea_if_ok hc hx hy
        cases cnd with
        | eq => exact lv_icmp_eq hexec hb hdg (ea_to_ok ht) (fun _ => kk _ _ hl hs2) (fun h => absurd (hq.mpr rfl) (by simpa [ea_cp] using h))
        | ne => exact lv_icmp_ne hexec hb hdg (ea_to_ok ht) (fun _ => kk _ _ hl hs2) (fun h => absurd (hq.mpr rfl) (by simpa [ea_cp] using h))
        | lt => exact lv_icmp_lt hexec hb hdg (ea_to_ok ht) (fun _ => kk _ _ hl hs2) (fun h => absurd (hq.mpr rfl) (by simpa [ea_cp] using h))
        | ge => exact lv_icmp_ge hexec hb hdg (ea_to_ok ht) (fun _ => kk _ _ hl hs2) (fun h => absurd (hq.mpr rfl) (by simpa [ea_cp] using h))
        | gt => exact lv_icmp_gt hexec hb hdg (ea_to_ok ht) (fun _ => kk _ _ hl hs2) (fun h => absurd (hq.mpr rfl) (by simpa [ea_cp] using h))
        | le => exact lv_icmp_le hexec hb hdg (ea_to_ok ht) (fun _ => kk _ _ hl hs2) (fun h => absurd (hq.mpr rfl) (by simpa [ea_cp] using h))
      · rename_i hc ht
        cases hp
        obtain ⟨_, _, rfl, ⟨y, rfl, hy⟩, hs1⟩ := ea_pop hs
        obtain ⟨_, _, rfl, ⟨x, rfl, hx⟩, hs2⟩ := ea_pop hs1
        have hq := ea_if_ok hc hx hy
        cases cnd with
        | eq => exact lv_icmp_eq hexec hb hdg (ea_to_ok ht) (fun h => absurd (hq.mp (by simpa [ea_cp] using h)) (by decide)) (fun _ => kk _ _ hl hs2)
        | ne => exact lv_icmp_ne hexec hb hdg (ea_to_ok ht) (fun h => absurd (hq.mp (by simpa [ea_cp] using h)) (by decide)) (fun _ => kk _ _ hl hs2)
        | lt => exact lv_icmp_lt hexec hb hdg (ea_to_ok ht) (fun h => absurd (hq.mp (by simpa [ea_cp] using h)) (by decide)) (fun _ => kk _ _ hl hs2)
        | ge => exact lv_icmp_ge hexec hb hdg (ea_to_ok ht) (fun h => absurd (hq.mp (by simpa [ea_cp] using h)) (by decide)) (fun _ => kk _ _ hl hs2)
        | gt => exact lv_icmp_gt hexec hb hdg (ea_to_ok ht) (fun h => absurd (hq.mp (by simpa [ea_cp] using h)) (by decide)) (fun _ => kk _ _ hl hs2)
        | le => exact lv_icmp_le hexec hb hdg (ea_to_ok ht) (fun h => absurd (hq.mp (by simpa [ea_cp] using h)) (by decide)) (fun _ => kk _ _ hl hs2)
      · cases hp
    · cases hp
  | tableswitch dflt lo hi offs =>
    simp only [ea_p] at hp
    split at hp
    · split at hp
      · rename_i off hw
        split at hp
        · rename_i t ht
          cases hp
          obtain ⟨_, _, rfl, ⟨x, rfl, hx⟩, hs1⟩ := ea_pop hs
          rcases ea_sw_ok hw hx with ⟨rfl, h1⟩ | ⟨h1, h2, h3⟩
          · exact lv_tableOut hexec hb hdg h1 (ea_to_ok ht) (kk _ _ hl hs1)
          · exact lv_tableIn hexec hb hdg h1 h2 h3 (ea_to_ok ht) (kk _ _ hl hs1)
        · cases hp
      · cases hp
    · cases hp
  | lookupswitch dflt ps =>
    simp only [ea_p] at hp
    split at hp
    · split at hp
      · rename_i x S ha
        split at hp
        · rename_i t ht
          cases hp
          obtain ⟨_, _, rfl, ⟨z, rfl, hz⟩, hs1⟩ := ea_pop hs
          obtain rfl : z = x := hz
          exact lv_lookup hexec hb hdg ha rfl (ea_to_ok ht) (kk _ _ hl hs1)
        · cases hp
      · cases hp
    · cases hp
  | _ => cases hp
end EAP
