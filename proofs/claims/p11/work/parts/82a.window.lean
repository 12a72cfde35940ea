/-! an instruction is known by the bytes of its own window: a check of all of a method's that goes once along its bytes -/
section DW
variable {all w : ByteArray} {p : Nat}
/-- the window w stands in all at p -/
def dw_W (all : ByteArray) (p : Nat) (w : ByteArray) : Prop := ∀ k (h : k < w.size), ∃ h' : p + k < all.size, all[p + k]'h' = w[k]'h
/-- what a reader finds in the window another finds there -/
def dw_R {α : Type} (all : ByteArray) (p : Nat) (w : ByteArray) (m m' : Decoder α) : Prop := ∀ (q : Nat) (x : α) (q' : Nat), m' w q = .ok (x, q') → m all (p + q) = .ok (x, p + q')
theorem dw_pure {α : Type} {x : α} : dw_R all p w (pure x : Decoder α) (pure x) := by
  intro q y q' h
  have h2 : (.ok (x, q) : Except DecodeError (α × Nat)) = .ok (y, q') := h
  cases h2
  rfl
theorem dw_bind {α β : Type} {m m' : Decoder α} {f f' : α → Decoder β} (hm : dw_R all p w m m') (hf : ∀ x, dw_R all p w (f x) (f' x)) : dw_R all p w (m >>= f) (m' >>= f') := by
  intro q y q' h
  cases e : m' w q with
  | error er =>
    have h2 : (m' >>= f') w q = .error er := by
      show Except.bind (m' w q) _ = _
      rw [e]
      rfl
    rw [h2] at h
    cases h
  | ok v =>
    obtain ⟨a, s⟩ := v
    have h2 : (m' >>= f') w q = f' a w s := by
      show Except.bind (m' w q) _ = _
      rw [e]
      rfl
    rw [h2] at h
    have h3 : (m >>= f) all (p + q) = f a all (p + s) := by
      show Except.bind (m all (p + q)) _ = _
      rw [hm q a s e]
      rfl
    rw [h3]
    exact hf a s y q' h
theorem dw_map {α β : Type} {m m' : Decoder α} (g : α → β) (hm : dw_R all p w m m') : dw_R all p w (g <$> m) (g <$> m') := by
  intro q y q' h
  cases e : m' w q with
  | error er =>
    have h2 : (g <$> m') w q = .error er := by
      show Except.bind (m' w q) _ = _
      rw [e]
      rfl
    rw [h2] at h
    cases h
  | ok v =>
    obtain ⟨a, s⟩ := v
    have h2 : (g <$> m') w q = .ok (g a, s) := by
      show Except.bind (m' w q) _ = _
      rw [e]
      rfl
    rw [h2] at h
    have h3 : (g <$> m) all (p + q) = .ok (g a, p + s) := by
      show Except.bind (m all (p + q)) _ = _
      rw [hm q a s e]
      rfl
    rw [h3]
    cases h
    rfl
theorem dw_u1ok {A : ByteArray} {s : Nat} (hs : s < A.size) : (Reader.u1 : Decoder Nat) A s = .ok ((A[s]'hs).toNat, s + 1) := by
  unfold Reader.u1
  show (dite (s < A.size) _ _ : Decoder Nat) A s = _
  rw [dif_pos hs]
  rfl
theorem dw_u1no {A : ByteArray} {s : Nat} (hs : ¬ s < A.size) : (Reader.u1 : Decoder Nat) A s = .error (.truncated s) := by
  unfold Reader.u1
  show (dite (s < A.size) _ _ : Decoder Nat) A s = _
  rw [dif_neg hs]
  rfl
theorem dw_u1 (hw : dw_W all p w) : dw_R all p w (Reader.u1 : Decoder Nat) Reader.u1 := by
  intro q x q' h
  by_cases hs : q < w.size
  · rw [dw_u1ok hs] at h
    cases h
    obtain ⟨h', e⟩ := hw q hs
    rw [dw_u1ok h', e]
    rfl
  · rw [dw_u1no hs] at h
    cases h
theorem dw_u2 (hw : dw_W all p w) : dw_R all p w (Reader.u2 : Decoder Nat) Reader.u2 := by
  unfold Reader.u2
  exact dw_bind (dw_u1 hw) fun _ => dw_bind (dw_u1 hw) fun _ => dw_pure
theorem dw_s1 (hw : dw_W all p w) : dw_R all p w (Reader.s1 : Decoder Int) Reader.s1 := dw_map _ (dw_u1 hw)
theorem dw_s2 (hw : dw_W all p w) : dw_R all p w (Reader.s2 : Decoder Int) Reader.s2 := dw_map _ (dw_u2 hw)
/-- a reader that looks at the first byte -/
theorem dw_at {α : Type} {K K' : Nat → Decoder α} (O : List Nat) (hw : dw_W all p w) (h0 : 0 < w.size) (hO : ((w[0]'h0).toNat) ∈ O) (hK : ∀ op ∈ O, dw_R all p w (K op) (K' op)) {x : α} {q' : Nat} (h : (Reader.u1 >>= K' : Decoder α) w 0 = .ok (x, q')) : (Reader.u1 >>= K : Decoder α) all p = .ok (x, p + q') := by
  have e1 : (Reader.u1 >>= K' : Decoder α) w 0 = K' ((w[0]'h0).toNat) w 1 := by
    show Except.bind ((Reader.u1 : Decoder Nat) w 0) _ = _
    rw [dw_u1ok h0]
    rfl
  obtain ⟨h', e⟩ := hw 0 h0
  have h'' : p < all.size := h'
  have e' : all[p]'h'' = w[0]'h0 := e
  have e2 : (Reader.u1 >>= K : Decoder α) all p = K ((w[0]'h0).toNat) all (p + 1) := by
    show Except.bind ((Reader.u1 : Decoder Nat) all p) _ = _
    rw [dw_u1ok h'', e']
    rfl
  rw [e1] at h
  rw [e2]
  exact hK _ hO 1 x q' h
def dw_O : List Nat := [42, 180, 182, 3, 172, 27, 4, 167, 28, 21, 16, 96, 46, 29, 181, 153, 154, 54, 184, 162, 132, 61, 160, 2, 62, 5, 43, 89, 79, 6, 7, 8, 9, 10, 17, 18, 19, 20, 22, 25, 26, 30, 31, 32, 33, 44, 45, 47, 50, 51, 52, 55, 58, 59, 60, 63, 64, 65, 66, 75, 76, 77, 78, 80, 83, 84, 85, 87, 88, 90, 92, 97, 100, 101, 104, 105, 108, 109, 112, 113, 116, 120, 121, 122, 123, 124, 125, 126, 127, 128, 129, 130, 131, 133, 136, 145, 146, 148, 155, 156, 157, 158, 159, 161, 163, 164, 165, 166, 173, 176, 177, 178, 179, 183, 187, 189, 190, 191, 192, 193, 198, 199]
set_option maxRecDepth 100000 in
theorem dw_instr (hw : dw_W all p w) (h0 : 0 < w.size) (hO : ((w[0]'h0).toNat) ∈ dw_O) {x : Instr} {q' : Nat} (h : Decoder.instr 0 w 0 = .ok (x, q')) : Decoder.instr p all p = .ok (x, p + q') := by
  have b1 := dw_u1 hw
  have b2 := dw_u2 hw
  have c1 := dw_s1 hw
  have c2 := dw_s2 hw
  unfold Decoder.instr at h ⊢
  refine dw_at dw_O hw h0 hO ?_ h
  exact List.forall_mem_cons.mpr ⟨dw_pure, List.forall_mem_cons.mpr ⟨dw_bind b2 fun _ => dw_pure, List.forall_mem_cons.mpr ⟨dw_bind b2 fun _ => dw_pure, List.forall_mem_cons.mpr ⟨dw_pure, List.forall_mem_cons.mpr ⟨dw_pure, List.forall_mem_cons.mpr ⟨dw_pure, List.forall_mem_cons.mpr ⟨dw_pure, List.forall_mem_cons.mpr ⟨dw_bind c2 fun _ => dw_pure, List.forall_mem_cons.mpr ⟨dw_pure, List.forall_mem_cons.mpr ⟨dw_bind b1 fun _ => dw_pure, List.forall_mem_cons.mpr ⟨dw_bind c1 fun _ => dw_pure, List.forall_mem_cons.mpr ⟨dw_pure, List.forall_mem_cons.mpr ⟨dw_pure, List.forall_mem_cons.mpr ⟨dw_pure, List.forall_mem_cons.mpr ⟨dw_bind b2 fun _ => dw_pure, List.forall_mem_cons.mpr ⟨dw_bind c2 fun _ => dw_pure, List.forall_mem_cons.mpr ⟨dw_bind c2 fun _ => dw_pure, List.forall_mem_cons.mpr ⟨dw_bind b1 fun _ => dw_pure, List.forall_mem_cons.mpr ⟨dw_bind b2 fun _ => dw_pure, List.forall_mem_cons.mpr ⟨dw_bind c2 fun _ => dw_pure, List.forall_mem_cons.mpr ⟨dw_bind b1 fun _ => dw_bind c1 fun _ => dw_pure, List.forall_mem_cons.mpr ⟨dw_pure, List.forall_mem_cons.mpr ⟨dw_bind c2 fun _ => dw_pure, List.forall_mem_cons.mpr ⟨dw_pure, List.forall_mem_cons.mpr ⟨dw_pure, List.forall_mem_cons.mpr ⟨dw_pure, List.forall_mem_cons.mpr ⟨dw_pure, List.forall_mem_cons.mpr ⟨dw_pure, List.forall_mem_cons.mpr ⟨dw_pure, List.forall_mem_cons.mpr ⟨dw_pure, List.forall_mem_cons.mpr ⟨dw_pure, List.forall_mem_cons.mpr ⟨dw_pure, List.forall_mem_cons.mpr ⟨dw_pure, List.forall_mem_cons.mpr ⟨dw_pure, List.forall_mem_cons.mpr ⟨dw_bind c2 fun _ => dw_pure, List.forall_mem_cons.mpr ⟨dw_bind b1 fun _ => dw_pure, List.forall_mem_cons.mpr ⟨dw_bind b2 fun _ => dw_pure, List.forall_mem_cons.mpr ⟨dw_bind b2 fun _ => dw_pure, List.forall_mem_cons.mpr ⟨dw_bind b1 fun _ => dw_pure, List.forall_mem_cons.mpr ⟨dw_bind b1 fun _ => dw_pure, List.forall_mem_cons.mpr ⟨dw_pure, List.forall_mem_cons.mpr ⟨dw_pure, List.forall_mem_cons.mpr ⟨dw_pure, List.forall_mem_cons.mpr ⟨dw_pure, List.forall_mem_cons.mpr ⟨dw_pure, List.forall_mem_cons.mpr ⟨dw_pure, List.forall_mem_cons.mpr ⟨dw_pure, List.forall_mem_cons.mpr ⟨dw_pure, List.forall_mem_cons.mpr ⟨dw_pure, List.forall_mem_cons.mpr ⟨dw_pure, List.forall_mem_cons.mpr ⟨dw_pure, List.forall_mem_cons.mpr ⟨dw_bind b1 fun _ => dw_pure, List.forall_mem_cons.mpr ⟨dw_bind b1 fun _ => dw_pure, List.forall_mem_cons.mpr ⟨dw_pure, List.forall_mem_cons.mpr ⟨dw_pure, List.forall_mem_cons.mpr ⟨dw_pure, List.forall_mem_cons.mpr ⟨dw_pure, List.forall_mem_cons.mpr ⟨dw_pure, List.forall_mem_cons.mpr ⟨dw_pure, List.forall_mem_cons.mpr ⟨dw_pure, List.forall_mem_cons.mpr ⟨dw_pure, List.forall_mem_cons.mpr ⟨dw_pure, List.forall_mem_cons.mpr ⟨dw_pure, List.forall_mem_cons.mpr ⟨dw_pure, List.forall_mem_cons.mpr ⟨dw_pure, List.forall_mem_cons.mpr ⟨dw_pure, List.forall_mem_cons.mpr ⟨dw_pure, List.forall_mem_cons.mpr ⟨dw_pure, List.forall_mem_cons.mpr ⟨dw_pure, List.forall_mem_cons.mpr ⟨dw_pure, List.forall_mem_cons.mpr ⟨dw_pure, List.forall_mem_cons.mpr ⟨dw_pure, List.forall_mem_cons.mpr ⟨dw_pure, List.forall_mem_cons.mpr ⟨dw_pure, List.forall_mem_cons.mpr ⟨dw_pure, List.forall_mem_cons.mpr ⟨dw_pure, List.forall_mem_cons.mpr ⟨dw_pure, List.forall_mem_cons.mpr ⟨dw_pure, List.forall_mem_cons.mpr ⟨dw_pure, List.forall_mem_cons.mpr ⟨dw_pure, List.forall_mem_cons.mpr ⟨dw_pure, List.forall_mem_cons.mpr ⟨dw_pure, List.forall_mem_cons.mpr ⟨dw_pure, List.forall_mem_cons.mpr ⟨dw_pure, List.forall_mem_cons.mpr ⟨dw_pure, List.forall_mem_cons.mpr ⟨dw_pure, List.forall_mem_cons.mpr ⟨dw_pure, List.forall_mem_cons.mpr ⟨dw_pure, List.forall_mem_cons.mpr ⟨dw_pure, List.forall_mem_cons.mpr ⟨dw_pure, List.forall_mem_cons.mpr ⟨dw_pure, List.forall_mem_cons.mpr ⟨dw_pure, List.forall_mem_cons.mpr ⟨dw_pure, List.forall_mem_cons.mpr ⟨dw_pure, List.forall_mem_cons.mpr ⟨dw_pure, List.forall_mem_cons.mpr ⟨dw_pure, List.forall_mem_cons.mpr ⟨dw_pure, List.forall_mem_cons.mpr ⟨dw_pure, List.forall_mem_cons.mpr ⟨dw_bind c2 fun _ => dw_pure, List.forall_mem_cons.mpr ⟨dw_bind c2 fun _ => dw_pure, List.forall_mem_cons.mpr ⟨dw_bind c2 fun _ => dw_pure, List.forall_mem_cons.mpr ⟨dw_bind c2 fun _ => dw_pure, List.forall_mem_cons.mpr ⟨dw_bind c2 fun _ => dw_pure, List.forall_mem_cons.mpr ⟨dw_bind c2 fun _ => dw_pure, List.forall_mem_cons.mpr ⟨dw_bind c2 fun _ => dw_pure, List.forall_mem_cons.mpr ⟨dw_bind c2 fun _ => dw_pure, List.forall_mem_cons.mpr ⟨dw_bind c2 fun _ => dw_pure, List.forall_mem_cons.mpr ⟨dw_bind c2 fun _ => dw_pure, List.forall_mem_cons.mpr ⟨dw_pure, List.forall_mem_cons.mpr ⟨dw_pure, List.forall_mem_cons.mpr ⟨dw_pure, List.forall_mem_cons.mpr ⟨dw_bind b2 fun _ => dw_pure, List.forall_mem_cons.mpr ⟨dw_bind b2 fun _ => dw_pure, List.forall_mem_cons.mpr ⟨dw_bind b2 fun _ => dw_pure, List.forall_mem_cons.mpr ⟨dw_bind b2 fun _ => dw_pure, List.forall_mem_cons.mpr ⟨dw_bind b2 fun _ => dw_pure, List.forall_mem_cons.mpr ⟨dw_pure, List.forall_mem_cons.mpr ⟨dw_pure, List.forall_mem_cons.mpr ⟨dw_bind b2 fun _ => dw_pure, List.forall_mem_cons.mpr ⟨dw_bind b2 fun _ => dw_pure, List.forall_mem_cons.mpr ⟨dw_bind c2 fun _ => dw_pure, List.forall_mem_cons.mpr ⟨dw_bind c2 fun _ => dw_pure, fun _ h => absurd h List.not_mem_nil⟩⟩⟩⟩⟩⟩⟩⟩⟩⟩⟩⟩⟩⟩⟩⟩⟩⟩⟩⟩⟩⟩⟩⟩⟩⟩⟩⟩⟩⟩⟩⟩⟩⟩⟩⟩⟩⟩⟩⟩⟩⟩⟩⟩⟩⟩⟩⟩⟩⟩⟩⟩⟩⟩⟩⟩⟩⟩⟩⟩⟩⟩⟩⟩⟩⟩⟩⟩⟩⟩⟩⟩⟩⟩⟩⟩⟩⟩⟩⟩⟩⟩⟩⟩⟩⟩⟩⟩⟩⟩⟩⟩⟩⟩⟩⟩⟩⟩⟩⟩⟩⟩⟩⟩⟩⟩⟩⟩⟩⟩⟩⟩⟩⟩⟩⟩⟩⟩⟩⟩⟩⟩
theorem dw_decode (hw : dw_W all p w) (h0 : 0 < w.size) (hO : ((w[0]'h0).toNat) ∈ dw_O) {i : Instr} {n : Nat} (h : decode w 0 = .ok (i, n)) : decode all p = .ok (i, n) := by
  cases e : Decoder.instr 0 w 0 with
  | error er =>
    have h2 : decode w 0 = .error er := by
      show Except.bind (Decoder.instr 0 w 0) _ = _
      rw [e]
      rfl
    rw [h2] at h
    cases h
  | ok v =>
    obtain ⟨x, q'⟩ := v
    have e1 : decode w 0 = .ok (x, q' - 0) := by
      show Except.bind (Decoder.instr 0 w 0) _ = _
      rw [e]
      rfl
    have e2 : decode all p = .ok (x, p + q' - p) := by
      show Except.bind (Decoder.instr p all p) _ = _
      rw [dw_instr hw h0 hO e]
      rfl
    rw [e1] at h
    cases h
    rw [e2, Nat.add_sub_cancel_left]
    rfl
theorem dw_of {code : ByteArray} {l r : List UInt8} (h : code.data.toList.drop p = l ++ r) : dw_W code p ⟨⟨l⟩⟩ := by
  intro k hk
  have hk' : k < l.length := hk
  have e : code.data.toList[p + k]? = some (l[k]'hk') := by rw [← List.getElem?_drop, h, List.getElem?_append_left hk', List.getElem?_eq_getElem hk']
  obtain ⟨h1, h2⟩ := List.getElem?_eq_some_iff.mp e
  exact ⟨h1, h2⟩
end DW
def dk_o (a : UInt8) : Bool := decide (a.toNat ∈ dw_O)
/-- the instruction at the head of the bytes -/
def dk_i (i : Instr) (n : Nat) (bs : List UInt8) : Bool := match n, bs with
  | 1, a :: _ => dk_o a && decide (decode ⟨⟨[a]⟩⟩ 0 = .ok (i, 1))
  | 2, a :: b :: _ => dk_o a && decide (decode ⟨⟨[a, b]⟩⟩ 0 = .ok (i, 2))
  | 3, a :: b :: c :: _ => dk_o a && decide (decode ⟨⟨[a, b, c]⟩⟩ 0 = .ok (i, 3))
  | _, _ => false
theorem dk_i_ok {code : ByteArray} {p n : Nat} {i : Instr} {bs : List UInt8} (hb : code.data.toList.drop p = bs) (h : dk_i i n bs = true) : decode code p = .ok (i, n) := by
  match n, bs, hb, h with
  | 1, a :: r, hb, h =>
    simp only [dk_i, Bool.and_eq_true] at h
    exact dw_decode (dw_of (l := [a]) (r := r) hb) (show 0 < 1 from Nat.zero_lt_succ _) (of_decide_eq_true h.1) (of_decide_eq_true h.2)
  | 2, a :: b :: r, hb, h =>
    simp only [dk_i, Bool.and_eq_true] at h
    exact dw_decode (dw_of (l := [a, b]) (r := r) hb) (show 0 < 2 from Nat.zero_lt_succ _) (of_decide_eq_true h.1) (of_decide_eq_true h.2)
  | 3, a :: b :: c :: r, hb, h =>
    simp only [dk_i, Bool.and_eq_true] at h
    exact dw_decode (dw_of (l := [a, b, c]) (r := r) hb) (show 0 < 3 from Nat.zero_lt_succ _) (of_decide_eq_true h.1) (of_decide_eq_true h.2)
/-- each of a list, once along the bytes -/
def dk (code : ByteArray) : List (Nat × Instr × Nat × Nat) → Nat → List UInt8 → Bool
  | [], _, _ => true
  | (pc, i, nx, _) :: r, s, bs => (Nat.ble s pc && Nat.ble s nx) && ((dk_i i (nx - pc) (bs.drop (pc - s)) || decide (decode code pc = .ok (i, nx - pc))) && dk code r nx (bs.drop (nx - s)))
theorem dk_ok {code : ByteArray} : ∀ {L : List (Nat × Instr × Nat × Nat)} {s : Nat}, dk code L s (code.data.toList.drop s) = true → ∀ q ∈ L, decode code q.1 = .ok (q.2.1, q.2.2.1 - q.1)
  | [], _, _ => fun _ h => absurd h List.not_mem_nil
  | (pc, i, nx, z) :: r, s, h => by
    unfold dk at h
    simp only [Bool.and_eq_true, Bool.or_eq_true, List.drop_drop] at h
    obtain ⟨⟨h1, h2⟩, h3, h4⟩ := h
    have h1 := Nat.le_of_ble_eq_true h1
    have h2 := Nat.le_of_ble_eq_true h2
    rw [Nat.add_sub_cancel' h1] at h3
    rw [Nat.add_sub_cancel' h2] at h4
    intro q hq
    rcases List.mem_cons.mp hq with rfl | hq
    · rcases h3 with h3 | h3
      · exact dk_i_ok rfl h3
      · exact of_decide_eq_true h3
    · exact dk_ok h4 q hq
theorem dk_ok0 {code : ByteArray} {L : List (Nat × Instr × Nat × Nat)} (h : dk code L 0 code.data.toList = true) : ∀ q ∈ L, decode code q.1 = .ok (q.2.1, q.2.2.1 - q.1) := dk_ok (s := 0) (by rw [List.drop_zero]; exact h)
