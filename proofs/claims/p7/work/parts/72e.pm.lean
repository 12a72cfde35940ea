section
/-! PARTIAL RUNS over the memory as two functions: no cell, no list of locals in sight -/
abbrev MM : Type := (Nat → Nat → Int32) × (Nat → Nat → Int64)
def wi (M : MM) (a k : Nat) (x : Int32) : MM := (up M.1 a k x, M.2)
def wj (M : MM) (a k : Nat) (y : Int64) : MM := (M.1, up M.2 a k y)
def cpM (M : MM) (t a b : Nat) : MM := match t with
  | 0 => (fun c j => if c = b then M.1 a j else M.1 c j, M.2)
  | _ => (M.1, fun c j => if c = b then M.2 a j else M.2 c j)
def ni (x : Int32) : Nat := x.toInt.toNat
def sl (x y : Int32) : Int32 := x <<< (y &&& 31)
def sr (x y : Int32) : Int32 := x >>> (y &&& 31)
def su (x y : Int32) : Int32 := (x.toUInt32 >>> (y.toUInt32 &&& Int32.toUInt32 31)).toInt32
def rm (x y : Int32) : Int32 := x - x / y * y
def mx (x y : Int32) : Int32 := if x < y then y else x
def mn (x y : Int32) : Int32 := if y < x then y else x
def ll (x : Int64) (y : Int32) : Int64 := x <<< (y.toInt64 &&& 63)
def lr (x : Int64) (y : Int32) : Int64 := x >>> (y.toInt64 &&& 63)
def lu (x : Int64) (y : Int32) : Int64 := (x.toUInt64 >>> (y.toInt64.toUInt64 &&& Int64.toUInt64 63)).toInt64
def sc (s : Nat) (x : Int32) : Int32 := ((Int32.ofNat (sx_ch (s / 128) (ni x)) &&& 255).toUInt32 % 65536).toInt32
/-- what is known of the locals -/
def lo (L F : List (Nat × AV)) : Prop := ∀ q ∈ F, ea_lk L q.1 = some q.2
theorem lo_nil {L : List (Nat × AV)} : lo L [] := fun _ h => nomatch h
theorem lo_cons {L F : List (Nat × AV)} {k : Nat} {v : AV} (h : ea_lk L k = some v) (h2 : lo L F) : lo L ((k, v) :: F) := fun q hq => by
  rcases List.mem_cons.mp hq with rfl | hq
  · exact h
  · exact h2 q hq
theorem lo_lk {L F : List (Nat × AV)} (h : lo L F) {k : Nat} {v : AV} (hk : ea_lk F k = some v) : ea_lk L k = some v := by
  obtain ⟨n, hn⟩ := ea_lk_mem hk
  exact h (k, v) (List.mem_of_getElem? hn)
theorem lo_s1 {L F : List (Nat × AV)} (h : lo L F) {i : Nat} {a : AV} : lo (ea_s1 L i a) (ea_s1 F i a) := fun q hq => by
  unfold ea_s1 at hq
  rcases List.mem_cons.mp hq with rfl | hq
  · exact lk_s1 L i a
  · obtain ⟨h1, h2⟩ := List.mem_filter.mp hq
    have h3 := lk_filter (f := fun q => !(q.1 == i) && !(q.1 + 1 == i && ea_cat q.2 == 2)) (h q h1) h2
    unfold ea_s1
    show (bif Nat.beq i q.1 then some a else ea_lk (L.filter _) q.1) = some q.2
    have hb : Nat.beq i q.1 = false := by
      cases hb : Nat.beq i q.1 with
      | false => rfl
      | true =>
        have e : i = q.1 := Nat.eq_of_beq_eq_true hb
        subst e
        simp at h2
    rw [hb]
    exact h3
theorem lo_s2 {L F : List (Nat × AV)} (h : lo L F) {i : Nat} {a : AV} : lo (ea_s2 L i a) (ea_s2 F i a) := fun q hq => by
  unfold ea_s2 at hq
  rcases List.mem_cons.mp hq with rfl | hq
  · show (bif Nat.beq i i then some a else _) = some a
    rw [show Nat.beq i i = true from Nat.beq_refl i]
    rfl
  · obtain ⟨h1, h2⟩ := List.mem_filter.mp hq
    have h3 := lk_filter (f := fun q => !(q.1 == i) && (!(q.1 == i + 1) && !(q.1 + 1 == i && ea_cat q.2 == 2))) (h q h1) h2
    unfold ea_s2
    show (bif Nat.beq i q.1 then some a else ea_lk (L.filter _) q.1) = some q.2
    have hb : Nat.beq i q.1 = false := by
      cases hb : Nat.beq i q.1 with
      | false => rfl
      | true =>
        have e : i = q.1 := Nat.eq_of_beq_eq_true hb
        subst e
        simp at h2
    rw [hb]
    exact h3
theorem ar_ge : ∀ (as : List AV) (i : Nat) (q : Nat × AV), q ∈ ea_ar i as → i ≤ q.1
  | [], i, q, h => nomatch h
  | a :: t, i, q, h => by
    unfold ea_ar at h
    rcases List.mem_cons.mp h with rfl | h
    · exact Nat.le_refl _
    · have := ar_ge t _ q h
      split at this <;> omega
theorem lo_ar : ∀ (as : List AV) (i : Nat), lo (ea_ar i as) (ea_ar i as)
  | [], i => lo_nil
  | a :: t, i => by
    intro q hq
    unfold ea_ar at hq
    rcases List.mem_cons.mp hq with rfl | hq
    · show (bif Nat.beq i i then some a else _) = some a
      rw [show Nat.beq i i = true from Nat.beq_refl i]
      rfl
    · have h1 := ar_ge t _ q hq
      have h2 := lo_ar t _ q hq
      show (bif Nat.beq i q.1 then some a else ea_lk (ea_ar (if ea_cat a = 2 then i + 2 else i + 1) t) q.1) = some q.2
      have hb : Nat.beq i q.1 = false := by
        cases hb : Nat.beq i q.1 with
        | false => rfl
        | true =>
          have e : i = q.1 := Nat.eq_of_beq_eq_true hb
          split at h1 <;> omega
      rw [hb]
      exact h2
abbrev RT : Type := Option AV ⊕ Nat → MM → Prop
def pM (X : Option (List AI)) (N m pc : Nat) (F : List (Nat × AV)) (S : List AV) (M : MM) (Q : RT) : Prop := ∀ C, mm tb_G M.1 M.2 C → ∀ L, lo L F → pa (tb_P X) N m pc L S C (fun o C' => ∃ M', mm tb_G M'.1 M'.2 C' ∧ Q o M')
def pMs (X : Option (List AI)) (N m pc : Nat) (F : List (Nat × AV)) (S : List AV) (M : MM) (Q : RT) : Prop := ∀ C, mm tb_G M.1 M.2 C → ∀ L, lo L F → pb (tb_P X) N m pc L S C (fun o C' => ∃ M', mm tb_G M'.1 M'.2 C' ∧ Q o M')
/-- what a method gives -/
def Ri (Q : Int32 → MM → Prop) : RT := fun o M => ∃ x, o = .inl (some (.inl (.inl x))) ∧ Q x M
def Rl (Q : Int64 → MM → Prop) : RT := fun o M => ∃ y, o = .inl (some (.inr (.inr (.inl (some y))))) ∧ Q y M
def Ru (Q : MM → Prop) : RT := fun o M => o = .inl none ∧ Q M
def Re (R : RT) (E : Nat → MM → Prop) : RT := fun o M => R o M ∨ ∃ ce, o = .inr ce ∧ E ce M
def Pi (Q : Int32 → Prop) (M0 : MM) : RT := Ri (fun x M => M = M0 ∧ Q x)
def Pl (Q : Int64 → Prop) (M0 : MM) : RT := Rl (fun x M => M = M0 ∧ Q x)
def Pu (Q : Prop) (M0 : MM) : RT := Ru (fun M => M = M0 ∧ Q)
def Pe (R : RT) (E : Nat → Prop) (M0 : MM) : RT := Re R (fun ce M => M = M0 ∧ E ce)
def Vi (x : Int32) (M0 : MM) : RT := fun o M => o = .inl (some (.inl (.inl x))) ∧ M = M0
def Vl (x : Int64) (M0 : MM) : RT := fun o M => o = .inl (some (.inr (.inr (.inl (some x))))) ∧ M = M0
theorem ck_ge {x y : Int32} : ea_ck .ge x y = !decide (x < y) := by
  show decide (y ≤ x) = !decide (x < y)
  by_cases h : x < y
  · have h2 : ¬ y ≤ x := by rw [Int32.le_iff_toInt_le]; rw [Int32.lt_iff_toInt_lt] at h; omega
    rw [decide_eq_true h, decide_eq_false h2]; rfl
  · have h2 : y ≤ x := by rw [Int32.le_iff_toInt_le]; rw [Int32.lt_iff_toInt_lt] at h; omega
    rw [decide_eq_false h, decide_eq_true h2]; rfl
theorem ck_le {x y : Int32} : ea_ck .le x y = !decide (y < x) := ck_ge (x := y) (y := x)
section PMR
variable {X : Option (List AI)} {N m pc : Nat} {F : List (Nat × AV)} {S : List AV} {M : MM} {Q : RT}
theorem pM_zero : pM X 0 m pc F S M Q := fun _ _ _ _ => pa_zero
theorem pM_s (h : pMs X N m pc F S M Q) : pM X (N + 1) m pc F S M Q := fun C hC L hL => pa_succ (h C hC L hL)
theorem pM_b (h : pMs X N m pc F S M Q) : pM X N m pc F S M Q := fun C hC L hL => pa_b (h C hC L hL)
theorem pM_le {N' : Nat} (hN : N' ≤ N) (h : pM X N m pc F S M Q) : pM X N' m pc F S M Q := fun C hC L hL => pa_le (h C hC L hL) hN
theorem pM_post {Q' : RT} (h : pM X N m pc F S M Q) (hQ : ∀ o M', Q o M' → Q' o M') : pM X N m pc F S M Q' := fun C hC L hL => pa_post (h C hC L hL) (fun o C' ⟨M', h1, h2⟩ => ⟨M', h1, hQ o M' h2⟩)
theorem pM_w {F2 : List (Nat × AV)} (hw : ∀ L, lo L F → lo L F2) (h : pM X N m pc F2 S M Q) : pM X N m pc F S M Q := fun C hC L hL => h C hC L (hw L hL)
theorem pMs_p {i : Instr} {len pc' : Nat} {S' : List AV} (hc : ep_cod (tb_P X) m pc = some (i, len)) (hl : (Nat.beq (ea_len i) 0 || Nat.beq (ea_len i) len) = true) (hp : ∀ L, lo L F → ea_p i pc (ep_nls (tb_P X) m) L S = some (pc', L, S')) (h : pM X N m pc' F S' M Q) : pMs X N m pc F S M Q := fun C hC L hL => pb_p hc hl (hp L hL) (h C hC L hL)
theorem pM_p {i : Instr} {len pc' : Nat} {S' : List AV} (hc : ep_cod (tb_P X) m pc = some (i, len)) (hl : (Nat.beq (ea_len i) 0 || Nat.beq (ea_len i) len) = true) (hp : ∀ L, ea_p i pc (ep_nls (tb_P X) m) L S = some (pc', L, S')) (h : pM X N m pc' F S' M Q) : pM X N m pc F S M Q := pM_b (pMs_p hc hl (fun L _ => hp L) h)
/-- loads -/
theorem pMs_iln {k : Fin 4} {a : AI} (hc : ep_cod (tb_P X) m pc = some (.iload_n k, 1)) (hk : ea_lk F k = some (.inl a)) (h : pM X N m (pc + 1) F (.inl a :: S) M Q) : pMs X N m pc F S M Q :=
  pMs_p hc rfl (fun L hL => by
    show (match ea_lk L k with
      | some (Sum.inl a : AV) => some (pc + 1, L, (Sum.inl a : AV) :: S)
      | _ => none) = _
    rw [lo_lk hL hk]) h
theorem pMs_il {k : Nat} {a : AI} (hc : ep_cod (tb_P X) m pc = some (.iload k, 2)) (hk : ea_lk F k = some (.inl a)) (h : pM X N m (pc + 2) F (.inl a :: S) M Q) : pMs X N m pc F S M Q :=
  pMs_p hc rfl (fun L hL => by
    show (match ea_lk L k with
      | some (Sum.inl a : AV) => some (pc + 2, L, (Sum.inl a : AV) :: S)
      | _ => none) = _
    rw [lo_lk hL hk]) h
theorem pMs_lln {k : Fin 4} {a : Option Int64} (hc : ep_cod (tb_P X) m pc = some (.lload_n k, 1)) (hk : ea_lk F k = some (.inr (.inr (.inl a)))) (h : pM X N m (pc + 1) F (.inr (.inr (.inl a)) :: S) M Q) : pMs X N m pc F S M Q :=
  pMs_p hc rfl (fun L hL => by
    show (match ea_lk L k with
      | some (Sum.inr (Sum.inr (Sum.inl a)) : AV) => some (pc + 1, L, (Sum.inr (Sum.inr (Sum.inl a)) : AV) :: S)
      | _ => none) = _
    rw [lo_lk hL hk]) h
theorem pMs_ll {k : Nat} {a : Option Int64} (hc : ep_cod (tb_P X) m pc = some (.lload k, 2)) (hk : ea_lk F k = some (.inr (.inr (.inl a)))) (h : pM X N m (pc + 2) F (.inr (.inr (.inl a)) :: S) M Q) : pMs X N m pc F S M Q :=
  pMs_p hc rfl (fun L hL => by
    show (match ea_lk L k with
      | some (Sum.inr (Sum.inr (Sum.inl a)) : AV) => some (pc + 2, L, (Sum.inr (Sum.inr (Sum.inl a)) : AV) :: S)
      | _ => none) = _
    rw [lo_lk hL hk]) h
theorem pMs_aln {k : Fin 4} {a : AV} (hc : ep_cod (tb_P X) m pc = some (.aload_n k, 1)) (hk : ea_lk F k = some a) (hr : ea_isr a = true) (h : pM X N m (pc + 1) F (a :: S) M Q) : pMs X N m pc F S M Q :=
  pMs_p hc rfl (fun L hL => by
    show (match ea_lk L k with
      | some a => if ea_isr a = true then some (pc + 1, L, a :: S) else none
      | none => none) = _
    rw [lo_lk hL hk]
    exact if_pos hr) h
theorem pMs_al {k : Nat} {a : AV} (hc : ep_cod (tb_P X) m pc = some (.aload k, 2)) (hk : ea_lk F k = some a) (hr : ea_isr a = true) (h : pM X N m (pc + 2) F (a :: S) M Q) : pMs X N m pc F S M Q :=
  pMs_p hc rfl (fun L hL => by
    show (match ea_lk L k with
      | some a => if ea_isr a = true then some (pc + 2, L, a :: S) else none
      | none => none) = _
    rw [lo_lk hL hk]
    exact if_pos hr) h
theorem pM_iln {k : Fin 4} {a : AI} (hc : ep_cod (tb_P X) m pc = some (.iload_n k, 1)) (hk : ea_lk F k = some (.inl a)) (h : pM X N m (pc + 1) F (.inl a :: S) M Q) : pM X N m pc F S M Q := pM_b (pMs_iln hc hk h)
theorem pM_il {k : Nat} {a : AI} (hc : ep_cod (tb_P X) m pc = some (.iload k, 2)) (hk : ea_lk F k = some (.inl a)) (h : pM X N m (pc + 2) F (.inl a :: S) M Q) : pM X N m pc F S M Q := pM_b (pMs_il hc hk h)
theorem pM_lln {k : Fin 4} {a : Option Int64} (hc : ep_cod (tb_P X) m pc = some (.lload_n k, 1)) (hk : ea_lk F k = some (.inr (.inr (.inl a)))) (h : pM X N m (pc + 1) F (.inr (.inr (.inl a)) :: S) M Q) : pM X N m pc F S M Q := pM_b (pMs_lln hc hk h)
theorem pM_ll {k : Nat} {a : Option Int64} (hc : ep_cod (tb_P X) m pc = some (.lload k, 2)) (hk : ea_lk F k = some (.inr (.inr (.inl a)))) (h : pM X N m (pc + 2) F (.inr (.inr (.inl a)) :: S) M Q) : pM X N m pc F S M Q := pM_b (pMs_ll hc hk h)
theorem pM_aln {k : Fin 4} {a : AV} (hc : ep_cod (tb_P X) m pc = some (.aload_n k, 1)) (hk : ea_lk F k = some a) (hr : ea_isr a = true) (h : pM X N m (pc + 1) F (a :: S) M Q) : pM X N m pc F S M Q := pM_b (pMs_aln hc hk hr h)
theorem pM_al {k : Nat} {a : AV} (hc : ep_cod (tb_P X) m pc = some (.aload k, 2)) (hk : ea_lk F k = some a) (hr : ea_isr a = true) (h : pM X N m (pc + 2) F (a :: S) M Q) : pM X N m pc F S M Q := pM_b (pMs_al hc hk hr h)
/-- stores -/
theorem pM_isn {k : Fin 4} {a : AI} (hc : ep_cod (tb_P X) m pc = some (.istore_n k, 1)) (hb : Nat.blt k (ep_nls (tb_P X) m) = true) (h : pM X N m (pc + 1) (ea_s1 F k (.inl a)) S M Q) : pM X N m pc F (.inl a :: S) M Q := fun C hC L hL =>
  pa_p (pc' := pc + 1) (L' := ea_s1 L k (.inl a)) (S' := S) hc rfl (show (if (k : Nat) < ep_nls (tb_P X) m then some (pc + 1, ea_s1 L k (.inl a), S) else none) = _ from if_pos (blt_lt hb)) (h C hC _ (lo_s1 hL))
theorem pM_is {k : Nat} {a : AI} (hc : ep_cod (tb_P X) m pc = some (.istore k, 2)) (hb : Nat.blt k (ep_nls (tb_P X) m) = true) (h : pM X N m (pc + 2) (ea_s1 F k (.inl a)) S M Q) : pM X N m pc F (.inl a :: S) M Q := fun C hC L hL =>
  pa_p (pc' := pc + 2) (L' := ea_s1 L k (.inl a)) (S' := S) hc rfl (show (if k < ep_nls (tb_P X) m then some (pc + 2, ea_s1 L k (.inl a), S) else none) = _ from if_pos (blt_lt hb)) (h C hC _ (lo_s1 hL))
theorem pM_lsn {k : Fin 4} {a : Option Int64} (hc : ep_cod (tb_P X) m pc = some (.lstore_n k, 1)) (hb : Nat.blt (k + 1) (ep_nls (tb_P X) m) = true) (h : pM X N m (pc + 1) (ea_s2 F k (.inr (.inr (.inl a)))) S M Q) : pM X N m pc F (.inr (.inr (.inl a)) :: S) M Q := fun C hC L hL =>
  pa_p (pc' := pc + 1) (L' := ea_s2 L k (.inr (.inr (.inl a)))) (S' := S) hc rfl (show (if (k : Nat) + 1 < ep_nls (tb_P X) m then some (pc + 1, ea_s2 L k (.inr (.inr (.inl a))), S) else none) = _ from if_pos (blt_lt hb)) (h C hC _ (lo_s2 hL))
theorem pM_ls {k : Nat} {a : Option Int64} (hc : ep_cod (tb_P X) m pc = some (.lstore k, 2)) (hb : Nat.blt (k + 1) (ep_nls (tb_P X) m) = true) (h : pM X N m (pc + 2) (ea_s2 F k (.inr (.inr (.inl a)))) S M Q) : pM X N m pc F (.inr (.inr (.inl a)) :: S) M Q := fun C hC L hL =>
  pa_p (pc' := pc + 2) (L' := ea_s2 L k (.inr (.inr (.inl a)))) (S' := S) hc rfl (show (if k + 1 < ep_nls (tb_P X) m then some (pc + 2, ea_s2 L k (.inr (.inr (.inl a))), S) else none) = _ from if_pos (blt_lt hb)) (h C hC _ (lo_s2 hL))
theorem pM_ii {k : Nat} {n : Int} {x z : Int32} (hc : ep_cod (tb_P X) m pc = some (.iinc k n, 3)) (hk : ea_lk F k = some (.inl (.inl x))) (hb : Nat.blt k (ep_nls (tb_P X) m) = true) (hz : Int32.ofInt n = z) (h : pM X N m (pc + 3) (ea_s1 F k (.inl (.inl (x + z)))) S M Q) : pM X N m pc F S M Q := fun C hC L hL =>
  pa_p (pc' := pc + 3) (L' := ea_s1 L k (.inl (.inl (x + z)))) (S' := S) hc rfl (by
    show (match ea_lk L k with
      | some (Sum.inl a : AV) => if k < ep_nls (tb_P X) m then some (pc + 3, ea_s1 L k (.inl (iv_2 (fun x y => x + y) iv_addg a (.inl (Int32.ofInt n)))), S) else none
      | _ => none) = _
    rw [lo_lk hL hk, hz]
    exact if_pos (blt_lt hb)) (h C hC _ (lo_s1 hL))
/-- constants -/
theorem pM_ic {n : Int} {z : Int32} (hc : ep_cod (tb_P X) m pc = some (.iconst n, 1)) (hz : Int32.ofInt n = z) (h : pM X N m (pc + 1) F (.inl (.inl z) :: S) M Q) : pM X N m pc F S M Q := by
  subst hz
  exact pM_p hc rfl (fun _ => rfl) h
theorem pM_bi {n : Int} {z : Int32} (hc : ep_cod (tb_P X) m pc = some (.bipush n, 2)) (hz : (Int8.ofInt n).toInt32 = z) (h : pM X N m (pc + 2) F (.inl (.inl z) :: S) M Q) : pM X N m pc F S M Q := by
  subst hz
  exact pM_p hc rfl (fun _ => rfl) h
theorem pM_si {n : Int} {z : Int32} (hc : ep_cod (tb_P X) m pc = some (.sipush n, 3)) (hz : (Int16.ofInt n).toInt32 = z) (h : pM X N m (pc + 3) F (.inl (.inl z) :: S) M Q) : pM X N m pc F S M Q := by
  subst hz
  exact pM_p hc rfl (fun _ => rfl) h
theorem pM_lc {n : Fin 2} (hc : ep_cod (tb_P X) m pc = some (.lconst n, 1)) (h : pM X N m (pc + 1) F (.inr (.inr (.inl (some (Int64.ofNat n)))) :: S) M Q) : pM X N m pc F S M Q := pM_p hc rfl (fun _ => rfl) h
/-! ints -/
section INTS
variable {x y : Int32}
theorem pM_add (hc : ep_cod (tb_P X) m pc = some (.iadd, 1)) (h : pM X N m (pc + 1) F (.inl (.inl (x + y)) :: S) M Q) : pM X N m pc F (.inl (.inl y) :: .inl (.inl x) :: S) M Q := pM_p hc rfl (fun _ => rfl) h
theorem pM_sub (hc : ep_cod (tb_P X) m pc = some (.isub, 1)) (h : pM X N m (pc + 1) F (.inl (.inl (x - y)) :: S) M Q) : pM X N m pc F (.inl (.inl y) :: .inl (.inl x) :: S) M Q := pM_p hc rfl (fun _ => rfl) h
theorem pM_mul (hc : ep_cod (tb_P X) m pc = some (.imul, 1)) (h : pM X N m (pc + 1) F (.inl (.inl (x * y)) :: S) M Q) : pM X N m pc F (.inl (.inl y) :: .inl (.inl x) :: S) M Q := pM_p hc rfl (fun _ => rfl) h
theorem pM_and (hc : ep_cod (tb_P X) m pc = some (.iand, 1)) (h : pM X N m (pc + 1) F (.inl (.inl (x &&& y)) :: S) M Q) : pM X N m pc F (.inl (.inl y) :: .inl (.inl x) :: S) M Q := pM_p hc rfl (fun _ => rfl) h
theorem pM_or (hc : ep_cod (tb_P X) m pc = some (.ior, 1)) (h : pM X N m (pc + 1) F (.inl (.inl (x ||| y)) :: S) M Q) : pM X N m pc F (.inl (.inl y) :: .inl (.inl x) :: S) M Q := pM_p hc rfl (fun _ => rfl) h
theorem pM_xor (hc : ep_cod (tb_P X) m pc = some (.ixor, 1)) (h : pM X N m (pc + 1) F (.inl (.inl (x ^^^ y)) :: S) M Q) : pM X N m pc F (.inl (.inl y) :: .inl (.inl x) :: S) M Q := pM_p hc rfl (fun _ => rfl) h
theorem pM_shl (hc : ep_cod (tb_P X) m pc = some (.ishl, 1)) (h : pM X N m (pc + 1) F (.inl (.inl (sl x y)) :: S) M Q) : pM X N m pc F (.inl (.inl y) :: .inl (.inl x) :: S) M Q := pM_p hc rfl (fun _ => rfl) h
theorem pM_shr (hc : ep_cod (tb_P X) m pc = some (.ishr, 1)) (h : pM X N m (pc + 1) F (.inl (.inl (sr x y)) :: S) M Q) : pM X N m pc F (.inl (.inl y) :: .inl (.inl x) :: S) M Q := pM_p hc rfl (fun _ => rfl) h
theorem pM_ushr (hc : ep_cod (tb_P X) m pc = some (.iushr, 1)) (h : pM X N m (pc + 1) F (.inl (.inl (su x y)) :: S) M Q) : pM X N m pc F (.inl (.inl y) :: .inl (.inl x) :: S) M Q := pM_p hc rfl (fun _ => rfl) h
theorem pM_neg (hc : ep_cod (tb_P X) m pc = some (.ineg, 1)) (h : pM X N m (pc + 1) F (.inl (.inl (-x)) :: S) M Q) : pM X N m pc F (.inl (.inl x) :: S) M Q := pM_p hc rfl (fun _ => rfl) h
theorem pM_div (hc : ep_cod (tb_P X) m pc = some (.idiv, 1)) (h : pM X N m (pc + 1) F (.inl (.inl (x / y)) :: S) M Q) : pM X N m pc F (.inl (.inl y) :: .inl (.inl x) :: S) M Q := fun C hC L hL => by
  by_cases hz : iv_nz (.inl y) = true
  · exact pa_p (pc' := pc + 1) (L' := L) (S' := .inl (.inl (x / y)) :: S) hc rfl (show (if iv_nz (.inl y) = true then some (pc + 1, L, .inl (.inl (x / y)) :: S) else none) = _ from if_pos hz) (h C hC L hL)
  · exact pa_h hc rfl (show (if iv_nz (.inl y) = true then some (pc + 1, L, .inl (.inl (x / y)) :: S) else none) = _ from if_neg hz) rfl rfl (fun _ _ _ _ _ e => nomatch e)
theorem pM_rem (hc : ep_cod (tb_P X) m pc = some (.irem, 1)) (h : pM X N m (pc + 1) F (.inl (.inl (rm x y)) :: S) M Q) : pM X N m pc F (.inl (.inl y) :: .inl (.inl x) :: S) M Q := fun C hC L hL => by
  by_cases hz : iv_nz (.inl y) = true
  · exact pa_p (pc' := pc + 1) (L' := L) (S' := .inl (.inl (rm x y)) :: S) hc rfl (show (if iv_nz (.inl y) = true then some (pc + 1, L, .inl (.inl (rm x y)) :: S) else none) = _ from if_pos hz) (h C hC L hL)
  · exact pa_h hc rfl (show (if iv_nz (.inl y) = true then some (pc + 1, L, .inl (.inl (rm x y)) :: S) else none) = _ from if_neg hz) rfl rfl (fun _ _ _ _ _ e => nomatch e)
end INTS
/-! branches -/
section BRS
variable {x y : Int32} {off : Int} {t : Nat}
theorem pM_bc {c : Jvm.ClassFile.Cond} (hc : ep_cod (tb_P X) m pc = some (.if_icmp c off, 3)) (ht : ea_to pc off = some t) (h1 : ea_ck c x y = true → pM X N m t F S M Q) (h2 : ea_ck c x y = false → pM X N m (pc + 3) F S M Q) : pM X N m pc F (.inl (.inl y) :: .inl (.inl x) :: S) M Q := fun C hC L hL => pa_ic hc ht (fun h => h1 h C hC L hL) (fun h => h2 h C hC L hL)
theorem pM_bz {c : Jvm.ClassFile.Cond} (hc : ep_cod (tb_P X) m pc = some (.ifCond c off, 3)) (ht : ea_to pc off = some t) (h1 : ea_ck c x 0 = true → pM X N m t F S M Q) (h2 : ea_ck c x 0 = false → pM X N m (pc + 3) F S M Q) : pM X N m pc F (.inl (.inl x) :: S) M Q := fun C hC L hL => pa_if hc ht (fun h => h1 h C hC L hL) (fun h => h2 h C hC L hL)
theorem pM_ceq (hc : ep_cod (tb_P X) m pc = some (.if_icmp .eq off, 3)) (ht : ea_to pc off = some t) (h1 : x = y → pM X N m t F S M Q) (h2 : ¬ x = y → pM X N m (pc + 3) F S M Q) : pM X N m pc F (.inl (.inl y) :: .inl (.inl x) :: S) M Q := pM_bc hc ht (fun h => h1 (of_decide_eq_true h)) (fun h => h2 (of_decide_eq_false h))
theorem pM_cne (hc : ep_cod (tb_P X) m pc = some (.if_icmp .ne off, 3)) (ht : ea_to pc off = some t) (h1 : ¬ x = y → pM X N m t F S M Q) (h2 : x = y → pM X N m (pc + 3) F S M Q) : pM X N m pc F (.inl (.inl y) :: .inl (.inl x) :: S) M Q := pM_bc hc ht (fun h => h1 (by have : (!decide (x = y)) = true := h; simpa using this)) (fun h => h2 (by have : (!decide (x = y)) = false := h; simpa using this))
theorem pM_clt (hc : ep_cod (tb_P X) m pc = some (.if_icmp .lt off, 3)) (ht : ea_to pc off = some t) (h1 : x < y → pM X N m t F S M Q) (h2 : ¬ x < y → pM X N m (pc + 3) F S M Q) : pM X N m pc F (.inl (.inl y) :: .inl (.inl x) :: S) M Q := pM_bc hc ht (fun h => h1 (of_decide_eq_true h)) (fun h => h2 (of_decide_eq_false h))
theorem pM_cge (hc : ep_cod (tb_P X) m pc = some (.if_icmp .ge off, 3)) (ht : ea_to pc off = some t) (h1 : ¬ x < y → pM X N m t F S M Q) (h2 : x < y → pM X N m (pc + 3) F S M Q) : pM X N m pc F (.inl (.inl y) :: .inl (.inl x) :: S) M Q := pM_bc hc ht (fun h => h1 (by rw [ck_ge] at h; simpa using h)) (fun h => h2 (by rw [ck_ge] at h; simpa using h))
theorem pM_cgt (hc : ep_cod (tb_P X) m pc = some (.if_icmp .gt off, 3)) (ht : ea_to pc off = some t) (h1 : y < x → pM X N m t F S M Q) (h2 : ¬ y < x → pM X N m (pc + 3) F S M Q) : pM X N m pc F (.inl (.inl y) :: .inl (.inl x) :: S) M Q := pM_bc hc ht (fun h => h1 (of_decide_eq_true h)) (fun h => h2 (of_decide_eq_false h))
theorem pM_cle (hc : ep_cod (tb_P X) m pc = some (.if_icmp .le off, 3)) (ht : ea_to pc off = some t) (h1 : ¬ y < x → pM X N m t F S M Q) (h2 : y < x → pM X N m (pc + 3) F S M Q) : pM X N m pc F (.inl (.inl y) :: .inl (.inl x) :: S) M Q := pM_bc hc ht (fun h => h1 (by rw [ck_le] at h; simpa using h)) (fun h => h2 (by rw [ck_le] at h; simpa using h))
theorem pM_zeq (hc : ep_cod (tb_P X) m pc = some (.ifCond .eq off, 3)) (ht : ea_to pc off = some t) (h1 : x = 0 → pM X N m t F S M Q) (h2 : ¬ x = 0 → pM X N m (pc + 3) F S M Q) : pM X N m pc F (.inl (.inl x) :: S) M Q := pM_bz hc ht (fun h => h1 (of_decide_eq_true h)) (fun h => h2 (of_decide_eq_false h))
theorem pM_zne (hc : ep_cod (tb_P X) m pc = some (.ifCond .ne off, 3)) (ht : ea_to pc off = some t) (h1 : ¬ x = 0 → pM X N m t F S M Q) (h2 : x = 0 → pM X N m (pc + 3) F S M Q) : pM X N m pc F (.inl (.inl x) :: S) M Q := pM_bz hc ht (fun h => h1 (by have : (!decide (x = 0)) = true := h; simpa using this)) (fun h => h2 (by have : (!decide (x = 0)) = false := h; simpa using this))
theorem pM_zlt (hc : ep_cod (tb_P X) m pc = some (.ifCond .lt off, 3)) (ht : ea_to pc off = some t) (h1 : x < 0 → pM X N m t F S M Q) (h2 : ¬ x < 0 → pM X N m (pc + 3) F S M Q) : pM X N m pc F (.inl (.inl x) :: S) M Q := pM_bz hc ht (fun h => h1 (of_decide_eq_true h)) (fun h => h2 (of_decide_eq_false h))
theorem pM_zge (hc : ep_cod (tb_P X) m pc = some (.ifCond .ge off, 3)) (ht : ea_to pc off = some t) (h1 : ¬ x < 0 → pM X N m t F S M Q) (h2 : x < 0 → pM X N m (pc + 3) F S M Q) : pM X N m pc F (.inl (.inl x) :: S) M Q := pM_bz hc ht (fun h => h1 (by rw [ck_ge] at h; simpa using h)) (fun h => h2 (by rw [ck_ge] at h; simpa using h))
theorem pM_zgt (hc : ep_cod (tb_P X) m pc = some (.ifCond .gt off, 3)) (ht : ea_to pc off = some t) (h1 : 0 < x → pM X N m t F S M Q) (h2 : ¬ 0 < x → pM X N m (pc + 3) F S M Q) : pM X N m pc F (.inl (.inl x) :: S) M Q := pM_bz hc ht (fun h => h1 (of_decide_eq_true h)) (fun h => h2 (of_decide_eq_false h))
theorem pM_zle (hc : ep_cod (tb_P X) m pc = some (.ifCond .le off, 3)) (ht : ea_to pc off = some t) (h1 : ¬ 0 < x → pM X N m t F S M Q) (h2 : 0 < x → pM X N m (pc + 3) F S M Q) : pM X N m pc F (.inl (.inl x) :: S) M Q := pM_bz hc ht (fun h => h1 (by rw [ck_le] at h; simpa using h)) (fun h => h2 (by rw [ck_le] at h; simpa using h))
theorem pM_go (hc : ep_cod (tb_P X) m pc = some (.goto off, 3)) (ht : ea_to pc off = some t) (h : pM X N m t F S M Q) : pM X N m pc F S M Q := pM_p (pc' := t) (S' := S) hc rfl (fun L => by
  show (match ea_to pc off with
    | some t => some (t, L, S)
    | none => none) = _
  rw [ht]) h
theorem pM_sw {d lo hi : Int} {offs : Array Int} {len : Nat} (hc : ep_cod (tb_P X) m pc = some (.tableswitch d lo hi offs, len)) (ht : ea_to pc d = some t) (hd : (x.toInt < lo ∨ hi < x.toInt) → pM X N m t F S M Q) (hj : ∀ (j : Nat) (o : Int) (t' : Nat), x.toInt = lo + j → offs.toList[j]? = some o → ea_to pc o = some t' → pM X N m t' F S M Q) : pM X N m pc F (.inl (.inl x) :: S) M Q := fun C hC L hL => by
  have e : ea_sw d lo hi offs (.inl x) = if x.toInt < lo then some d else if hi < x.toInt then some d else if ¬ x.toInt < lo ∧ ¬ hi < x.toInt then offs.toList[(x.toInt - lo).toNat]? else none := rfl
  have ep : ea_p (.tableswitch d lo hi offs) pc (ep_nls (tb_P X) m) L (.inl (.inl x) :: S) = match ea_sw d lo hi offs (.inl x) with
      | some off => match ea_to pc off with
        | some t => some (t, L, S)
        | none => none
      | none => none := rfl
  by_cases h1 : x.toInt < lo
  · rw [if_pos h1] at e
    exact pa_p (pc' := t) (L' := L) (S' := S) hc rfl (by rw [ep, e]; dsimp only; rw [ht]) (hd (Or.inl h1) C hC L hL)
  · rw [if_neg h1] at e
    by_cases h2 : hi < x.toInt
    · rw [if_pos h2] at e
      exact pa_p (pc' := t) (L' := L) (S' := S) hc rfl (by rw [ep, e]; dsimp only; rw [ht]) (hd (Or.inr h2) C hC L hL)
    · rw [if_neg h2, if_pos ⟨h1, h2⟩] at e
      cases ho : offs.toList[(x.toInt - lo).toNat]? with
      | none =>
        rw [ho] at e
        exact pa_h hc rfl (by rw [ep, e]) rfl rfl (fun _ _ _ _ _ e => nomatch e)
      | some o =>
        rw [ho] at e
        cases hto : ea_to pc o with
        | none => exact pa_h hc rfl (by rw [ep, e]; dsimp only; rw [hto]) rfl rfl (fun _ _ _ _ _ e => nomatch e)
        | some t' => exact pa_p (pc' := t') (L' := L) (S' := S) hc rfl (by rw [ep, e]; dsimp only; rw [hto]) (hj _ o t' (by omega) ho hto C hC L hL)
end BRS
/-! memory -/
section MEM
variable {a : Nat}
theorem pM_gi {x ci k : Nat} {fs : List FT} {q : Int × Int} (hc : ep_cod (tb_P X) m pc = some (.getfield x, 3)) (hr : ea_rd (ep_pl (tb_P X) m x) = some (ci, k)) (hG : tb_G a = some (.inl (ci, fs))) (hf : ea_nt fs k = some (.inl q)) (h : pM X N m (pc + 3) F (.inl (.inl (M.1 a k)) :: S) M Q) : pM X N m pc F (.inr (.inl (some a)) :: S) M Q := fun C hC L hL => by
  obtain ⟨vs, v1, -, v3⟩ := hC.1 a ci fs hG
  refine pa_h hc rfl rfl rfl rfl (fun pc' S' C' dk dw e => ?_)
  simp only [ea_h, hr, v1, Nat.beq_refl, cond_true, v3 k _ hf] at e
  cases e
  exact h C hC L hL
theorem pM_gr {x ci k b : Nat} {fs : List FT} (hc : ep_cod (tb_P X) m pc = some (.getfield x, 3)) (hr : ea_rd (ep_pl (tb_P X) m x) = some (ci, k)) (hG : tb_G a = some (.inl (ci, fs))) (hf : ea_nt fs k = some (.inr b)) (h : pM X N m (pc + 3) F (.inr (.inl (some b)) :: S) M Q) : pM X N m pc F (.inr (.inl (some a)) :: S) M Q := fun C hC L hL => by
  obtain ⟨vs, v1, -, v3⟩ := hC.1 a ci fs hG
  refine pa_h hc rfl rfl rfl rfl (fun pc' S' C' dk dw e => ?_)
  simp only [ea_h, hr, v1, Nat.beq_refl, cond_true, v3 k _ hf] at e
  cases e
  exact h C hC L hL
theorem pM_pi {x ci k : Nat} {fs : List FT} {q : Int × Int} {z : Int32} (hc : ep_cod (tb_P X) m pc = some (.putfield x, 3)) (hr : ea_wr (ep_ini (tb_P X) m) (ep_pl (tb_P X) m x) = some (ci, k)) (hG : tb_G a = some (.inl (ci, fs))) (hf : ea_nt fs k = some (.inl q)) (h : pM X N m (pc + 3) F S (wi M a k z) Q) : pM X N m pc F (.inl (.inl z) :: .inr (.inl (some a)) :: S) M Q := fun C hC L hL => by
  obtain ⟨vs, v1, -, -⟩ := hC.1 a ci fs hG
  refine pa_h hc rfl rfl rfl rfl (fun pc' S' C' dk dw e => ?_)
  simp only [ea_h, hr, v1, Nat.beq_refl, Bool.true_and] at e
  cases hb : (ea_fit (ep_fty (tb_P X) ci k) (.inl (.inl z)) && Nat.blt k vs.length) with
  | false => rw [hb] at e; cases e
  | true =>
    rw [hb] at e
    cases e
    exact h _ (mm_pf hC hG hf v1 z) L hL
theorem ni_j {x : Int32} {j : Nat} (h : x.toInt = (j : Int)) : ni x = j := by unfold ni; omega
theorem pM_ai {n p : Nat} {fs : List FT} {x : Int32} (hc : ep_cod (tb_P X) m pc = some (.iaload, 1)) (hG : tb_G a = some (.inr (0, n, p, fs))) (hp : ∀ j, ∃ q, ea_nt fs (j % p) = some (.inl q)) (h : pM X N m (pc + 1) F (.inl (.inl (M.1 a (ni x))) :: S) M Q) : pM X N m pc F (.inl (.inl x) :: .inr (.inl (some a)) :: S) M Q := fun C hC L hL => by
  obtain ⟨d, us, v1, v2⟩ := hC.2 a 0 n p fs hG
  refine pa_h hc rfl rfl rfl rfl (fun pc' S' C' dk dw e => ?_)
  simp only [ea_h, v1] at e
  cases hi : ea_ix (.inl x) n with
  | none => rw [hi] at e; cases e
  | some j =>
    obtain ⟨j1, j2⟩ := ix_get hi
    obtain ⟨q, hq⟩ := hp j
    have hv : ea_al d us j = .inl (.inl (M.1 a j)) := by
      rw [v2 j j2]
      show (match ea_nt fs (j % p) with
        | some f => mt M.1 a j f
        | none => .inl (.inl 0)) = _
      rw [hq]
      rfl
    rw [hi] at e
    simp only [hv] at e
    cases e
    rw [ni_j j1] at h
    exact h C hC L hL
theorem pM_bl {n p : Nat} {fs : List FT} {x : Int32} (hc : ep_cod (tb_P X) m pc = some (.baload, 1)) (hG : tb_G a = some (.inr (2, n, p, fs))) (hp : ∀ j, ∃ q, ea_nt fs (j % p) = some (.inl q)) (h : pM X N m (pc + 1) F (.inl (.inl (M.1 a (ni x))) :: S) M Q) : pM X N m pc F (.inl (.inl x) :: .inr (.inl (some a)) :: S) M Q := fun C hC L hL => by
  obtain ⟨d, us, v1, v2⟩ := hC.2 a 2 n p fs hG
  refine pa_h hc rfl rfl rfl rfl (fun pc' S' C' dk dw e => ?_)
  simp only [ea_h, v1] at e
  cases hi : ea_ix (.inl x) n with
  | none => rw [hi] at e; cases e
  | some j =>
    obtain ⟨j1, j2⟩ := ix_get hi
    obtain ⟨q, hq⟩ := hp j
    have hv : ea_al d us j = .inl (.inl (M.1 a j)) := by
      rw [v2 j j2]
      show (match ea_nt fs (j % p) with
        | some f => mt M.1 a j f
        | none => .inl (.inl 0)) = _
      rw [hq]
      rfl
    rw [hi] at e
    simp only [hv] at e
    cases e
    rw [ni_j j1] at h
    exact h C hC L hL
theorem pM_sa {n p : Nat} {fs : List FT} {x z : Int32} (hc : ep_cod (tb_P X) m pc = some (.iastore, 1)) (hG : tb_G a = some (.inr (0, n, p, fs))) (hp : ∀ j, ∃ q, ea_nt fs (j % p) = some (.inl q)) (h : pM X N m (pc + 1) F S (wi M a (ni x) z) Q) : pM X N m pc F (.inl (.inl z) :: .inl (.inl x) :: .inr (.inl (some a)) :: S) M Q := fun C hC L hL => by
  obtain ⟨d, us, v1, v2⟩ := hC.2 a 0 n p fs hG
  refine pa_h hc rfl rfl rfl rfl (fun pc' S' C' dk dw e => ?_)
  simp only [ea_h, v1] at e
  cases hi : ea_ix (.inl x) n with
  | none => rw [hi] at e; cases e
  | some j =>
    obtain ⟨j1, j2⟩ := ix_get hi
    obtain ⟨q, hq⟩ := hp j
    rw [hi] at e
    cases e
    rw [ni_j j1] at h
    exact h _ (mm_as hC (by decide) hG hq v1 z) L hL
theorem pM_sb {n p : Nat} {fs : List FT} {x z : Int32} (hc : ep_cod (tb_P X) m pc = some (.bastore, 1)) (hG : tb_G a = some (.inr (2, n, p, fs))) (hp : ∀ j, ∃ q, ea_nt fs (j % p) = some (.inl q)) (h : pM X N m (pc + 1) F S (wi M a (ni x) (vp_nar .byte z)) Q) : pM X N m pc F (.inl (.inl z) :: .inl (.inl x) :: .inr (.inl (some a)) :: S) M Q := fun C hC L hL => by
  obtain ⟨d, us, v1, v2⟩ := hC.2 a 2 n p fs hG
  refine pa_h hc rfl rfl rfl rfl (fun pc' S' C' dk dw e => ?_)
  simp only [ea_h, v1] at e
  cases hi : ea_ix (.inl x) n with
  | none => rw [hi] at e; cases e
  | some j =>
    obtain ⟨j1, j2⟩ := ix_get hi
    obtain ⟨q, hq⟩ := hp j
    rw [hi] at e
    cases e
    rw [ni_j j1] at h
    exact h _ (mm_as hC (by decide) hG hq v1 (vp_nar .byte z)) L hL
theorem pM_la {n p : Nat} {fs : List FT} {x : Int32} (hc : ep_cod (tb_P X) m pc = some (.laload, 1)) (hG : tb_G a = some (.inr (1, n, p, fs))) (h : pM X N m (pc + 1) F (.inr (.inr (.inl (some (M.2 a (ni x))))) :: S) M Q) : pM X N m pc F (.inl (.inl x) :: .inr (.inl (some a)) :: S) M Q := fun C hC L hL => by
  obtain ⟨d, us, v1, v2⟩ := hC.2 a 1 n p fs hG
  refine pa_h hc rfl rfl rfl rfl (fun pc' S' C' dk dw e => ?_)
  simp only [ea_h, v1] at e
  cases hi : ea_ix (.inl x) n with
  | none => rw [hi] at e; cases e
  | some j =>
    obtain ⟨j1, j2⟩ := ix_get hi
    have hv : ea_al d us j = .inr (.inr (.inl (some (M.2 a j)))) := v2 j j2
    rw [hi] at e
    simp only [hv] at e
    cases e
    rw [ni_j j1] at h
    exact h C hC L hL
theorem pM_sg {n p : Nat} {fs : List FT} {x : Int32} {y : Int64} (hc : ep_cod (tb_P X) m pc = some (.lastore, 1)) (hG : tb_G a = some (.inr (1, n, p, fs))) (h : pM X N m (pc + 1) F S (wj M a (ni x) y) Q) : pM X N m pc F (.inr (.inr (.inl (some y))) :: .inl (.inl x) :: .inr (.inl (some a)) :: S) M Q := fun C hC L hL => by
  obtain ⟨d, us, v1, v2⟩ := hC.2 a 1 n p fs hG
  refine pa_h hc rfl rfl rfl rfl (fun pc' S' C' dk dw e => ?_)
  simp only [ea_h, v1] at e
  cases hi : ea_ix (.inl x) n with
  | none => rw [hi] at e; cases e
  | some j =>
    obtain ⟨j1, j2⟩ := ix_get hi
    rw [hi] at e
    cases e
    rw [ni_j j1] at h
    exact h _ (mm_ls hC hG v1 y) L hL
/-- an array's length -/
theorem pM_len {kd n p : Nat} {fs : List FT} {z : Int32} (hc : ep_cod (tb_P X) m pc = some (.arraylength, 1)) (hG : tb_G a = some (.inr (kd, n, p, fs))) (hz : Int32.ofNat n = z) (h : pM X N m (pc + 1) F (.inl (.inl z) :: S) M Q) : pM X N m pc F (.inr (.inl (some a)) :: S) M Q := fun C hC L hL => by
  obtain ⟨d, us, v1, v2⟩ := hC.2 a kd n p fs hG
  refine pa_h hc rfl rfl rfl rfl (fun pc' S' C' dk dw e => ?_)
  simp only [ea_h, v1] at e
  cases e
  subst hz
  exact h C hC L hL
/-- constants of the pool -/
theorem pM_ld {x v : Nat} {u : Nat} {z : Int32} (hc : ep_cod (tb_P X) m pc = some (.ldc x, 2)) (hp : ep_pl (tb_P X) m x = some (6, v, u)) (hz : Int32.ofNat v = z) (h : pM X N m (pc + 2) F (.inl (.inl z) :: S) M Q) : pM X N m pc F S M Q := fun C hC L hL => by
  refine pa_h hc rfl rfl rfl rfl (fun pc' S' C' dk dw e => ?_)
  simp only [ea_h, hp] at e
  cases e
  subst hz
  exact h C hC L hL
theorem pM_ldw {x v : Nat} {u : Nat} {z : Int32} (hc : ep_cod (tb_P X) m pc = some (.ldc_w x, 3)) (hp : ep_pl (tb_P X) m x = some (6, v, u)) (hz : Int32.ofNat v = z) (h : pM X N m (pc + 3) F (.inl (.inl z) :: S) M Q) : pM X N m pc F S M Q := fun C hC L hL => by
  refine pa_h hc rfl rfl rfl rfl (fun pc' S' C' dk dw e => ?_)
  simp only [ea_h, hp] at e
  cases e
  subst hz
  exact h C hC L hL
theorem pM_lds {x q : Nat} {u : Nat} (hc : ep_cod (tb_P X) m pc = some (.ldc x, 2)) (hp : ep_pl (tb_P X) m x = some (23, q + 1, u)) (h : pM X N m (pc + 2) F (.inr (.inr (.inr (.inr (q + 1)))) :: S) M Q) : pM X N m pc F S M Q := fun C hC L hL => by
  refine pa_h hc rfl rfl rfl rfl (fun pc' S' C' dk dw e => ?_)
  simp only [ea_h, hp] at e
  cases hb : Nat.beq ((q + 1) % 2) 0 with
  | false => rw [hb] at e; cases e
  | true =>
    rw [hb] at e
    cases e
    exact h C hC L hL
theorem pM_ldsw {x q : Nat} {u : Nat} (hc : ep_cod (tb_P X) m pc = some (.ldc_w x, 3)) (hp : ep_pl (tb_P X) m x = some (23, q + 1, u)) (h : pM X N m (pc + 3) F (.inr (.inr (.inr (.inr (q + 1)))) :: S) M Q) : pM X N m pc F S M Q := fun C hC L hL => by
  refine pa_h hc rfl rfl rfl rfl (fun pc' S' C' dk dw e => ?_)
  simp only [ea_h, hp] at e
  cases hb : Nat.beq ((q + 1) % 2) 0 with
  | false => rw [hb] at e; cases e
  | true =>
    rw [hb] at e
    cases e
    exact h C hC L hL
theorem pM_ldl {x v : Nat} {u : Nat} (hc : ep_cod (tb_P X) m pc = some (.ldc2_w x, 3)) (hp : ep_pl (tb_P X) m x = some (7, v, u)) (h : pM X N m (pc + 3) F (.inr (.inr (.inl (some (Int64.ofNat v)))) :: S) M Q) : pM X N m pc F S M Q := fun C hC L hL => by
  refine pa_h hc rfl rfl rfl rfl (fun pc' S' C' dk dw e => ?_)
  simp only [ea_h, hp] at e
  cases e
  exact h C hC L hL
/-- Math -/
theorem pM_mx {x u v : Nat} {i j : Int32} (hc : ep_cod (tb_P X) m pc = some (.invokestatic x, 3)) (hp : ep_pl (tb_P X) m x = some (16, u, v)) (h : pM X N m (pc + 3) F (.inl (.inl (mx i j)) :: S) M Q) : pM X N m pc F (.inl (.inl j) :: .inl (.inl i) :: S) M Q := fun C hC L hL => pa_mm (T := .inl (.inl (mx i j)) :: S) hc (by rw [hp]; rfl) (h C hC L hL)
theorem pM_mn {x u v : Nat} {i j : Int32} (hc : ep_cod (tb_P X) m pc = some (.invokestatic x, 3)) (hp : ep_pl (tb_P X) m x = some (17, u, v)) (h : pM X N m (pc + 3) F (.inl (.inl (mn i j)) :: S) M Q) : pM X N m pc F (.inl (.inl j) :: .inl (.inl i) :: S) M Q := fun C hC L hL => pa_mm (T := .inl (.inl (mn i j)) :: S) hc (by rw [hp]; rfl) (h C hC L hL)
end MEM
/-- the end of a method -/
def rt_m (r : Nat) (x : Int32) : Option (Option AV) := match r with
  | 1 => some (some (Sum.inl (Sum.inl x) : AV))
  | 3 => bif ea_fit 2 (Sum.inl (Sum.inl x)) then some (some (Sum.inl (Sum.inl x) : AV)) else none
  | 4 => if x.toUInt32.toUInt16.toUInt32.toInt32 = x then some (some (Sum.inl (Sum.inl x) : AV)) else none
  | 5 => if x.toInt8.toInt32 = x then some (some (Sum.inl (Sum.inl x) : AV)) else none
  | _ => none
theorem rt_i {r : Nat} {x : Int32} {v : Option AV} (h : ea_rt r .ireturn [.inl (.inl x)] = some v) : v = some (.inl (.inl x)) := by
  have h' : rt_m r x = some v := h
  unfold rt_m at h'
  split at h'
  · exact (Option.some.inj h').symm
  · cases hb : ea_fit 2 (.inl (.inl x)) with
    | true => rw [hb] at h'; exact (Option.some.inj h').symm
    | false => rw [hb] at h'; cases h'
  · split at h'
    · exact (Option.some.inj h').symm
    · cases h'
  · split at h'
    · exact (Option.some.inj h').symm
    · cases h'
  · cases h'
theorem pM_ri {x : Int32} (hc : ep_cod (tb_P X) m pc = some (.ireturn, 1)) (h : Q (.inl (some (.inl (.inl x)))) M) : pM X N m pc F [.inl (.inl x)] M Q := fun C hC L hL => pa_rt hc rfl rfl rfl rfl (fun v hv => by
  rw [rt_i hv]
  exact ⟨M, hC, h⟩)
theorem pM_rl {x : Int64} (hc : ep_cod (tb_P X) m pc = some (.lreturn, 1)) (h : Q (.inl (some (.inr (.inr (.inl (some x)))))) M) : pM X N m pc F [.inr (.inr (.inl (some x)))] M Q := fun C hC L hL => pa_rt hc rfl rfl rfl rfl (fun v hv => by
  have h' : (match ep_rtp (tb_P X) m with
    | 2 => some (some (Sum.inr (Sum.inr (Sum.inl (some x))) : AV))
    | _ => none) = some v := hv
  have : v = some (.inr (.inr (.inl (some x)))) := by
    split at h'
    · exact (Option.some.inj h').symm
    · cases h'
  rw [this]
  exact ⟨M, hC, h⟩)
theorem pM_ru (hc : ep_cod (tb_P X) m pc = some (.return_, 1)) (h : Q (.inl none) M) : pM X N m pc F [] M Q := fun C hC L hL => pa_rt hc rfl rfl rfl rfl (fun v hv => by
  have h' : (match ep_rtp (tb_P X) m with
    | 0 => some (none : Option AV)
    | _ => none) = some v := hv
  have : v = none := by
    split at h'
    · exact (Option.some.inj h').symm
    · cases h'
  rw [this]
  exact ⟨M, hC, h⟩)
theorem pM_tw {x ce : Nat} (hc : ep_cod (tb_P X) m pc = some (.new x, 3)) (ht : ea_tw (tb_P X) m pc = some ce) (hh : ∀ C, ea_h (ep_ini (tb_P X) m) (ep_pl (tb_P X) m) (ep_fty (tb_P X)) (ep_scr (tb_P X) m) (.new x) pc S C = none) (h : Q (.inr ce) M) : pM X N m pc F S M Q := fun C hC L hL => pa_tw hc ht (hh C) ⟨M, hC, h⟩
/-- calls -/
theorem pM_q {i : Instr} {r : Option (Nat × Nat × Nat)} {mj : Nat} {as T : List AV} {b : Bool} {K1 : RT} (hc : ep_cod (tb_P X) m pc = some (i, 3)) (hi : ok_iv (tb_P X) m i S = some r) (hq : ∀ C, mm tb_G M.1 M.2 C → ea_cl (ep_own (tb_P X)) i r S C = some (mj, as, T, b)) (hh : ep_hdl (tb_P X) m = []) (h : pM X N mj 0 (ea_ar 0 as) [] M K1) (hk : ∀ v M', K1 (.inl v) M' → pM X N m (pc + 3) F (v.toList ++ T) M' Q) (hx : ∀ ce M', K1 (.inr ce) M' → Q (.inr ce) M') : pM X N m pc F S M Q := fun C hC L hL =>
  pa_q hc hi (hq C hC) (h C hC _ (lo_ar as 0)) (fun v C' ⟨M', h1, h2⟩ => hk v M' h2 C' h1 L hL) (fun ce C' ⟨M', h1, h2⟩ => by
    rw [hh]
    exact ⟨M', h1, hx ce M' h2⟩)
theorem cl_v {a ci x mj n : Nat} {fs : List FT} {S as T : List AV} {C : List AC} (hC : mm tb_G M.1 M.2 C) (hG : tb_G a = some (.inl (ci, fs))) (hd : S.drop n = .inr (.inl (some a)) :: T) (ho : ep_own (tb_P X) mj = ci) (ha : (S.take n).reverse = as) : ea_cl (ep_own (tb_P X)) (.invokevirtual x) (some (2, mj, n)) S C = some (mj, .inr (.inl (some a)) :: as, T, true) := by
  obtain ⟨vs, v1, -, -⟩ := hC.1 a ci fs hG
  simp only [ea_cl, hd, v1, ho, Nat.beq_refl, cond_true, ha]
/-- System.arraycopy -/
theorem pM_cy {x a b t n0 p : Nat} {fs : List FT} {n dp sp : Int32} {T : List AV} (hc : ep_cod (tb_P X) m pc = some (.invokestatic x, 3)) (h9 : ea_is9 (ep_pl (tb_P X) m x) = true) (hGa : tb_G a = some (.inr (t, n0, p, fs))) (hGb : tb_G b = some (.inr (t, n0, p, fs))) (hp : t = 0 → ∀ j, ∃ q, ea_nt fs (j % p) = some (.inl q)) (h : pM X N m (pc + 3) F T (cpM M t a b) Q) : pM X N m pc F (.inl (.inl n) :: .inl (.inl dp) :: .inr (.inl (some b)) :: .inl (.inl sp) :: .inr (.inl (some a)) :: T) M Q := fun C hC L hL => by
  obtain ⟨d, us, v1, v2⟩ := hC.2 a t n0 p fs hGa
  obtain ⟨d', us', w1, w2⟩ := hC.2 b t n0 p fs hGb
  refine pa_cy hc h9 (fun T' C' e => ?_)
  simp only [ea_cy, v1, w1] at e
  split at e
  · rename_i hh
    cases e
    refine h _ ?_ L hL
    have ht : t < 2 := hh.2.1
    have key : ∀ (c kd p' : Nat) (gs : List FT) (j : Nat), ¬ c = b → me (cpM M t a b).1 (cpM M t a b).2 c kd p' gs j = me M.1 M.2 c kd p' gs j := by
      intro c kd p' gs j hcb
      match t, ht with
      | 0, _ =>
        unfold me
        split
        · rfl
        · split
          · rename_i f _
            match f with
            | .inl _ => show Sum.inl (Sum.inl (if c = b then _ else _)) = _; rw [if_neg hcb]; rfl
            | .inr _ => rfl
          · rfl
      | 1, _ =>
        unfold me
        split
        · show Sum.inr (Sum.inr (Sum.inl (some (if c = b then _ else _)))) = _
          rw [if_neg hcb]
        · rfl
    refine ⟨fun c cj gs hG' => ?_, fun c kd n' p' gs hG' => ?_⟩
    · have hcb : c ≠ b := by
        intro h
        rw [h, hGb] at hG'
        cases hG'
      obtain ⟨ws, x1, x2, x3⟩ := hC.1 c cj gs hG'
      refine ⟨ws, by rw [nt_set_ne (fun h => hcb h.symm)]; exact x1, x2, fun k f hk => ?_⟩
      rw [x3 k f hk]
      match f, t, ht with
      | .inr _, _, _ => rfl
      | .inl _, 0, _ => show _ = some (Sum.inl (Sum.inl (if c = b then _ else _))); rw [if_neg hcb]; rfl
      | .inl _, 1, _ => rfl
    · by_cases hcb : c = b
      · subst hcb
        rw [hGb] at hG'
        cases hG'
        refine ⟨d, us, nt_set_self w1, fun j hj => ?_⟩
        rw [v2 j hj]
        match t, ht, hp with
        | 0, _, hp =>
          obtain ⟨q, hq⟩ := hp rfl j
          show (match ea_nt fs (j % p) with
            | some f => mt M.1 a j f
            | none => .inl (.inl 0)) = (match ea_nt fs (j % p) with
            | some f => mt (cpM M 0 a c).1 c j f
            | none => .inl (.inl 0))
          rw [hq]
          show Sum.inl (Sum.inl (M.1 a j)) = Sum.inl (Sum.inl (if c = c then M.1 a j else M.1 c j))
          rw [if_pos rfl]
        | 1, _, _ =>
          show Sum.inr (Sum.inr (Sum.inl (some (M.2 a j)))) = Sum.inr (Sum.inr (Sum.inl (some (if c = c then M.2 a j else M.2 c j))))
          rw [if_pos rfl]
      · obtain ⟨d2, us2, x1, x2⟩ := hC.2 c kd n' p' gs hG'
        refine ⟨d2, us2, by rw [nt_set_ne (fun h => hcb h.symm)]; exact x1, fun j hj => ?_⟩
        rw [x2 j hj, key c kd p' gs j hcb]
  · cases e
end PMR
theorem one_p (q : Int × Int) : ∀ j, ∃ q', ea_nt [(.inl q : FT)] (j % 1) = some (.inl q') := fun j => ⟨q, by rw [Nat.mod_one]; rfl⟩
end
section
/-! CALLS, ENDS, SHAPES for the printed walks -/
def tyA (lo hi : Int) (n : Nat) : CT := .inr (0, n, 1, [.inl (lo, hi)])
def wkind (a : Nat) : List FT := let i : FT := .inl ((-2147483648), 2147483647)
  [.inl (0, 10), i, .inr (a + 1), .inr (a + 2), .inr (a + 3), .inr (a + 4), .inr (a + 5), .inr (a + 6), .inr (a + 7), .inr (a + 8), .inr (a + 9), i, i, i, i, i, i, i, i, .inr (a + 10)]
def kkind (a : Nat) : List FT := let i : FT := .inl ((-2147483648), 2147483647)
  [.inl (0, 1), .inl (0, 12), i, .inr (a + 1), .inr (a + 2), .inr (a + 3), .inl (0, 200), .inr (a + 4), .inl (0, 665)]
def isG (b : Nat) : Prop := tb_G b = some (.inl (3, [.inr (b + 1), .inl (0, 60), .inl (0, 59)])) ∧ tb_G (b + 1) = some (.inr (0, 240, 1, [.inl ((-2147483648), 2147483647)]))
def isW (a : Nat) : Prop := tb_G a = some (.inl (10, wkind a)) ∧ tb_G (a + 1) = some (.inr (0, 10, 1, [.inl ((-2147483648), 2147483647)])) ∧ tb_G (a + 2) = some (.inr (0, 10, 1, [.inl ((-2147483648), 2147483647)])) ∧ tb_G (a + 3) = some (.inr (0, 10, 1, [.inl ((-2147483648), 2147483647)])) ∧ tb_G (a + 4) = some (.inr (0, 10, 1, [.inl ((-2147483648), 2147483647)])) ∧ tb_G (a + 5) = some (.inr (0, 60, 1, [.inl (0, 63)])) ∧ tb_G (a + 6) = some (.inr (0, 10, 1, [.inl (0, 6)])) ∧ tb_G (a + 7) = some (.inr (0, 10, 1, [.inl (0, 6)])) ∧ tb_G (a + 8) = some (.inr (1, 10, 1, [])) ∧ tb_G (a + 9) = some (.inr (0, 8, 1, [.inl ((-2147483648), 2147483647)])) ∧ isG (a + 10)
def isK (a : Nat) : Prop := tb_G a = some (.inl (1, kkind a)) ∧ tb_G (a + 1) = some (.inr (0, 12, 1, [.inl ((-2147483648), 2147483647)])) ∧ tb_G (a + 2) = some (.inr (0, 12, 1, [.inl (0, 200)])) ∧ tb_G (a + 3) = some (.inr (0, 200, 1, [.inl ((-4), 660)])) ∧ tb_G (a + 4) = some (.inr (0, 665, 1, [.inl ((-2147483648), 2147483647)]))
theorem isG_28 : isG 28 := ⟨rfl, rfl⟩
theorem isG_40 : isG 40 := ⟨rfl, rfl⟩
theorem isW_18 : isW 18 := ⟨rfl, rfl, rfl, rfl, rfl, rfl, rfl, rfl, rfl, rfl, rfl, rfl⟩
theorem isW_30 : isW 30 := ⟨rfl, rfl, rfl, rfl, rfl, rfl, rfl, rfl, rfl, rfl, rfl, rfl⟩
theorem isW_178 : isW 178 := ⟨rfl, rfl, rfl, rfl, rfl, rfl, rfl, rfl, rfl, rfl, rfl, rfl⟩
theorem isW_m' : ∀ j : Nat, j < 10 → isW (46 + 12 * j)
  | 0, _ => ⟨rfl, rfl, rfl, rfl, rfl, rfl, rfl, rfl, rfl, rfl, rfl, rfl⟩
  | 1, _ => ⟨rfl, rfl, rfl, rfl, rfl, rfl, rfl, rfl, rfl, rfl, rfl, rfl⟩
  | 2, _ => ⟨rfl, rfl, rfl, rfl, rfl, rfl, rfl, rfl, rfl, rfl, rfl, rfl⟩
  | 3, _ => ⟨rfl, rfl, rfl, rfl, rfl, rfl, rfl, rfl, rfl, rfl, rfl, rfl⟩
  | 4, _ => ⟨rfl, rfl, rfl, rfl, rfl, rfl, rfl, rfl, rfl, rfl, rfl, rfl⟩
  | 5, _ => ⟨rfl, rfl, rfl, rfl, rfl, rfl, rfl, rfl, rfl, rfl, rfl, rfl⟩
  | 6, _ => ⟨rfl, rfl, rfl, rfl, rfl, rfl, rfl, rfl, rfl, rfl, rfl, rfl⟩
  | 7, _ => ⟨rfl, rfl, rfl, rfl, rfl, rfl, rfl, rfl, rfl, rfl, rfl, rfl⟩
  | 8, _ => ⟨rfl, rfl, rfl, rfl, rfl, rfl, rfl, rfl, rfl, rfl, rfl, rfl⟩
  | 9, _ => ⟨rfl, rfl, rfl, rfl, rfl, rfl, rfl, rfl, rfl, rfl, rfl, rfl⟩
  | _ + 10, h => absurd h (by omega)
theorem isW_m {j : Nat} (h : j < 10) : isW (46 + 12 * j) := isW_m' j h
theorem isK_8 : isK 8 := ⟨rfl, rfl, rfl, rfl, rfl⟩
theorem isK_13 : isK 13 := ⟨rfl, rfl, rfl, rfl, rfl⟩
theorem isK_173 : isK 173 := ⟨rfl, rfl, rfl, rfl, rfl⟩
def al_i (f : FT) : Bool := match f with
  | .inl _ => true
  | .inr _ => false
theorem row_a : (List.range 388).all (fun j => match ea_nt tg_row j with
    | some f => al_i f
    | none => false) = true := by decide +kernel
theorem row_p (j : Nat) : ∃ q, ea_nt tg_row (j % 388) = some (.inl q) := by
  have h := List.all_eq_true.mp row_a (j % 388) (List.mem_range.mpr (Nat.mod_lt _ (by decide)))
  cases hf : ea_nt tg_row (j % 388) with
  | none => rw [hf] at h; cases h
  | some f =>
    rw [hf] at h
    match f, h with
    | .inl q, _ => exact ⟨q, rfl⟩
def fpm (l : List (Nat × Nat × Option Nat)) (b j : Nat) : Bool := l.any (fun q => Nat.ble q.1 b && Nat.ble b q.2.1 && (match q.2.2 with
  | none => true
  | some f => Nat.beq f j))
/-- memories that differ in these places alone -/
def Eqo (l : List (Nat × Nat × Option Nat)) (M M' : MM) : Prop := ∀ b j, fpm l b j = false → M'.1 b j = M.1 b j ∧ M'.2 b j = M.2 b j
def fps (l l2 : List (Nat × Nat × Option Nat)) : Prop := ∀ b j, fpm l b j = true → fpm l2 b j = true
theorem eqo_rf {l : List (Nat × Nat × Option Nat)} (M : MM) : Eqo l M M := fun _ _ _ => ⟨rfl, rfl⟩
theorem fpm_at {l : List (Nat × Nat × Option Nat)} {i : Nat} {q : Nat × Nat × Option Nat} (h : l[i]? = some q) {b j : Nat} (hq : fpm [q] b j = true) : fpm l b j = true := by
  unfold fpm at hq ⊢
  rw [List.any_eq_true]
  refine ⟨q, List.mem_of_getElem? h, ?_⟩
  rw [List.any_cons, List.any_nil, Bool.or_false] at hq
  exact hq
theorem fpm_1 {a k : Nat} {o : Option Nat} (ho : o = none ∨ o = some k) : fpm [(a, a, o)] a k = true := by
  unfold fpm
  rw [List.any_cons, List.any_nil, Bool.or_false]
  rcases ho with rfl | rfl
  · simp
  · simp
theorem eqo_wi {l : List (Nat × Nat × Option Nat)} {M M1 : MM} {a k i : Nat} {o : Option Nat} {x : Int32} (h : Eqo l M M1) (hi : l[i]? = some (a, a, o)) (ho : o = none ∨ o = some k) : Eqo l M (wi M1 a k x) := fun b j hb => by
  have hn : ¬ (b = a ∧ j = k) := by
    rintro ⟨rfl, rfl⟩
    rw [fpm_at hi (fpm_1 ho)] at hb
    cases hb
  refine ⟨?_, (h b j hb).2⟩
  rw [← (h b j hb).1]
  exact up_n hn
theorem eqo_wj {l : List (Nat × Nat × Option Nat)} {M M1 : MM} {a k i : Nat} {o : Option Nat} {x : Int64} (h : Eqo l M M1) (hi : l[i]? = some (a, a, o)) (ho : o = none ∨ o = some k) : Eqo l M (wj M1 a k x) := fun b j hb => by
  have hn : ¬ (b = a ∧ j = k) := by
    rintro ⟨rfl, rfl⟩
    rw [fpm_at hi (fpm_1 ho)] at hb
    cases hb
  refine ⟨(h b j hb).1, ?_⟩
  rw [← (h b j hb).2]
  exact up_n hn
theorem eqo_cp {l : List (Nat × Nat × Option Nat)} {M M1 : MM} {t a c i : Nat} (h : Eqo l M M1) (hi : l[i]? = some (c, c, none)) (_ : (none : Option Nat) = none ∨ (none : Option Nat) = some 0) : Eqo l M (cpM M1 t a c) := fun b j hb => by
  have hn : ¬ b = c := by
    rintro rfl
    rw [fpm_at hi (fpm_1 (k := j) (Or.inl rfl))] at hb
    cases hb
  match t with
  | 0 => exact ⟨by rw [← (h b j hb).1]; exact if_neg hn, (h b j hb).2⟩
  | _ + 1 => exact ⟨(h b j hb).1, by rw [← (h b j hb).2]; exact if_neg hn⟩
theorem eqo_tr {l l1 : List (Nat × Nat × Option Nat)} {M M1 M2 : MM} (h : Eqo l M M1) (hs : fps l1 l) (h1 : Eqo l1 M1 M2) : Eqo l M M2 := fun b j hb => by
  have hb1 : fpm l1 b j = false := by
    cases e : fpm l1 b j with
    | false => rfl
    | true => rw [hs b j e] at hb; cases hb
  exact ⟨(h1 b j hb1).1.trans (h b j hb).1, (h1 b j hb1).2.trans (h b j hb).2⟩
theorem fps_nil {l : List (Nat × Nat × Option Nat)} : fps [] l := fun b j h => by cases h
theorem fpm_c {q : Nat × Nat × Option Nat} {t : List (Nat × Nat × Option Nat)} {b j : Nat} (h : fpm (q :: t) b j = true) : fpm [q] b j = true ∨ fpm t b j = true := by
  unfold fpm at h ⊢
  rw [List.any_cons, Bool.or_eq_true] at h
  rcases h with h | h
  · exact Or.inl (by rw [List.any_cons, List.any_nil, Bool.or_false]; exact h)
  · exact Or.inr h
theorem fps_cons {l t : List (Nat × Nat × Option Nat)} {q : Nat × Nat × Option Nat} {i : Nat} (h : l[i]? = some q) (ht : fps t l) : fps (q :: t) l := fun b j hb => by
  rcases fpm_c hb with h1 | h1
  · exact fpm_at h h1
  · exact ht b j h1
theorem fps_any {l t : List (Nat × Nat × Option Nat)} {lo hi : Nat} {f : Option Nat} {i : Nat} (h : l[i]? = some (lo, hi, none)) (ht : fps t l) : fps ((lo, hi, f) :: t) l := fun b j hb => by
  rcases fpm_c hb with h1 | h1
  · refine fpm_at h ?_
    unfold fpm at h1 ⊢
    simp only [List.any_cons, List.any_nil, Bool.or_false, Bool.and_eq_true] at h1 ⊢
    exact ⟨h1.1, trivial⟩
  · exact ht b j h1
theorem fps_rg {l t : List (Nat × Nat × Option Nat)} {lo hi lo2 hi2 : Nat} {f : Option Nat} {i : Nat} (h : l[i]? = some (lo2, hi2, none)) (h1 : lo2 ≤ lo) (h2 : hi ≤ hi2) (ht : fps t l) : fps ((lo, hi, f) :: t) l := fun b j hb => by
  rcases fpm_c hb with h3 | h3
  · refine fpm_at h ?_
    unfold fpm at h3 ⊢
    simp only [List.any_cons, List.any_nil, Bool.or_false, Bool.and_eq_true, Nat.ble_eq] at h3 ⊢
    exact ⟨⟨by omega, by omega⟩, trivial⟩
  · exact ht b j h3
theorem sw_e {x k : Int32} {z : Int} (h : x.toInt = z) (hk : k.toInt = z) : x = k := Int32.toInt_inj.mp (h.trans hk.symm)
theorem sw_n {x k : Int32} {z : Int} (h : x.toInt = z) (hk : ¬ k.toInt = z) : ¬ x = k := fun e => hk (e ▸ h)
theorem sw_o {x k : Int32} {lo hi : Int} (h : x.toInt < lo ∨ hi < x.toInt) (hk : ¬ (k.toInt < lo ∨ hi < k.toInt)) : ¬ x = k := fun e => hk (e ▸ h)
section PADN
variable {P : EP} {N m pc : Nat} {L : List (Nat × AV)} {S : List AV} {C : List AC} {K : Option AV ⊕ Nat → List AC → Prop}
theorem pa_dn {i : Instr} {r : Option (Nat × Nat × Nat)} {mj : Nat} {as T : List AV} {b : Bool} (hc : ep_cod P m pc = some (i, 3)) (hi : ok_iv P m i S = some r) (hq : ea_cl (ep_own P) i r S C = some (mj, as, T, b)) (hd : Nat.blt (ep_dep P mj) (ep_dep P m) = false) : pa P N m pc L S C K := by
  refine pa_b (pb_step (fun n hn k w x e1 => ?_))
  have key : ea_1 P (ea_x P n) m pc L S C k w = ea_q P (ea_x P n) m pc L S C k w i r := by
    unfold ea_1
    rw [hc]
    unfold ok_iv at hi
    split at hi
    · split at hi
      · cases hi
      · rename_i ho
        cases hi
        show (match ea_oi _ S with | some T => _ | none => _) = _
        rw [ho]
    · split at hi
      · cases hi
      · rename_i ho
        cases h9 : ea_is9 (ep_pl P m _) with
        | true => rw [h9] at hi; cases hi
        | false =>
          rw [h9] at hi
          cases hi
          show (match ea_mm _ S with | some T => _ | none => _) = _
          rw [ho]
          dsimp only
          rw [h9]
          rfl
    · cases hi
      rfl
    · cases hi
  rw [key] at e1
  unfold ea_q at e1
  rw [hq] at e1
  dsimp only at e1
  rw [hd, Bool.false_and] at e1
  cases e1
end PADN
section PMC
variable {X : Option (List AI)} {N m pc : Nat} {F : List (Nat × AV)} {S : List AV} {M : MM} {Q : RT}
theorem pM_rVi {x y : Int32} (hc : ep_cod (tb_P X) m pc = some (.ireturn, 1)) (e : y = x) : pM X N m pc F [.inl (.inl x)] M (Vi y M) := by
  subst e
  exact pM_ri hc ⟨rfl, rfl⟩
theorem pM_rVl {x y : Int64} (hc : ep_cod (tb_P X) m pc = some (.lreturn, 1)) (e : y = x) : pM X N m pc F [.inr (.inr (.inl (some x)))] M (Vl y M) := by
  subst e
  exact pM_rl hc ⟨rfl, rfl⟩
section CALLS
variable {i : Instr} {r : Option (Nat × Nat × Nat)} {mj : Nat} {as T : List AV} {b : Bool}
theorem pM_qVi {x : Int32} (hc : ep_cod (tb_P X) m pc = some (i, 3)) (hi : ok_iv (tb_P X) m i S = some r) (hq : ∀ C, mm tb_G M.1 M.2 C → ea_cl (ep_own (tb_P X)) i r S C = some (mj, as, T, b)) (hh : ep_hdl (tb_P X) m = []) (h : pM X N mj 0 (ea_ar 0 as) [] M (Vi x M)) (hk : pM X N m (pc + 3) F (.inl (.inl x) :: T) M Q) : pM X N m pc F S M Q :=
  pM_q hc hi hq hh h (fun v M' hv => by
    obtain ⟨e, rfl⟩ := hv
    cases e
    exact hk) (fun ce M' hv => nomatch hv.1)
theorem pM_qVl {x : Int64} (hc : ep_cod (tb_P X) m pc = some (i, 3)) (hi : ok_iv (tb_P X) m i S = some r) (hq : ∀ C, mm tb_G M.1 M.2 C → ea_cl (ep_own (tb_P X)) i r S C = some (mj, as, T, b)) (hh : ep_hdl (tb_P X) m = []) (h : pM X N mj 0 (ea_ar 0 as) [] M (Vl x M)) (hk : pM X N m (pc + 3) F (.inr (.inr (.inl (some x))) :: T) M Q) : pM X N m pc F S M Q :=
  pM_q hc hi hq hh h (fun v M' hv => by
    obtain ⟨e, rfl⟩ := hv
    cases e
    exact hk) (fun ce M' hv => nomatch hv.1)
theorem pM_qPi {Q1 : Int32 → Prop} (hc : ep_cod (tb_P X) m pc = some (i, 3)) (hi : ok_iv (tb_P X) m i S = some r) (hq : ∀ C, mm tb_G M.1 M.2 C → ea_cl (ep_own (tb_P X)) i r S C = some (mj, as, T, b)) (hh : ep_hdl (tb_P X) m = []) (h : pM X N mj 0 (ea_ar 0 as) [] M (Pi Q1 M)) (hk : ∀ x, Q1 x → pM X N m (pc + 3) F (.inl (.inl x) :: T) M Q) : pM X N m pc F S M Q :=
  pM_q hc hi hq hh h (fun v M' hv => by
    obtain ⟨x, e, rfl, h1⟩ := hv
    cases e
    exact hk x h1) (fun ce M' hv => by
    obtain ⟨x, e, -⟩ := hv
    cases e)
theorem pM_qPl {Q1 : Int64 → Prop} (hc : ep_cod (tb_P X) m pc = some (i, 3)) (hi : ok_iv (tb_P X) m i S = some r) (hq : ∀ C, mm tb_G M.1 M.2 C → ea_cl (ep_own (tb_P X)) i r S C = some (mj, as, T, b)) (hh : ep_hdl (tb_P X) m = []) (h : pM X N mj 0 (ea_ar 0 as) [] M (Pl Q1 M)) (hk : ∀ x, Q1 x → pM X N m (pc + 3) F (.inr (.inr (.inl (some x))) :: T) M Q) : pM X N m pc F S M Q :=
  pM_q hc hi hq hh h (fun v M' hv => by
    obtain ⟨x, e, rfl, h1⟩ := hv
    cases e
    exact hk x h1) (fun ce M' hv => by
    obtain ⟨x, e, -⟩ := hv
    cases e)
theorem pM_qRi {Q1 : Int32 → MM → Prop} (hc : ep_cod (tb_P X) m pc = some (i, 3)) (hi : ok_iv (tb_P X) m i S = some r) (hq : ∀ C, mm tb_G M.1 M.2 C → ea_cl (ep_own (tb_P X)) i r S C = some (mj, as, T, b)) (hh : ep_hdl (tb_P X) m = []) (h : pM X N mj 0 (ea_ar 0 as) [] M (Ri Q1)) (hk : ∀ x M', Q1 x M' → pM X N m (pc + 3) F (.inl (.inl x) :: T) M' Q) : pM X N m pc F S M Q :=
  pM_q hc hi hq hh h (fun v M' hv => by
    obtain ⟨x, e, h1⟩ := hv
    cases e
    exact hk x M' h1) (fun ce M' hv => by
    obtain ⟨x, e, -⟩ := hv
    cases e)
theorem pM_qRl {Q1 : Int64 → MM → Prop} (hc : ep_cod (tb_P X) m pc = some (i, 3)) (hi : ok_iv (tb_P X) m i S = some r) (hq : ∀ C, mm tb_G M.1 M.2 C → ea_cl (ep_own (tb_P X)) i r S C = some (mj, as, T, b)) (hh : ep_hdl (tb_P X) m = []) (h : pM X N mj 0 (ea_ar 0 as) [] M (Rl Q1)) (hk : ∀ x M', Q1 x M' → pM X N m (pc + 3) F (.inr (.inr (.inl (some x))) :: T) M' Q) : pM X N m pc F S M Q :=
  pM_q hc hi hq hh h (fun v M' hv => by
    obtain ⟨x, e, h1⟩ := hv
    cases e
    exact hk x M' h1) (fun ce M' hv => by
    obtain ⟨x, e, -⟩ := hv
    cases e)
theorem pM_qRu {Q1 : MM → Prop} (hc : ep_cod (tb_P X) m pc = some (i, 3)) (hi : ok_iv (tb_P X) m i S = some r) (hq : ∀ C, mm tb_G M.1 M.2 C → ea_cl (ep_own (tb_P X)) i r S C = some (mj, as, T, b)) (hh : ep_hdl (tb_P X) m = []) (h : pM X N mj 0 (ea_ar 0 as) [] M (Ru Q1)) (hk : ∀ M', Q1 M' → pM X N m (pc + 3) F T M' Q) : pM X N m pc F S M Q :=
  pM_q hc hi hq hh h (fun v M' hv => by
    obtain ⟨e, h1⟩ := hv
    cases e
    exact hk M' h1) (fun ce M' hv => nomatch hv.1)
theorem pM_qPue {Q1 : Prop} {E1 : Nat → Prop} (hc : ep_cod (tb_P X) m pc = some (i, 3)) (hi : ok_iv (tb_P X) m i S = some r) (hq : ∀ C, mm tb_G M.1 M.2 C → ea_cl (ep_own (tb_P X)) i r S C = some (mj, as, T, b)) (hh : ep_hdl (tb_P X) m = []) (h : pM X N mj 0 (ea_ar 0 as) [] M (Pe (Pu Q1 M) E1 M)) (hk : Q1 → pM X N m (pc + 3) F T M Q) (hx : ∀ ce, E1 ce → Q (.inr ce) M) : pM X N m pc F S M Q :=
  pM_q hc hi hq hh h (fun v M' hv => by
    rcases hv with ⟨e, rfl, h1⟩ | ⟨ce, e, -⟩
    · cases e
      exact hk h1
    · cases e) (fun ce M' hv => by
    rcases hv with ⟨e, -⟩ | ⟨ce', e, rfl, h1⟩
    · cases e
    · cases e
      exact hx ce h1)
/-- a call that goes no deeper: never made -/
theorem pM_dn (hc : ep_cod (tb_P X) m pc = some (i, 3)) (hi : ok_iv (tb_P X) m i S = some r) (hq : ∀ C, mm tb_G M.1 M.2 C → ea_cl (ep_own (tb_P X)) i r S C = some (mj, as, T, b)) (hd : Nat.blt (ep_dep (tb_P X) mj) (ep_dep (tb_P X) m) = false) : pM X N m pc F S M Q := fun C hC L hL => pa_dn hc hi (hq C hC) hd
end CALLS
/-- an element of the ring of worlds -/
theorem pM_aa {x : Int32} (hc : ep_cod (tb_P X) m pc = some (.aaload, 1)) (h : ni x < 10 → pM X N m (pc + 1) F (.inr (.inl (some (46 + 12 * ni x))) :: S) M Q) : pM X N m pc F (.inl (.inl x) :: .inr (.inl (some 45)) :: S) M Q := fun C hC L hL => by
  obtain ⟨d, us, v1, v2⟩ := hC.2 45 13 10 10 _ rfl
  refine pa_h hc rfl rfl rfl rfl (fun pc' S' C' dk dw e => ?_)
  simp only [ea_h, v1] at e
  cases hi : ea_ix (.inl x) 10 with
  | none => rw [hi] at e; cases e
  | some j =>
    obtain ⟨j1, j2⟩ := ix_get hi
    have hv : ea_al d us j = .inr (.inl (some (46 + 12 * j))) := by
      rw [v2 j j2]
      match j, j2 with
      | 0, _ => rfl
      | 1, _ => rfl
      | 2, _ => rfl
      | 3, _ => rfl
      | 4, _ => rfl
      | 5, _ => rfl
      | 6, _ => rfl
      | 7, _ => rfl
      | 8, _ => rfl
      | 9, _ => rfl
      | _ + 10, h => exact absurd h (by omega)
    rw [hi] at e
    simp only [hv] at e
    cases e
    rw [ni_j j1] at h
    exact h j2 C hC L hL
/-! Strings -/
section STR
variable {q : Nat}
theorem pM_gs {x u v : Nat} {z : Int32} (hc : ep_cod (tb_P X) m pc = some (.getstatic x, 3)) (hp : ep_pl (tb_P X) m x = some (25, u, v)) (hz : (1 : Int32) = z) (h : pM X N m (pc + 3) F (.inl (.inl z) :: S) M Q) : pM X N m pc F S M Q := fun C hC L hL => by
  refine pa_h hc rfl rfl rfl rfl (fun pc' S' C' dk dw e => ?_)
  simp only [ea_h, hp] at e
  cases e
  subst hz
  exact h C hC L hL
theorem pM_gf {x u v : Nat} (hc : ep_cod (tb_P X) m pc = some (.getstatic x, 3)) (hp : ep_pl (tb_P X) m x = some (27, u, v)) (h : pM X N m (pc + 3) F (.inr (.inr (.inr (.inr 0))) :: S) M Q) : pM X N m pc F S M Q := fun C hC L hL => by
  refine pa_h hc rfl rfl rfl rfl (fun pc' S' C' dk dw e => ?_)
  simp only [ea_h, hp] at e
  cases e
  exact h C hC L hL
theorem pM_g0 {x u : Nat} (he : (q + 1) % 2 = 0) (hc : ep_cod (tb_P X) m pc = some (.getfield x, 3)) (hp : ep_pl (tb_P X) m x = some (24, 0, u)) (h : pM X N m (pc + 3) F (.inr (.inr (.inr (.inr (q + 2)))) :: S) M Q) : pM X N m pc F (.inr (.inr (.inr (.inr (q + 1)))) :: S) M Q := fun C hC L hL => by
  refine pa_h hc rfl rfl rfl rfl (fun pc' S' C' dk dw e => ?_)
  simp only [ea_h, hp, ea_rd, sx_f, he, Nat.beq_refl, cond_true] at e
  cases e
  exact h C hC L hL
theorem pM_g1 {x u k : Nat} (he : (q + 1) % 2 = 0) (hc : ep_cod (tb_P X) m pc = some (.getfield x, 3)) (hp : ep_pl (tb_P X) m x = some (24, k + 1, u)) (h : pM X N m (pc + 3) F (.inl (.inl 0) :: S) M Q) : pM X N m pc F (.inr (.inr (.inr (.inr (q + 1)))) :: S) M Q := fun C hC L hL => by
  refine pa_h hc rfl rfl rfl rfl (fun pc' S' C' dk dw e => ?_)
  simp only [ea_h, hp, ea_rd, sx_f, he, Nat.beq_refl, cond_true] at e
  cases e
  exact h C hC L hL
theorem sx_h {q : Nat} (he : (q + 1) % 2 = 0) : (q + 2) / 128 = (q + 1) / 128 := by omega
theorem pM_bn (he : (q + 1) % 2 = 0) (hc : ep_cod (tb_P X) m pc = some (.arraylength, 1)) (h : pM X N m (pc + 1) F (.inl (.inl (Int32.ofNat (sx_len ((q + 1) / 128)))) :: S) M Q) : pM X N m pc F (.inr (.inr (.inr (.inr (q + 2)))) :: S) M Q := fun C hC L hL => by
  refine pa_h hc rfl rfl rfl rfl (fun pc' S' C' dk dw e => ?_)
  have h1 : Nat.beq ((q + 2) % 2) 1 = true := by
    rw [show (q + 2) % 2 = 1 by omega]
    rfl
  have e' : (bif Nat.beq ((q + 2) % 2) 1 then some (pc + 1, (Sum.inl (Sum.inl (Int32.ofNat (sx_len ((q + 2) / 128)))) : AV) :: S, (none : Option (List AC)), 0, 0) else none) = some (pc', S', C', dk, dw) := e
  rw [h1, sx_h he] at e'
  cases e'
  exact h C hC L hL
theorem pM_bb (he : (q + 1) % 2 = 0) {x : Int32} (hc : ep_cod (tb_P X) m pc = some (.baload, 1)) (h : pM X N m (pc + 1) F (.inl (.inl (Int32.ofNat (sx_ch ((q + 1) / 128) (ni x)))) :: S) M Q) : pM X N m pc F (.inl (.inl x) :: .inr (.inr (.inr (.inr (q + 2)))) :: S) M Q := fun C hC L hL => by
  refine pa_h hc rfl rfl rfl rfl (fun pc' S' C' dk dw e => ?_)
  have h1 : Nat.beq ((q + 2) % 2) 1 = true := by
    rw [show (q + 2) % 2 = 1 by omega]
    rfl
  have e' : (bif Nat.beq ((q + 2) % 2) 1 then (match ea_ix (.inl x) (sx_len ((q + 2) / 128)) with
      | some j => some (pc + 1, (Sum.inl (Sum.inl (Int32.ofNat (sx_ch ((q + 2) / 128) j))) : AV) :: S, (none : Option (List AC)), 0, 0)
      | none => none) else none) = some (pc', S', C', dk, dw) := e
  rw [h1, sx_h he] at e'
  cases hi : ea_ix (.inl x) (sx_len ((q + 1) / 128)) with
  | none => rw [hi] at e'; cases e'
  | some j =>
    rw [hi] at e'
    cases e'
    rw [ni_j (ix_get hi).1] at h
    exact h C hC L hL
theorem cl_s {own : Nat → Nat} {x mj n : Nat} {S as T : List AV} {C : List AC} (he : (q + 1) % 2 = 0) (hd : S.drop n = .inr (.inr (.inr (.inr (q + 1)))) :: T) (ha : (S.take n).reverse = as) : ea_cl own (.invokevirtual x) (some (26, mj, n)) S C = some (mj, .inr (.inr (.inr (.inr (q + 1)))) :: as, T, true) := by
  simp only [ea_cl, hd, he, Nat.beq_refl, cond_true, ha]
theorem q_coder (he : (q + 1) % 2 = 0) : pM X N 321 0 (ea_ar 0 [.inr (.inr (.inr (.inr (q + 1))))]) [] M (Vi 0 M) := by
  refine pM_gs rfl rfl rfl ?_
  refine pM_zeq rfl rfl (fun h => absurd h (by decide)) (fun _ => ?_)
  refine pM_aln rfl rfl rfl ?_
  refine pM_g1 he rfl rfl ?_
  refine pM_go rfl rfl ?_
  exact pM_rVi rfl rfl
theorem q_isL (he : (q + 1) % 2 = 0) : pM X N 322 0 (ea_ar 0 [.inr (.inr (.inr (.inr (q + 1))))]) [] M (Vi 1 M) := by
  refine pM_gs rfl rfl rfl ?_
  refine pM_zeq rfl rfl (fun h => absurd h (by decide)) (fun _ => ?_)
  refine pM_aln rfl rfl rfl ?_
  refine pM_g1 he rfl rfl ?_
  refine pM_zne rfl rfl (fun h => absurd rfl h) (fun _ => ?_)
  refine pM_ic rfl (z := 1) (by decide) ?_
  refine pM_go rfl rfl ?_
  exact pM_rVi rfl rfl
theorem sr_0 (x : Int32) : sr x 0 = x := by
  unfold sr
  rw [← Int32.toBitVec_inj]
  simp
theorem q_slen (he : (q + 1) % 2 = 0) : pM X N 319 0 (ea_ar 0 [.inr (.inr (.inr (.inr (q + 1))))]) [] M (Vi (Int32.ofNat (sx_len ((q + 1) / 128))) M) := by
  refine pM_aln rfl rfl rfl ?_
  refine pM_g0 he rfl rfl ?_
  refine pM_bn he rfl ?_
  refine pM_aln rfl rfl rfl ?_
  refine pM_qVi (as := [.inr (.inr (.inr (.inr (q + 1))))]) (T := [.inl (.inl (Int32.ofNat (sx_len ((q + 1) / 128))))]) rfl rfl (fun _ _ => cl_s he rfl rfl) rfl (q_coder he) ?_
  refine pM_shr rfl ?_
  exact pM_rVi rfl (sr_0 _).symm
/-- an index that is in bounds, or nothing -/
theorem q_pre {x y : Int32} : pM X N 325 0 (ea_ar 0 [.inl (.inl x), .inl (.inl y), .inr (.inr (.inr (.inr 0)))]) [] M (Vi x M) := by
  refine pM_w (F2 := [(0, .inl (.inl x)), (1, .inl (.inl y)), (2, .inr (.inr (.inr (.inr 0))))]) (fun L hL => lo_cons (lo_lk hL rfl) (lo_cons (lo_lk hL rfl) (lo_cons (lo_lk hL rfl) lo_nil))) ?_
  refine pM_iln rfl rfl ?_
  have bad : pM X N 325 9 [(0, .inl (.inl x)), (1, .inl (.inl y)), (2, .inr (.inr (.inr (.inr 0))))] [] M (Vi x M) := fun C hC L hL => by
    refine pa_h (i := .aload_n 2) rfl rfl ?_ rfl rfl (fun _ _ _ _ _ e => nomatch e)
    show (match ea_lk L 2 with
      | some a => if ea_isr a = true then some (9 + 1, L, a :: []) else none
      | none => none) = none
    rw [lo_lk hL (show ea_lk [(0, .inl (.inl x)), (1, .inl (.inl y)), (2, .inr (.inr (.inr (.inr 0))))] 2 = some (.inr (.inr (.inr (.inr 0)))) from rfl)]
    rfl
  refine pM_zlt rfl rfl (fun _ => bad) (fun _ => ?_)
  refine pM_iln rfl rfl ?_
  refine pM_iln rfl rfl ?_
  refine pM_clt rfl rfl (fun _ => ?_) (fun _ => bad)
  refine pM_iln rfl rfl ?_
  exact pM_rVi rfl rfl
theorem q_cix {x y : Int32} : pM X N 323 0 (ea_ar 0 [.inl (.inl x), .inl (.inl y)]) [] M (Ru (fun M' => M' = M)) := by
  refine pM_iln rfl rfl ?_
  refine pM_iln rfl rfl ?_
  refine pM_gf rfl rfl ?_
  refine pM_qVi (as := [.inl (.inl x), .inl (.inl y), .inr (.inr (.inr (.inr 0)))]) (T := []) rfl rfl (fun _ _ => rfl) rfl q_pre ?_
  refine pM_p (pc' := 9) (S' := []) rfl rfl (fun _ => rfl) ?_
  exact pM_ru rfl ⟨rfl, rfl⟩
theorem q_lch (he : (q + 1) % 2 = 0) {x : Int32} : pM X N 324 0 (ea_ar 0 [.inr (.inr (.inr (.inr (q + 2)))), .inl (.inl x)]) [] M (Vi (sc (q + 1) x) M) := by
  refine pM_iln rfl rfl ?_
  refine pM_aln rfl rfl rfl ?_
  refine pM_bn he rfl ?_
  refine pM_qRu (as := [.inl (.inl x), .inl (.inl (Int32.ofNat (sx_len ((q + 1) / 128))))]) (T := []) rfl rfl (fun _ _ => rfl) rfl q_cix (fun M' hM => ?_)
  subst hM
  refine pM_aln rfl rfl rfl ?_
  refine pM_iln rfl rfl ?_
  refine pM_bb he rfl ?_
  refine pM_si rfl (z := 255) (by decide) ?_
  refine pM_and rfl ?_
  refine pM_p (pc' := 14) (S' := [.inl (.inl (sc (q + 1) x))]) rfl rfl (fun _ => rfl) ?_
  exact pM_rVi rfl rfl
theorem q_sch (he : (q + 1) % 2 = 0) {x : Int32} : pM X N 320 0 (ea_ar 0 [.inr (.inr (.inr (.inr (q + 1)))), .inl (.inl x)]) [] M (Vi (sc (q + 1) x) M) := by
  refine pM_aln rfl rfl rfl ?_
  refine pM_qVi (as := [.inr (.inr (.inr (.inr (q + 1))))]) (T := []) rfl rfl (fun _ _ => cl_s he rfl rfl) rfl (q_isL he) ?_
  refine pM_zeq rfl rfl (fun h => absurd h (by decide)) (fun _ => ?_)
  refine pM_aln rfl rfl rfl ?_
  refine pM_g0 he rfl rfl ?_
  refine pM_iln rfl rfl ?_
  refine pM_qVi (as := [.inr (.inr (.inr (.inr (q + 2)))), .inl (.inl x)]) (T := []) rfl rfl (fun _ _ => rfl) rfl (q_lch he) ?_
  exact pM_rVi rfl rfl
/-- a String's length, its signs -/
theorem pM_sl {x u : Nat} {T : List AV} (hc : ep_cod (tb_P X) m pc = some (.invokevirtual x, 3)) (hp : ep_pl (tb_P X) m x = some (26, 319, u)) (he : (q + 1) % 2 = 0) (hu : u = 0) (hh : ep_hdl (tb_P X) m = []) (h : pM X N m (pc + 3) F (.inl (.inl (Int32.ofNat (sx_len ((q + 1) / 128)))) :: T) M Q) : pM X N m pc F (.inr (.inr (.inr (.inr (q + 1)))) :: T) M Q := by
  subst hu
  exact pM_qVi (as := [.inr (.inr (.inr (.inr (q + 1))))]) (T := T) (r := some (26, 319, 0)) hc (by simp only [ok_iv, hp]) (fun _ _ => cl_s he rfl rfl) hh (q_slen he) h
theorem pM_sc {x u : Nat} {y : Int32} {T : List AV} (hc : ep_cod (tb_P X) m pc = some (.invokevirtual x, 3)) (hp : ep_pl (tb_P X) m x = some (26, 320, u)) (he : (q + 1) % 2 = 0) (hu : u = 1) (hh : ep_hdl (tb_P X) m = []) (h : pM X N m (pc + 3) F (.inl (.inl (sc (q + 1) y)) :: T) M Q) : pM X N m pc F (.inl (.inl y) :: .inr (.inr (.inr (.inr (q + 1)))) :: T) M Q := by
  subst hu
  exact pM_qVi (as := [.inr (.inr (.inr (.inr (q + 1)))), .inl (.inl y)]) (T := T) (r := some (26, 320, 1)) hc (by simp only [ok_iv, hp]) (fun _ _ => cl_s he rfl rfl) hh (q_sch he) h
end STR
end PMC
end
section
/-! CONSTANTS (gw.py) -/
theorem ki_m8 : Int32.ofInt (Int.negSucc 7) = (-8) := by decide
theorem ki_m1 : Int32.ofInt (Int.negSucc 0) = (-1) := by decide
theorem ki_0 : Int32.ofInt (Int.ofNat 0) = 0 := by decide
theorem ki_1 : Int32.ofInt (Int.ofNat 1) = 1 := by decide
theorem ki_2 : Int32.ofInt (Int.ofNat 2) = 2 := by decide
theorem ki_3 : Int32.ofInt (Int.ofNat 3) = 3 := by decide
theorem ki_4 : Int32.ofInt (Int.ofNat 4) = 4 := by decide
theorem ki_5 : Int32.ofInt (Int.ofNat 5) = 5 := by decide
theorem ki_8 : Int32.ofInt (Int.ofNat 8) = 8 := by decide
theorem ki_16 : Int32.ofInt (Int.ofNat 16) = 16 := by decide
theorem kb_m4 : (Int8.ofInt (Int.negSucc 3)).toInt32 = (-4) := by decide
theorem kb_m3 : (Int8.ofInt (Int.negSucc 2)).toInt32 = (-3) := by decide
theorem kb_m2 : (Int8.ofInt (Int.negSucc 1)).toInt32 = (-2) := by decide
theorem kb_6 : (Int8.ofInt (Int.ofNat 6)).toInt32 = 6 := by decide
theorem kb_7 : (Int8.ofInt (Int.ofNat 7)).toInt32 = 7 := by decide
theorem kb_8 : (Int8.ofInt (Int.ofNat 8)).toInt32 = 8 := by decide
theorem kb_9 : (Int8.ofInt (Int.ofNat 9)).toInt32 = 9 := by decide
theorem kb_10 : (Int8.ofInt (Int.ofNat 10)).toInt32 = 10 := by decide
theorem kb_11 : (Int8.ofInt (Int.ofNat 11)).toInt32 = 11 := by decide
theorem kb_12 : (Int8.ofInt (Int.ofNat 12)).toInt32 = 12 := by decide
theorem kb_13 : (Int8.ofInt (Int.ofNat 13)).toInt32 = 13 := by decide
theorem kb_14 : (Int8.ofInt (Int.ofNat 14)).toInt32 = 14 := by decide
theorem kb_16 : (Int8.ofInt (Int.ofNat 16)).toInt32 = 16 := by decide
theorem kb_18 : (Int8.ofInt (Int.ofNat 18)).toInt32 = 18 := by decide
theorem kb_19 : (Int8.ofInt (Int.ofNat 19)).toInt32 = 19 := by decide
theorem kb_20 : (Int8.ofInt (Int.ofNat 20)).toInt32 = 20 := by decide
theorem kb_21 : (Int8.ofInt (Int.ofNat 21)).toInt32 = 21 := by decide
theorem kb_22 : (Int8.ofInt (Int.ofNat 22)).toInt32 = 22 := by decide
theorem kb_24 : (Int8.ofInt (Int.ofNat 24)).toInt32 = 24 := by decide
theorem kb_30 : (Int8.ofInt (Int.ofNat 30)).toInt32 = 30 := by decide
theorem kb_32 : (Int8.ofInt (Int.ofNat 32)).toInt32 = 32 := by decide
theorem kb_40 : (Int8.ofInt (Int.ofNat 40)).toInt32 = 40 := by decide
theorem kb_41 : (Int8.ofInt (Int.ofNat 41)).toInt32 = 41 := by decide
theorem kb_43 : (Int8.ofInt (Int.ofNat 43)).toInt32 = 43 := by decide
theorem kb_48 : (Int8.ofInt (Int.ofNat 48)).toInt32 = 48 := by decide
theorem kb_50 : (Int8.ofInt (Int.ofNat 50)).toInt32 = 50 := by decide
theorem kb_57 : (Int8.ofInt (Int.ofNat 57)).toInt32 = 57 := by decide
theorem kb_59 : (Int8.ofInt (Int.ofNat 59)).toInt32 = 59 := by decide
theorem kb_60 : (Int8.ofInt (Int.ofNat 60)).toInt32 = 60 := by decide
theorem kb_62 : (Int8.ofInt (Int.ofNat 62)).toInt32 = 62 := by decide
theorem kb_63 : (Int8.ofInt (Int.ofNat 63)).toInt32 = 63 := by decide
theorem kb_64 : (Int8.ofInt (Int.ofNat 64)).toInt32 = 64 := by decide
theorem kb_97 : (Int8.ofInt (Int.ofNat 97)).toInt32 = 97 := by decide
theorem kb_99 : (Int8.ofInt (Int.ofNat 99)).toInt32 = 99 := by decide
theorem kb_100 : (Int8.ofInt (Int.ofNat 100)).toInt32 = 100 := by decide
theorem kb_122 : (Int8.ofInt (Int.ofNat 122)).toInt32 = 122 := by decide
theorem kb_127 : (Int8.ofInt (Int.ofNat 127)).toInt32 = 127 := by decide
theorem ks_148 : (Int16.ofInt (Int.ofNat 148)).toInt32 = 148 := by decide
theorem ks_149 : (Int16.ofInt (Int.ofNat 149)).toInt32 = 149 := by decide
theorem ks_150 : (Int16.ofInt (Int.ofNat 150)).toInt32 = 150 := by decide
theorem ks_151 : (Int16.ofInt (Int.ofNat 151)).toInt32 = 151 := by decide
theorem ks_239 : (Int16.ofInt (Int.ofNat 239)).toInt32 = 239 := by decide
theorem ks_255 : (Int16.ofInt (Int.ofNat 255)).toInt32 = 255 := by decide
theorem ks_256 : (Int16.ofInt (Int.ofNat 256)).toInt32 = 256 := by decide
theorem ks_388 : (Int16.ofInt (Int.ofNat 388)).toInt32 = 388 := by decide
theorem ks_400 : (Int16.ofInt (Int.ofNat 400)).toInt32 = 400 := by decide
theorem ks_999 : (Int16.ofInt (Int.ofNat 999)).toInt32 = 999 := by decide
theorem ks_1000 : (Int16.ofInt (Int.ofNat 1000)).toInt32 = 1000 := by decide
theorem ks_12345 : (Int16.ofInt (Int.ofNat 12345)).toInt32 = 12345 := by decide
theorem ks_32767 : (Int16.ofInt (Int.ofNat 32767)).toInt32 = 32767 := by decide
theorem kn_8 : Int32.ofNat 8 = 8 := by decide
theorem kn_10 : Int32.ofNat 10 = 10 := by decide
theorem kn_12 : Int32.ofNat 12 = 12 := by decide
theorem kn_48 : Int32.ofNat 48 = 48 := by decide
theorem kn_60 : Int32.ofNat 60 = 60 := by decide
theorem kn_133 : Int32.ofNat 133 = 133 := by decide
theorem kn_200 : Int32.ofNat 200 = 200 := by decide
theorem kn_240 : Int32.ofNat 240 = 240 := by decide
theorem kn_400 : Int32.ofNat 400 = 400 := by decide
theorem kn_401 : Int32.ofNat 401 = 401 := by decide
theorem kn_665 : Int32.ofNat 665 = 665 := by decide
theorem kn_800 : Int32.ofNat 800 = 800 := by decide
theorem kn_65536 : Int32.ofNat 65536 = 65536 := by decide
theorem kn_252645135 : Int32.ofNat 252645135 = 252645135 := by decide
theorem kn_858993459 : Int32.ofNat 858993459 = 858993459 := by decide
theorem kn_1103515245 : Int32.ofNat 1103515245 = 1103515245 := by decide
theorem kn_1431655765 : Int32.ofNat 1431655765 = 1431655765 := by decide
end
