/-! PARTIAL RUNS over the memory as two functions: no cell, no list of locals in sight -/
abbrev MM : Type := (Nat → Nat → Int32) × (Nat → Nat → Int64)
def wi (M : MM) (a k : Nat) (x : Int32) : MM := (up M.1 a k x, M.2)
def wj (M : MM) (a k : Nat) (y : Int64) : MM := (M.1, up M.2 a k y)
def cpM (M : MM) (t a b : Nat) : MM := match t with
  | 0 => (fun c j => if c = b then M.1 a j else M.1 c j, M.2)
  | _ => (M.1, fun c j => if c = b then M.2 a j else M.2 c j)
def ni (x : Int32) : Nat := x.toInt.toNat
def sl (x y : Int32) : Int32 := x <<< (y &&& 31)
def sr (x y : Int32) : Int32 := x >>> (y &&& 31)
def su (x y : Int32) : Int32 := (x.toUInt32 >>> (y.toUInt32 &&& Int32.toUInt32 31)).toInt32
def rm (x y : Int32) : Int32 := x - x / y * y
def mx (x y : Int32) : Int32 := if x < y then y else x
def mn (x y : Int32) : Int32 := if y < x then y else x
def ll (x : Int64) (y : Int32) : Int64 := x <<< (y.toInt64 &&& 63)
def lr (x : Int64) (y : Int32) : Int64 := x >>> (y.toInt64 &&& 63)
def lu (x : Int64) (y : Int32) : Int64 := (x.toUInt64 >>> (y.toInt64.toUInt64 &&& Int64.toUInt64 63)).toInt64
def sc (s : Nat) (x : Int32) : Int32 := ((Int32.ofNat (sx_ch (s / 128) (ni x)) &&& 255).toUInt32 % 65536).toInt32
/-- what is known of the locals -/
def lo (L F : List (Nat × AV)) : Prop := ∀ q ∈ F, ea_lk L q.1 = some q.2
theorem lo_nil {L : List (Nat × AV)} : lo L [] := fun _ h => nomatch h
theorem lo_cons {L F : List (Nat × AV)} {k : Nat} {v : AV} (h : ea_lk L k = some v) (h2 : lo L F) : lo L ((k, v) :: F) := fun q hq => by
  rcases List.mem_cons.mp hq with rfl | hq
  · exact h
  · exact h2 q hq
theorem lo_lk {L F : List (Nat × AV)} (h : lo L F) {k : Nat} {v : AV} (hk : ea_lk F k = some v) : ea_lk L k = some v := by
  obtain ⟨n, hn⟩ := ea_lk_mem hk
  exact h (k, v) (List.mem_of_getElem? hn)
theorem lo_s1 {L F : List (Nat × AV)} (h : lo L F) {i : Nat} {a : AV} : lo (ea_s1 L i a) (ea_s1 F i a) := fun q hq => by
  unfold ea_s1 at hq
  rcases List.mem_cons.mp hq with rfl | hq
  · exact lk_s1 L i a
  · obtain ⟨h1, h2⟩ := List.mem_filter.mp hq
    have h3 := lk_filter (f := fun q => !(q.1 == i) && !(q.1 + 1 == i && ea_cat q.2 == 2)) (h q h1) h2
    unfold ea_s1
    show (bif Nat.beq i q.1 then some a else ea_lk (L.filter _) q.1) = some q.2
    have hb : Nat.beq i q.1 = false := by
      cases hb : Nat.beq i q.1 with
      | false => rfl
      | true =>
        have e : i = q.1 := Nat.eq_of_beq_eq_true hb
        subst e
        simp at h2
    rw [hb]
    exact h3
theorem lo_s2 {L F : List (Nat × AV)} (h : lo L F) {i : Nat} {a : AV} : lo (ea_s2 L i a) (ea_s2 F i a) := fun q hq => by
  unfold ea_s2 at hq
  rcases List.mem_cons.mp hq with rfl | hq
  · show (bif Nat.beq i i then some a else _) = some a
    rw [show Nat.beq i i = true from Nat.beq_refl i]
    rfl
  · obtain ⟨h1, h2⟩ := List.mem_filter.mp hq
    have h3 := lk_filter (f := fun q => !(q.1 == i) && (!(q.1 == i + 1) && !(q.1 + 1 == i && ea_cat q.2 == 2))) (h q h1) h2
    unfold ea_s2
    show (bif Nat.beq i q.1 then some a else ea_lk (L.filter _) q.1) = some q.2
    have hb : Nat.beq i q.1 = false := by
      cases hb : Nat.beq i q.1 with
      | false => rfl
      | true =>
        have e : i = q.1 := Nat.eq_of_beq_eq_true hb
        subst e
        simp at h2
    rw [hb]
    exact h3
theorem ar_ge : ∀ (as : List AV) (i : Nat) (q : Nat × AV), q ∈ ea_ar i as → i ≤ q.1
  | [], i, q, h => nomatch h
  | a :: t, i, q, h => by
    unfold ea_ar at h
    rcases List.mem_cons.mp h with rfl | h
    · exact Nat.le_refl _
    · have := ar_ge t _ q h
      split at this <;> omega
theorem lo_ar : ∀ (as : List AV) (i : Nat), lo (ea_ar i as) (ea_ar i as)
  | [], i => lo_nil
  | a :: t, i => by
    intro q hq
    unfold ea_ar at hq
    rcases List.mem_cons.mp hq with rfl | hq
    · show (bif Nat.beq i i then some a else _) = some a
      rw [show Nat.beq i i = true from Nat.beq_refl i]
      rfl
    · have h1 := ar_ge t _ q hq
      have h2 := lo_ar t _ q hq
      show (bif Nat.beq i q.1 then some a else ea_lk (ea_ar (if ea_cat a = 2 then i + 2 else i + 1) t) q.1) = some q.2
      have hb : Nat.beq i q.1 = false := by
        cases hb : Nat.beq i q.1 with
        | false => rfl
        | true =>
          have e : i = q.1 := Nat.eq_of_beq_eq_true hb
          split at h1 <;> omega
      rw [hb]
      exact h2
abbrev RT : Type := Option AV ⊕ Nat → MM → Prop
def pM (X : Option (List AI)) (N m pc : Nat) (F : List (Nat × AV)) (S : List AV) (M : MM) (Q : RT) : Prop := ∀ C, mm tb_G M.1 M.2 C → ∀ L, lo L F → pa (tb_P X) N m pc L S C (fun o C' => ∃ M', mm tb_G M'.1 M'.2 C' ∧ Q o M')
def pMs (X : Option (List AI)) (N m pc : Nat) (F : List (Nat × AV)) (S : List AV) (M : MM) (Q : RT) : Prop := ∀ C, mm tb_G M.1 M.2 C → ∀ L, lo L F → pb (tb_P X) N m pc L S C (fun o C' => ∃ M', mm tb_G M'.1 M'.2 C' ∧ Q o M')
/-- what a method gives -/
def Ri (Q : Int32 → MM → Prop) : RT := fun o M => ∃ x, o = .inl (some (.inl (.inl x))) ∧ Q x M
def Rl (Q : Int64 → MM → Prop) : RT := fun o M => ∃ y, o = .inl (some (.inr (.inr (.inl (some y))))) ∧ Q y M
def Ru (Q : MM → Prop) : RT := fun o M => o = .inl none ∧ Q M
def Re (R : RT) (E : Nat → MM → Prop) : RT := fun o M => R o M ∨ ∃ ce, o = .inr ce ∧ E ce M
def Pi (Q : Int32 → Prop) (M0 : MM) : RT := Ri (fun x M => M = M0 ∧ Q x)
def Pl (Q : Int64 → Prop) (M0 : MM) : RT := Rl (fun x M => M = M0 ∧ Q x)
def Pu (Q : Prop) (M0 : MM) : RT := Ru (fun M => M = M0 ∧ Q)
def Pe (R : RT) (E : Nat → Prop) (M0 : MM) : RT := Re R (fun ce M => M = M0 ∧ E ce)
def Vi (x : Int32) (M0 : MM) : RT := fun o M => o = .inl (some (.inl (.inl x))) ∧ M = M0
def Vl (x : Int64) (M0 : MM) : RT := fun o M => o = .inl (some (.inr (.inr (.inl (some x))))) ∧ M = M0
theorem ck_ge {x y : Int32} : ea_ck .ge x y = !decide (x < y) := by
  show decide (y ≤ x) = !decide (x < y)
  by_cases h : x < y
  · have h2 : ¬ y ≤ x := by rw [Int32.le_iff_toInt_le]; rw [Int32.lt_iff_toInt_lt] at h; omega
    rw [decide_eq_true h, decide_eq_false h2]; rfl
  · have h2 : y ≤ x := by rw [Int32.le_iff_toInt_le]; rw [Int32.lt_iff_toInt_lt] at h; omega
    rw [decide_eq_false h, decide_eq_true h2]; rfl
theorem ck_le {x y : Int32} : ea_ck .le x y = !decide (y < x) := ck_ge (x := y) (y := x)
section PMR
variable {X : Option (List AI)} {N m pc : Nat} {F : List (Nat × AV)} {S : List AV} {M : MM} {Q : RT}
theorem pM_zero : pM X 0 m pc F S M Q := fun _ _ _ _ => pa_zero
theorem pM_s (h : pMs X N m pc F S M Q) : pM X (N + 1) m pc F S M Q := fun C hC L hL => pa_succ (h C hC L hL)
theorem pM_b (h : pMs X N m pc F S M Q) : pM X N m pc F S M Q := fun C hC L hL => pa_b (h C hC L hL)
theorem pM_le {N' : Nat} (hN : N' ≤ N) (h : pM X N m pc F S M Q) : pM X N' m pc F S M Q := fun C hC L hL => pa_le (h C hC L hL) hN
theorem pM_post {Q' : RT} (h : pM X N m pc F S M Q) (hQ : ∀ o M', Q o M' → Q' o M') : pM X N m pc F S M Q' := fun C hC L hL => pa_post (h C hC L hL) (fun o C' ⟨M', h1, h2⟩ => ⟨M', h1, hQ o M' h2⟩)
theorem pM_w {F2 : List (Nat × AV)} (hw : ∀ L, lo L F → lo L F2) (h : pM X N m pc F2 S M Q) : pM X N m pc F S M Q := fun C hC L hL => h C hC L (hw L hL)
theorem pMs_p {i : Instr} {len pc' : Nat} {S' : List AV} (hc : ep_cod (tb_P X) m pc = some (i, len)) (hl : (Nat.beq (ea_len i) 0 || Nat.beq (ea_len i) len) = true) (hp : ∀ L, lo L F → ea_p i pc (ep_nls (tb_P X) m) L S = some (pc', L, S')) (h : pM X N m pc' F S' M Q) : pMs X N m pc F S M Q := fun C hC L hL => pb_p hc hl (hp L hL) (h C hC L hL)
theorem pM_p {i : Instr} {len pc' : Nat} {S' : List AV} (hc : ep_cod (tb_P X) m pc = some (i, len)) (hl : (Nat.beq (ea_len i) 0 || Nat.beq (ea_len i) len) = true) (hp : ∀ L, ea_p i pc (ep_nls (tb_P X) m) L S = some (pc', L, S')) (h : pM X N m pc' F S' M Q) : pM X N m pc F S M Q := pM_b (pMs_p hc hl (fun L _ => hp L) h)
/-- loads -/
theorem pMs_iln {k : Fin 4} {a : AI} (hc : ep_cod (tb_P X) m pc = some (.iload_n k, 1)) (hk : ea_lk F k = some (.inl a)) (h : pM X N m (pc + 1) F (.inl a :: S) M Q) : pMs X N m pc F S M Q :=
  pMs_p hc rfl (fun L hL => by
    show (match ea_lk L k with
      | some (Sum.inl a : AV) => some (pc + 1, L, (Sum.inl a : AV) :: S)
      | _ => none) = _
    rw [lo_lk hL hk]) h
theorem pMs_il {k : Nat} {a : AI} (hc : ep_cod (tb_P X) m pc = some (.iload k, 2)) (hk : ea_lk F k = some (.inl a)) (h : pM X N m (pc + 2) F (.inl a :: S) M Q) : pMs X N m pc F S M Q :=
  pMs_p hc rfl (fun L hL => by
    show (match ea_lk L k with
      | some (Sum.inl a : AV) => some (pc + 2, L, (Sum.inl a : AV) :: S)
      | _ => none) = _
    rw [lo_lk hL hk]) h
theorem pMs_lln {k : Fin 4} {a : Option Int64} (hc : ep_cod (tb_P X) m pc = some (.lload_n k, 1)) (hk : ea_lk F k = some (.inr (.inr (.inl a)))) (h : pM X N m (pc + 1) F (.inr (.inr (.inl a)) :: S) M Q) : pMs X N m pc F S M Q :=
  pMs_p hc rfl (fun L hL => by
    show (match ea_lk L k with
      | some (Sum.inr (Sum.inr (Sum.inl a)) : AV) => some (pc + 1, L, (Sum.inr (Sum.inr (Sum.inl a)) : AV) :: S)
      | _ => none) = _
    rw [lo_lk hL hk]) h
theorem pMs_ll {k : Nat} {a : Option Int64} (hc : ep_cod (tb_P X) m pc = some (.lload k, 2)) (hk : ea_lk F k = some (.inr (.inr (.inl a)))) (h : pM X N m (pc + 2) F (.inr (.inr (.inl a)) :: S) M Q) : pMs X N m pc F S M Q :=
  pMs_p hc rfl (fun L hL => by
    show (match ea_lk L k with
      | some (Sum.inr (Sum.inr (Sum.inl a)) : AV) => some (pc + 2, L, (Sum.inr (Sum.inr (Sum.inl a)) : AV) :: S)
      | _ => none) = _
    rw [lo_lk hL hk]) h
theorem pMs_aln {k : Fin 4} {a : AV} (hc : ep_cod (tb_P X) m pc = some (.aload_n k, 1)) (hk : ea_lk F k = some a) (hr : ea_isr a = true) (h : pM X N m (pc + 1) F (a :: S) M Q) : pMs X N m pc F S M Q :=
  pMs_p hc rfl (fun L hL => by
    show (match ea_lk L k with
      | some a => if ea_isr a = true then some (pc + 1, L, a :: S) else none
      | none => none) = _
    rw [lo_lk hL hk]
    exact if_pos hr) h
theorem pMs_al {k : Nat} {a : AV} (hc : ep_cod (tb_P X) m pc = some (.aload k, 2)) (hk : ea_lk F k = some a) (hr : ea_isr a = true) (h : pM X N m (pc + 2) F (a :: S) M Q) : pMs X N m pc F S M Q :=
  pMs_p hc rfl (fun L hL => by
    show (match ea_lk L k with
      | some a => if ea_isr a = true then some (pc + 2, L, a :: S) else none
      | none => none) = _
    rw [lo_lk hL hk]
    exact if_pos hr) h
theorem pM_iln {k : Fin 4} {a : AI} (hc : ep_cod (tb_P X) m pc = some (.iload_n k, 1)) (hk : ea_lk F k = some (.inl a)) (h : pM X N m (pc + 1) F (.inl a :: S) M Q) : pM X N m pc F S M Q := pM_b (pMs_iln hc hk h)
theorem pM_il {k : Nat} {a : AI} (hc : ep_cod (tb_P X) m pc = some (.iload k, 2)) (hk : ea_lk F k = some (.inl a)) (h : pM X N m (pc + 2) F (.inl a :: S) M Q) : pM X N m pc F S M Q := pM_b (pMs_il hc hk h)
theorem pM_lln {k : Fin 4} {a : Option Int64} (hc : ep_cod (tb_P X) m pc = some (.lload_n k, 1)) (hk : ea_lk F k = some (.inr (.inr (.inl a)))) (h : pM X N m (pc + 1) F (.inr (.inr (.inl a)) :: S) M Q) : pM X N m pc F S M Q := pM_b (pMs_lln hc hk h)
theorem pM_ll {k : Nat} {a : Option Int64} (hc : ep_cod (tb_P X) m pc = some (.lload k, 2)) (hk : ea_lk F k = some (.inr (.inr (.inl a)))) (h : pM X N m (pc + 2) F (.inr (.inr (.inl a)) :: S) M Q) : pM X N m pc F S M Q := pM_b (pMs_ll hc hk h)
theorem pM_aln {k : Fin 4} {a : AV} (hc : ep_cod (tb_P X) m pc = some (.aload_n k, 1)) (hk : ea_lk F k = some a) (hr : ea_isr a = true) (h : pM X N m (pc + 1) F (a :: S) M Q) : pM X N m pc F S M Q := pM_b (pMs_aln hc hk hr h)
theorem pM_al {k : Nat} {a : AV} (hc : ep_cod (tb_P X) m pc = some (.aload k, 2)) (hk : ea_lk F k = some a) (hr : ea_isr a = true) (h : pM X N m (pc + 2) F (a :: S) M Q) : pM X N m pc F S M Q := pM_b (pMs_al hc hk hr h)
/-- stores -/
theorem pM_isn {k : Fin 4} {a : AI} (hc : ep_cod (tb_P X) m pc = some (.istore_n k, 1)) (hb : Nat.blt k (ep_nls (tb_P X) m) = true) (h : pM X N m (pc + 1) (ea_s1 F k (.inl a)) S M Q) : pM X N m pc F (.inl a :: S) M Q := fun C hC L hL =>
  pa_p (pc' := pc + 1) (L' := ea_s1 L k (.inl a)) (S' := S) hc rfl (show (if (k : Nat) < ep_nls (tb_P X) m then some (pc + 1, ea_s1 L k (.inl a), S) else none) = _ from if_pos (blt_lt hb)) (h C hC _ (lo_s1 hL))
theorem pM_is {k : Nat} {a : AI} (hc : ep_cod (tb_P X) m pc = some (.istore k, 2)) (hb : Nat.blt k (ep_nls (tb_P X) m) = true) (h : pM X N m (pc + 2) (ea_s1 F k (.inl a)) S M Q) : pM X N m pc F (.inl a :: S) M Q := fun C hC L hL =>
  pa_p (pc' := pc + 2) (L' := ea_s1 L k (.inl a)) (S' := S) hc rfl (show (if k < ep_nls (tb_P X) m then some (pc + 2, ea_s1 L k (.inl a), S) else none) = _ from if_pos (blt_lt hb)) (h C hC _ (lo_s1 hL))
theorem pM_lsn {k : Fin 4} {a : Option Int64} (hc : ep_cod (tb_P X) m pc = some (.lstore_n k, 1)) (hb : Nat.blt (k + 1) (ep_nls (tb_P X) m) = true) (h : pM X N m (pc + 1) (ea_s2 F k (.inr (.inr (.inl a)))) S M Q) : pM X N m pc F (.inr (.inr (.inl a)) :: S) M Q := fun C hC L hL =>
  pa_p (pc' := pc + 1) (L' := ea_s2 L k (.inr (.inr (.inl a)))) (S' := S) hc rfl (show (if (k : Nat) + 1 < ep_nls (tb_P X) m then some (pc + 1, ea_s2 L k (.inr (.inr (.inl a))), S) else none) = _ from if_pos (blt_lt hb)) (h C hC _ (lo_s2 hL))
theorem pM_ls {k : Nat} {a : Option Int64} (hc : ep_cod (tb_P X) m pc = some (.lstore k, 2)) (hb : Nat.blt (k + 1) (ep_nls (tb_P X) m) = true) (h : pM X N m (pc + 2) (ea_s2 F k (.inr (.inr (.inl a)))) S M Q) : pM X N m pc F (.inr (.inr (.inl a)) :: S) M Q := fun C hC L hL =>
  pa_p (pc' := pc + 2) (L' := ea_s2 L k (.inr (.inr (.inl a)))) (S' := S) hc rfl (show (if k + 1 < ep_nls (tb_P X) m then some (pc + 2, ea_s2 L k (.inr (.inr (.inl a))), S) else none) = _ from if_pos (blt_lt hb)) (h C hC _ (lo_s2 hL))
theorem pM_ii {k : Nat} {n : Int} {x z : Int32} (hc : ep_cod (tb_P X) m pc = some (.iinc k n, 3)) (hk : ea_lk F k = some (.inl (.inl x))) (hb : Nat.blt k (ep_nls (tb_P X) m) = true) (hz : Int32.ofInt n = z) (h : pM X N m (pc + 3) (ea_s1 F k (.inl (.inl (x + z)))) S M Q) : pM X N m pc F S M Q := fun C hC L hL =>
  pa_p (pc' := pc + 3) (L' := ea_s1 L k (.inl (.inl (x + z)))) (S' := S) hc rfl (by
    show (match ea_lk L k with
      | some (Sum.inl a : AV) => if k < ep_nls (tb_P X) m then some (pc + 3, ea_s1 L k (.inl (iv_2 (fun x y => x + y) iv_addg a (.inl (Int32.ofInt n)))), S) else none
      | _ => none) = _
    rw [lo_lk hL hk, hz]
    exact if_pos (blt_lt hb)) (h C hC _ (lo_s1 hL))
/-- constants -/
theorem pM_ic {n : Int} {z : Int32} (hc : ep_cod (tb_P X) m pc = some (.iconst n, 1)) (hz : Int32.ofInt n = z) (h : pM X N m (pc + 1) F (.inl (.inl z) :: S) M Q) : pM X N m pc F S M Q := by
  subst hz
  exact pM_p hc rfl (fun _ => rfl) h
theorem pM_bi {n : Int} {z : Int32} (hc : ep_cod (tb_P X) m pc = some (.bipush n, 2)) (hz : (Int8.ofInt n).toInt32 = z) (h : pM X N m (pc + 2) F (.inl (.inl z) :: S) M Q) : pM X N m pc F S M Q := by
  subst hz
  exact pM_p hc rfl (fun _ => rfl) h
theorem pM_si {n : Int} {z : Int32} (hc : ep_cod (tb_P X) m pc = some (.sipush n, 3)) (hz : (Int16.ofInt n).toInt32 = z) (h : pM X N m (pc + 3) F (.inl (.inl z) :: S) M Q) : pM X N m pc F S M Q := by
  subst hz
  exact pM_p hc rfl (fun _ => rfl) h
theorem pM_lc {n : Fin 2} (hc : ep_cod (tb_P X) m pc = some (.lconst n, 1)) (h : pM X N m (pc + 1) F (.inr (.inr (.inl (some (Int64.ofNat n)))) :: S) M Q) : pM X N m pc F S M Q := pM_p hc rfl (fun _ => rfl) h
/-! ints -/
section INTS
variable {x y : Int32}
theorem pM_add (hc : ep_cod (tb_P X) m pc = some (.iadd, 1)) (h : pM X N m (pc + 1) F (.inl (.inl (x + y)) :: S) M Q) : pM X N m pc F (.inl (.inl y) :: .inl (.inl x) :: S) M Q := pM_p hc rfl (fun _ => rfl) h
theorem pM_sub (hc : ep_cod (tb_P X) m pc = some (.isub, 1)) (h : pM X N m (pc + 1) F (.inl (.inl (x - y)) :: S) M Q) : pM X N m pc F (.inl (.inl y) :: .inl (.inl x) :: S) M Q := pM_p hc rfl (fun _ => rfl) h
theorem pM_mul (hc : ep_cod (tb_P X) m pc = some (.imul, 1)) (h : pM X N m (pc + 1) F (.inl (.inl (x * y)) :: S) M Q) : pM X N m pc F (.inl (.inl y) :: .inl (.inl x) :: S) M Q := pM_p hc rfl (fun _ => rfl) h
theorem pM_and (hc : ep_cod (tb_P X) m pc = some (.iand, 1)) (h : pM X N m (pc + 1) F (.inl (.inl (x &&& y)) :: S) M Q) : pM X N m pc F (.inl (.inl y) :: .inl (.inl x) :: S) M Q := pM_p hc rfl (fun _ => rfl) h
theorem pM_or (hc : ep_cod (tb_P X) m pc = some (.ior, 1)) (h : pM X N m (pc + 1) F (.inl (.inl (x ||| y)) :: S) M Q) : pM X N m pc F (.inl (.inl y) :: .inl (.inl x) :: S) M Q := pM_p hc rfl (fun _ => rfl) h
theorem pM_xor (hc : ep_cod (tb_P X) m pc = some (.ixor, 1)) (h : pM X N m (pc + 1) F (.inl (.inl (x ^^^ y)) :: S) M Q) : pM X N m pc F (.inl (.inl y) :: .inl (.inl x) :: S) M Q := pM_p hc rfl (fun _ => rfl) h
theorem pM_shl (hc : ep_cod (tb_P X) m pc = some (.ishl, 1)) (h : pM X N m (pc + 1) F (.inl (.inl (sl x y)) :: S) M Q) : pM X N m pc F (.inl (.inl y) :: .inl (.inl x) :: S) M Q := pM_p hc rfl (fun _ => rfl) h
theorem pM_shr (hc : ep_cod (tb_P X) m pc = some (.ishr, 1)) (h : pM X N m (pc + 1) F (.inl (.inl (sr x y)) :: S) M Q) : pM X N m pc F (.inl (.inl y) :: .inl (.inl x) :: S) M Q := pM_p hc rfl (fun _ => rfl) h
theorem pM_ushr (hc : ep_cod (tb_P X) m pc = some (.iushr, 1)) (h : pM X N m (pc + 1) F (.inl (.inl (su x y)) :: S) M Q) : pM X N m pc F (.inl (.inl y) :: .inl (.inl x) :: S) M Q := pM_p hc rfl (fun _ => rfl) h
theorem pM_neg (hc : ep_cod (tb_P X) m pc = some (.ineg, 1)) (h : pM X N m (pc + 1) F (.inl (.inl (-x)) :: S) M Q) : pM X N m pc F (.inl (.inl x) :: S) M Q := pM_p hc rfl (fun _ => rfl) h
theorem pM_div (hc : ep_cod (tb_P X) m pc = some (.idiv, 1)) (h : pM X N m (pc + 1) F (.inl (.inl (x / y)) :: S) M Q) : pM X N m pc F (.inl (.inl y) :: .inl (.inl x) :: S) M Q := fun C hC L hL => by
  by_cases hz : iv_nz (.inl y) = true
  · exact pa_p (pc' := pc + 1) (L' := L) (S' := .inl (.inl (x / y)) :: S) hc rfl (show (if iv_nz (.inl y) = true then some (pc + 1, L, .inl (.inl (x / y)) :: S) else none) = _ from if_pos hz) (h C hC L hL)
  · exact pa_h hc rfl (show (if iv_nz (.inl y) = true then some (pc + 1, L, .inl (.inl (x / y)) :: S) else none) = _ from if_neg hz) rfl rfl (fun _ _ _ _ _ e => nomatch e)
theorem pM_rem (hc : ep_cod (tb_P X) m pc = some (.irem, 1)) (h : pM X N m (pc + 1) F (.inl (.inl (rm x y)) :: S) M Q) : pM X N m pc F (.inl (.inl y) :: .inl (.inl x) :: S) M Q := fun C hC L hL => by
  by_cases hz : iv_nz (.inl y) = true
  · exact pa_p (pc' := pc + 1) (L' := L) (S' := .inl (.inl (rm x y)) :: S) hc rfl (show (if iv_nz (.inl y) = true then some (pc + 1, L, .inl (.inl (rm x y)) :: S) else none) = _ from if_pos hz) (h C hC L hL)
  · exact pa_h hc rfl (show (if iv_nz (.inl y) = true then some (pc + 1, L, .inl (.inl (rm x y)) :: S) else none) = _ from if_neg hz) rfl rfl (fun _ _ _ _ _ e => nomatch e)
end INTS
/-! branches -/
section BRS
variable {x y : Int32} {off : Int} {t : Nat}
theorem pM_bc {c : Jvm.ClassFile.Cond} (hc : ep_cod (tb_P X) m pc = some (.if_icmp c off, 3)) (ht : ea_to pc off = some t) (h1 : ea_ck c x y = true → pM X N m t F S M Q) (h2 : ea_ck c x y = false → pM X N m (pc + 3) F S M Q) : pM X N m pc F (.inl (.inl y) :: .inl (.inl x) :: S) M Q := fun C hC L hL => pa_ic hc ht (fun h => h1 h C hC L hL) (fun h => h2 h C hC L hL)
theorem pM_bz {c : Jvm.ClassFile.Cond} (hc : ep_cod (tb_P X) m pc = some (.ifCond c off, 3)) (ht : ea_to pc off = some t) (h1 : ea_ck c x 0 = true → pM X N m t F S M Q) (h2 : ea_ck c x 0 = false → pM X N m (pc + 3) F S M Q) : pM X N m pc F (.inl (.inl x) :: S) M Q := fun C hC L hL => pa_if hc ht (fun h => h1 h C hC L hL) (fun h => h2 h C hC L hL)
theorem pM_ceq (hc : ep_cod (tb_P X) m pc = some (.if_icmp .eq off, 3)) (ht : ea_to pc off = some t) (h1 : x = y → pM X N m t F S M Q) (h2 : ¬ x = y → pM X N m (pc + 3) F S M Q) : pM X N m pc F (.inl (.inl y) :: .inl (.inl x) :: S) M Q := pM_bc hc ht (fun h => h1 (of_decide_eq_true h)) (fun h => h2 (of_decide_eq_false h))
theorem pM_cne (hc : ep_cod (tb_P X) m pc = some (.if_icmp .ne off, 3)) (ht : ea_to pc off = some t) (h1 : ¬ x = y → pM X N m t F S M Q) (h2 : x = y → pM X N m (pc + 3) F S M Q) : pM X N m pc F (.inl (.inl y) :: .inl (.inl x) :: S) M Q := pM_bc hc ht (fun h => h1 (by have : (!decide (x = y)) = true := h; simpa using this)) (fun h => h2 (by have : (!decide (x = y)) = false := h; simpa using this))
theorem pM_clt (hc : ep_cod (tb_P X) m pc = some (.if_icmp .lt off, 3)) (ht : ea_to pc off = some t) (h1 : x < y → pM X N m t F S M Q) (h2 : ¬ x < y → pM X N m (pc + 3) F S M Q) : pM X N m pc F (.inl (.inl y) :: .inl (.inl x) :: S) M Q := pM_bc hc ht (fun h => h1 (of_decide_eq_true h)) (fun h => h2 (of_decide_eq_false h))
theorem pM_cge (hc : ep_cod (tb_P X) m pc = some (.if_icmp .ge off, 3)) (ht : ea_to pc off = some t) (h1 : ¬ x < y → pM X N m t F S M Q) (h2 : x < y → pM X N m (pc + 3) F S M Q) : pM X N m pc F (.inl (.inl y) :: .inl (.inl x) :: S) M Q := pM_bc hc ht (fun h => h1 (by rw [ck_ge] at h; simpa using h)) (fun h => h2 (by rw [ck_ge] at h; simpa using h))
theorem pM_cgt (hc : ep_cod (tb_P X) m pc = some (.if_icmp .gt off, 3)) (ht : ea_to pc off = some t) (h1 : y < x → pM X N m t F S M Q) (h2 : ¬ y < x → pM X N m (pc + 3) F S M Q) : pM X N m pc F (.inl (.inl y) :: .inl (.inl x) :: S) M Q := pM_bc hc ht (fun h => h1 (of_decide_eq_true h)) (fun h => h2 (of_decide_eq_false h))
theorem pM_cle (hc : ep_cod (tb_P X) m pc = some (.if_icmp .le off, 3)) (ht : ea_to pc off = some t) (h1 : ¬ y < x → pM X N m t F S M Q) (h2 : y < x → pM X N m (pc + 3) F S M Q) : pM X N m pc F (.inl (.inl y) :: .inl (.inl x) :: S) M Q := pM_bc hc ht (fun h => h1 (by rw [ck_le] at h; simpa using h)) (fun h => h2 (by rw [ck_le] at h; simpa using h))
theorem pM_zeq (hc : ep_cod (tb_P X) m pc = some (.ifCond .eq off, 3)) (ht : ea_to pc off = some t) (h1 : x = 0 → pM X N m t F S M Q) (h2 : ¬ x = 0 → pM X N m (pc + 3) F S M Q) : pM X N m pc F (.inl (.inl x) :: S) M Q := pM_bz hc ht (fun h => h1 (of_decide_eq_true h)) (fun h => h2 (of_decide_eq_false h))
theorem pM_zne (hc : ep_cod (tb_P X) m pc = some (.ifCond .ne off, 3)) (ht : ea_to pc off = some t) (h1 : ¬ x = 0 → pM X N m t F S M Q) (h2 : x = 0 → pM X N m (pc + 3) F S M Q) : pM X N m pc F (.inl (.inl x) :: S) M Q := pM_bz hc ht (fun h => h1 (by have : (!decide (x = 0)) = true := h; simpa using this)) (fun h => h2 (by have : (!decide (x = 0)) = false := h; simpa using this))
theorem pM_zlt (hc : ep_cod (tb_P X) m pc = some (.ifCond .lt off, 3)) (ht : ea_to pc off = some t) (h1 : x < 0 → pM X N m t F S M Q) (h2 : ¬ x < 0 → pM X N m (pc + 3) F S M Q) : pM X N m pc F (.inl (.inl x) :: S) M Q := pM_bz hc ht (fun h => h1 (of_decide_eq_true h)) (fun h => h2 (of_decide_eq_false h))
theorem pM_zge (hc : ep_cod (tb_P X) m pc = some (.ifCond .ge off, 3)) (ht : ea_to pc off = some t) (h1 : ¬ x < 0 → pM X N m t F S M Q) (h2 : x < 0 → pM X N m (pc + 3) F S M Q) : pM X N m pc F (.inl (.inl x) :: S) M Q := pM_bz hc ht (fun h => h1 (by rw [ck_ge] at h; simpa using h)) (fun h => h2 (by rw [ck_ge] at h; simpa using h))
theorem pM_zgt (hc : ep_cod (tb_P X) m pc = some (.ifCond .gt off, 3)) (ht : ea_to pc off = some t) (h1 : 0 < x → pM X N m t F S M Q) (h2 : ¬ 0 < x → pM X N m (pc + 3) F S M Q) : pM X N m pc F (.inl (.inl x) :: S) M Q := pM_bz hc ht (fun h => h1 (of_decide_eq_true h)) (fun h => h2 (of_decide_eq_false h))
theorem pM_zle (hc : ep_cod (tb_P X) m pc = some (.ifCond .le off, 3)) (ht : ea_to pc off = some t) (h1 : ¬ 0 < x → pM X N m t F S M Q) (h2 : 0 < x → pM X N m (pc + 3) F S M Q) : pM X N m pc F (.inl (.inl x) :: S) M Q := pM_bz hc ht (fun h => h1 (by rw [ck_le] at h; simpa using h)) (fun h => h2 (by rw [ck_le] at h; simpa using h))
theorem pM_go (hc : ep_cod (tb_P X) m pc = some (.goto off, 3)) (ht : ea_to pc off = some t) (h : pM X N m t F S M Q) : pM X N m pc F S M Q := pM_p (pc' := t) (S' := S) hc rfl (fun L => by
  show (match ea_to pc off with
    | some t => some (t, L, S)
    | none => none) = _
  rw [ht]) h
theorem pM_sw {d lo hi : Int} {offs : Array Int} {len : Nat} (hc : ep_cod (tb_P X) m pc = some (.tableswitch d lo hi offs, len)) (ht : ea_to pc d = some t) (hd : (x.toInt < lo ∨ hi < x.toInt) → pM X N m t F S M Q) (hj : ∀ (j : Nat) (o : Int) (t' : Nat), x.toInt = lo + j → offs.toList[j]? = some o → ea_to pc o = some t' → pM X N m t' F S M Q) : pM X N m pc F (.inl (.inl x) :: S) M Q := fun C hC L hL => by
  have e : ea_sw d lo hi offs (.inl x) = if x.toInt < lo then some d else if hi < x.toInt then some d else if ¬ x.toInt < lo ∧ ¬ hi < x.toInt then offs.toList[(x.toInt - lo).toNat]? else none := rfl
  have ep : ea_p (.tableswitch d lo hi offs) pc (ep_nls (tb_P X) m) L (.inl (.inl x) :: S) = match ea_sw d lo hi offs (.inl x) with
      | some off => match ea_to pc off with
        | some t => some (t, L, S)
        | none => none
      | none => none := rfl
  by_cases h1 : x.toInt < lo
  · rw [if_pos h1] at e
    exact pa_p (pc' := t) (L' := L) (S' := S) hc rfl (by rw [ep, e]; dsimp only; rw [ht]) (hd (Or.inl h1) C hC L hL)
  · rw [if_neg h1] at e
    by_cases h2 : hi < x.toInt
    · rw [if_pos h2] at e
      exact pa_p (pc' := t) (L' := L) (S' := S) hc rfl (by rw [ep, e]; dsimp only; rw [ht]) (hd (Or.inr h2) C hC L hL)
    · rw [if_neg h2, if_pos ⟨h1, h2⟩] at e
      cases ho : offs.toList[(x.toInt - lo).toNat]? with
      | none =>
        rw [ho] at e
        exact pa_h hc rfl (by rw [ep, e]) rfl rfl (fun _ _ _ _ _ e => nomatch e)
      | some o =>
        rw [ho] at e
        cases hto : ea_to pc o with
        | none => exact pa_h hc rfl (by rw [ep, e]; dsimp only; rw [hto]) rfl rfl (fun _ _ _ _ _ e => nomatch e)
        | some t' => exact pa_p (pc' := t') (L' := L) (S' := S) hc rfl (by rw [ep, e]; dsimp only; rw [hto]) (hj _ o t' (by omega) ho hto C hC L hL)
end BRS
/-! memory -/
section MEM
variable {a : Nat}
theorem pM_gi {x ci k : Nat} {fs : List FT} {q : Int × Int} (hc : ep_cod (tb_P X) m pc = some (.getfield x, 3)) (hr : ea_rd (ep_pl (tb_P X) m x) = some (ci, k)) (hG : tb_G a = some (.inl (ci, fs))) (hf : ea_nt fs k = some (.inl q)) (h : pM X N m (pc + 3) F (.inl (.inl (M.1 a k)) :: S) M Q) : pM X N m pc F (.inr (.inl (some a)) :: S) M Q := fun C hC L hL => by
  obtain ⟨vs, v1, -, v3⟩ := hC.1 a ci fs hG
  refine pa_h hc rfl rfl rfl rfl (fun pc' S' C' dk dw e => ?_)
  simp only [ea_h, hr, v1, Nat.beq_refl, cond_true, v3 k _ hf] at e
  cases e
  exact h C hC L hL
theorem pM_gr {x ci k b : Nat} {fs : List FT} (hc : ep_cod (tb_P X) m pc = some (.getfield x, 3)) (hr : ea_rd (ep_pl (tb_P X) m x) = some (ci, k)) (hG : tb_G a = some (.inl (ci, fs))) (hf : ea_nt fs k = some (.inr b)) (h : pM X N m (pc + 3) F (.inr (.inl (some b)) :: S) M Q) : pM X N m pc F (.inr (.inl (some a)) :: S) M Q := fun C hC L hL => by
  obtain ⟨vs, v1, -, v3⟩ := hC.1 a ci fs hG
  refine pa_h hc rfl rfl rfl rfl (fun pc' S' C' dk dw e => ?_)
  simp only [ea_h, hr, v1, Nat.beq_refl, cond_true, v3 k _ hf] at e
  cases e
  exact h C hC L hL
theorem pM_pi {x ci k : Nat} {fs : List FT} {q : Int × Int} {z : Int32} (hc : ep_cod (tb_P X) m pc = some (.putfield x, 3)) (hr : ea_wr (ep_ini (tb_P X) m) (ep_pl (tb_P X) m x) = some (ci, k)) (hG : tb_G a = some (.inl (ci, fs))) (hf : ea_nt fs k = some (.inl q)) (h : pM X N m (pc + 3) F S (wi M a k z) Q) : pM X N m pc F (.inl (.inl z) :: .inr (.inl (some a)) :: S) M Q := fun C hC L hL => by
  obtain ⟨vs, v1, -, -⟩ := hC.1 a ci fs hG
  refine pa_h hc rfl rfl rfl rfl (fun pc' S' C' dk dw e => ?_)
  simp only [ea_h, hr, v1, Nat.beq_refl, Bool.true_and] at e
  cases hb : (ea_fit (ep_fty (tb_P X) ci k) (.inl (.inl z)) && Nat.blt k vs.length) with
  | false => rw [hb] at e; cases e
  | true =>
    rw [hb] at e
    cases e
    exact h _ (mm_pf hC hG hf v1 z) L hL
theorem ni_j {x : Int32} {j : Nat} (h : x.toInt = (j : Int)) : ni x = j := by unfold ni; omega
theorem pM_ai {n p : Nat} {fs : List FT} {x : Int32} (hc : ep_cod (tb_P X) m pc = some (.iaload, 1)) (hG : tb_G a = some (.inr (0, n, p, fs))) (hp : ∀ j, ∃ q, ea_nt fs (j % p) = some (.inl q)) (h : pM X N m (pc + 1) F (.inl (.inl (M.1 a (ni x))) :: S) M Q) : pM X N m pc F (.inl (.inl x) :: .inr (.inl (some a)) :: S) M Q := fun C hC L hL => by
  obtain ⟨d, us, v1, v2⟩ := hC.2 a 0 n p fs hG
  refine pa_h hc rfl rfl rfl rfl (fun pc' S' C' dk dw e => ?_)
  simp only [ea_h, v1] at e
  cases hi : ea_ix (.inl x) n with
  | none => rw [hi] at e; cases e
  | some j =>
    obtain ⟨j1, j2⟩ := ix_get hi
    obtain ⟨q, hq⟩ := hp j
    have hv : ea_al d us j = .inl (.inl (M.1 a j)) := by
      rw [v2 j j2]
      show (match ea_nt fs (j % p) with
        | some f => mt M.1 a j f
        | none => .inl (.inl 0)) = _
      rw [hq]
      rfl
    rw [hi] at e
    simp only [hv] at e
    cases e
    rw [ni_j j1] at h
    exact h C hC L hL
theorem pM_bl {n p : Nat} {fs : List FT} {x : Int32} (hc : ep_cod (tb_P X) m pc = some (.baload, 1)) (hG : tb_G a = some (.inr (2, n, p, fs))) (hp : ∀ j, ∃ q, ea_nt fs (j % p) = some (.inl q)) (h : pM X N m (pc + 1) F (.inl (.inl (M.1 a (ni x))) :: S) M Q) : pM X N m pc F (.inl (.inl x) :: .inr (.inl (some a)) :: S) M Q := fun C hC L hL => by
  obtain ⟨d, us, v1, v2⟩ := hC.2 a 2 n p fs hG
  refine pa_h hc rfl rfl rfl rfl (fun pc' S' C' dk dw e => ?_)
  simp only [ea_h, v1] at e
  cases hi : ea_ix (.inl x) n with
  | none => rw [hi] at e; cases e
  | some j =>
    obtain ⟨j1, j2⟩ := ix_get hi
    obtain ⟨q, hq⟩ := hp j
    have hv : ea_al d us j = .inl (.inl (M.1 a j)) := by
      rw [v2 j j2]
      show (match ea_nt fs (j % p) with
        | some f => mt M.1 a j f
        | none => .inl (.inl 0)) = _
      rw [hq]
      rfl
    rw [hi] at e
    simp only [hv] at e
    cases e
    rw [ni_j j1] at h
    exact h C hC L hL
theorem pM_sa {n p : Nat} {fs : List FT} {x z : Int32} (hc : ep_cod (tb_P X) m pc = some (.iastore, 1)) (hG : tb_G a = some (.inr (0, n, p, fs))) (hp : ∀ j, ∃ q, ea_nt fs (j % p) = some (.inl q)) (h : pM X N m (pc + 1) F S (wi M a (ni x) z) Q) : pM X N m pc F (.inl (.inl z) :: .inl (.inl x) :: .inr (.inl (some a)) :: S) M Q := fun C hC L hL => by
  obtain ⟨d, us, v1, v2⟩ := hC.2 a 0 n p fs hG
  refine pa_h hc rfl rfl rfl rfl (fun pc' S' C' dk dw e => ?_)
  simp only [ea_h, v1] at e
  cases hi : ea_ix (.inl x) n with
  | none => rw [hi] at e; cases e
  | some j =>
    obtain ⟨j1, j2⟩ := ix_get hi
    obtain ⟨q, hq⟩ := hp j
    rw [hi] at e
    cases e
    rw [ni_j j1] at h
    exact h _ (mm_as hC (by decide) hG hq v1 z) L hL
theorem pM_sb {n p : Nat} {fs : List FT} {x z : Int32} (hc : ep_cod (tb_P X) m pc = some (.bastore, 1)) (hG : tb_G a = some (.inr (2, n, p, fs))) (hp : ∀ j, ∃ q, ea_nt fs (j % p) = some (.inl q)) (h : pM X N m (pc + 1) F S (wi M a (ni x) (vp_nar .byte z)) Q) : pM X N m pc F (.inl (.inl z) :: .inl (.inl x) :: .inr (.inl (some a)) :: S) M Q := fun C hC L hL => by
  obtain ⟨d, us, v1, v2⟩ := hC.2 a 2 n p fs hG
  refine pa_h hc rfl rfl rfl rfl (fun pc' S' C' dk dw e => ?_)
  simp only [ea_h, v1] at e
  cases hi : ea_ix (.inl x) n with
  | none => rw [hi] at e; cases e
  | some j =>
    obtain ⟨j1, j2⟩ := ix_get hi
    obtain ⟨q, hq⟩ := hp j
    rw [hi] at e
    cases e
    rw [ni_j j1] at h
    exact h _ (mm_as hC (by decide) hG hq v1 (vp_nar .byte z)) L hL
theorem pM_la {n p : Nat} {fs : List FT} {x : Int32} (hc : ep_cod (tb_P X) m pc = some (.laload, 1)) (hG : tb_G a = some (.inr (1, n, p, fs))) (h : pM X N m (pc + 1) F (.inr (.inr (.inl (some (M.2 a (ni x))))) :: S) M Q) : pM X N m pc F (.inl (.inl x) :: .inr (.inl (some a)) :: S) M Q := fun C hC L hL => by
  obtain ⟨d, us, v1, v2⟩ := hC.2 a 1 n p fs hG
  refine pa_h hc rfl rfl rfl rfl (fun pc' S' C' dk dw e => ?_)
  simp only [ea_h, v1] at e
  cases hi : ea_ix (.inl x) n with
  | none => rw [hi] at e; cases e
  | some j =>
    obtain ⟨j1, j2⟩ := ix_get hi
    have hv : ea_al d us j = .inr (.inr (.inl (some (M.2 a j)))) := v2 j j2
    rw [hi] at e
    simp only [hv] at e
    cases e
    rw [ni_j j1] at h
    exact h C hC L hL
theorem pM_sg {n p : Nat} {fs : List FT} {x : Int32} {y : Int64} (hc : ep_cod (tb_P X) m pc = some (.lastore, 1)) (hG : tb_G a = some (.inr (1, n, p, fs))) (h : pM X N m (pc + 1) F S (wj M a (ni x) y) Q) : pM X N m pc F (.inr (.inr (.inl (some y))) :: .inl (.inl x) :: .inr (.inl (some a)) :: S) M Q := fun C hC L hL => by
  obtain ⟨d, us, v1, v2⟩ := hC.2 a 1 n p fs hG
  refine pa_h hc rfl rfl rfl rfl (fun pc' S' C' dk dw e => ?_)
  simp only [ea_h, v1] at e
  cases hi : ea_ix (.inl x) n with
  | none => rw [hi] at e; cases e
  | some j =>
    obtain ⟨j1, j2⟩ := ix_get hi
    rw [hi] at e
    cases e
    rw [ni_j j1] at h
    exact h _ (mm_ls hC hG v1 y) L hL
/-- an array's length -/
theorem pM_len {kd n p : Nat} {fs : List FT} {z : Int32} (hc : ep_cod (tb_P X) m pc = some (.arraylength, 1)) (hG : tb_G a = some (.inr (kd, n, p, fs))) (hz : Int32.ofNat n = z) (h : pM X N m (pc + 1) F (.inl (.inl z) :: S) M Q) : pM X N m pc F (.inr (.inl (some a)) :: S) M Q := fun C hC L hL => by
  obtain ⟨d, us, v1, v2⟩ := hC.2 a kd n p fs hG
  refine pa_h hc rfl rfl rfl rfl (fun pc' S' C' dk dw e => ?_)
  simp only [ea_h, v1] at e
  cases e
  subst hz
  exact h C hC L hL
/-- constants of the pool -/
theorem pM_ld {x v : Nat} {u : Nat} {z : Int32} (hc : ep_cod (tb_P X) m pc = some (.ldc x, 2)) (hp : ep_pl (tb_P X) m x = some (6, v, u)) (hz : Int32.ofNat v = z) (h : pM X N m (pc + 2) F (.inl (.inl z) :: S) M Q) : pM X N m pc F S M Q := fun C hC L hL => by
  refine pa_h hc rfl rfl rfl rfl (fun pc' S' C' dk dw e => ?_)
  simp only [ea_h, hp] at e
  cases e
  subst hz
  exact h C hC L hL
theorem pM_ldw {x v : Nat} {u : Nat} {z : Int32} (hc : ep_cod (tb_P X) m pc = some (.ldc_w x, 3)) (hp : ep_pl (tb_P X) m x = some (6, v, u)) (hz : Int32.ofNat v = z) (h : pM X N m (pc + 3) F (.inl (.inl z) :: S) M Q) : pM X N m pc F S M Q := fun C hC L hL => by
  refine pa_h hc rfl rfl rfl rfl (fun pc' S' C' dk dw e => ?_)
  simp only [ea_h, hp] at e
  cases e
  subst hz
  exact h C hC L hL
theorem pM_lds {x q : Nat} {u : Nat} (hc : ep_cod (tb_P X) m pc = some (.ldc x, 2)) (hp : ep_pl (tb_P X) m x = some (23, q + 1, u)) (h : pM X N m (pc + 2) F (.inr (.inr (.inr (.inr (q + 1)))) :: S) M Q) : pM X N m pc F S M Q := fun C hC L hL => by
  refine pa_h hc rfl rfl rfl rfl (fun pc' S' C' dk dw e => ?_)
  simp only [ea_h, hp] at e
  cases hb : Nat.beq ((q + 1) % 2) 0 with
  | false => rw [hb] at e; cases e
  | true =>
    rw [hb] at e
    cases e
    exact h C hC L hL
theorem pM_ldsw {x q : Nat} {u : Nat} (hc : ep_cod (tb_P X) m pc = some (.ldc_w x, 3)) (hp : ep_pl (tb_P X) m x = some (23, q + 1, u)) (h : pM X N m (pc + 3) F (.inr (.inr (.inr (.inr (q + 1)))) :: S) M Q) : pM X N m pc F S M Q := fun C hC L hL => by
  refine pa_h hc rfl rfl rfl rfl (fun pc' S' C' dk dw e => ?_)
  simp only [ea_h, hp] at e
  cases hb : Nat.beq ((q + 1) % 2) 0 with
  | false => rw [hb] at e; cases e
  | true =>
    rw [hb] at e
    cases e
    exact h C hC L hL
theorem pM_ldl {x v : Nat} {u : Nat} (hc : ep_cod (tb_P X) m pc = some (.ldc2_w x, 3)) (hp : ep_pl (tb_P X) m x = some (7, v, u)) (h : pM X N m (pc + 3) F (.inr (.inr (.inl (some (Int64.ofNat v)))) :: S) M Q) : pM X N m pc F S M Q := fun C hC L hL => by
  refine pa_h hc rfl rfl rfl rfl (fun pc' S' C' dk dw e => ?_)
  simp only [ea_h, hp] at e
  cases e
  exact h C hC L hL
/-- Math -/
theorem pM_mx {x u v : Nat} {i j : Int32} (hc : ep_cod (tb_P X) m pc = some (.invokestatic x, 3)) (hp : ep_pl (tb_P X) m x = some (16, u, v)) (h : pM X N m (pc + 3) F (.inl (.inl (mx i j)) :: S) M Q) : pM X N m pc F (.inl (.inl j) :: .inl (.inl i) :: S) M Q := fun C hC L hL => pa_mm (T := .inl (.inl (mx i j)) :: S) hc (by rw [hp]; rfl) (h C hC L hL)
theorem pM_mn {x u v : Nat} {i j : Int32} (hc : ep_cod (tb_P X) m pc = some (.invokestatic x, 3)) (hp : ep_pl (tb_P X) m x = some (17, u, v)) (h : pM X N m (pc + 3) F (.inl (.inl (mn i j)) :: S) M Q) : pM X N m pc F (.inl (.inl j) :: .inl (.inl i) :: S) M Q := fun C hC L hL => pa_mm (T := .inl (.inl (mn i j)) :: S) hc (by rw [hp]; rfl) (h C hC L hL)
end MEM
/-- the end of a method -/
def rt_m (r : Nat) (x : Int32) : Option (Option AV) := match r with
  | 1 => some (some (Sum.inl (Sum.inl x) : AV))
  | 3 => bif ea_fit 2 (Sum.inl (Sum.inl x)) then some (some (Sum.inl (Sum.inl x) : AV)) else none
  | 4 => if x.toUInt32.toUInt16.toUInt32.toInt32 = x then some (some (Sum.inl (Sum.inl x) : AV)) else none
  | 5 => if x.toInt8.toInt32 = x then some (some (Sum.inl (Sum.inl x) : AV)) else none
  | _ => none
theorem rt_i {r : Nat} {x : Int32} {v : Option AV} (h : ea_rt r .ireturn [.inl (.inl x)] = some v) : v = some (.inl (.inl x)) := by
  have h' : rt_m r x = some v := h
  unfold rt_m at h'
  split at h'
  · exact (Option.some.inj h').symm
  · cases hb : ea_fit 2 (.inl (.inl x)) with
    | true => rw [hb] at h'; exact (Option.some.inj h').symm
    | false => rw [hb] at h'; cases h'
  · split at h'
    · exact (Option.some.inj h').symm
    · cases h'
  · split at h'
    · exact (Option.some.inj h').symm
    · cases h'
  · cases h'
theorem pM_ri {x : Int32} (hc : ep_cod (tb_P X) m pc = some (.ireturn, 1)) (h : Q (.inl (some (.inl (.inl x)))) M) : pM X N m pc F [.inl (.inl x)] M Q := fun C hC L hL => pa_rt hc rfl rfl rfl rfl (fun v hv => by
  rw [rt_i hv]
  exact ⟨M, hC, h⟩)
theorem pM_rl {x : Int64} (hc : ep_cod (tb_P X) m pc = some (.lreturn, 1)) (h : Q (.inl (some (.inr (.inr (.inl (some x)))))) M) : pM X N m pc F [.inr (.inr (.inl (some x)))] M Q := fun C hC L hL => pa_rt hc rfl rfl rfl rfl (fun v hv => by
  have h' : (match ep_rtp (tb_P X) m with
    | 2 => some (some (Sum.inr (Sum.inr (Sum.inl (some x))) : AV))
    | _ => none) = some v := hv
  have : v = some (.inr (.inr (.inl (some x)))) := by
    split at h'
    · exact (Option.some.inj h').symm
    · cases h'
  rw [this]
  exact ⟨M, hC, h⟩)
theorem pM_ru (hc : ep_cod (tb_P X) m pc = some (.return_, 1)) (h : Q (.inl none) M) : pM X N m pc F [] M Q := fun C hC L hL => pa_rt hc rfl rfl rfl rfl (fun v hv => by
  have h' : (match ep_rtp (tb_P X) m with
    | 0 => some (none : Option AV)
    | _ => none) = some v := hv
  have : v = none := by
    split at h'
    · exact (Option.some.inj h').symm
    · cases h'
  rw [this]
  exact ⟨M, hC, h⟩)
theorem pM_tw {x ce : Nat} (hc : ep_cod (tb_P X) m pc = some (.new x, 3)) (ht : ea_tw (tb_P X) m pc = some ce) (hh : ∀ C, ea_h (ep_ini (tb_P X) m) (ep_pl (tb_P X) m) (ep_fty (tb_P X)) (ep_scr (tb_P X) m) (.new x) pc S C = none) (h : Q (.inr ce) M) : pM X N m pc F S M Q := fun C hC L hL => pa_tw hc ht (hh C) ⟨M, hC, h⟩
/-- calls -/
theorem pM_q {i : Instr} {r : Option (Nat × Nat × Nat)} {mj : Nat} {as T : List AV} {b : Bool} {K1 : RT} (hc : ep_cod (tb_P X) m pc = some (i, 3)) (hi : ok_iv (tb_P X) m i S = some r) (hq : ∀ C, mm tb_G M.1 M.2 C → ea_cl (ep_own (tb_P X)) i r S C = some (mj, as, T, b)) (hh : ep_hdl (tb_P X) m = []) (h : pM X N mj 0 (ea_ar 0 as) [] M K1) (hk : ∀ v M', K1 (.inl v) M' → pM X N m (pc + 3) F (v.toList ++ T) M' Q) (hx : ∀ ce M', K1 (.inr ce) M' → Q (.inr ce) M') : pM X N m pc F S M Q := fun C hC L hL =>
  pa_q hc hi (hq C hC) (h C hC _ (lo_ar as 0)) (fun v C' ⟨M', h1, h2⟩ => hk v M' h2 C' h1 L hL) (fun ce C' ⟨M', h1, h2⟩ => by
    rw [hh]
    exact ⟨M', h1, hx ce M' h2⟩)
theorem cl_v {a ci x mj n : Nat} {fs : List FT} {S as T : List AV} {C : List AC} (hC : mm tb_G M.1 M.2 C) (hG : tb_G a = some (.inl (ci, fs))) (hd : S.drop n = .inr (.inl (some a)) :: T) (ho : ep_own (tb_P X) mj = ci) (ha : (S.take n).reverse = as) : ea_cl (ep_own (tb_P X)) (.invokevirtual x) (some (2, mj, n)) S C = some (mj, .inr (.inl (some a)) :: as, T, true) := by
  obtain ⟨vs, v1, -, -⟩ := hC.1 a ci fs hG
  simp only [ea_cl, hd, v1, ho, Nat.beq_refl, cond_true, ha]
/-- System.arraycopy -/
theorem pM_cy {x a b t n0 p : Nat} {fs : List FT} {n dp sp : Int32} {T : List AV} (hc : ep_cod (tb_P X) m pc = some (.invokestatic x, 3)) (h9 : ea_is9 (ep_pl (tb_P X) m x) = true) (hGa : tb_G a = some (.inr (t, n0, p, fs))) (hGb : tb_G b = some (.inr (t, n0, p, fs))) (hp : t = 0 → ∀ j, ∃ q, ea_nt fs (j % p) = some (.inl q)) (h : pM X N m (pc + 3) F T (cpM M t a b) Q) : pM X N m pc F (.inl (.inl n) :: .inl (.inl dp) :: .inr (.inl (some b)) :: .inl (.inl sp) :: .inr (.inl (some a)) :: T) M Q := fun C hC L hL => by
  obtain ⟨d, us, v1, v2⟩ := hC.2 a t n0 p fs hGa
  obtain ⟨d', us', w1, w2⟩ := hC.2 b t n0 p fs hGb
  refine pa_cy hc h9 (fun T' C' e => ?_)
  simp only [ea_cy, v1, w1] at e
  split at e
  · rename_i hh
    cases e
    refine h _ ?_ L hL
    have ht : t < 2 := hh.2.1
    have key : ∀ (c kd p' : Nat) (gs : List FT) (j : Nat), ¬ c = b → me (cpM M t a b).1 (cpM M t a b).2 c kd p' gs j = me M.1 M.2 c kd p' gs j := by
      intro c kd p' gs j hcb
      match t, ht with
      | 0, _ =>
        unfold me
        split
        · rfl
        · split
          · rename_i f _
            match f with
            | .inl _ => show Sum.inl (Sum.inl (if c = b then _ else _)) = _; rw [if_neg hcb]; rfl
            | .inr _ => rfl
          · rfl
      | 1, _ =>
        unfold me
        split
        · show Sum.inr (Sum.inr (Sum.inl (some (if c = b then _ else _)))) = _
          rw [if_neg hcb]
        · rfl
    refine ⟨fun c cj gs hG' => ?_, fun c kd n' p' gs hG' => ?_⟩
    · have hcb : c ≠ b := by
        intro h
        rw [h, hGb] at hG'
        cases hG'
      obtain ⟨ws, x1, x2, x3⟩ := hC.1 c cj gs hG'
      refine ⟨ws, by rw [nt_set_ne (fun h => hcb h.symm)]; exact x1, x2, fun k f hk => ?_⟩
      rw [x3 k f hk]
      match f, t, ht with
      | .inr _, _, _ => rfl
      | .inl _, 0, _ => show _ = some (Sum.inl (Sum.inl (if c = b then _ else _))); rw [if_neg hcb]; rfl
      | .inl _, 1, _ => rfl
    · by_cases hcb : c = b
      · subst hcb
        rw [hGb] at hG'
        cases hG'
        refine ⟨d, us, nt_set_self w1, fun j hj => ?_⟩
        rw [v2 j hj]
        match t, ht, hp with
        | 0, _, hp =>
          obtain ⟨q, hq⟩ := hp rfl j
          show (match ea_nt fs (j % p) with
            | some f => mt M.1 a j f
            | none => .inl (.inl 0)) = (match ea_nt fs (j % p) with
            | some f => mt (cpM M 0 a c).1 c j f
            | none => .inl (.inl 0))
          rw [hq]
          show Sum.inl (Sum.inl (M.1 a j)) = Sum.inl (Sum.inl (if c = c then M.1 a j else M.1 c j))
          rw [if_pos rfl]
        | 1, _, _ =>
          show Sum.inr (Sum.inr (Sum.inl (some (M.2 a j)))) = Sum.inr (Sum.inr (Sum.inl (some (if c = c then M.2 a j else M.2 c j))))
          rw [if_pos rfl]
      · obtain ⟨d2, us2, x1, x2⟩ := hC.2 c kd n' p' gs hG'
        refine ⟨d2, us2, by rw [nt_set_ne (fun h => hcb h.symm)]; exact x1, fun j hj => ?_⟩
        rw [x2 j hj, key c kd p' gs j hcb]
  · cases e
end PMR
theorem one_p (q : Int × Int) : ∀ j, ∃ q', ea_nt [(.inl q : FT)] (j % 1) = some (.inl q') := fun j => ⟨q, by rw [Nat.mod_one]; rfl⟩
