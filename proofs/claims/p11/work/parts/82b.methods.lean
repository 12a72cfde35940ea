/-! the methods: their words, their bytes -/
def mo_r (r : Nat) (t : Option FieldType) : Bool := match r with
  | 0 => decide (t = none)
  | 1 => decide (t = some .int)
  | 2 => decide (t = some .long)
  | 3 => decide (t = some .boolean)
  | 4 => decide (t = some .char)
  | 5 => decide (t = some .byte)
  | _ => true
theorem mo_r_ok (r : Nat) (t : Option FieldType) (h : mo_r r t = true) : ea_rk r t := by
  match r, h with
  | 0, h => exact of_decide_eq_true (p := t = none) h
  | 1, h => exact of_decide_eq_true (p := t = some .int) h
  | 2, h => exact of_decide_eq_true (p := t = some .long) h
  | 3, h => exact of_decide_eq_true (p := t = some .boolean) h
  | 4, h => exact of_decide_eq_true (p := t = some .char) h
  | 5, h => exact of_decide_eq_true (p := t = some .byte) h
  | _ + 6, _ => trivial
def mo_b (m : Nat) : Bool := plainName (tb_y m).cls && (decide ((tb_y m).cls ≠ "java/lang/invoke/MethodHandle") && (decide ((tb_y m).cls ≠ "java/lang/invoke/VarHandle") && (decide (ep_ini (tb_P none) m = true → (tb_y m).name = "<init>") && mo_r (ep_rtp (tb_P none) m) (tb_r m) && Nat.ble (ep_nls (tb_P none) m) 80)))
def mo_d (m : Nat) : Bool := dk (tb_b m) (tb_code m) 0 (tb_b m).data.toList
theorem mo_dx {m pc : Nat} {z : Instr × Nat × Nat} (hd : mo_d m = true) (hm : (pc, z) ∈ tb_code m) : decode (tb_b m) pc = .ok (z.1, z.2.1 - pc) := by
  unfold mo_d at hd
  exact dk_ok0 hd (pc, z) hm
theorem mo_of {Y : Option (List AI)} {m : Nat} (hb : mo_b m = true) (hd : mo_d m = true) (h1 : ea_hw (tb_P Y) tb_N m ∈ tb_T) (h2 : Jvm.Cond.initialized (tb_y m).cls ∈ tb_T) (h3 : ∀ q ∈ ep_hdl (tb_P Y) m, q.2.2.2.2 ≠ 0 ∧ Jvm.Cond.classLink (tb_y m).cls q.2.2.2.2 (tb_x q.2.2.2.1) ∈ tb_T) (h4 : ∀ q ∈ tb_pool (tb_m m).1, ea_ps (tb_P Y) tb_N (tb_y m).cls q.1 q.2.1) : ea_mo (tb_P Y) tb_N m := by
  unfold mo_b at hb
  simp only [Bool.and_eq_true, decide_eq_true_eq] at hb
  obtain ⟨b1, b2, b3, ⟨b4, b5⟩, b6⟩ := hb
  refine ⟨b1, ⟨b2, b3⟩, h1, fun pc q hq => ?_, b4, ?_, h2, h3, fun x r hx => ?_, Nat.le_of_ble_eq_true b6⟩
  · have hq' : (tb_cd m pc).map (fun q => (q.1, q.2.1 - pc)) = some q := hq
    cases hc : tb_cd m pc with
    | none => rw [hc] at hq'; cases hq'
    | some z =>
      rw [hc] at hq'
      cases hq'
      have hm := ea_as_mem hc
      exact mo_dx hd hm
  · exact mo_r_ok _ _ b5
  · have hx' : (ea_as (tb_pool (tb_m m).1) x).map (fun q => q.1) = some r := hx
    cases hc : ea_as (tb_pool (tb_m m).1) x with
    | none => rw [hc] at hx'; cases hx'
    | some z =>
      rw [hc] at hx'
      cases hx'
      exact h4 _ (ea_as_mem hc)
theorem mo_bs : (List.range 389).all mo_b = true := by decide +kernel
theorem mo_b1 {m : Nat} (h : m < 389) : mo_b m = true := List.all_eq_true.mp mo_bs m (List.mem_range.mpr h)
