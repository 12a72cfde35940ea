/-! what holds at the law's entry -/
theorem tb_in {c : Nat} {q : vw_C} (h : tb_cl[c]? = some q) : Jvm.Cond.instantiable q.1 q.2.2 ∈ lw_tbl := by
  match c, h with
  | 0, h => cases h; exact (tw_l (c := 2) (i := 119) rfl)
  | 1, h => cases h; exact (tw_l (c := 1) (i := 83) rfl)
  | 2, h => cases h; exact (tw_l (c := 2) (i := 9) rfl)
  | 3, h => cases h; exact (tw_l (c := 1) (i := 134) rfl)
  | 4, h => cases h; exact (tw_l (c := 2) (i := 38) rfl)
  | 5, h => cases h; exact (tw_l (c := 2) (i := 95) rfl)
  | 6, h => cases h; exact (tw_l (c := 2) (i := 58) rfl)
  | 7, h => cases h; exact (tw_l (c := 2) (i := 22) rfl)
  | 8, h => cases h; exact (tw_l (c := 1) (i := 39) rfl)
  | 9, h => cases h; exact (tw_l (c := 1) (i := 58) rfl)
  | 10, h => cases h; exact (tw_l (c := 1) (i := 128) rfl)
  | 11, h => cases h; exact (tw_l (c := 1) (i := 31) rfl)
  | 12, h => cases h; exact (tw_l (c := 7) (i := 39) rfl)
  | _ + 13, h => cases h
theorem tb_nw {args : Array Value} {s : State} (hts : ∀ w ∈ lw_tbl, w.before args s = true) : ∀ w ∈ tb_n, va_Nw w s := List.forall_mem_cons.mpr ⟨va_Nw.of rfl (hts _ (tw_l (c := 4) (i := 110) rfl)), List.forall_mem_cons.mpr ⟨va_Nw.of rfl (hts _ (tw_l (c := 4) (i := 180) rfl)), List.forall_mem_cons.mpr ⟨va_Nw.of rfl (hts _ (tw_l (c := 5) (i := 66) rfl)), List.forall_mem_cons.mpr ⟨va_Nw.of rfl (hts _ (tw_l (c := 5) (i := 34) rfl)), List.forall_mem_cons.mpr ⟨va_Nw.of rfl (hts _ (tw_l (c := 5) (i := 91) rfl)), List.forall_mem_cons.mpr ⟨va_Nw.of rfl (hts _ (tw_l (c := 1) (i := 40) rfl)), List.forall_mem_cons.mpr ⟨va_Nw.of rfl (hts _ (tw_l (c := 1) (i := 59) rfl)), List.forall_mem_cons.mpr ⟨va_Nw.of rfl (hts _ (tw_l (c := 1) (i := 84) rfl)), List.forall_mem_cons.mpr ⟨va_Nw.of rfl (hts _ (tw_l (c := 1) (i := 129) rfl)), List.forall_mem_cons.mpr ⟨va_Nw.of rfl (hts _ (tw_l (c := 1) (i := 135) rfl)), List.forall_mem_cons.mpr ⟨va_Nw.of rfl (hts _ (tw_l (c := 2) (i := 45) rfl)), List.forall_mem_cons.mpr ⟨va_Nw.of rfl (hts _ (tw_l (c := 2) (i := 215) rfl)), List.forall_mem_cons.mpr ⟨va_Nw.of rfl (hts _ (tw_l (c := 3) (i := 1) rfl)), List.forall_mem_cons.mpr ⟨va_Nw.of rfl (hts _ (tw_l (c := 3) (i := 30) rfl)), List.forall_mem_cons.mpr ⟨va_Nw.of rfl (hts _ (tw_l (c := 6) (i := 140) rfl)), List.forall_mem_cons.mpr ⟨va_Nw.of rfl (hts _ (tw_l (c := 4) (i := 112) rfl)), List.forall_mem_cons.mpr ⟨va_Nw.of rfl (hts _ (tw_l (c := 4) (i := 114) rfl)), List.forall_mem_cons.mpr ⟨va_Nw.of rfl (hts _ (tw_l (c := 4) (i := 116) rfl)), fun _ h => absurd h List.not_mem_nil⟩⟩⟩⟩⟩⟩⟩⟩⟩⟩⟩⟩⟩⟩⟩⟩⟩⟩
def tb_ex : List Jvm.Cond := [.exactly (.string "EarCode" 122) "java/lang/String", .exactly (.string "EarCode" 135) "java/lang/String", .exactly (.string "EarCode" 157) "java/lang/String", .exactly (.string "EarCode" 186) "java/lang/String", .exactly (.string "EarCode" 249) "java/lang/String", .exactly (.string "EarCode" 263) "java/lang/String", .exactly (.string "EarCode" 268) "java/lang/String", .exactly (.string "EarCode" 273) "java/lang/String", .exactly (.string "EarCode" 295) "java/lang/String", .exactly (.string "EarCode" 428) "java/lang/String", .exactly (.string "EarCode" 435) "java/lang/String", .exactly (.string "EarCode" 437) "java/lang/String", .exactly (.string "EarCode" 439) "java/lang/String"]
theorem tb_exm : ∀ w ∈ tb_ex, w ∈ flatC (Jvm.Cond.and given_1 narrow_1) := by decide +kernel
theorem tb_sr {args : Array Value} {s : State} {own tx : String} {k : Nat} (h1 : (Jvm.Cond.stringRef own k tx).before args s = true) (h2 : (Jvm.Cond.exactly (.string own k) "java/lang/String").before args s = true) : ∃ a, vk_R own k tx a s := by
  obtain ⟨a, c, cell, kk, q1, -⟩ := Cond.exactly_spec (args := args) (first := s) (o := none) (s := s) (idx := []) (t := .string own k) (cls := "java/lang/String") h2
  exact ⟨a, vk_R.of h1 q1⟩
theorem tb_st0 {args : Array Value} {s : State} (hts : ∀ w ∈ lw_tbl, w.before args s = true) (hf : ∀ w ∈ flatC (Jvm.Cond.and given_1 narrow_1), w.before args s = true) : ∀ q ∈ tb_s, ∃ a, vk_R q.1 q.2.1 q.2.2 a s := List.forall_mem_cons.mpr ⟨tb_sr (hts _ (tw_l (c := 4) (i := 151) rfl)) (hf _ (tb_exm _ (List.mem_of_getElem? (i := 0) rfl))), List.forall_mem_cons.mpr ⟨tb_sr (hts _ (tw_l (c := 4) (i := 187) rfl)) (hf _ (tb_exm _ (List.mem_of_getElem? (i := 1) rfl))), List.forall_mem_cons.mpr ⟨tb_sr (hts _ (tw_l (c := 5) (i := 41) rfl)) (hf _ (tb_exm _ (List.mem_of_getElem? (i := 2) rfl))), List.forall_mem_cons.mpr ⟨tb_sr (hts _ (tw_l (c := 5) (i := 98) rfl)) (hf _ (tb_exm _ (List.mem_of_getElem? (i := 3) rfl))), List.forall_mem_cons.mpr ⟨tb_sr (hts _ (tw_l (c := 5) (i := 179) rfl)) (hf _ (tb_exm _ (List.mem_of_getElem? (i := 4) rfl))), List.forall_mem_cons.mpr ⟨tb_sr (hts _ (tw_l (c := 5) (i := 208) rfl)) (hf _ (tb_exm _ (List.mem_of_getElem? (i := 5) rfl))), List.forall_mem_cons.mpr ⟨tb_sr (hts _ (tw_l (c := 5) (i := 217) rfl)) (hf _ (tb_exm _ (List.mem_of_getElem? (i := 6) rfl))), List.forall_mem_cons.mpr ⟨tb_sr (hts _ (tw_l (c := 5) (i := 231) rfl)) (hf _ (tb_exm _ (List.mem_of_getElem? (i := 7) rfl))), List.forall_mem_cons.mpr ⟨tb_sr (hts _ (tw_l (c := 6) (i := 25) rfl)) (hf _ (tb_exm _ (List.mem_of_getElem? (i := 8) rfl))), List.forall_mem_cons.mpr ⟨tb_sr (hts _ (tw_l (c := 5) (i := 73) rfl)) (hf _ (tb_exm _ (List.mem_of_getElem? (i := 9) rfl))), List.forall_mem_cons.mpr ⟨tb_sr (hts _ (tw_l (c := 5) (i := 158) rfl)) (hf _ (tb_exm _ (List.mem_of_getElem? (i := 10) rfl))), List.forall_mem_cons.mpr ⟨tb_sr (hts _ (tw_l (c := 6) (i := 2) rfl)) (hf _ (tb_exm _ (List.mem_of_getElem? (i := 11) rfl))), List.forall_mem_cons.mpr ⟨tb_sr (hts _ (tw_l (c := 5) (i := 207) rfl)) (hf _ (tb_exm _ (List.mem_of_getElem? (i := 12) rfl))), fun _ h => absurd h List.not_mem_nil⟩⟩⟩⟩⟩⟩⟩⟩⟩⟩⟩⟩⟩
/-- the premises on one of the Strings that are looked at -/
def tb_ws (t : String × Nat × String × Nat) : List Jvm.Cond := .exactly (.string t.1 t.2.1) "java/lang/String" :: .eq (.field (.string t.1 t.2.1) "java/lang/String" "coder" "B") (.int 0) :: .arrayOf (.field (.string t.1 t.2.1) "java/lang/String" "value" "[B") .byte :: .eq (.length (.field (.string t.1 t.2.1) "java/lang/String" "value" "[B")) (.int (Int32.ofNat (sx_len (t.2.2.2 / 64)))) :: (List.range (sx_len (t.2.2.2 / 64))).map fun j => .eq (.elem (.field (.string t.1 t.2.1) "java/lang/String" "value" "[B") (.int (Int32.ofNat j))) (.int (Int32.ofNat (sx_ch (t.2.2.2 / 64) j)))
theorem tb_Sr : ∀ t ∈ tb_S, Jvm.Cond.stringRef t.1 t.2.1 t.2.2.1 ∈ lw_tbl := List.forall_mem_cons.mpr ⟨(tw_l (c := 3) (i := 220) rfl), List.forall_mem_cons.mpr ⟨(tw_l (c := 8) (i := 28) rfl), List.forall_mem_cons.mpr ⟨(tw_l (c := 8) (i := 29) rfl), List.forall_mem_cons.mpr ⟨(tw_l (c := 8) (i := 30) rfl), List.forall_mem_cons.mpr ⟨(tw_l (c := 8) (i := 31) rfl), List.forall_mem_cons.mpr ⟨(tw_l (c := 8) (i := 14) rfl), List.forall_mem_cons.mpr ⟨(tw_l (c := 8) (i := 19) rfl), List.forall_mem_cons.mpr ⟨(tw_l (c := 8) (i := 32) rfl), List.forall_mem_cons.mpr ⟨(tw_l (c := 8) (i := 33) rfl), List.forall_mem_cons.mpr ⟨(tw_l (c := 7) (i := 221) rfl), List.forall_mem_cons.mpr ⟨(tw_l (c := 7) (i := 228) rfl), List.forall_mem_cons.mpr ⟨(tw_l (c := 7) (i := 233) rfl), List.forall_mem_cons.mpr ⟨(tw_l (c := 8) (i := 51) rfl), List.forall_mem_cons.mpr ⟨(tw_l (c := 8) (i := 56) rfl), List.forall_mem_cons.mpr ⟨(tw_l (c := 8) (i := 69) rfl), List.forall_mem_cons.mpr ⟨(tw_l (c := 8) (i := 38) rfl), List.forall_mem_cons.mpr ⟨(tw_l (c := 8) (i := 79) rfl), List.forall_mem_cons.mpr ⟨(tw_l (c := 8) (i := 84) rfl), List.forall_mem_cons.mpr ⟨(tw_l (c := 8) (i := 85) rfl), List.forall_mem_cons.mpr ⟨(tw_l (c := 8) (i := 106) rfl), List.forall_mem_cons.mpr ⟨(tw_l (c := 8) (i := 111) rfl), fun _ h => absurd h List.not_mem_nil⟩⟩⟩⟩⟩⟩⟩⟩⟩⟩⟩⟩⟩⟩⟩⟩⟩⟩⟩⟩⟩
/-- a list stands in another one as a run -/
def ws_pre : List Jvm.Cond → List Jvm.Cond → Bool
  | [], _ => true
  | _ :: _, [] => false
  | a :: as, b :: bs => decide (a = b) && ws_pre as bs
def ws_sub (ws : List Jvm.Cond) : List Jvm.Cond → Bool
  | [] => false
  | b :: bs => ws_pre ws (b :: bs) || ws_sub ws bs
theorem ws_pre_ok : ∀ {as bs : List Jvm.Cond}, ws_pre as bs = true → ∀ w ∈ as, w ∈ bs
  | [], _, _ => fun _ h => absurd h List.not_mem_nil
  | _ :: _, [], h => by cases h
  | a :: as, b :: bs, h => by
    unfold ws_pre at h
    simp only [Bool.and_eq_true, decide_eq_true_eq] at h
    intro w hw
    rcases List.mem_cons.mp hw with rfl | hw
    · exact h.1 ▸ List.mem_cons_self
    · exact List.mem_cons_of_mem _ (ws_pre_ok h.2 w hw)
theorem ws_sub_ok {ws : List Jvm.Cond} : ∀ {bs : List Jvm.Cond}, ws_sub ws bs = true → ∀ w ∈ ws, w ∈ bs
  | [], h => by cases h
  | b :: bs, h => by
    unfold ws_sub at h
    rw [Bool.or_eq_true] at h
    rcases h with h | h
    · exact ws_pre_ok h
    · exact fun w hw => List.mem_cons_of_mem _ (ws_sub_ok h w hw)
def ws_ok (l L : List Jvm.Cond) : Bool := match l with
  | a :: b :: c :: r => (decide (a ∈ L) && (decide (b ∈ L) && decide (c ∈ L))) && ws_sub r L
  | _ => false
theorem ws_in {l L : List Jvm.Cond} (h : ws_ok l L = true) : ∀ w ∈ l, w ∈ L := by
  match l, h with
  | a :: b :: c :: r, h =>
    simp only [ws_ok, Bool.and_eq_true, decide_eq_true_eq] at h
    obtain ⟨⟨h1, h2, h3⟩, h4⟩ := h
    intro w hw
    rcases List.mem_cons.mp hw with rfl | hw
    · exact h1
    · rcases List.mem_cons.mp hw with rfl | hw
      · exact h2
      · rcases List.mem_cons.mp hw with rfl | hw
        · exact h3
        · exact ws_sub_ok h4 w hw
theorem tb_Sm0 : ∀ w ∈ tb_ws (tb_S[0]), w ∈ flatC (Jvm.Cond.and given_1 narrow_1) := ws_in (by decide +kernel)
theorem tb_Sm1 : ∀ w ∈ tb_ws (tb_S[1]), w ∈ flatC (Jvm.Cond.and given_1 narrow_1) := ws_in (by decide +kernel)
theorem tb_Sm2 : ∀ w ∈ tb_ws (tb_S[2]), w ∈ flatC (Jvm.Cond.and given_1 narrow_1) := ws_in (by decide +kernel)
theorem tb_Sm3 : ∀ w ∈ tb_ws (tb_S[3]), w ∈ flatC (Jvm.Cond.and given_1 narrow_1) := ws_in (by decide +kernel)
theorem tb_Sm4 : ∀ w ∈ tb_ws (tb_S[4]), w ∈ flatC (Jvm.Cond.and given_1 narrow_1) := ws_in (by decide +kernel)
theorem tb_Sm5 : ∀ w ∈ tb_ws (tb_S[5]), w ∈ flatC (Jvm.Cond.and given_1 narrow_1) := ws_in (by decide +kernel)
theorem tb_Sm6 : ∀ w ∈ tb_ws (tb_S[6]), w ∈ flatC (Jvm.Cond.and given_1 narrow_1) := ws_in (by decide +kernel)
theorem tb_Sm7 : ∀ w ∈ tb_ws (tb_S[7]), w ∈ flatC (Jvm.Cond.and given_1 narrow_1) := ws_in (by decide +kernel)
theorem tb_Sm8 : ∀ w ∈ tb_ws (tb_S[8]), w ∈ flatC (Jvm.Cond.and given_1 narrow_1) := ws_in (by decide +kernel)
theorem tb_Sm9 : ∀ w ∈ tb_ws (tb_S[9]), w ∈ flatC (Jvm.Cond.and given_1 narrow_1) := ws_in (by decide +kernel)
theorem tb_Sm10 : ∀ w ∈ tb_ws (tb_S[10]), w ∈ flatC (Jvm.Cond.and given_1 narrow_1) := ws_in (by decide +kernel)
theorem tb_Sm11 : ∀ w ∈ tb_ws (tb_S[11]), w ∈ flatC (Jvm.Cond.and given_1 narrow_1) := ws_in (by decide +kernel)
theorem tb_Sm12 : ∀ w ∈ tb_ws (tb_S[12]), w ∈ flatC (Jvm.Cond.and given_1 narrow_1) := ws_in (by decide +kernel)
theorem tb_Sm13 : ∀ w ∈ tb_ws (tb_S[13]), w ∈ flatC (Jvm.Cond.and given_1 narrow_1) := ws_in (by decide +kernel)
theorem tb_Sm14 : ∀ w ∈ tb_ws (tb_S[14]), w ∈ flatC (Jvm.Cond.and given_1 narrow_1) := ws_in (by decide +kernel)
theorem tb_Sm15 : ∀ w ∈ tb_ws (tb_S[15]), w ∈ flatC (Jvm.Cond.and given_1 narrow_1) := ws_in (by decide +kernel)
theorem tb_Sm16 : ∀ w ∈ tb_ws (tb_S[16]), w ∈ flatC (Jvm.Cond.and given_1 narrow_1) := ws_in (by decide +kernel)
theorem tb_Sm17 : ∀ w ∈ tb_ws (tb_S[17]), w ∈ flatC (Jvm.Cond.and given_1 narrow_1) := ws_in (by decide +kernel)
theorem tb_Sm18 : ∀ w ∈ tb_ws (tb_S[18]), w ∈ flatC (Jvm.Cond.and given_1 narrow_1) := ws_in (by decide +kernel)
theorem tb_Sm19 : ∀ w ∈ tb_ws (tb_S[19]), w ∈ flatC (Jvm.Cond.and given_1 narrow_1) := ws_in (by decide +kernel)
theorem tb_Sm20 : ∀ w ∈ tb_ws (tb_S[20]), w ∈ flatC (Jvm.Cond.and given_1 narrow_1) := ws_in (by decide +kernel)
theorem tb_Sm : ∀ t ∈ tb_S, ∀ w ∈ tb_ws t, w ∈ flatC (Jvm.Cond.and given_1 narrow_1) := List.forall_mem_cons.mpr ⟨tb_Sm0, List.forall_mem_cons.mpr ⟨tb_Sm1, List.forall_mem_cons.mpr ⟨tb_Sm2, List.forall_mem_cons.mpr ⟨tb_Sm3, List.forall_mem_cons.mpr ⟨tb_Sm4, List.forall_mem_cons.mpr ⟨tb_Sm5, List.forall_mem_cons.mpr ⟨tb_Sm6, List.forall_mem_cons.mpr ⟨tb_Sm7, List.forall_mem_cons.mpr ⟨tb_Sm8, List.forall_mem_cons.mpr ⟨tb_Sm9, List.forall_mem_cons.mpr ⟨tb_Sm10, List.forall_mem_cons.mpr ⟨tb_Sm11, List.forall_mem_cons.mpr ⟨tb_Sm12, List.forall_mem_cons.mpr ⟨tb_Sm13, List.forall_mem_cons.mpr ⟨tb_Sm14, List.forall_mem_cons.mpr ⟨tb_Sm15, List.forall_mem_cons.mpr ⟨tb_Sm16, List.forall_mem_cons.mpr ⟨tb_Sm17, List.forall_mem_cons.mpr ⟨tb_Sm18, List.forall_mem_cons.mpr ⟨tb_Sm19, List.forall_mem_cons.mpr ⟨tb_Sm20, fun _ h => absurd h List.not_mem_nil⟩⟩⟩⟩⟩⟩⟩⟩⟩⟩⟩⟩⟩⟩⟩⟩⟩⟩⟩⟩⟩
theorem tb_Sl : ∀ t ∈ tb_S, sx_len (t.2.2.2 / 64) < 2 ^ 31 := by decide +kernel
theorem tb_Sx : tb_S.map (fun t => t.2.2.2 % 64) = List.range 21 := by decide +kernel
theorem tb_Sn {n : Nat} {t : String × Nat × String × Nat} (h : tb_S[n]? = some t) : t.2.2.2 % 64 = n := by
  have e : (tb_S.map (fun t => t.2.2.2 % 64))[n]? = some (t.2.2.2 % 64) := by rw [List.getElem?_map, h]; rfl
  rw [tb_Sx] at e
  obtain ⟨h1, h2⟩ := List.getElem?_eq_some_iff.mp e
  rw [← h2, List.getElem_range]
def tb_Sf (A : Nat → Prop) (s : State) (t : String × Nat × String × Nat) (q : Nat × Nat) : Prop := vk_R t.1 t.2.1 t.2.2.1 q.1 s ∧ va_O "java/lang/String" q.1 A s s.heap ∧ va_OF "java/lang/String" "coder" "B" (.int 0) q.1 A s s.heap ∧ va_OF "java/lang/String" "value" "[B" (.ref q.2) q.1 A s s.heap ∧ va_T .byte q.2 (sx_len (t.2.2.2 / 64)) (fun j => .int (Int32.ofNat (sx_ch (t.2.2.2 / 64) j))) A s s.heap
theorem tb_Sq {args : Array Value} {s : State} {A : Nat → Prop} (hts : ∀ w ∈ lw_tbl, w.before args s = true) (hf : ∀ w ∈ flatC (Jvm.Cond.and given_1 narrow_1), w.before args s = true) (hA : ∀ a : Nat, a < s.heap.size → ¬ A a) : ∀ t ∈ tb_S, ∃ q : Nat × Nat, tb_Sf A s t q := by
  intro t ht
  have hw : ∀ w ∈ tb_ws t, w.before args s = true := fun w hw => hf w (tb_Sm t ht w hw)
  have hex := hw _ List.mem_cons_self
  have hco := hw _ (List.mem_cons_of_mem _ List.mem_cons_self)
  have har := hw _ (List.mem_cons_of_mem _ (List.mem_cons_of_mem _ List.mem_cons_self))
  have hle := hw _ (List.mem_cons_of_mem _ (List.mem_cons_of_mem _ (List.mem_cons_of_mem _ List.mem_cons_self)))
  have hel : ∀ j : Nat, j < sx_len (t.2.2.2 / 64) → (Jvm.Cond.eq (.elem (.field (.string t.1 t.2.1) "java/lang/String" "value" "[B") (.int (Int32.ofNat j))) (.int (Int32.ofNat (sx_ch (t.2.2.2 / 64) j)))).before args s = true := fun j hj =>
    hw _ (List.mem_cons_of_mem _ (List.mem_cons_of_mem _ (List.mem_cons_of_mem _ (List.mem_cons_of_mem _ (List.mem_map.mpr ⟨j, List.mem_range.mpr hj, rfl⟩)))))
  obtain ⟨a, c, cA, kA, q1, q2, q3, q4, q5, q6, -⟩ := Cond.exactly_spec (args := args) (first := s) (o := none) (s := s) (idx := []) (t := .string t.1 t.2.1) (cls := "java/lang/String") hex
  obtain ⟨v, hv, hT⟩ := va_Tof (f := fun j => .int (Int32.ofNat (sx_ch (t.2.2.2 / 64) j))) (A := A) (tb_Sl t ht) har (va_eqt hle) (fun j hj => va_eqt (hel j hj)) hA
  exact ⟨(a, v), vk_R.of (hts _ (tb_Sr t ht)) q1, ⟨cA, q3, q5, by rw [q6]; exact q2, hA a (Array.getElem?_eq_some_iff.mp q3).1⟩, vk_OFof q1 (va_eqt hco) hA, vk_OFof q1 hv hA, hT⟩
theorem tb_ncm : ∀ r1, r1 < 5 → ∀ r2, r2 < 5 → r1 ≠ r2 → Jvm.Cond.not (.castable (tb_x0 r1) (tb_x0 r2)) ∈ flatC (Jvm.Cond.and given_1 narrow_1) := by decide +kernel
theorem tb_rfm : ∀ w ∈ [Jvm.Cond.isRef (.static Bundle.tN "UNASSIGNED_STACK" Bundle.steD), Jvm.Cond.isRef (.static Bundle.tN "SUPPRESSED_SENTINEL" Bundle.listD), .eq (.static "java/lang/String" "COMPACT_STRINGS" "Z") (.int 1), .isRef (.static "jdk/internal/util/Preconditions" "SIOOBE_FORMATTER" "Ljava/util/function/BiFunction;")], w ∈ flatC (Jvm.Cond.and given_1 narrow_1) := by decide +kernel
theorem tb_En {Y : Option (List AI)} {args : Array Value} {s : State} (b : Nat) (hc : (Jvm.Cond.code x code maxLocals ret).before args s = true) (hts : ∀ w ∈ lw_tbl, w.before args s = true) (hgv : (Jvm.Cond.and given_1 narrow_1).before args s = true) : ∃ (D : va_G) (sb : SB), sb.1 = b ∧ (∀ w ∈ tb_T, w.before args s = true) ∧ ea_G tb_N (tb_P Y) D (fun q => s.heap.size ≤ q) sb s s.heap := by
  have hf := flat_of_before _ hgv
  have hT : ∀ w ∈ tb_T, w.before args s = true := by
    intro w hw
    rcases List.mem_cons.mp hw with rfl | hw
    · exact hc
    · exact hts _ (List.mem_filter.mp hw).1
  have h : ∀ c : Nat, ∃ p : ClassId × (Nat → Nat), ∀ q, tb_cl[c]? = some q → u_Kn s q.1 q.2.1 q.2.2 p.1 p.2 := by
    intro c
    cases hq : tb_cl[c]? with
    | none => exact ⟨(0, fun _ => 0), fun q h => by cases h⟩
    | some q =>
      obtain ⟨cC, iS, hK⟩ := u_known (C := q.1) (T := q.2.1) (N := q.2.2) (n := q.2.2) hT (tb_cw (Y := Y) c q hq).1 (hts _ (tb_in hq))
      exact ⟨(cC, iS), fun q' h => by cases h; exact hK⟩
  have hA : ∀ a : Nat, a < s.heap.size → ¬ s.heap.size ≤ a := fun a h1 h2 => by omega
  have hS : ∀ n : Nat, ∃ q : Nat × Nat, ∀ t, tb_S[n]? = some t → tb_Sf (fun q => s.heap.size ≤ q) s t q := by
    intro n
    cases hq : tb_S[n]? with
    | none => exact ⟨(0, 0), fun t h => by cases h⟩
    | some t =>
      obtain ⟨q, hq'⟩ := tb_Sq (A := fun q => s.heap.size ≤ q) hts hf hA t (List.mem_of_getElem? hq)
      exact ⟨q, fun t' h => by cases h; exact hq'⟩
  obtain ⟨ad, had⟩ := Classical.axiomOfChoice hS
  have had' : ∀ t ∈ tb_S, tb_Sf (fun q => s.heap.size ≤ q) s t (ad (t.2.2.2 % 64)) := by
    intro t ht
    obtain ⟨n, hn⟩ := List.getElem?_of_mem ht
    rw [tb_Sn hn]
    exact had n t hn
  have hfm : ∃ v : Value, va_Z "jdk/internal/util/Preconditions" "SIOOBE_FORMATTER" "Ljava/util/function/BiFunction;" v (fun q => s.heap.size ≤ q) s s.heap ∧ v.category = 1 := by
    rcases va_Zqof (hts _ (tw_l (c := 4) (i := 6) rfl)) (hts _ (tw_l (c := 1) (i := 16) rfl)) (hf _ (tb_rfm _ (List.mem_of_getElem? (i := 3) rfl))) hA with h | ⟨t, h⟩
    · exact ⟨.null, h, rfl⟩
    · exact ⟨.ref t, h, rfl⟩
  obtain ⟨v, hv1, hv2⟩ := hfm
  refine ⟨(fun c => (Classical.choose (h c)).1, fun c => (Classical.choose (h c)).2), (b, fun n => (ad n).1, fun n => (ad n).2, tb_S.map (fun t => t.2.2.2), v), rfl, hT, ⟨fun c q hq => Classical.choose_spec (h c) q hq, fun k q hq => by cases hq⟩, tb_nw hts, tb_st0 hts hf, fun C hC => ?_, fun a b hab => ?_, ?_, ?_, fun q hq => hq, ⟨⟨va_Zof (hts _ (tw_l (c := 3) (i := 230) rfl)) (hts _ (tw_l (c := 1) (i := 14) rfl)) (va_eqt (hf _ (tb_rfm _ (List.mem_of_getElem? (i := 2) rfl)))) hA, hv1, hv2⟩, fun z hz => ?_⟩, fun t ht => ⟨List.mem_map.mpr ⟨t, ht, rfl⟩, (had' t ht).1⟩⟩
  · rcases List.mem_cons.mp hC with rfl | hC
    · exact va_AO.of (hts _ (tw_l (c := 2) (i := 44) rfl))
    · cases hC
  · have hne : a % 5 ≠ b % 5 := Nat.ne_of_beq_eq_false hab
    exact va_Nc.of (hf _ (tb_ncm (a % 5) (Nat.mod_lt _ (by decide)) (b % 5) (Nat.mod_lt _ (by decide)) hne))
  · exact vx_Zqof (hts _ (tw_l (c := 4) (i := 135) rfl)) (hts _ (tw_l (c := 1) (i := 19) rfl)) (hf _ (tb_rfm _ (List.mem_of_getElem? (i := 0) rfl))) hA
  · exact vx_Zqof (hts _ (tw_l (c := 4) (i := 137) rfl)) (hts _ (tw_l (c := 1) (i := 19) rfl)) (hf _ (tb_rfm _ (List.mem_of_getElem? (i := 1) rfl))) hA
  · obtain ⟨t, ht, rfl⟩ := List.mem_map.mp hz
    exact (had' t ht).2
