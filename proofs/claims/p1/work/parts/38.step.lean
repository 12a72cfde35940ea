/-! IN STEP: one instruction of the fast machine is one of the list machine -/
/-- a cell and its picture -/
def fcr (c : FC) (c' : AC) : Prop := match c with
  | .inl q => ∃ d' us', c' = .inl (q.1, q.2.1, d', us') ∧ (∀ j, j < q.2.1 → j < 4096 → fv (fAl q.2.2.1 q.2.2.2 j) = ea_al d' us' j) ∧ (q.1 = 0 → ∀ j, j < q.2.1 → j < 4096 → ∃ v, fv (fAl q.2.2.1 q.2.2.2 j) = .inl v)
  | .inr o => c' = .inr (o.1, o.2.map fv)
def ft (t : T8) (C : List AC) : Prop := ∀ a c, fg t a = some c → ∃ c', ea_nt C a = some c' ∧ fcr c c'
noncomputable def fou (o : Option FV ⊕ Nat) : Option AV ⊕ Nat := match o with
  | .inl v => .inl (v.map fv)
  | .inr n => .inr n
theorem fg_lt {t : T8} {a : Nat} {c : FC} (h : fg t a = some c) : a < 256 ∧ fg8 t a = some c := by
  unfold fg at h
  cases hb : Nat.ble 256 a with
  | true => rw [hb] at h; cases h
  | false =>
    rw [hb] at h
    exact ⟨Nat.lt_of_not_le (fun q => by rw [Nat.ble_eq_true_of_le q] at hb; cases hb), h⟩
theorem fg_ge {t : T8} {a : Nat} (h : a < 256) : fg t a = fg8 t a := by
  unfold fg
  have hb : Nat.ble 256 a = false := by rw [nb_le]; exact decide_eq_false (by omega)
  rw [hb]
theorem ea_nt_lt {α : Type} {l : List α} {n : Nat} {a : α} (h : ea_nt l n = some a) : n < l.length := by
  rw [ea_nt_eq] at h
  exact (List.getElem?_eq_some_iff.mp h).1
/-- a cell is set -/
theorem ft_set {t : T8} {C : List AC} (hR : ft t C) {a : Nat} {c0 c : FC} (h0 : fg t a = some c0) {c' : AC} (hc : fcr c c') : ∃ t', (∀ K : T8 → Option FR, fs8 t a c K = K t') ∧ ft t' (C.set a c') := by
  obtain ⟨ha, -⟩ := fg_lt h0
  obtain ⟨c1, hC, -⟩ := hR _ _ h0
  obtain ⟨t', e1, e2⟩ := fsok8 t a c ha
  refine ⟨t', e1, fun b cb hb => ?_⟩
  obtain ⟨hb1, hb2⟩ := fg_lt hb
  rw [e2 b hb1] at hb2
  by_cases hab : b = a
  · subst hab
    rw [if_pos rfl] at hb2
    cases hb2
    refine ⟨c', ?_, hc⟩
    rw [ea_nt_eq, List.getElem?_set_self (ea_nt_lt hC)]
  · rw [if_neg hab] at hb2
    obtain ⟨c2, h2, h3⟩ := hR b cb ((fg_ge hb1).trans hb2)
    refine ⟨c2, ?_, h3⟩
    rw [ea_nt_eq, List.getElem?_set_ne (fun q => hab q.symm), ← ea_nt_eq, h2]
/-- an element is stored -/
theorem fcr_store {ty n : Nat} {d : FV} {us : A12} {d' : AV} {us' : List (Nat × AV)} (h : ∀ j, j < n → j < 4096 → fv (fAl d us j) = ea_al d' us' j) (h0 : ty = 0 → ∀ j, j < n → j < 4096 → ∃ v, fv (fAl d us j) = .inl v) {j : Nat} (hj : j < 4096) (v : FV) (hv : ty = 0 → ∃ a, fv v = .inl a) : ∃ us1, (∀ K : A12 → Option FR, as12 us j v K = K us1) ∧ fcr (.inl (ty, n, d, us1)) (.inl (ty, n, d', (j, fv v) :: us')) := by
  obtain ⟨us1, e1, e2⟩ := asok12 us j v hj
  refine ⟨us1, e1, d', (j, fv v) :: us', rfl, fun q h1 h2 => ?_, fun h3 q h1 h2 => ?_⟩
  · rw [ea_al_at]
    show fv (@Option.rec FV (fun _ => FV) d (fun v => v) (ag12 us1 q)) = _
    rw [e2 q h2]
    by_cases hq : q = j
    · rw [if_pos hq, if_pos hq]
    · rw [if_neg hq, if_neg hq]
      exact h q h1 h2
  · show ∃ a, fv (@Option.rec FV (fun _ => FV) d (fun v => v) (ag12 us1 q)) = .inl a
    rw [e2 q h2]
    by_cases hq : q = j
    · rw [if_pos hq]; exact hv h3
    · rw [if_neg hq]; exact h0 h3 q h1 h2
/-- a table's row is as it should be -/
def fwf (q : Nat × Instr × Nat × Nat) : Bool := (Nat.beq (ea_len q.2.1) 0 || Nat.beq q.2.2.1 (q.1 + ea_len q.2.1)) && (match q.2.1 with
  | .goto o => match ea_to q.1 o with
    | some t => Nat.beq t q.2.2.2
    | none => false
  | .ifCond _ o => match ea_to q.1 o with
    | some t => Nat.beq t q.2.2.2
    | none => false
  | .if_icmp _ o => match ea_to q.1 o with
    | some t => Nat.beq t q.2.2.2
    | none => false
  | _ => true)
theorem ea_as_mem {α : Type} : ∀ {l : List (Nat × α)} {k : Nat} {a : α}, ea_as l k = some a → (k, a) ∈ l
  | [], k, a, h => by cases h
  | q :: t, k, a, h => by
    unfold ea_as at h
    cases hb : Nat.beq q.1 k with
    | true =>
      rw [hb] at h
      cases h
      have e : q.1 = k := Nat.eq_of_beq_eq_true hb
      subst e
      exact List.mem_cons_self
    | false =>
      rw [hb] at h
      exact List.mem_cons_of_mem _ (ea_as_mem (l := t) h)
theorem tb_wf0 : (List.range 352).all (fun m => (tb_code m).all fwf) = true := by decide +kernel
theorem tb_code_out {m : Nat} (h : 352 ≤ m) : tb_code m = [] := by
  have hb : Nat.blt m 352 = false := by
    show Nat.ble (m + 1) 352 = false
    rw [nb_le]; exact decide_eq_false (by omega)
  unfold tb_code
  rw [hb]
  rfl
theorem tb_wf {m pc nx tg : Nat} {i : Instr} (h : tb_cd m pc = some (i, nx, tg)) : fwf (pc, i, nx, tg) = true := by
  have hm := ea_as_mem h
  by_cases h1 : m < 352
  · exact List.all_eq_true.mp (List.all_eq_true.mp tb_wf0 m (List.mem_range.mpr h1)) _ hm
  · rw [tb_code_out (by omega)] at hm
    cases hm
theorem fwf_len {m pc nx tg : Nat} {i : Instr} (h : tb_cd m pc = some (i, nx, tg)) : ea_len i = 0 ∨ nx = pc + ea_len i := by
  have h := tb_wf h
  unfold fwf at h
  simp only [Bool.and_eq_true, Bool.or_eq_true] at h
  rcases h.1 with h | h
  · exact .inl (Nat.eq_of_beq_eq_true h)
  · exact .inr (Nat.eq_of_beq_eq_true h)
/-- a return stands here -/
def fre (m pc : Nat) : Prop := ∃ i nx tg, tb_cd m pc = some (i, nx, tg) ∧ (i = .ireturn ∨ i = .lreturn ∨ i = .return_)
/-- where it goes on, or how it ends -/
def fgo (Y : Option (List AI)) (cal : Nat → Nat → List (Nat × AV) → List AV → List AC → Nat → Nat → Option AR) (ih : FK) (m pc : Nat) (L : FL) (S : List FV) (C : List AC) (k w : Nat) (r : FR) : Prop :=
  (∃ pc' L' S' t' C' k' w', ea_1 (tb_P Y) cal m pc (L.map fl) (S.map fv) C k w = some (.inl (pc', List.map fl L', List.map fv S', C', k', w')) ∧ ft t' C' ∧ ih pc' L' S' (t', k', w') = some r) ∨
  (∃ C', ea_1 (tb_P Y) cal m pc (L.map fl) (S.map fv) C k w = some (.inr (fou r.1, C', r.2.2.1, r.2.2.2)) ∧ ft r.2.1 C' ∧ (fre m pc ∨ ∃ ce, r.1 = .inr ce))
section FST
variable {Y : Option (List AI)} {cal : Nat → Nat → List (Nat × AV) → List AV → List AC → Nat → Nat → Option AR}
theorem ep_cod_of {m pc nx tg : Nat} {i : Instr} (hc : tb_cd m pc = some (i, nx, tg)) : ep_cod (tb_P Y) m pc = some (i, nx - pc) := by
  show (tb_cd m pc).map (fun q => (q.1, q.2.1 - pc)) = _
  rw [hc]; rfl
theorem ea_lenb {m pc nx tg : Nat} {i : Instr} (hc : tb_cd m pc = some (i, nx, tg)) : (Nat.beq (ea_len i) 0 || Nat.beq (ea_len i) (nx - pc)) = true := by
  rcases fwf_len hc with h | h
  · rw [h]; rfl
  · have : nx - pc = ea_len i := by omega
    rw [this, Nat.beq_refl, Bool.or_true]
theorem ea1_p {m pc nx tg : Nat} {i : Instr} (hc : tb_cd m pc = some (i, nx, tg)) {L L' : List (Nat × AV)} {S S' : List AV} {C : List AC} {k w pc' : Nat} (hp : ea_p i pc (fp_nl m) L S = some (pc', L', S')) : ea_1 (tb_P Y) cal m pc L S C k w = some (.inl (pc', L', S', C, k, w)) := by
  have hp' : ea_p i pc (ep_nls (tb_P Y) m) L S = some (pc', L', S') := hp
  unfold ea_1
  rw [ep_cod_of hc]
  dsimp only
  rw [ea_lenb hc, hp']
  simp only [cond_true]
  rw [ea_fn_eq, ea_fL_eq, ea_fS_eq]
theorem ea1_h {m pc nx tg : Nat} {i : Instr} (hc : tb_cd m pc = some (i, nx, tg)) {L : List (Nat × AV)} {S S' : List AV} {C : List AC} {k w pc' : Nat} (hp : ea_p i pc (fp_nl m) L S = none) (hh : ea_h (ep_ini (tb_P Y) m) (ep_pl (tb_P Y) m) (ep_fty (tb_P Y)) (ep_scr (tb_P Y) m) i pc S C = some (pc', S', none, 0, 0)) : ea_1 (tb_P Y) cal m pc L S C k w = some (.inl (pc', L, S', C, k, w)) := by
  have hp' : ea_p i pc (ep_nls (tb_P Y) m) L S = none := hp
  unfold ea_1
  rw [ep_cod_of hc]
  dsimp only
  rw [ea_lenb hc, hp', hh]
  simp only [cond_true]
  rw [ea_fn_eq, ea_fS_eq, ea_fn_eq, ea_fn_eq]
  rfl
theorem ea1_hc {m pc nx tg : Nat} {i : Instr} (hc : tb_cd m pc = some (i, nx, tg)) {L : List (Nat × AV)} {S S' : List AV} {C C' : List AC} {k w pc' : Nat} (hp : ea_p i pc (fp_nl m) L S = none) (hh : ea_h (ep_ini (tb_P Y) m) (ep_pl (tb_P Y) m) (ep_fty (tb_P Y)) (ep_scr (tb_P Y) m) i pc S C = some (pc', S', some C', 0, 0)) : ea_1 (tb_P Y) cal m pc L S C k w = some (.inl (pc', L, S', C', k, w)) := by
  have hp' : ea_p i pc (ep_nls (tb_P Y) m) L S = none := hp
  unfold ea_1
  rw [ep_cod_of hc]
  dsimp only
  rw [ea_lenb hc, hp', hh]
  simp only [cond_true]
  rw [ea_fn_eq, ea_fS_eq, ea_fn_eq, ea_fn_eq, ea_fL_eq]
  rfl
theorem ea1_r {m pc nx tg : Nat} {i : Instr} (hc : tb_cd m pc = some (i, nx, tg)) {L : List (Nat × AV)} {S : List AV} {C : List AC} {k w : Nat} {v : Option AV} (hp : ea_p i pc (fp_nl m) L S = none) (hh : ea_h (ep_ini (tb_P Y) m) (ep_pl (tb_P Y) m) (ep_fty (tb_P Y)) (ep_scr (tb_P Y) m) i pc S C = none) (hr : ea_rt (fp_rtp m) i S = some v) : ea_1 (tb_P Y) cal m pc L S C k w = some (.inr (.inl v, C, k, w)) := by
  have hp' : ea_p i pc (ep_nls (tb_P Y) m) L S = none := hp
  have hr' : ea_rt (ep_rtp (tb_P Y) m) i S = some v := hr
  unfold ea_1
  rw [ep_cod_of hc]
  dsimp only
  rw [ea_lenb hc, hp', hh, hr']
  simp only [cond_true]
variable {m pc nx tg : Nat} {L : FL} {S : List FV} {t : T8} {C : List AC} {k w : Nat} {ih : FK} {cl : FIH} {r : FR} {i : Instr}
theorem fgo_p (hc : tb_cd m pc = some (i, nx, tg)) (hR : ft t C) {pc' : Nat} {L' : FL} {S' : List FV} (hp : ea_p i pc (fp_nl m) (L.map fl) (S.map fv) = some (pc', List.map fl L', List.map fv S')) (H : ih pc' L' S' (t, k, w) = some r) : fgo Y cal ih m pc L S C k w r :=
  .inl ⟨pc', L', S', t, C, k, w, ea1_p hc hp, hR, H⟩
theorem fgo_h (hc : tb_cd m pc = some (i, nx, tg)) (hR : ft t C) {pc' : Nat} {S' : List FV} (hp : ea_p i pc (fp_nl m) (L.map fl) (S.map fv) = none) (hh : ea_h (ep_ini (tb_P Y) m) (ep_pl (tb_P Y) m) (ep_fty (tb_P Y)) (ep_scr (tb_P Y) m) i pc (S.map fv) C = some (pc', List.map fv S', none, 0, 0)) (H : ih pc' L S' (t, k, w) = some r) : fgo Y cal ih m pc L S C k w r :=
  .inl ⟨pc', L, S', t, C, k, w, ea1_h hc hp hh, hR, H⟩
theorem fgo_hc (hc : tb_cd m pc = some (i, nx, tg)) {t' : T8} {C' : List AC} (hR : ft t' C') {pc' : Nat} {S' : List FV} (hp : ea_p i pc (fp_nl m) (L.map fl) (S.map fv) = none) (hh : ea_h (ep_ini (tb_P Y) m) (ep_pl (tb_P Y) m) (ep_fty (tb_P Y)) (ep_scr (tb_P Y) m) i pc (S.map fv) C = some (pc', List.map fv S', some C', 0, 0)) (H : ih pc' L S' (t', k, w) = some r) : fgo Y cal ih m pc L S C k w r :=
  .inl ⟨pc', L, S', t', C', k, w, ea1_hc hc hp hh, hR, H⟩
theorem fo_gen_ok (hc : tb_cd m pc = some (i, nx, tg)) (hR : ft t C) (H : fo_gen i m pc nx tg L S (t, k, w) ih cl = some r) : fgo Y cal ih m pc L S C k w r := by
  unfold fo_gen at H
  have H' := fr_O H; clear H; obtain ⟨⟨pc', L1, S1⟩, hp, H⟩ := H'
  replace H : fN pc' (fun pc => fLb L1 (fun L => fSb S1 (fun S => ih pc L S (t, k, w)))) = some r := H
  obtain ⟨L', h1, h2⟩ := fLb_ok L1
  obtain ⟨S', h3, h4⟩ := fSb_ok S1
  rw [fN_eq, h2, h4] at H
  subst h1
  subst h3
  exact fgo_p hc hR hp H
theorem nx1 (hc : tb_cd m pc = some (i, nx, tg)) {n : Nat} (h : ea_len i = n + 1) : nx = pc + (n + 1) := by
  rcases fwf_len hc with h1 | h1
  · omega
  · omega
theorem fo_push_ok {z : Int} (hc : tb_cd m pc = some (.iconst z, nx, tg)) (hR : ft t C) (H : fo_push z m pc nx tg L S (t, k, w) ih cl = some r) : fgo Y cal ih m pc L S C k w r := by
  unfold fo_push at H
  rw [fN_eq, nx1 hc (n := 0) rfl] at H
  refine fgo_p (L' := L) (S' := .inl (fZ z) :: S) hc hR ?_ H
  show (some (pc + 1, L.map fl, .inl (.inl (Int32.ofInt z)) :: S.map fv) : Option (Nat × List (Nat × AV) × List AV)) = some (pc + 1, L.map fl, .inl (.inl (ea_n (fZ z))) :: S.map fv)
  rw [en_ofInt]
theorem fZb_ok {b : Nat} {z : Int} (h : fZb b z = true) : -(b : Int) - 1 ≤ z ∧ z ≤ b := by
  cases z with
  | ofNat n =>
    have : n ≤ b := Nat.le_of_ble_eq_true h
    have e : (Int.ofNat n) = (n : Int) := rfl
    omega
  | negSucc n =>
    have : n ≤ b := Nat.le_of_ble_eq_true h
    rw [Int.negSucc_eq]
    omega
theorem en_i8 {z : Int} (h : fZb 127 z = true) : (Int8.ofInt z).toInt32 = ea_n (fZ z) := by
  have h1 := fZb_ok h
  rw [← en_ofInt]
  apply Int32.toInt_inj.mp
  rw [Int8.toInt_toInt32, Int8.toInt_ofInt_of_le (by omega) (by omega), Int32.toInt_ofInt_of_le (by omega) (by omega)]
theorem en_i16 {z : Int} (h : fZb 32767 z = true) : (Int16.ofInt z).toInt32 = ea_n (fZ z) := by
  have h1 := fZb_ok h
  rw [← en_ofInt]
  apply Int32.toInt_inj.mp
  rw [Int16.toInt_toInt32, Int16.toInt_ofInt_of_le (by omega) (by omega), Int32.toInt_ofInt_of_le (by omega) (by omega)]
theorem fo_bip_ok {z : Int} (hc : tb_cd m pc = some (.bipush z, nx, tg)) (hR : ft t C) (H : fo_pun 127 z m pc nx tg L S (t, k, w) ih cl = some r) : fgo Y cal ih m pc L S C k w r := by
  unfold fo_pun at H
  have H' := fr_B H; clear H; obtain ⟨hb, H⟩ := H'
  rw [fN_eq, nx1 hc (n := 1) rfl] at H
  refine fgo_p (L' := L) (S' := .inl (fZ z) :: S) hc hR ?_ H
  show (some (pc + 2, L.map fl, .inl (.inl (Int8.ofInt z).toInt32) :: S.map fv) : Option (Nat × List (Nat × AV) × List AV)) = some (pc + 2, L.map fl, .inl (.inl (ea_n (fZ z))) :: S.map fv)
  rw [en_i8 hb]
theorem fo_sip_ok {z : Int} (hc : tb_cd m pc = some (.sipush z, nx, tg)) (hR : ft t C) (H : fo_pun 32767 z m pc nx tg L S (t, k, w) ih cl = some r) : fgo Y cal ih m pc L S C k w r := by
  unfold fo_pun at H
  have H' := fr_B H; clear H; obtain ⟨hb, H⟩ := H'
  rw [fN_eq, nx1 hc (n := 2) rfl] at H
  refine fgo_p (L' := L) (S' := .inl (fZ z) :: S) hc hR ?_ H
  show (some (pc + 3, L.map fl, .inl (.inl (Int16.ofInt z).toInt32) :: S.map fv) : Option (Nat × List (Nat × AV) × List AV)) = some (pc + 3, L.map fl, .inl (.inl (ea_n (fZ z))) :: S.map fv)
  rw [en_i16 hb]
theorem fo_ild_ok {x n : Nat} (hc : tb_cd m pc = some (i, nx, tg)) (hl : ea_len i = n + 1) (hi : ∀ (L : List (Nat × AV)) (S : List AV) (a : AI), ea_lk L x = some (.inl a) → ea_p i pc (fp_nl m) L S = some (pc + (n + 1), L, .inl a :: S)) (hR : ft t C) (H : fo_ild (fo_gen i) x m pc nx tg L S (t, k, w) ih cl = some r) : fgo Y cal ih m pc L S C k w r := by
  unfold fo_ild at H
  have H' := fr_O H; clear H; obtain ⟨v, hv, H⟩ := H'
  have H' := fr_I H; clear H; rcases H' with ⟨y, rfl, H⟩ | ⟨u, rfl, H⟩
  · rw [nx1 hc hl] at H
    exact fgo_p (L' := L) (S' := .inl y :: S) hc hR (hi _ _ _ (fLk_some hv)) H
  · exact fo_gen_ok hc hR H
theorem fo_ald_ok {x n : Nat} (hc : tb_cd m pc = some (i, nx, tg)) (hl : ea_len i = n + 1) (hi : ∀ (L : List (Nat × AV)) (S : List AV) (a : AV), ea_lk L x = some a → ea_isr a = true → ea_p i pc (fp_nl m) L S = some (pc + (n + 1), L, a :: S)) (hR : ft t C) (H : fo_ald x m pc nx tg L S (t, k, w) ih cl = some r) : fgo Y cal ih m pc L S C k w r := by
  unfold fo_ald at H
  have H' := fr_O H; clear H; obtain ⟨v, hv, H⟩ := H'
  have H' := fr_B H; clear H; obtain ⟨hb, H⟩ := H'
  rw [nx1 hc hl] at H
  rw [fRs_ok] at hb
  exact fgo_p (L' := L) (S' := v :: S) hc hR (hi _ _ _ (fLk_some hv) hb) H
theorem fo_lld_ok {x n : Nat} (hc : tb_cd m pc = some (i, nx, tg)) (hl : ea_len i = n + 1) (hi : ∀ (L : List (Nat × AV)) (S : List AV) (a : Option Int64), ea_lk L x = some (.inr (.inr (.inl a))) → ea_p i pc (fp_nl m) L S = some (pc + (n + 1), L, .inr (.inr (.inl a)) :: S)) (hR : ft t C) (H : fo_lld x m pc nx tg L S (t, k, w) ih cl = some r) : fgo Y cal ih m pc L S C k w r := by
  unfold fo_lld at H
  have H' := fr_O H; clear H; obtain ⟨v, hv, H⟩ := H'
  have H' := fr_B H; clear H; obtain ⟨hb, H⟩ := H'
  obtain ⟨a, ha⟩ := fLs_ok hb
  rw [nx1 hc hl] at H
  have hv := fLk_some hv
  rw [ha] at hv
  refine fgo_p (L' := L) (S' := v :: S) hc hR ?_ H
  rw [List.map_cons, ha]
  exact hi _ _ _ hv
theorem fo_ist_ok {x n : Nat} (hc : tb_cd m pc = some (i, nx, tg)) (hl : ea_len i = n + 1) (hi : ∀ (L : List (Nat × AV)) (S : List AV) (a : AI), x < fp_nl m → ea_p i pc (fp_nl m) L (.inl a :: S) = some (pc + (n + 1), ea_s1 L x (.inl a), S)) (hR : ft t C) (H : fo_ist x m pc nx tg L S (t, k, w) ih cl = some r) : fgo Y cal ih m pc L S C k w r := by
  unfold fo_ist at H
  have H' := fr_P H; clear H; obtain ⟨v, T, _, rfl, H⟩ := H'
  have H' := fr_B H; clear H; obtain ⟨hb, H⟩ := H'
  have H' := fr_B H; clear H; obtain ⟨hx, H⟩ := H'
  obtain ⟨a, ha⟩ := fIs_ok hb
  rw [fSt_ok, nx1 hc hl] at H
  refine fgo_p (L' := (x, v) :: L.filter (fKp x)) (S' := T) hc hR ?_ H
  rw [List.map_cons, ← fs1_ok, ha]
  exact hi _ _ _ (Nat.le_of_ble_eq_true hx)
theorem fo_ast_ok {x n : Nat} (hc : tb_cd m pc = some (i, nx, tg)) (hl : ea_len i = n + 1) (hi : ∀ (L : List (Nat × AV)) (S : List AV) (a : AV), ea_isr a = true → x < fp_nl m → ea_p i pc (fp_nl m) L (a :: S) = some (pc + (n + 1), ea_s1 L x a, S)) (hR : ft t C) (H : fo_ast x m pc nx tg L S (t, k, w) ih cl = some r) : fgo Y cal ih m pc L S C k w r := by
  unfold fo_ast at H
  have H' := fr_P H; clear H; obtain ⟨v, T, _, rfl, H⟩ := H'
  have H' := fr_B H; clear H; obtain ⟨hb, H⟩ := H'
  have H' := fr_B H; clear H; obtain ⟨hx, H⟩ := H'
  rw [fRs_ok] at hb
  rw [fSt_ok, nx1 hc hl] at H
  refine fgo_p (L' := (x, v) :: L.filter (fKp x)) (S' := T) hc hR ?_ H
  rw [List.map_cons, ← fs1_ok]
  exact hi _ _ _ hb (Nat.le_of_ble_eq_true hx)
theorem fo_iinc_ok {x : Nat} {z : Int} (hc : tb_cd m pc = some (.iinc x z, nx, tg)) (hR : ft t C) (H : fo_iinc x z m pc nx tg L S (t, k, w) ih cl = some r) : fgo Y cal ih m pc L S C k w r := by
  unfold fo_iinc at H
  have H' := fr_O H; clear H; obtain ⟨v, hv, H⟩ := H'
  have H' := fr_I H; clear H; rcases H' with ⟨y, rfl, H⟩ | ⟨u, rfl, H⟩
  · have H' := fr_B H; clear H; obtain ⟨hx, H⟩ := H'
    rw [fN_eq, fSt_ok, nx1 hc (n := 2) rfl] at H
    refine fgo_p (L' := (x, .inl (Nat.mod (Nat.add y (fZ z)) 4294967296)) :: L.filter (fKp x)) (S' := S) hc hR ?_ H
    rw [← fs1_ok]
    show (match ea_lk (L.map fl) x with
      | some (.inl a) => if x < fp_nl m then some (pc + 3, ea_s1 (L.map fl) x (.inl (ea_i1 (fun x => x + Int32.ofInt z) a)), S.map fv) else none
      | _ => none) = _
    rw [fLk_some hv]
    show (if x < fp_nl m then some (pc + 3, ea_s1 (L.map fl) x (.inl (.inl (ea_n y + Int32.ofInt z))), S.map fv) else none) = some (pc + 3, ea_s1 (L.map fl) x (.inl (.inl (ea_n (Nat.mod (Nat.add y (fZ z)) 4294967296)))), S.map fv)
    rw [if_pos (show x < fp_nl m from Nat.le_of_ble_eq_true hx), en_ofInt, en_add]
  · cases H
theorem fo_bin_ok {f : Nat → Nat → Nat} (hc : tb_cd m pc = some (i, nx, tg)) (hl : ea_len i = 1) (hi : ∀ (L : List (Nat × AV)) (S : List AV) (x y : Nat), ea_p i pc (fp_nl m) L (.inl (.inl (ea_n y)) :: .inl (.inl (ea_n x)) :: S) = some (pc + 1, L, .inl (.inl (ea_n (f x y))) :: S)) (hR : ft t C) (H : fo_bin (fo_gen i) f m pc nx tg L S (t, k, w) ih cl = some r) : fgo Y cal ih m pc L S C k w r := by
  unfold fo_bin at H
  have H' := fr_P H; clear H; obtain ⟨b, T, _, rfl, H⟩ := H'
  have H' := fr_P H; clear H; obtain ⟨a, T, _, rfl, H⟩ := H'
  have H' := fr_I H; clear H; rcases H' with ⟨x, rfl, H⟩ | ⟨u, rfl, H⟩
  · have H' := fr_I H; clear H; rcases H' with ⟨y, rfl, H⟩ | ⟨u, rfl, H⟩
    · rw [fN_eq, nx1 hc (n := 0) hl] at H
      exact fgo_p (L' := L) (S' := .inl (f x y) :: T) hc hR (hi _ _ x y) H
    · exact fo_gen_ok hc hR H
  · exact fo_gen_ok hc hR H
theorem fo_dup_ok (hc : tb_cd m pc = some (.dup, nx, tg)) (hR : ft t C) (H : fo_dup m pc nx tg L S (t, k, w) ih cl = some r) : fgo Y cal ih m pc L S C k w r := by
  unfold fo_dup at H
  have H' := fr_P H; clear H; obtain ⟨a, T, _, rfl, H⟩ := H'
  have H' := fr_B H; clear H; obtain ⟨hb, H⟩ := H'
  rw [nx1 hc (n := 0) rfl] at H
  refine fgo_p (L' := L) (S' := a :: a :: T) hc hR ?_ H
  rw [fCat_ok] at hb
  show (if ea_cat (fv a) = 1 then some (pc + 1, L.map fl, fv a :: fv a :: T.map fv) else none) = _
  rw [if_pos (Nat.eq_of_beq_eq_true hb)]
  rfl
theorem fo_pop_ok (hc : tb_cd m pc = some (.pop, nx, tg)) (hR : ft t C) (H : fo_pop m pc nx tg L S (t, k, w) ih cl = some r) : fgo Y cal ih m pc L S C k w r := by
  unfold fo_pop at H
  have H' := fr_P H; clear H; obtain ⟨a, T, _, rfl, H⟩ := H'
  have H' := fr_B H; clear H; obtain ⟨hb, H⟩ := H'
  rw [nx1 hc (n := 0) rfl] at H
  refine fgo_p (L' := L) (S' := T) hc hR ?_ H
  rw [fCat_ok] at hb
  show (if ea_cat (fv a) = 1 then some (pc + 1, L.map fl, T.map fv) else none) = _
  rw [if_pos (Nat.eq_of_beq_eq_true hb)]
theorem fwf_goto {o : Int} (hc : tb_cd m pc = some (.goto o, nx, tg)) : ea_to pc o = some tg := by
  have h := tb_wf hc
  unfold fwf at h
  simp only [Bool.and_eq_true] at h
  have h := h.2
  split at h
  · rename_i t ht; rw [ht, Nat.eq_of_beq_eq_true h]
  · cases h
theorem fwf_if {o : Int} {c : Jvm.ClassFile.Cond} (hc : tb_cd m pc = some (.ifCond c o, nx, tg)) : ea_to pc o = some tg := by
  have h := tb_wf hc
  unfold fwf at h
  simp only [Bool.and_eq_true] at h
  have h := h.2
  split at h
  · rename_i t ht; rw [ht, Nat.eq_of_beq_eq_true h]
  · cases h
theorem fwf_icmp {o : Int} {c : Jvm.ClassFile.Cond} (hc : tb_cd m pc = some (.if_icmp c o, nx, tg)) : ea_to pc o = some tg := by
  have h := tb_wf hc
  unfold fwf at h
  simp only [Bool.and_eq_true] at h
  have h := h.2
  split at h
  · rename_i t ht; rw [ht, Nat.eq_of_beq_eq_true h]
  · cases h
theorem fo_goto_ok {o : Int} (hc : tb_cd m pc = some (.goto o, nx, tg)) (hR : ft t C) (H : fo_goto o m pc nx tg L S (t, k, w) ih cl = some r) : fgo Y cal ih m pc L S C k w r := by
  unfold fo_goto at H
  refine fgo_p (L' := L) (S' := S) hc hR ?_ H
  show (match ea_to pc o with
    | some t => some (t, L.map fl, S.map fv)
    | none => none) = _
  rw [fwf_goto hc]
theorem fo_if_ok {c : Jvm.ClassFile.Cond} {o : Int} (hc : tb_cd m pc = some (.ifCond c o, nx, tg)) (hR : ft t C) (H : fo_if (fo_gen (.ifCond c o)) c m pc nx tg L S (t, k, w) ih cl = some r) : fgo Y cal ih m pc L S C k w r := by
  unfold fo_if at H
  have H' := fr_P H; clear H; obtain ⟨a, T, _, rfl, H⟩ := H'
  have H' := fr_I H; clear H; rcases H' with ⟨x, rfl, H⟩ | ⟨u, rfl, H⟩
  · have e : ea_if c (.inl (ea_n x)) (.inl 0) = some (fCk c x 0) := by
      rw [en_ck]; rfl
    have e2 : ∀ b q, fCk c x 0 = b → q = (if b = true then tg else pc + 3) → ea_p (.ifCond c o) pc (fp_nl m) (L.map fl) (List.map fv (.inl x :: T)) = some (q, L.map fl, T.map fv) := by
      intro b q hb hq
      show (match ea_if c (.inl (ea_n x)) (.inl 0), ea_to pc o with
        | some true, some t => some (t, L.map fl, T.map fv)
        | some false, some _ => some (pc + 3, L.map fl, T.map fv)
        | _, _ => none) = _
      rw [e, fwf_if hc, hb, hq]
      cases b <;> rfl
    have H' := fr_B2 H; clear H; rcases H' with ⟨hb, H⟩ | ⟨hb, H⟩
    · exact fgo_p (L' := L) (S' := T) hc hR (e2 _ _ hb rfl) H
    · rw [nx1 hc (n := 2) rfl] at H
      exact fgo_p (L' := L) (S' := T) hc hR (e2 _ _ hb rfl) H
  · exact fo_gen_ok hc hR H
theorem fo_icmp_ok {c : Jvm.ClassFile.Cond} {o : Int} (hc : tb_cd m pc = some (.if_icmp c o, nx, tg)) (hR : ft t C) (H : fo_icmp (fo_gen (.if_icmp c o)) c m pc nx tg L S (t, k, w) ih cl = some r) : fgo Y cal ih m pc L S C k w r := by
  unfold fo_icmp at H
  have H' := fr_P H; clear H; obtain ⟨b, T, _, rfl, H⟩ := H'
  have H' := fr_P H; clear H; obtain ⟨a, T, _, rfl, H⟩ := H'
  have H' := fr_I H; clear H; rcases H' with ⟨x, rfl, H⟩ | ⟨u, rfl, H⟩
  · have H' := fr_I H; clear H; rcases H' with ⟨y, rfl, H⟩ | ⟨u, rfl, H⟩
    · have e : ea_if c (.inl (ea_n x)) (.inl (ea_n y)) = some (fCk c x y) := by
        rw [en_ck]; rfl
      have e2 : ∀ b q, fCk c x y = b → q = (if b = true then tg else pc + 3) → ea_p (.if_icmp c o) pc (fp_nl m) (L.map fl) (List.map fv (.inl y :: .inl x :: T)) = some (q, L.map fl, T.map fv) := by
        intro b q hb hq
        show (match ea_if c (.inl (ea_n x)) (.inl (ea_n y)), ea_to pc o with
          | some true, some t => some (t, L.map fl, T.map fv)
          | some false, some _ => some (pc + 3, L.map fl, T.map fv)
          | _, _ => none) = _
        rw [e, fwf_icmp hc, hb, hq]
        cases b <;> rfl
      have H' := fr_B2 H; clear H; rcases H' with ⟨hb, H⟩ | ⟨hb, H⟩
      · exact fgo_p (L' := L) (S' := T) hc hR (e2 _ _ hb rfl) H
      · rw [nx1 hc (n := 2) rfl] at H
        exact fgo_p (L' := L) (S' := T) hc hR (e2 _ _ hb rfl) H
    · exact fo_gen_ok hc hR H
  · exact fo_gen_ok hc hR H
end FST
