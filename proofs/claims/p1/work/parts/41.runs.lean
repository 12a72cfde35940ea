/-! IN STEP: every instruction, and a run -/
section FRU
variable {Y : Option (List AI)} {cal : Nat → Nat → List (Nat × AV) → List AV → List AC → Nat → Nat → Option AR}
variable {m pc nx tg : Nat} {L : FL} {S : List FV} {t : T8} {C : List AC} {k w : Nat} {ih : FK} {cl : FIH} {r : FR}
theorem if_some {α : Type} {p : Prop} [Decidable p] (h : p) (a b : α) : (if p then a else b) = a := if_pos h
theorem fx_d_ok {i : Instr} (hc : tb_cd m pc = some (i, nx, tg)) (hcal : fcl cl cal) (hR : ft t C) (H : fx_d i m pc nx tg L S (t, k, w) ih cl = some r) : fgo Y cal ih m pc L S C k w r := by
  have hld : ∀ (j : Instr) (x n : Nat), (∀ (L : List (Nat × AV)) (S : List AV), ea_p j pc (fp_nl m) L S = (match ea_lk L x with
      | some (.inl a) => some (pc + (n + 1), L, .inl a :: S)
      | _ => none)) → ∀ (L : List (Nat × AV)) (S : List AV) (a : AI), ea_lk L x = some (.inl a) → ea_p j pc (fp_nl m) L S = some (pc + (n + 1), L, .inl a :: S) := by
    intro j x n h L S a ha
    rw [h, ha]
  have hll : ∀ (j : Instr) (x n : Nat), (∀ (L : List (Nat × AV)) (S : List AV), ea_p j pc (fp_nl m) L S = (match ea_lk L x with
      | some (.inr (.inr (.inl a))) => some (pc + (n + 1), L, .inr (.inr (.inl a)) :: S)
      | _ => none)) → ∀ (L : List (Nat × AV)) (S : List AV) (a : Option Int64), ea_lk L x = some (.inr (.inr (.inl a))) → ea_p j pc (fp_nl m) L S = some (pc + (n + 1), L, .inr (.inr (.inl a)) :: S) := by
    intro j x n h L S a ha
    rw [h, ha]
  have hla : ∀ (j : Instr) (x n : Nat), (∀ (L : List (Nat × AV)) (S : List AV), ea_p j pc (fp_nl m) L S = (match ea_lk L x with
      | some a => if ea_isr a = true then some (pc + (n + 1), L, a :: S) else none
      | none => none)) → ∀ (L : List (Nat × AV)) (S : List AV) (a : AV), ea_lk L x = some a → ea_isr a = true → ea_p j pc (fp_nl m) L S = some (pc + (n + 1), L, a :: S) := by
    intro j x n h L S a ha hi
    rw [h, ha]
    dsimp only
    rw [if_pos hi]
  cases i with
  | aaload => exact fo_aal_ok (cl := cl) hc hR H
  | aastore => exact fo_aas_ok (cl := cl) hc hR H
  | aload x => exact fo_ald_ok (cl := cl) hc rfl (hla (.aload x) x 1 (fun _ _ => rfl)) hR H
  | aload_n x => exact fo_ald_ok (cl := cl) hc rfl (hla (.aload_n x) x.1 0 (fun _ _ => rfl)) hR H
  | arraylength => exact fo_alen_ok (cl := cl) hc hR H
  | astore x => exact fo_ast_ok (cl := cl) (n := 1) hc rfl (fun L S a h1 h2 => if_pos ⟨h1, h2⟩) hR H
  | astore_n x => exact fo_ast_ok (cl := cl) (n := 0) hc rfl (fun L S a h1 h2 => if_pos ⟨h1, h2⟩) hR H
  | baload => exact fo_bal_ok (cl := cl) hc hR H
  | bastore => exact fo_bas_ok (cl := cl) hc hR H
  | bipush z => exact fo_bip_ok (cl := cl) hc hR H
  | dup => exact fo_dup_ok (cl := cl) hc hR H
  | dup_x1 => exact fo_gen_ok (cl := cl) hc hR H
  | dup_x2 => exact fo_gen_ok (cl := cl) hc hR H
  | dup2 => exact fo_gen_ok (cl := cl) hc hR H
  | getfield x => exact fo_get_ok (cl := cl) hc hR H
  | goto o => exact fo_goto_ok (cl := cl) hc hR H
  | i2b => exact fo_gen_ok (cl := cl) hc hR H
  | i2l => exact fo_gen_ok (cl := cl) hc hR H
  | iadd => exact fo_bin_ok (cl := cl) hc rfl (fun L S x y => by
      show some (pc + 1, L, .inl (.inl (ea_n x + ea_n y)) :: S) = _
      rw [en_add]) hR H
  | isub => exact fo_bin_ok (cl := cl) hc rfl (fun L S x y => by
      show some (pc + 1, L, .inl (.inl (ea_n x - ea_n y)) :: S) = _
      rw [en_sub]) hR H
  | imul => exact fo_bin_ok (cl := cl) hc rfl (fun L S x y => by
      show some (pc + 1, L, .inl (.inl (ea_n x * ea_n y)) :: S) = _
      rw [en_mul]) hR H
  | iaload => exact fo_ial_ok (cl := cl) hc hR H
  | iand => exact fo_gen_ok (cl := cl) hc hR H
  | iastore => exact fo_ias_ok (cl := cl) hc hR H
  | iconst z => exact fo_push_ok (cl := cl) hc hR H
  | idiv => exact fo_gen_ok (cl := cl) hc hR H
  | if_icmp c o => exact fo_icmp_ok (cl := cl) hc hR H
  | ifCond c o => exact fo_if_ok (cl := cl) hc hR H
  | iinc x z => exact fo_iinc_ok (cl := cl) hc hR H
  | iload x => exact fo_ild_ok (cl := cl) hc rfl (hld (.iload x) x 1 (fun _ _ => rfl)) hR H
  | iload_n x => exact fo_ild_ok (cl := cl) hc rfl (hld (.iload_n x) x.1 0 (fun _ _ => rfl)) hR H
  | ineg => exact fo_gen_ok (cl := cl) hc hR H
  | invokespecial x => exact fo_ivp_ok (cl := cl) hc hcal hR H
  | invokestatic x => exact fo_ivs_ok (cl := cl) hc hcal hR H
  | invokevirtual x => exact fo_ivv_ok (cl := cl) hc hcal hR H
  | ior => exact fo_gen_ok (cl := cl) hc hR H
  | irem => exact fo_gen_ok (cl := cl) hc hR H
  | ireturn => exact fo_ire_ok (cl := cl) hc hR H
  | ishl => exact fo_gen_ok (cl := cl) hc hR H
  | ishr => exact fo_gen_ok (cl := cl) hc hR H
  | istore x => exact fo_ist_ok (cl := cl) (n := 1) hc rfl (fun L S a h => if_pos h) hR H
  | istore_n x => exact fo_ist_ok (cl := cl) (n := 0) hc rfl (fun L S a h => if_pos h) hR H
  | iushr => exact fo_gen_ok (cl := cl) hc hR H
  | ixor => exact fo_gen_ok (cl := cl) hc hR H
  | l2i => exact fo_gen_ok (cl := cl) hc hR H
  | ladd => exact fo_gen_ok (cl := cl) hc hR H
  | laload => exact fo_lal_ok (cl := cl) hc hR H
  | land => exact fo_gen_ok (cl := cl) hc hR H
  | lastore => exact fo_las_ok (cl := cl) hc hR H
  | lcmp => exact fo_gen_ok (cl := cl) hc hR H
  | lconst z => exact fo_gen_ok (cl := cl) hc hR H
  | ldc x => exact fo_ldc_ok (cl := cl) hc hR H
  | ldc_w x => exact fo_ldcw_ok (cl := cl) hc hR H
  | ldc2_w x => exact fo_ldc2_ok (cl := cl) hc hR H
  | lload x => exact fo_lld_ok (cl := cl) hc rfl (hll (.lload x) x 1 (fun _ _ => rfl)) hR H
  | lload_n x => exact fo_lld_ok (cl := cl) hc rfl (hll (.lload_n x) x.1 0 (fun _ _ => rfl)) hR H
  | lookupswitch d ps => exact fo_gen_ok (cl := cl) hc hR H
  | lor => exact fo_gen_ok (cl := cl) hc hR H
  | lreturn => exact fo_lre_ok (cl := cl) hc hR H
  | lshl => exact fo_gen_ok (cl := cl) hc hR H
  | lshr => exact fo_gen_ok (cl := cl) hc hR H
  | lstore x => exact fo_gen_ok (cl := cl) hc hR H
  | lstore_n x => exact fo_gen_ok (cl := cl) hc hR H
  | lsub => exact fo_gen_ok (cl := cl) hc hR H
  | lushr => exact fo_gen_ok (cl := cl) hc hR H
  | lxor => exact fo_gen_ok (cl := cl) hc hR H
  | new x => exact fo_new_ok (cl := cl) hc hR H
  | pop => exact fo_pop_ok (cl := cl) hc hR H
  | pop2 => exact fo_gen_ok (cl := cl) hc hR H
  | putfield x => exact fo_put_ok (cl := cl) hc hR H
  | return_ => exact fo_re_ok (cl := cl) hc hR H
  | sipush z => exact fo_sip_ok (cl := cl) hc hR H
  | tableswitch d lo hi os => exact fo_gen_ok (cl := cl) hc hR H
  | _ => exact (nomatch (show (none : Option FR) = some r from H))
/-- the list machine's run of one method, its calls by cal -/
def ea_Lp (P : EP) (cal : Nat → Nat → List (Nat × AV) → List AV → List AC → Nat → Nat → Option AR) (m : Nat) (n : Nat) : Nat → List (Nat × AV) → List AV → List AC → Nat → Nat → Option AR := Nat.rec (fun _ _ _ _ _ _ => none) (fun _ ih pc L S C k w => match ea_1 P cal m pc L S C k w with
  | some (.inl (pc, L, S, C, k, w)) => ih pc L S C k w
  | some (.inr r) => some r
  | none => none) n
/-- its calls, so deep -/
def ea_R (P : EP) (d : Nat) : Nat → Nat → List (Nat × AV) → List AV → List AC → Nat → Nat → Option AR := Nat.rec (fun _ _ _ _ _ _ _ => none) (fun _ cal m pc L S C k w => ea_Lp P cal m 100000 pc L S C k w) d
theorem ea_Lp_ok {P : EP} {N : EN} {D : va_G} {A : Nat → Prop} {sb : Nat} {l : Launch} (hpr : ea_pr P N) (hst : l.stackTraces = false) {cal : Nat → Nat → List (Nat × AV) → List AV → List AC → Nat → Nat → Option AR}
    (hcal : ∀ (mi pc : Nat) (L : List (Nat × AV)) (S : List AV) (C : List AC) (k w : Nat) (o : Option AV ⊕ Nat) (C' : List AC) (k1 w1 : Nat), mi < en_k N → cal mi pc L S C k w = some (o, C', k1, w1) → ea_good P N D A sb l mi pc L S C k w o C' k1 w1) {mi : Nat} (hmi : mi < en_k N) (n : Nat) : ∀ (pc : Nat) (L : List (Nat × AV)) (S : List AV) (C : List AC) (k w : Nat) (o : Option AV ⊕ Nat) (C' : List AC) (k1 w1 : Nat), ea_Lp P cal mi n pc L S C k w = some (o, C', k1, w1) → ea_good P N D A sb l mi pc L S C k w o C' k1 w1 := by
  induction n with
  | zero => intro pc L S C k w o C' k1 w1 h; cases h
  | succ n IH =>
    intro pc L S C k w o C' k1 w1 hx
    have h : (match ea_1 P cal mi pc L S C k w with
      | some (.inl (pc, L, S, C, k, w)) => ea_Lp P cal mi n pc L S C k w
      | some (.inr r) => some r
      | none => none) = some (o, C', k1, w1) := hx
    clear hx
    split at h
    · rename_i pc' L' S' C2 k' w' h1
      obtain ⟨j1, j2, j3⟩ : ea_goes P N D A sb l mi pc L S C k w (pc', L', S', C2, k', w') := ea_1_ok hpr hst hcal hmi h1
      obtain ⟨i1, i2, i3⟩ := IH _ _ _ _ _ _ _ _ _ _ h
      dsimp only at j1 j2 j3
      refine ⟨Nat.le_trans j1 i1, Nat.le_trans j2 i2, fun p e s m args below meth c H locs ls st ws ws0 hcx hW hext hl hs => ?_⟩
      exact j3 k1 w1 p e s m args below meth c H locs ls st ws _ i1 i2 hcx hW hl hs (fun H' locs' ls' st' ws' hext' hW' hl' hs' => i3 p e s m args below meth c H' locs' ls' st' ws' ws0 hcx hW' (ea_ext_t hext hext') hl' hs')
    · rename_i r h1
      cases h
      exact ea_1_ok hpr hst hcal hmi h1
    · cases h
theorem ea_R_ok {P : EP} {N : EN} {D : va_G} {A : Nat → Prop} {sb : Nat} {l : Launch} (hpr : ea_pr P N) (hst : l.stackTraces = false) (d : Nat) : ∀ (mi pc : Nat) (L : List (Nat × AV)) (S : List AV) (C : List AC) (k w : Nat) (o : Option AV ⊕ Nat) (C' : List AC) (k1 w1 : Nat), mi < en_k N → ea_R P d mi pc L S C k w = some (o, C', k1, w1) → ea_good P N D A sb l mi pc L S C k w o C' k1 w1 := by
  induction d with
  | zero => intro mi pc L S C k w o C' k1 w1 _ h; cases h
  | succ d IH =>
    intro mi pc L S C k w o C' k1 w1 hmi h
    exact ea_Lp_ok hpr hst IH hmi 100000 _ _ _ _ _ _ _ _ _ _ h
/-- the fast run of one method is the list machine's -/
theorem fx_L_ok (hcal : fcl cl cal) (n : Nat) : ∀ (pc : Nat) (L : FL) (S : List FV) (t : T8) (C : List AC) (k w : Nat) (r : FR), ft t C → fx_L cl m n pc L S (t, k, w) = some r → ∃ C', ea_Lp (tb_P Y) cal m n pc (L.map fl) (S.map fv) C k w = some (fou r.1, C', r.2.2.1, r.2.2.2) ∧ ft r.2.1 C' := by
  induction n with
  | zero => intro pc L S t C k w r _ h; cases h
  | succ n IH =>
    intro pc L S t C k w r hR H
    have H1 : fx_b cl m (fx_L cl m n) pc L S (t, k, w) = some r := H
    clear H
    unfold fx_b at H1
    obtain ⟨⟨i, nx, tg⟩, hc, H2⟩ := fr_O H1
    have H3 : fx_d i m pc nx tg L S (t, k, w) (fx_L cl m n) cl = some r := H2
    rcases fx_d_ok (Y := Y) hc hcal hR H3 with ⟨pc', L', S', t', C1, k', w', h1, h2, h3⟩ | ⟨C1, h1, h2, -⟩
    · obtain ⟨C2, g1, g2⟩ := IH _ _ _ _ _ _ _ _ h2 h3
      refine ⟨C2, ?_, g2⟩
      show (match ea_1 (tb_P Y) cal m pc (L.map fl) (S.map fv) C k w with
        | some (.inl (pc, L, S, C, k, w)) => ea_Lp (tb_P Y) cal m n pc L S C k w
        | some (.inr r) => some r
        | none => none) = _
      rw [h1]
      exact g1
    · refine ⟨C1, ?_, h2⟩
      show (match ea_1 (tb_P Y) cal m pc (L.map fl) (S.map fv) C k w with
        | some (.inl (pc, L, S, C, k, w)) => ea_Lp (tb_P Y) cal m n pc L S C k w
        | some (.inr r) => some r
        | none => none) = _
      rw [h1]
end FRU
