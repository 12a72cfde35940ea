/-! THE ABSTRACT MACHINE: an index between bounds, in a row of which every element lies between the same bounds -/
def iv_ix (i : AI) (n : Nat) : Bool := decide (0 ≤ ea_lo i) && decide (ea_hi i < (n : Int))
theorem iv_ix_ok {i : AI} {n : Nat} (h : iv_ix i n = true) {x : Int32} (hx : ea_gi i x) : vp_in x n ∧ x.toNatClampNeg < n := by
  have b := ea_bd hx
  unfold iv_ix at h
  simp only [Bool.and_eq_true, decide_eq_true_eq] at h
  have hin := vp_in_iff.mpr (show 0 ≤ x.toInt ∧ x.toInt < n from ⟨by omega, by omega⟩)
  exact ⟨hin, Nat.not_le.mp fun q => hin (Or.inr q)⟩
def ea_g (i : Instr) (pc : Nat) (S : List AV) (C : List AC) : Option (Nat × List AV) := match i with
  | .iaload => match S with
    | .inl i :: .inr (.inl (some a)) :: S => match ea_nt C a with
      | some (.inl (0, n, .inl v, [])) => bif iv_ix i n then some (pc + 1, .inl v :: S) else none
      | _ => none
    | _ => none
  | .baload => match S with
    | .inl i :: .inr (.inl (some a)) :: S => match ea_nt C a with
      | some (.inl (2, n, .inl v, [])) => bif iv_ix i n then some (pc + 1, .inl v :: S) else none
      | _ => none
    | _ => none
  | .laload => match S with
    | .inl i :: .inr (.inl (some a)) :: S => match ea_nt C a with
      | some (.inl (1, n, .inr (.inr (.inl none)), [])) => bif iv_ix i n then some (pc + 1, .inr (.inr (.inl none)) :: S) else none
      | _ => none
    | _ => none
  | .iastore => match S with
    | .inl v :: .inl i :: .inr (.inl (some a)) :: S => match ea_nt C a with
      | some (.inl (0, n, .inl d, [])) => bif iv_ix i n && iv_le v d then some (pc + 1, S) else none
      | _ => none
    | _ => none
  | .bastore => match S with
    | .inl v :: .inl i :: .inr (.inl (some a)) :: S => match ea_nt C a with
      | some (.inl (2, n, .inl d, [])) => bif iv_ix i n && iv_le (iv_by v) d then some (pc + 1, S) else none
      | _ => none
    | _ => none
  | .lastore => match S with
    | .inr (.inr (.inl _)) :: .inl i :: .inr (.inl (some a)) :: S => match ea_nt C a with
      | some (.inl (1, n, .inr (.inr (.inl none)), [])) => bif iv_ix i n then some (pc + 1, S) else none
      | _ => none
    | _ => none
  | _ => none
theorem ea_set_same {C : List AC} {a : Nat} {c : AC} (h : ea_nt C a = some c) : C.set a c = C := by
  rw [ea_nt_eq] at h
  apply List.ext_getElem?
  intro i
  rw [List.getElem?_set]
  split
  · rename_i e
    subst e
    rw [if_pos (List.getElem?_eq_some_iff.mp h).1, h]
  · rfl
section EAG
variable {p : Program} {l : Launch} {e : Env} {R : Room} {s : State} {m : MethodId} {args : Array Value} {below : List Frame} {meth : Method} {c : Code} {H : Heap} {locs : List Loc} {cells slots : Nat} {Q : State → Prop}
variable {cc : ByteArray} {pc : Nat} {ls : Array Slot} {st : List Value} {D : va_G} {cl : List vw_C} {A : Nat → Prop} {ws : va_W} {sb : SB} {C : List AC}
theorem ea_g_ok {i : Instr} {len nL pc' : Nat} {L : List (Nat × AV)} {S S' : List AV} (hexec : p.tables.exec = Jvm.exec) (hb : c.code = cc) (hK : va_K D cl [] s) (hdg : decode cc pc = .ok (i, len)) (hlen : ea_len i = 0 ∨ ea_len i = len) (hp : ea_g i pc S C = some (pc', S'))
    (hP : va_P D cl ws H) (hD : va_D A ws) (hS : va_S A s.heap H locs) (hH : ea_H cl s sb C ws) (hl : ea_L (sb, ws.map Prod.fst) nL L ls) (hs : ea_rl (ea_gv (sb, ws.map Prod.fst)) S st)
    (kk : ∀ (st' : List Value) (ws' : va_W) (H' : Heap) (locs' : List Loc), ea_ext ws ws' → ea_W D cl A s sb C ws' H' locs' → ea_L (sb, ws'.map Prod.fst) nL L ls → ea_rl (ea_gv (sb, ws'.map Prod.fst)) S' st' → W p l e R s m args below meth c H' locs' cells slots Q (F0 m pc' ls st')) : W p l e R s m args below meth c H locs cells slots Q (F0 m pc ls st) := by
  cases i with
  | iaload =>
    obtain rfl : 1 = len := by simpa [ea_len] using hlen
    simp only [ea_g] at hp
    split at hp
    · rename_i i a S0
      split at hp
      · rename_i n v ho
        cases hx0 : iv_ix i n with
        | false => rw [hx0] at hp; cases hp
        | true =>
          rw [hx0] at hp
          cases hp
          obtain ⟨_, _, rfl, ⟨x, rfl, hx⟩, hs1⟩ := ea_pop hs
          obtain ⟨_, _, rfl, ⟨aa, rfl, ha⟩, hs2⟩ := ea_pop hs1
          obtain ⟨a1, E, g1, g2, g3⟩ := ea_H_get hH ho
          obtain rfl : aa = a1 := Option.some.inj (ha.symm.trans g3)
          obtain ⟨hin, hj2⟩ := iv_ix_ok hx0 hx
          match E, g1, g2 with
          | .inl (cA, n', y), g1, ⟨e1, hat, ⟨f, hf⟩, hct⟩ =>
            dsimp only at e1 hf hct
            subst e1
            subst hf
            have hc := hct _ hj2
            exact va_iald hexec hb (ea_K1 hK hat) hP a 0 g1 rfl hin hdg (kk _ ws H locs (ea_ext_r ws) ⟨hP, hD, hS, hH⟩ hl ⟨hc, hs2⟩)
      · cases hp
    · cases hp
  | baload =>
    obtain rfl : 1 = len := by simpa [ea_len] using hlen
    simp only [ea_g] at hp
    split at hp
    · rename_i i a S0
      split at hp
      · rename_i n v ho
        cases hx0 : iv_ix i n with
        | false => rw [hx0] at hp; cases hp
        | true =>
          rw [hx0] at hp
          cases hp
          obtain ⟨_, _, rfl, ⟨x, rfl, hx⟩, hs1⟩ := ea_pop hs
          obtain ⟨_, _, rfl, ⟨aa, rfl, ha⟩, hs2⟩ := ea_pop hs1
          obtain ⟨a1, E, g1, g2, g3⟩ := ea_H_get hH ho
          obtain rfl : aa = a1 := Option.some.inj (ha.symm.trans g3)
          obtain ⟨hin, hj2⟩ := iv_ix_ok hx0 hx
          match E, g1, g2 with
          | .inl (cA, n', y), g1, ⟨e1, hat, ⟨f, hf⟩, hct⟩ =>
            dsimp only at e1 hf hct
            subst e1
            subst hf
            have hc := hct _ hj2
            exact va_bald hexec hb (ea_K1 hK hat) hP a 0 g1 rfl hin hdg (kk _ ws H locs (ea_ext_r ws) ⟨hP, hD, hS, hH⟩ hl ⟨hc, hs2⟩)
      · cases hp
    · cases hp
  | laload =>
    obtain rfl : 1 = len := by simpa [ea_len] using hlen
    simp only [ea_g] at hp
    split at hp
    · rename_i i a S0
      split at hp
      · rename_i n ho
        cases hx0 : iv_ix i n with
        | false => rw [hx0] at hp; cases hp
        | true =>
          rw [hx0] at hp
          cases hp
          obtain ⟨_, _, rfl, ⟨x, rfl, hx⟩, hs1⟩ := ea_pop hs
          obtain ⟨_, _, rfl, ⟨aa, rfl, ha⟩, hs2⟩ := ea_pop hs1
          obtain ⟨a1, E, g1, g2, g3⟩ := ea_H_get hH ho
          obtain rfl : aa = a1 := Option.some.inj (ha.symm.trans g3)
          obtain ⟨hin, hj2⟩ := iv_ix_ok hx0 hx
          match E, g1, g2 with
          | .inl (cA, n', y), g1, ⟨e1, hat, ⟨f, hf⟩, hct⟩ =>
            dsimp only at e1 hf hct
            subst e1
            subst hf
            have hc := hct _ hj2
            exact va_lald hexec hb (ea_K1 hK hat) hP a 0 g1 rfl hin hdg (kk _ ws H locs (ea_ext_r ws) ⟨hP, hD, hS, hH⟩ hl ⟨hc, hs2⟩)
      · cases hp
    · cases hp
  | iastore =>
    obtain rfl : 1 = len := by simpa [ea_len] using hlen
    simp only [ea_g] at hp
    split at hp
    · rename_i v i a S0
      split at hp
      · rename_i n d ho
        cases hx0 : (iv_ix i n && iv_le v d) with
        | false => rw [hx0] at hp; cases hp
        | true =>
          rw [hx0] at hp
          cases hp
          simp only [Bool.and_eq_true] at hx0
          obtain ⟨_, _, rfl, ⟨v1, rfl, hv⟩, hs1⟩ := ea_pop hs
          obtain ⟨_, _, rfl, ⟨x, rfl, hx⟩, hs2⟩ := ea_pop hs1
          obtain ⟨_, _, rfl, ⟨aa, rfl, ha⟩, hs3⟩ := ea_pop hs2
          obtain ⟨a1, E, g1, g2, g3⟩ := ea_H_get hH ho
          obtain rfl : aa = a1 := Option.some.inj (ha.symm.trans g3)
          obtain ⟨hin, hj2⟩ := iv_ix_ok hx0.1 hx
          match E, g1, g2 with
          | .inl (cA, n', y), g1, ⟨e1, hat, ⟨f, hf⟩, hct⟩ =>
            dsimp only at e1 hf hct
            subst e1
            subst hf
            refine va_iast hexec hb (ea_K1 hK hat) hP hD hS a 0 g1 rfl hin hdg (fun H1 locs1 p1 d1 s1 => kk _ _ H1 locs1 (ea_ext_s g1) ⟨p1, d1, s1, ?_⟩ (by rw [ea_map_set g1]; exact hl) (by rw [ea_map_set g1]; exact hs3))
            rw [← ea_set_same ho]
            refine ea_H_set hH g1 ⟨rfl, hat, ⟨_, rfl⟩, fun k hk => ?_⟩
            dsimp only
            by_cases hkj : k = x.toNatClampNeg
            · subst hkj
              simp only [ea_cv, upd, if_pos]
              exact ⟨v1, rfl, iv_le_ok hx0.2 hv⟩
            · simp only [ea_cv, upd, if_neg hkj]
              exact hct k hk
      · cases hp
    · cases hp
  | bastore =>
    obtain rfl : 1 = len := by simpa [ea_len] using hlen
    simp only [ea_g] at hp
    split at hp
    · rename_i v i a S0
      split at hp
      · rename_i n d ho
        cases hx0 : (iv_ix i n && iv_le (iv_by v) d) with
        | false => rw [hx0] at hp; cases hp
        | true =>
          rw [hx0] at hp
          cases hp
          simp only [Bool.and_eq_true] at hx0
          obtain ⟨_, _, rfl, ⟨v1, rfl, hv⟩, hs1⟩ := ea_pop hs
          obtain ⟨_, _, rfl, ⟨x, rfl, hx⟩, hs2⟩ := ea_pop hs1
          obtain ⟨_, _, rfl, ⟨aa, rfl, ha⟩, hs3⟩ := ea_pop hs2
          obtain ⟨a1, E, g1, g2, g3⟩ := ea_H_get hH ho
          obtain rfl : aa = a1 := Option.some.inj (ha.symm.trans g3)
          obtain ⟨hin, hj2⟩ := iv_ix_ok hx0.1 hx
          match E, g1, g2 with
          | .inl (cA, n', y), g1, ⟨e1, hat, ⟨f, hf⟩, hct⟩ =>
            dsimp only at e1 hf hct
            subst e1
            subst hf
            refine va_bast hexec hb (ea_K1 hK hat) hP hD hS a 0 g1 rfl hin hdg (fun H1 locs1 p1 d1 s1 => kk _ _ H1 locs1 (ea_ext_s g1) ⟨p1, d1, s1, ?_⟩ (by rw [ea_map_set g1]; exact hl) (by rw [ea_map_set g1]; exact hs3))
            rw [← ea_set_same ho]
            refine ea_H_set hH g1 ⟨rfl, hat, ⟨_, rfl⟩, fun k hk => ?_⟩
            dsimp only
            by_cases hkj : k = x.toNatClampNeg
            · subst hkj
              simp only [ea_cv, upd, if_pos]
              exact ⟨_, rfl, iv_le_ok hx0.2 (iv_by_ok hv)⟩
            · simp only [ea_cv, upd, if_neg hkj]
              exact hct k hk
      · cases hp
    · cases hp
  | lastore =>
    obtain rfl : 1 = len := by simpa [ea_len] using hlen
    simp only [ea_g] at hp
    split at hp
    · rename_i v i a S0
      split at hp
      · rename_i n ho
        cases hx0 : iv_ix i n with
        | false => rw [hx0] at hp; cases hp
        | true =>
          rw [hx0] at hp
          cases hp
          obtain ⟨_, _, rfl, hv, hs1⟩ := ea_pop hs
          obtain ⟨v1, rfl, hv1⟩ := ea_gl hv
          obtain ⟨_, _, rfl, ⟨x, rfl, hx⟩, hs2⟩ := ea_pop hs1
          obtain ⟨_, _, rfl, ⟨aa, rfl, ha⟩, hs3⟩ := ea_pop hs2
          obtain ⟨a1, E, g1, g2, g3⟩ := ea_H_get hH ho
          obtain rfl : aa = a1 := Option.some.inj (ha.symm.trans g3)
          obtain ⟨hin, hj2⟩ := iv_ix_ok hx0 hx
          match E, g1, g2 with
          | .inl (cA, n', y), g1, ⟨e1, hat, ⟨f, hf⟩, hct⟩ =>
            dsimp only at e1 hf hct
            subst e1
            subst hf
            refine va_last hexec hb (ea_K1 hK hat) hP hD hS a 0 g1 rfl hin hdg (fun H1 locs1 p1 d1 s1 => kk _ _ H1 locs1 (ea_ext_s g1) ⟨p1, d1, s1, ?_⟩ (by rw [ea_map_set g1]; exact hl) (by rw [ea_map_set g1]; exact hs3))
            rw [← ea_set_same ho]
            refine ea_H_set hH g1 ⟨rfl, hat, ⟨_, rfl⟩, fun k hk => ?_⟩
            dsimp only
            by_cases hkj : k = x.toNatClampNeg
            · subst hkj
              simp only [ea_cv, vp_updL, if_pos]
              exact ⟨v1, rfl⟩
            · simp only [ea_cv, vp_updL, if_neg hkj]
              exact hct k hk
      · cases hp
    · cases hp
  | _ => cases hp
end EAG
