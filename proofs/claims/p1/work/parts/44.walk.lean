/-! IN STEP: the law's walk -/
section FWK
theorem fw_b_ok {x y : Option FR} {r : FR} (h : fw_b x y = some r) : (∃ g, x = some (.inl none, g)) ∧ y = some r := by
  unfold fw_b at h
  cases x with
  | none => cases h
  | some q =>
    obtain ⟨o, g⟩ := q
    cases o with
    | inr n => cases h
    | inl v =>
      cases v with
      | some v => cases h
      | none => exact ⟨⟨g, rfl⟩, h⟩
theorem fw_e_ok {S : List FV} {h : FH} {r : FR} (H : fw_e S h = some r) : S = [.inl 1] ∧ h.2.1 ≤ 600002 ∧ h.2.2 ≤ 7302232 := by
  unfold fw_e at H
  split at H
  · rename_i n
    cases hb : (Nat.beq n 1 && (Nat.ble h.2.1 600002 && Nat.ble h.2.2 7302232)) with
    | false => rw [hb] at H; cases H
    | true =>
      simp only [Bool.and_eq_true] at hb
      obtain rfl : n = 1 := Nat.eq_of_beq_eq_true hb.1
      exact ⟨rfl, Nat.le_of_ble_eq_true hb.2.1, Nat.le_of_ble_eq_true hb.2.2⟩
  · cases H
theorem eh_sld {ini : Bool} {pl : Nat → Option (Nat × Nat × Nat)} {fty : Nat → Nat → Nat} {X : List AI} {T : List AV} {C : List AC} {pc j : Nat} {i v : AI} (hx : ea_ix i X.length = some j) (hv : ea_nt X j = some v) : ea_h ini pl fty (some X) .iaload pc (.inl i :: .inr (.inr (.inr true)) :: T) C = some (pc + 1, .inl v :: T, none, 0, 0) := by
  unfold ea_h
  dsimp only
  rw [hx]
  dsimp only
  rw [hv]
theorem ea_v_succ {P : EP} {cal : Nat → Nat → List (Nat × AV) → List AV → List AC → Nat → Nat → Option AR} {K V n pc : Nat} {L : List (Nat × AV)} {S : List AV} {C : List AC} {k w : Nat} : ea_v P cal K V (n + 1) pc L S C k w = (bif ea_ir (ep_cod P 0 pc) then ea_e1 K V S k w else match ea_1 P cal 0 pc L S C k w with
      | some (.inl (pc, L, S, C, k, w)) => ea_v P cal K V n pc L S C k w
      | some (.inr _) => false
      | none => match ea_br (ep_cod P 0 pc) pc S with
        | some (t, T) => ea_v P cal K V n t L T C k w && ea_v P cal K V n (pc + 3) L T C k w
        | none => false) := rfl
variable {X : List AI} {d : Nat}
theorem fx_w_ok (n : Nat) : ∀ (pc : Nat) (L : FL) (S : List FV) (t : T8) (C : List AC) (k w : Nat) (r : FR), ft t C → fx_w X d n pc L S (t, k, w) = some r → r.1 = .inl none → ea_v (tb_P (some X)) (ea_R (tb_P (some X)) d) 600002 7302232 n pc (L.map fl) (S.map fv) C k w = true := by
  induction n with
  | zero => intro pc L S t C k w r _ h; cases h
  | succ n IH =>
    intro pc L S t C k w r hR H hr
    have H1 : @Option.rec (Instr × Nat × Nat) (fun _ => Option FR) none (fun q => fw_d X d q.1 pc q.2.1 q.2.2 L S (t, k, w) (fx_w X d n)) (tb_cd 0 pc) = some r := H
    clear H
    obtain ⟨⟨i, nx, tg⟩, hc, H⟩ := fr_O H1
    clear H1
    dsimp only at H
    have hcod : ep_cod (tb_P (some X)) 0 pc = some (i, nx - pc) := ep_cod_of hc
    have hir : i ≠ .ireturn → ea_ir (ep_cod (tb_P (some X)) 0 pc) = false := by
      intro h
      rw [hcod]
      unfold ea_ir
      split
      · rename_i h2
        exact absurd (Prod.mk.inj (Option.some.inj h2)).1 h
      · rfl
    have step : i ≠ .ireturn → i ≠ .lreturn → i ≠ .return_ → fgo (some X) (ea_R (tb_P (some X)) d) (fx_w X d n) 0 pc L S C k w r → ea_v (tb_P (some X)) (ea_R (tb_P (some X)) d) 600002 7302232 (n + 1) pc (L.map fl) (S.map fv) C k w = true := by
      intro n1 n2 n3 hg
      rw [ea_v_succ, hir n1]
      simp only [cond_false]
      rcases hg with ⟨pc', L', S', t', C', k', w', h1, h2, h3⟩ | ⟨C', h1, h2, h3⟩
      · rw [h1]
        exact IH _ _ _ _ _ _ _ _ h2 h3 hr
      · exfalso
        rcases h3 with ⟨j, nx', tg', g1, g2⟩ | ⟨ce, h3⟩
        · rw [hc] at g1
          cases g1
          rcases g2 with g2 | g2 | g2
          · exact n1 g2
          · exact n2 g2
          · exact n3 g2
        · rw [hr] at h3; cases h3
    have dflt : i ≠ .ireturn → i ≠ .lreturn → i ≠ .return_ → fx_d i 0 pc nx tg L S (t, k, w) (fx_w X d n) (fx_R d) = some r → ea_v (tb_P (some X)) (ea_R (tb_P (some X)) d) 600002 7302232 (n + 1) pc (L.map fl) (S.map fv) C k w = true := fun n1 n2 n3 h => step n1 n2 n3 (fx_d_ok hc (fcl_R d) hR h)
    cases i with
    | ireturn =>
      obtain ⟨h1, h2, h3⟩ := fw_e_ok H
      subst h1
      have h4 : nx - pc = 1 := by rw [nx1 hc (n := 0) rfl]; omega
      rw [ea_v_succ, hcod, h4]
      show ea_e1 600002 7302232 [.inl (.inl (ea_n 1))] k w = true
      show (Nat.beq (ea_n 1).toUInt32.toNat 1 && (Nat.ble k 600002 && Nat.ble w 7302232)) = true
      rw [Nat.ble_eq_true_of_le h2, Nat.ble_eq_true_of_le h3]
      rfl
    | lreturn => cases H
    | return_ => cases H
    | ifCond c o =>
      unfold fw_d at H
      dsimp only at H
      split at H
      · rename_i hp
        exact step (by intro h; cases h) (by intro h; cases h) (by intro h; cases h) (fo_gen_ok (cl := fx_R d) hc hR H)
      · rename_i a T hp
        cases hb : fIs a with
        | false => rw [hb] at H; cases H
        | true =>
          rw [hb] at H
          obtain ⟨⟨g, H1⟩, H2⟩ := fw_b_ok H
          obtain ⟨q, hq⟩ := fIs_ok hb
          have e : ea_1 (tb_P (some X)) (ea_R (tb_P (some X)) d) 0 pc (L.map fl) (List.map fv (a :: T)) C k w = none := ea1_iv hc hp rfl (ea_rt_no (by intro h; cases h) (by intro h; cases h) (by intro h; cases h)) rfl
          have h3 := nx1 hc (n := 2) rfl
          have h4 : nx - pc = 3 := by omega
          have e2 : ea_br (ep_cod (tb_P (some X)) 0 pc) pc (List.map fv (a :: T)) = some (tg, T.map fv) := by
            rw [hcod, h4, List.map_cons, hq]
            show (match ea_to pc o with
              | some t => some (t, T.map fv)
              | none => none) = _
            rw [fwf_if hc]
          rw [ea_v_succ, hir (by intro h; cases h), e, e2]
          simp only [cond_false, Bool.and_eq_true]
          exact ⟨IH _ _ _ _ _ _ _ _ hR H1 rfl, by rw [h3] at H2; exact IH _ _ _ _ _ _ _ _ hR H2 hr⟩
      · cases H
    | iaload =>
      unfold fw_d at H
      dsimp only at H
      split at H
      · rename_i j T
        cases hb : (Nat.blt j X.length && Nat.blt j 4096) with
        | false => rw [hb] at H; cases H
        | true =>
          rw [hb] at H
          simp only [cond_true] at H
          simp only [Bool.and_eq_true] at hb
          split at H
          · rename_i v hv
            obtain ⟨v1, f1, f2⟩ := fvb_ok (.inl v)
            rw [f2, nx1 hc (n := 0) rfl] at H
            refine step (by intro h; cases h) (by intro h; cases h) (by intro h; cases h) (fgo_h (S' := v1 :: T) hc hR rfl ?_ H)
            rw [show List.map fv (v1 :: T) = fv v1 :: T.map fv from rfl, f1]
            exact eh_sld (en_ix (Nat.le_of_ble_eq_true hb.1) (Nat.le_of_ble_eq_true hb.2)) hv
          · cases H
      · exact dflt (by intro h; cases h) (by intro h; cases h) (by intro h; cases h) H
    | arraylength =>
      unfold fw_d at H
      dsimp only at H
      split at H
      · rename_i T
        rw [nx1 hc (n := 0) rfl] at H
        exact step (by intro h; cases h) (by intro h; cases h) (by intro h; cases h) (fgo_h (S' := .inl X.length :: T) hc hR rfl rfl H)
      · exact dflt (by intro h; cases h) (by intro h; cases h) (by intro h; cases h) H
    | _ => exact dflt (by intro h; cases h) (by intro h; cases h) (by intro h; cases h) H
end FWK
