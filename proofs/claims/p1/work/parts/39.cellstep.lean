/-! IN STEP: instructions on cells, calls, ends -/
section FSC
theorem fr_obj' {o : Option FC} {f : FC → Option FR} {r : FR} (H : @Option.rec FC (fun _ => Option FR) none f o = some r) (hf : ∀ q, f (.inl q) = none) : ∃ ci vs, o = some (.inr (ci, vs)) ∧ f (.inr (ci, vs)) = some r := by
  cases o with
  | none => cases H
  | some c =>
    cases c with
    | inl q => exact nomatch ((hf q).symm.trans H)
    | inr o => exact ⟨o.1, o.2, rfl, H⟩
theorem fr_arr' {o : Option FC} {f : FC → Option FR} {r : FR} (H : @Option.rec FC (fun _ => Option FR) none f o = some r) (hf : ∀ q, f (.inr q) = none) : ∃ ty n d us, o = some (.inl (ty, n, d, us)) ∧ f (.inl (ty, n, d, us)) = some r := by
  cases o with
  | none => cases H
  | some c =>
    cases c with
    | inl q => exact ⟨q.1, q.2.1, q.2.2.1, q.2.2.2, rfl, H⟩
    | inr o => exact nomatch ((hf o).symm.trans H)
variable {Y : Option (List AI)} {cal : Nat → Nat → List (Nat × AV) → List AV → List AC → Nat → Nat → Option AR}
variable {m pc nx tg : Nat} {L : FL} {S : List FV} {t : T8} {C : List AC} {k w : Nat} {ih : FK} {cl : FIH} {r : FR} {i : Instr}
theorem ft_arr (hR : ft t C) {a ty n : Nat} {d : FV} {us : A12} (h : fg t a = some (.inl (ty, n, d, us))) : ∃ d' us', ea_nt C a = some (.inl (ty, n, d', us')) ∧ ∀ j, j < n → j < 4096 → fv (fAl d us j) = ea_al d' us' j := by
  obtain ⟨c', h1, d', us', h2, h3, h4⟩ := hR _ _ h
  exact ⟨d', us', by rw [h1, h2], h3⟩
theorem ft_arrI (hR : ft t C) {a ty n : Nat} {d : FV} {us : A12} (h : fg t a = some (.inl (ty, n, d, us))) : ty = 0 → ∀ j, j < n → j < 4096 → ∃ v, fv (fAl d us j) = .inl v := by
  obtain ⟨c', h1, d', us', h2, h3, h4⟩ := hR _ _ h
  exact h4
theorem ft_obj (hR : ft t C) {a ci : Nat} {vs : List FV} (h : fg t a = some (.inr (ci, vs))) : ea_nt C a = some (.inr (ci, vs.map fv)) := by
  obtain ⟨c', h1, h2⟩ := hR _ _ h
  rw [h1]
  exact congrArg some h2
section EH
variable {ini : Bool} {pl : Nat → Option (Nat × Nat × Nat)} {fty : Nat → Nat → Nat} {scr : Option (List AI)} {T : List AV}
theorem eh_get {x ci f a : Nat} {vs : List AV} {v : AV} (hp : ea_rd (pl x) = some (ci, f)) (hC : ea_nt C a = some (.inr (ci, vs))) (hv : ea_nt vs f = some v) : ea_h ini pl fty scr (.getfield x) pc (.inr (.inl (some a)) :: T) C = some (pc + 3, v :: T, none, 0, 0) := by
  unfold ea_h
  try dsimp only
  rw [hp]
  try dsimp only
  rw [hC]
  try dsimp only
  rw [Nat.beq_refl, hv]
  rfl
theorem eh_put {x ci f a : Nat} {vs : List AV} {v : AV} (hp : ea_wr ini (pl x) = some (ci, f)) (hC : ea_nt C a = some (.inr (ci, vs))) (hf : ea_fit (fty ci f) v = true) (hl : f < vs.length) : ea_h ini pl fty scr (.putfield x) pc (v :: .inr (.inl (some a)) :: T) C = some (pc + 3, T, some (C.set a (.inr (ci, vs.set f v))), 0, 0) := by
  unfold ea_h
  try dsimp only
  rw [hp]
  try dsimp only
  rw [hC]
  try dsimp only
  rw [Nat.beq_refl, hf, show Nat.blt f vs.length = true from Nat.ble_eq_true_of_le hl]
  rfl
theorem eh_ial {a n j : Nat} {i v : AI} {d : AV} {us : List (Nat × AV)} (hC : ea_nt C a = some (.inl (0, n, d, us))) (hx : ea_ix i n = some j) (hv : ea_al d us j = .inl v) : ea_h ini pl fty scr .iaload pc (.inl i :: .inr (.inl (some a)) :: T) C = some (pc + 1, .inl v :: T, none, 0, 0) := by
  unfold ea_h
  try dsimp only
  rw [hC]
  show (match ea_ix i n with
    | some j => (match ea_al d us j with
      | .inl v => (some (pc + 1, .inl v :: T, none, 0, 0) : Option (Nat × List AV × Option (List AC) × Nat × Nat))
      | _ => none)
    | none => none) = _
  rw [hx]
  try dsimp only
  rw [hv]
theorem eh_bal {a n j : Nat} {i v : AI} {d : AV} {us : List (Nat × AV)} (hC : ea_nt C a = some (.inl (2, n, d, us))) (hx : ea_ix i n = some j) (hv : ea_al d us j = .inl v) : ea_h ini pl fty scr .baload pc (.inl i :: .inr (.inl (some a)) :: T) C = some (pc + 1, .inl v :: T, none, 0, 0) := by
  unfold ea_h
  try dsimp only
  rw [hC]
  show (match ea_ix i n with
    | some j => (match ea_al d us j with
      | .inl v => (some (pc + 1, .inl v :: T, none, 0, 0) : Option (Nat × List AV × Option (List AC) × Nat × Nat))
      | _ => none)
    | none => none) = _
  rw [hx]
  try dsimp only
  rw [hv]
theorem eh_lal {a n j : Nat} {i : AI} {v : Option Int64} {d : AV} {us : List (Nat × AV)} (hC : ea_nt C a = some (.inl (1, n, d, us))) (hx : ea_ix i n = some j) (hv : ea_al d us j = .inr (.inr (.inl v))) : ea_h ini pl fty scr .laload pc (.inl i :: .inr (.inl (some a)) :: T) C = some (pc + 1, .inr (.inr (.inl v)) :: T, none, 0, 0) := by
  unfold ea_h
  try dsimp only
  rw [hC]
  show (match ea_ix i n with
    | some j => (match ea_al d us j with
      | .inr (.inr (.inl v)) => (some (pc + 1, .inr (.inr (.inl v)) :: T, none, 0, 0) : Option (Nat × List AV × Option (List AC) × Nat × Nat))
      | _ => none)
    | none => none) = _
  rw [hx]
  try dsimp only
  rw [hv]
theorem eh_aal {a ty n j v : Nat} {i : AI} {d : AV} {us : List (Nat × AV)} (hC : ea_nt C a = some (.inl (ty + 3, n, d, us))) (hx : ea_ix i n = some j) (hv : ea_al d us j = .inr (.inl (some v))) : ea_h ini pl fty scr .aaload pc (.inl i :: .inr (.inl (some a)) :: T) C = some (pc + 1, .inr (.inl (some v)) :: T, none, 0, 0) := by
  unfold ea_h
  try dsimp only
  rw [hC]
  try dsimp only
  rw [hx]
  try dsimp only
  rw [hv]
theorem eh_ias {a n j : Nat} {i v : AI} {d : AV} {us : List (Nat × AV)} (hC : ea_nt C a = some (.inl (0, n, d, us))) (hx : ea_ix i n = some j) : ea_h ini pl fty scr .iastore pc (.inl v :: .inl i :: .inr (.inl (some a)) :: T) C = some (pc + 1, T, some (C.set a (.inl (0, n, d, (j, .inl v) :: us))), 0, 0) := by
  unfold ea_h
  try dsimp only
  rw [hC]
  show (match ea_ix i n with
    | some j => (some (pc + 1, T, some (C.set a (.inl (0, n, d, (j, .inl v) :: us))), 0, 0) : Option (Nat × List AV × Option (List AC) × Nat × Nat))
    | none => none) = _
  rw [hx]
theorem eh_bas {a n j : Nat} {i v : AI} {d : AV} {us : List (Nat × AV)} (hC : ea_nt C a = some (.inl (2, n, d, us))) (hx : ea_ix i n = some j) : ea_h ini pl fty scr .bastore pc (.inl v :: .inl i :: .inr (.inl (some a)) :: T) C = some (pc + 1, T, some (C.set a (.inl (2, n, d, (j, .inl (ea_i1 (fun x => vp_nar .byte x) v)) :: us))), 0, 0) := by
  unfold ea_h
  try dsimp only
  rw [hC]
  show (match ea_ix i n with
    | some j => (some (pc + 1, T, some (C.set a (.inl (2, n, d, (j, .inl (ea_i1 (fun x => vp_nar .byte x) v)) :: us))), 0, 0) : Option (Nat × List AV × Option (List AC) × Nat × Nat))
    | none => none) = _
  rw [hx]
theorem eh_las {a n j : Nat} {i : AI} {v : Option Int64} {d : AV} {us : List (Nat × AV)} (hC : ea_nt C a = some (.inl (1, n, d, us))) (hx : ea_ix i n = some j) : ea_h ini pl fty scr .lastore pc (.inr (.inr (.inl v)) :: .inl i :: .inr (.inl (some a)) :: T) C = some (pc + 1, T, some (C.set a (.inl (1, n, d, (j, .inr (.inr (.inl v))) :: us))), 0, 0) := by
  unfold ea_h
  try dsimp only
  rw [hC]
  show (match ea_ix i n with
    | some j => (some (pc + 1, T, some (C.set a (.inl (1, n, d, (j, .inr (.inr (.inl v))) :: us))), 0, 0) : Option (Nat × List AV × Option (List AC) × Nat × Nat))
    | none => none) = _
  rw [hx]
theorem eh_aas {a ty n j v : Nat} {i : AI} {vs : List AV} {d : AV} {us : List (Nat × AV)} (hC : ea_nt C a = some (.inl (ty + 3, n, d, us))) (hV : ea_nt C v = some (.inr (ty, vs))) (hx : ea_ix i n = some j) : ea_h ini pl fty scr .aastore pc (.inr (.inl (some v)) :: .inl i :: .inr (.inl (some a)) :: T) C = some (pc + 1, T, some (C.set a (.inl (ty + 3, n, d, (j, .inr (.inl (some v))) :: us))), 0, 0) := by
  unfold ea_h
  try dsimp only
  rw [hC, hV]
  try dsimp only
  rw [hx]
  try dsimp only
  rw [Nat.beq_refl]
  rfl
theorem eh_alen {a ty n : Nat} {d : AV} {us : List (Nat × AV)} (hC : ea_nt C a = some (.inl (ty, n, d, us))) : ea_h ini pl fty scr .arraylength pc (.inr (.inl (some a)) :: T) C = some (pc + 1, .inl (.inl (Int32.ofNat n)) :: T, none, 0, 0) := by
  unfold ea_h
  try dsimp only
  rw [hC]
end EH
theorem fo_get_ok {x : Nat} (hc : tb_cd m pc = some (.getfield x, nx, tg)) (hR : ft t C) (H : fo_get x m pc nx tg L S (t, k, w) ih cl = some r) : fgo Y cal ih m pc L S C k w r := by
  unfold fo_get at H
  have H' := fr_O H; clear H; obtain ⟨⟨ci, f⟩, hp, H⟩ := H'
  try dsimp only at H
  have H' := fr_P H; clear H; obtain ⟨v, T, _, rfl, H⟩ := H'
  have H' := fr_Rf H; clear H; obtain ⟨a, rfl, H⟩ := H'
  try dsimp only at H
  have H' := fr_obj' H (fun _ => rfl); clear H; obtain ⟨cj, vs, hC, H⟩ := H'
  try dsimp only at H
  have H' := fr_B H; clear H; obtain ⟨hb, H⟩ := H'
  have H' := fr_O H; clear H; obtain ⟨u, hv, H⟩ := H'
  obtain rfl : cj = ci := Nat.eq_of_beq_eq_true hb
  rw [nx1 hc (n := 2) rfl] at H
  exact fgo_h (S' := u :: T) hc hR rfl (eh_get hp (ft_obj hR hC) (by rw [fNt_ok, hv]; rfl)) H
theorem fo_put_ok {x : Nat} (hc : tb_cd m pc = some (.putfield x, nx, tg)) (hR : ft t C) (H : fo_put x m pc nx tg L S (t, k, w) ih cl = some r) : fgo Y cal ih m pc L S C k w r := by
  unfold fo_put at H
  have H' := fr_O H; clear H; obtain ⟨⟨ci, f⟩, hp, H⟩ := H'
  try dsimp only at H
  have H' := fr_P H; clear H; obtain ⟨v, T, _, rfl, H⟩ := H'
  have H' := fr_P H; clear H; obtain ⟨u, T, _, rfl, H⟩ := H'
  have H' := fr_Rf H; clear H; obtain ⟨a, rfl, H⟩ := H'
  try dsimp only at H
  have H' := fr_obj' H (fun _ => rfl); clear H; obtain ⟨cj, vs, hC, H⟩ := H'
  try dsimp only at H
  have H' := fr_B H; clear H; obtain ⟨hb, H⟩ := H'
  have H' := fr_B H; clear H; obtain ⟨hf, H⟩ := H'
  have H' := fr_B H; clear H; obtain ⟨hl, H⟩ := H'
  obtain rfl : cj = ci := Nat.eq_of_beq_eq_true hb
  rw [fLen_ok] at hl
  obtain ⟨t', e1, e2⟩ := ft_set (c := .inr (cj, vs.set f v)) (c' := .inr (cj, (vs.map fv).set f (fv v))) hR hC (by show _ = _; rw [List.map_set])
  rw [fSet_ok, e1, nx1 hc (n := 2) rfl] at H
  exact fgo_hc (S' := T) hc e2 rfl (eh_put hp (ft_obj hR hC) (fFit_ok hf) (by rw [List.length_map]; exact Nat.le_of_ble_eq_true hl)) H
theorem fAl_I {v : FV} {f : Nat → Option FR} {x : Option FR} {r : FR} {g : FV → Option FR} (hf : ∀ n, f n = g (.inl n)) (hx : x = g v) (H : @Sum.rec Nat (Nat ⊕ AV) (fun _ => Option FR) f (fun _ => @Bool.rec (fun _ => Option FR) none x (fIs v)) v = some r) : fIs v = true ∧ g v = some r := by
  cases v with
  | inl n => exact ⟨rfl, by rw [← hf]; exact H⟩
  | inr u =>
    have H' := fr_B H
    exact ⟨H'.1, by rw [← hx]; exact H'.2⟩
theorem fo_ial_ok (hc : tb_cd m pc = some (.iaload, nx, tg)) (hR : ft t C) (H : fo_ial m pc nx tg L S (t, k, w) ih cl = some r) : fgo Y cal ih m pc L S C k w r := by
  unfold fo_ial at H
  have H' := fr_P H; clear H; obtain ⟨v, T, _, rfl, H⟩ := H'
  have H' := fr_I H; clear H; rcases H' with ⟨j, rfl, H⟩ | ⟨u, rfl, H⟩
  · have H' := fr_P H; clear H; obtain ⟨v, T, _, rfl, H⟩ := H'
    have H' := fr_Rf H; clear H; obtain ⟨a, rfl, H⟩ := H'
    try dsimp only at H
    have H' := fr_arr' H (fun _ => rfl); clear H; obtain ⟨ty, n, d, us, hC, H⟩ := H'
    try dsimp only at H
    have H' := fr_B H; clear H; obtain ⟨hb, H⟩ := H'
    have H' := fr_B H; clear H; obtain ⟨hn, H⟩ := H'
    have H' := fr_B H; clear H; obtain ⟨h4, H⟩ := H'
    obtain rfl : ty = 0 := Nat.eq_of_beq_eq_true hb
    have hn : j < n := Nat.le_of_ble_eq_true hn
    have h4 : j < 4096 := Nat.lt_succ_of_le (Nat.le_of_ble_eq_true h4)
    obtain ⟨d', us', hC', hal⟩ := ft_arr hR hC
    obtain ⟨hi, H⟩ := fAl_I (g := fun v => ih nx L (v :: T) (t, k, w)) (fun _ => rfl) rfl H
    obtain ⟨q, hq⟩ := fIs_ok hi
    rw [nx1 hc (n := 0) rfl] at H
    refine fgo_h (S' := fAl d us j :: T) hc hR rfl ?_ H
    rw [show List.map fv (fAl d us j :: T) = fv (fAl d us j) :: T.map fv from rfl, hq]
    exact eh_ial hC' (en_ix hn h4) (by rw [← hal j hn h4, hq])
  · cases H
theorem fo_bal_ok (hc : tb_cd m pc = some (.baload, nx, tg)) (hR : ft t C) (H : fo_bal m pc nx tg L S (t, k, w) ih cl = some r) : fgo Y cal ih m pc L S C k w r := by
  unfold fo_bal at H
  have H' := fr_P H; clear H; obtain ⟨v, T, _, rfl, H⟩ := H'
  have H' := fr_I H; clear H; rcases H' with ⟨j, rfl, H⟩ | ⟨u, rfl, H⟩
  · have H' := fr_P H; clear H; obtain ⟨v, T, _, rfl, H⟩ := H'
    have H' := fr_Rf H; clear H; obtain ⟨a, rfl, H⟩ := H'
    try dsimp only at H
    have H' := fr_arr' H (fun _ => rfl); clear H; obtain ⟨ty, n, d, us, hC, H⟩ := H'
    try dsimp only at H
    have H' := fr_B H; clear H; obtain ⟨hb, H⟩ := H'
    have H' := fr_B H; clear H; obtain ⟨hn, H⟩ := H'
    have H' := fr_B H; clear H; obtain ⟨h4, H⟩ := H'
    obtain rfl : ty = 2 := Nat.eq_of_beq_eq_true hb
    have hn : j < n := Nat.le_of_ble_eq_true hn
    have h4 : j < 4096 := Nat.lt_succ_of_le (Nat.le_of_ble_eq_true h4)
    obtain ⟨d', us', hC', hal⟩ := ft_arr hR hC
    obtain ⟨hi, H⟩ := fAl_I (g := fun v => ih nx L (v :: T) (t, k, w)) (fun _ => rfl) rfl H
    obtain ⟨q, hq⟩ := fIs_ok hi
    rw [nx1 hc (n := 0) rfl] at H
    refine fgo_h (S' := fAl d us j :: T) hc hR rfl ?_ H
    rw [show List.map fv (fAl d us j :: T) = fv (fAl d us j) :: T.map fv from rfl, hq]
    exact eh_bal hC' (en_ix hn h4) (by rw [← hal j hn h4, hq])
  · cases H
theorem fo_lal_ok (hc : tb_cd m pc = some (.laload, nx, tg)) (hR : ft t C) (H : fo_lal m pc nx tg L S (t, k, w) ih cl = some r) : fgo Y cal ih m pc L S C k w r := by
  unfold fo_lal at H
  have H' := fr_P H; clear H; obtain ⟨v, T, _, rfl, H⟩ := H'
  have H' := fr_I H; clear H; rcases H' with ⟨j, rfl, H⟩ | ⟨u, rfl, H⟩
  · have H' := fr_P H; clear H; obtain ⟨v, T, _, rfl, H⟩ := H'
    have H' := fr_Rf H; clear H; obtain ⟨a, rfl, H⟩ := H'
    try dsimp only at H
    have H' := fr_arr' H (fun _ => rfl); clear H; obtain ⟨ty, n, d, us, hC, H⟩ := H'
    try dsimp only at H
    have H' := fr_B H; clear H; obtain ⟨hb, H⟩ := H'
    have H' := fr_B H; clear H; obtain ⟨hn, H⟩ := H'
    have H' := fr_B H; clear H; obtain ⟨h4, H⟩ := H'
    obtain rfl : ty = 1 := Nat.eq_of_beq_eq_true hb
    have hn : j < n := Nat.le_of_ble_eq_true hn
    have h4 : j < 4096 := Nat.lt_succ_of_le (Nat.le_of_ble_eq_true h4)
    obtain ⟨d', us', hC', hal⟩ := ft_arr hR hC
    have hal := hal j hn h4
    generalize fAl d us j = v at H hal
    have H' := fr_I H; clear H; rcases H' with ⟨n, rfl, H⟩ | ⟨u, rfl, H⟩
    · cases H
    · have H' := fr_B H; clear H; obtain ⟨hi, H⟩ := H'
      obtain ⟨q, hq⟩ := fLs_ok hi
      rw [nx1 hc (n := 0) rfl] at H
      refine fgo_h (S' := .inr u :: T) hc hR rfl ?_ H
      rw [show List.map fv (.inr u :: T) = fv (.inr u) :: T.map fv from rfl, hq]
      exact eh_lal hC' (en_ix hn h4) (by rw [← hal, hq])
  · cases H
theorem fo_aal_ok (hc : tb_cd m pc = some (.aaload, nx, tg)) (hR : ft t C) (H : fo_aal m pc nx tg L S (t, k, w) ih cl = some r) : fgo Y cal ih m pc L S C k w r := by
  unfold fo_aal at H
  have H' := fr_P H; clear H; obtain ⟨v, T, _, rfl, H⟩ := H'
  have H' := fr_I H; clear H; rcases H' with ⟨j, rfl, H⟩ | ⟨u, rfl, H⟩
  · have H' := fr_P H; clear H; obtain ⟨v, T, _, rfl, H⟩ := H'
    have H' := fr_Rf H; clear H; obtain ⟨a, rfl, H⟩ := H'
    try dsimp only at H
    have H' := fr_arr' H (fun _ => rfl); clear H; obtain ⟨ty, n, d, us, hC, H⟩ := H'
    try dsimp only at H
    have H' := fr_B H; clear H; obtain ⟨hb, H⟩ := H'
    have H' := fr_B H; clear H; obtain ⟨hn, H⟩ := H'
    have H' := fr_B H; clear H; obtain ⟨h4, H⟩ := H'
    have hb : 3 ≤ ty := Nat.le_of_ble_eq_true hb
    obtain ⟨ty, rfl⟩ : ∃ q, ty = q + 3 := ⟨ty - 3, by omega⟩
    have hn : j < n := Nat.le_of_ble_eq_true hn
    have h4 : j < 4096 := Nat.lt_succ_of_le (Nat.le_of_ble_eq_true h4)
    obtain ⟨d', us', hC', hal⟩ := ft_arr hR hC
    have hal := hal j hn h4
    generalize fAl d us j = v at H hal
    have H' := fr_I H; clear H; rcases H' with ⟨n, rfl, H⟩ | ⟨u, rfl, H⟩
    · cases H
    · have H' := fr_B H; clear H; obtain ⟨hi, H⟩ := H'
      cases u with
      | inr u => cases hi
      | inl b =>
        rw [nx1 hc (n := 0) rfl] at H
        exact fgo_h (S' := .inr (.inl b) :: T) hc hR rfl (eh_aal hC' (en_ix hn h4) hal.symm) H
  · cases H
theorem fo_ias_ok (hc : tb_cd m pc = some (.iastore, nx, tg)) (hR : ft t C) (H : fo_ias m pc nx tg L S (t, k, w) ih cl = some r) : fgo Y cal ih m pc L S C k w r := by
  unfold fo_ias at H
  have H' := fr_P H; clear H; obtain ⟨v, T, _, rfl, H⟩ := H'
  have H' := fr_B H; clear H; obtain ⟨hi, H⟩ := H'
  have H' := fr_P H; clear H; obtain ⟨u, T, _, rfl, H⟩ := H'
  have H' := fr_I H; clear H; rcases H' with ⟨j, rfl, H⟩ | ⟨u, rfl, H⟩
  · have H' := fr_P H; clear H; obtain ⟨u, T, _, rfl, H⟩ := H'
    have H' := fr_Rf H; clear H; obtain ⟨a, rfl, H⟩ := H'
    try dsimp only at H
    have H' := fr_arr' H (fun _ => rfl); clear H; obtain ⟨ty, n, d, us, hC, H⟩ := H'
    try dsimp only at H
    have H' := fr_B H; clear H; obtain ⟨hb, H⟩ := H'
    have H' := fr_B H; clear H; obtain ⟨hn, H⟩ := H'
    have H' := fr_B H; clear H; obtain ⟨h4, H⟩ := H'
    obtain rfl : ty = 0 := Nat.eq_of_beq_eq_true hb
    have hn : j < n := Nat.le_of_ble_eq_true hn
    have h4 : j < 4096 := Nat.lt_succ_of_le (Nat.le_of_ble_eq_true h4)
    obtain ⟨d', us', hC', hal⟩ := ft_arr hR hC
    obtain ⟨q, hq⟩ := fIs_ok hi
    obtain ⟨us1, e1, e2⟩ := fcr_store (ty := 0) hal (ft_arrI hR hC) h4 v (fun _ => ⟨q, hq⟩)
    obtain ⟨t', e3, e4⟩ := ft_set hR hC e2
    rw [e1, e3, nx1 hc (n := 0) rfl] at H
    refine fgo_hc (S' := T) hc e4 rfl ?_ H
    rw [List.map_cons, hq]
    exact eh_ias hC' (en_ix hn h4)
  · cases H
theorem fo_bas_ok (hc : tb_cd m pc = some (.bastore, nx, tg)) (hR : ft t C) (H : fo_bas m pc nx tg L S (t, k, w) ih cl = some r) : fgo Y cal ih m pc L S C k w r := by
  unfold fo_bas at H
  have H' := fr_P H; clear H; obtain ⟨v, T, _, rfl, H⟩ := H'
  have H' := fr_B H; clear H; obtain ⟨hi, H⟩ := H'
  have H' := fr_P H; clear H; obtain ⟨u, T, _, rfl, H⟩ := H'
  have H' := fr_I H; clear H; rcases H' with ⟨j, rfl, H⟩ | ⟨u, rfl, H⟩
  · have H' := fr_P H; clear H; obtain ⟨u, T, _, rfl, H⟩ := H'
    have H' := fr_Rf H; clear H; obtain ⟨a, rfl, H⟩ := H'
    try dsimp only at H
    have H' := fr_arr' H (fun _ => rfl); clear H; obtain ⟨ty, n, d, us, hC, H⟩ := H'
    try dsimp only at H
    have H' := fr_B H; clear H; obtain ⟨hb, H⟩ := H'
    have H' := fr_B H; clear H; obtain ⟨hn, H⟩ := H'
    have H' := fr_B H; clear H; obtain ⟨h4, H⟩ := H'
    obtain rfl : ty = 2 := Nat.eq_of_beq_eq_true hb
    have hn : j < n := Nat.le_of_ble_eq_true hn
    have h4 : j < 4096 := Nat.lt_succ_of_le (Nat.le_of_ble_eq_true h4)
    obtain ⟨d', us', hC', hal⟩ := ft_arr hR hC
    obtain ⟨q, hq⟩ := fIs_ok hi
    obtain ⟨v1, f1, f2⟩ := fvb_ok (fBs (fv v))
    obtain ⟨us1, e1, e2⟩ := fcr_store (ty := 2) hal (ft_arrI hR hC) h4 v1 (fun h => nomatch h)
    obtain ⟨t', e3, e4⟩ := ft_set hR hC e2
    rw [f2, e1, e3, nx1 hc (n := 0) rfl] at H
    refine fgo_hc (S' := T) hc e4 rfl ?_ H
    rw [List.map_cons, f1, hq]
    exact eh_bas hC' (en_ix hn h4)
  · cases H
theorem fo_las_ok (hc : tb_cd m pc = some (.lastore, nx, tg)) (hR : ft t C) (H : fo_las m pc nx tg L S (t, k, w) ih cl = some r) : fgo Y cal ih m pc L S C k w r := by
  unfold fo_las at H
  have H' := fr_P H; clear H; obtain ⟨v, T, _, rfl, H⟩ := H'
  have H' := fr_B H; clear H; obtain ⟨hi, H⟩ := H'
  have H' := fr_P H; clear H; obtain ⟨u, T, _, rfl, H⟩ := H'
  have H' := fr_I H; clear H; rcases H' with ⟨j, rfl, H⟩ | ⟨u, rfl, H⟩
  · have H' := fr_P H; clear H; obtain ⟨u, T, _, rfl, H⟩ := H'
    have H' := fr_Rf H; clear H; obtain ⟨a, rfl, H⟩ := H'
    try dsimp only at H
    have H' := fr_arr' H (fun _ => rfl); clear H; obtain ⟨ty, n, d, us, hC, H⟩ := H'
    try dsimp only at H
    have H' := fr_B H; clear H; obtain ⟨hb, H⟩ := H'
    have H' := fr_B H; clear H; obtain ⟨hn, H⟩ := H'
    have H' := fr_B H; clear H; obtain ⟨h4, H⟩ := H'
    obtain rfl : ty = 1 := Nat.eq_of_beq_eq_true hb
    have hn : j < n := Nat.le_of_ble_eq_true hn
    have h4 : j < 4096 := Nat.lt_succ_of_le (Nat.le_of_ble_eq_true h4)
    obtain ⟨d', us', hC', hal⟩ := ft_arr hR hC
    obtain ⟨q, hq⟩ := fLs_ok hi
    obtain ⟨us1, e1, e2⟩ := fcr_store (ty := 1) hal (ft_arrI hR hC) h4 v (fun h => nomatch h)
    obtain ⟨t', e3, e4⟩ := ft_set hR hC e2
    rw [e1, e3, nx1 hc (n := 0) rfl] at H
    refine fgo_hc (S' := T) hc e4 rfl ?_ H
    rw [List.map_cons, hq]
    exact eh_las hC' (en_ix hn h4)
  · cases H
theorem fo_aas_ok (hc : tb_cd m pc = some (.aastore, nx, tg)) (hR : ft t C) (H : fo_aas m pc nx tg L S (t, k, w) ih cl = some r) : fgo Y cal ih m pc L S C k w r := by
  unfold fo_aas at H
  have H' := fr_P H; clear H; obtain ⟨v, T, _, rfl, H⟩ := H'
  have H' := fr_Rf H; clear H; obtain ⟨b, rfl, H⟩ := H'
  have H' := fr_P H; clear H; obtain ⟨u, T, _, rfl, H⟩ := H'
  have H' := fr_I H; clear H; rcases H' with ⟨j, rfl, H⟩ | ⟨u, rfl, H⟩
  · have H' := fr_P H; clear H; obtain ⟨u, T, _, rfl, H⟩ := H'
    have H' := fr_Rf H; clear H; obtain ⟨a, rfl, H⟩ := H'
    try dsimp only at H
    have H' := fr_arr' H (fun _ => rfl); clear H; obtain ⟨ty, n, d, us, hC, H⟩ := H'
    try dsimp only at H
    have H' := fr_B H; clear H; obtain ⟨hb, H⟩ := H'
    have H' := fr_B H; clear H; obtain ⟨hn, H⟩ := H'
    have H' := fr_B H; clear H; obtain ⟨h4, H⟩ := H'
    have H' := fr_obj' H (fun _ => rfl); clear H; obtain ⟨cj, vs, hV, H⟩ := H'
    try dsimp only at H
    have H' := fr_B H; clear H; obtain ⟨he, H⟩ := H'
    obtain rfl : cj + 3 = ty := Nat.eq_of_beq_eq_true he
    have hn : j < n := Nat.le_of_ble_eq_true hn
    have h4 : j < 4096 := Nat.lt_succ_of_le (Nat.le_of_ble_eq_true h4)
    obtain ⟨d', us', hC', hal⟩ := ft_arr hR hC
    obtain ⟨us1, e1, e2⟩ := fcr_store (ty := cj + 3) hal (ft_arrI hR hC) h4 (.inr (.inl b)) (fun h => nomatch h)
    obtain ⟨t', e3, e4⟩ := ft_set hR hC e2
    rw [e1, e3, nx1 hc (n := 0) rfl] at H
    exact fgo_hc (S' := T) hc e4 rfl (eh_aas hC' (ft_obj hR hV) (en_ix hn h4)) H
  · cases H
theorem fo_alen_ok (hc : tb_cd m pc = some (.arraylength, nx, tg)) (hR : ft t C) (H : fo_alen m pc nx tg L S (t, k, w) ih cl = some r) : fgo Y cal ih m pc L S C k w r := by
  unfold fo_alen at H
  have H' := fr_P H; clear H; obtain ⟨v, T, _, rfl, H⟩ := H'
  have H' := fr_Rf H; clear H; obtain ⟨a, rfl, H⟩ := H'
  try dsimp only at H
  have H' := fr_arr' H (fun _ => rfl); clear H; obtain ⟨ty, n, d, us, hC, H⟩ := H'
  try dsimp only at H
  have H' := fr_B H; clear H; obtain ⟨hb, H⟩ := H'
  obtain ⟨d', us', hC', hal⟩ := ft_arr hR hC
  rw [nx1 hc (n := 0) rfl] at H
  exact fgo_h (S' := .inl n :: T) hc hR rfl (eh_alen hC') H
theorem fo_ldc_ok {x : Nat} (hc : tb_cd m pc = some (.ldc x, nx, tg)) (hR : ft t C) (H : fo_ldc x m pc nx tg L S (t, k, w) ih cl = some r) : fgo Y cal ih m pc L S C k w r := by
  unfold fo_ldc at H
  have H' := fr_O H; clear H; obtain ⟨⟨kd, v, b⟩, hp, H⟩ := H'
  try dsimp only at H
  have H' := fr_B H; clear H; obtain ⟨hb, H⟩ := H'
  have H' := fr_B H; clear H; obtain ⟨h4, H⟩ := H'
  obtain rfl : kd = 6 := Nat.eq_of_beq_eq_true hb
  have hp' : ep_pl (tb_P Y) m x = some (6, v, b) := hp
  rw [nx1 hc (n := 1) rfl] at H
  refine fgo_h (S' := .inl v :: S) hc hR rfl ?_ H
  unfold ea_h
  try dsimp only
  rw [hp']
  rfl
theorem fo_ldcw_ok {x : Nat} (hc : tb_cd m pc = some (.ldc_w x, nx, tg)) (hR : ft t C) (H : fo_ldc x m pc nx tg L S (t, k, w) ih cl = some r) : fgo Y cal ih m pc L S C k w r := by
  unfold fo_ldc at H
  have H' := fr_O H; clear H; obtain ⟨⟨kd, v, b⟩, hp, H⟩ := H'
  try dsimp only at H
  have H' := fr_B H; clear H; obtain ⟨hb, H⟩ := H'
  have H' := fr_B H; clear H; obtain ⟨h4, H⟩ := H'
  obtain rfl : kd = 6 := Nat.eq_of_beq_eq_true hb
  have hp' : ep_pl (tb_P Y) m x = some (6, v, b) := hp
  rw [nx1 hc (n := 2) rfl] at H
  refine fgo_h (S' := .inl v :: S) hc hR rfl ?_ H
  unfold ea_h
  try dsimp only
  rw [hp']
  rfl
theorem fo_ldc2_ok {x : Nat} (hc : tb_cd m pc = some (.ldc2_w x, nx, tg)) (hR : ft t C) (H : fo_ldc2 x m pc nx tg L S (t, k, w) ih cl = some r) : fgo Y cal ih m pc L S C k w r := by
  unfold fo_ldc2 at H
  have H' := fr_O H; clear H; obtain ⟨⟨kd, v, b⟩, hp, H⟩ := H'
  try dsimp only at H
  have H' := fr_B H; clear H; obtain ⟨hb, H⟩ := H'
  obtain rfl : kd = 7 := Nat.eq_of_beq_eq_true hb
  have hp' : ep_pl (tb_P Y) m x = some (7, v, b) := hp
  rw [nx1 hc (n := 2) rfl] at H
  refine fgo_h (S' := .inr (.inr (.inr (.inr (.inl (some (Int64.ofNat v)))))) :: S) hc hR rfl ?_ H
  unfold ea_h
  try dsimp only
  rw [hp']
  rfl
theorem fgo_r (hc : tb_cd m pc = some (i, nx, tg)) (hR : ft t C) {v : Option FV} (hp : ea_p i pc (fp_nl m) (L.map fl) (S.map fv) = none) (hh : ea_h (ep_ini (tb_P Y) m) (ep_pl (tb_P Y) m) (ep_fty (tb_P Y)) (ep_scr (tb_P Y) m) i pc (S.map fv) C = none) (hr : ea_rt (fp_rtp m) i (S.map fv) = some (v.map fv)) (hi : i = .ireturn ∨ i = .lreturn ∨ i = .return_) (H : some (.inl v, t, k, w) = some r) : fgo Y cal ih m pc L S C k w r := by
  cases H
  exact .inr ⟨C, ea1_r hc hp hh hr, hR, .inl ⟨i, nx, tg, hc, hi⟩⟩
theorem fo_ire_ok (hc : tb_cd m pc = some (.ireturn, nx, tg)) (hR : ft t C) (H : fo_ire m pc nx tg L S (t, k, w) ih cl = some r) : fgo Y cal ih m pc L S C k w r := by
  unfold fo_ire at H
  have H' := fr_P H; clear H; obtain ⟨v, T, _, rfl, H⟩ := H'
  cases T with
  | cons a T => cases H
  | nil =>
    replace H := fr_B2 (show @Bool.rec (fun _ => Option FR) _ _ (Nat.beq (fp_rtp m) 1) = some r from H)
    rcases H with ⟨hb, H⟩ | ⟨hb, H⟩
    · have H' := fr_B H; clear H; obtain ⟨hi, H⟩ := H'
      obtain ⟨q, hq⟩ := fIs_ok hi
      refine fgo_r (v := some v) hc hR rfl rfl ?_ (.inl rfl) H
      rw [Nat.eq_of_beq_eq_true hb]
      show ea_rt 1 .ireturn [fv v] = some (some (fv v))
      rw [hq]
      rfl
    · have H' := fr_B H; clear H; obtain ⟨hb, H⟩ := H'
      have H' := fr_I H; clear H; rcases H' with ⟨x, rfl, H⟩ | ⟨u, rfl, H⟩
      · have H' := fr_B H; clear H; obtain ⟨hx, H⟩ := H'
        refine fgo_r (v := some (.inl x)) hc hR rfl rfl ?_ (.inl rfl) H
        rw [Nat.eq_of_beq_eq_true hb]
        have hx : x ≤ 1 := Nat.le_of_ble_eq_true hx
        rcases (show x = 0 ∨ x = 1 by omega) with rfl | rfl <;> rfl
      · cases H
theorem fo_lre_ok (hc : tb_cd m pc = some (.lreturn, nx, tg)) (hR : ft t C) (H : fo_lre m pc nx tg L S (t, k, w) ih cl = some r) : fgo Y cal ih m pc L S C k w r := by
  unfold fo_lre at H
  have H' := fr_P H; clear H; obtain ⟨v, T, _, rfl, H⟩ := H'
  cases T with
  | cons a T => cases H
  | nil =>
    replace H := fr_B (show @Bool.rec (fun _ => Option FR) none _ (Nat.beq (fp_rtp m) 2) = some r from H)
    obtain ⟨hb, H⟩ := H
    have H' := fr_B H; clear H; obtain ⟨hi, H⟩ := H'
    obtain ⟨q, hq⟩ := fLs_ok hi
    refine fgo_r (v := some v) hc hR rfl rfl ?_ (.inr (.inl rfl)) H
    rw [Nat.eq_of_beq_eq_true hb]
    show ea_rt 2 .lreturn [fv v] = some (some (fv v))
    rw [hq]
    rfl
theorem fo_re_ok (hc : tb_cd m pc = some (.return_, nx, tg)) (hR : ft t C) (H : fo_re m pc nx tg L S (t, k, w) ih cl = some r) : fgo Y cal ih m pc L S C k w r := by
  unfold fo_re at H
  cases S with
  | cons a T => cases H
  | nil =>
    replace H := fr_B (show @Bool.rec (fun _ => Option FR) none _ (Nat.beq (fp_rtp m) 0) = some r from H)
    obtain ⟨hb, H⟩ := H
    refine fgo_r (v := none) hc hR rfl rfl ?_ (.inr (.inr rfl)) H
    rw [Nat.eq_of_beq_eq_true hb]
    rfl
end FSC
