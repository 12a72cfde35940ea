/-! THE CHECKER WITH RELATIONS: a contract that it checks holds -/
def xw2_h (hd : Nat → Option HX) (c : CX) (m pc : Nat) (F : List FR) : Option HX := match F with
  | [] => bif Nat.beq m c.1.1 then hd pc else none
  | _ => none
theorem xw2_h_ok {hd : Nat → Option HX} {c : CX} {m pc : Nat} {F : List FR} {h : HX} (hx : xw2_h hd c m pc F = some h) : F = [] ∧ m = c.1.1 ∧ hd pc = some h := by
  unfold xw2_h at hx
  split at hx
  · cases hb : Nat.beq m c.1.1 with
    | false => rw [hb] at hx; cases hx
    | true => rw [hb] at hx; exact ⟨rfl, Nat.eq_of_beq_eq_true hb, hx⟩
  · cases hx
/-- the unknowns that are still named somewhere, as bits -/
def xg_b (M v : Nat) : Nat := Nat.lor M (Nat.shiftLeft 1 v)
def xg_v (x : XV) (M : Nat) : Nat := match x with
  | .inl i => xg_b M i.2.1
  | .inr _ => M
def xg_L (L : List (Nat × XV)) (M : Nat) : Nat := L.foldr (fun q M => xg_v q.2 M) M
def xg_S (S : List XV) (M : Nat) : Nat := S.foldr xg_v M
def xg_F (F : List FR) (M : Nat) : Nat := F.foldr (fun f M => xg_L f.2.2.1 (xg_S f.2.2.2.1 M)) M
def xg_R (R : List (Nat × XI × XI)) (M : Nat) : Nat := R.foldr (fun q M => xg_b (xg_b M q.2.1.2.1) q.2.2.2.1) M
def xg_O (O : List (Nat × Nat × XI)) (M : Nat) : Nat := O.foldr (fun q M => xg_b M q.2.2.2.1) M
def xg_n (en : List XI) (M : Nat) : Nat := en.foldr (fun i M => xg_b M i.2.1) M
def xg_t (st : Option (Int × List (Int × XI))) (M : Nat) : Nat := match st with
  | some q => q.2.foldr (fun z M => xg_b M z.2.2.1) M
  | none => M
def xg_m (en : List XI) (st : Option (Int × List (Int × XI))) (L : List (Nat × XV)) (S : List XV) (e : XE) (F : List FR) : Nat := xg_n en (xg_t st (xg_L L (xg_S S (xg_F F (xg_R e.2.2.2.1 (xg_O e.2.2.2.2 0))))))
def xg_in (M v : Nat) : Bool := Nat.beq (Nat.land (Nat.shiftRight M v) 1) 1
/-- of the differences those that speak of such -/
def xg_e (M : Nat) (e : XE) : XE := (e.1, e.2.1, e.2.2.1.filter (fun q => xg_in M q.1 && xg_in M q.2.1), e.2.2.2)
theorem xg_ok {r : RN} {e : XE} {M : Nat} (he : xe_g r e) : xe_g r (xg_e M e) := ⟨he.1, he.2.1, he.2.2.1, fun q hq => he.2.2.2 q (List.mem_filter.mp hq).1⟩
def xg_big (n : Nat) (D : List (Nat × Nat × Int)) : Bool := match D with
  | [] => false
  | _ :: t => match n with
    | 0 => true
    | n + 1 => xg_big n t
def xw2 (P : EP) (G : Nat → Option CT) (gs : GS) (cts : Nat → List CX) (mac : Nat → Nat → Option (CX × Nat)) (hd : Nat → Option HX) (c : CX) (en : List XI) (st : Option (Int × List (Int × XI))) (n : Nat) : IH := Nat.rec (fun _ _ _ _ _ _ => false) (fun _ ih m pc L S e F => match xw2_h hd c m pc F with
  | some h => hx_at G en h st L S e
  | none => bif xg_big 25 e.2.2.1 then ea_fn (xg_m en st L S e F) (fun M => fEa (xg_e M e) (fun e => xz2 P G gs cts mac c en ih m pc L S e F)) else xz2 P G gs cts mac c en ih m pc L S e F) n
section XC2
variable {P : EP} {G : Nat → Option CT} {GF : GH} {gs : GS} {cts : Nat → List CX} {mac : Nat → Nat → Option (CX × Nat)} {hd : Nat → Option HX} {c : CX} {en : List XI} {EV : List Int} {C0 : List AC} {st : Option (Int × List (Int × XI))} {Q : Int → Prop}
theorem xw2_ok (h9 : ∀ b, 999 ≤ b → G b = none) (hgs : gs_ok GF gs) (hct : ∀ mj c', c' ∈ cts mj → c'.1.1 = mj ∧ cx_ok P G GF c') (hmc : ∀ m pc mc, mac m pc = some mc → mc_ok P G GF m pc mc.1 mc.2)
    (hQ : ∀ pc h, hd pc = some h → ∀ cl C z, hx_g GF G h EV cl C → mt_g GF cl EV C h.2.2.2.2 z → Q (h.2.2.2.1 - z) → fr_c GF c.1.2.2.1 C0 C → ok_ P c.1.1 pc cl [] C (cx_post GF G c EV C0)) (n : Nat) : ∀ m pc L S e F, xw2 P G gs cts mac hd c en st n m pc L S e F = true → xw2_s P G GF c en EV C0 st Q m pc L S e F := by
  induction n with
  | zero => intro m pc L S e F h; cases h
  | succ n IHn =>
    intro m pc L S e F hx
    have h : (match xw2_h hd c m pc F with
      | some h => hx_at G en h st L S e
      | none => bif xg_big 25 e.2.2.1 then ea_fn (xg_m en st L S e F) (fun M => fEa (xg_e M e) (fun e => xz2 P G gs cts mac c en (xw2 P G gs cts mac hd c en st n) m pc L S e F)) else xz2 P G gs cts mac c en (xw2 P G gs cts mac hd c en st n) m pc L S e F) = true := hx
    clear hx
    split at h
    · rename_i a ha
      obtain ⟨rfl, rfl, h1⟩ := xw2_h_ok ha
      intro r cl cs C cf hst hn he hl hs hh hg hf hfr
      obtain ⟨rfl, k1, z, k2, k3⟩ := hx_at_ok h9 he hl hs hn hh hg hst h
      obtain rfl := ea_rl_nil hf
      exact hQ _ _ h1 cl C z k1 k2 k3 hfr
    · cases hb : xg_big 25 e.2.2.1 with
      | false =>
        rw [hb] at h
        exact xz2_ok h9 hgs hct hmc IHn h
      | true =>
        rw [hb] at h
        simp only [cond_true] at h
        rw [ea_fn_eq, fEa_eq] at h
        have q := xz2_ok h9 hgs hct hmc IHn h
        intro r cl cs C cf hst hn he hl hs hh hg hf hfr
        exact q r cl cs C cf hst hn (xg_ok he) hl hs (xh_g_mono (rn_le_rf r) rfl hh) (gh_g_mono (rn_le_rf r) rfl hg) hf hfr
/-- the start -/
def cx_en (P : EP) (G : Nat → Option CT) (gs : GS) (cts : Nat → List CX) (mac : Nat → Nat → Option (CX × Nat)) (hd : Nat → Option HX) (c : CX) (n : Nat) : Bool :=
  match rl_i G (xa_ar 0 (xa_in c.1.2.1 (en_i c.1.2.2.2.2.2 xe_0).2).1) (en_i c.1.2.2.2.2.2 xe_0).1 (pl_i G c.1.2.2.2.2.2 (en_i c.1.2.2.2.2.2 xe_0).1 (xa_in c.1.2.1 (en_i c.1.2.2.2.2.2 xe_0).2).2) c.2.1 with
  | some e => fEa e fun e => xw2 P G gs cts mac hd c (en_i c.1.2.2.2.2.2 xe_0).1 none n c.1.1 0 (xa_ar 0 (xa_in c.1.2.1 (en_i c.1.2.2.2.2.2 xe_0).2).1) [] e []
  | none => true
/-- a head is checked -/
def hx_ck (P : EP) (G : Nat → Option CT) (gs : GS) (cts : Nat → List CX) (mac : Nat → Nat → Option (CX × Nat)) (hd : Nat → Option HX) (c : CX) (n pc : Nat) (h : HX) : Bool :=
  match rl_i G (hl_in h.1 (en_i c.1.2.2.2.2.2 xe_0).2).1 (en_i c.1.2.2.2.2.2 xe_0).1 (pb_i G h.2.1 (hl_in h.1 (en_i c.1.2.2.2.2.2 xe_0).2).2) h.2.2.1 with
  | some e => fEa e fun e => (match mt_x G (hl_in h.1 (en_i c.1.2.2.2.2.2 xe_0).2).1 (en_i c.1.2.2.2.2.2 xe_0).1 e h.2.2.2.2 with
    | some l => xz2 P G gs cts mac c (en_i c.1.2.2.2.2.2 xe_0).1 (xw2 P G gs cts mac hd c (en_i c.1.2.2.2.2.2 xe_0).1 (some (h.2.2.2.1, l)) n) c.1.1 pc (hl_in h.1 (en_i c.1.2.2.2.2.2 xe_0).2).1 [] e []
    | none => false)
  | none => true
theorem gh_0 (C : List AC) : gh_g rn_0 GF xe_0 C := fun a k x _ hx => by cases hx
theorem cx_by (h9 : ∀ b, 999 ≤ b → G b = none) (hgs : gs_ok GF gs) (hct : ∀ mj c', c' ∈ cts mj → c'.1.1 = mj ∧ cx_ok P G GF c') (hmc : ∀ m pc mc, mac m pc = some mc → mc_ok P G GF m pc mc.1 mc.2) (n : Nat) (hhd : ∀ pc h, hd pc = some h → hx_ck P G gs cts mac hd c n pc h = true) (hen : cx_en P G gs cts mac hd c n = true) : cx_ok P G GF c := by
  intro vs C0 EV hvs hI hpre hrel
  have main : ∀ (N : Nat) (pc : Nat) (h : HX), hd pc = some h → ∀ cl C z, hx_g GF G h EV cl C → mt_g GF cl EV C h.2.2.2.2 z → 0 ≤ h.2.2.2.1 - z → (h.2.2.2.1 - z).toNat = N → fr_c GF c.1.2.2.1 C0 C → ok_ P c.1.1 pc cl [] C (cx_post GF G c EV C0) := by
    intro N
    induction N using Nat.strongRecOn with
    | ind N IHN =>
      intro pc h hp cl C z hg hm hz hN hfr
      have hck := hhd pc h hp
      unfold hx_ck at hck
      obtain ⟨r0, o1, o2, o3, o4⟩ := en_i_ok xe_0_g hpre
      have hh0 : xh_g r0 G (en_i c.1.2.2.2.2.2 xe_0).2 C := xh_g_mono o1 o4 (show xh_g rn_0 G xe_0 C from hg.1)
      have hg0 : gh_g r0 GF (en_i c.1.2.2.2.2.2 xe_0).2 C := gh_g_mono o1 o4 (gh_0 C)
      obtain ⟨r1, a1, a2, a3, a4⟩ := hl_in_ok o2 hg.2.1
      obtain ⟨NV, hNV⟩ := hg.2.2.1
      obtain ⟨r2, b1, b2, b3, b4⟩ := pb_i_ok h9 a2 (xh_g_mono a1 a4 hh0) (gh_g_mono a1 a4 hg0) hNV
      have hl2 := xl_g_mono b1 a3
      have hn2 := en_g_mono (rn_le_tr a1 b1) o3
      obtain ⟨e3, d1, d2, d3⟩ := rl_i_ok b2 hl2 hn2 b3 b4 hg.2.2.2
      rw [d1] at hck
      dsimp only at hck
      rw [fEa_eq] at hck
      have hh3 := xh_g_mono (rn_le_rf r2) d3 b3
      have hg3 := gh_g_mono (rn_le_rf r2) d3 b4
      split at hck
      · rename_i l hl
        obtain ⟨k1, k2⟩ := mt_x_ok d2 hl2 hn2 hh3 hg3 hl
        have hz' : z = ln_z r2 l := (k2 z).mp hm
        have hI2 := xw2_ok (P := P) (G := G) (GF := GF) (gs := gs) (cts := cts) (mac := mac) (hd := hd) (c := c) (en := (en_i c.1.2.2.2.2.2 xe_0).1) (EV := EV) (C0 := C0) (st := some (h.2.2.2.1, l)) (Q := fun u => 0 ≤ u ∧ u < h.2.2.2.1 - z) h9 hgs hct hmc (fun pc' h' hp' cl' C' z' hg' hm' hq' hfr' => IHN ((h'.2.2.2.1 - z').toNat) (by omega) pc' h' hp' cl' C' z' hg' hm' hq'.1 rfl hfr') n
        refine xz2_ok h9 hgs hct hmc hI2 hck r2 cl [] C [] ⟨k1, fun u hu hlt => ⟨hu, ?_⟩⟩ hn2 d2 hl2 trivial hh3 hg3 trivial hfr
        rw [hz']
        exact hlt
      · cases hck
  obtain ⟨r0, o1, o2, o3, o4⟩ := en_i_ok xe_0_g hpre
  have hh0 : xh_g r0 G (en_i c.1.2.2.2.2.2 xe_0).2 C0 := xh_g_mono o1 o4 (show xh_g rn_0 G xe_0 C0 from hI)
  have hg0 : gh_g r0 GF (en_i c.1.2.2.2.2.2 xe_0).2 C0 := gh_g_mono o1 o4 (gh_0 C0)
  obtain ⟨r1, a1, a2, a3, a4⟩ := xa_in_ok o2 hvs
  have hn1 := en_g_mono a1 o3
  obtain ⟨b1, b2, b3⟩ := pl_i_ok h9 a2 (xh_g_mono a1 a4 hh0) (gh_g_mono a1 a4 hg0) hpre hn1
  have hl1 := xa_ar_ok 0 a3
  obtain ⟨e3, d1, d2, d3⟩ := rl_i_ok b1 hl1 hn1 b2 b3 hrel
  unfold cx_en at hen
  rw [d1] at hen
  dsimp only at hen
  rw [fEa_eq] at hen
  exact xw2_ok (P := P) (G := G) (GF := GF) (gs := gs) (cts := cts) (mac := mac) (hd := hd) (c := c) (en := (en_i c.1.2.2.2.2.2 xe_0).1) (EV := EV) (C0 := C0) (st := none) (Q := fun u => 0 ≤ u) h9 hgs hct hmc (fun pc' h' hp' cl' C' z' hg' hm' hq' hfr' => main _ pc' h' hp' cl' C' z' hg' hm' hq' rfl hfr') n _ _ _ _ _ _ hen r1 _ [] C0 [] (fun z hz => hz) hn1 d2 hl1 trivial (xh_g_mono (rn_le_rf r1) d3 b2) (gh_g_mono (rn_le_rf r1) d3 b3) trivial (fr_c_rf GF _ C0)
def hx_all (P : EP) (G : Nat → Option CT) (gs : GS) (cts : Nat → List CX) (mac : Nat → Nat → Option (CX × Nat)) (hd : Nat → Option HX) (c : CX) (n : Nat) (l : List (Nat × HX)) : Bool := match l with
  | [] => true
  | q :: t => hx_ck P G gs cts mac hd c n q.1 q.2 && hx_all P G gs cts mac hd c n t
theorem hx_all_ok {n : Nat} : ∀ {l : List (Nat × HX)}, hx_all P G gs cts mac hd c n l = true → ∀ q ∈ l, hx_ck P G gs cts mac hd c n q.1 q.2 = true
  | [], _, q, hq => nomatch hq
  | p :: t, h, q, hq => by
    unfold hx_all at h
    simp only [Bool.and_eq_true] at h
    rcases List.mem_cons.mp hq with rfl | hq
    · exact h.1
    · exact hx_all_ok h.2 q hq
def hx_k (l : List (Nat × HX)) (k : Nat) : Option HX := match l with
  | [] => none
  | q :: t => bif Nat.beq q.1 k then some q.2 else hx_k t k
theorem hx_k_mem : ∀ {l : List (Nat × HX)} {k : Nat} {a : HX}, hx_k l k = some a → (k, a) ∈ l
  | [], k, a, h => by cases h
  | q :: t, k, a, h => by
    unfold hx_k at h
    cases hb : Nat.beq q.1 k with
    | true =>
      rw [hb] at h
      cases h
      have e : q.1 = k := Nat.eq_of_beq_eq_true hb
      subst e
      exact List.mem_cons_self
    | false => rw [hb] at h; exact List.mem_cons_of_mem _ (hx_k_mem h)
def cx_ck (P : EP) (G : Nat → Option CT) (gs : GS) (cts : Nat → List CX) (mac : Nat → Nat → Option (CX × Nat)) (hds : List (Nat × HX)) (c : CX) (n : Nat) : Bool := cx_en P G gs cts mac (hx_k hds) c n && hx_all P G gs cts mac (hx_k hds) c n hds
theorem cx_ck_ok (h9 : ∀ b, 999 ≤ b → G b = none) (hgs : gs_ok GF gs) (hct : ∀ mj c', c' ∈ cts mj → c'.1.1 = mj ∧ cx_ok P G GF c') (hmc : ∀ m pc mc, mac m pc = some mc → mc_ok P G GF m pc mc.1 mc.2) {hds : List (Nat × HX)} {n : Nat} (h : cx_ck P G gs cts mac hds c n = true) : cx_ok P G GF c := by
  unfold cx_ck at h
  simp only [Bool.and_eq_true] at h
  exact cx_by h9 hgs hct hmc n (fun pc a ha => hx_all_ok h.2 _ (hx_k_mem ha)) h.1
end XC2
