/-! HANDS AND CHECKER: heads that are walked by hand, the others by the checker; contracts at calls; locals -/
section HH
variable {P : EP} {G : Nat → Option CT} {GF : GH} {gs : GS} {cts : Nat → List CX} {mac : Nat → Nat → Option (CX × Nat)} {hd : Nat → Option HX} {c : CX}
/-- a head by hand: given that all heads below are right -/
def hh_ok (P : EP) (G : Nat → Option CT) (GF : GH) (hd : Nat → Option HX) (c : CX) (pc : Nat) (h : HX) : Prop := ∀ (C0 : List AC) (EV : List Int) (cl : List (Nat × AV)) (C : List AC) (z : Int), pb_g GF C0 c.1.2.2.2.2.2 EV → hx_g GF G h EV cl C → mt_g GF cl EV C h.2.2.2.2 z → 0 ≤ h.2.2.2.1 - z → fr_c GF c.1.2.2.1 C0 C → (∀ pc' h' cl' C' z', hd pc' = some h' → hx_g GF G h' EV cl' C' → mt_g GF cl' EV C' h'.2.2.2.2 z' → 0 ≤ h'.2.2.2.1 - z' → h'.2.2.2.1 - z' < h.2.2.2.1 - z → fr_c GF c.1.2.2.1 C0 C' → ok_ P c.1.1 pc' cl' [] C' (cx_post GF G c EV C0)) → ok_ P c.1.1 pc cl [] C (cx_post GF G c EV C0)
theorem cx_by_h (h9 : ∀ b, 999 ≤ b → G b = none) (hgs : gs_ok GF gs) (hct : ∀ mj c', c' ∈ cts mj → c'.1.1 = mj ∧ cx_ok P G GF c') (hmc : ∀ m pc mc, mac m pc = some mc → mc_ok P G GF m pc mc.1 mc.2) (n : Nat) (hhd : ∀ pc h, hd pc = some h → hx_ck P G gs cts mac hd c n pc h = true ∨ hh_ok P G GF hd c pc h) (hen : cx_en P G gs cts mac hd c n = true) : cx_ok P G GF c := by
  intro vs C0 EV hvs hI hpre hrel
  have main : ∀ (N : Nat) (pc : Nat) (h : HX), hd pc = some h → ∀ cl C z, hx_g GF G h EV cl C → mt_g GF cl EV C h.2.2.2.2 z → 0 ≤ h.2.2.2.1 - z → (h.2.2.2.1 - z).toNat = N → fr_c GF c.1.2.2.1 C0 C → ok_ P c.1.1 pc cl [] C (cx_post GF G c EV C0) := by
    intro N
    induction N using Nat.strongRecOn with
    | ind N IHN =>
      intro pc h hp cl C z hg hm hz hN hfr
      rcases hhd pc h hp with hck | hand
      · unfold hx_ck at hck
        obtain ⟨r0, o1, o2, o3, o4⟩ := en_i_ok xe_0_g hpre
        have hh0 : xh_g r0 G (en_i c.1.2.2.2.2.2 xe_0).2 C := xh_g_mono o1 o4 (show xh_g rn_0 G xe_0 C from hg.1)
        have hg0 : gh_g r0 GF (en_i c.1.2.2.2.2.2 xe_0).2 C := gh_g_mono o1 o4 (gh_0 C)
        obtain ⟨r1, a1, a2, a3, a4⟩ := hl_in_ok o2 hg.2.1
        obtain ⟨NV, hNV⟩ := hg.2.2.1
        obtain ⟨r2, b1, b2, b3, b4⟩ := pb_i_ok h9 a2 (xh_g_mono a1 a4 hh0) (gh_g_mono a1 a4 hg0) hNV
        have hl2 := xl_g_mono b1 a3
        have hn2 := en_g_mono (rn_le_tr a1 b1) o3
        obtain ⟨e3, d1, d2, d3⟩ := rl_i_ok b2 hl2 hn2 b3 b4 hg.2.2.2
        rw [d1] at hck
        dsimp only at hck
        rw [fEa_eq] at hck
        have hh3 := xh_g_mono (rn_le_rf r2) d3 b3
        have hg3 := gh_g_mono (rn_le_rf r2) d3 b4
        split at hck
        · rename_i l hl
          obtain ⟨k1, k2⟩ := mt_x_ok d2 hl2 hn2 hh3 hg3 hl
          have hz' : z = ln_z r2 l := (k2 z).mp hm
          have hI2 := xw2_ok (P := P) (G := G) (GF := GF) (gs := gs) (cts := cts) (mac := mac) (hd := hd) (c := c) (en := (en_i c.1.2.2.2.2.2 xe_0).1) (EV := EV) (C0 := C0) (st := some (h.2.2.2.1, l)) (Q := fun u => 0 ≤ u ∧ u < h.2.2.2.1 - z) h9 hgs hct hmc (fun pc' h' hp' cl' C' z' hg' hm' hq' hfr' => IHN ((h'.2.2.2.1 - z').toNat) (by omega) pc' h' hp' cl' C' z' hg' hm' hq'.1 rfl hfr') n
          refine xz2_ok h9 hgs hct hmc hI2 hck r2 cl [] C [] ⟨k1, fun u hu hlt => ⟨hu, ?_⟩⟩ hn2 d2 hl2 trivial hh3 hg3 trivial hfr
          rw [hz']
          exact hlt
        · cases hck
      · exact hand C0 EV cl C z hpre hg hm hz hfr (fun pc' h' cl' C' z' hp' hg' hm' h0' hlt' hfr' => IHN ((h'.2.2.2.1 - z').toNat) (by omega) pc' h' hp' cl' C' z' hg' hm' h0' rfl hfr')
  obtain ⟨r0, o1, o2, o3, o4⟩ := en_i_ok xe_0_g hpre
  have hh0 : xh_g r0 G (en_i c.1.2.2.2.2.2 xe_0).2 C0 := xh_g_mono o1 o4 (show xh_g rn_0 G xe_0 C0 from hI)
  have hg0 : gh_g r0 GF (en_i c.1.2.2.2.2.2 xe_0).2 C0 := gh_g_mono o1 o4 (gh_0 C0)
  obtain ⟨r1, a1, a2, a3, a4⟩ := xa_in_ok o2 hvs
  have hn1 := en_g_mono a1 o3
  obtain ⟨b1, b2, b3⟩ := pl_i_ok h9 a2 (xh_g_mono a1 a4 hh0) (gh_g_mono a1 a4 hg0) hpre hn1
  have hl1 := xa_ar_ok 0 a3
  obtain ⟨e3, d1, d2, d3⟩ := rl_i_ok b1 hl1 hn1 b2 b3 hrel
  unfold cx_en at hen
  rw [d1] at hen
  dsimp only at hen
  rw [fEa_eq] at hen
  exact xw2_ok (P := P) (G := G) (GF := GF) (gs := gs) (cts := cts) (mac := mac) (hd := hd) (c := c) (en := (en_i c.1.2.2.2.2.2 xe_0).1) (EV := EV) (C0 := C0) (st := none) (Q := fun u => 0 ≤ u) h9 hgs hct hmc (fun pc' h' hp' cl' C' z' hg' hm' hq' hfr' => main _ pc' h' hp' cl' C' z' hg' hm' hq' rfl hfr') n _ _ _ _ _ _ hen r1 _ [] C0 [] (fun z hz => hz) hn1 d2 hl1 trivial (xh_g_mono (rn_le_rf r1) d3 b2) (gh_g_mono (rn_le_rf r1) d3 b3) trivial (fr_c_rf GF _ C0)
end HH
/-! locals -/
theorem lk_s1 (L : List (Nat × AV)) (i : Nat) (a : AV) : ea_lk (ea_s1 L i a) i = some a := by
  show (bif Nat.beq i i then some a else _) = _
  rw [Nat.beq_refl]
  rfl
theorem lk_filt {f : Nat × AV → Bool} {j : Nat} {v : AV} : ∀ {L : List (Nat × AV)}, ea_lk L j = some v → (∀ q ∈ L, q.1 = j → f q = true) → ea_lk (L.filter f) j = some v
  | [], h, _ => by cases h
  | q :: t, h, hf => by
    unfold ea_lk at h
    cases hb : Nat.beq q.1 j with
    | true =>
      rw [hb] at h
      simp only [cond_true] at h
      rw [List.filter_cons, if_pos (hf q List.mem_cons_self (Nat.eq_of_beq_eq_true hb))]
      unfold ea_lk
      rw [hb]
      exact h
    | false =>
      rw [hb] at h
      simp only [cond_false] at h
      have ih := lk_filt h (fun q' hq' => hf q' (List.mem_cons_of_mem _ hq'))
      rw [List.filter_cons]
      split
      · unfold ea_lk
        rw [hb]
        exact ih
      · exact ih
/-- a store to another local, not behind it -/
theorem lk_s1_ne {L : List (Nat × AV)} {i j : Nat} {a v : AV} (h : ea_lk L j = some v) (hij : j ≠ i) (hj : j + 1 ≠ i) : ea_lk (ea_s1 L i a) j = some v := by
  unfold ea_s1
  show (bif Nat.beq i j then some a else ea_lk (L.filter _) j) = some v
  have hb : Nat.beq i j = false := by
    cases hb : Nat.beq i j with
    | false => rfl
    | true => exact absurd (Nat.eq_of_beq_eq_true hb).symm hij
  rw [hb]
  refine lk_filt h (fun q _ hq => ?_)
  rw [hq]
  simp [hij, hj]
/-- a store to the next local, where an int or a reference stands -/
theorem lk_filt1 {i j : Nat} {v : AV} (hv : ea_cat v = 1) : ∀ {L : List (Nat × AV)}, ea_lk L j = some v → j ≠ i → ea_lk (L.filter (fun q => !(q.1 == i) && !(q.1 + 1 == i && ea_cat q.2 == 2))) j = some v
  | [], h, _ => by cases h
  | q :: t, h, hij => by
    unfold ea_lk at h
    cases hb : Nat.beq q.1 j with
    | true =>
      rw [hb] at h
      simp only [cond_true, Option.some.injEq] at h
      have e := Nat.eq_of_beq_eq_true hb
      rw [List.filter_cons, if_pos (by rw [h, hv, e]; simp [hij])]
      unfold ea_lk
      rw [hb, h]
      rfl
    | false =>
      rw [hb] at h
      simp only [cond_false] at h
      have ih := lk_filt1 hv h hij
      rw [List.filter_cons]
      split
      · unfold ea_lk
        rw [hb]
        exact ih
      · exact ih
theorem lk_s1_n1 {L : List (Nat × AV)} {i j : Nat} {a v : AV} (h : ea_lk L j = some v) (hv : ea_cat v = 1) (hij : j ≠ i) : ea_lk (ea_s1 L i a) j = some v := by
  unfold ea_s1
  show (bif Nat.beq i j then some a else ea_lk (L.filter _) j) = some v
  have hb : Nat.beq i j = false := by
    cases hb : Nat.beq i j with
    | false => rfl
    | true => exact absurd (Nat.eq_of_beq_eq_true hb).symm hij
  rw [hb]
  exact lk_filt1 hv h hij
section OKS3
variable {P : EP} {m pc : Nat} {L : List (Nat × AV)} {S : List AV} {C : List AC} {K : Option AV ⊕ Nat → List AC → Prop}
theorem ok_an {k : Fin 4} {v : AV} (hc : ep_cod P m pc = some (.aload_n k, 1)) (hl : ea_lk L k = some v) (hr : ea_isr v = true) (h : ok_ P m (pc + 1) L (v :: S) C K) : ok_ P m pc L S C K :=
  ok_p hc rfl (show (match ea_lk L k with
    | some a => if ea_isr a = true then some (pc + 1, L, a :: S) else none
    | none => none) = some (pc + 1, L, v :: S) by rw [hl]; dsimp only; rw [if_pos hr]) h
theorem ok_in {k : Fin 4} {x : AI} (hc : ep_cod P m pc = some (.iload_n k, 1)) (hl : ea_lk L k = some (.inl x)) (h : ok_ P m (pc + 1) L (.inl x :: S) C K) : ok_ P m pc L S C K :=
  ok_p hc rfl (show (match ea_lk L k with
    | some (.inl a) => some (pc + 1, L, .inl a :: S)
    | _ => none) = some (pc + 1, L, .inl x :: S) by rw [hl]) h
theorem ok_il {k : Nat} {x : AI} (hc : ep_cod P m pc = some (.iload k, 2)) (hl : ea_lk L k = some (.inl x)) (h : ok_ P m (pc + 2) L (.inl x :: S) C K) : ok_ P m pc L S C K :=
  ok_p hc rfl (show (match ea_lk L k with
    | some (.inl a) => some (pc + 2, L, .inl a :: S)
    | _ => none) = some (pc + 2, L, .inl x :: S) by rw [hl]) h
theorem ok_ii {k : Nat} {n : Int} {x : Int32} (hc : ep_cod P m pc = some (.iinc k n, 3)) (hk : k < ep_nls P m) (hl : ea_lk L k = some (.inl (.inl x))) (h : ok_ P m (pc + 3) (ea_s1 L k (.inl (.inl (x + Int32.ofInt n)))) S C K) : ok_ P m pc L S C K :=
  ok_p hc rfl (show (match ea_lk L k with
    | some (.inl a) => if k < ep_nls P m then some (pc + 3, ea_s1 L k (.inl (iv_2 (fun x y => x + y) iv_addg a (.inl (Int32.ofInt n)))), S) else none
    | _ => none) = some (pc + 3, ea_s1 L k (.inl (.inl (x + Int32.ofInt n))), S) by rw [hl]; dsimp only; rw [if_pos hk]; rfl) h
/-- a call by its contract -/
theorem ok_cx {G : Nat → Option CT} {GF : GH} {c : CX} (hcx : cx_ok P G GF c) {x n a ci : Nat} {vs : List AV} {as T : List AV} {EV : List Int} (hc : ep_cod P m pc = some (.invokevirtual x, 3)) (hp : ep_pl P m x = some (2, c.1.1, n)) (hC : ea_nt C a = some (.inr (ci, vs))) (ho : ep_own P c.1.1 = ci) (hn : as.length = n) (hd : (Nat.blt (ep_dep P c.1.1) (ep_dep P m) && (Nat.ble (ea_wt T) 8 && Nat.ble (ea_wt (.inr (.inl (some a)) :: as)) (ep_nls P c.1.1))) = true) (hv : ea_rl at_g c.1.2.1 (.inr (.inl (some a)) :: as)) (hI : xI G C) (hE : pb_g GF C c.1.2.2.2.2.2 EV) (hR : rl_g GF (ea_ar 0 (.inr (.inl (some a)) :: as)) EV C c.2.1) (h : ∀ v C', xI G C' → fr_c GF c.1.2.2.1 C C' → rt_g c.1.2.2.2.1 v → po_g GF (cx_po c v) v EV C' → ok_ P m (pc + 3) L (v.toList ++ T) C' K) : ok_ P m pc L (as.reverse ++ .inr (.inl (some a)) :: T) C K := by
  refine ok_cv hc hp hC ho hn hd (ok_post (hcx _ C EV hv hI hE hR) (fun o C' hq => ?_))
  obtain ⟨v, rfl, o1, o2, o3, o4⟩ := hq
  exact h v C' o1 o2 o3 o4
end OKS3
theorem sp_cl {GF : GH} {cl cl' : List (Nat × AV)} {EV : List Int} {C : List AC} {s : Nat ⊕ (Nat × Nat)} {z : Int} (h : sp_g GF cl EV C (.inr s) z) : sp_g GF cl' EV C (.inr s) z := by
  match s, h with
  | .inl j, h => exact h
  | .inr q, h => exact h
/-- a relation that names no local -/
def rl_n (q : RL) : Bool := match q.1, q.2.1 with
  | .inr _, .inr _ => true
  | _, _ => false
theorem rl_cl {GF : GH} {cl cl' : List (Nat × AV)} {EV : List Int} {C : List AC} {l l' : List RL} (h : rl_g GF cl EV C l) (hs : ∀ q ∈ l', q ∈ l) (hn : l'.all rl_n = true) : rl_g GF cl' EV C l' := fun q hq => by
  have h1 := List.all_eq_true.mp hn q hq
  obtain ⟨z1, z2, s1, s2, s3⟩ := h q (hs q hq)
  obtain ⟨a, b, k⟩ := q
  match a, b, h1, s1, s2 with
  | .inr a, .inr b, _, s1, s2 => exact ⟨z1, z2, sp_cl s1, sp_cl s2, s3⟩
/-- the n-th place of those known -/
theorem pb_nt {GF : GH} {C : List AC} : ∀ {l : List PB} {EV : List Int}, pb_g GF C l EV → ∀ {k : Nat} {q : PB}, ea_nt l k = some q → ∃ z, ea_nt EV k = some z ∧ pv GF C q.1 q.2.1 z ∧ q.2.2.1 ≤ z ∧ z ≤ q.2.2.2
  | [], _, _, k, q, hq => by cases hq
  | p :: t, EV, h, k, q, hq => by
    obtain ⟨b, t', rfl, h1, h2⟩ := ea_rl_cons h
    cases k with
    | zero => cases hq; exact ⟨b, rfl, h1⟩
    | succ k => exact pb_nt h2 (show ea_nt t k = some q from hq)
/-- a relation as a row of numbers -/
theorem rl_z {GF : GH} {cl : List (Nat × AV)} {EV : List Int} {C : List AC} {l : List RL} (h : rl_g GF cl EV C l) {a b : SP} {k : Int} (hq : (a, b, k) ∈ l) {z1 z2 : Int} (h1 : sp_g GF cl EV C a z1) (h2 : sp_g GF cl EV C b z2) : z1 - z2 ≤ k := by
  obtain ⟨y1, y2, s1, s2, s3⟩ := h _ hq
  rw [sp_one h1 s1, sp_one h2 s2]
  exact s3
theorem pv_f {GF : GH} {C : List AC} {a k ci : Nat} {vs : List AV} {x : Int32} (ha : ¬ 999 ≤ a) (hC : ea_nt C a = some (.inr (ci, vs))) (hx : ea_nt vs k = some (.inl (.inl x))) : pv GF C a k x.toInt := by
  unfold pv
  rw [if_neg ha]
  refine ⟨x, ?_, rfl⟩
  unfold cv
  rw [hC]
  exact hx
