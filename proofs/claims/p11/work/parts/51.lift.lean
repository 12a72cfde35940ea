/-! CONTRACTS BY HAND: what a reader does to the point's lead over the steps, out of what it does to both -/
theorem rl_split {α β : Type} {R : α → β → Prop} {q : α} : ∀ {l : List α} {bs : List β}, ea_rl R (l ++ [q]) bs → ∃ cs b, bs = cs ++ [b] ∧ ea_rl R l cs ∧ R q b
  | [], bs, h => by
    obtain ⟨b, t, rfl, h1, h2⟩ := ea_rl_cons h
    obtain rfl := ea_rl_nil h2
    exact ⟨[], b, rfl, trivial, h1⟩
  | a :: l, bs, h => by
    obtain ⟨b, t, rfl, h1, h2⟩ := ea_rl_cons (show ea_rl R (a :: (l ++ [q])) bs from h)
    obtain ⟨cs, b', rfl, h3, h4⟩ := rl_split h2
    exact ⟨b :: cs, b', rfl, ⟨h1, h3⟩, h4⟩
theorem nt_app {α : Type} {l : List α} {x a : α} {k : Nat} (h : ea_nt l k = some a) : ea_nt (l ++ [x]) k = some a := by
  rw [ea_nt_eq] at h ⊢
  rw [List.getElem?_append_left (List.getElem?_eq_some_iff.mp h).1]
  exact h
theorem nt_last {α : Type} (l : List α) (x : α) : ea_nt (l ++ [x]) l.length = some x := by
  rw [ea_nt_eq, List.getElem?_append_right (Nat.le_refl _), Nat.sub_self]
  rfl
theorem sp_app {GF : GH} {cl : List (Nat × AV)} {EV : List Int} {C : List AC} {s : SP} {z x : Int} (h : sp_g GF cl EV C s z) : sp_g GF cl (EV ++ [x]) C s z := by
  match s, h with
  | .inl k, h => exact h
  | .inr (.inl j), h => exact nt_app (show ea_nt EV j = some z from h)
  | .inr (.inr q), h => exact h
theorem rl_app {GF : GH} {cl : List (Nat × AV)} {EV : List Int} {C : List AC} {l : List RL} {x : Int} (h : rl_g GF cl EV C l) : rl_g GF cl (EV ++ [x]) C l := fun q hq => by
  obtain ⟨z1, z2, h1, h2, h3⟩ := h q hq
  exact ⟨z1, z2, sp_app h1, sp_app h2, h3⟩
theorem pb_mem {GF : GH} {C : List AC} : ∀ {l : List PB} {EV : List Int}, pb_g GF C l EV → ∀ q ∈ l, ∃ z, pv GF C q.1 q.2.1 z ∧ q.2.2.1 ≤ z ∧ z ≤ q.2.2.2
  | [], _, _, q, hq => nomatch hq
  | p :: t, EV, h, q, hq => by
    obtain ⟨b, t', rfl, h1, h2⟩ := ea_rl_cons h
    rcases List.mem_cons.mp hq with rfl | hq
    · exact ⟨b, h1⟩
    · exact pb_mem h2 q hq
theorem rl_snoc {α β : Type} {R : α → β → Prop} {a : α} {b : β} : ∀ {l : List α} {bs : List β}, ea_rl R l bs → R a b → ea_rl R (l ++ [a]) (bs ++ [b]) := fun h1 h2 => ea_rl_app h1 ⟨h2, trivial⟩
def si_q : PB := (1005, 0, -400, 400)
def po_l (po : PO) (n : Nat) (a : Int) : PO := (po.1 ++ [si_q], po.2 ++ [(.inr (.inl n), .inr (.inr (1005, 0)), -a)])
def cx_l (c : CX) (a0 a1 : Int) : CX := ((c.1.1, c.1.2.1, c.1.2.2.1, c.1.2.2.2.1, [], c.1.2.2.2.2.2 ++ [si_q]), c.2.1, c.2.2.1, po_l c.2.2.2.1 c.1.2.2.2.2.2.length a0, po_l c.2.2.2.2 c.1.2.2.2.2.2.length a1)
def po_h (po : PO) (a : Int) : Prop := ((190, 19, 0, 400) : PB) ∈ po.1 ∧ ((190, 25, 0, 400) : PB) ∈ po.1 ∧ ((.inr (.inl 0), .inr (.inr (190, 19)), -a) : RL) ∈ po.2 ∧ ((.inr (.inr (190, 25)), .inr (.inl 1), 0) : RL) ∈ po.2
theorem lift_po (u : Nat) {C C' : List AC} {EV : List Int} {v : Option AV} {po : PO} {a z p s : Int} (hp : po_h po a) (e0 : ea_nt EV 0 = some p) (e1 : ea_nt EV 1 = some s) (hps : p = rf_v C 190 19) (hss : s = rf_v C 190 25) (hz : pv (rf_G u) C 1005 0 z) (h : po_g (rf_G u) po v EV C') : po_g (rf_G u) (po_l po EV.length a) v (EV ++ [z]) C' := by
  obtain ⟨⟨NV, hNV⟩, hrl⟩ := h
  obtain ⟨g1, g2, g3, g4⟩ := hp
  obtain ⟨zp, a1, a2, a3⟩ := pb_mem hNV _ g1
  obtain ⟨zs, b1, b2, b3⟩ := pb_mem hNV _ g2
  dsimp only at a1 a2 a3 b1 b2 b3
  have hzp := rf_v_pv (a := 190) (by decide) a1
  have hzs := rf_v_pv (a := 190) (by decide) b1
  obtain ⟨x1, x2, s1, s2, s3⟩ := hrl _ g3
  obtain ⟨y1, y2, t1, t2, t3⟩ := hrl _ g4
  dsimp only at s1 s2 s3 t1 t2 t3
  have r1 : x1 = p := sp_one s1 (show sp_g (rf_G u) (rv_l v) EV C' (.inr (.inl 0)) p from e0)
  have r2 : x2 = zp := sp_one s2 (show sp_g (rf_G u) (rv_l v) EV C' (.inr (.inr (190, 19))) zp from a1)
  have r3 : y1 = zs := sp_one t1 (show sp_g (rf_G u) (rv_l v) EV C' (.inr (.inr (190, 25))) zs from b1)
  have r4 : y2 = s := sp_one t2 (show sp_g (rf_G u) (rv_l v) EV C' (.inr (.inl 1)) s from e1)
  have hz1 : rf_v C 190 19 - rf_v C 190 25 = z := hz
  have hn : pv (rf_G u) C' 1005 0 (zp - zs) := by
    show rf_v C' 190 19 - rf_v C' 190 25 = zp - zs
    rw [hzp, hzs]
  refine ⟨⟨NV ++ [zp - zs], rl_snoc hNV ⟨hn, by show (-400 : Int) ≤ _; omega, by show _ ≤ (400 : Int); omega⟩⟩, fun q hq => ?_⟩
  rcases List.mem_append.mp hq with hq | hq
  · exact rl_app hrl q hq
  · rcases List.mem_cons.mp hq with rfl | hq
    · exact ⟨z, zp - zs, nt_last EV z, hn, by dsimp only; omega⟩
    · exact nomatch hq
theorem lift_ok (u : Nat) {P : EP} {c : CX} {a0 a1 : Int} (hr : c.2.1 = []) {rest : List PB} (hpre : c.1.2.2.2.2.2 = (190, 19, 0, 400) :: (190, 25, 0, 400) :: rest) (h0 : po_h c.2.2.2.1 a0) (h1 : po_h c.2.2.2.2 a1) (hc : cx_ok P tb_G (rf_G u) c) : cx_ok P tb_G (rf_G u) (cx_l c a0 a1) := by
  intro vs C EV' hvs hI hp hrel
  obtain ⟨EV, z, rfl, hE, hz⟩ := rl_split (show ea_rl _ (c.1.2.2.2.2.2 ++ [si_q]) EV' from hp)
  have run := hc vs C EV hvs hI hE (by rw [hr]; exact fun q hq => nomatch hq)
  have hlen : c.1.2.2.2.2.2.length = EV.length := ea_rl_len hE
  have hE2 := hE
  rw [hpre] at hE2
  obtain ⟨p, E1, rfl, ⟨p1, -, -⟩, hE3⟩ := ea_rl_cons hE2
  obtain ⟨s, E2, rfl, ⟨s1, -, -⟩, hE4⟩ := ea_rl_cons hE3
  have hps := rf_v_pv (a := 190) (by decide) p1
  have hss := rf_v_pv (a := 190) (by decide) s1
  refine ok_post run (fun o C' ho => ?_)
  obtain ⟨v, rfl, o1, o2, o3, o4⟩ := ho
  refine ⟨v, rfl, o1, o2, o3, ?_⟩
  have key : ∀ po a, po_h po a → po_g (rf_G u) po v (p :: s :: E2) C' → po_g (rf_G u) (po_l po c.1.2.2.2.2.2.length a) v ((p :: s :: E2) ++ [z]) C' := fun po a hh hg => by
    rw [hlen]
    exact lift_po u hh rfl rfl hps.symm hss.symm hz.1 hg
  unfold cx_po at o4 ⊢
  split at o4
  · rename_i x
    by_cases hx : x.toInt < c.2.2.1
    · rw [if_pos hx] at o4
      have e : (if x.toInt < (cx_l c a0 a1).2.2.1 then (cx_l c a0 a1).2.2.2.1 else (cx_l c a0 a1).2.2.2.2) = po_l c.2.2.2.1 c.1.2.2.2.2.2.length a0 := if_pos hx
      rw [e]
      exact key _ _ h0 o4
    · rw [if_neg hx] at o4
      have e : (if x.toInt < (cx_l c a0 a1).2.2.1 then (cx_l c a0 a1).2.2.2.1 else (cx_l c a0 a1).2.2.2.2) = po_l c.2.2.2.2 c.1.2.2.2.2.2.length a1 := if_neg hx
      rw [e]
      exact key _ _ h1 o4
  · exact key _ _ h1 o4
theorem tr_h38 (X : Option (List AI)) (u : Nat) (h : cx_ok (tb_P X) tb_G (rf_G u) trk_37) : cx_ok (tb_P X) tb_G (rf_G u) trk_38 := lift_ok (c := trk_37) (a0 := 0) (a1 := 1) u rfl rfl ⟨.head _, .tail _ (.tail _ (.head _)), .head _, .tail _ (.head _)⟩ ⟨.head _, .tail _ (.tail _ (.head _)), .head _, .tail _ (.head _)⟩ h
theorem tr_h40 (X : Option (List AI)) (u : Nat) (h : cx_ok (tb_P X) tb_G (rf_G u) trk_39) : cx_ok (tb_P X) tb_G (rf_G u) trk_40 := lift_ok (c := trk_39) (a0 := 0) (a1 := 1) u rfl rfl ⟨.head _, .tail _ (.tail _ (.head _)), .head _, .tail _ (.head _)⟩ ⟨.head _, .tail _ (.tail _ (.head _)), .head _, .tail _ (.head _)⟩ h
theorem tr_h42 (X : Option (List AI)) (u : Nat) (h : cx_ok (tb_P X) tb_G (rf_G u) trk_41) : cx_ok (tb_P X) tb_G (rf_G u) trk_42 := lift_ok (c := trk_41) (a0 := 0) (a1 := 1) u rfl rfl ⟨.head _, .tail _ (.tail _ (.head _)), .head _, .tail _ (.head _)⟩ ⟨.head _, .tail _ (.tail _ (.head _)), .head _, .tail _ (.head _)⟩ h
theorem tr_h44 (X : Option (List AI)) (u : Nat) (h : cx_ok (tb_P X) tb_G (rf_G u) trk_43) : cx_ok (tb_P X) tb_G (rf_G u) trk_44 := lift_ok (c := trk_43) (a0 := 0) (a1 := 1) u rfl rfl ⟨.head _, .tail _ (.tail _ (.head _)), .head _, .tail _ (.head _)⟩ ⟨.head _, .tail _ (.tail _ (.head _)), .head _, .tail _ (.head _)⟩ h
theorem tr_h46 (X : Option (List AI)) (u : Nat) (h : cx_ok (tb_P X) tb_G (rf_G u) trk_45) : cx_ok (tb_P X) tb_G (rf_G u) trk_46 := lift_ok (c := trk_45) (a0 := 0) (a1 := 1) u rfl rfl ⟨.head _, .tail _ (.tail _ (.head _)), .head _, .tail _ (.head _)⟩ ⟨.head _, .tail _ (.tail _ (.head _)), .head _, .tail _ (.head _)⟩ h
