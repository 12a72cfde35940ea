/-! THE CHECKER: a contract that it checks holds -/
def xw_h (hd : Nat → Option HA) (c : CN) (m pc : Nat) (F : List FR) : Option HA := match F with
  | [] => bif Nat.beq m c.1 then hd pc else none
  | _ => none
theorem xw_h_ok {hd : Nat → Option HA} {c : CN} {m pc : Nat} {F : List FR} {h : HA} (hx : xw_h hd c m pc F = some h) : F = [] ∧ m = c.1 ∧ hd pc = some h := by
  unfold xw_h at hx
  split at hx
  · cases hb : Nat.beq m c.1 with
    | false => rw [hb] at hx; cases hx
    | true => rw [hb] at hx; exact ⟨rfl, Nat.eq_of_beq_eq_true hb, hx⟩
  · cases hx
def xw (P : EP) (G : Nat → Option CT) (cts : Nat → List CN) (hd : Nat → Option HA) (c : CN) (st : Option (Int × List (Int × XI))) (n : Nat) : IH := Nat.rec (fun _ _ _ _ _ _ => false) (fun _ ih m pc L S e F => match xw_h hd c m pc F with
  | some h => ha_at G h st L S e
  | none => xz P G cts c ih m pc L S e F) n
section XC
variable {P : EP} {G : Nat → Option CT} {cts : Nat → List CN} {hd : Nat → Option HA} {c : CN} {C0 : List AC} {st : Option (Int × List (Int × XI))} {Q : Int → Prop}
theorem xw_ok (hct : ∀ mj c', c' ∈ cts mj → c'.1 = mj ∧ cn_ok P G c')
    (hQ : ∀ pc h, hd pc = some h → ∀ cl C z, ha_g G h cl C → ms_g cl C h.2.2.2 z → Q (h.2.2.1 - z) → (∀ b, xm c.2.2.1 b = false → ea_nt C b = ea_nt C0 b) → ok_ P c.1 pc cl [] C (cn_post G c C0)) (n : Nat) : ∀ m pc L S e F, xw P G cts hd c st n m pc L S e F = true → xw_s P G c C0 st Q m pc L S e F := by
  induction n with
  | zero => intro m pc L S e F h; cases h
  | succ n IHn =>
    intro m pc L S e F hx
    have h : (match xw_h hd c m pc F with
      | some h => ha_at G h st L S e
      | none => xz P G cts c (xw P G cts hd c st n) m pc L S e F) = true := hx
    clear hx
    split at h
    · rename_i a ha
      obtain ⟨rfl, rfl, h1⟩ := xw_h_ok ha
      intro r cl cs C cf hst he hl hs hh hf hfr
      obtain ⟨rfl, k1, z, k2, k3⟩ := ha_at_ok he hl hs hh hst h
      obtain rfl := ea_rl_nil hf
      exact hQ _ _ h1 cl C z k1 k2 k3 hfr
    · exact xz_ok hct IHn h
/-- the start at a head -/
def hl_in (l : List (Nat × AT)) (e : XE) : List (Nat × XV) × XE := match l with
  | [] => ([], e)
  | (k, .inl q) :: t => ((k, .inl (xo_new e q.1 q.2).1) :: (hl_in t (xo_new e q.1 q.2).2).1, (hl_in t (xo_new e q.1 q.2).2).2)
  | (k, .inr u) :: t => ((k, .inr u) :: (hl_in t e).1, (hl_in t e).2)
theorem hl_in_ok {cl : List (Nat × AV)} : ∀ {l : List (Nat × AT)} {r : RN} {e : XE}, xe_g r e → (∀ q ∈ l, ∃ v, ea_lk cl q.1 = some v ∧ at_g q.2 v) → ∃ r', rn_le r r' ∧ xe_g r' (hl_in l e).2 ∧ xl_g r' (hl_in l e).1 cl ∧ (hl_in l e).2.2.2.2 = e.2.2.2
  | [], r, e, he, _ => ⟨r, rn_le_rf r, he, (fun q hq => nomatch hq), rfl⟩
  | (k, .inl q) :: t, r, e, he, h => by
    obtain ⟨v, g1, x, rfl, h1, h2⟩ := h _ List.mem_cons_self
    obtain ⟨r1, k1, k2, k3, k4⟩ := xo_new_ok he h1 h2
    obtain ⟨r2, j1, j2, j3, j4⟩ := hl_in_ok (l := t) k2 (fun p hp => h p (List.mem_cons_of_mem _ hp))
    refine ⟨r2, rn_le_tr k1 j1, j2, fun p hp => ?_, j4.trans k4⟩
    rcases List.mem_cons.mp hp with rfl | hp
    · exact ⟨_, g1, xv_gi (xi_g_mono j1 k3)⟩
    · exact j3 p hp
  | (k, .inr u) :: t, r, e, he, h => by
    obtain ⟨v, g1, g2⟩ := h _ List.mem_cons_self
    obtain ⟨r2, j1, j2, j3, j4⟩ := hl_in_ok (l := t) he (fun p hp => h p (List.mem_cons_of_mem _ hp))
    refine ⟨r2, j1, j2, fun p hp => ?_, j4⟩
    rcases List.mem_cons.mp hp with rfl | hp
    · exact ⟨_, g1, at_u g2⟩
    · exact j3 p hp
theorem xe_o_h {r : RN} {e : XE} {C : List AC} {a k : Nat} {x : XI} {y : Int32} (hh : xh_g r G e C) (hf : fd_g C a k y) (hx : xi_g r x y) : xh_g r G (xe_o e a k x) C := by
  obtain ⟨m1, m2, m3⟩ := hh
  obtain ⟨ci, vs, g1, g2⟩ := hf
  refine ⟨fun b cj fs' hG' => ?_, m2, m3⟩
  obtain ⟨vs', n1, n2, n3⟩ := m1 b cj fs' hG'
  refine ⟨vs', n1, n2, fun k' f' hf' => ?_⟩
  obtain ⟨v', o1, o2⟩ := n3 k' f' hf'
  refine ⟨v', o1, ?_⟩
  show xh_f r (xo_k ((a, k, x) :: e.2.2.2.2) b k') f' v'
  rw [xo_k_cons]
  split
  · rename_i hc
    obtain ⟨rfl, rfl⟩ := hc
    rw [g1] at n1
    cases n1
    rw [g2] at o1
    cases o1
    exact xv_gi hx
  · exact o2
def hf_in (l : List (Nat × Nat × Int × Int)) (e : XE) : XE := match l with
  | [] => e
  | q :: t => hf_in t (xe_o (xo_new e q.2.2.1 q.2.2.2).2 q.1 q.2.1 (xo_new e q.2.2.1 q.2.2.2).1)
theorem hf_in_ok {C : List AC} : ∀ {l : List (Nat × Nat × Int × Int)} {r : RN} {e : XE}, xe_g r e → xh_g r G e C → (∀ q ∈ l, ∃ x : Int32, fd_g C q.1 q.2.1 x ∧ q.2.2.1 ≤ x.toInt ∧ x.toInt ≤ q.2.2.2) → ∃ r', rn_le r r' ∧ xe_g r' (hf_in l e) ∧ xh_g r' G (hf_in l e) C
  | [], r, e, he, hh, _ => ⟨r, rn_le_rf r, he, hh⟩
  | q :: t, r, e, he, hh, h => by
    obtain ⟨x, g1, g2, g3⟩ := h _ List.mem_cons_self
    obtain ⟨r1, k1, k2, k3, k4⟩ := xo_new_ok he g2 g3
    obtain ⟨r2, j1, j2, j3⟩ := hf_in_ok (l := t) (xe_o_g k2 q.1 q.2.1 _) (xe_o_h (xh_g_mono k1 k4 hh) g1 k3) (fun p hp => h p (List.mem_cons_of_mem _ hp))
    exact ⟨r2, rn_le_tr k1 j1, j2, j3⟩
def xe_0 : XE := (1, [], [], [], [])
def rn_0 : RN := (fun _ => 0, 1)
theorem xe_0_g : xe_g rn_0 xe_0 := ⟨Nat.one_pos, rfl, (fun q hq => nomatch hq), (fun q hq => nomatch hq)⟩
/-- a head is checked -/
def hd_ck (P : EP) (G : Nat → Option CT) (cts : Nat → List CN) (hd : Nat → Option HA) (c : CN) (n pc : Nat) (h : HA) : Bool :=
  match ms_x G (hl_in h.1 xe_0).1 (hf_in h.2.1 (hl_in h.1 xe_0).2) h.2.2.2 with
  | some l => xz P G cts c (xw P G cts hd c (some (h.2.2.1, l)) n) c.1 pc (hl_in h.1 xe_0).1 [] (hf_in h.2.1 (hl_in h.1 xe_0).2) []
  | none => false
theorem cn_by (hct : ∀ mj c', c' ∈ cts mj → c'.1 = mj ∧ cn_ok P G c') (n : Nat) (hhd : ∀ pc h, hd pc = some h → hd_ck P G cts hd c n pc h = true) (hen : xw P G cts hd c none n c.1 0 (xa_ar 0 (xa_in c.2.1 xe_0).1) [] (hf_in c.2.2.2.2.2 (xa_in c.2.1 xe_0).2) [] = true) : cn_ok P G c := by
  intro vs C0 hvs hI hpre
  have main : ∀ (N : Nat) (pc : Nat) (h : HA), hd pc = some h → ∀ cl C z, ha_g G h cl C → ms_g cl C h.2.2.2 z → 0 ≤ h.2.2.1 - z → (h.2.2.1 - z).toNat = N → (∀ b, xm c.2.2.1 b = false → ea_nt C b = ea_nt C0 b) → ok_ P c.1 pc cl [] C (cn_post G c C0) := by
    intro N
    induction N using Nat.strongRecOn with
    | ind N IHN =>
      intro pc h hp cl C z hg hm hz hN hfr
      have hck := hhd pc h hp
      unfold hd_ck at hck
      split at hck
      · rename_i l hl
        obtain ⟨r1, a1, a2, a3, a4⟩ := hl_in_ok xe_0_g hg.2.1
        have hh1 : xh_g r1 G (hl_in h.1 xe_0).2 C := xh_g_mono a1 a4 (show xh_g rn_0 G xe_0 C from hg.1)
        obtain ⟨r2, b1, b2, b3⟩ := hf_in_ok a2 hh1 hg.2.2
        have hl2 := xl_g_mono b1 a3
        obtain ⟨k1, k2⟩ := ms_x_ok b2 hl2 b3 hl
        have hz' : z = ln_z r2 l := (k2 z).mp hm
        have hI2 := xw_ok (P := P) (G := G) (cts := cts) (hd := hd) (c := c) (C0 := C0) (st := some (h.2.2.1, l)) (Q := fun u => 0 ≤ u ∧ u < h.2.2.1 - z) hct (fun pc' h' hp' cl' C' z' hg' hm' hq' hfr' => IHN ((h'.2.2.1 - z').toNat) (by omega) pc' h' hp' cl' C' z' hg' hm' hq'.1 rfl hfr') n
        refine xz_ok hct hI2 hck r2 cl [] C [] ⟨k1, fun u hu hlt => ⟨hu, ?_⟩⟩ b2 hl2 trivial b3 trivial hfr
        rw [hz']
        exact hlt
      · cases hck
  obtain ⟨r1, a1, a2, a3, a4⟩ := xa_in_ok xe_0_g hvs
  have hh1 : xh_g r1 G (xa_in c.2.1 xe_0).2 C0 := xh_g_mono a1 a4 (show xh_g rn_0 G xe_0 C0 from hI)
  obtain ⟨r2, b1, b2, b3⟩ := hf_in_ok a2 hh1 hpre
  exact xw_ok (P := P) (G := G) (cts := cts) (hd := hd) (c := c) (C0 := C0) (st := none) (Q := fun u => 0 ≤ u) hct (fun pc' h' hp' cl' C' z' hg' hm' hq' hfr' => main _ pc' h' hp' cl' C' z' hg' hm' hq' rfl hfr') n _ _ _ _ _ _ hen r2 _ [] C0 [] (fun z hz => hz) b2 (xa_ar_ok 0 (xs_g_mono b1 a3)) trivial b3 trivial (fun b _ => rfl)
end XC
