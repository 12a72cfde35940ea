/-! ANSWERS: what one deduces, hushed places, what provokes one -/
section AN10
variable {B : Int} {M X : MM} {p q r : Int32} {w : RW} {s : RS} {L : LWT}
def dedF (L : LWT) (w : RW) (s : RS) (c : Nat) : Nat → Int32
  | 0 => 0
  | m + 1 => if sb (s c) m = true then dedF L w s c m ||| fbm L w c (i32 m) else dedF L w s c m
theorem and_or32 (a b x : Int32) : (a &&& x) ||| (b &&& x) = (a ||| b) &&& x := by
  apply tb_ext
  intro k hk
  rw [tb_or, tb_and, tb_and, tb_and, tb_or]
  cases tb a k <;> cases tb b k <;> cases tb x k <;> rfl
theorem and_as32 (a b x : Int32) : (a &&& b) &&& x = a &&& (b &&& x) := by
  apply tb_ext
  intro k hk
  rw [tb_and, tb_and, tb_and, tb_and, Bool.and_assoc]
theorem and_032 (x : Int32) : (0 : Int32) &&& x = 0 := by
  apply tb_ext
  intro k hk
  rw [tb_and, tb_0, Bool.false_and]
theorem c_ded {c N : Nat} {Q : Int32 → Prop} (hc : CW M 18 w s) (hw : WF w) (hL : LawC M 8 L) (hd : dOK w) (hcn : c < nC w) (hQ : Q (dedF L w s c 64 &&& (inF w (nC w) &&& (cl w c 1 ^^^ (-1))))) : W_Inquiry_deducedBy (i32 c) N M Q := by
  have h10 := (nC_i hw).2.1
  unfold W_Inquiry_deducedBy
  refine I_Inquiry_deducedBy_4 (i32 c) M Q (fun v2 v3 => ∃ m, m ≤ 64 ∧ v3 = i32 m ∧ v2 = dedF L w s c m) (fun N ih v2 v3 hih hv => ?_) N _ _ ⟨0, by omega, rfl, rfl⟩
  obtain ⟨m, hm, rfl, rfl⟩ := hv
  unfold B_Inquiry_deducedBy_4
  refine ⟨fun hl => ?_, fun hl => ?_⟩
  · have hm64 : m < 64 := (i32_lt (k := 64) (by omega) (by omega)).mp hl
    have nx : ih (dedF L w s c (m + 1)) (i32 m + 1) := hih _ _ ⟨m + 1, by omega, i32_s m, rfl⟩
    unfold dedF at nx
    rw [v_hasS (by omega) hm64, show M.2 (18 + 8) c = s c from (hc.2.2.2.1 c hcn).2.2.2.2.2.2.2]
    refine ⟨fun a => ?_, fun a => ?_⟩
    · rw [b32_eq0] at a
      rw [if_neg (by rw [a]; decide)] at nx
      exact nx
    · rw [b32_ne0] at a
      rw [if_pos a] at nx
      exact c_forb hc hw hL hd hcn hm64 nx
  · have : ¬ m < 64 := fun e => hl ((i32_lt (j := m) (k := 64) (by omega) (by omega)).mpr e)
    obtain rfl : m = 64 := by omega
    refine c_force hc hw ?_
    rw [ni_i (by omega), show M.1 19 c = cl w c 1 from (hc.2.2.2.1 c hcn).1, and_as32]
    exact hQ
theorem r_ded {c N : Nat} {Q : Int32 → MM → Prop} (hx : X.1 191 = w) (hs : X.2 196 = s) (hL : LawR X L) (hn : V_m_clauses X = i32 L.1) (hw : WF w) (hd : dOK w) (hcn : c < nC w) (hQ : ∀ X', SV X X' → Q (dedF L w s c 64 &&& (inF w (nC w) &&& (cl w c 1 ^^^ (-1)))) X') : W_m_deduced_45 (i32 c) Q N 0 0 X := by
  have h10 := (nC_i hw).2.1
  refine I_m_deduced_45 (i32 c) Q (fun v2 v3 X' => ∃ m, m ≤ 64 ∧ v3 = i32 m ∧ v2 = dedF L w s c m &&& (inF w (nC w) &&& (cl w c 1 ^^^ (-1))) ∧ SV X X') (fun N ih v2 v3 X' hih hv => ?_) N _ _ _ ⟨0, by omega, rfl, (and_032 _).symm, SV_0⟩
  obtain ⟨m, hm, rfl, rfl, hS⟩ := hv
  unfold B_m_deduced_45
  have hx' := SV_x hS hx
  have hs' : X'.2 196 = s := by
    obtain ⟨v, rfl⟩ := hS
    exact hs
  refine ⟨fun hl => ?_, fun hl => ?_⟩
  · have hm64 : m < 64 := (i32_lt (k := 64) (by omega) (by omega)).mp hl
    have nx : ∀ X2, SV X X2 → ih (dedF L w s c (m + 1) &&& (inF w (nC w) &&& (cl w c 1 ^^^ (-1)))) (i32 m + 1) X2 := fun X2 h2 => hih _ _ _ ⟨m + 1, by omega, i32_s m, rfl, h2⟩
    unfold dedF at nx
    rw [ni_i (by omega), hs', v_hasM hm64]
    refine ⟨fun a => ?_, fun a => ?_⟩
    · rw [b32_eq0] at a
      have := nx _ hS
      rw [if_neg (by rw [a]; decide)] at this
      rw [Int32.or_zero]
      exact this
    · rw [b32_ne0] at a
      refine r_force hw hx' ?_
      rw [show V_m_of (i32 c) 1 X' = cl w c 1 from of_row (i := 1) hx' (by omega) (by omega)]
      refine r_forb hx' (SV_L hS hL) (SV_c hS hn) hw hd hcn hm64 (fun val => ?_)
      have := nx _ (SV_s (val := val) hS)
      rw [if_pos a, ← and_or32] at this
      exact this
  · have : ¬ m < 64 := fun e => hl ((i32_lt (j := m) (k := 64) (by omega) (by omega)).mpr e)
    obtain rfl : m = 64 := by omega
    exact hQ _ hS
/-- citizen and alive, or told so -/
theorem a_deduced (h : CP B M) (hB : 0 ≤ B ∧ B ≤ 28000) {N : Nat} : W_E_deduced p N M (fun y => ∀ z N', W_m_deduced p N' (wj M 215 0 z) (fun b M2 => CP B M2 ∧ M2.1 190 0 = 0 ∧ y = b)) (fun ce => ∀ N', W_m_deduced p N' M (fun _ M2 => CP B M2 ∧ M2.1 190 0 = if ce = 2 then 1 else 2)) := by
  obtain ⟨L, hL, hR, hcl, hc, hg⟩ := CP_w h
  have hd := dok_g hg hB
  unfold W_E_deduced
  refine s_cit hc (fun hp => ?_) (fun hp N' => ?_)
  · obtain ⟨c, rfl, hcn, hc10⟩ := okc_c hg.1 hp
    refine s_alive hc hg.1 hcn (fun ha => ?_) (fun ha N' => ?_)
    · refine c_ded hc hg.1 hL hd hcn (fun z N' => ?_)
      have k0 := CP_0 (CP_z h z) 0
      have e1 : V_m_noCitizen (i32 c) (wi (wj M 215 0 z) 190 0 0) = 0 := (noc_e (M := M) (M1 := wj M 215 0 z) rfl).trans (noc_1 hg.1 hp)
      have e2 : V_m_isAlive (i32 c) (wi (wj M 215 0 z) 190 0 0) = 1 := (al_e (M := M) (M1 := wj M 215 0 z) rfl).trans (al_1 hc10 ha)
      unfold W_m_deduced W_m_throwsIf
      simp only [e1, e2, e10, e10n, true_implies, false_implies, not_true_eq_false, not_false_eq_true, and_true, true_and, if_true]
      refine r_ded (X := wi (wj M 215 0 z) 190 0 0) (w := M.1 191) (s := M.2 196) rfl (z_2 (M := M) (z := z) (a := 196) (by omega)) (show LawR _ L from hR) (show V_m_clauses _ = i32 L.1 from hcl) hg.1 hd hcn (fun X' hS => ⟨SV_CP k0 hS, ?_, rfl⟩)
      rw [eq1 (SV_e hS) (b := 190) (k := 0) rfl, wi_1e]
    · unfold W_m_deduced W_m_throwsIf
      simp only [noc_1 hg.1 hp, al_0 hc10 ha, e10, e10n, true_implies, false_implies, not_true_eq_false, not_false_eq_true, and_true, true_and, if_true]
      exact CP_t h 2 (fun e => e)
  · unfold W_m_deduced W_m_throwsIf
    simp only [noc_0 hg.1 hp, e10, e10n, true_implies, false_implies, not_true_eq_false, not_false_eq_true, and_true, true_and, if_true]
    exact CP_t h 1 (fun e => e)
/-! hushed places -/
def myP (L : LWT) (w : RW) (m c : Nat) : Bool := decide (fbm L w c (i32 m) &&& cl w c 1 = 0)
def huF (L : LWT) (w : RW) (m : Nat) : Nat → Bool
  | 0 => true
  | n + 1 => huF L w m n && (!alv w n || !myP L w m n)
theorem huF_n {m c : Nat} : ∀ n, c < n → alv w c = true → myP L w m c = true → huF L w m n = false
  | 0, h, _, _ => by omega
  | n + 1, h, ha, hm => by
    unfold huF
    by_cases e : c = n
    · subst e
      rw [ha, hm]
      simp
    · rw [huF_n n (by omega) ha hm, Bool.false_and]
theorem c_alA {mm N : Nat} {Q : Int32 → Prop} (hc : CW M 18 w s) (hw : WF w) (hL : LawC M 8 L) (hd : dOK w) (hm : mm < 64) (hQ : Q (b32 (!huF L w mm (nC w)))) : W_Inquiry_isAllowedToAny (i32 mm) N M Q := by
  obtain ⟨e0, hn10, ei⟩ := nC_i hw
  unfold W_Inquiry_isAllowedToAny
  refine I_Inquiry_isAllowedToAny_2 (i32 mm) M Q (fun v => ∃ c, c ≤ nC w ∧ v = i32 c ∧ huF L w mm c = true) (fun N ih v hih hv => ?_) N _ ⟨0, by omega, rfl, rfl⟩
  obtain ⟨c, hcl, rfl, h1⟩ := hv
  unfold B_Inquiry_isAllowedToAny_2
  rw [hc.1.1, ei, i32_lt (by omega) (by omega)]
  refine ⟨fun hlt => ?_, fun hlt => ?_⟩
  · rw [c_alive hc hw hlt]
    refine ⟨fun a => ?_, fun a => ?_⟩
    · rw [b32_eq0] at a
      refine hih _ ⟨c + 1, by omega, i32_s c, ?_⟩
      unfold huF
      rw [h1, a]
      rfl
    · rw [b32_ne0] at a
      refine c_alw hc hw hL hd hlt hm ⟨fun b => ?_, fun b => ?_⟩
      · rw [b32_eq0] at b
        refine hih _ ⟨c + 1, by omega, i32_s c, ?_⟩
        unfold huF
        rw [h1, show myP L w mm c = false from b]
        simp
      · rw [b32_ne0] at b
        rw [huF_n (nC w) hlt a b] at hQ
        exact hQ
  · obtain rfl : c = nC w := by omega
    rw [h1] at hQ
    exact hQ
def husF (L : LWT) (w : RW) (d : Nat) : Int32 := if bs (alv w) (nC w) = 0 then 0 else bs (fun k => huF L w (8 * d + k) (nC w)) 8
theorem c_hus {d N : Nat} {Q : Int32 → Prop} (hc : CW M 18 w s) (hw : WF w) (hL : LawC M 8 L) (hd : dOK w) (hd8 : d < 8) (hQ : Q (husF L w d)) : W_Inquiry_hushedPlaces (i32 d) N M Q := by
  unfold W_Inquiry_hushedPlaces
  unfold husF at hQ
  refine I_Inquiry_hushedPlaces_4 (i32 d) M Q (fun v1 v3 => ∃ k, k ≤ 8 ∧ v3 = i32 k ∧ v1 = bs (fun k => huF L w (8 * d + k) (nC w)) k ∧ (k = 0 ∨ ¬ bs (alv w) (nC w) = 0)) (fun N ih v1 v3 hih hv => ?_) N _ _ ⟨0, by omega, rfl, rfl, Or.inl rfl⟩
  obtain ⟨k, hk8, rfl, rfl, h1⟩ := hv
  unfold B_Inquiry_hushedPlaces_4
  rw [hc.2.2.1]
  refine ⟨fun hl => ⟨fun a => ?_, fun a => ?_⟩, fun hl => ?_⟩
  · have hk0 : k = 0 := by
      rcases h1 with h | h
      · exact h
      · exact absurd a h
    subst hk0
    rw [if_pos a] at hQ
    exact hQ
  · have hlt : k < 8 := (i32_lt (k := 8) (by omega) (by omega)).mp hl
    have nx : ih (bs (fun k => huF L w (8 * d + k) (nC w)) (k + 1)) (i32 k + 1) := hih _ _ ⟨k + 1, by omega, i32_s k, rfl, Or.inr a⟩
    rw [bs_s] at nx
    rw [show i32 d * 8 + i32 k = i32 (8 * d + k) by rw [show i32 d * 8 = i32 (d * 8) from i32_m d 8, i32_a, Nat.mul_comm]]
    refine c_alA hc hw hL hd (by omega) ⟨fun b => ?_, fun b => ?_⟩
    · rw [b32_eq0, Bool.not_eq_false'] at b
      rw [if_pos b] at nx
      exact nx
    · rw [b32_ne0, Bool.not_eq_true'] at b
      rw [if_neg (by rw [b]; decide)] at nx
      exact nx
  · have : ¬ k < 8 := fun e => hl ((i32_lt (j := k) (k := 8) (by omega) (by omega)).mpr e)
    obtain rfl : k = 8 := by omega
    rcases h1 with h | h
    · omega
    · rw [if_neg h] at hQ
      exact hQ
theorem r_hus {d N : Nat} {x0 : Int32} {nz : Bool} {Q : Int32 → MM → Prop} (hx : X.1 191 = w) (hL : LawR X L) (hn : V_m_clauses X = i32 L.1) (hw : WF w) (hd : dOK w) (hd8 : d < 8) (h0 : ∀ k, k < 32 → tb x0 k = (nz && decide (k < 8))) (hQ : ∀ x X', SV X X' → (∀ k, k < 32 → tb x k = (nz && (decide (k < 8) && huF L w (8 * d + k) (nC w)))) → Q x X') : W_m_hush_36 (i32 d) Q N x0 0 X := by
  obtain ⟨e0, hn10, ei⟩ := nC_i hw
  refine I_m_hush_36 (i32 d) Q (fun v2 v3 X' => ∃ j, j ≤ 8 ∧ v3 = i32 j ∧ SV X X' ∧ ∀ k, k < 32 → tb v2 k = (nz && (decide (k < 8) && (!decide (k < j) || huF L w (8 * d + k) (nC w))))) (fun N ih v2 v3 X' hih hv => ?_) N _ _ _ ⟨0, by omega, rfl, SV_0, fun k hk => by rw [h0 k hk, decide_eq_false (show ¬ k < 0 by omega)]; simp⟩
  obtain ⟨j, hj, rfl, hS, h1⟩ := hv
  unfold B_m_hush_36
  refine ⟨fun hl => ?_, fun hl => ?_⟩
  · have hj8 : j < 8 := (i32_lt (k := 8) (by omega) (by omega)).mp hl
    refine I_m_hush_45 (i32 d) (i32 j) _ Q (fun v2 v4 X' => ∃ c, c ≤ nC w ∧ v4 = i32 c ∧ SV X X' ∧ ∀ k, k < 32 → tb v2 k = (nz && (decide (k < 8) && ((!decide (k < j) || huF L w (8 * d + k) (nC w)) && (!decide (k = j) || huF L w (8 * d + j) c))))) (fun N2 ih2 v2' v4 X2 hih2 hv2 => ?_) N _ _ _ ⟨0, by omega, rfl, hS, fun k hk => by rw [h1 k hk]; show _ = (nz && (decide (k < 8) && (_ && (_ || true)))); rw [Bool.or_true, Bool.and_true]⟩
    obtain ⟨c, hc, rfl, hS2, h2⟩ := hv2
    unfold B_m_hush_45
    have ec : V_m_citizens X2 = i32 (nC w) := by unfold V_m_citizens; rw [SV_x hS2 hx, n0, ei]
    rw [ec, i32_lt (by omega) (by omega)]
    refine ⟨fun hlt => ?_, fun hlt => ?_⟩
    · rw [v_alive (by omega), SV_x hS2 hx]
      refine ⟨fun a => ?_, fun a => ?_⟩
      · rw [b32_eq0] at a
        refine hih2 _ _ _ ⟨c + 1, by omega, i32_s c, hS2, fun k hk => ?_⟩
        rw [h2 k hk]
        show _ = (nz && (decide (k < 8) && (_ && (_ || (huF L w (8 * d + j) c && (!alv w c || _))))))
        rw [a]
        simp
      · rw [b32_ne0] at a
        rw [show (8 : Int32) * i32 d + i32 j = i32 (8 * d + j) by rw [show (8 : Int32) * i32 d = i32 (8 * d) from i32_m 8 d, i32_a]]
        refine r_may (SV_x hS2 hx) (SV_L hS2 hL) (SV_c hS2 hn) hw hd hlt (by omega) (fun val => ⟨fun b => ?_, fun b => ?_⟩)
        · rw [b32_eq0] at b
          refine hih2 _ _ _ ⟨c + 1, by omega, i32_s c, SV_s hS2, fun k hk => ?_⟩
          rw [h2 k hk]
          show _ = (nz && (decide (k < 8) && (_ && (_ || (huF L w (8 * d + j) c && (!alv w c || !myP L w (8 * d + j) c))))))
          rw [a, show myP L w (8 * d + j) c = false from b]
          simp
        · rw [b32_ne0] at b
          refine hih2 _ _ _ ⟨c + 1, by omega, i32_s c, SV_s hS2, fun k hk => ?_⟩
          rw [tb_and, tb_not hk, tb_sl (by omega) hk, h2 k hk]
          show _ = (nz && (decide (k < 8) && (_ && (_ || (huF L w (8 * d + j) c && (!alv w c || !myP L w (8 * d + j) c))))))
          rw [a, show myP L w (8 * d + j) c = true from b]
          by_cases e : k = j
          · rw [decide_eq_true e]
            simp
          · rw [decide_eq_false e]
            simp
    · obtain rfl : c = nC w := by omega
      refine hih _ _ _ ⟨j + 1, by omega, i32_s j, hS2, fun k hk => ?_⟩
      rw [h2 k hk]
      by_cases e : k = j
      · subst e
        rw [decide_eq_true rfl, decide_eq_false (show ¬ k < k by omega), decide_eq_true (show k < k + 1 by omega)]
        simp
      · rw [decide_eq_false e, show decide (k < j + 1) = decide (k < j) from by rw [decide_eq_decide]; omega]
        simp
  · have : ¬ j < 8 := fun e => hl ((i32_lt (j := j) (k := 8) (by omega) (by omega)).mpr e)
    obtain rfl : j = 8 := by omega
    refine hQ _ _ hS (fun k hk => ?_)
    rw [h1 k hk]
    by_cases e : k < 8
    · rw [decide_eq_true e]; simp
    · rw [decide_eq_false e]; simp
theorem a_hush (h : CP B M) (hB : 0 ≤ B ∧ B ≤ 28000) {N : Nat} : W_E_hush p N M (fun y => ∀ z N', W_m_hush p N' (wj M 215 0 z) (fun b M2 => CP B M2 ∧ M2.1 190 0 = 0 ∧ y = b)) (fun ce => ∀ N', W_m_hush p N' M (fun _ M2 => CP B M2 ∧ M2.1 190 0 = 1)) := by
  obtain ⟨L, hL, hR, hcl, hc, hg⟩ := CP_w h
  have hd := dok_g hg hB
  unfold W_E_hush
  refine s_idx (n := 8) rfl (fun hp => ?_) (fun hp N' => ?_)
  · obtain ⟨d, hd8, rfl⟩ := lit_r (q := p) (n := 8) hp
    refine c_hus hc hg.1 hL hd hd8 (fun z N' => ?_)
    have k0 := CP_0 (CP_z h z) 0
    have fin : ∀ x X', SV (wi (wj M 215 0 z) 190 0 0) X' → husF L (M.1 191) d = x → CP B X' ∧ X'.1 190 0 = 0 ∧ husF L (M.1 191) d = x := fun x X' hS hx => ⟨SV_CP k0 hS, by rw [eq1 (SV_e hS) (b := 190) (k := 0) rfl, wi_1e], hx⟩
    unfold W_m_hush W_m_throwsIf
    rw [no8, decide_eq_true (show 0 ≤ (i32 d).toInt ∧ (i32 d).toInt < 8 from hp)]
    refine ⟨fun _ => ⟨fun _ => r_alive hg.1 (w := M.1 191) rfl ⟨fun a => ?_, fun a => ?_⟩, fun hb => absurd rfl hb⟩, fun hb => absurd rfl hb⟩
    · refine r_hus (nz := false) (w := M.1 191) (X := wi (wj M 215 0 z) 190 0 0) rfl (show LawR _ L from hR) (show V_m_clauses _ = i32 L.1 from hcl) hg.1 hd hd8 (fun k hk => by rw [tb_0]; rfl) (fun x X' hS hx => fin x X' hS ?_)
      unfold husF
      rw [if_pos a]
      apply tb_ext
      intro k hk
      rw [hx k hk, tb_0]
      rfl
    · refine r_hus (nz := true) (w := M.1 191) (X := wi (wj M 215 0 z) 190 0 0) rfl (show LawR _ L from hR) (show V_m_clauses _ = i32 L.1 from hcl) hg.1 hd hd8 (fun k hk => ?_) (fun x X' hS hx => fin x X' hS ?_)
      · rw [show (255 : Int32) = bs (fun _ => true) 8 from by decide, tb_bs _ _ (by omega) _ hk, Bool.and_true, Bool.true_and]
      · unfold husF
        rw [if_neg a]
        apply tb_ext
        intro k hk
        rw [hx k hk, tb_bs _ _ (by omega) _ hk, Bool.true_and]
  · unfold W_m_hush W_m_throwsIf
    rw [no8, decide_eq_false (show ¬ (0 ≤ p.toInt ∧ p.toInt < 8) from hp)]
    exact ⟨fun hb => absurd hb (by decide), fun _ => ⟨fun hb => absurd hb (by decide), fun _ => CP_t h 1 (fun e => e)⟩⟩
end AN10
