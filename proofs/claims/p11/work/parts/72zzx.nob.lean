/-! ANSWERS: deeds that nobody may do anywhere -/
section AN7
variable {B : Int} {M X : MM} {w : RW} {s : RS} {L : LWT}
/-- of one citizen, the places below k -/
def nbI (L : LWT) (w : RW) (d c : Nat) : Nat → Bool
  | 0 => true
  | k + 1 => nbI L w d c k && !frP L w (8 * d + k) c
def nbC (L : LWT) (w : RW) (d : Nat) : Nat → Bool
  | 0 => true
  | n + 1 => nbC L w d n && (!alv w n || nbI L w d n 8)
theorem nbI_i {d c : Nat} : ∀ k, nbI L w d c k = true ↔ ∀ j, j < k → frP L w (8 * d + j) c = false
  | 0 => ⟨fun _ j hj => by omega, fun _ => rfl⟩
  | k + 1 => by
    unfold nbI
    rw [Bool.and_eq_true, nbI_i k, Bool.not_eq_true']
    refine ⟨fun ⟨h1, h2⟩ j hj => ?_, fun h => ⟨fun j hj => h j (by omega), h k (by omega)⟩⟩
    by_cases e : j = k
    · rw [e]; exact h2
    · exact h1 j (by omega)
theorem nbC_i {d : Nat} : ∀ n, nbC L w d n = true ↔ ∀ c, c < n → alv w c = true → ∀ j, j < 8 → frP L w (8 * d + j) c = false
  | 0 => ⟨fun _ j hj => by omega, fun _ => rfl⟩
  | n + 1 => by
    unfold nbC
    rw [Bool.and_eq_true, nbC_i n, Bool.or_eq_true, Bool.not_eq_true', nbI_i]
    refine ⟨fun ⟨h1, h2⟩ c hc ha => ?_, fun h => ⟨fun c hc => h c (by omega), ?_⟩⟩
    · by_cases e : c = n
      · subst e
        rcases h2 with h2 | h2
        · rw [h2] at ha; cases ha
        · exact h2
      · exact h1 c (by omega) ha
    · cases ha : alv w n with
      | true => exact Or.inr (h n (by omega) ha)
      | false => exact Or.inl rfl
theorem c_isF {d N : Nat} {Q : Int32 → Prop} (hc : CW M 18 w s) (hw : WF w) (hL : LawC M 8 L) (hd : dOK w) (hm : d < 8) (hQ : Q (b32 (nbC L w d (nC w)))) : W_Inquiry_isForbiddenToAll (i32 d) (inF w (nC w)) N M Q := by
  obtain ⟨e0, hn10, ei⟩ := nC_i hw
  unfold W_Inquiry_isForbiddenToAll
  have no : ∀ c k, c < nC w → alv w c = true → k < 8 → frP L w (8 * d + k) c = true → nbC L w d (nC w) = false := fun c k h1 h2 h3 h4 => by
    cases e : nbC L w d (nC w) with
    | false => rfl
    | true =>
      have := (nbC_i (nC w)).mp e c h1 h2 k h3
      rw [h4] at this
      cases this
  refine I_Inquiry_isForbiddenToAll_2 (i32 d) (inF w (nC w)) M Q (fun v => ∃ c, c ≤ nC w ∧ v = i32 c ∧ nbC L w d c = true) (fun N ih v hih hv => ?_) N _ ⟨0, by omega, rfl, rfl⟩
  obtain ⟨c, hcl, rfl, h1⟩ := hv
  unfold B_Inquiry_isForbiddenToAll_2
  rw [hc.1.1, ei, i32_lt (by omega) (by omega)]
  refine ⟨fun hlt => ?_, fun hlt => ?_⟩
  · refine I_Inquiry_isForbiddenToAll_16 (i32 d) (inF w (nC w)) (i32 c) M _ Q (fun v => ∃ k, k ≤ 8 ∧ v = i32 k ∧ nbI L w d c k = true ∧ (k = 0 ∨ alv w c = true)) (fun N2 ih2 v hih2 hv2 => ?_) N _ ⟨0, by omega, rfl, rfl, Or.inl rfl⟩
    obtain ⟨k, hk, rfl, h2, h3⟩ := hv2
    unfold B_Inquiry_isForbiddenToAll_16
    refine ⟨fun hl => ?_, fun hl => ?_⟩
    · have hk8 : k < 8 := (i32_lt (k := 8) (by omega) (by omega)).mp hl
      rw [c_alive hc hw hlt]
      refine ⟨fun a => ?_, fun a => ?_⟩
      · rw [b32_eq0] at a
        refine hih _ ⟨c + 1, by omega, i32_s c, ?_⟩
        unfold nbC
        rw [h1, a]
        rfl
      · rw [b32_ne0] at a
        rw [show i32 d * 8 + i32 k = i32 (8 * d + k) by rw [show i32 d * 8 = i32 (d * 8) from i32_m d 8, i32_a, Nat.mul_comm]]
        refine c_forb hc hw hL hd hlt (by omega) ⟨fun b => ?_, fun b => ?_⟩
        · rw [no c k hlt a hk8 (decide_eq_true b)] at hQ
          exact hQ
        · refine hih2 _ ⟨k + 1, by omega, i32_s k, ?_, Or.inr a⟩
          unfold nbI
          rw [h2, show frP L w (8 * d + k) c = false from decide_eq_false b]
          rfl
    · have : ¬ k < 8 := fun e => hl ((i32_lt (j := k) (k := 8) (by omega) (by omega)).mpr e)
      obtain rfl : k = 8 := by omega
      refine hih _ ⟨c + 1, by omega, i32_s c, ?_⟩
      unfold nbC
      rw [h1, h2, Bool.or_true]
      rfl
  · obtain rfl : c = nC w := by omega
    rw [h1] at hQ
    exact hQ
def nobF (L : LWT) (w : RW) : Int32 := if bs (alv w) (nC w) = 0 then 0 else bs (fun d => nbC L w d (nC w)) 8
theorem c_nob {N : Nat} {Q : Int32 → Prop} (hc : CW M 18 w s) (hw : WF w) (hL : LawC M 8 L) (hd : dOK w) (hQ : Q (nobF L w)) : W_Inquiry_forbiddenToAll N M Q := by
  unfold W_Inquiry_forbiddenToAll
  refine c_force hc hw ?_
  unfold nobF at hQ
  refine I_Inquiry_forbiddenToAll_12 (inF w (nC w)) M Q (fun v1 v3 => ∃ d, d ≤ 8 ∧ v3 = i32 d ∧ v1 = bs (fun d => nbC L w d (nC w)) d ∧ (d = 0 ∨ ¬ bs (alv w) (nC w) = 0)) (fun N ih v1 v3 hih hv => ?_) N _ _ ⟨0, by omega, rfl, rfl, Or.inl rfl⟩
  obtain ⟨d, hd8, rfl, rfl, h1⟩ := hv
  unfold B_Inquiry_forbiddenToAll_12
  rw [hc.2.2.1]
  refine ⟨fun hl => ⟨fun a => ?_, fun a => ?_⟩, fun hl => ?_⟩
  · have hd0 : d = 0 := by
      rcases h1 with h | h
      · exact h
      · exact absurd a h
    subst hd0
    rw [if_pos a] at hQ
    exact hQ
  · have hlt : d < 8 := (i32_lt (k := 8) (by omega) (by omega)).mp hl
    have nx : ih (bs (fun d => nbC L w d (nC w)) (d + 1)) (i32 d + 1) := hih _ _ ⟨d + 1, by omega, i32_s d, rfl, Or.inr a⟩
    rw [bs_s] at nx
    refine c_isF hc hw hL hd hlt ⟨fun b => ?_, fun b => ?_⟩
    · rw [b32_eq0] at b
      rw [if_neg (by rw [b]; decide)] at nx
      exact nx
    · rw [b32_ne0] at b
      rw [if_pos b] at nx
      exact nx
  · have : ¬ d < 8 := fun e => hl ((i32_lt (j := d) (k := 8) (by omega) (by omega)).mpr e)
    obtain rfl : d = 8 := by omega
    rcases h1 with h | h
    · omega
    · rw [if_neg h] at hQ
      exact hQ
/-! the reference: matter by matter -/
def okm (L : LWT) (w : RW) (m : Nat) : Nat → Bool
  | 0 => true
  | n + 1 => okm L w m n && (!alv w n || !frP L w m n)
def okd (L : LWT) (w : RW) (d : Nat) : Nat → Bool
  | 0 => true
  | j + 1 => okd L w d j && (!decide (j / 8 = d) || okm L w j (nC w))
theorem okm_i {m : Nat} : ∀ n, okm L w m n = true ↔ ∀ c, c < n → alv w c = true → frP L w m c = false
  | 0 => ⟨fun _ j hj => by omega, fun _ => rfl⟩
  | n + 1 => by
    unfold okm
    rw [Bool.and_eq_true, okm_i n, Bool.or_eq_true, Bool.not_eq_true', Bool.not_eq_true']
    refine ⟨fun ⟨h1, h2⟩ c hc ha => ?_, fun h => ⟨fun c hc => h c (by omega), ?_⟩⟩
    · by_cases e : c = n
      · subst e
        rcases h2 with h2 | h2
        · rw [h2] at ha; cases ha
        · exact h2
      · exact h1 c (by omega) ha
    · cases ha : alv w n with
      | true => exact Or.inr (h n (by omega) ha)
      | false => exact Or.inl rfl
theorem okd_i {d : Nat} : ∀ j, okd L w d j = true ↔ ∀ m, m < j → m / 8 = d → okm L w m (nC w) = true
  | 0 => ⟨fun _ j hj => by omega, fun _ => rfl⟩
  | j + 1 => by
    unfold okd
    rw [Bool.and_eq_true, okd_i j, Bool.or_eq_true, Bool.not_eq_true', decide_eq_false_iff_not]
    refine ⟨fun ⟨h1, h2⟩ m hm hmd => ?_, fun h => ⟨fun m hm => h m (by omega), ?_⟩⟩
    · by_cases e : m = j
      · subst e
        rcases h2 with h2 | h2
        · exact absurd hmd h2
        · exact h2
      · exact h1 m (by omega) hmd
    · by_cases e : j / 8 = d
      · exact Or.inr (h j (by omega) e)
      · exact Or.inl e
theorem ok_nb {d : Nat} (hd : d < 8) : okd L w d 64 = nbC L w d (nC w) := by
  rw [Bool.eq_iff_iff, okd_i, nbC_i]
  constructor
  · intro h c hc ha j hj
    exact (okm_i (nC w)).mp (h (8 * d + j) (by omega) (by omega)) c hc ha
  · intro h m hm hmd
    refine (okm_i (nC w)).mpr (fun c hc ha => ?_)
    have := h c hc ha (m % 8) (by omega)
    rw [show 8 * d + m % 8 = m by omega] at this
    exact this
theorem r_nob {N : Nat} {x0 : Int32} {nz : Bool} {Q : Int32 → MM → Prop} (hx : X.1 191 = w) (hL : LawR X L) (hn : V_m_clauses X = i32 L.1) (hw : WF w) (hd : dOK w) (h0 : ∀ k, k < 32 → tb x0 k = (nz && decide (k < 8))) (hQ : ∀ x X', SV X X' → (∀ k, k < 32 → tb x k = (nz && (decide (k < 8) && okd L w k 64))) → Q x X') : W_m_nobody_27 (inF w (nC w)) Q N x0 0 X := by
  obtain ⟨e0, hn10, ei⟩ := nC_i hw
  refine I_m_nobody_27 (inF w (nC w)) Q (fun v2 v3 X' => ∃ j, j ≤ 64 ∧ v3 = i32 j ∧ SV X X' ∧ ∀ k, k < 32 → tb v2 k = (nz && (decide (k < 8) && okd L w k j))) (fun N ih v2 v3 X' hih hv => ?_) N _ _ _ ⟨0, by omega, rfl, SV_0, fun k hk => by rw [h0 k hk]; show _ = (nz && (decide (k < 8) && true)); rw [Bool.and_true]⟩
  obtain ⟨j, hj, rfl, hS, h1⟩ := hv
  unfold B_m_nobody_27
  refine ⟨fun hl => ?_, fun hl => ?_⟩
  · have hj64 : j < 64 := (i32_lt (k := 64) (by omega) (by omega)).mp hl
    refine I_m_nobody_36 (inF w (nC w)) (i32 j) _ Q (fun v2 v4 X' => ∃ c, c ≤ nC w ∧ v4 = i32 c ∧ SV X X' ∧ ∀ k, k < 32 → tb v2 k = (nz && (decide (k < 8) && (okd L w k j && (!decide (j / 8 = k) || okm L w j c))))) (fun N2 ih2 v2' v4 X2 hih2 hv2 => ?_) N _ _ _ ⟨0, by omega, rfl, hS, fun k hk => by rw [h1 k hk]; show _ = (nz && (decide (k < 8) && (okd L w k j && (_ || true)))); rw [Bool.or_true, Bool.and_true]⟩
    obtain ⟨c, hc, rfl, hS2, h2⟩ := hv2
    unfold B_m_nobody_36
    have ec : V_m_citizens X2 = i32 (nC w) := by unfold V_m_citizens; rw [SV_x hS2 hx, n0, ei]
    rw [ec, i32_lt (by omega) (by omega)]
    refine ⟨fun hlt => ?_, fun hlt => ?_⟩
    · rw [v_alive (by omega), SV_x hS2 hx]
      refine ⟨fun a => ?_, fun a => ?_⟩
      · rw [b32_eq0] at a
        refine hih2 _ _ _ ⟨c + 1, by omega, i32_s c, hS2, fun k hk => ?_⟩
        rw [h2 k hk]
        show _ = (nz && (decide (k < 8) && (okd L w k j && (!decide (j / 8 = k) || (okm L w j c && (!alv w c || _))))))
        rw [a]
        simp
      · rw [b32_ne0] at a
        refine r_forb (SV_x hS2 hx) (SV_L hS2 hL) (SV_c hS2 hn) hw hd hlt hj64 (fun val => ⟨fun b => ?_, fun b => ?_⟩)
        · refine hih2 _ _ _ ⟨c + 1, by omega, i32_s c, SV_s hS2, fun k hk => ?_⟩
          rw [show (i32 j / 8 : Int32) = i32 (j / 8) from i32_d (y := 8) (by omega) (by omega), tb_and, tb_not hk, tb_sl (by omega) hk, h2 k hk]
          show _ = (nz && (decide (k < 8) && (okd L w k j && (!decide (j / 8 = k) || (okm L w j c && (!alv w c || !frP L w j c))))))
          rw [a, show frP L w j c = true from decide_eq_true b]
          by_cases e : k = j / 8
          · rw [decide_eq_true e, decide_eq_true (show j / 8 = k from e.symm)]
            simp
          · rw [decide_eq_false e, decide_eq_false (show ¬ j / 8 = k from fun h => e h.symm)]
            simp
        · refine hih2 _ _ _ ⟨c + 1, by omega, i32_s c, SV_s hS2, fun k hk => ?_⟩
          rw [h2 k hk]
          show _ = (nz && (decide (k < 8) && (okd L w k j && (!decide (j / 8 = k) || (okm L w j c && (!alv w c || !frP L w j c))))))
          rw [a, show frP L w j c = false from decide_eq_false b]
          simp
    · obtain rfl : c = nC w := by omega
      exact hih _ _ _ ⟨j + 1, by omega, i32_s j, hS2, h2⟩
  · have : ¬ j < 64 := fun e => hl ((i32_lt (j := j) (k := 64) (by omega) (by omega)).mpr e)
    obtain rfl : j = 64 := by omega
    exact hQ _ _ hS h1
theorem a_nobody (h : CP B M) (hB : 0 ≤ B ∧ B ≤ 28000) {N : Nat} : W_E_nobody N M (fun y => ∀ N', W_m_nobody N' M (fun b M2 => CP B M2 ∧ M2.1 190 0 = 0 ∧ y = b)) := by
  obtain ⟨L, hL, hR, hcl, hc, hg⟩ := CP_w h
  have hd := dok_g hg hB
  have k0 := CP_0 h 0
  unfold W_E_nobody
  refine c_nob hc hg.1 hL hd (fun N' => ?_)
  unfold W_m_nobody
  refine r_force hg.1 (w := M.1 191) rfl (r_alive hg.1 (w := M.1 191) rfl ?_)
  have fin : ∀ x X', SV (wi M 190 0 0) X' → nobF L (M.1 191) = x → CP B X' ∧ X'.1 190 0 = 0 ∧ nobF L (M.1 191) = x := fun x X' hS hx => ⟨SV_CP k0 hS, by rw [eq1 (SV_e hS) (b := 190) (k := 0) rfl, wi_1e], hx⟩
  refine ⟨fun a => ?_, fun a => ?_⟩
  · refine r_nob (nz := false) (w := M.1 191) rfl (show LawR _ L from hR) (show V_m_clauses _ = i32 L.1 from hcl) hg.1 hd (fun k hk => by rw [tb_0]; rfl) (fun x X' hS hx => fin x X' hS ?_)
    unfold nobF
    rw [if_pos a]
    apply tb_ext
    intro k hk
    rw [hx k hk, tb_0]
    rfl
  · refine r_nob (nz := true) (w := M.1 191) rfl (show LawR _ L from hR) (show V_m_clauses _ = i32 L.1 from hcl) hg.1 hd (fun k hk => ?_) (fun x X' hS hx => fin x X' hS ?_)
    · have : k = 0 ∨ k = 1 ∨ k = 2 ∨ k = 3 ∨ k = 4 ∨ k = 5 ∨ k = 6 ∨ k = 7 ∨ 8 ≤ k := by omega
      rw [show (255 : Int32) = bs (fun _ => true) 8 from by decide, tb_bs _ _ (by omega) _ hk]
      rw [Bool.and_true, Bool.true_and]
    · unfold nobF
      rw [if_neg a]
      apply tb_ext
      intro k hk
      rw [hx k hk, tb_bs _ _ (by omega) _ hk, Bool.true_and]
      by_cases e : k < 8
      · rw [ok_nb e]
      · rw [decide_eq_false e, Bool.false_and, Bool.false_and]
end AN7
