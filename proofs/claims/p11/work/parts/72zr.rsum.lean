/-! A SUM: what it means; the reference's reading of a part -/
abbrev SF : Type := Int32 → Int32 → Int32 → Int32 → Int32
def pPart (K V : Nat → Int32) (i : Nat) : Option SF := if K i = 20 then (if 999 < V i then none else some (fun _ _ _ _ => V i)) else if K i = 7 then some (fun pl _ _ _ => pl) else if K i = 8 then some (fun _ _ _ dy => dy) else if K i = 9 then some (fun _ wh _ _ => wh) else if K i = 10 then some (fun _ _ kn _ => kn) else none
def pSum (K V : Nat → Int32) : Nat → SF → Nat → Option SF × Nat
  | 0, _, i => (none, i)
  | m + 1, s, i => match pPart K V i with
    | none => (none, i)
    | some q => if K (i + 1) = 43 then pSum K V m (fun pl wh kn dy => s pl wh kn dy + q pl wh kn dy) (i + 2) else (some (fun pl wh kn dy => s pl wh kn dy + q pl wh kn dy), i + 1)
/-- steps from σ to σ' leave this on the stack -/
def RMg (td : Nat → Int32) (σ σ' : Nat) (s : SF) : Prop := ∀ pl wh kn dy val (h : Nat), h + (σ' - σ) < 100000 → ∃ val', rrun td pl wh kn dy σ (σ' - σ) (i32 h, val) = (i32 (h + 1), val') ∧ val' h = s pl wh kn dy ∧ ∀ j, j < h → val' j = val j
theorem rrun_app {td : Nat → Int32} {pl wh kn dy : Int32} {m : Nat} : ∀ (k i : Nat) (v : RV), rrun td pl wh kn dy i (k + m) v = rrun td pl wh kn dy (i + k) m (rrun td pl wh kn dy i k v)
  | 0, i, v => by rw [Nat.zero_add, Nat.add_zero]; rfl
  | k + 1, i, v => by
    rw [show k + 1 + m = (k + m) + 1 by omega]
    show rrun td pl wh kn dy (i + 1) (k + m) _ = rrun td pl wh kn dy (i + (k + 1)) m (rrun td pl wh kn dy (i + 1) k _)
    rw [rrun_app k (i + 1), show i + 1 + k = i + (k + 1) by omega]
theorem rrun_cg {td td' : Nat → Int32} {pl wh kn dy : Int32} : ∀ (k i : Nat) (v : RV), (∀ j, j < 2 * (i + k) → td' j = td j) → rrun td' pl wh kn dy i k v = rrun td pl wh kn dy i k v
  | 0, i, v, _ => rfl
  | k + 1, i, v, h => by
    show rrun td' pl wh kn dy (i + 1) k _ = rrun td pl wh kn dy (i + 1) k _
    rw [h (2 * i) (by omega), h (2 * i + 1) (by omega)]
    exact rrun_cg k (i + 1) _ (fun j hj => h j (by omega))
theorem RMg_cg {td td' : Nat → Int32} {σ σ' : Nat} {s : SF} (h : RMg td σ σ' s) (hl : σ ≤ σ') (e : ∀ j, j < 2 * σ' → td' j = td j) : RMg td' σ σ' s := fun pl wh kn dy val x hx => by
  obtain ⟨v, v1, v2, v3⟩ := h pl wh kn dy val x hx
  exact ⟨v, by rw [rrun_cg _ _ _ (fun j hj => e j (by omega))]; exact v1, v2, v3⟩
section RSU
variable {f : BY} {n t i p g σ : Nat} {K V : Nat → Int32} {b e : Nat → Nat} {M : MM}
theorem nv_i {q : Nat} : ∀ k, k ≤ 3 → (∀ j, j < k → DG f n (q + j)) → ∃ m, m < 10 ^ k ∧ nv f q k = i32 m
  | 0, _, _ => ⟨0, by decide, rfl⟩
  | k + 1, hk, hd => by
    obtain ⟨m, m1, m2⟩ := nv_i k (by omega) (fun j hj => hd j (by omega))
    have h9 := (hd k (by omega)).2
    have hf : f (q + k) = i32 (ni (f (q + k))) := i32_ni (by omega)
    have hb : 48 ≤ ni (f (q + k)) ∧ ni (f (q + k)) ≤ 57 := by unfold ni; omega
    refine ⟨10 * m + (ni (f (q + k)) - 48), by rw [Nat.pow_succ]; omega, ?_⟩
    show 10 * nv f q k + f (q + k) - 48 = _
    rw [m2, hf, show (10 * i32 m : Int32) = i32 (10 * m) from i32_m 10 m, i32_a, show (48 : Int32) = i32 48 from rfl, i32_df (by omega), ← hf]
    congr 1
    omega
theorem tk_V (h : TKS f n t K V b e) (hi : i ≤ t) (hk : K i = 20) : ∃ m, m ≤ 1000 ∧ V i = i32 m := by
  obtain ⟨w1, w2⟩ := tk_num h hi hk
  rw [w2]
  by_cases c : 3 < e i - b i
  · exact ⟨1000, by omega, by rw [if_pos c]; rfl⟩
  · rw [if_neg c]
    obtain ⟨m, m1, m2⟩ := nv_i (f := f) (n := n) (q := b i) (e i - b i) (by omega) (fun j hj => w1.2.2.1 _ (by omega) (by omega))
    have : 10 ^ (e i - b i) ≤ 10 ^ 3 := Nat.pow_le_pow_right (by omega) (by omega)
    exact ⟨m, by omega, m2⟩
theorem r_emits {N : Nat} {op v : Int32} {Q : MM → Prop} (hs : M.1 190 25 = i32 σ) (hσ : σ < 1000) (hQ : ∀ M', M'.1 190 25 = i32 (σ + 1) → M'.1 202 (2 * σ) = op → M'.1 202 (2 * σ + 1) = v → (∀ j, j < 2 * σ → M'.1 202 j = M.1 202 j) → Eqo [(202, 202, none), (190, 190, some 25)] M M' → Q M') : W_m_emits op v N M Q := by
  unfold W_m_emits
  simp (disch := omega) only [wi_1n]
  rw [hs, show (2 * i32 σ : Int32) = i32 (2 * σ) from i32_m 2 σ, i32_s, i32_s, ni_i (by omega), ni_i (by omega)]
  refine hQ _ wi_1e ?_ ?_ (fun j hj => ?_) ?_
  · simp (disch := omega) only [wi_1n, wi_1e]
  · simp (disch := omega) only [wi_1n, wi_1e]
  · simp (disch := omega) only [wi_1n]
  · exact eqo_wi (i := 1) (eqo_wi (i := 0) (eqo_wi (i := 0) (eqo_rf _) rfl (Or.inl rfl)) rfl (Or.inl rfl)) rfl (Or.inr rfl)
theorem TXr_e {l : List (Nat × Nat × Option Nat)} {M' : MM} (h : TXr M f n p g) (x : Eqo l M M') (hl : (fpf l 190 20 && (fpf l 190 19 && (fpf l 190 21 && fpo l 203 203))) = true) : TXr M' f n p g := by
  simp only [Bool.and_eq_true] at hl
  obtain ⟨a1, a2, a3, a4⟩ := h
  exact ⟨by rw [eq1 x hl.1]; exact a1, by rw [eq1 x hl.2.1]; exact a2, by rw [eq1 x hl.2.2.1]; exact a3, by rw [eqb x hl.2.2.2 (Nat.le_refl _) (Nat.le_refl _)]; exact a4⟩
theorem RMg_1 {td : Nat → Int32} {op v : Int32} {s : SF} (h1 : td (2 * σ) = op) (h2 : td (2 * σ + 1) = v) (ho : ¬ 5 < op) (hs : ∀ pl wh kn dy, rfact op v pl wh kn dy = s pl wh kn dy) : RMg td σ (σ + 1) s := fun pl wh kn dy val h hh => by
  rw [show σ + 1 - σ = 1 by omega]
  refine ⟨up1 val h (s pl wh kn dy), ?_, up1_e, fun j hj => up1_n (by omega)⟩
  show rst pl wh kn dy (td (2 * σ)) (td (2 * σ + 1)) (i32 h, val) = _
  rw [h1, h2]
  unfold rst
  rw [if_neg ho, hs]
  dsimp only
  rw [i32_s, ni_i (by omega)]
end RSU
