/-! WHICH WORD IT IS -/
section LW
variable {f : BY} {n i e : Nat} {M : MM}
theorem wd_iff {k : Nat} : wdL f i e = dwL k ↔ e - i = wln k ∧ ∀ t, t < wln k → f (i + t) = wch (wof k + t) := by
  unfold wdL dwL
  constructor
  · intro h
    have hl := congrArg List.length h
    rw [List.length_map, List.length_map, List.length_range, List.length_range] at hl
    rw [hl] at h
    exact ⟨hl, fun t ht => Int32.toInt_inj.mp (List.map_inj_left.mp h t (List.mem_range.mpr ht))⟩
  · rintro ⟨hl, h⟩
    rw [hl]
    exact List.map_inj_left.mpr (fun t ht => by rw [h t (List.mem_range.mp ht)])
theorem c_word {N : Nat} {Q : Int32 → Prop} (h : TXc M f n) (hn : n ≤ 400) (hi : i ≤ e) (he : e ≤ n) (hQ : ∀ r, wnm (wdL f i e) r → Q (i32 r)) : W_Text_wordNumber (i32 i) (i32 e) N M Q := by
  unfold W_Text_wordNumber
  refine I_Text_wordNumber_11 _ _ _ _ (fun v3 v4 v5 v6 => ∃ k m, k ≤ 20 ∧ (k < 20 → m ≤ wln k) ∧ (k = 20 → m = 0) ∧ v3 = i32 k ∧ v6 = i32 (wof k + m) ∧ v4 = i32 (i + m) ∧ (∀ l, l < k → ¬ wdL f i e = dwL l) ∧ ((v5 = 1 ∧ ∀ t, t < m → i + t < e ∧ f (i + t) = wch (wof k + t)) ∨ (v5 = 0 ∧ ¬ wdL f i e = dwL k))) (fun N ih v3 v4 v5 v6 hih hv => ?_) N _ _ _ _ ⟨0, 0, by omega, fun _ => by omega, fun _ => rfl, rfl, rfl, rfl, fun l hl => by omega, Or.inl ⟨rfl, fun t ht => by omega⟩⟩
  obtain ⟨k, m, k1, k2, k3, rfl, rfl, rfl, k4, k5⟩ := hv
  unfold B_Text_wordNumber_11
  rw [show (63021502816913500094821647077860426288575505828352872431751190254872543940710353612704103794142872447020960573222899747923705051523171944367044331944129487877391232940799216069755921256384304944118173833723336490650189537168881845560507485002053376 : Nat) = WS from rfl, ws_l, show sc WS (i32 (wof k + m)) = wch (wof k + m) from rfl, h.2]
  by_cases hk : k < 20
  · obtain ⟨s1, s2, s3, s4⟩ := ws_e k hk
    have hm := k2 hk
    refine ⟨fun _ => ⟨fun hc => ?_, fun hc => ?_⟩, fun hx => absurd ((i32_lt (by omega) (by omega)).mpr (by omega)) hx⟩
    · have em : m = wln k := by
        rcases Nat.lt_or_ge m (wln k) with c | c
        · exact absurd hc (ws_c k hk m c)
        · omega
      have nx : ¬ wdL f i e = dwL k → ih (i32 k + 1) (i32 i) 1 (i32 (wof k + m) + 1) := fun hne => by
        rw [i32_s, i32_s, em, ← s2]
        refine hih _ _ _ _ ⟨k + 1, 0, by omega, fun _ => by omega, fun _ => rfl, rfl, rfl, rfl, fun l hl => ?_, Or.inl ⟨rfl, fun t ht => by omega⟩⟩
        by_cases c : l = k
        · rw [c]; exact hne
        · exact k4 l (by omega)
      rcases k5 with ⟨rfl, k5⟩ | ⟨rfl, k5⟩
      · refine ⟨fun hb => absurd hb (by decide), fun _ => ⟨fun hb => ?_, fun hb => ?_⟩⟩
        · have hb' := (i32_ij (by omega) (by omega)).mp hb
          exact hQ k (Or.inl ⟨hk, wd_iff.mpr ⟨by omega, fun t ht => (k5 t (by omega)).2⟩⟩)
        · refine nx (fun hw => hb ?_)
          have := (wd_iff.mp hw).1
          rw [show i + m = e by omega]
      · exact ⟨fun _ => nx k5, fun hb => absurd rfl hb⟩
    · have em : m < wln k := by
        rcases Nat.lt_or_ge m (wln k) with c | c
        · exact c
        · obtain rfl : m = wln k := by omega
          exact absurd s1 hc
      have no : ¬ wdL f i e = dwL k → ih (i32 k) (i32 (i + m) + 1) 0 (i32 (wof k + m) + 1) := fun hne => by
        rw [i32_s, i32_s]
        exact hih _ _ _ _ ⟨k, m + 1, by omega, fun _ => by omega, fun _ => by omega, rfl, rfl, rfl, k4, Or.inr ⟨rfl, hne⟩⟩
      rcases k5 with ⟨rfl, k5⟩ | ⟨rfl, k5⟩
      · refine ⟨fun hb => absurd hb (by decide), fun _ => ⟨fun hb => ?_, fun hb => ?_⟩⟩
        · have hb' := (i32_lt (by omega) (by omega)).mp hb
          rw [ni_i (by omega)]
          refine ⟨fun hf => ?_, fun hf => no (fun hw => hf ((wd_iff.mp hw).2 m em))⟩
          rw [i32_s, i32_s]
          refine hih _ _ _ _ ⟨k, m + 1, by omega, fun _ => by omega, fun _ => by omega, rfl, rfl, rfl, k4, Or.inl ⟨rfl, fun t ht => ?_⟩⟩
          by_cases c : t = m
          · rw [c]; exact ⟨hb', hf⟩
          · exact k5 t (by omega)
        · have hb' : ¬ i + m < e := fun x => hb ((i32_lt (by omega) (by omega)).mpr x)
          exact no (fun hw => by have := (wd_iff.mp hw).1; omega)
      · exact ⟨fun _ => no k5, fun hb => absurd rfl hb⟩
  · obtain rfl : k = 20 := by omega
    have em := k3 rfl
    refine ⟨fun hx => ?_, fun _ => hQ 22 (Or.inr ⟨rfl, k4⟩)⟩
    rw [ws_20] at hx
    have := (i32_lt (by omega) (by omega)).mp hx
    omega
theorem wnm_u {w : List Int} {r r' : Nat} (h : wnm w r) (h' : wnm w r') : r = r' := by
  rcases h with ⟨a, b⟩ | ⟨a, b⟩ <;> rcases h' with ⟨c, d⟩ | ⟨c, d⟩
  · exact dw_ne r a r' c (b.symm.trans d)
  · exact absurd b (d r a)
  · exact absurd d (b r' c)
  · omega
theorem wnm_k {w : List Int} {r k : Nat} (h : wnm w r) (hk : k < 20) : w = dwL k ↔ r = k := by
  rcases h with ⟨a, b⟩ | ⟨a, b⟩
  · exact ⟨fun e => dw_ne r a k hk (b.symm.trans e), fun e => e ▸ b⟩
  · exact ⟨fun e => absurd e (b k hk), fun e => by omega⟩
end LW
