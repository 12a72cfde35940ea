/-! THE CLASS'S THINGS: the words it knows -/
def WS : Nat := 63021502816913500094821647077860426288575505828352872431751190254872543940710353612704103794142872447020960573222899747923705051523171944367044331944129487877391232940799216069755921256384304944118173833723336490650189537168881845560507485002053376
/-- where the words begin in it -/
def WOF : List Nat := [0, 6, 13, 16, 19, 23, 27, 33, 39, 43, 47, 53, 61, 66, 71, 77, 83, 88, 93, 97, 102]
def wof (k : Nat) : Nat := WOF.getD k 0
def wln (k : Nat) : Nat := wof (k + 1) - wof k - 1
def wch (j : Nat) : Int32 := sc WS (i32 j)
def dwL (k : Nat) : List Int := (List.range (wln k)).map (fun m => (wch (wof k + m)).toInt)
theorem ws_l : Int32.ofNat (sx_len (WS / 128)) = i32 102 := by decide +kernel
theorem ws_e : ∀ k, k < 20 → wch (wof k + wln k) = 32 ∧ wof (k + 1) = wof k + wln k + 1 ∧ wof (k + 1) ≤ 102 ∧ wln k < 10 := by decide +kernel
theorem ws_c : ∀ k, k < 20 → ∀ m, m < wln k → ¬ wch (wof k + m) = 32 := by decide +kernel
theorem ws_20 : wof 20 = 102 := by decide +kernel
theorem st_place : stL 196476243687425 = dwL 7 ∧ sx_len ((196476243687425 + 1) / 128) < 100 := by decide +kernel
theorem st_day : stL 3165696515 = dwL 8 ∧ sx_len ((3165696515 + 1) / 128) < 100 := by decide +kernel
theorem st_who : stL 3082042245 = dwL 9 ∧ sx_len ((3082042245 + 1) / 128) < 100 := by decide +kernel
theorem st_known : stL 201467113190791 = dwL 10 ∧ sx_len ((201467113190791 + 1) / 128) < 100 := by decide +kernel
theorem st_not : stL 3124213513 = dwL 5 ∧ sx_len ((3124213513 + 1) / 128) < 100 := by decide +kernel
theorem st_feast : stL 204756940403467 = dwL 6 ∧ sx_len ((204756940403467 + 1) / 128) < 100 := by decide +kernel
theorem st_and : stL 2989961357 = dwL 4 ∧ sx_len ((2989961357 + 1) / 128) < 100 := by decide +kernel
theorem st_or : stL 12138383 = dwL 3 ∧ sx_len ((12138383 + 1) / 128) < 100 := by decide +kernel
theorem st_always : stL 52280337941016721 = dwL 1 ∧ sx_len ((52280337941016721 + 1) / 128) < 100 := by decide +kernel
theorem st_never : stL 203627540166419 = dwL 0 ∧ sx_len ((203627540166419 + 1) / 128) < 100 := by decide +kernel
theorem st_if : stL 11744405 = dwL 2 ∧ sx_len ((11744405 + 1) / 128) < 100 := by decide +kernel
theorem dw_ne : ∀ k, k < 20 → ∀ l, l < 20 → dwL k = dwL l → k = l := by decide +kernel
/-- what a word is: its number, or 22 -/
def wnm (w : List Int) (r : Nat) : Prop := (r < 20 ∧ w = dwL r) ∨ (r = 22 ∧ ∀ k, k < 20 → ¬ w = dwL k)
section LZ
variable {f : BY} {n i e : Nat} {M : MM}
theorem c_eow {N : Nat} {Q : Int32 → Prop} (h : TXc M f n) (hn : n ≤ 400) (hi : LT f n i) (hQ : ∀ e, ENd (LT f n) n i e → Q (i32 e)) : W_Text_endOfWord (i32 i) N M Q := by
  unfold W_Text_endOfWord
  have hin := hi.1
  refine I_Text_endOfWord_4 _ _ _ (fun v => ∃ e, i < e ∧ e ≤ n ∧ (∀ j, i ≤ j → j < e → LT f n j) ∧ v = i32 e) (fun N ih v hih hv => ?_) N _ ⟨i + 1, by omega, by omega, fun j j1 j2 => by rw [show j = i by omega]; exact hi, i32_s i⟩
  obtain ⟨e, e1, e2, e3, rfl⟩ := hv
  unfold B_Text_endOfWord_4
  rw [v_let h hn (by omega), h.1]
  refine ⟨fun _ => ⟨fun h0 => ?_, fun h0 => ?_⟩, fun h0 => ?_⟩
  · rw [b32_eq0, decide_eq_false_iff_not] at h0
    exact hQ e ⟨by omega, e2, e3, h0⟩
  · rw [b32_ne0, decide_eq_true_eq] at h0
    rw [i32_s]
    refine hih _ ⟨e + 1, by omega, by have := h0.1; omega, fun j j1 j2 => ?_, rfl⟩
    by_cases c : j = e
    · rw [c]; exact h0
    · exact e3 j j1 (by omega)
  · exact hQ e ⟨by omega, e2, e3, fun hx => h0 ((i32_lt (by omega) (by omega)).mpr hx.1)⟩
theorem c_eon {N : Nat} {Q : Int32 → Prop} (h : TXc M f n) (hn : n ≤ 400) (hi : DG f n i) (hQ : ∀ e, ENd (DG f n) n i e → Q (i32 e)) : W_Text_endOfNumber (i32 i) N M Q := by
  unfold W_Text_endOfNumber
  have hin := hi.1
  refine I_Text_endOfNumber_4 _ _ _ (fun v => ∃ e, i < e ∧ e ≤ n ∧ (∀ j, i ≤ j → j < e → DG f n j) ∧ v = i32 e) (fun N ih v hih hv => ?_) N _ ⟨i + 1, by omega, by omega, fun j j1 j2 => by rw [show j = i by omega]; exact hi, i32_s i⟩
  obtain ⟨e, e1, e2, e3, rfl⟩ := hv
  unfold B_Text_endOfNumber_4
  rw [v_dig h hn (by omega), h.1]
  refine ⟨fun _ => ⟨fun h0 => ?_, fun h0 => ?_⟩, fun h0 => ?_⟩
  · rw [b32_eq0, decide_eq_false_iff_not] at h0
    exact hQ e ⟨by omega, e2, e3, h0⟩
  · rw [b32_ne0, decide_eq_true_eq] at h0
    rw [i32_s]
    refine hih _ ⟨e + 1, by omega, by have := h0.1; omega, fun j j1 j2 => ?_, rfl⟩
    by_cases c : j = e
    · rw [c]; exact h0
    · exact e3 j j1 (by omega)
  · exact hQ e ⟨by omega, e2, e3, fun hx => h0 ((i32_lt (by omega) (by omega)).mpr hx.1)⟩
theorem c_val {N : Nat} {Q : Int32 → Prop} (h : TXc M f n) (hn : n ≤ 400) (hi : i ≤ e) (he : e ≤ n) (hQ : Q (if 3 < e - i then 1000 else nv f i (e - i))) : W_Text_valueOf (i32 i) (i32 e) N M Q := by
  unfold W_Text_valueOf
  rw [i32_df hi]
  refine ⟨fun c => ?_, fun c => ?_⟩
  · rw [if_pos ((i32_lt (j := 3) (by omega) (by omega)).mp c)] at hQ
    exact hQ
  · rw [if_neg (fun x => c ((i32_lt (j := 3) (by omega) (by omega)).mpr x))] at hQ
    refine I_Text_valueOf_16 _ _ _ _ (fun v j => ∃ k, k ≤ e - i ∧ v = nv f i k ∧ j = i32 (i + k)) (fun N ih v j hih hv => ?_) N _ _ ⟨0, by omega, rfl, rfl⟩
    obtain ⟨k, k1, rfl, rfl⟩ := hv
    unfold B_Text_valueOf_16
    refine ⟨fun c2 => ?_, fun c2 => ?_⟩
    · have c3 := (i32_lt (by omega) (by omega)).mp c2
      rw [h.2, ni_i (by omega), i32_s]
      refine hih _ _ ⟨k + 1, by omega, ?_, rfl⟩
      show _ = 10 * nv f i k + f (i + k) - 48
      rw [Int32.mul_comm]
    · have c3 : ¬ i + k < e := fun x => c2 ((i32_lt (by omega) (by omega)).mpr x)
      obtain rfl : k = e - i := by omega
      exact hQ
end LZ
