/-! KIT: longs' bits, remainders, what is read of a citizen -/
def sb (x : Int64) (k : Nat) : Bool := x.toBitVec.getLsbD k
theorem sb_ext {x y : Int64} (h : ∀ k, k < 64 → sb x k = sb y k) : x = y := by
  rw [← Int64.toBitVec_inj]
  exact BitVec.eq_of_getLsbD_eq h
theorem sb_or (x y : Int64) (k : Nat) : sb (x ||| y) k = (sb x k || sb y k) := by
  unfold sb
  rw [Int64.toBitVec_or, BitVec.getLsbD_or]
theorem sb_and (x y : Int64) (k : Nat) : sb (x &&& y) k = (sb x k && sb y k) := by
  unfold sb
  rw [Int64.toBitVec_and, BitVec.getLsbD_and]
theorem sb_1 (k : Nat) : sb (Int64.ofNat 1) k = decide (k = 0) := by
  unfold sb
  show (1#64).getLsbD k = _
  rw [BitVec.getLsbD_one]
  simp
theorem lh_a : ∀ j : Fin 64, (((i32 j).toInt64 &&& 63).toBitVec.smod 64).toNat = (j : Nat) := by decide
theorem lh_b : ∀ j : Fin 64, (((i32 j).toInt64.toUInt64 &&& Int64.toUInt64 63).toBitVec % 64).toNat = (j : Nat) := by decide
theorem sb_lr {x : Int64} {j : Nat} (hj : j < 64) : sb (lr x (i32 j)) 0 = sb x j := by
  unfold sb lr
  rw [Int64.toBitVec_shiftRight]
  simp only [BitVec.sshiftRight_eq', BitVec.getLsbD_sshiftRight]
  rw [lh_a ⟨j, hj⟩]
  simp [hj]
theorem sb_lu {x : Int64} {j : Nat} (hj : j < 64) : sb (lu x (i32 j)) 0 = sb x j := by
  unfold sb lu
  rw [UInt64.toBitVec_toInt64, UInt64.toBitVec_shiftRight]
  simp only [BitVec.ushiftRight_eq', BitVec.getLsbD_ushiftRight]
  rw [lh_b ⟨j, hj⟩]
  simp
theorem sb_bit {x : Int64} : (x &&& Int64.ofNat 1) = if sb x 0 then Int64.ofNat 1 else 0 := by
  apply sb_ext
  intro k hk
  rw [sb_and, sb_1]
  by_cases h : k = 0
  · subst h
    cases sb x 0 <;> simp [sb_1, sb]
  · cases sb x 0 <;> simp [sb_1, h, sb]
theorem lg_1 (b : Bool) : lg_cmp (if b then Int64.ofNat 1 else 0) (Int64.ofNat 1) = 0 ↔ b = true := by
  cases b
  · exact ⟨fun h => absurd h (by decide), fun h => absurd h (by decide)⟩
  · exact ⟨fun _ => rfl, fun _ => by decide⟩
theorem v_hasM {x : Int64} {j : Nat} {M : MM} (hj : j < 64) : V_m_hasMatter x (i32 j) M = b32 (sb x j) := by
  unfold V_m_hasMatter
  rw [sb_bit, sb_lr hj]
  by_cases h : sb x j = true
  · rw [if_pos ((lg_1 _).mpr h), h]; rfl
  · rw [if_neg (fun e => h ((lg_1 _).mp e))]
    simp only [Bool.not_eq_true] at h
    rw [h]; rfl
theorem v_hasS {a c j : Nat} {M : MM} (hc : c < 2147483648) (hj : j < 64) : V_World_hasSeen a (i32 c) (i32 j) M = b32 (sb (M.2 (a + 8) c) j) := by
  unfold V_World_hasSeen
  rw [ni_i hc, sb_bit, sb_lu hj]
  by_cases h : sb (M.2 (a + 8) c) j = true
  · rw [if_pos ((lg_1 _).mpr h), h]; rfl
  · rw [if_neg (fun e => h ((lg_1 _).mp e))]
    simp only [Bool.not_eq_true] at h
    rw [h]; rfl
theorem i32_d {x y : Nat} (hx : x < 2147483648) (hy : y < 2147483648) : i32 x / i32 y = i32 (x / y) := i32_of (iv_div_nn (i32_i hx) (i32_i hy))
theorem rm_n {x y : Nat} (hx : x < 2147483648) (hy : y < 2147483648) : rm (i32 x) (i32 y) = i32 (x % y) := i32_of (iv_rem_nn (i32_i hx) (i32_i hy))
theorem b32_eq0 {b : Bool} : b32 b = 0 ↔ b = false := by cases b <;> simp [b32]
theorem b32_ne0 {b : Bool} : ¬ b32 b = 0 ↔ b = true := by cases b <;> simp [b32]
theorem if_b32 {p : Prop} [Decidable p] : (if p then (1 : Int32) else 0) = b32 (decide p) := by
  by_cases h : p
  · rw [if_pos h, decide_eq_true h]; rfl
  · rw [if_neg h, decide_eq_false h]; rfl
/-- a citizen's place in a row -/
theorem ofs {c i : Nat} (hc : c < 1000) (hi : i < 1000) : ni ((18 + (13 * i32 c)) + i32 i) = 18 + 13 * c + i := by
  rw [show (13 : Int32) * i32 c = i32 (13 * c) from i32_m 13 c, show (18 : Int32) + i32 (13 * c) = i32 (18 + 13 * c) from i32_a 18 _, i32_a, ni_i (by omega)]
theorem v_of {c i : Nat} {M : MM} (hc : c < 1000) (hi : i < 1000) : V_m_of (i32 c) (i32 i) M = cl (M.1 191) c i := by
  unfold V_m_of cl
  rw [ofs hc hi]
theorem v_alive {c : Nat} {M : MM} (hc : c < 1000) : V_m_isAlive (i32 c) M = b32 (alv (M.1 191) c) := by
  unfold V_m_isAlive alv
  rw [show V_m_of (i32 c) 0 M = cl (M.1 191) c 0 from v_of (i := 0) hc (by omega), if_b32]
/-- the matter that is so far ahead -/
def md (w : RW) (c k : Nat) : Int32 := cl w c (7 + (ni (cl w c 6) + k) % ni (cl w c 5))
theorem v_does {c k : Nat} {M : MM} (hc : c < 1000) (h : WFc (M.1 191) c) (hk : k < 1000000) : V_m_doesIn (i32 c) (i32 k) M = md (M.1 191) c k := by
  obtain ⟨-, -, -, ⟨h1, h2⟩, ⟨h3, h4⟩, -⟩ := h
  unfold V_m_doesIn md
  rw [show V_m_of (i32 c) 6 M = cl (M.1 191) c 6 from v_of (i := 6) hc (by omega), show V_m_of (i32 c) 5 M = cl (M.1 191) c 5 from v_of (i := 5) hc (by omega)]
  have e6 := i32_ni h3
  have e5 := i32_ni (x := cl (M.1 191) c 5) (by omega)
  have b5 : ni (cl (M.1 191) c 5) ≤ 6 := by unfold ni; omega
  have b5' : 1 ≤ ni (cl (M.1 191) c 5) := by unfold ni; omega
  have b6 : ni (cl (M.1 191) c 6) < 6 := by unfold ni; omega
  generalize ni (cl (M.1 191) c 6) = x at *
  generalize ni (cl (M.1 191) c 5) = y at *
  rw [e6, e5, i32_a, rm_n (by omega) (by omega), show (7 : Int32) + i32 ((x + k) % y) = i32 (7 + (x + k) % y) from i32_a 7 _]
  have := Nat.mod_lt (x + k) (y := y) (by omega)
  exact v_of hc (by omega)
section CLS
variable {a c : Nat} {M : MM} {w : RW} {s : RS}
theorem c_alive (h : CW M a w s) (hw : WF w) (hc : c < nC w) : V_World_isAlive a (i32 c) M = b32 (alv w c) := by
  have := (nC_i hw).2.1
  unfold V_World_isAlive V_E_bit
  rw [h.2.2.1, bt_b (by omega), tb_bs _ _ (by omega) _ (by omega), decide_eq_true hc, Bool.true_and]
  cases alv w c
  · rfl
  · rfl
theorem c_ahead (h : CW M a w s) (hw : WF w) (hc : c < nC w) {k : Nat} (hk : k < 1000000) : V_World_matterAhead a (i32 c) (i32 k) M = md w c k := by
  have hn := (nC_i hw).2.1
  obtain ⟨-, -, -, ⟨h1, h2⟩, ⟨h3, h4⟩, -⟩ := hw.2.2.2 c hc
  obtain ⟨c1, c2, c3, c4, c5, c6, c7, c8⟩ := h.2.2.2.1 c hc
  unfold V_World_matterAhead V_World_matterAt md
  rw [ni_i (show c < 2147483648 by omega), c5, c6]
  have e6 := i32_ni h3
  have e5 := i32_ni (x := cl w c 5) (by omega)
  have b5 : ni (cl w c 5) ≤ 6 := by unfold ni; omega
  have b5' : 1 ≤ ni (cl w c 5) := by unfold ni; omega
  have b6 : ni (cl w c 6) < 6 := by unfold ni; omega
  rw [if_neg (by rw [Int32.lt_iff_toInt_lt, show (1 : Int32).toInt = 1 from rfl]; omega)]
  have hm := Nat.mod_lt (ni (cl w c 6) + k) (y := ni (cl w c 5)) (by omega)
  have key : ∀ x y : Nat, x < 6 → 1 ≤ y → y ≤ 6 → (i32 c * 6 + rm (i32 x + i32 k) (i32 y)) = i32 (6 * c + (x + k) % y) := fun x y hx hy1 hy2 => by
    rw [i32_a, rm_n (by omega) (by omega), show i32 c * 6 = i32 (c * 6) from i32_m c 6, i32_a, Nat.mul_comm]
  have key2 := key _ _ b6 b5' b5
  rw [← e6, ← e5] at key2
  rw [key2, ni_i (by omega)]
  have e7 : ((ni (cl w c 5) : Nat) : Int) = (cl w c 5).toInt := by unfold ni; omega
  exact c7 _ (by omega) (by omega)
theorem c_known (h : CW M a w s) (hc : c < nC w) (hw : WF w) : V_World_knownBy a (i32 c) M = V_Int_bitCount (cl w c 1) M := by
  have := (nC_i hw).2.1
  unfold V_World_knownBy
  rw [ni_i (show c < 2147483648 by omega), (h.2.2.2.1 c hc).1]
end CLS
