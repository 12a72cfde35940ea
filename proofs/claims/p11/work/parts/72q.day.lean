/-! A DAY, as a step from row to row -/
def sd (x : Int32) : Int32 := 1103515245 * x + 12345
def dr (x : Int32) : Int32 := rm ((sr x 16) &&& 32767) 100
def bcn (x : Int32) : Int32 := V_Int_bitCount x (fun _ _ => 0, fun _ _ => 0)
def fbn (L : LWT) (w : RW) (c : Nat) : Int32 := bs (bear L 0 (md w c 0) (i32 c) (bcn (cl w c 1)) (w 2)) L.1
def keepS (L : LWT) (w : RW) (s : RS) (c : Nat) : Bool × RW :=
  if fbn L w c &&& cl w c 1 = 0 then
    (if sb (s c) (ni (md w c 0)) = true then (decide (dr (sd (w 9)) < cl w c 2), up1 w 9 (sd (w 9))) else (false, w))
  else (true, w)
def frb (w : RW) (c : Nat) : Bool := alv w c && !decide (0 < cl w c 3)
def pickS (L : LWT) (s : RS) (c : Nat) (x : RW × Int32) : RW × Int32 :=
  if frb x.1 c = true then
    (if (keepS L x.1 s c).1 = true then (up1 (keepS L x.1 s c).2 5 ((keepS L x.1 s c).2 5 + 1), x.2) else ((keepS L x.1 s c).2, x.2 ||| sl 1 (i32 c)))
  else x
def pickN (L : LWT) (s : RS) : Nat → RW × Int32 → RW × Int32
  | 0, x => x
  | n + 1, x => pickS L s n (pickN L s n x)
def logS (w : RW) (c m k : Int32) : RW := fun j => if j = 148 then w 2 else if j = 149 then c else if j = 150 then m else if j = 151 then k else if 152 ≤ j ∧ j < 388 then w (j - 4) else if j = 6 then mn 60 (w 6 + 1) else w j
def seeS (w : RW) (f m : Int32) : Nat → RS → RS
  | 0, s => s
  | n + 1, s => if tb f n = true ∧ rm (md w n 0) 8 = rm m 8 then us (seeS w f m n s) n (seeS w f m n s n ||| ll (Int64.ofNat 1) m) else seeS w f m n s
def takeS (w : RW) (c : Nat) : RW := up1 (up1 w 3 (w 3 + 1)) (18 + 13 * c + 3) (w 8)
def ntz (x : Int32) : Int32 := V_Int_numberOfTrailingZeros x (fun _ _ => 0, fun _ _ => 0)
def hrmS (w : RW) (c : Nat) : RW := up1 w 4 (w 4 + w (10 + ni (md w c 0 / 8)))
def judgeS (L : LWT) (fo f : Int32) (c : Nat) (x : RW × RS) : RW × RS :=
  if fo &&& fbn L x.1 c = 0 then x
  else if dr (sd (x.1 9)) < x.1 7 then
    (logS (takeS (up1 (hrmS x.1 c) 9 (sd (x.1 9))) c) (i32 c) (md x.1 c 0) (ntz (fo &&& fbn L x.1 c)), seeS x.1 f (md x.1 c 0) (nC x.1) x.2)
  else (up1 (hrmS x.1 c) 9 (sd (x.1 9)), x.2)
def judgeN (L : LWT) (fo f d : Int32) : Nat → RW × RS → RW × RS
  | 0, x => x
  | n + 1, x => if tb d n = true then judgeS L fo f n (judgeN L fo f d n x) else judgeN L fo f d n x
def nextS (c : Nat) (w : RW) : RW := up1 w (18 + 13 * c + 6) (rm (cl w c 6 + 1) (cl w c 5))
def restS (f : Int32) (c : Nat) (w : RW) : RW := if tb f c = true then nextS c w else nextS c (up1 w (18 + 13 * c + 3) (mx 0 (cl w c 3 - 1)))
def restN (f : Int32) : Nat → RW → RW
  | 0, w => w
  | n + 1, w => restS f n (restN f n w)
def inF (w : RW) : Nat → Int32
  | 0 => 0
  | n + 1 => if alv w n = true then inF w n ||| cl w n 1 else inF w n
def dayS (L : LWT) (w : RW) (s : RS) : RW × RS :=
  let n := nC w
  let f := bs (frb w) n
  let p := pickN L s n (w, 0)
  let j := judgeN L (inF p.1 n) f p.2 n (p.1, s)
  let r := restN f n j.1
  (up1 r 2 (r 2 + 1), j.2)
/-! the reference's cells in a day -/
def rM (M : MM) (w : RW) (s : RS) (f d : Int32) (v : Nat → Int32) : MM := (fun c j => if c = 191 then w j else if c = 207 then v j else if c = 190 ∧ j = 29 then f else if c = 190 ∧ j = 30 then d else M.1 c j, fun c j => if c = 196 then s j else M.2 c j)
section RMX
variable {M : MM} {w : RW} {s : RS} {f d : Int32} {v v' : Nat → Int32} {k : Nat} {x : Int32} {y : Int64}
theorem rM_191 : (rM M w s f d v).1 191 = w := by
  funext j
  unfold rM
  simp
theorem rM_196 : (rM M w s f d v).2 196 = s := by
  funext j
  unfold rM
  simp
theorem rM_w : wi (rM M w s f d v) 191 k x = rM M (up1 w k x) s f d v := by
  unfold wi rM
  congr 1
  funext c j
  unfold up up1
  by_cases hc : c = 191
  · subst hc
    by_cases hj : j = k <;> simp [hj]
  · simp [hc]
theorem rM_f : wi (rM M w s f d v) 190 29 x = rM M w s x d v := by
  unfold wi rM
  congr 1
  funext c j
  unfold up
  by_cases hc : c = 190
  · subst hc
    by_cases hj : j = 29 <;> simp [hj]
  · simp [hc]
theorem rM_d : wi (rM M w s f d v) 190 30 x = rM M w s f x v := by
  unfold wi rM
  congr 1
  funext c j
  unfold up
  by_cases hc : c = 190
  · subst hc
    by_cases hj : j = 30 <;> simp [hj]
  · simp [hc]
theorem rM_v : svM (rM M w s f d v) v' = rM M w s f d v' := by
  unfold svM rM
  congr 1
  funext c j
  by_cases hc : c = 207
  · subst hc; simp
  · simp [hc]
theorem rM_j : wj (rM M w s f d v) 196 k y = rM M w (us s k y) f d v := by
  unfold wj rM
  congr 1
  funext c j
  unfold up us
  by_cases hc : c = 196
  · subst hc
    by_cases hj : j = k <;> simp [hj]
  · simp [hc]
theorem rM_id : rM M (M.1 191) (M.2 196) (M.1 190 29) (M.1 190 30) (M.1 207) = M := by
  unfold rM
  apply Prod.ext
  · funext c j
    dsimp only
    by_cases h1 : c = 191
    · subst h1; simp
    · by_cases h2 : c = 207
      · subst h2; simp
      · rw [if_neg h1, if_neg h2]
        by_cases h3 : c = 190 ∧ j = 29
        · obtain ⟨rfl, rfl⟩ := h3; simp
        · rw [if_neg h3]
          by_cases h4 : c = 190 ∧ j = 30
          · obtain ⟨rfl, rfl⟩ := h4; simp
          · rw [if_neg h4]
  · funext c j
    dsimp only
    by_cases h1 : c = 196
    · subst h1; simp
    · rw [if_neg h1]
theorem rM_29 : (rM M w s f d v).1 190 29 = f := rfl
theorem rM_30 : (rM M w s f d v).1 190 30 = d := rfl
theorem LawR_rM {L : LWT} (h : LawR M L) : LawR (rM M w s f d v) L := h
end RMX
theorem bs_and {P : Nat → Bool} {x : Int32} {n : Nat} (hn : n ≤ 32) : bs (fun k => tb x k && P k) n = bs P n &&& x := by
  apply tb_ext
  intro k hk
  rw [tb_and, tb_bs _ _ hn _ hk, tb_bs _ _ hn _ hk]
  cases tb x k <;> cases P k <;> simp
theorem and63 (x : Int32) : 0 ≤ (x &&& 63).toInt ∧ (x &&& 63).toInt ≤ 63 := by
  have h : (x &&& 63).toBitVec.toNat ≤ 63 := by
    rw [Int32.toBitVec_and, BitVec.toNat_and]
    exact Nat.and_le_right
  have e : (x &&& 63).toInt = ((x &&& 63).toBitVec.toNat : Int) := by
    show (x &&& 63).toBitVec.toInt = _
    rw [BitVec.toInt_eq_toNat_of_lt (by omega)]
  rw [e]
  omega
theorem bcn_b (x : Int32) : 0 ≤ (bcn x).toInt ∧ (bcn x).toInt ≤ 63 := and63 _
def dOK (w : RW) : Prop := 0 ≤ (w 2).toInt ∧ (w 2).toInt ≤ 29000
theorem md_b {w : RW} {c k : Nat} (h : WFc w c) : 0 ≤ (md w c k).toInt ∧ (md w c k).toInt ≤ 63 := by
  obtain ⟨-, -, -, ⟨h1, h2⟩, -, h6⟩ := h
  unfold md
  have b5 : ((ni (cl w c 5) : Nat) : Int) = (cl w c 5).toInt := by unfold ni; omega
  have := Nat.mod_lt (ni (cl w c 6) + k) (y := ni (cl w c 5)) (by omega)
  exact h6 _ (by omega) (by omega)
theorem rm8 {m : Int32} (h0 : 0 ≤ m.toInt) : 0 ≤ (rm m 8).toInt ∧ (rm m 8).toInt < 8 := by
  rw [i32_ni h0, show rm (i32 (ni m)) 8 = i32 (ni m % 8) from rm_n (y := 8) (ni_ge m) (by omega), i32_i (by omega)]
  omega
theorem rngD {w : RW} {c k : Nat} {dy : Int32} (h : WFc w c) (hc : c < 10) (hd : 0 ≤ dy.toInt ∧ dy.toInt ≤ 30000) (x : Int32) : rng (rm (md w c k) 8) (i32 c) (bcn x) dy := by
  have h1 := md_b (k := k) h
  have h2 := bcn_b x
  refine ⟨rm8 h1.1, ?_, by omega, hd⟩
  rw [i32_i (by omega)]
  omega
