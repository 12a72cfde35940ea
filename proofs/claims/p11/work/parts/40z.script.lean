/-! the checker never looks at the script -/
section XSC
variable (X : Option (List AI)) {G : Nat → Option CT} {cts : Nat → List CN} {hd : Nat → Option HA} {c : CN} {ih : IH}
theorem fr_t_scr : ∀ F : List FR, fr_t (tb_P X) F = fr_t (tb_P none) F
  | [] => rfl
  | f :: t => by
    show (f.2.2.2.2 && (fr_nh (tb_P X) f.1 && fr_t (tb_P X) t)) = (f.2.2.2.2 && (fr_nh (tb_P none) f.1 && fr_t (tb_P none) t))
    rw [fr_t_scr t]
    rfl
theorem xz_c_scr (i : Instr) (m pc : Nat) (L : List (Nat × XV)) (S : List XV) (e : XE) (F : List FR) : xz_c (tb_P X) G cts c ih i m pc L S e F = xz_c (tb_P none) G cts c ih i m pc L S e F := by
  unfold xz_c
  rw [fr_t_scr X F]
  rfl
theorem xz_i_scr (i : Instr) (m pc : Nat) (L : List (Nat × XV)) (S : List XV) (e : XE) (F : List FR) : xz_i (tb_P X) G cts c ih i m pc L S e F = xz_i (tb_P none) G cts c ih i m pc L S e F := by
  unfold xz_i
  simp only [xz_c_scr X, fr_t_scr X]
  rfl
theorem xz_scr (m pc : Nat) (L : List (Nat × XV)) (S : List XV) (e : XE) (F : List FR) : xz (tb_P X) G cts c ih m pc L S e F = xz (tb_P none) G cts c ih m pc L S e F := by
  unfold xz
  simp only [xz_i_scr X]
  rfl
theorem xw_scr (st : Option (Int × List (Int × XI))) (n : Nat) : xw (tb_P X) G cts hd c st n = xw (tb_P none) G cts hd c st n := by
  induction n with
  | zero => rfl
  | succ n ihn =>
    funext m pc L S e F
    show (match xw_h hd c m pc F with
      | some h => ha_at G h st L S e
      | none => xz (tb_P X) G cts c (xw (tb_P X) G cts hd c st n) m pc L S e F) = (match xw_h hd c m pc F with
      | some h => ha_at G h st L S e
      | none => xz (tb_P none) G cts c (xw (tb_P none) G cts hd c st n) m pc L S e F)
    rw [ihn, xz_scr X]
theorem hd_ck_scr (n pc : Nat) (h : HA) : hd_ck (tb_P X) G cts hd c n pc h = hd_ck (tb_P none) G cts hd c n pc h := by
  unfold hd_ck
  simp only [xw_scr X, xz_scr X]
theorem hd_all_scr (n : Nat) : ∀ l : List (Nat × HA), hd_all (tb_P X) G cts hd c n l = hd_all (tb_P none) G cts hd c n l
  | [] => rfl
  | q :: t => by
    show (hd_ck (tb_P X) G cts hd c n q.1 q.2 && hd_all (tb_P X) G cts hd c n t) = (hd_ck (tb_P none) G cts hd c n q.1 q.2 && hd_all (tb_P none) G cts hd c n t)
    rw [hd_ck_scr X, hd_all_scr n t]
theorem ck_scr (hds : List (Nat × HA)) (n : Nat) : cn_ck (tb_P X) G cts hds c n = cn_ck (tb_P none) G cts hds c n := by
  unfold cn_ck
  rw [xw_scr X, hd_all_scr X]
end XSC
