/-! WHAT EACH METHOD COMES TO (gw.py) -/
/-- 318: java/lang/Long.bitCount(J)I -/
def V_Lng_bitCount (p0 : Int64) (M : MM) : Int32 :=
  ((Int64.toInt32 ((((((((p0 - ((lu p0 1) &&& (Int64.ofNat 6148914691236517205))) &&& (Int64.ofNat 3689348814741910323)) + ((lu (p0 - ((lu p0 1) &&& (Int64.ofNat 6148914691236517205))) 2) &&& (Int64.ofNat 3689348814741910323))) + (lu (((p0 - ((lu p0 1) &&& (Int64.ofNat 6148914691236517205))) &&& (Int64.ofNat 3689348814741910323)) + ((lu (p0 - ((lu p0 1) &&& (Int64.ofNat 6148914691236517205))) 2) &&& (Int64.ofNat 3689348814741910323))) 4)) &&& (Int64.ofNat 1085102592571150095)) + (lu (((((p0 - ((lu p0 1) &&& (Int64.ofNat 6148914691236517205))) &&& (Int64.ofNat 3689348814741910323)) + ((lu (p0 - ((lu p0 1) &&& (Int64.ofNat 6148914691236517205))) 2) &&& (Int64.ofNat 3689348814741910323))) + (lu (((p0 - ((lu p0 1) &&& (Int64.ofNat 6148914691236517205))) &&& (Int64.ofNat 3689348814741910323)) + ((lu (p0 - ((lu p0 1) &&& (Int64.ofNat 6148914691236517205))) 2) &&& (Int64.ofNat 3689348814741910323))) 4)) &&& (Int64.ofNat 1085102592571150095)) 8)) + (lu ((((((p0 - ((lu p0 1) &&& (Int64.ofNat 6148914691236517205))) &&& (Int64.ofNat 3689348814741910323)) + ((lu (p0 - ((lu p0 1) &&& (Int64.ofNat 6148914691236517205))) 2) &&& (Int64.ofNat 3689348814741910323))) + (lu (((p0 - ((lu p0 1) &&& (Int64.ofNat 6148914691236517205))) &&& (Int64.ofNat 3689348814741910323)) + ((lu (p0 - ((lu p0 1) &&& (Int64.ofNat 6148914691236517205))) 2) &&& (Int64.ofNat 3689348814741910323))) 4)) &&& (Int64.ofNat 1085102592571150095)) + (lu (((((p0 - ((lu p0 1) &&& (Int64.ofNat 6148914691236517205))) &&& (Int64.ofNat 3689348814741910323)) + ((lu (p0 - ((lu p0 1) &&& (Int64.ofNat 6148914691236517205))) 2) &&& (Int64.ofNat 3689348814741910323))) + (lu (((p0 - ((lu p0 1) &&& (Int64.ofNat 6148914691236517205))) &&& (Int64.ofNat 3689348814741910323)) + ((lu (p0 - ((lu p0 1) &&& (Int64.ofNat 6148914691236517205))) 2) &&& (Int64.ofNat 3689348814741910323))) 4)) &&& (Int64.ofNat 1085102592571150095)) 8)) 16)) + (lu (((((((p0 - ((lu p0 1) &&& (Int64.ofNat 6148914691236517205))) &&& (Int64.ofNat 3689348814741910323)) + ((lu (p0 - ((lu p0 1) &&& (Int64.ofNat 6148914691236517205))) 2) &&& (Int64.ofNat 3689348814741910323))) + (lu (((p0 - ((lu p0 1) &&& (Int64.ofNat 6148914691236517205))) &&& (Int64.ofNat 3689348814741910323)) + ((lu (p0 - ((lu p0 1) &&& (Int64.ofNat 6148914691236517205))) 2) &&& (Int64.ofNat 3689348814741910323))) 4)) &&& (Int64.ofNat 1085102592571150095)) + (lu (((((p0 - ((lu p0 1) &&& (Int64.ofNat 6148914691236517205))) &&& (Int64.ofNat 3689348814741910323)) + ((lu (p0 - ((lu p0 1) &&& (Int64.ofNat 6148914691236517205))) 2) &&& (Int64.ofNat 3689348814741910323))) + (lu (((p0 - ((lu p0 1) &&& (Int64.ofNat 6148914691236517205))) &&& (Int64.ofNat 3689348814741910323)) + ((lu (p0 - ((lu p0 1) &&& (Int64.ofNat 6148914691236517205))) 2) &&& (Int64.ofNat 3689348814741910323))) 4)) &&& (Int64.ofNat 1085102592571150095)) 8)) + (lu ((((((p0 - ((lu p0 1) &&& (Int64.ofNat 6148914691236517205))) &&& (Int64.ofNat 3689348814741910323)) + ((lu (p0 - ((lu p0 1) &&& (Int64.ofNat 6148914691236517205))) 2) &&& (Int64.ofNat 3689348814741910323))) + (lu (((p0 - ((lu p0 1) &&& (Int64.ofNat 6148914691236517205))) &&& (Int64.ofNat 3689348814741910323)) + ((lu (p0 - ((lu p0 1) &&& (Int64.ofNat 6148914691236517205))) 2) &&& (Int64.ofNat 3689348814741910323))) 4)) &&& (Int64.ofNat 1085102592571150095)) + (lu (((((p0 - ((lu p0 1) &&& (Int64.ofNat 6148914691236517205))) &&& (Int64.ofNat 3689348814741910323)) + ((lu (p0 - ((lu p0 1) &&& (Int64.ofNat 6148914691236517205))) 2) &&& (Int64.ofNat 3689348814741910323))) + (lu (((p0 - ((lu p0 1) &&& (Int64.ofNat 6148914691236517205))) &&& (Int64.ofNat 3689348814741910323)) + ((lu (p0 - ((lu p0 1) &&& (Int64.ofNat 6148914691236517205))) 2) &&& (Int64.ofNat 3689348814741910323))) 4)) &&& (Int64.ofNat 1085102592571150095)) 8)) 16)) 32))) &&& 127)
theorem q_Lng_bitCount {X : Option (List AI)} {N : Nat} {M : MM} {p0 : Int64}  : pM X N 318 0 (ea_ar 0 [.inr (.inr (.inl (some p0)))]) [] M (Vi (V_Lng_bitCount p0 M) M) := by
  refine pM_w (F2 := [(0, .inr (.inr (.inl (some p0))))]) (fun L hL => lo_cons (lo_lk hL rfl) lo_nil) ?_
  refine pM_lln rfl rfl ?_
  refine pM_lln rfl rfl ?_
  refine pM_ic rfl ki_1 ?_
  refine pM_p (pc' := 4) (S' := [.inr (.inr (.inl (some (lu p0 1)))), .inr (.inr (.inl (some p0)))]) rfl rfl (fun _ => rfl) ?_
  refine pM_ldl rfl rfl ?_
  refine pM_p (pc' := 8) (S' := [.inr (.inr (.inl (some ((lu p0 1) &&& (Int64.ofNat 6148914691236517205))))), .inr (.inr (.inl (some p0)))]) rfl rfl (fun _ => rfl) ?_
  refine pM_p (pc' := 9) (S' := [.inr (.inr (.inl (some (p0 - ((lu p0 1) &&& (Int64.ofNat 6148914691236517205))))))]) rfl rfl (fun _ => rfl) ?_
  refine pM_lsn rfl rfl ?_
  refine pM_lln rfl rfl ?_
  refine pM_ldl rfl rfl ?_
  refine pM_p (pc' := 15) (S' := [.inr (.inr (.inl (some ((p0 - ((lu p0 1) &&& (Int64.ofNat 6148914691236517205))) &&& (Int64.ofNat 3689348814741910323)))))]) rfl rfl (fun _ => rfl) ?_
  refine pM_lln rfl rfl ?_
  refine pM_ic rfl ki_2 ?_
  refine pM_p (pc' := 18) (S' := [.inr (.inr (.inl (some (lu (p0 - ((lu p0 1) &&& (Int64.ofNat 6148914691236517205))) 2)))), .inr (.inr (.inl (some ((p0 - ((lu p0 1) &&& (Int64.ofNat 6148914691236517205))) &&& (Int64.ofNat 3689348814741910323)))))]) rfl rfl (fun _ => rfl) ?_
  refine pM_ldl rfl rfl ?_
  refine pM_p (pc' := 22) (S' := [.inr (.inr (.inl (some ((lu (p0 - ((lu p0 1) &&& (Int64.ofNat 6148914691236517205))) 2) &&& (Int64.ofNat 3689348814741910323))))), .inr (.inr (.inl (some ((p0 - ((lu p0 1) &&& (Int64.ofNat 6148914691236517205))) &&& (Int64.ofNat 3689348814741910323)))))]) rfl rfl (fun _ => rfl) ?_
  refine pM_p (pc' := 23) (S' := [.inr (.inr (.inl (some (((p0 - ((lu p0 1) &&& (Int64.ofNat 6148914691236517205))) &&& (Int64.ofNat 3689348814741910323)) + ((lu (p0 - ((lu p0 1) &&& (Int64.ofNat 6148914691236517205))) 2) &&& (Int64.ofNat 3689348814741910323))))))]) rfl rfl (fun _ => rfl) ?_
  refine pM_lsn rfl rfl ?_
  refine pM_lln rfl rfl ?_
  refine pM_lln rfl rfl ?_
  refine pM_ic rfl ki_4 ?_
  refine pM_p (pc' := 28) (S' := [.inr (.inr (.inl (some (lu (((p0 - ((lu p0 1) &&& (Int64.ofNat 6148914691236517205))) &&& (Int64.ofNat 3689348814741910323)) + ((lu (p0 - ((lu p0 1) &&& (Int64.ofNat 6148914691236517205))) 2) &&& (Int64.ofNat 3689348814741910323))) 4)))), .inr (.inr (.inl (some (((p0 - ((lu p0 1) &&& (Int64.ofNat 6148914691236517205))) &&& (Int64.ofNat 3689348814741910323)) + ((lu (p0 - ((lu p0 1) &&& (Int64.ofNat 6148914691236517205))) 2) &&& (Int64.ofNat 3689348814741910323))))))]) rfl rfl (fun _ => rfl) ?_
  refine pM_p (pc' := 29) (S' := [.inr (.inr (.inl (some ((((p0 - ((lu p0 1) &&& (Int64.ofNat 6148914691236517205))) &&& (Int64.ofNat 3689348814741910323)) + ((lu (p0 - ((lu p0 1) &&& (Int64.ofNat 6148914691236517205))) 2) &&& (Int64.ofNat 3689348814741910323))) + (lu (((p0 - ((lu p0 1) &&& (Int64.ofNat 6148914691236517205))) &&& (Int64.ofNat 3689348814741910323)) + ((lu (p0 - ((lu p0 1) &&& (Int64.ofNat 6148914691236517205))) 2) &&& (Int64.ofNat 3689348814741910323))) 4)))))]) rfl rfl (fun _ => rfl) ?_
  refine pM_ldl rfl rfl ?_
  refine pM_p (pc' := 33) (S' := [.inr (.inr (.inl (some (((((p0 - ((lu p0 1) &&& (Int64.ofNat 6148914691236517205))) &&& (Int64.ofNat 3689348814741910323)) + ((lu (p0 - ((lu p0 1) &&& (Int64.ofNat 6148914691236517205))) 2) &&& (Int64.ofNat 3689348814741910323))) + (lu (((p0 - ((lu p0 1) &&& (Int64.ofNat 6148914691236517205))) &&& (Int64.ofNat 3689348814741910323)) + ((lu (p0 - ((lu p0 1) &&& (Int64.ofNat 6148914691236517205))) 2) &&& (Int64.ofNat 3689348814741910323))) 4)) &&& (Int64.ofNat 1085102592571150095)))))]) rfl rfl (fun _ => rfl) ?_
  refine pM_lsn rfl rfl ?_
  refine pM_lln rfl rfl ?_
  refine pM_lln rfl rfl ?_
  refine pM_bi rfl kb_8 ?_
  refine pM_p (pc' := 39) (S' := [.inr (.inr (.inl (some (lu (((((p0 - ((lu p0 1) &&& (Int64.ofNat 6148914691236517205))) &&& (Int64.ofNat 3689348814741910323)) + ((lu (p0 - ((lu p0 1) &&& (Int64.ofNat 6148914691236517205))) 2) &&& (Int64.ofNat 3689348814741910323))) + (lu (((p0 - ((lu p0 1) &&& (Int64.ofNat 6148914691236517205))) &&& (Int64.ofNat 3689348814741910323)) + ((lu (p0 - ((lu p0 1) &&& (Int64.ofNat 6148914691236517205))) 2) &&& (Int64.ofNat 3689348814741910323))) 4)) &&& (Int64.ofNat 1085102592571150095)) 8)))), .inr (.inr (.inl (some (((((p0 - ((lu p0 1) &&& (Int64.ofNat 6148914691236517205))) &&& (Int64.ofNat 3689348814741910323)) + ((lu (p0 - ((lu p0 1) &&& (Int64.ofNat 6148914691236517205))) 2) &&& (Int64.ofNat 3689348814741910323))) + (lu (((p0 - ((lu p0 1) &&& (Int64.ofNat 6148914691236517205))) &&& (Int64.ofNat 3689348814741910323)) + ((lu (p0 - ((lu p0 1) &&& (Int64.ofNat 6148914691236517205))) 2) &&& (Int64.ofNat 3689348814741910323))) 4)) &&& (Int64.ofNat 1085102592571150095)))))]) rfl rfl (fun _ => rfl) ?_
  refine pM_p (pc' := 40) (S' := [.inr (.inr (.inl (some ((((((p0 - ((lu p0 1) &&& (Int64.ofNat 6148914691236517205))) &&& (Int64.ofNat 3689348814741910323)) + ((lu (p0 - ((lu p0 1) &&& (Int64.ofNat 6148914691236517205))) 2) &&& (Int64.ofNat 3689348814741910323))) + (lu (((p0 - ((lu p0 1) &&& (Int64.ofNat 6148914691236517205))) &&& (Int64.ofNat 3689348814741910323)) + ((lu (p0 - ((lu p0 1) &&& (Int64.ofNat 6148914691236517205))) 2) &&& (Int64.ofNat 3689348814741910323))) 4)) &&& (Int64.ofNat 1085102592571150095)) + (lu (((((p0 - ((lu p0 1) &&& (Int64.ofNat 6148914691236517205))) &&& (Int64.ofNat 3689348814741910323)) + ((lu (p0 - ((lu p0 1) &&& (Int64.ofNat 6148914691236517205))) 2) &&& (Int64.ofNat 3689348814741910323))) + (lu (((p0 - ((lu p0 1) &&& (Int64.ofNat 6148914691236517205))) &&& (Int64.ofNat 3689348814741910323)) + ((lu (p0 - ((lu p0 1) &&& (Int64.ofNat 6148914691236517205))) 2) &&& (Int64.ofNat 3689348814741910323))) 4)) &&& (Int64.ofNat 1085102592571150095)) 8)))))]) rfl rfl (fun _ => rfl) ?_
  refine pM_lsn rfl rfl ?_
  refine pM_lln rfl rfl ?_
  refine pM_lln rfl rfl ?_
  refine pM_bi rfl kb_16 ?_
  refine pM_p (pc' := 46) (S' := [.inr (.inr (.inl (some (lu ((((((p0 - ((lu p0 1) &&& (Int64.ofNat 6148914691236517205))) &&& (Int64.ofNat 3689348814741910323)) + ((lu (p0 - ((lu p0 1) &&& (Int64.ofNat 6148914691236517205))) 2) &&& (Int64.ofNat 3689348814741910323))) + (lu (((p0 - ((lu p0 1) &&& (Int64.ofNat 6148914691236517205))) &&& (Int64.ofNat 3689348814741910323)) + ((lu (p0 - ((lu p0 1) &&& (Int64.ofNat 6148914691236517205))) 2) &&& (Int64.ofNat 3689348814741910323))) 4)) &&& (Int64.ofNat 1085102592571150095)) + (lu (((((p0 - ((lu p0 1) &&& (Int64.ofNat 6148914691236517205))) &&& (Int64.ofNat 3689348814741910323)) + ((lu (p0 - ((lu p0 1) &&& (Int64.ofNat 6148914691236517205))) 2) &&& (Int64.ofNat 3689348814741910323))) + (lu (((p0 - ((lu p0 1) &&& (Int64.ofNat 6148914691236517205))) &&& (Int64.ofNat 3689348814741910323)) + ((lu (p0 - ((lu p0 1) &&& (Int64.ofNat 6148914691236517205))) 2) &&& (Int64.ofNat 3689348814741910323))) 4)) &&& (Int64.ofNat 1085102592571150095)) 8)) 16)))), .inr (.inr (.inl (some ((((((p0 - ((lu p0 1) &&& (Int64.ofNat 6148914691236517205))) &&& (Int64.ofNat 3689348814741910323)) + ((lu (p0 - ((lu p0 1) &&& (Int64.ofNat 6148914691236517205))) 2) &&& (Int64.ofNat 3689348814741910323))) + (lu (((p0 - ((lu p0 1) &&& (Int64.ofNat 6148914691236517205))) &&& (Int64.ofNat 3689348814741910323)) + ((lu (p0 - ((lu p0 1) &&& (Int64.ofNat 6148914691236517205))) 2) &&& (Int64.ofNat 3689348814741910323))) 4)) &&& (Int64.ofNat 1085102592571150095)) + (lu (((((p0 - ((lu p0 1) &&& (Int64.ofNat 6148914691236517205))) &&& (Int64.ofNat 3689348814741910323)) + ((lu (p0 - ((lu p0 1) &&& (Int64.ofNat 6148914691236517205))) 2) &&& (Int64.ofNat 3689348814741910323))) + (lu (((p0 - ((lu p0 1) &&& (Int64.ofNat 6148914691236517205))) &&& (Int64.ofNat 3689348814741910323)) + ((lu (p0 - ((lu p0 1) &&& (Int64.ofNat 6148914691236517205))) 2) &&& (Int64.ofNat 3689348814741910323))) 4)) &&& (Int64.ofNat 1085102592571150095)) 8)))))]) rfl rfl (fun _ => rfl) ?_
  refine pM_p (pc' := 47) (S' := [.inr (.inr (.inl (some (((((((p0 - ((lu p0 1) &&& (Int64.ofNat 6148914691236517205))) &&& (Int64.ofNat 3689348814741910323)) + ((lu (p0 - ((lu p0 1) &&& (Int64.ofNat 6148914691236517205))) 2) &&& (Int64.ofNat 3689348814741910323))) + (lu (((p0 - ((lu p0 1) &&& (Int64.ofNat 6148914691236517205))) &&& (Int64.ofNat 3689348814741910323)) + ((lu (p0 - ((lu p0 1) &&& (Int64.ofNat 6148914691236517205))) 2) &&& (Int64.ofNat 3689348814741910323))) 4)) &&& (Int64.ofNat 1085102592571150095)) + (lu (((((p0 - ((lu p0 1) &&& (Int64.ofNat 6148914691236517205))) &&& (Int64.ofNat 3689348814741910323)) + ((lu (p0 - ((lu p0 1) &&& (Int64.ofNat 6148914691236517205))) 2) &&& (Int64.ofNat 3689348814741910323))) + (lu (((p0 - ((lu p0 1) &&& (Int64.ofNat 6148914691236517205))) &&& (Int64.ofNat 3689348814741910323)) + ((lu (p0 - ((lu p0 1) &&& (Int64.ofNat 6148914691236517205))) 2) &&& (Int64.ofNat 3689348814741910323))) 4)) &&& (Int64.ofNat 1085102592571150095)) 8)) + (lu ((((((p0 - ((lu p0 1) &&& (Int64.ofNat 6148914691236517205))) &&& (Int64.ofNat 3689348814741910323)) + ((lu (p0 - ((lu p0 1) &&& (Int64.ofNat 6148914691236517205))) 2) &&& (Int64.ofNat 3689348814741910323))) + (lu (((p0 - ((lu p0 1) &&& (Int64.ofNat 6148914691236517205))) &&& (Int64.ofNat 3689348814741910323)) + ((lu (p0 - ((lu p0 1) &&& (Int64.ofNat 6148914691236517205))) 2) &&& (Int64.ofNat 3689348814741910323))) 4)) &&& (Int64.ofNat 1085102592571150095)) + (lu (((((p0 - ((lu p0 1) &&& (Int64.ofNat 6148914691236517205))) &&& (Int64.ofNat 3689348814741910323)) + ((lu (p0 - ((lu p0 1) &&& (Int64.ofNat 6148914691236517205))) 2) &&& (Int64.ofNat 3689348814741910323))) + (lu (((p0 - ((lu p0 1) &&& (Int64.ofNat 6148914691236517205))) &&& (Int64.ofNat 3689348814741910323)) + ((lu (p0 - ((lu p0 1) &&& (Int64.ofNat 6148914691236517205))) 2) &&& (Int64.ofNat 3689348814741910323))) 4)) &&& (Int64.ofNat 1085102592571150095)) 8)) 16)))))]) rfl rfl (fun _ => rfl) ?_
  refine pM_lsn rfl rfl ?_
  refine pM_lln rfl rfl ?_
  refine pM_lln rfl rfl ?_
  refine pM_bi rfl kb_32 ?_
  refine pM_p (pc' := 53) (S' := [.inr (.inr (.inl (some (lu (((((((p0 - ((lu p0 1) &&& (Int64.ofNat 6148914691236517205))) &&& (Int64.ofNat 3689348814741910323)) + ((lu (p0 - ((lu p0 1) &&& (Int64.ofNat 6148914691236517205))) 2) &&& (Int64.ofNat 3689348814741910323))) + (lu (((p0 - ((lu p0 1) &&& (Int64.ofNat 6148914691236517205))) &&& (Int64.ofNat 3689348814741910323)) + ((lu (p0 - ((lu p0 1) &&& (Int64.ofNat 6148914691236517205))) 2) &&& (Int64.ofNat 3689348814741910323))) 4)) &&& (Int64.ofNat 1085102592571150095)) + (lu (((((p0 - ((lu p0 1) &&& (Int64.ofNat 6148914691236517205))) &&& (Int64.ofNat 3689348814741910323)) + ((lu (p0 - ((lu p0 1) &&& (Int64.ofNat 6148914691236517205))) 2) &&& (Int64.ofNat 3689348814741910323))) + (lu (((p0 - ((lu p0 1) &&& (Int64.ofNat 6148914691236517205))) &&& (Int64.ofNat 3689348814741910323)) + ((lu (p0 - ((lu p0 1) &&& (Int64.ofNat 6148914691236517205))) 2) &&& (Int64.ofNat 3689348814741910323))) 4)) &&& (Int64.ofNat 1085102592571150095)) 8)) + (lu ((((((p0 - ((lu p0 1) &&& (Int64.ofNat 6148914691236517205))) &&& (Int64.ofNat 3689348814741910323)) + ((lu (p0 - ((lu p0 1) &&& (Int64.ofNat 6148914691236517205))) 2) &&& (Int64.ofNat 3689348814741910323))) + (lu (((p0 - ((lu p0 1) &&& (Int64.ofNat 6148914691236517205))) &&& (Int64.ofNat 3689348814741910323)) + ((lu (p0 - ((lu p0 1) &&& (Int64.ofNat 6148914691236517205))) 2) &&& (Int64.ofNat 3689348814741910323))) 4)) &&& (Int64.ofNat 1085102592571150095)) + (lu (((((p0 - ((lu p0 1) &&& (Int64.ofNat 6148914691236517205))) &&& (Int64.ofNat 3689348814741910323)) + ((lu (p0 - ((lu p0 1) &&& (Int64.ofNat 6148914691236517205))) 2) &&& (Int64.ofNat 3689348814741910323))) + (lu (((p0 - ((lu p0 1) &&& (Int64.ofNat 6148914691236517205))) &&& (Int64.ofNat 3689348814741910323)) + ((lu (p0 - ((lu p0 1) &&& (Int64.ofNat 6148914691236517205))) 2) &&& (Int64.ofNat 3689348814741910323))) 4)) &&& (Int64.ofNat 1085102592571150095)) 8)) 16)) 32)))), .inr (.inr (.inl (some (((((((p0 - ((lu p0 1) &&& (Int64.ofNat 6148914691236517205))) &&& (Int64.ofNat 3689348814741910323)) + ((lu (p0 - ((lu p0 1) &&& (Int64.ofNat 6148914691236517205))) 2) &&& (Int64.ofNat 3689348814741910323))) + (lu (((p0 - ((lu p0 1) &&& (Int64.ofNat 6148914691236517205))) &&& (Int64.ofNat 3689348814741910323)) + ((lu (p0 - ((lu p0 1) &&& (Int64.ofNat 6148914691236517205))) 2) &&& (Int64.ofNat 3689348814741910323))) 4)) &&& (Int64.ofNat 1085102592571150095)) + (lu (((((p0 - ((lu p0 1) &&& (Int64.ofNat 6148914691236517205))) &&& (Int64.ofNat 3689348814741910323)) + ((lu (p0 - ((lu p0 1) &&& (Int64.ofNat 6148914691236517205))) 2) &&& (Int64.ofNat 3689348814741910323))) + (lu (((p0 - ((lu p0 1) &&& (Int64.ofNat 6148914691236517205))) &&& (Int64.ofNat 3689348814741910323)) + ((lu (p0 - ((lu p0 1) &&& (Int64.ofNat 6148914691236517205))) 2) &&& (Int64.ofNat 3689348814741910323))) 4)) &&& (Int64.ofNat 1085102592571150095)) 8)) + (lu ((((((p0 - ((lu p0 1) &&& (Int64.ofNat 6148914691236517205))) &&& (Int64.ofNat 3689348814741910323)) + ((lu (p0 - ((lu p0 1) &&& (Int64.ofNat 6148914691236517205))) 2) &&& (Int64.ofNat 3689348814741910323))) + (lu (((p0 - ((lu p0 1) &&& (Int64.ofNat 6148914691236517205))) &&& (Int64.ofNat 3689348814741910323)) + ((lu (p0 - ((lu p0 1) &&& (Int64.ofNat 6148914691236517205))) 2) &&& (Int64.ofNat 3689348814741910323))) 4)) &&& (Int64.ofNat 1085102592571150095)) + (lu (((((p0 - ((lu p0 1) &&& (Int64.ofNat 6148914691236517205))) &&& (Int64.ofNat 3689348814741910323)) + ((lu (p0 - ((lu p0 1) &&& (Int64.ofNat 6148914691236517205))) 2) &&& (Int64.ofNat 3689348814741910323))) + (lu (((p0 - ((lu p0 1) &&& (Int64.ofNat 6148914691236517205))) &&& (Int64.ofNat 3689348814741910323)) + ((lu (p0 - ((lu p0 1) &&& (Int64.ofNat 6148914691236517205))) 2) &&& (Int64.ofNat 3689348814741910323))) 4)) &&& (Int64.ofNat 1085102592571150095)) 8)) 16)))))]) rfl rfl (fun _ => rfl) ?_
  refine pM_p (pc' := 54) (S' := [.inr (.inr (.inl (some ((((((((p0 - ((lu p0 1) &&& (Int64.ofNat 6148914691236517205))) &&& (Int64.ofNat 3689348814741910323)) + ((lu (p0 - ((lu p0 1) &&& (Int64.ofNat 6148914691236517205))) 2) &&& (Int64.ofNat 3689348814741910323))) + (lu (((p0 - ((lu p0 1) &&& (Int64.ofNat 6148914691236517205))) &&& (Int64.ofNat 3689348814741910323)) + ((lu (p0 - ((lu p0 1) &&& (Int64.ofNat 6148914691236517205))) 2) &&& (Int64.ofNat 3689348814741910323))) 4)) &&& (Int64.ofNat 1085102592571150095)) + (lu (((((p0 - ((lu p0 1) &&& (Int64.ofNat 6148914691236517205))) &&& (Int64.ofNat 3689348814741910323)) + ((lu (p0 - ((lu p0 1) &&& (Int64.ofNat 6148914691236517205))) 2) &&& (Int64.ofNat 3689348814741910323))) + (lu (((p0 - ((lu p0 1) &&& (Int64.ofNat 6148914691236517205))) &&& (Int64.ofNat 3689348814741910323)) + ((lu (p0 - ((lu p0 1) &&& (Int64.ofNat 6148914691236517205))) 2) &&& (Int64.ofNat 3689348814741910323))) 4)) &&& (Int64.ofNat 1085102592571150095)) 8)) + (lu ((((((p0 - ((lu p0 1) &&& (Int64.ofNat 6148914691236517205))) &&& (Int64.ofNat 3689348814741910323)) + ((lu (p0 - ((lu p0 1) &&& (Int64.ofNat 6148914691236517205))) 2) &&& (Int64.ofNat 3689348814741910323))) + (lu (((p0 - ((lu p0 1) &&& (Int64.ofNat 6148914691236517205))) &&& (Int64.ofNat 3689348814741910323)) + ((lu (p0 - ((lu p0 1) &&& (Int64.ofNat 6148914691236517205))) 2) &&& (Int64.ofNat 3689348814741910323))) 4)) &&& (Int64.ofNat 1085102592571150095)) + (lu (((((p0 - ((lu p0 1) &&& (Int64.ofNat 6148914691236517205))) &&& (Int64.ofNat 3689348814741910323)) + ((lu (p0 - ((lu p0 1) &&& (Int64.ofNat 6148914691236517205))) 2) &&& (Int64.ofNat 3689348814741910323))) + (lu (((p0 - ((lu p0 1) &&& (Int64.ofNat 6148914691236517205))) &&& (Int64.ofNat 3689348814741910323)) + ((lu (p0 - ((lu p0 1) &&& (Int64.ofNat 6148914691236517205))) 2) &&& (Int64.ofNat 3689348814741910323))) 4)) &&& (Int64.ofNat 1085102592571150095)) 8)) 16)) + (lu (((((((p0 - ((lu p0 1) &&& (Int64.ofNat 6148914691236517205))) &&& (Int64.ofNat 3689348814741910323)) + ((lu (p0 - ((lu p0 1) &&& (Int64.ofNat 6148914691236517205))) 2) &&& (Int64.ofNat 3689348814741910323))) + (lu (((p0 - ((lu p0 1) &&& (Int64.ofNat 6148914691236517205))) &&& (Int64.ofNat 3689348814741910323)) + ((lu (p0 - ((lu p0 1) &&& (Int64.ofNat 6148914691236517205))) 2) &&& (Int64.ofNat 3689348814741910323))) 4)) &&& (Int64.ofNat 1085102592571150095)) + (lu (((((p0 - ((lu p0 1) &&& (Int64.ofNat 6148914691236517205))) &&& (Int64.ofNat 3689348814741910323)) + ((lu (p0 - ((lu p0 1) &&& (Int64.ofNat 6148914691236517205))) 2) &&& (Int64.ofNat 3689348814741910323))) + (lu (((p0 - ((lu p0 1) &&& (Int64.ofNat 6148914691236517205))) &&& (Int64.ofNat 3689348814741910323)) + ((lu (p0 - ((lu p0 1) &&& (Int64.ofNat 6148914691236517205))) 2) &&& (Int64.ofNat 3689348814741910323))) 4)) &&& (Int64.ofNat 1085102592571150095)) 8)) + (lu ((((((p0 - ((lu p0 1) &&& (Int64.ofNat 6148914691236517205))) &&& (Int64.ofNat 3689348814741910323)) + ((lu (p0 - ((lu p0 1) &&& (Int64.ofNat 6148914691236517205))) 2) &&& (Int64.ofNat 3689348814741910323))) + (lu (((p0 - ((lu p0 1) &&& (Int64.ofNat 6148914691236517205))) &&& (Int64.ofNat 3689348814741910323)) + ((lu (p0 - ((lu p0 1) &&& (Int64.ofNat 6148914691236517205))) 2) &&& (Int64.ofNat 3689348814741910323))) 4)) &&& (Int64.ofNat 1085102592571150095)) + (lu (((((p0 - ((lu p0 1) &&& (Int64.ofNat 6148914691236517205))) &&& (Int64.ofNat 3689348814741910323)) + ((lu (p0 - ((lu p0 1) &&& (Int64.ofNat 6148914691236517205))) 2) &&& (Int64.ofNat 3689348814741910323))) + (lu (((p0 - ((lu p0 1) &&& (Int64.ofNat 6148914691236517205))) &&& (Int64.ofNat 3689348814741910323)) + ((lu (p0 - ((lu p0 1) &&& (Int64.ofNat 6148914691236517205))) 2) &&& (Int64.ofNat 3689348814741910323))) 4)) &&& (Int64.ofNat 1085102592571150095)) 8)) 16)) 32)))))]) rfl rfl (fun _ => rfl) ?_
  refine pM_lsn rfl rfl ?_
  refine pM_lln rfl rfl ?_
  refine pM_p (pc' := 57) (S' := [.inl (.inl (Int64.toInt32 ((((((((p0 - ((lu p0 1) &&& (Int64.ofNat 6148914691236517205))) &&& (Int64.ofNat 3689348814741910323)) + ((lu (p0 - ((lu p0 1) &&& (Int64.ofNat 6148914691236517205))) 2) &&& (Int64.ofNat 3689348814741910323))) + (lu (((p0 - ((lu p0 1) &&& (Int64.ofNat 6148914691236517205))) &&& (Int64.ofNat 3689348814741910323)) + ((lu (p0 - ((lu p0 1) &&& (Int64.ofNat 6148914691236517205))) 2) &&& (Int64.ofNat 3689348814741910323))) 4)) &&& (Int64.ofNat 1085102592571150095)) + (lu (((((p0 - ((lu p0 1) &&& (Int64.ofNat 6148914691236517205))) &&& (Int64.ofNat 3689348814741910323)) + ((lu (p0 - ((lu p0 1) &&& (Int64.ofNat 6148914691236517205))) 2) &&& (Int64.ofNat 3689348814741910323))) + (lu (((p0 - ((lu p0 1) &&& (Int64.ofNat 6148914691236517205))) &&& (Int64.ofNat 3689348814741910323)) + ((lu (p0 - ((lu p0 1) &&& (Int64.ofNat 6148914691236517205))) 2) &&& (Int64.ofNat 3689348814741910323))) 4)) &&& (Int64.ofNat 1085102592571150095)) 8)) + (lu ((((((p0 - ((lu p0 1) &&& (Int64.ofNat 6148914691236517205))) &&& (Int64.ofNat 3689348814741910323)) + ((lu (p0 - ((lu p0 1) &&& (Int64.ofNat 6148914691236517205))) 2) &&& (Int64.ofNat 3689348814741910323))) + (lu (((p0 - ((lu p0 1) &&& (Int64.ofNat 6148914691236517205))) &&& (Int64.ofNat 3689348814741910323)) + ((lu (p0 - ((lu p0 1) &&& (Int64.ofNat 6148914691236517205))) 2) &&& (Int64.ofNat 3689348814741910323))) 4)) &&& (Int64.ofNat 1085102592571150095)) + (lu (((((p0 - ((lu p0 1) &&& (Int64.ofNat 6148914691236517205))) &&& (Int64.ofNat 3689348814741910323)) + ((lu (p0 - ((lu p0 1) &&& (Int64.ofNat 6148914691236517205))) 2) &&& (Int64.ofNat 3689348814741910323))) + (lu (((p0 - ((lu p0 1) &&& (Int64.ofNat 6148914691236517205))) &&& (Int64.ofNat 3689348814741910323)) + ((lu (p0 - ((lu p0 1) &&& (Int64.ofNat 6148914691236517205))) 2) &&& (Int64.ofNat 3689348814741910323))) 4)) &&& (Int64.ofNat 1085102592571150095)) 8)) 16)) + (lu (((((((p0 - ((lu p0 1) &&& (Int64.ofNat 6148914691236517205))) &&& (Int64.ofNat 3689348814741910323)) + ((lu (p0 - ((lu p0 1) &&& (Int64.ofNat 6148914691236517205))) 2) &&& (Int64.ofNat 3689348814741910323))) + (lu (((p0 - ((lu p0 1) &&& (Int64.ofNat 6148914691236517205))) &&& (Int64.ofNat 3689348814741910323)) + ((lu (p0 - ((lu p0 1) &&& (Int64.ofNat 6148914691236517205))) 2) &&& (Int64.ofNat 3689348814741910323))) 4)) &&& (Int64.ofNat 1085102592571150095)) + (lu (((((p0 - ((lu p0 1) &&& (Int64.ofNat 6148914691236517205))) &&& (Int64.ofNat 3689348814741910323)) + ((lu (p0 - ((lu p0 1) &&& (Int64.ofNat 6148914691236517205))) 2) &&& (Int64.ofNat 3689348814741910323))) + (lu (((p0 - ((lu p0 1) &&& (Int64.ofNat 6148914691236517205))) &&& (Int64.ofNat 3689348814741910323)) + ((lu (p0 - ((lu p0 1) &&& (Int64.ofNat 6148914691236517205))) 2) &&& (Int64.ofNat 3689348814741910323))) 4)) &&& (Int64.ofNat 1085102592571150095)) 8)) + (lu ((((((p0 - ((lu p0 1) &&& (Int64.ofNat 6148914691236517205))) &&& (Int64.ofNat 3689348814741910323)) + ((lu (p0 - ((lu p0 1) &&& (Int64.ofNat 6148914691236517205))) 2) &&& (Int64.ofNat 3689348814741910323))) + (lu (((p0 - ((lu p0 1) &&& (Int64.ofNat 6148914691236517205))) &&& (Int64.ofNat 3689348814741910323)) + ((lu (p0 - ((lu p0 1) &&& (Int64.ofNat 6148914691236517205))) 2) &&& (Int64.ofNat 3689348814741910323))) 4)) &&& (Int64.ofNat 1085102592571150095)) + (lu (((((p0 - ((lu p0 1) &&& (Int64.ofNat 6148914691236517205))) &&& (Int64.ofNat 3689348814741910323)) + ((lu (p0 - ((lu p0 1) &&& (Int64.ofNat 6148914691236517205))) 2) &&& (Int64.ofNat 3689348814741910323))) + (lu (((p0 - ((lu p0 1) &&& (Int64.ofNat 6148914691236517205))) &&& (Int64.ofNat 3689348814741910323)) + ((lu (p0 - ((lu p0 1) &&& (Int64.ofNat 6148914691236517205))) 2) &&& (Int64.ofNat 3689348814741910323))) 4)) &&& (Int64.ofNat 1085102592571150095)) 8)) 16)) 32))))]) rfl rfl (fun _ => rfl) ?_
  refine pM_bi rfl kb_127 ?_
  refine pM_and rfl ?_
  exact pM_rVi rfl (rfl)
def B_World_seenInSum_4 (a : Nat) (M : MM) (Q : Int32 → Prop) (N : Nat) (ih : Int32 → Int32 → Prop) (v1 : Int32) (v2 : Int32) : Prop :=
  ((v2 < (M.1 a 0) →
    ih (v1 + (V_Lng_bitCount (M.2 (a + 8) (ni v2)) M)) (v2 + 1)) ∧
   (¬ v2 < (M.1 a 0) →
    Q v1))
def W_World_seenInSum_4 (a : Nat) (M : MM) (Q : Int32 → Prop) : Nat → Int32 → Int32 → Prop
  | 0, _, _ => True
  | N + 1, v1, v2 => B_World_seenInSum_4 a M Q N (W_World_seenInSum_4 a M Q N) v1 v2
theorem I_World_seenInSum_4 (a : Nat) (M : MM) (Q : Int32 → Prop) (inv : Int32 → Int32 → Prop) (hs : ∀ (N : Nat) (ih : Int32 → Int32 → Prop) (v1 : Int32) (v2 : Int32), (∀ (v1 : Int32) (v2 : Int32), inv v1 v2 → ih v1 v2) → inv v1 v2 → B_World_seenInSum_4 a M Q N ih v1 v2) : ∀ (N : Nat) (v1 : Int32) (v2 : Int32), inv v1 v2 → W_World_seenInSum_4 a M Q N v1 v2 := by
  intro N
  induction N with
  | zero => intros; trivial
  | succ N IH =>
    intro v1 v2 h
    exact hs N _ v1 v2 IH h
theorem q_World_seenInSum_4 {X : Option (List AI)} {N0 : Nat} {a : Nat} {M : MM} {Q : Int32 → Prop} (ha : isW a)  : ∀ (N : Nat), N ≤ N0 → ∀ (v1 : Int32) (v2 : Int32), W_World_seenInSum_4 a M Q N v1 v2 → pM X N 127 4 [(0, .inr (.inl (some a))), (1, .inl (.inl v1)), (2, .inl (.inl v2))] [] M (Pi Q M) := by
  intro N
  induction N with
  | zero => intros; exact pM_zero
  | succ N IH =>
    intro hN v1 v2 h
    replace hN := Nat.le_of_succ_le hN
    replace h : B_World_seenInSum_4 a M Q N (W_World_seenInSum_4 a M Q N) v1 v2 := h
    refine pM_s (pMs_iln rfl rfl ?_)
    refine pM_aln rfl rfl rfl ?_
    refine pM_gi rfl rfl ha.1 rfl ?_
    refine pM_cge rfl rfl (fun h1 => ?_) (fun h1 => ?_)
    · replace h := h.2 h1
      refine pM_iln rfl rfl ?_
      exact pM_ri rfl (⟨_, rfl, rfl, h⟩)
    · replace h := h.1 h1
      refine pM_iln rfl rfl ?_
      refine pM_aln rfl rfl rfl ?_
      refine pM_gr rfl rfl ha.1 rfl ?_
      refine pM_iln rfl rfl ?_
      refine pM_la rfl ha.2.2.2.2.2.2.2.2.1 ?_
      refine pM_qVi (as := [.inr (.inr (.inl (some (M.2 (a + 8) (ni v2)))))]) (T := [.inl (.inl v1)]) rfl rfl (fun _ _ => rfl) rfl (q_Lng_bitCount ) ?_
      refine pM_add rfl ?_
      refine pM_isn rfl rfl ?_
      refine pM_ii rfl rfl rfl ki_1 ?_
      refine pM_go rfl rfl ?_
      refine pM_w (F2 := [(0, .inr (.inl (some a))), (1, .inl (.inl (v1 + (V_Lng_bitCount (M.2 (a + 8) (ni v2)) M)))), (2, .inl (.inl (v2 + 1)))]) (fun L hL => lo_cons (lo_lk hL rfl) (lo_cons (lo_lk hL rfl) (lo_cons (lo_lk hL rfl) lo_nil))) ?_
      exact IH hN (v1 + (V_Lng_bitCount (M.2 (a + 8) (ni v2)) M)) (v2 + 1) h
/-- 127: EarCode$World.seenInSum()I -/
def W_World_seenInSum (a : Nat) (N : Nat) (M : MM) (Q : Int32 → Prop) : Prop :=
  W_World_seenInSum_4 a M Q N 0 0
theorem q_World_seenInSum {X : Option (List AI)} {N : Nat} {M : MM} {a : Nat} {Q : Int32 → Prop} (ha : isW a) (h : W_World_seenInSum a N M Q) : pM X N 127 0 (ea_ar 0 [.inr (.inl (some a))]) [] M (Pi Q M) := by
  refine pM_w (F2 := [(0, .inr (.inl (some a)))]) (fun L hL => lo_cons (lo_lk hL rfl) lo_nil) ?_
  refine pM_ic rfl ki_0 ?_
  refine pM_isn rfl rfl ?_
  refine pM_ic rfl ki_0 ?_
  refine pM_isn rfl rfl ?_
  refine pM_w (F2 := [(0, .inr (.inl (some a))), (1, .inl (.inl 0)), (2, .inl (.inl 0))]) (fun L hL => lo_cons (lo_lk hL rfl) (lo_cons (lo_lk hL rfl) (lo_cons (lo_lk hL rfl) lo_nil))) ?_
  refine q_World_seenInSum_4 ha  N (Nat.le_refl N) 0 0 h
def B_World_seenByAll_6 (a : Nat) (M : MM) (Q : Int64 → Prop) (N : Nat) (ih : Int64 → Int32 → Prop) (v1 : Int64) (v3 : Int32) : Prop :=
  ((v3 < (M.1 a 0) →
    (((V_World_isAlive a v3 M) = 0 →
      ih v1 (v3 + 1)) ∧
     (¬ (V_World_isAlive a v3 M) = 0 →
      ih (v1 &&& (M.2 (a + 8) (ni v3))) (v3 + 1)))) ∧
   (¬ v3 < (M.1 a 0) →
    Q v1))
def W_World_seenByAll_6 (a : Nat) (M : MM) (Q : Int64 → Prop) : Nat → Int64 → Int32 → Prop
  | 0, _, _ => True
  | N + 1, v1, v3 => B_World_seenByAll_6 a M Q N (W_World_seenByAll_6 a M Q N) v1 v3
theorem I_World_seenByAll_6 (a : Nat) (M : MM) (Q : Int64 → Prop) (inv : Int64 → Int32 → Prop) (hs : ∀ (N : Nat) (ih : Int64 → Int32 → Prop) (v1 : Int64) (v3 : Int32), (∀ (v1 : Int64) (v3 : Int32), inv v1 v3 → ih v1 v3) → inv v1 v3 → B_World_seenByAll_6 a M Q N ih v1 v3) : ∀ (N : Nat) (v1 : Int64) (v3 : Int32), inv v1 v3 → W_World_seenByAll_6 a M Q N v1 v3 := by
  intro N
  induction N with
  | zero => intros; trivial
  | succ N IH =>
    intro v1 v3 h
    exact hs N _ v1 v3 IH h
theorem q_World_seenByAll_6 {X : Option (List AI)} {N0 : Nat} {a : Nat} {M : MM} {Q : Int64 → Prop} (ha : isW a)  : ∀ (N : Nat), N ≤ N0 → ∀ (v1 : Int64) (v3 : Int32), W_World_seenByAll_6 a M Q N v1 v3 → pM X N 128 6 [(0, .inr (.inl (some a))), (1, .inr (.inr (.inl (some v1)))), (3, .inl (.inl v3))] [] M (Pl Q M) := by
  intro N
  induction N with
  | zero => intros; exact pM_zero
  | succ N IH =>
    intro hN v1 v3 h
    replace hN := Nat.le_of_succ_le hN
    replace h : B_World_seenByAll_6 a M Q N (W_World_seenByAll_6 a M Q N) v1 v3 := h
    refine pM_s (pMs_iln rfl rfl ?_)
    refine pM_aln rfl rfl rfl ?_
    refine pM_gi rfl rfl ha.1 rfl ?_
    refine pM_cge rfl rfl (fun h1 => ?_) (fun h1 => ?_)
    · replace h := h.2 h1
      refine pM_lln rfl rfl ?_
      exact pM_rl rfl (⟨_, rfl, rfl, h⟩)
    · replace h := h.1 h1
      refine pM_aln rfl rfl rfl ?_
      refine pM_iln rfl rfl ?_
      refine pM_qVi (as := [.inr (.inl (some a)), .inl (.inl v3)]) (T := []) rfl rfl (fun C hC => cl_v hC ha.1 rfl rfl rfl) rfl (q_World_isAlive ha) ?_
      refine pM_zeq rfl rfl (fun h2 => ?_) (fun h2 => ?_)
      · replace h := h.1 h2
        refine pM_ii rfl rfl rfl ki_1 ?_
        refine pM_go rfl rfl ?_
        refine pM_w (F2 := [(0, .inr (.inl (some a))), (1, .inr (.inr (.inl (some v1)))), (3, .inl (.inl (v3 + 1)))]) (fun L hL => lo_cons (lo_lk hL rfl) (lo_cons (lo_lk hL rfl) (lo_cons (lo_lk hL rfl) lo_nil))) ?_
        exact IH hN v1 (v3 + 1) h
      · replace h := h.2 h2
        refine pM_lln rfl rfl ?_
        refine pM_aln rfl rfl rfl ?_
        refine pM_gr rfl rfl ha.1 rfl ?_
        refine pM_iln rfl rfl ?_
        refine pM_la rfl ha.2.2.2.2.2.2.2.2.1 ?_
        refine pM_p (pc' := 30) (S' := [.inr (.inr (.inl (some (v1 &&& (M.2 (a + 8) (ni v3))))))]) rfl rfl (fun _ => rfl) ?_
        refine pM_lsn rfl rfl ?_
        refine pM_ii rfl rfl rfl ki_1 ?_
        refine pM_go rfl rfl ?_
        refine pM_w (F2 := [(0, .inr (.inl (some a))), (1, .inr (.inr (.inl (some (v1 &&& (M.2 (a + 8) (ni v3))))))), (3, .inl (.inl (v3 + 1)))]) (fun L hL => lo_cons (lo_lk hL rfl) (lo_cons (lo_lk hL rfl) (lo_cons (lo_lk hL rfl) lo_nil))) ?_
        exact IH hN (v1 &&& (M.2 (a + 8) (ni v3))) (v3 + 1) h
/-- 128: EarCode$World.seenByAll()J -/
def W_World_seenByAll (a : Nat) (N : Nat) (M : MM) (Q : Int64 → Prop) : Prop :=
  W_World_seenByAll_6 a M Q N (Int64.ofNat 18446744073709551615) 0
theorem q_World_seenByAll {X : Option (List AI)} {N : Nat} {M : MM} {a : Nat} {Q : Int64 → Prop} (ha : isW a) (h : W_World_seenByAll a N M Q) : pM X N 128 0 (ea_ar 0 [.inr (.inl (some a))]) [] M (Pl Q M) := by
  refine pM_w (F2 := [(0, .inr (.inl (some a)))]) (fun L hL => lo_cons (lo_lk hL rfl) lo_nil) ?_
  refine pM_ldl rfl rfl ?_
  refine pM_lsn rfl rfl ?_
  refine pM_ic rfl ki_0 ?_
  refine pM_isn rfl rfl ?_
  refine pM_w (F2 := [(0, .inr (.inl (some a))), (1, .inr (.inr (.inl (some (Int64.ofNat 18446744073709551615))))), (3, .inl (.inl 0))]) (fun L hL => lo_cons (lo_lk hL rfl) (lo_cons (lo_lk hL rfl) (lo_cons (lo_lk hL rfl) lo_nil))) ?_
  refine q_World_seenByAll_6 ha  N (Nat.le_refl N) (Int64.ofNat 18446744073709551615) 0 h
def B_World_seenByAny_4 (a : Nat) (M : MM) (Q : Int64 → Prop) (N : Nat) (ih : Int64 → Int32 → Prop) (v1 : Int64) (v3 : Int32) : Prop :=
  ((v3 < (M.1 a 0) →
    (((V_World_isAlive a v3 M) = 0 →
      ih v1 (v3 + 1)) ∧
     (¬ (V_World_isAlive a v3 M) = 0 →
      ih (v1 ||| (M.2 (a + 8) (ni v3))) (v3 + 1)))) ∧
   (¬ v3 < (M.1 a 0) →
    Q v1))
def W_World_seenByAny_4 (a : Nat) (M : MM) (Q : Int64 → Prop) : Nat → Int64 → Int32 → Prop
  | 0, _, _ => True
  | N + 1, v1, v3 => B_World_seenByAny_4 a M Q N (W_World_seenByAny_4 a M Q N) v1 v3
theorem I_World_seenByAny_4 (a : Nat) (M : MM) (Q : Int64 → Prop) (inv : Int64 → Int32 → Prop) (hs : ∀ (N : Nat) (ih : Int64 → Int32 → Prop) (v1 : Int64) (v3 : Int32), (∀ (v1 : Int64) (v3 : Int32), inv v1 v3 → ih v1 v3) → inv v1 v3 → B_World_seenByAny_4 a M Q N ih v1 v3) : ∀ (N : Nat) (v1 : Int64) (v3 : Int32), inv v1 v3 → W_World_seenByAny_4 a M Q N v1 v3 := by
  intro N
  induction N with
  | zero => intros; trivial
  | succ N IH =>
    intro v1 v3 h
    exact hs N _ v1 v3 IH h
theorem q_World_seenByAny_4 {X : Option (List AI)} {N0 : Nat} {a : Nat} {M : MM} {Q : Int64 → Prop} (ha : isW a)  : ∀ (N : Nat), N ≤ N0 → ∀ (v1 : Int64) (v3 : Int32), W_World_seenByAny_4 a M Q N v1 v3 → pM X N 129 4 [(0, .inr (.inl (some a))), (1, .inr (.inr (.inl (some v1)))), (3, .inl (.inl v3))] [] M (Pl Q M) := by
  intro N
  induction N with
  | zero => intros; exact pM_zero
  | succ N IH =>
    intro hN v1 v3 h
    replace hN := Nat.le_of_succ_le hN
    replace h : B_World_seenByAny_4 a M Q N (W_World_seenByAny_4 a M Q N) v1 v3 := h
    refine pM_s (pMs_iln rfl rfl ?_)
    refine pM_aln rfl rfl rfl ?_
    refine pM_gi rfl rfl ha.1 rfl ?_
    refine pM_cge rfl rfl (fun h1 => ?_) (fun h1 => ?_)
    · replace h := h.2 h1
      refine pM_lln rfl rfl ?_
      exact pM_rl rfl (⟨_, rfl, rfl, h⟩)
    · replace h := h.1 h1
      refine pM_aln rfl rfl rfl ?_
      refine pM_iln rfl rfl ?_
      refine pM_qVi (as := [.inr (.inl (some a)), .inl (.inl v3)]) (T := []) rfl rfl (fun C hC => cl_v hC ha.1 rfl rfl rfl) rfl (q_World_isAlive ha) ?_
      refine pM_zeq rfl rfl (fun h2 => ?_) (fun h2 => ?_)
      · replace h := h.1 h2
        refine pM_ii rfl rfl rfl ki_1 ?_
        refine pM_go rfl rfl ?_
        refine pM_w (F2 := [(0, .inr (.inl (some a))), (1, .inr (.inr (.inl (some v1)))), (3, .inl (.inl (v3 + 1)))]) (fun L hL => lo_cons (lo_lk hL rfl) (lo_cons (lo_lk hL rfl) (lo_cons (lo_lk hL rfl) lo_nil))) ?_
        exact IH hN v1 (v3 + 1) h
      · replace h := h.2 h2
        refine pM_lln rfl rfl ?_
        refine pM_aln rfl rfl rfl ?_
        refine pM_gr rfl rfl ha.1 rfl ?_
        refine pM_iln rfl rfl ?_
        refine pM_la rfl ha.2.2.2.2.2.2.2.2.1 ?_
        refine pM_p (pc' := 28) (S' := [.inr (.inr (.inl (some (v1 ||| (M.2 (a + 8) (ni v3))))))]) rfl rfl (fun _ => rfl) ?_
        refine pM_lsn rfl rfl ?_
        refine pM_ii rfl rfl rfl ki_1 ?_
        refine pM_go rfl rfl ?_
        refine pM_w (F2 := [(0, .inr (.inl (some a))), (1, .inr (.inr (.inl (some (v1 ||| (M.2 (a + 8) (ni v3))))))), (3, .inl (.inl (v3 + 1)))]) (fun L hL => lo_cons (lo_lk hL rfl) (lo_cons (lo_lk hL rfl) (lo_cons (lo_lk hL rfl) lo_nil))) ?_
        exact IH hN (v1 ||| (M.2 (a + 8) (ni v3))) (v3 + 1) h
/-- 129: EarCode$World.seenByAny()J -/
def W_World_seenByAny (a : Nat) (N : Nat) (M : MM) (Q : Int64 → Prop) : Prop :=
  W_World_seenByAny_4 a M Q N (Int64.ofNat 0) 0
theorem q_World_seenByAny {X : Option (List AI)} {N : Nat} {M : MM} {a : Nat} {Q : Int64 → Prop} (ha : isW a) (h : W_World_seenByAny a N M Q) : pM X N 129 0 (ea_ar 0 [.inr (.inl (some a))]) [] M (Pl Q M) := by
  refine pM_w (F2 := [(0, .inr (.inl (some a)))]) (fun L hL => lo_cons (lo_lk hL rfl) lo_nil) ?_
  refine pM_lc rfl ?_
  refine pM_lsn rfl rfl ?_
  refine pM_ic rfl ki_0 ?_
  refine pM_isn rfl rfl ?_
  refine pM_w (F2 := [(0, .inr (.inl (some a))), (1, .inr (.inr (.inl (some (Int64.ofNat 0))))), (3, .inl (.inl 0))]) (fun L hL => lo_cons (lo_lk hL rfl) (lo_cons (lo_lk hL rfl) (lo_cons (lo_lk hL rfl) lo_nil))) ?_
  refine q_World_seenByAny_4 ha  N (Nat.le_refl N) (Int64.ofNat 0) 0 h
/-- 131: EarCode.feed(IIIII)I -/
def W_E_feed (p1 : Int32) (p2 : Int32) (p3 : Int32) (p4 : Int32) (p5 : Int32) (N : Nat) (M : MM) (Q : Int32 → MM → Prop) : Prop :=
  ((400 < ((M.1 1 1) + 20) →
    Q (-1) M) ∧
   (¬ 400 < ((M.1 1 1) + 20) →
    W_Tape_add p1 N M (fun M3 =>
      W_Tape_add p2 N M3 (fun M5 =>
        W_Tape_add p3 N M5 (fun M7 =>
          W_Tape_add p4 N M7 (fun M9 =>
            W_Tape_add p5 N M9 (fun M11 =>
              Q (M11.1 1 1) M11)))))))
theorem q_E_feed {X : Option (List AI)} {N : Nat} {M : MM} {p1 : Int32} {p2 : Int32} {p3 : Int32} {p4 : Int32} {p5 : Int32} {Q : Int32 → MM → Prop}  (h : W_E_feed p1 p2 p3 p4 p5 N M Q) : pM X N 131 0 (ea_ar 0 [.inr (.inl (some 0)), .inl (.inl p1), .inl (.inl p2), .inl (.inl p3), .inl (.inl p4), .inl (.inl p5)]) [] M (Ri Q) := by
  refine pM_w (F2 := [(0, .inr (.inl (some 0))), (1, .inl (.inl p1)), (2, .inl (.inl p2)), (3, .inl (.inl p3)), (4, .inl (.inl p4)), (5, .inl (.inl p5))]) (fun L hL => lo_cons (lo_lk hL rfl) (lo_cons (lo_lk hL rfl) (lo_cons (lo_lk hL rfl) (lo_cons (lo_lk hL rfl) (lo_cons (lo_lk hL rfl) (lo_cons (lo_lk hL rfl) lo_nil)))))) ?_
  refine pM_aln rfl rfl rfl ?_
  refine pM_gr rfl rfl rfl rfl ?_
  refine pM_gi rfl rfl rfl rfl ?_
  refine pM_bi rfl kb_20 ?_
  refine pM_add rfl ?_
  refine pM_si rfl ks_400 ?_
  refine pM_cle rfl rfl (fun h1 => ?_) (fun h1 => ?_)
  · replace h := h.2 h1
    refine pM_aln rfl rfl rfl ?_
    refine pM_gr rfl rfl rfl rfl ?_
    refine pM_iln rfl rfl ?_
    refine pM_qRu (as := [.inr (.inl (some 1)), .inl (.inl p1)]) (T := []) rfl rfl (fun C hC => cl_v hC rfl rfl rfl rfl) rfl (q_Tape_add  h) (fun M3 h => ?_)
    refine pM_aln rfl rfl rfl ?_
    refine pM_gr rfl rfl rfl rfl ?_
    refine pM_iln rfl rfl ?_
    refine pM_qRu (as := [.inr (.inl (some 1)), .inl (.inl p2)]) (T := []) rfl rfl (fun C hC => cl_v hC rfl rfl rfl rfl) rfl (q_Tape_add  h) (fun M5 h => ?_)
    refine pM_aln rfl rfl rfl ?_
    refine pM_gr rfl rfl rfl rfl ?_
    refine pM_iln rfl rfl ?_
    refine pM_qRu (as := [.inr (.inl (some 1)), .inl (.inl p3)]) (T := []) rfl rfl (fun C hC => cl_v hC rfl rfl rfl rfl) rfl (q_Tape_add  h) (fun M7 h => ?_)
    refine pM_aln rfl rfl rfl ?_
    refine pM_gr rfl rfl rfl rfl ?_
    refine pM_il rfl rfl ?_
    refine pM_qRu (as := [.inr (.inl (some 1)), .inl (.inl p4)]) (T := []) rfl rfl (fun C hC => cl_v hC rfl rfl rfl rfl) rfl (q_Tape_add  h) (fun M9 h => ?_)
    refine pM_aln rfl rfl rfl ?_
    refine pM_gr rfl rfl rfl rfl ?_
    refine pM_il rfl rfl ?_
    refine pM_qRu (as := [.inr (.inl (some 1)), .inl (.inl p5)]) (T := []) rfl rfl (fun C hC => cl_v hC rfl rfl rfl rfl) rfl (q_Tape_add  h) (fun M11 h => ?_)
    refine pM_aln rfl rfl rfl ?_
    refine pM_gr rfl rfl rfl rfl ?_
    refine pM_gi rfl rfl rfl rfl ?_
    exact pM_ri rfl (⟨_, rfl, h⟩)
  · replace h := h.1 h1
    refine pM_ic rfl ki_m1 ?_
    exact pM_ri rfl (⟨_, rfl, h⟩)
/-- 132: EarCode.end(I)Z -/
def W_E_end (p1 : Int32) (N : Nat) (M : MM) (Q : Int32 → MM → Prop) : Prop :=
  ((p1 < 0 →
    Q 0 M) ∧
   (¬ p1 < 0 →
    (((M.1 1 1) < p1 →
      Q 0 M) ∧
     (¬ (M.1 1 1) < p1 →
      Q 1 (wi M 1 1 p1)))))
theorem q_E_end {X : Option (List AI)} {N : Nat} {M : MM} {p1 : Int32} {Q : Int32 → MM → Prop}  (h : W_E_end p1 N M Q) : pM X N 132 0 (ea_ar 0 [.inr (.inl (some 0)), .inl (.inl p1)]) [] M (Ri Q) := by
  refine pM_w (F2 := [(0, .inr (.inl (some 0))), (1, .inl (.inl p1))]) (fun L hL => lo_cons (lo_lk hL rfl) (lo_cons (lo_lk hL rfl) lo_nil)) ?_
  refine pM_iln rfl rfl ?_
  refine pM_zlt rfl rfl (fun h1 => ?_) (fun h1 => ?_)
  · replace h := h.1 h1
    refine pM_ic rfl ki_0 ?_
    exact pM_ri rfl (⟨_, rfl, h⟩)
  · replace h := h.2 h1
    refine pM_iln rfl rfl ?_
    refine pM_aln rfl rfl rfl ?_
    refine pM_gr rfl rfl rfl rfl ?_
    refine pM_gi rfl rfl rfl rfl ?_
    refine pM_cle rfl rfl (fun h2 => ?_) (fun h2 => ?_)
    · replace h := h.2 h2
      refine pM_aln rfl rfl rfl ?_
      refine pM_gr rfl rfl rfl rfl ?_
      refine pM_iln rfl rfl ?_
      refine pM_pi rfl rfl rfl rfl ?_
      refine pM_ic rfl ki_1 ?_
      exact pM_ri rfl (⟨_, rfl, h⟩)
    · replace h := h.1 h2
      refine pM_ic rfl ki_0 ?_
      exact pM_ri rfl (⟨_, rfl, h⟩)
/-- 133: EarCode.code()I -/
def W_E_code  (N : Nat) (M : MM) (Q : Int32 → MM → Prop) (E : Nat → MM → Prop) : Prop :=
  W_Text_split  N M (fun M2 =>
    W_LawReader_readAll  N (wi M2 1 1 0) (fun r3 M4 =>
      ((((wi M4 0 15 r3).1 0 15) = (-1) →
        ((((wi M4 0 15 r3).1 8 0) = 0 →
          ((0 < ((wi M4 0 15 r3).1 18 0) →
            E 1 (wi M4 0 15 r3)) ∧
           (¬ 0 < ((wi M4 0 15 r3).1 18 0) →
            W_Law_become 8 13 N (wi M4 0 15 r3) (fun M9 =>
              W_Memory_forget  N M9 (fun M11 =>
                Q (M11.1 8 1) M11))))) ∧
         (¬ ((wi M4 0 15 r3).1 8 0) = 0 →
          E 1 (wi M4 0 15 r3)))) ∧
       (¬ ((wi M4 0 15 r3).1 0 15) = (-1) →
        E 0 (wi M4 0 15 r3)))))
theorem q_E_code {X : Option (List AI)} {N : Nat} {M : MM}  {Q : Int32 → MM → Prop} {E : Nat → MM → Prop}  (h : W_E_code  N M Q E) : pM X N 133 0 (ea_ar 0 [.inr (.inl (some 0))]) [] M (Re (Ri Q) E) := by
  refine pM_w (F2 := [(0, .inr (.inl (some 0)))]) (fun L hL => lo_cons (lo_lk hL rfl) lo_nil) ?_
  refine pM_aln rfl rfl rfl ?_
  refine pM_gr rfl rfl rfl rfl ?_
  refine pM_aln rfl rfl rfl ?_
  refine pM_gr rfl rfl rfl rfl ?_
  refine pM_qRu (as := [.inr (.inl (some 3)), .inr (.inl (some 1))]) (T := []) rfl rfl (fun C hC => cl_v hC rfl rfl rfl rfl) rfl (q_Text_split  h) (fun M2 h => ?_)
  refine pM_aln rfl rfl rfl ?_
  refine pM_gr rfl rfl rfl rfl ?_
  refine pM_ic rfl ki_0 ?_
  refine pM_pi rfl rfl rfl rfl ?_
  refine pM_aln rfl rfl rfl ?_
  refine pM_aln rfl rfl rfl ?_
  refine pM_gr rfl rfl rfl rfl ?_
  refine pM_qRi (as := [.inr (.inl (some 42))]) (T := [.inr (.inl (some 0))]) rfl rfl (fun C hC => cl_v hC rfl rfl rfl rfl) rfl (q_LawReader_readAll  h) (fun r3 M4 h => ?_)
  refine pM_pi rfl rfl rfl rfl ?_
  refine pM_aln rfl rfl rfl ?_
  refine pM_gi rfl rfl rfl rfl ?_
  refine pM_ic rfl ki_m1 ?_
  refine pM_ceq rfl rfl (fun h5 => ?_) (fun h5 => ?_)
  · replace h := h.1 h5
    refine pM_aln rfl rfl rfl ?_
    refine pM_gr rfl rfl rfl rfl ?_
    refine pM_gi rfl rfl rfl rfl ?_
    refine pM_zne rfl rfl (fun h6 => ?_) (fun h6 => ?_)
    · replace h := h.2 h6
      exact pM_tw rfl rfl (fun _ => rfl) (Or.inr ⟨_, rfl, h⟩)
    · replace h := h.1 h6
      refine pM_aln rfl rfl rfl ?_
      refine pM_gr rfl rfl rfl rfl ?_
      refine pM_gi rfl rfl rfl rfl ?_
      refine pM_zle rfl rfl (fun h7 => ?_) (fun h7 => ?_)
      · replace h := h.2 h7
        refine pM_aln rfl rfl rfl ?_
        refine pM_gr rfl rfl rfl rfl ?_
        refine pM_aln rfl rfl rfl ?_
        refine pM_gr rfl rfl rfl rfl ?_
        refine pM_qRu (as := [.inr (.inl (some 8)), .inr (.inl (some 13))]) (T := []) rfl rfl (fun C hC => cl_v hC rfl rfl rfl rfl) rfl (q_Law_become isK_8 isK_13 h) (fun M9 h => ?_)
        refine pM_aln rfl rfl rfl ?_
        refine pM_gr rfl rfl rfl rfl ?_
        refine pM_qRu (as := [.inr (.inl (some 44))]) (T := []) rfl rfl (fun C hC => cl_v hC rfl rfl rfl rfl) rfl (q_Memory_forget  h) (fun M11 h => ?_)
        refine pM_aln rfl rfl rfl ?_
        refine pM_gr rfl rfl rfl rfl ?_
        refine pM_gi rfl rfl rfl rfl ?_
        exact pM_ri rfl (Or.inl ⟨_, rfl, h⟩)
      · replace h := h.1 h7
        exact pM_tw rfl rfl (fun _ => rfl) (Or.inr ⟨_, rfl, h⟩)
  · replace h := h.2 h5
    exact pM_tw rfl rfl (fun _ => rfl) (Or.inr ⟨_, rfl, h⟩)
/-- 134: EarCode.republic()I -/
def W_E_republic  (N : Nat) (M : MM) (Q : Int32 → MM → Prop) (E : Nat → MM → Prop) : Prop :=
  W_Text_split  N M (fun M2 =>
    W_World_become 30 18 N (wi M2 1 1 0) (fun M4 =>
      W_RepublicReader_readAll  N M4 (fun r5 M6 =>
        ((((wi M6 0 15 r5).1 0 15) = (-1) →
          ((((wi M6 0 15 r5).1 18 15) < 12 →
            W_World_become 18 30 N (wi M6 0 15 r5) (fun M10 =>
              W_Memory_forget  N (wi M10 18 15 ((M10.1 18 15) + 1)) (fun M12 =>
                Q (M12.1 18 15) M12))) ∧
           (¬ ((wi M6 0 15 r5).1 18 15) < 12 →
            E 3 (wi M6 0 15 r5)))) ∧
         (¬ ((wi M6 0 15 r5).1 0 15) = (-1) →
          E 0 (wi M6 0 15 r5))))))
theorem q_E_republic {X : Option (List AI)} {N : Nat} {M : MM}  {Q : Int32 → MM → Prop} {E : Nat → MM → Prop}  (h : W_E_republic  N M Q E) : pM X N 134 0 (ea_ar 0 [.inr (.inl (some 0))]) [] M (Re (Ri Q) E) := by
  refine pM_w (F2 := [(0, .inr (.inl (some 0)))]) (fun L hL => lo_cons (lo_lk hL rfl) lo_nil) ?_
  refine pM_aln rfl rfl rfl ?_
  refine pM_gr rfl rfl rfl rfl ?_
  refine pM_aln rfl rfl rfl ?_
  refine pM_gr rfl rfl rfl rfl ?_
  refine pM_qRu (as := [.inr (.inl (some 3)), .inr (.inl (some 1))]) (T := []) rfl rfl (fun C hC => cl_v hC rfl rfl rfl rfl) rfl (q_Text_split  h) (fun M2 h => ?_)
  refine pM_aln rfl rfl rfl ?_
  refine pM_gr rfl rfl rfl rfl ?_
  refine pM_ic rfl ki_0 ?_
  refine pM_pi rfl rfl rfl rfl ?_
  refine pM_aln rfl rfl rfl ?_
  refine pM_gr rfl rfl rfl rfl ?_
  refine pM_aln rfl rfl rfl ?_
  refine pM_gr rfl rfl rfl rfl ?_
  refine pM_qRu (as := [.inr (.inl (some 30)), .inr (.inl (some 18))]) (T := []) rfl rfl (fun C hC => cl_v hC rfl rfl rfl rfl) rfl (q_World_become isW_30 isW_18 h) (fun M4 h => ?_)
  refine pM_aln rfl rfl rfl ?_
  refine pM_aln rfl rfl rfl ?_
  refine pM_gr rfl rfl rfl rfl ?_
  refine pM_qRi (as := [.inr (.inl (some 43))]) (T := [.inr (.inl (some 0))]) rfl rfl (fun C hC => cl_v hC rfl rfl rfl rfl) rfl (q_RepublicReader_readAll  h) (fun r5 M6 h => ?_)
  refine pM_pi rfl rfl rfl rfl ?_
  refine pM_aln rfl rfl rfl ?_
  refine pM_gi rfl rfl rfl rfl ?_
  refine pM_ic rfl ki_m1 ?_
  refine pM_ceq rfl rfl (fun h7 => ?_) (fun h7 => ?_)
  · replace h := h.1 h7
    refine pM_aln rfl rfl rfl ?_
    refine pM_gr rfl rfl rfl rfl ?_
    refine pM_gi rfl rfl rfl rfl ?_
    refine pM_bi rfl kb_12 ?_
    refine pM_clt rfl rfl (fun h8 => ?_) (fun h8 => ?_)
    · replace h := h.1 h8
      refine pM_aln rfl rfl rfl ?_
      refine pM_gr rfl rfl rfl rfl ?_
      refine pM_aln rfl rfl rfl ?_
      refine pM_gr rfl rfl rfl rfl ?_
      refine pM_qRu (as := [.inr (.inl (some 18)), .inr (.inl (some 30))]) (T := []) rfl rfl (fun C hC => cl_v hC rfl rfl rfl rfl) rfl (q_World_become isW_18 isW_30 h) (fun M10 h => ?_)
      refine pM_aln rfl rfl rfl ?_
      refine pM_gr rfl rfl rfl rfl ?_
      refine pM_p (pc' := 97) (S' := [.inr (.inl (some 18)), .inr (.inl (some 18))]) rfl rfl (fun _ => rfl) ?_
      refine pM_gi rfl rfl rfl rfl ?_
      refine pM_ic rfl ki_1 ?_
      refine pM_add rfl ?_
      refine pM_pi rfl rfl rfl rfl ?_
      refine pM_aln rfl rfl rfl ?_
      refine pM_gr rfl rfl rfl rfl ?_
      refine pM_qRu (as := [.inr (.inl (some 44))]) (T := []) rfl rfl (fun C hC => cl_v hC rfl rfl rfl rfl) rfl (q_Memory_forget  h) (fun M12 h => ?_)
      refine pM_aln rfl rfl rfl ?_
      refine pM_gr rfl rfl rfl rfl ?_
      refine pM_gi rfl rfl rfl rfl ?_
      exact pM_ri rfl (Or.inl ⟨_, rfl, h⟩)
    · replace h := h.2 h8
      exact pM_tw rfl rfl (fun _ => rfl) (Or.inr ⟨_, rfl, h⟩)
  · replace h := h.2 h7
    exact pM_tw rfl rfl (fun _ => rfl) (Or.inr ⟨_, rfl, h⟩)
/-- 135: EarCode.fault()I -/
def V_E_fault  (M : MM) : Int32 :=
  (M.1 0 15)
theorem q_E_fault {X : Option (List AI)} {N : Nat} {M : MM}   : pM X N 135 0 (ea_ar 0 [.inr (.inl (some 0))]) [] M (Vi (V_E_fault  M) M) := by
  refine pM_w (F2 := [(0, .inr (.inl (some 0)))]) (fun L hL => lo_cons (lo_lk hL rfl) lo_nil) ?_
  refine pM_aln rfl rfl rfl ?_
  refine pM_gi rfl rfl rfl rfl ?_
  exact pM_rVi rfl (rfl)
/-- 181: EarCode.needIndex(II)V -/
def W_E_needIndex (p0 : Int32) (p1 : Int32) (N : Nat) (M : MM) (Q : Prop) (E : Nat → Prop) : Prop :=
  ((p0 < 0 →
    E 2) ∧
   (¬ p0 < 0 →
    ((p0 < p1 →
      Q) ∧
     (¬ p0 < p1 →
      E 2))))
theorem q_E_needIndex {X : Option (List AI)} {N : Nat} {M : MM} {p0 : Int32} {p1 : Int32} {Q : Prop} {E : Nat → Prop}  (h : W_E_needIndex p0 p1 N M Q E) : pM X N 181 0 (ea_ar 0 [.inl (.inl p0), .inl (.inl p1)]) [] M (Pe (Pu Q M) E M) := by
  refine pM_w (F2 := [(0, .inl (.inl p0)), (1, .inl (.inl p1))]) (fun L hL => lo_cons (lo_lk hL rfl) (lo_cons (lo_lk hL rfl) lo_nil)) ?_
  refine pM_iln rfl rfl ?_
  refine pM_zlt rfl rfl (fun h1 => ?_) (fun h1 => ?_)
  · replace h := h.1 h1
    exact pM_tw rfl rfl (fun _ => rfl) (Or.inr ⟨_, rfl, rfl, h⟩)
  · replace h := h.2 h1
    refine pM_iln rfl rfl ?_
    refine pM_iln rfl rfl ?_
    refine pM_clt rfl rfl (fun h2 => ?_) (fun h2 => ?_)
    · replace h := h.1 h2
      exact pM_ru rfl (Or.inl ⟨rfl, rfl, h⟩)
    · replace h := h.2 h2
      exact pM_tw rfl rfl (fun _ => rfl) (Or.inr ⟨_, rfl, rfl, h⟩)
/-- 180: EarCode.needClause(I)V -/
def W_E_needClause (p1 : Int32) (N : Nat) (M : MM) (Q : Prop) (E : Nat → Prop) : Prop :=
  W_E_needIndex p1 (M.1 8 1) N M (Q) (fun ce => E ce)
theorem q_E_needClause {X : Option (List AI)} {N : Nat} {M : MM} {p1 : Int32} {Q : Prop} {E : Nat → Prop}  (h : W_E_needClause p1 N M Q E) : pM X N 180 0 (ea_ar 0 [.inr (.inl (some 0)), .inl (.inl p1)]) [] M (Pe (Pu Q M) E M) := by
  refine pM_w (F2 := [(0, .inr (.inl (some 0))), (1, .inl (.inl p1))]) (fun L hL => lo_cons (lo_lk hL rfl) (lo_cons (lo_lk hL rfl) lo_nil)) ?_
  refine pM_iln rfl rfl ?_
  refine pM_aln rfl rfl rfl ?_
  refine pM_gr rfl rfl rfl rfl ?_
  refine pM_gi rfl rfl rfl rfl ?_
  refine pM_qPue (as := [.inl (.inl p1), .inl (.inl (M.1 8 1))]) (T := []) rfl rfl (fun _ _ => rfl) rfl (q_E_needIndex  h) (fun h => ?_) (fun ce h => Or.inr ⟨_, rfl, rfl, h⟩)
  exact pM_ru rfl (Or.inl ⟨rfl, rfl, h⟩)
/-- 136: EarCode.clause(II)I -/
def W_E_clause (p1 : Int32) (p2 : Int32) (N : Nat) (M : MM) (Q : Int32 → MM → Prop) (E : Nat → MM → Prop) : Prop :=
  W_E_needClause p1 N M (((p2 = 0 →
    Q (V_E_bit (M.1 8 2) p1 M) M) ∧
   (p2 = 1 →
    Q (M.1 9 (ni p1)) M) ∧
   (p2 = 2 →
    W_World_inForce 18 N M (fun r4 =>
      Q (V_E_bit r4 p1 M) M)) ∧
   (p2 = 3 →
    W_World_knowersOf 18 p1 N M (fun r6 =>
      Q r6 M)) ∧
   (p2 = 4 →
    W_Inquiry_contradicting p1 N M (fun r8 M9 =>
      Q r8 M9)) ∧
   (¬ p2 = 0 → ¬ p2 = 1 → ¬ p2 = 2 → ¬ p2 = 3 → ¬ p2 = 4 → E 4 M))) (fun ce => E ce M)
theorem q_E_clause {X : Option (List AI)} {N : Nat} {M : MM} {p1 : Int32} {p2 : Int32} {Q : Int32 → MM → Prop} {E : Nat → MM → Prop}  (h : W_E_clause p1 p2 N M Q E) : pM X N 136 0 (ea_ar 0 [.inr (.inl (some 0)), .inl (.inl p1), .inl (.inl p2)]) [] M (Re (Ri Q) E) := by
  refine pM_w (F2 := [(0, .inr (.inl (some 0))), (1, .inl (.inl p1)), (2, .inl (.inl p2))]) (fun L hL => lo_cons (lo_lk hL rfl) (lo_cons (lo_lk hL rfl) (lo_cons (lo_lk hL rfl) lo_nil))) ?_
  refine pM_aln rfl rfl rfl ?_
  refine pM_iln rfl rfl ?_
  refine pM_qPue (as := [.inr (.inl (some 0)), .inl (.inl p1)]) (T := []) rfl rfl (fun C hC => cl_v hC rfl rfl rfl rfl) rfl (q_E_needClause  h) (fun h => ?_) (fun ce h => Or.inr ⟨_, rfl, h⟩)
  refine pM_iln rfl rfl ?_
  refine pM_sw rfl rfl (fun h3 => ?_) (fun j o t h3 ho hto => ?_)
  · replace h := h.2.2.2.2.2 (sw_o h3 (by decide)) (sw_o h3 (by decide)) (sw_o h3 (by decide)) (sw_o h3 (by decide)) (sw_o h3 (by decide))
    exact pM_tw rfl rfl (fun _ => rfl) (Or.inr ⟨_, rfl, h⟩)
  · match j, h3, ho with
    | 0, h3, ho =>
      have e := Option.some.inj ho
      subst e
      have e := Option.some.inj hto
      subst e
      replace h := h.1 (sw_e h3 (by decide))
      refine pM_aln rfl rfl rfl ?_
      refine pM_gr rfl rfl rfl rfl ?_
      refine pM_gi rfl rfl rfl rfl ?_
      refine pM_iln rfl rfl ?_
      refine pM_qVi (as := [.inl (.inl (M.1 8 2)), .inl (.inl p1)]) (T := []) rfl rfl (fun _ _ => rfl) rfl (q_E_bit ) ?_
      exact pM_ri rfl (Or.inl ⟨_, rfl, h⟩)
    | 1, h3, ho =>
      have e := Option.some.inj ho
      subst e
      have e := Option.some.inj hto
      subst e
      replace h := h.2.1 (sw_e h3 (by decide))
      refine pM_aln rfl rfl rfl ?_
      refine pM_gr rfl rfl rfl rfl ?_
      refine pM_gr rfl rfl rfl rfl ?_
      refine pM_iln rfl rfl ?_
      refine pM_ai rfl rfl (one_p _) ?_
      exact pM_ri rfl (Or.inl ⟨_, rfl, h⟩)
    | 2, h3, ho =>
      have e := Option.some.inj ho
      subst e
      have e := Option.some.inj hto
      subst e
      replace h := h.2.2.1 (sw_e h3 (by decide))
      refine pM_aln rfl rfl rfl ?_
      refine pM_gr rfl rfl rfl rfl ?_
      refine pM_qPi (as := [.inr (.inl (some 18))]) (T := []) rfl rfl (fun C hC => cl_v hC rfl rfl rfl rfl) rfl (q_World_inForce isW_18 h) (fun r4 h => ?_)
      refine pM_iln rfl rfl ?_
      refine pM_qVi (as := [.inl (.inl r4), .inl (.inl p1)]) (T := []) rfl rfl (fun _ _ => rfl) rfl (q_E_bit ) ?_
      exact pM_ri rfl (Or.inl ⟨_, rfl, h⟩)
    | 3, h3, ho =>
      have e := Option.some.inj ho
      subst e
      have e := Option.some.inj hto
      subst e
      replace h := h.2.2.2.1 (sw_e h3 (by decide))
      refine pM_aln rfl rfl rfl ?_
      refine pM_gr rfl rfl rfl rfl ?_
      refine pM_iln rfl rfl ?_
      refine pM_qPi (as := [.inr (.inl (some 18)), .inl (.inl p1)]) (T := []) rfl rfl (fun C hC => cl_v hC rfl rfl rfl rfl) rfl (q_World_knowersOf isW_18 h) (fun r6 h => ?_)
      exact pM_ri rfl (Or.inl ⟨_, rfl, h⟩)
    | 4, h3, ho =>
      have e := Option.some.inj ho
      subst e
      have e := Option.some.inj hto
      subst e
      replace h := h.2.2.2.2.1 (sw_e h3 (by decide))
      refine pM_aln rfl rfl rfl ?_
      refine pM_gr rfl rfl rfl rfl ?_
      refine pM_iln rfl rfl ?_
      refine pM_qRi (as := [.inr (.inl (some 171)), .inl (.inl p1)]) (T := []) rfl rfl (fun C hC => cl_v hC rfl rfl rfl rfl) rfl (q_Inquiry_contradicting  h) (fun r8 M9 h => ?_)
      exact pM_ri rfl (Or.inl ⟨_, rfl, h⟩)
    | j + 5, _, ho => exact absurd ho (by simp)
/-- 179: EarCode.needCitizen(I)V -/
def W_E_needCitizen (p1 : Int32) (N : Nat) (M : MM) (Q : Prop) (E : Nat → Prop) : Prop :=
  W_E_needIndex p1 (M.1 18 0) N M (Q) (fun ce => E ce)
theorem q_E_needCitizen {X : Option (List AI)} {N : Nat} {M : MM} {p1 : Int32} {Q : Prop} {E : Nat → Prop}  (h : W_E_needCitizen p1 N M Q E) : pM X N 179 0 (ea_ar 0 [.inr (.inl (some 0)), .inl (.inl p1)]) [] M (Pe (Pu Q M) E M) := by
  refine pM_w (F2 := [(0, .inr (.inl (some 0))), (1, .inl (.inl p1))]) (fun L hL => lo_cons (lo_lk hL rfl) (lo_cons (lo_lk hL rfl) lo_nil)) ?_
  refine pM_iln rfl rfl ?_
  refine pM_aln rfl rfl rfl ?_
  refine pM_gr rfl rfl rfl rfl ?_
  refine pM_gi rfl rfl rfl rfl ?_
  refine pM_qPue (as := [.inl (.inl p1), .inl (.inl (M.1 18 0))]) (T := []) rfl rfl (fun _ _ => rfl) rfl (q_E_needIndex  h) (fun h => ?_) (fun ce h => Or.inr ⟨_, rfl, rfl, h⟩)
  exact pM_ru rfl (Or.inl ⟨rfl, rfl, h⟩)
/-- 137: EarCode.citizen(II)I -/
def W_E_citizen (p1 : Int32) (p2 : Int32) (N : Nat) (M : MM) (Q : Int32 → Prop) (E : Nat → Prop) : Prop :=
  W_E_needCitizen p1 N M (((p2 = 0 →
    Q (V_E_bit (M.1 18 1) p1 M)) ∧
   (p2 = 1 →
    Q (M.1 19 (ni p1))) ∧
   (p2 = 2 →
    Q (M.1 20 (ni p1))) ∧
   (p2 = 3 →
    Q (M.1 21 (ni p1))) ∧
   (p2 = 4 →
    Q (M.1 22 (ni p1))) ∧
   (p2 = 5 →
    Q (M.1 24 (ni p1))) ∧
   (p2 = 6 →
    Q (V_World_matterAhead 18 p1 0 M)) ∧
   (p2 = 7 →
    Q (V_World_pooledBy 18 p1 M)) ∧
   (p2 = 8 →
    Q (V_Lng_bitCount (M.2 26 (ni p1)) M)) ∧
   (¬ p2 = 0 → ¬ p2 = 1 → ¬ p2 = 2 → ¬ p2 = 3 → ¬ p2 = 4 → ¬ p2 = 5 → ¬ p2 = 6 → ¬ p2 = 7 → ¬ p2 = 8 → E 4))) (fun ce => E ce)
theorem q_E_citizen {X : Option (List AI)} {N : Nat} {M : MM} {p1 : Int32} {p2 : Int32} {Q : Int32 → Prop} {E : Nat → Prop}  (h : W_E_citizen p1 p2 N M Q E) : pM X N 137 0 (ea_ar 0 [.inr (.inl (some 0)), .inl (.inl p1), .inl (.inl p2)]) [] M (Pe (Pi Q M) E M) := by
  refine pM_w (F2 := [(0, .inr (.inl (some 0))), (1, .inl (.inl p1)), (2, .inl (.inl p2))]) (fun L hL => lo_cons (lo_lk hL rfl) (lo_cons (lo_lk hL rfl) (lo_cons (lo_lk hL rfl) lo_nil))) ?_
  refine pM_aln rfl rfl rfl ?_
  refine pM_iln rfl rfl ?_
  refine pM_qPue (as := [.inr (.inl (some 0)), .inl (.inl p1)]) (T := []) rfl rfl (fun C hC => cl_v hC rfl rfl rfl rfl) rfl (q_E_needCitizen  h) (fun h => ?_) (fun ce h => Or.inr ⟨_, rfl, rfl, h⟩)
  refine pM_iln rfl rfl ?_
  refine pM_sw rfl rfl (fun h3 => ?_) (fun j o t h3 ho hto => ?_)
  · replace h := h.2.2.2.2.2.2.2.2.2 (sw_o h3 (by decide)) (sw_o h3 (by decide)) (sw_o h3 (by decide)) (sw_o h3 (by decide)) (sw_o h3 (by decide)) (sw_o h3 (by decide)) (sw_o h3 (by decide)) (sw_o h3 (by decide)) (sw_o h3 (by decide))
    exact pM_tw rfl rfl (fun _ => rfl) (Or.inr ⟨_, rfl, rfl, h⟩)
  · match j, h3, ho with
    | 0, h3, ho =>
      have e := Option.some.inj ho
      subst e
      have e := Option.some.inj hto
      subst e
      replace h := h.1 (sw_e h3 (by decide))
      refine pM_aln rfl rfl rfl ?_
      refine pM_gr rfl rfl rfl rfl ?_
      refine pM_gi rfl rfl rfl rfl ?_
      refine pM_iln rfl rfl ?_
      refine pM_qVi (as := [.inl (.inl (M.1 18 1)), .inl (.inl p1)]) (T := []) rfl rfl (fun _ _ => rfl) rfl (q_E_bit ) ?_
      exact pM_ri rfl (Or.inl ⟨_, rfl, rfl, h⟩)
    | 1, h3, ho =>
      have e := Option.some.inj ho
      subst e
      have e := Option.some.inj hto
      subst e
      replace h := h.2.1 (sw_e h3 (by decide))
      refine pM_aln rfl rfl rfl ?_
      refine pM_gr rfl rfl rfl rfl ?_
      refine pM_gr rfl rfl rfl rfl ?_
      refine pM_iln rfl rfl ?_
      refine pM_ai rfl rfl (one_p _) ?_
      exact pM_ri rfl (Or.inl ⟨_, rfl, rfl, h⟩)
    | 2, h3, ho =>
      have e := Option.some.inj ho
      subst e
      have e := Option.some.inj hto
      subst e
      replace h := h.2.2.1 (sw_e h3 (by decide))
      refine pM_aln rfl rfl rfl ?_
      refine pM_gr rfl rfl rfl rfl ?_
      refine pM_gr rfl rfl rfl rfl ?_
      refine pM_iln rfl rfl ?_
      refine pM_ai rfl rfl (one_p _) ?_
      exact pM_ri rfl (Or.inl ⟨_, rfl, rfl, h⟩)
    | 3, h3, ho =>
      have e := Option.some.inj ho
      subst e
      have e := Option.some.inj hto
      subst e
      replace h := h.2.2.2.1 (sw_e h3 (by decide))
      refine pM_aln rfl rfl rfl ?_
      refine pM_gr rfl rfl rfl rfl ?_
      refine pM_gr rfl rfl rfl rfl ?_
      refine pM_iln rfl rfl ?_
      refine pM_ai rfl rfl (one_p _) ?_
      exact pM_ri rfl (Or.inl ⟨_, rfl, rfl, h⟩)
    | 4, h3, ho =>
      have e := Option.some.inj ho
      subst e
      have e := Option.some.inj hto
      subst e
      replace h := h.2.2.2.2.1 (sw_e h3 (by decide))
      refine pM_aln rfl rfl rfl ?_
      refine pM_gr rfl rfl rfl rfl ?_
      refine pM_gr rfl rfl rfl rfl ?_
      refine pM_iln rfl rfl ?_
      refine pM_ai rfl rfl (one_p _) ?_
      exact pM_ri rfl (Or.inl ⟨_, rfl, rfl, h⟩)
    | 5, h3, ho =>
      have e := Option.some.inj ho
      subst e
      have e := Option.some.inj hto
      subst e
      replace h := h.2.2.2.2.2.1 (sw_e h3 (by decide))
      refine pM_aln rfl rfl rfl ?_
      refine pM_gr rfl rfl rfl rfl ?_
      refine pM_gr rfl rfl rfl rfl ?_
      refine pM_iln rfl rfl ?_
      refine pM_ai rfl rfl (one_p _) ?_
      exact pM_ri rfl (Or.inl ⟨_, rfl, rfl, h⟩)
    | 6, h3, ho =>
      have e := Option.some.inj ho
      subst e
      have e := Option.some.inj hto
      subst e
      replace h := h.2.2.2.2.2.2.1 (sw_e h3 (by decide))
      refine pM_aln rfl rfl rfl ?_
      refine pM_gr rfl rfl rfl rfl ?_
      refine pM_iln rfl rfl ?_
      refine pM_ic rfl ki_0 ?_
      refine pM_qVi (as := [.inr (.inl (some 18)), .inl (.inl p1), .inl (.inl 0)]) (T := []) rfl rfl (fun C hC => cl_v hC rfl rfl rfl rfl) rfl (q_World_matterAhead isW_18) ?_
      exact pM_ri rfl (Or.inl ⟨_, rfl, rfl, h⟩)
    | 7, h3, ho =>
      have e := Option.some.inj ho
      subst e
      have e := Option.some.inj hto
      subst e
      replace h := h.2.2.2.2.2.2.2.1 (sw_e h3 (by decide))
      refine pM_aln rfl rfl rfl ?_
      refine pM_gr rfl rfl rfl rfl ?_
      refine pM_iln rfl rfl ?_
      refine pM_qVi (as := [.inr (.inl (some 18)), .inl (.inl p1)]) (T := []) rfl rfl (fun C hC => cl_v hC rfl rfl rfl rfl) rfl (q_World_pooledBy isW_18) ?_
      exact pM_ri rfl (Or.inl ⟨_, rfl, rfl, h⟩)
    | 8, h3, ho =>
      have e := Option.some.inj ho
      subst e
      have e := Option.some.inj hto
      subst e
      replace h := h.2.2.2.2.2.2.2.2.1 (sw_e h3 (by decide))
      refine pM_aln rfl rfl rfl ?_
      refine pM_gr rfl rfl rfl rfl ?_
      refine pM_gr rfl rfl rfl rfl ?_
      refine pM_iln rfl rfl ?_
      refine pM_la rfl rfl ?_
      refine pM_qVi (as := [.inr (.inr (.inl (some (M.2 26 (ni p1)))))]) (T := []) rfl rfl (fun _ _ => rfl) rfl (q_Lng_bitCount ) ?_
      exact pM_ri rfl (Or.inl ⟨_, rfl, rfl, h⟩)
    | j + 9, _, ho => exact absurd ho (by simp)
/-- 138: EarCode.seen(I)J -/
def W_E_seen (p1 : Int32) (N : Nat) (M : MM) (Q : Int64 → Prop) (E : Nat → Prop) : Prop :=
  W_E_needCitizen p1 N M (Q (M.2 26 (ni p1))) (fun ce => E ce)
theorem q_E_seen {X : Option (List AI)} {N : Nat} {M : MM} {p1 : Int32} {Q : Int64 → Prop} {E : Nat → Prop}  (h : W_E_seen p1 N M Q E) : pM X N 138 0 (ea_ar 0 [.inr (.inl (some 0)), .inl (.inl p1)]) [] M (Pe (Pl Q M) E M) := by
  refine pM_w (F2 := [(0, .inr (.inl (some 0))), (1, .inl (.inl p1))]) (fun L hL => lo_cons (lo_lk hL rfl) (lo_cons (lo_lk hL rfl) lo_nil)) ?_
  refine pM_aln rfl rfl rfl ?_
  refine pM_iln rfl rfl ?_
  refine pM_qPue (as := [.inr (.inl (some 0)), .inl (.inl p1)]) (T := []) rfl rfl (fun C hC => cl_v hC rfl rfl rfl rfl) rfl (q_E_needCitizen  h) (fun h => ?_) (fun ce h => Or.inr ⟨_, rfl, rfl, h⟩)
  refine pM_aln rfl rfl rfl ?_
  refine pM_gr rfl rfl rfl rfl ?_
  refine pM_gr rfl rfl rfl rfl ?_
  refine pM_iln rfl rfl ?_
  refine pM_la rfl rfl ?_
  exact pM_rl rfl (Or.inl ⟨_, rfl, rfl, h⟩)
/-- 139: EarCode.habit(II)I -/
def W_E_habit (p1 : Int32) (p2 : Int32) (N : Nat) (M : MM) (Q : Int32 → Prop) (E : Nat → Prop) : Prop :=
  W_E_needCitizen p1 N M (((p2 < 0 →
    Q (-1)) ∧
   (¬ p2 < 0 →
    ((p2 < (M.1 24 (ni p1)) →
      Q (V_World_matterAt 18 p1 p2 M)) ∧
     (¬ p2 < (M.1 24 (ni p1)) →
      Q (-1)))))) (fun ce => E ce)
theorem q_E_habit {X : Option (List AI)} {N : Nat} {M : MM} {p1 : Int32} {p2 : Int32} {Q : Int32 → Prop} {E : Nat → Prop}  (h : W_E_habit p1 p2 N M Q E) : pM X N 139 0 (ea_ar 0 [.inr (.inl (some 0)), .inl (.inl p1), .inl (.inl p2)]) [] M (Pe (Pi Q M) E M) := by
  refine pM_w (F2 := [(0, .inr (.inl (some 0))), (1, .inl (.inl p1)), (2, .inl (.inl p2))]) (fun L hL => lo_cons (lo_lk hL rfl) (lo_cons (lo_lk hL rfl) (lo_cons (lo_lk hL rfl) lo_nil))) ?_
  refine pM_aln rfl rfl rfl ?_
  refine pM_iln rfl rfl ?_
  refine pM_qPue (as := [.inr (.inl (some 0)), .inl (.inl p1)]) (T := []) rfl rfl (fun C hC => cl_v hC rfl rfl rfl rfl) rfl (q_E_needCitizen  h) (fun h => ?_) (fun ce h => Or.inr ⟨_, rfl, rfl, h⟩)
  refine pM_iln rfl rfl ?_
  refine pM_zlt rfl rfl (fun h3 => ?_) (fun h3 => ?_)
  · replace h := h.1 h3
    refine pM_ic rfl ki_m1 ?_
    refine pM_go rfl rfl ?_
    exact pM_ri rfl (Or.inl ⟨_, rfl, rfl, h⟩)
  · replace h := h.2 h3
    refine pM_iln rfl rfl ?_
    refine pM_aln rfl rfl rfl ?_
    refine pM_gr rfl rfl rfl rfl ?_
    refine pM_gr rfl rfl rfl rfl ?_
    refine pM_iln rfl rfl ?_
    refine pM_ai rfl rfl (one_p _) ?_
    refine pM_clt rfl rfl (fun h4 => ?_) (fun h4 => ?_)
    · replace h := h.1 h4
      refine pM_aln rfl rfl rfl ?_
      refine pM_gr rfl rfl rfl rfl ?_
      refine pM_iln rfl rfl ?_
      refine pM_iln rfl rfl ?_
      refine pM_qVi (as := [.inr (.inl (some 18)), .inl (.inl p1), .inl (.inl p2)]) (T := []) rfl rfl (fun C hC => cl_v hC rfl rfl rfl rfl) rfl (q_World_matterAt isW_18) ?_
      exact pM_ri rfl (Or.inl ⟨_, rfl, rfl, h⟩)
    · replace h := h.2 h4
      refine pM_ic rfl ki_m1 ?_
      refine pM_go rfl rfl ?_
      exact pM_ri rfl (Or.inl ⟨_, rfl, rfl, h⟩)
/-- 182: EarCode.needAlive(I)V -/
def W_E_needAlive (p1 : Int32) (N : Nat) (M : MM) (Q : Prop) (E : Nat → Prop) : Prop :=
  (((V_World_isAlive 18 p1 M) = 0 →
    E 1) ∧
   (¬ (V_World_isAlive 18 p1 M) = 0 →
    Q))
theorem q_E_needAlive {X : Option (List AI)} {N : Nat} {M : MM} {p1 : Int32} {Q : Prop} {E : Nat → Prop}  (h : W_E_needAlive p1 N M Q E) : pM X N 182 0 (ea_ar 0 [.inr (.inl (some 0)), .inl (.inl p1)]) [] M (Pe (Pu Q M) E M) := by
  refine pM_w (F2 := [(0, .inr (.inl (some 0))), (1, .inl (.inl p1))]) (fun L hL => lo_cons (lo_lk hL rfl) (lo_cons (lo_lk hL rfl) lo_nil)) ?_
  refine pM_aln rfl rfl rfl ?_
  refine pM_gr rfl rfl rfl rfl ?_
  refine pM_iln rfl rfl ?_
  refine pM_qVi (as := [.inr (.inl (some 18)), .inl (.inl p1)]) (T := []) rfl rfl (fun C hC => cl_v hC rfl rfl rfl rfl) rfl (q_World_isAlive isW_18) ?_
  refine pM_zne rfl rfl (fun h1 => ?_) (fun h1 => ?_)
  · replace h := h.2 h1
    exact pM_ru rfl (Or.inl ⟨rfl, rfl, h⟩)
  · replace h := h.1 h1
    exact pM_tw rfl rfl (fun _ => rfl) (Or.inr ⟨_, rfl, rfl, h⟩)
/-- 140: EarCode.matter(III)I -/
def W_E_matter (p1 : Int32) (p2 : Int32) (p3 : Int32) (N : Nat) (M : MM) (Q : Int32 → Prop) (E : Nat → Prop) : Prop :=
  W_E_needIndex p1 64 N M (W_E_needCitizen p2 N M (W_E_needAlive p2 N M (((p3 = 0 →
    W_Inquiry_forbiddenTo p2 p1 N M (fun r8 =>
      Q r8)) ∧
   (p3 = 1 →
    W_Inquiry_demandedOf p2 p1 N M (fun r10 =>
      Q r10)) ∧
   (p3 = 2 →
    W_Inquiry_allows p2 p1 N M (fun r12 =>
      ((r12 = 0 →
        Q 0) ∧
       (¬ r12 = 0 →
        Q 1)))) ∧
   (p3 = 3 →
    W_Inquiry_allows p2 p1 N M (fun r15 =>
      ((r15 = 0 →
        Q 0) ∧
       (¬ r15 = 0 →
        (((V_World_hasSeen 18 p2 p1 M) = 0 →
          Q 1) ∧
         (¬ (V_World_hasSeen 18 p2 p1 M) = 0 →
          Q 0)))))) ∧
   (¬ p3 = 0 → ¬ p3 = 1 → ¬ p3 = 2 → ¬ p3 = 3 → E 4))) (fun ce => E ce)) (fun ce => E ce)) (fun ce => E ce)
theorem q_E_matter {X : Option (List AI)} {N : Nat} {M : MM} {p1 : Int32} {p2 : Int32} {p3 : Int32} {Q : Int32 → Prop} {E : Nat → Prop}  (h : W_E_matter p1 p2 p3 N M Q E) : pM X N 140 0 (ea_ar 0 [.inr (.inl (some 0)), .inl (.inl p1), .inl (.inl p2), .inl (.inl p3)]) [] M (Pe (Pi Q M) E M) := by
  refine pM_w (F2 := [(0, .inr (.inl (some 0))), (1, .inl (.inl p1)), (2, .inl (.inl p2)), (3, .inl (.inl p3))]) (fun L hL => lo_cons (lo_lk hL rfl) (lo_cons (lo_lk hL rfl) (lo_cons (lo_lk hL rfl) (lo_cons (lo_lk hL rfl) lo_nil)))) ?_
  refine pM_iln rfl rfl ?_
  refine pM_bi rfl kb_64 ?_
  refine pM_qPue (as := [.inl (.inl p1), .inl (.inl 64)]) (T := []) rfl rfl (fun _ _ => rfl) rfl (q_E_needIndex  h) (fun h => ?_) (fun ce h => Or.inr ⟨_, rfl, rfl, h⟩)
  refine pM_aln rfl rfl rfl ?_
  refine pM_iln rfl rfl ?_
  refine pM_qPue (as := [.inr (.inl (some 0)), .inl (.inl p2)]) (T := []) rfl rfl (fun C hC => cl_v hC rfl rfl rfl rfl) rfl (q_E_needCitizen  h) (fun h => ?_) (fun ce h => Or.inr ⟨_, rfl, rfl, h⟩)
  refine pM_aln rfl rfl rfl ?_
  refine pM_iln rfl rfl ?_
  refine pM_qPue (as := [.inr (.inl (some 0)), .inl (.inl p2)]) (T := []) rfl rfl (fun C hC => cl_v hC rfl rfl rfl rfl) rfl (q_E_needAlive  h) (fun h => ?_) (fun ce h => Or.inr ⟨_, rfl, rfl, h⟩)
  refine pM_iln rfl rfl ?_
  refine pM_sw rfl rfl (fun h7 => ?_) (fun j o t h7 ho hto => ?_)
  · replace h := h.2.2.2.2 (sw_o h7 (by decide)) (sw_o h7 (by decide)) (sw_o h7 (by decide)) (sw_o h7 (by decide))
    exact pM_tw rfl rfl (fun _ => rfl) (Or.inr ⟨_, rfl, rfl, h⟩)
  · match j, h7, ho with
    | 0, h7, ho =>
      have e := Option.some.inj ho
      subst e
      have e := Option.some.inj hto
      subst e
      replace h := h.1 (sw_e h7 (by decide))
      refine pM_aln rfl rfl rfl ?_
      refine pM_gr rfl rfl rfl rfl ?_
      refine pM_iln rfl rfl ?_
      refine pM_iln rfl rfl ?_
      refine pM_qPi (as := [.inr (.inl (some 171)), .inl (.inl p2), .inl (.inl p1)]) (T := []) rfl rfl (fun C hC => cl_v hC rfl rfl rfl rfl) rfl (q_Inquiry_forbiddenTo  h) (fun r8 h => ?_)
      exact pM_ri rfl (Or.inl ⟨_, rfl, rfl, h⟩)
    | 1, h7, ho =>
      have e := Option.some.inj ho
      subst e
      have e := Option.some.inj hto
      subst e
      replace h := h.2.1 (sw_e h7 (by decide))
      refine pM_aln rfl rfl rfl ?_
      refine pM_gr rfl rfl rfl rfl ?_
      refine pM_iln rfl rfl ?_
      refine pM_iln rfl rfl ?_
      refine pM_qPi (as := [.inr (.inl (some 171)), .inl (.inl p2), .inl (.inl p1)]) (T := []) rfl rfl (fun C hC => cl_v hC rfl rfl rfl rfl) rfl (q_Inquiry_demandedOf  h) (fun r10 h => ?_)
      exact pM_ri rfl (Or.inl ⟨_, rfl, rfl, h⟩)
    | 2, h7, ho =>
      have e := Option.some.inj ho
      subst e
      have e := Option.some.inj hto
      subst e
      replace h := h.2.2.1 (sw_e h7 (by decide))
      refine pM_aln rfl rfl rfl ?_
      refine pM_gr rfl rfl rfl rfl ?_
      refine pM_iln rfl rfl ?_
      refine pM_iln rfl rfl ?_
      refine pM_qPi (as := [.inr (.inl (some 171)), .inl (.inl p2), .inl (.inl p1)]) (T := []) rfl rfl (fun C hC => cl_v hC rfl rfl rfl rfl) rfl (q_Inquiry_allows  h) (fun r12 h => ?_)
      refine pM_zeq rfl rfl (fun h14 => ?_) (fun h14 => ?_)
      · replace h := h.1 h14
        refine pM_ic rfl ki_0 ?_
        exact pM_ri rfl (Or.inl ⟨_, rfl, rfl, h⟩)
      · replace h := h.2 h14
        refine pM_ic rfl ki_1 ?_
        refine pM_go rfl rfl ?_
        exact pM_ri rfl (Or.inl ⟨_, rfl, rfl, h⟩)
    | 3, h7, ho =>
      have e := Option.some.inj ho
      subst e
      have e := Option.some.inj hto
      subst e
      replace h := h.2.2.2.1 (sw_e h7 (by decide))
      refine pM_aln rfl rfl rfl ?_
      refine pM_gr rfl rfl rfl rfl ?_
      refine pM_iln rfl rfl ?_
      refine pM_iln rfl rfl ?_
      refine pM_qPi (as := [.inr (.inl (some 171)), .inl (.inl p2), .inl (.inl p1)]) (T := []) rfl rfl (fun C hC => cl_v hC rfl rfl rfl rfl) rfl (q_Inquiry_allows  h) (fun r15 h => ?_)
      refine pM_zeq rfl rfl (fun h17 => ?_) (fun h17 => ?_)
      · replace h := h.1 h17
        refine pM_ic rfl ki_0 ?_
        exact pM_ri rfl (Or.inl ⟨_, rfl, rfl, h⟩)
      · replace h := h.2 h17
        refine pM_aln rfl rfl rfl ?_
        refine pM_gr rfl rfl rfl rfl ?_
        refine pM_iln rfl rfl ?_
        refine pM_iln rfl rfl ?_
        refine pM_qVi (as := [.inr (.inl (some 18)), .inl (.inl p2), .inl (.inl p1)]) (T := []) rfl rfl (fun C hC => cl_v hC rfl rfl rfl rfl) rfl (q_World_hasSeen isW_18) ?_
        refine pM_zne rfl rfl (fun h18 => ?_) (fun h18 => ?_)
        · replace h := h.2 h18
          refine pM_ic rfl ki_0 ?_
          exact pM_ri rfl (Or.inl ⟨_, rfl, rfl, h⟩)
        · replace h := h.1 h18
          refine pM_ic rfl ki_1 ?_
          refine pM_go rfl rfl ?_
          exact pM_ri rfl (Or.inl ⟨_, rfl, rfl, h⟩)
    | j + 4, _, ho => exact absurd ho (by simp)
/-- 141: EarCode.tell(II)I -/
def W_E_tell (p1 : Int32) (p2 : Int32) (N : Nat) (M : MM) (Q : Int32 → MM → Prop) (E : Nat → MM → Prop) : Prop :=
  W_E_needCitizen p1 N M (W_E_needClause p2 N M (W_E_needAlive p1 N M ((((V_E_bit (M.1 19 (ni p1)) p2 M) = 1 →
    E 1 M) ∧
   (¬ (V_E_bit (M.1 19 (ni p1)) p2 M) = 1 →
    W_Memory_remember  N M (fun M9 =>
      Q (V_World_knownBy 18 p1 (wi M9 19 (ni p1) ((M9.1 19 (ni p1)) ||| (sl 1 p2)))) (wi M9 19 (ni p1) ((M9.1 19 (ni p1)) ||| (sl 1 p2))))))) (fun ce => E ce M)) (fun ce => E ce M)) (fun ce => E ce M)
theorem q_E_tell {X : Option (List AI)} {N : Nat} {M : MM} {p1 : Int32} {p2 : Int32} {Q : Int32 → MM → Prop} {E : Nat → MM → Prop}  (h : W_E_tell p1 p2 N M Q E) : pM X N 141 0 (ea_ar 0 [.inr (.inl (some 0)), .inl (.inl p1), .inl (.inl p2)]) [] M (Re (Ri Q) E) := by
  refine pM_w (F2 := [(0, .inr (.inl (some 0))), (1, .inl (.inl p1)), (2, .inl (.inl p2))]) (fun L hL => lo_cons (lo_lk hL rfl) (lo_cons (lo_lk hL rfl) (lo_cons (lo_lk hL rfl) lo_nil))) ?_
  refine pM_aln rfl rfl rfl ?_
  refine pM_iln rfl rfl ?_
  refine pM_qPue (as := [.inr (.inl (some 0)), .inl (.inl p1)]) (T := []) rfl rfl (fun C hC => cl_v hC rfl rfl rfl rfl) rfl (q_E_needCitizen  h) (fun h => ?_) (fun ce h => Or.inr ⟨_, rfl, h⟩)
  refine pM_aln rfl rfl rfl ?_
  refine pM_iln rfl rfl ?_
  refine pM_qPue (as := [.inr (.inl (some 0)), .inl (.inl p2)]) (T := []) rfl rfl (fun C hC => cl_v hC rfl rfl rfl rfl) rfl (q_E_needClause  h) (fun h => ?_) (fun ce h => Or.inr ⟨_, rfl, h⟩)
  refine pM_aln rfl rfl rfl ?_
  refine pM_iln rfl rfl ?_
  refine pM_qPue (as := [.inr (.inl (some 0)), .inl (.inl p1)]) (T := []) rfl rfl (fun C hC => cl_v hC rfl rfl rfl rfl) rfl (q_E_needAlive  h) (fun h => ?_) (fun ce h => Or.inr ⟨_, rfl, h⟩)
  refine pM_aln rfl rfl rfl ?_
  refine pM_gr rfl rfl rfl rfl ?_
  refine pM_gr rfl rfl rfl rfl ?_
  refine pM_iln rfl rfl ?_
  refine pM_ai rfl rfl (one_p _) ?_
  refine pM_iln rfl rfl ?_
  refine pM_qVi (as := [.inl (.inl (M.1 19 (ni p1))), .inl (.inl p2)]) (T := []) rfl rfl (fun _ _ => rfl) rfl (q_E_bit ) ?_
  refine pM_ic rfl ki_1 ?_
  refine pM_cne rfl rfl (fun h7 => ?_) (fun h7 => ?_)
  · replace h := h.2 h7
    refine pM_aln rfl rfl rfl ?_
    refine pM_gr rfl rfl rfl rfl ?_
    refine pM_aln rfl rfl rfl ?_
    refine pM_gr rfl rfl rfl rfl ?_
    refine pM_qRu (as := [.inr (.inl (some 44)), .inr (.inl (some 18))]) (T := []) rfl rfl (fun C hC => cl_v hC rfl rfl rfl rfl) rfl (q_Memory_remember  h) (fun M9 h => ?_)
    refine pM_aln rfl rfl rfl ?_
    refine pM_gr rfl rfl rfl rfl ?_
    refine pM_gr rfl rfl rfl rfl ?_
    refine pM_iln rfl rfl ?_
    refine pM_p (pc' := 62) (S' := [.inl (.inl p1), .inr (.inl (some 19)), .inl (.inl p1), .inr (.inl (some 19))]) rfl rfl (fun _ => rfl) ?_
    refine pM_ai rfl rfl (one_p _) ?_
    refine pM_ic rfl ki_1 ?_
    refine pM_iln rfl rfl ?_
    refine pM_shl rfl ?_
    refine pM_or rfl ?_
    refine pM_sa rfl rfl (one_p _) ?_
    refine pM_aln rfl rfl rfl ?_
    refine pM_gr rfl rfl rfl rfl ?_
    refine pM_iln rfl rfl ?_
    refine pM_qVi (as := [.inr (.inl (some 18)), .inl (.inl p1)]) (T := []) rfl rfl (fun C hC => cl_v hC rfl rfl rfl rfl) rfl (q_World_knownBy isW_18) ?_
    exact pM_ri rfl (Or.inl ⟨_, rfl, h⟩)
  · replace h := h.1 h7
    exact pM_tw rfl rfl (fun _ => rfl) (Or.inr ⟨_, rfl, h⟩)
/-- 142: EarCode.die(I)I -/
def W_E_die (p1 : Int32) (N : Nat) (M : MM) (Q : Int32 → MM → Prop) (E : Nat → MM → Prop) : Prop :=
  W_E_needCitizen p1 N M (W_E_needAlive p1 N M (W_Memory_remember  N M (fun M6 =>
    W_World_inForce 18 N M6 (fun r7 =>
      W_World_bury 18 p1 N M6 (fun M10 =>
        W_World_inForce 18 N M10 (fun r11 =>
          Q (r7 &&& (r11 ^^^ (-1))) M10))))) (fun ce => E ce M)) (fun ce => E ce M)
theorem q_E_die {X : Option (List AI)} {N : Nat} {M : MM} {p1 : Int32} {Q : Int32 → MM → Prop} {E : Nat → MM → Prop}  (h : W_E_die p1 N M Q E) : pM X N 142 0 (ea_ar 0 [.inr (.inl (some 0)), .inl (.inl p1)]) [] M (Re (Ri Q) E) := by
  refine pM_w (F2 := [(0, .inr (.inl (some 0))), (1, .inl (.inl p1))]) (fun L hL => lo_cons (lo_lk hL rfl) (lo_cons (lo_lk hL rfl) lo_nil)) ?_
  refine pM_aln rfl rfl rfl ?_
  refine pM_iln rfl rfl ?_
  refine pM_qPue (as := [.inr (.inl (some 0)), .inl (.inl p1)]) (T := []) rfl rfl (fun C hC => cl_v hC rfl rfl rfl rfl) rfl (q_E_needCitizen  h) (fun h => ?_) (fun ce h => Or.inr ⟨_, rfl, h⟩)
  refine pM_aln rfl rfl rfl ?_
  refine pM_iln rfl rfl ?_
  refine pM_qPue (as := [.inr (.inl (some 0)), .inl (.inl p1)]) (T := []) rfl rfl (fun C hC => cl_v hC rfl rfl rfl rfl) rfl (q_E_needAlive  h) (fun h => ?_) (fun ce h => Or.inr ⟨_, rfl, h⟩)
  refine pM_aln rfl rfl rfl ?_
  refine pM_gr rfl rfl rfl rfl ?_
  refine pM_aln rfl rfl rfl ?_
  refine pM_gr rfl rfl rfl rfl ?_
  refine pM_qRu (as := [.inr (.inl (some 44)), .inr (.inl (some 18))]) (T := []) rfl rfl (fun C hC => cl_v hC rfl rfl rfl rfl) rfl (q_Memory_remember  h) (fun M6 h => ?_)
  refine pM_aln rfl rfl rfl ?_
  refine pM_gr rfl rfl rfl rfl ?_
  refine pM_qPi (as := [.inr (.inl (some 18))]) (T := []) rfl rfl (fun C hC => cl_v hC rfl rfl rfl rfl) rfl (q_World_inForce isW_18 h) (fun r7 h => ?_)
  refine pM_isn rfl rfl ?_
  refine pM_aln rfl rfl rfl ?_
  refine pM_gr rfl rfl rfl rfl ?_
  refine pM_iln rfl rfl ?_
  refine pM_qRu (as := [.inr (.inl (some 18)), .inl (.inl p1)]) (T := []) rfl rfl (fun C hC => cl_v hC rfl rfl rfl rfl) rfl (q_World_bury isW_18 h) (fun M10 h => ?_)
  refine pM_iln rfl rfl ?_
  refine pM_aln rfl rfl rfl ?_
  refine pM_gr rfl rfl rfl rfl ?_
  refine pM_qPi (as := [.inr (.inl (some 18))]) (T := [.inl (.inl r7)]) rfl rfl (fun C hC => cl_v hC rfl rfl rfl rfl) rfl (q_World_inForce isW_18 h) (fun r11 h => ?_)
  refine pM_ic rfl ki_m1 ?_
  refine pM_xor rfl ?_
  refine pM_and rfl ?_
  exact pM_ri rfl (Or.inl ⟨_, rfl, h⟩)
/-- 184: EarCode.needTwo(II)V -/
def W_E_needTwo (p0 : Int32) (p1 : Int32) (N : Nat) (M : MM) (Q : Prop) (E : Nat → Prop) : Prop :=
  ((p0 = p1 →
    E 0) ∧
   (¬ p0 = p1 →
    Q))
theorem q_E_needTwo {X : Option (List AI)} {N : Nat} {M : MM} {p0 : Int32} {p1 : Int32} {Q : Prop} {E : Nat → Prop}  (h : W_E_needTwo p0 p1 N M Q E) : pM X N 184 0 (ea_ar 0 [.inl (.inl p0), .inl (.inl p1)]) [] M (Pe (Pu Q M) E M) := by
  refine pM_w (F2 := [(0, .inl (.inl p0)), (1, .inl (.inl p1))]) (fun L hL => lo_cons (lo_lk hL rfl) (lo_cons (lo_lk hL rfl) lo_nil)) ?_
  refine pM_iln rfl rfl ?_
  refine pM_iln rfl rfl ?_
  refine pM_cne rfl rfl (fun h1 => ?_) (fun h1 => ?_)
  · replace h := h.2 h1
    exact pM_ru rfl (Or.inl ⟨rfl, rfl, h⟩)
  · replace h := h.1 h1
    exact pM_tw rfl rfl (fun _ => rfl) (Or.inr ⟨_, rfl, rfl, h⟩)
/-- 143: EarCode.wed(II)I -/
def W_E_wed (p1 : Int32) (p2 : Int32) (N : Nat) (M : MM) (Q : Int32 → MM → Prop) (E : Nat → MM → Prop) : Prop :=
  W_E_needCitizen p1 N M (W_E_needCitizen p2 N M (W_E_needTwo p1 p2 N M (W_E_needAlive p1 N M (W_E_needAlive p2 N M ((((M.1 22 (ni p1)) = (-1) →
    (((M.1 22 (ni p2)) = (-1) →
      W_Memory_remember  N M (fun M14 =>
        W_World_marry 18 p1 p2 N M14 (fun M16 =>
          Q (M16.1 19 (ni p1)) M16))) ∧
     (¬ (M.1 22 (ni p2)) = (-1) →
      E 1 M))) ∧
   (¬ (M.1 22 (ni p1)) = (-1) →
    E 1 M))) (fun ce => E ce M)) (fun ce => E ce M)) (fun ce => E ce M)) (fun ce => E ce M)) (fun ce => E ce M)
theorem q_E_wed {X : Option (List AI)} {N : Nat} {M : MM} {p1 : Int32} {p2 : Int32} {Q : Int32 → MM → Prop} {E : Nat → MM → Prop}  (h : W_E_wed p1 p2 N M Q E) : pM X N 143 0 (ea_ar 0 [.inr (.inl (some 0)), .inl (.inl p1), .inl (.inl p2)]) [] M (Re (Ri Q) E) := by
  refine pM_w (F2 := [(0, .inr (.inl (some 0))), (1, .inl (.inl p1)), (2, .inl (.inl p2))]) (fun L hL => lo_cons (lo_lk hL rfl) (lo_cons (lo_lk hL rfl) (lo_cons (lo_lk hL rfl) lo_nil))) ?_
  refine pM_aln rfl rfl rfl ?_
  refine pM_iln rfl rfl ?_
  refine pM_qPue (as := [.inr (.inl (some 0)), .inl (.inl p1)]) (T := []) rfl rfl (fun C hC => cl_v hC rfl rfl rfl rfl) rfl (q_E_needCitizen  h) (fun h => ?_) (fun ce h => Or.inr ⟨_, rfl, h⟩)
  refine pM_aln rfl rfl rfl ?_
  refine pM_iln rfl rfl ?_
  refine pM_qPue (as := [.inr (.inl (some 0)), .inl (.inl p2)]) (T := []) rfl rfl (fun C hC => cl_v hC rfl rfl rfl rfl) rfl (q_E_needCitizen  h) (fun h => ?_) (fun ce h => Or.inr ⟨_, rfl, h⟩)
  refine pM_iln rfl rfl ?_
  refine pM_iln rfl rfl ?_
  refine pM_qPue (as := [.inl (.inl p1), .inl (.inl p2)]) (T := []) rfl rfl (fun _ _ => rfl) rfl (q_E_needTwo  h) (fun h => ?_) (fun ce h => Or.inr ⟨_, rfl, h⟩)
  refine pM_aln rfl rfl rfl ?_
  refine pM_iln rfl rfl ?_
  refine pM_qPue (as := [.inr (.inl (some 0)), .inl (.inl p1)]) (T := []) rfl rfl (fun C hC => cl_v hC rfl rfl rfl rfl) rfl (q_E_needAlive  h) (fun h => ?_) (fun ce h => Or.inr ⟨_, rfl, h⟩)
  refine pM_aln rfl rfl rfl ?_
  refine pM_iln rfl rfl ?_
  refine pM_qPue (as := [.inr (.inl (some 0)), .inl (.inl p2)]) (T := []) rfl rfl (fun C hC => cl_v hC rfl rfl rfl rfl) rfl (q_E_needAlive  h) (fun h => ?_) (fun ce h => Or.inr ⟨_, rfl, h⟩)
  refine pM_aln rfl rfl rfl ?_
  refine pM_gr rfl rfl rfl rfl ?_
  refine pM_gr rfl rfl rfl rfl ?_
  refine pM_iln rfl rfl ?_
  refine pM_ai rfl rfl (one_p _) ?_
  refine pM_ic rfl ki_m1 ?_
  refine pM_cne rfl rfl (fun h11 => ?_) (fun h11 => ?_)
  · replace h := h.2 h11
    exact pM_tw rfl rfl (fun _ => rfl) (Or.inr ⟨_, rfl, h⟩)
  · replace h := h.1 h11
    refine pM_aln rfl rfl rfl ?_
    refine pM_gr rfl rfl rfl rfl ?_
    refine pM_gr rfl rfl rfl rfl ?_
    refine pM_iln rfl rfl ?_
    refine pM_ai rfl rfl (one_p _) ?_
    refine pM_ic rfl ki_m1 ?_
    refine pM_ceq rfl rfl (fun h12 => ?_) (fun h12 => ?_)
    · replace h := h.1 h12
      refine pM_aln rfl rfl rfl ?_
      refine pM_gr rfl rfl rfl rfl ?_
      refine pM_aln rfl rfl rfl ?_
      refine pM_gr rfl rfl rfl rfl ?_
      refine pM_qRu (as := [.inr (.inl (some 44)), .inr (.inl (some 18))]) (T := []) rfl rfl (fun C hC => cl_v hC rfl rfl rfl rfl) rfl (q_Memory_remember  h) (fun M14 h => ?_)
      refine pM_aln rfl rfl rfl ?_
      refine pM_gr rfl rfl rfl rfl ?_
      refine pM_iln rfl rfl ?_
      refine pM_iln rfl rfl ?_
      refine pM_qRu (as := [.inr (.inl (some 18)), .inl (.inl p1), .inl (.inl p2)]) (T := []) rfl rfl (fun C hC => cl_v hC rfl rfl rfl rfl) rfl (q_World_marry isW_18 h) (fun M16 h => ?_)
      refine pM_aln rfl rfl rfl ?_
      refine pM_gr rfl rfl rfl rfl ?_
      refine pM_gr rfl rfl rfl rfl ?_
      refine pM_iln rfl rfl ?_
      refine pM_ai rfl rfl (one_p _) ?_
      exact pM_ri rfl (Or.inl ⟨_, rfl, h⟩)
    · replace h := h.2 h12
      exact pM_tw rfl rfl (fun _ => rfl) (Or.inr ⟨_, rfl, h⟩)
/-- 144: EarCode.baby(I)I -/
def W_E_baby (p1 : Int32) (N : Nat) (M : MM) (Q : Int32 → MM → Prop) (E : Nat → MM → Prop) : Prop :=
  W_E_needCitizen p1 N M (W_E_needAlive p1 N M ((((M.1 18 0) < 10 →
    W_Memory_remember  N M (fun M7 =>
      W_World_bear 18 p1 N M7 (fun r8 M9 =>
        Q r8 M9))) ∧
   (¬ (M.1 18 0) < 10 →
    E 3 M))) (fun ce => E ce M)) (fun ce => E ce M)
theorem q_E_baby {X : Option (List AI)} {N : Nat} {M : MM} {p1 : Int32} {Q : Int32 → MM → Prop} {E : Nat → MM → Prop}  (h : W_E_baby p1 N M Q E) : pM X N 144 0 (ea_ar 0 [.inr (.inl (some 0)), .inl (.inl p1)]) [] M (Re (Ri Q) E) := by
  refine pM_w (F2 := [(0, .inr (.inl (some 0))), (1, .inl (.inl p1))]) (fun L hL => lo_cons (lo_lk hL rfl) (lo_cons (lo_lk hL rfl) lo_nil)) ?_
  refine pM_aln rfl rfl rfl ?_
  refine pM_iln rfl rfl ?_
  refine pM_qPue (as := [.inr (.inl (some 0)), .inl (.inl p1)]) (T := []) rfl rfl (fun C hC => cl_v hC rfl rfl rfl rfl) rfl (q_E_needCitizen  h) (fun h => ?_) (fun ce h => Or.inr ⟨_, rfl, h⟩)
  refine pM_aln rfl rfl rfl ?_
  refine pM_iln rfl rfl ?_
  refine pM_qPue (as := [.inr (.inl (some 0)), .inl (.inl p1)]) (T := []) rfl rfl (fun C hC => cl_v hC rfl rfl rfl rfl) rfl (q_E_needAlive  h) (fun h => ?_) (fun ce h => Or.inr ⟨_, rfl, h⟩)
  refine pM_aln rfl rfl rfl ?_
  refine pM_gr rfl rfl rfl rfl ?_
  refine pM_gi rfl rfl rfl rfl ?_
  refine pM_bi rfl kb_10 ?_
  refine pM_clt rfl rfl (fun h5 => ?_) (fun h5 => ?_)
  · replace h := h.1 h5
    refine pM_aln rfl rfl rfl ?_
    refine pM_gr rfl rfl rfl rfl ?_
    refine pM_aln rfl rfl rfl ?_
    refine pM_gr rfl rfl rfl rfl ?_
    refine pM_qRu (as := [.inr (.inl (some 44)), .inr (.inl (some 18))]) (T := []) rfl rfl (fun C hC => cl_v hC rfl rfl rfl rfl) rfl (q_Memory_remember  h) (fun M7 h => ?_)
    refine pM_aln rfl rfl rfl ?_
    refine pM_gr rfl rfl rfl rfl ?_
    refine pM_iln rfl rfl ?_
    refine pM_qRi (as := [.inr (.inl (some 18)), .inl (.inl p1)]) (T := []) rfl rfl (fun C hC => cl_v hC rfl rfl rfl rfl) rfl (q_World_bear isW_18 h) (fun r8 M9 h => ?_)
    exact pM_ri rfl (Or.inl ⟨_, rfl, h⟩)
  · replace h := h.2 h5
    exact pM_tw rfl rfl (fun _ => rfl) (Or.inr ⟨_, rfl, h⟩)
/-- 145: EarCode.release(I)I -/
def W_E_release (p1 : Int32) (N : Nat) (M : MM) (Q : Int32 → MM → Prop) (E : Nat → MM → Prop) : Prop :=
  W_E_needCitizen p1 N M (W_E_needAlive p1 N M ((((M.1 21 (ni p1)) = 0 →
    E 1 M) ∧
   (¬ (M.1 21 (ni p1)) = 0 →
    W_Memory_remember  N M (fun M7 =>
      Q (M.1 21 (ni p1)) (wi M7 21 (ni p1) 0))))) (fun ce => E ce M)) (fun ce => E ce M)
theorem q_E_release {X : Option (List AI)} {N : Nat} {M : MM} {p1 : Int32} {Q : Int32 → MM → Prop} {E : Nat → MM → Prop}  (h : W_E_release p1 N M Q E) : pM X N 145 0 (ea_ar 0 [.inr (.inl (some 0)), .inl (.inl p1)]) [] M (Re (Ri Q) E) := by
  refine pM_w (F2 := [(0, .inr (.inl (some 0))), (1, .inl (.inl p1))]) (fun L hL => lo_cons (lo_lk hL rfl) (lo_cons (lo_lk hL rfl) lo_nil)) ?_
  refine pM_aln rfl rfl rfl ?_
  refine pM_iln rfl rfl ?_
  refine pM_qPue (as := [.inr (.inl (some 0)), .inl (.inl p1)]) (T := []) rfl rfl (fun C hC => cl_v hC rfl rfl rfl rfl) rfl (q_E_needCitizen  h) (fun h => ?_) (fun ce h => Or.inr ⟨_, rfl, h⟩)
  refine pM_aln rfl rfl rfl ?_
  refine pM_iln rfl rfl ?_
  refine pM_qPue (as := [.inr (.inl (some 0)), .inl (.inl p1)]) (T := []) rfl rfl (fun C hC => cl_v hC rfl rfl rfl rfl) rfl (q_E_needAlive  h) (fun h => ?_) (fun ce h => Or.inr ⟨_, rfl, h⟩)
  refine pM_aln rfl rfl rfl ?_
  refine pM_gr rfl rfl rfl rfl ?_
  refine pM_gr rfl rfl rfl rfl ?_
  refine pM_iln rfl rfl ?_
  refine pM_ai rfl rfl (one_p _) ?_
  refine pM_isn rfl rfl ?_
  refine pM_iln rfl rfl ?_
  refine pM_zne rfl rfl (fun h5 => ?_) (fun h5 => ?_)
  · replace h := h.2 h5
    refine pM_aln rfl rfl rfl ?_
    refine pM_gr rfl rfl rfl rfl ?_
    refine pM_aln rfl rfl rfl ?_
    refine pM_gr rfl rfl rfl rfl ?_
    refine pM_qRu (as := [.inr (.inl (some 44)), .inr (.inl (some 18))]) (T := []) rfl rfl (fun C hC => cl_v hC rfl rfl rfl rfl) rfl (q_Memory_remember  h) (fun M7 h => ?_)
    refine pM_aln rfl rfl rfl ?_
    refine pM_gr rfl rfl rfl rfl ?_
    refine pM_gr rfl rfl rfl rfl ?_
    refine pM_iln rfl rfl ?_
    refine pM_ic rfl ki_0 ?_
    refine pM_sa rfl rfl (one_p _) ?_
    refine pM_iln rfl rfl ?_
    exact pM_ri rfl (Or.inl ⟨_, rfl, h⟩)
  · replace h := h.1 h5
    exact pM_tw rfl rfl (fun _ => rfl) (Or.inr ⟨_, rfl, h⟩)
/-- 183: EarCode.needNumber(III)V -/
def W_E_needNumber (p0 : Int32) (p1 : Int32) (p2 : Int32) (N : Nat) (M : MM) (Q : Prop) (E : Nat → Prop) : Prop :=
  ((p0 < p1 →
    E 0) ∧
   (¬ p0 < p1 →
    ((p2 < p0 →
      E 0) ∧
     (¬ p2 < p0 →
      Q))))
theorem q_E_needNumber {X : Option (List AI)} {N : Nat} {M : MM} {p0 : Int32} {p1 : Int32} {p2 : Int32} {Q : Prop} {E : Nat → Prop}  (h : W_E_needNumber p0 p1 p2 N M Q E) : pM X N 183 0 (ea_ar 0 [.inl (.inl p0), .inl (.inl p1), .inl (.inl p2)]) [] M (Pe (Pu Q M) E M) := by
  refine pM_w (F2 := [(0, .inl (.inl p0)), (1, .inl (.inl p1)), (2, .inl (.inl p2))]) (fun L hL => lo_cons (lo_lk hL rfl) (lo_cons (lo_lk hL rfl) (lo_cons (lo_lk hL rfl) lo_nil))) ?_
  refine pM_iln rfl rfl ?_
  refine pM_iln rfl rfl ?_
  refine pM_clt rfl rfl (fun h1 => ?_) (fun h1 => ?_)
  · replace h := h.1 h1
    exact pM_tw rfl rfl (fun _ => rfl) (Or.inr ⟨_, rfl, rfl, h⟩)
  · replace h := h.2 h1
    refine pM_iln rfl rfl ?_
    refine pM_iln rfl rfl ?_
    refine pM_cle rfl rfl (fun h2 => ?_) (fun h2 => ?_)
    · replace h := h.2 h2
      exact pM_ru rfl (Or.inl ⟨rfl, rfl, h⟩)
    · replace h := h.1 h2
      exact pM_tw rfl rfl (fun _ => rfl) (Or.inr ⟨_, rfl, rfl, h⟩)
