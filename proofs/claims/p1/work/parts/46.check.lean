/-! the check of one case on one box of scripts -/
noncomputable def fx_ok (r : Option FR) : Bool := @Option.rec FR (fun _ => Bool) false (fun r => @Sum.rec (Option FV) Nat (fun _ => Bool) (fun v => @Option.rec FV (fun _ => Bool) true (fun _ => false) v) (fun _ => false) r.1) r
noncomputable def fx_c (pc : Nat) (X : List AI) : Bool := fx_ok (fx_w X 30 1000 pc tb_FL [] (tb_t, 216, 22951))
theorem fx_c_ok {pc : Nat} {X : List AI} (h : fx_c pc X = true) : ea_v (tb_P (some X)) (ea_R (tb_P (some X)) 30) 600002 7302232 1000 pc tb_L [] tb_C 216 22951 = true := by
  unfold fx_c fx_ok at h
  cases hw : fx_w X 30 1000 pc tb_FL [] (tb_t, 216, 22951) with
  | none => rw [hw] at h; cases h
  | some r =>
    rw [hw] at h
    obtain ⟨o, g⟩ := r
    cases o with
    | inr n => cases h
    | inl v =>
      cases v with
      | some v => cases h
      | none => exact fx_w_ok 1000 pc tb_FL [] tb_t tb_C 216 22951 _ tb_ft0 hw rfl
