/-! THE LAW: its wrappers, each catches what its call may throw (printed by wip/eq/gen93.py) -/
set_option maxRecDepth 20000 in
theorem wz_code (X : Option (List AI)) {a b im T H : Int} {C : List AC} {SY : Option AV → MM → Prop} {SE : Nat → MM → Prop} (hS : lt_S a b T H C) (hc : ok_ (tb_P X) 133 0 (ea_ar 0 [.inr (.inl (some 0))]) [] C (fun o C' => (us_P im C C' ∧ en_P 1 [0, 1] o) ∧ JE SY SE o C')) : okb (tb_P X) 1 326 0 (ea_ar 0 [.inr (.inl (some 0)), .inr (.inl (some 215))]) [] C (wz_K [(0, Int32.ofInt 1), (1, Int32.ofInt 2)] 0 im T H SY SE) := by
  obtain ⟨xs, x1, -, -⟩ := hI_f hS.1 (show tb_G 0 = some (.inl (11, _)) from rfl)
  refine okb_p rfl rfl rfl ?_
  refine okb_p rfl rfl rfl ?_
  refine okb_p rfl rfl rfl ?_
  refine okb_cv (N := 0) (N' := 1) (mj := 133) (as := []) (T := [.inl (.inl (Int32.ofInt 0)), .inr (.inl (some 215))]) rfl rfl x1 rfl rfl rfl (okb_post (okb_of hc) (fun o C' hq => ?_))
  obtain ⟨⟨hP, hE⟩, M1, hm, hJ⟩ := hq
  have hS' : lt_S 0 im T H C' := lt_cm hS hP
  cases o with
  | inl v =>
    obtain ⟨y, rfl⟩ := hE
    have hY : SY (some (.inl (.inl y))) M1 := by
      rcases hJ with ⟨v, e, h⟩ | ⟨ce, e, -⟩
      · cases e; exact h
      · cases e
    obtain ⟨d, us, u1⟩ := lt_215 hS'
    show okb (tb_P X) 0 326 6 _ [.inl (.inl y), .inl (.inl (Int32.ofInt 0)), .inr (.inl (some 215))] C' _
    refine okb_p rfl rfl rfl ?_
    refine okb_ls rfl u1 (ix_of (x := Int32.ofInt 0) (j := 0) (by decide) (by decide)) ?_
    refine okb_p rfl rfl rfl ?_
    refine okb_p rfl rfl rfl ?_
    exact okb_rv (ok_r rfl rfl rfl rfl rfl ⟨⟨_, rfl⟩, lt_out hS' u1 _, _, rfl, Or.inl ⟨rfl, _, _, M1, rfl, hY, mm_z hm u1 _⟩⟩)
  | inr ce =>
    have hX : SE ce M1 := by
      rcases hJ with ⟨v, e, -⟩ | ⟨c2, e, h⟩
      · cases e
      · cases e; exact h
    have hm2 : ce ∈ [0, 1] := hE
    rcases List.mem_cons.mp hm2 with rfl | hm2
    · refine ⟨rfl, _, rfl, ?_⟩
      refine okb_p rfl rfl rfl ?_
      refine okb_p rfl rfl rfl ?_
      exact okb_rv (ok_r rfl rfl rfl rfl rfl ⟨⟨_, rfl⟩, hS', _, rfl, Or.inr ⟨0, M1, .head _, hX, hm⟩⟩)
    rcases List.mem_cons.mp hm2 with rfl | hm2
    · refine ⟨rfl, _, rfl, ?_⟩
      refine okb_p rfl rfl rfl ?_
      refine okb_p rfl rfl rfl ?_
      exact okb_rv (ok_r rfl rfl rfl rfl rfl ⟨⟨_, rfl⟩, hS', _, rfl, Or.inr ⟨1, M1, .tail _ (.head _), hX, hm⟩⟩)
    exact nomatch hm2
set_option maxRecDepth 20000 in
theorem wz_republic (X : Option (List AI)) {a b im T H : Int} {C : List AC} {SY : Option AV → MM → Prop} {SE : Nat → MM → Prop} (hS : lt_S a b T H C) (hc : ok_ (tb_P X) 134 0 (ea_ar 0 [.inr (.inl (some 0))]) [] C (fun o C' => (us_P im C C' ∧ en_P 1 [0, 3] o) ∧ JE SY SE o C')) : okb (tb_P X) 1 327 0 (ea_ar 0 [.inr (.inl (some 0)), .inr (.inl (some 215))]) [] C (wz_K [(0, Int32.ofInt 1), (3, Int32.ofInt 2)] 0 im T H SY SE) := by
  obtain ⟨xs, x1, -, -⟩ := hI_f hS.1 (show tb_G 0 = some (.inl (11, _)) from rfl)
  refine okb_p rfl rfl rfl ?_
  refine okb_p rfl rfl rfl ?_
  refine okb_p rfl rfl rfl ?_
  refine okb_cv (N := 0) (N' := 1) (mj := 134) (as := []) (T := [.inl (.inl (Int32.ofInt 0)), .inr (.inl (some 215))]) rfl rfl x1 rfl rfl rfl (okb_post (okb_of hc) (fun o C' hq => ?_))
  obtain ⟨⟨hP, hE⟩, M1, hm, hJ⟩ := hq
  have hS' : lt_S 0 im T H C' := lt_cm hS hP
  cases o with
  | inl v =>
    obtain ⟨y, rfl⟩ := hE
    have hY : SY (some (.inl (.inl y))) M1 := by
      rcases hJ with ⟨v, e, h⟩ | ⟨ce, e, -⟩
      · cases e; exact h
      · cases e
    obtain ⟨d, us, u1⟩ := lt_215 hS'
    show okb (tb_P X) 0 327 6 _ [.inl (.inl y), .inl (.inl (Int32.ofInt 0)), .inr (.inl (some 215))] C' _
    refine okb_p rfl rfl rfl ?_
    refine okb_ls rfl u1 (ix_of (x := Int32.ofInt 0) (j := 0) (by decide) (by decide)) ?_
    refine okb_p rfl rfl rfl ?_
    refine okb_p rfl rfl rfl ?_
    exact okb_rv (ok_r rfl rfl rfl rfl rfl ⟨⟨_, rfl⟩, lt_out hS' u1 _, _, rfl, Or.inl ⟨rfl, _, _, M1, rfl, hY, mm_z hm u1 _⟩⟩)
  | inr ce =>
    have hX : SE ce M1 := by
      rcases hJ with ⟨v, e, -⟩ | ⟨c2, e, h⟩
      · cases e
      · cases e; exact h
    have hm2 : ce ∈ [0, 3] := hE
    rcases List.mem_cons.mp hm2 with rfl | hm2
    · refine ⟨rfl, _, rfl, ?_⟩
      refine okb_p rfl rfl rfl ?_
      refine okb_p rfl rfl rfl ?_
      exact okb_rv (ok_r rfl rfl rfl rfl rfl ⟨⟨_, rfl⟩, hS', _, rfl, Or.inr ⟨0, M1, .head _, hX, hm⟩⟩)
    rcases List.mem_cons.mp hm2 with rfl | hm2
    · refine ⟨rfl, _, rfl, ?_⟩
      refine okb_p rfl rfl rfl ?_
      refine okb_p rfl rfl rfl ?_
      exact okb_rv (ok_r rfl rfl rfl rfl rfl ⟨⟨_, rfl⟩, hS', _, rfl, Or.inr ⟨3, M1, .tail _ (.head _), hX, hm⟩⟩)
    exact nomatch hm2
set_option maxRecDepth 20000 in
theorem wz_clause (X : Option (List AI)) {a b sz im T H : Int} {C : List AC} {y1 y2 : Int32} {SY : Option AV → MM → Prop} {SE : Nat → MM → Prop} (hS : lt_S a b T H C) (hc : ok_ (tb_P X) 136 0 (ea_ar 0 [.inr (.inl (some 0)), .inl (.inl y1), .inl (.inl y2)]) [] C (fun o C' => (cm_P sz im C C' ∧ en_P 1 [2, 4] o) ∧ JE SY SE o C')) : okb (tb_P X) 1 328 0 (ea_ar 0 [.inr (.inl (some 0)), .inl (.inl y1), .inl (.inl y2), .inr (.inl (some 215))]) [] C (wz_K [(2, Int32.ofInt 1), (4, Int32.ofInt 2)] sz im T H SY SE) := by
  obtain ⟨xs, x1, -, -⟩ := hI_f hS.1 (show tb_G 0 = some (.inl (11, _)) from rfl)
  refine okb_p rfl rfl rfl ?_
  refine okb_p rfl rfl rfl ?_
  refine okb_p rfl rfl rfl ?_
  refine okb_p rfl rfl rfl ?_
  refine okb_p rfl rfl rfl ?_
  refine okb_cv (N := 0) (N' := 1) (mj := 136) (as := [.inl (.inl y1), .inl (.inl y2)]) (T := [.inl (.inl (Int32.ofInt 0)), .inr (.inl (some 215))]) rfl rfl x1 rfl rfl rfl (okb_post (okb_of hc) (fun o C' hq => ?_))
  obtain ⟨⟨hP, hE⟩, M1, hm, hJ⟩ := hq
  have hS' : lt_S sz im T H C' := lt_cm hS hP
  cases o with
  | inl v =>
    obtain ⟨y, rfl⟩ := hE
    have hY : SY (some (.inl (.inl y))) M1 := by
      rcases hJ with ⟨v, e, h⟩ | ⟨ce, e, -⟩
      · cases e; exact h
      · cases e
    obtain ⟨d, us, u1⟩ := lt_215 hS'
    show okb (tb_P X) 0 328 8 _ [.inl (.inl y), .inl (.inl (Int32.ofInt 0)), .inr (.inl (some 215))] C' _
    refine okb_p rfl rfl rfl ?_
    refine okb_ls rfl u1 (ix_of (x := Int32.ofInt 0) (j := 0) (by decide) (by decide)) ?_
    refine okb_p rfl rfl rfl ?_
    refine okb_p rfl rfl rfl ?_
    exact okb_rv (ok_r rfl rfl rfl rfl rfl ⟨⟨_, rfl⟩, lt_out hS' u1 _, _, rfl, Or.inl ⟨rfl, _, _, M1, rfl, hY, mm_z hm u1 _⟩⟩)
  | inr ce =>
    have hX : SE ce M1 := by
      rcases hJ with ⟨v, e, -⟩ | ⟨c2, e, h⟩
      · cases e
      · cases e; exact h
    have hm2 : ce ∈ [2, 4] := hE
    rcases List.mem_cons.mp hm2 with rfl | hm2
    · refine ⟨rfl, _, rfl, ?_⟩
      refine okb_p rfl rfl rfl ?_
      refine okb_p rfl rfl rfl ?_
      exact okb_rv (ok_r rfl rfl rfl rfl rfl ⟨⟨_, rfl⟩, hS', _, rfl, Or.inr ⟨2, M1, .head _, hX, hm⟩⟩)
    rcases List.mem_cons.mp hm2 with rfl | hm2
    · refine ⟨rfl, _, rfl, ?_⟩
      refine okb_p rfl rfl rfl ?_
      refine okb_p rfl rfl rfl ?_
      exact okb_rv (ok_r rfl rfl rfl rfl rfl ⟨⟨_, rfl⟩, hS', _, rfl, Or.inr ⟨4, M1, .tail _ (.head _), hX, hm⟩⟩)
    exact nomatch hm2
set_option maxRecDepth 20000 in
theorem wz_citizen (X : Option (List AI)) {a b sz im T H : Int} {C : List AC} {y1 y2 : Int32} {SY : Option AV → MM → Prop} {SE : Nat → MM → Prop} (hS : lt_S a b T H C) (hc : ok_ (tb_P X) 137 0 (ea_ar 0 [.inr (.inl (some 0)), .inl (.inl y1), .inl (.inl y2)]) [] C (fun o C' => (cm_P sz im C C' ∧ en_P 1 [2, 4] o) ∧ JE SY SE o C')) : okb (tb_P X) 1 329 0 (ea_ar 0 [.inr (.inl (some 0)), .inl (.inl y1), .inl (.inl y2), .inr (.inl (some 215))]) [] C (wz_K [(2, Int32.ofInt 1), (4, Int32.ofInt 2)] sz im T H SY SE) := by
  obtain ⟨xs, x1, -, -⟩ := hI_f hS.1 (show tb_G 0 = some (.inl (11, _)) from rfl)
  refine okb_p rfl rfl rfl ?_
  refine okb_p rfl rfl rfl ?_
  refine okb_p rfl rfl rfl ?_
  refine okb_p rfl rfl rfl ?_
  refine okb_p rfl rfl rfl ?_
  refine okb_cv (N := 0) (N' := 1) (mj := 137) (as := [.inl (.inl y1), .inl (.inl y2)]) (T := [.inl (.inl (Int32.ofInt 0)), .inr (.inl (some 215))]) rfl rfl x1 rfl rfl rfl (okb_post (okb_of hc) (fun o C' hq => ?_))
  obtain ⟨⟨hP, hE⟩, M1, hm, hJ⟩ := hq
  have hS' : lt_S sz im T H C' := lt_cm hS hP
  cases o with
  | inl v =>
    obtain ⟨y, rfl⟩ := hE
    have hY : SY (some (.inl (.inl y))) M1 := by
      rcases hJ with ⟨v, e, h⟩ | ⟨ce, e, -⟩
      · cases e; exact h
      · cases e
    obtain ⟨d, us, u1⟩ := lt_215 hS'
    show okb (tb_P X) 0 329 8 _ [.inl (.inl y), .inl (.inl (Int32.ofInt 0)), .inr (.inl (some 215))] C' _
    refine okb_p rfl rfl rfl ?_
    refine okb_ls rfl u1 (ix_of (x := Int32.ofInt 0) (j := 0) (by decide) (by decide)) ?_
    refine okb_p rfl rfl rfl ?_
    refine okb_p rfl rfl rfl ?_
    exact okb_rv (ok_r rfl rfl rfl rfl rfl ⟨⟨_, rfl⟩, lt_out hS' u1 _, _, rfl, Or.inl ⟨rfl, _, _, M1, rfl, hY, mm_z hm u1 _⟩⟩)
  | inr ce =>
    have hX : SE ce M1 := by
      rcases hJ with ⟨v, e, -⟩ | ⟨c2, e, h⟩
      · cases e
      · cases e; exact h
    have hm2 : ce ∈ [2, 4] := hE
    rcases List.mem_cons.mp hm2 with rfl | hm2
    · refine ⟨rfl, _, rfl, ?_⟩
      refine okb_p rfl rfl rfl ?_
      refine okb_p rfl rfl rfl ?_
      exact okb_rv (ok_r rfl rfl rfl rfl rfl ⟨⟨_, rfl⟩, hS', _, rfl, Or.inr ⟨2, M1, .head _, hX, hm⟩⟩)
    rcases List.mem_cons.mp hm2 with rfl | hm2
    · refine ⟨rfl, _, rfl, ?_⟩
      refine okb_p rfl rfl rfl ?_
      refine okb_p rfl rfl rfl ?_
      exact okb_rv (ok_r rfl rfl rfl rfl rfl ⟨⟨_, rfl⟩, hS', _, rfl, Or.inr ⟨4, M1, .tail _ (.head _), hX, hm⟩⟩)
    exact nomatch hm2
set_option maxRecDepth 20000 in
theorem wz_seen (X : Option (List AI)) {a b sz im T H : Int} {C : List AC} {y1 : Int32} {SY : Option AV → MM → Prop} {SE : Nat → MM → Prop} (hS : lt_S a b T H C) (hc : ok_ (tb_P X) 138 0 (ea_ar 0 [.inr (.inl (some 0)), .inl (.inl y1)]) [] C (fun o C' => (cm_P sz im C C' ∧ en_P 2 [2] o) ∧ JE SY SE o C')) : okb (tb_P X) 1 330 0 (ea_ar 0 [.inr (.inl (some 0)), .inl (.inl y1), .inr (.inl (some 215))]) [] C (wz_K [(2, Int32.ofInt 1)] sz im T H SY SE) := by
  obtain ⟨xs, x1, -, -⟩ := hI_f hS.1 (show tb_G 0 = some (.inl (11, _)) from rfl)
  refine okb_p rfl rfl rfl ?_
  refine okb_p rfl rfl rfl ?_
  refine okb_p rfl rfl rfl ?_
  refine okb_p rfl rfl rfl ?_
  refine okb_cv (N := 0) (N' := 1) (mj := 138) (as := [.inl (.inl y1)]) (T := [.inl (.inl (Int32.ofInt 0)), .inr (.inl (some 215))]) rfl rfl x1 rfl rfl rfl (okb_post (okb_of hc) (fun o C' hq => ?_))
  obtain ⟨⟨hP, hE⟩, M1, hm, hJ⟩ := hq
  have hS' : lt_S sz im T H C' := lt_cm hS hP
  cases o with
  | inl v =>
    obtain ⟨y, rfl⟩ := hE
    have hY : SY (some (.inr (.inr (.inl (some y))))) M1 := by
      rcases hJ with ⟨v, e, h⟩ | ⟨ce, e, -⟩
      · cases e; exact h
      · cases e
    obtain ⟨d, us, u1⟩ := lt_215 hS'
    show okb (tb_P X) 0 330 7 _ [.inr (.inr (.inl (some y))), .inl (.inl (Int32.ofInt 0)), .inr (.inl (some 215))] C' _
    refine okb_ls rfl u1 (ix_of (x := Int32.ofInt 0) (j := 0) (by decide) (by decide)) ?_
    refine okb_p rfl rfl rfl ?_
    refine okb_p rfl rfl rfl ?_
    exact okb_rv (ok_r rfl rfl rfl rfl rfl ⟨⟨_, rfl⟩, lt_out hS' u1 _, _, rfl, Or.inl ⟨rfl, _, _, M1, rfl, hY, mm_z hm u1 _⟩⟩)
  | inr ce =>
    have hX : SE ce M1 := by
      rcases hJ with ⟨v, e, -⟩ | ⟨c2, e, h⟩
      · cases e
      · cases e; exact h
    have hm2 : ce ∈ [2] := hE
    rcases List.mem_cons.mp hm2 with rfl | hm2
    · refine ⟨rfl, _, rfl, ?_⟩
      refine okb_p rfl rfl rfl ?_
      refine okb_p rfl rfl rfl ?_
      exact okb_rv (ok_r rfl rfl rfl rfl rfl ⟨⟨_, rfl⟩, hS', _, rfl, Or.inr ⟨2, M1, .head _, hX, hm⟩⟩)
    exact nomatch hm2
set_option maxRecDepth 20000 in
theorem wz_habit (X : Option (List AI)) {a b sz im T H : Int} {C : List AC} {y1 y2 : Int32} {SY : Option AV → MM → Prop} {SE : Nat → MM → Prop} (hS : lt_S a b T H C) (hc : ok_ (tb_P X) 139 0 (ea_ar 0 [.inr (.inl (some 0)), .inl (.inl y1), .inl (.inl y2)]) [] C (fun o C' => (cm_P sz im C C' ∧ en_P 1 [2] o) ∧ JE SY SE o C')) : okb (tb_P X) 1 331 0 (ea_ar 0 [.inr (.inl (some 0)), .inl (.inl y1), .inl (.inl y2), .inr (.inl (some 215))]) [] C (wz_K [(2, Int32.ofInt 1)] sz im T H SY SE) := by
  obtain ⟨xs, x1, -, -⟩ := hI_f hS.1 (show tb_G 0 = some (.inl (11, _)) from rfl)
  refine okb_p rfl rfl rfl ?_
  refine okb_p rfl rfl rfl ?_
  refine okb_p rfl rfl rfl ?_
  refine okb_p rfl rfl rfl ?_
  refine okb_p rfl rfl rfl ?_
  refine okb_cv (N := 0) (N' := 1) (mj := 139) (as := [.inl (.inl y1), .inl (.inl y2)]) (T := [.inl (.inl (Int32.ofInt 0)), .inr (.inl (some 215))]) rfl rfl x1 rfl rfl rfl (okb_post (okb_of hc) (fun o C' hq => ?_))
  obtain ⟨⟨hP, hE⟩, M1, hm, hJ⟩ := hq
  have hS' : lt_S sz im T H C' := lt_cm hS hP
  cases o with
  | inl v =>
    obtain ⟨y, rfl⟩ := hE
    have hY : SY (some (.inl (.inl y))) M1 := by
      rcases hJ with ⟨v, e, h⟩ | ⟨ce, e, -⟩
      · cases e; exact h
      · cases e
    obtain ⟨d, us, u1⟩ := lt_215 hS'
    show okb (tb_P X) 0 331 8 _ [.inl (.inl y), .inl (.inl (Int32.ofInt 0)), .inr (.inl (some 215))] C' _
    refine okb_p rfl rfl rfl ?_
    refine okb_ls rfl u1 (ix_of (x := Int32.ofInt 0) (j := 0) (by decide) (by decide)) ?_
    refine okb_p rfl rfl rfl ?_
    refine okb_p rfl rfl rfl ?_
    exact okb_rv (ok_r rfl rfl rfl rfl rfl ⟨⟨_, rfl⟩, lt_out hS' u1 _, _, rfl, Or.inl ⟨rfl, _, _, M1, rfl, hY, mm_z hm u1 _⟩⟩)
  | inr ce =>
    have hX : SE ce M1 := by
      rcases hJ with ⟨v, e, -⟩ | ⟨c2, e, h⟩
      · cases e
      · cases e; exact h
    have hm2 : ce ∈ [2] := hE
    rcases List.mem_cons.mp hm2 with rfl | hm2
    · refine ⟨rfl, _, rfl, ?_⟩
      refine okb_p rfl rfl rfl ?_
      refine okb_p rfl rfl rfl ?_
      exact okb_rv (ok_r rfl rfl rfl rfl rfl ⟨⟨_, rfl⟩, hS', _, rfl, Or.inr ⟨2, M1, .head _, hX, hm⟩⟩)
    exact nomatch hm2
set_option maxRecDepth 20000 in
theorem wz_matter (X : Option (List AI)) {a b sz im T H : Int} {C : List AC} {y1 y2 y3 : Int32} {SY : Option AV → MM → Prop} {SE : Nat → MM → Prop} (hS : lt_S a b T H C) (hc : ok_ (tb_P X) 140 0 (ea_ar 0 [.inr (.inl (some 0)), .inl (.inl y1), .inl (.inl y2), .inl (.inl y3)]) [] C (fun o C' => (cm_P sz im C C' ∧ en_P 1 [1, 2, 4] o) ∧ JE SY SE o C')) : okb (tb_P X) 1 332 0 (ea_ar 0 [.inr (.inl (some 0)), .inl (.inl y1), .inl (.inl y2), .inl (.inl y3), .inr (.inl (some 215))]) [] C (wz_K [(2, Int32.ofInt 1), (1, Int32.ofInt 2), (4, Int32.ofInt 3)] sz im T H SY SE) := by
  obtain ⟨xs, x1, -, -⟩ := hI_f hS.1 (show tb_G 0 = some (.inl (11, _)) from rfl)
  refine okb_p rfl rfl rfl ?_
  refine okb_p rfl rfl rfl ?_
  refine okb_p rfl rfl rfl ?_
  refine okb_p rfl rfl rfl ?_
  refine okb_p rfl rfl rfl ?_
  refine okb_p rfl rfl rfl ?_
  refine okb_cv (N := 0) (N' := 1) (mj := 140) (as := [.inl (.inl y1), .inl (.inl y2), .inl (.inl y3)]) (T := [.inl (.inl (Int32.ofInt 0)), .inr (.inl (some 215))]) rfl rfl x1 rfl rfl rfl (okb_post (okb_of hc) (fun o C' hq => ?_))
  obtain ⟨⟨hP, hE⟩, M1, hm, hJ⟩ := hq
  have hS' : lt_S sz im T H C' := lt_cm hS hP
  cases o with
  | inl v =>
    obtain ⟨y, rfl⟩ := hE
    have hY : SY (some (.inl (.inl y))) M1 := by
      rcases hJ with ⟨v, e, h⟩ | ⟨ce, e, -⟩
      · cases e; exact h
      · cases e
    obtain ⟨d, us, u1⟩ := lt_215 hS'
    show okb (tb_P X) 0 332 10 _ [.inl (.inl y), .inl (.inl (Int32.ofInt 0)), .inr (.inl (some 215))] C' _
    refine okb_p rfl rfl rfl ?_
    refine okb_ls rfl u1 (ix_of (x := Int32.ofInt 0) (j := 0) (by decide) (by decide)) ?_
    refine okb_p rfl rfl rfl ?_
    refine okb_p rfl rfl rfl ?_
    exact okb_rv (ok_r rfl rfl rfl rfl rfl ⟨⟨_, rfl⟩, lt_out hS' u1 _, _, rfl, Or.inl ⟨rfl, _, _, M1, rfl, hY, mm_z hm u1 _⟩⟩)
  | inr ce =>
    have hX : SE ce M1 := by
      rcases hJ with ⟨v, e, -⟩ | ⟨c2, e, h⟩
      · cases e
      · cases e; exact h
    have hm2 : ce ∈ [1, 2, 4] := hE
    rcases List.mem_cons.mp hm2 with rfl | hm2
    · refine ⟨rfl, _, rfl, ?_⟩
      refine okb_p rfl rfl rfl ?_
      refine okb_p rfl rfl rfl ?_
      exact okb_rv (ok_r rfl rfl rfl rfl rfl ⟨⟨_, rfl⟩, hS', _, rfl, Or.inr ⟨1, M1, .tail _ (.head _), hX, hm⟩⟩)
    rcases List.mem_cons.mp hm2 with rfl | hm2
    · refine ⟨rfl, _, rfl, ?_⟩
      refine okb_p rfl rfl rfl ?_
      refine okb_p rfl rfl rfl ?_
      exact okb_rv (ok_r rfl rfl rfl rfl rfl ⟨⟨_, rfl⟩, hS', _, rfl, Or.inr ⟨2, M1, .head _, hX, hm⟩⟩)
    rcases List.mem_cons.mp hm2 with rfl | hm2
    · refine ⟨rfl, _, rfl, ?_⟩
      refine okb_p rfl rfl rfl ?_
      refine okb_p rfl rfl rfl ?_
      exact okb_rv (ok_r rfl rfl rfl rfl rfl ⟨⟨_, rfl⟩, hS', _, rfl, Or.inr ⟨4, M1, .tail _ (.tail _ (.head _)), hX, hm⟩⟩)
    exact nomatch hm2
set_option maxRecDepth 20000 in
theorem wz_tell (X : Option (List AI)) {a b sz im T H : Int} {C : List AC} {y1 y2 : Int32} {SY : Option AV → MM → Prop} {SE : Nat → MM → Prop} (hS : lt_S a b T H C) (hc : ok_ (tb_P X) 141 0 (ea_ar 0 [.inr (.inl (some 0)), .inl (.inl y1), .inl (.inl y2)]) [] C (fun o C' => (cm_P sz im C C' ∧ en_P 1 [1, 2] o) ∧ JE SY SE o C')) : okb (tb_P X) 1 333 0 (ea_ar 0 [.inr (.inl (some 0)), .inl (.inl y1), .inl (.inl y2), .inr (.inl (some 215))]) [] C (wz_K [(2, Int32.ofInt 1), (1, Int32.ofInt 2)] sz im T H SY SE) := by
  obtain ⟨xs, x1, -, -⟩ := hI_f hS.1 (show tb_G 0 = some (.inl (11, _)) from rfl)
  refine okb_p rfl rfl rfl ?_
  refine okb_p rfl rfl rfl ?_
  refine okb_p rfl rfl rfl ?_
  refine okb_p rfl rfl rfl ?_
  refine okb_p rfl rfl rfl ?_
  refine okb_cv (N := 0) (N' := 1) (mj := 141) (as := [.inl (.inl y1), .inl (.inl y2)]) (T := [.inl (.inl (Int32.ofInt 0)), .inr (.inl (some 215))]) rfl rfl x1 rfl rfl rfl (okb_post (okb_of hc) (fun o C' hq => ?_))
  obtain ⟨⟨hP, hE⟩, M1, hm, hJ⟩ := hq
  have hS' : lt_S sz im T H C' := lt_cm hS hP
  cases o with
  | inl v =>
    obtain ⟨y, rfl⟩ := hE
    have hY : SY (some (.inl (.inl y))) M1 := by
      rcases hJ with ⟨v, e, h⟩ | ⟨ce, e, -⟩
      · cases e; exact h
      · cases e
    obtain ⟨d, us, u1⟩ := lt_215 hS'
    show okb (tb_P X) 0 333 8 _ [.inl (.inl y), .inl (.inl (Int32.ofInt 0)), .inr (.inl (some 215))] C' _
    refine okb_p rfl rfl rfl ?_
    refine okb_ls rfl u1 (ix_of (x := Int32.ofInt 0) (j := 0) (by decide) (by decide)) ?_
    refine okb_p rfl rfl rfl ?_
    refine okb_p rfl rfl rfl ?_
    exact okb_rv (ok_r rfl rfl rfl rfl rfl ⟨⟨_, rfl⟩, lt_out hS' u1 _, _, rfl, Or.inl ⟨rfl, _, _, M1, rfl, hY, mm_z hm u1 _⟩⟩)
  | inr ce =>
    have hX : SE ce M1 := by
      rcases hJ with ⟨v, e, -⟩ | ⟨c2, e, h⟩
      · cases e
      · cases e; exact h
    have hm2 : ce ∈ [1, 2] := hE
    rcases List.mem_cons.mp hm2 with rfl | hm2
    · refine ⟨rfl, _, rfl, ?_⟩
      refine okb_p rfl rfl rfl ?_
      refine okb_p rfl rfl rfl ?_
      exact okb_rv (ok_r rfl rfl rfl rfl rfl ⟨⟨_, rfl⟩, hS', _, rfl, Or.inr ⟨1, M1, .tail _ (.head _), hX, hm⟩⟩)
    rcases List.mem_cons.mp hm2 with rfl | hm2
    · refine ⟨rfl, _, rfl, ?_⟩
      refine okb_p rfl rfl rfl ?_
      refine okb_p rfl rfl rfl ?_
      exact okb_rv (ok_r rfl rfl rfl rfl rfl ⟨⟨_, rfl⟩, hS', _, rfl, Or.inr ⟨2, M1, .head _, hX, hm⟩⟩)
    exact nomatch hm2
set_option maxRecDepth 20000 in
theorem wz_die (X : Option (List AI)) {a b sz im T H : Int} {C : List AC} {y1 : Int32} {SY : Option AV → MM → Prop} {SE : Nat → MM → Prop} (hS : lt_S a b T H C) (hc : ok_ (tb_P X) 142 0 (ea_ar 0 [.inr (.inl (some 0)), .inl (.inl y1)]) [] C (fun o C' => (cm_P sz im C C' ∧ en_P 1 [1, 2] o) ∧ JE SY SE o C')) : okb (tb_P X) 1 334 0 (ea_ar 0 [.inr (.inl (some 0)), .inl (.inl y1), .inr (.inl (some 215))]) [] C (wz_K [(2, Int32.ofInt 1), (1, Int32.ofInt 2)] sz im T H SY SE) := by
  obtain ⟨xs, x1, -, -⟩ := hI_f hS.1 (show tb_G 0 = some (.inl (11, _)) from rfl)
  refine okb_p rfl rfl rfl ?_
  refine okb_p rfl rfl rfl ?_
  refine okb_p rfl rfl rfl ?_
  refine okb_p rfl rfl rfl ?_
  refine okb_cv (N := 0) (N' := 1) (mj := 142) (as := [.inl (.inl y1)]) (T := [.inl (.inl (Int32.ofInt 0)), .inr (.inl (some 215))]) rfl rfl x1 rfl rfl rfl (okb_post (okb_of hc) (fun o C' hq => ?_))
  obtain ⟨⟨hP, hE⟩, M1, hm, hJ⟩ := hq
  have hS' : lt_S sz im T H C' := lt_cm hS hP
  cases o with
  | inl v =>
    obtain ⟨y, rfl⟩ := hE
    have hY : SY (some (.inl (.inl y))) M1 := by
      rcases hJ with ⟨v, e, h⟩ | ⟨ce, e, -⟩
      · cases e; exact h
      · cases e
    obtain ⟨d, us, u1⟩ := lt_215 hS'
    show okb (tb_P X) 0 334 7 _ [.inl (.inl y), .inl (.inl (Int32.ofInt 0)), .inr (.inl (some 215))] C' _
    refine okb_p rfl rfl rfl ?_
    refine okb_ls rfl u1 (ix_of (x := Int32.ofInt 0) (j := 0) (by decide) (by decide)) ?_
    refine okb_p rfl rfl rfl ?_
    refine okb_p rfl rfl rfl ?_
    exact okb_rv (ok_r rfl rfl rfl rfl rfl ⟨⟨_, rfl⟩, lt_out hS' u1 _, _, rfl, Or.inl ⟨rfl, _, _, M1, rfl, hY, mm_z hm u1 _⟩⟩)
  | inr ce =>
    have hX : SE ce M1 := by
      rcases hJ with ⟨v, e, -⟩ | ⟨c2, e, h⟩
      · cases e
      · cases e; exact h
    have hm2 : ce ∈ [1, 2] := hE
    rcases List.mem_cons.mp hm2 with rfl | hm2
    · refine ⟨rfl, _, rfl, ?_⟩
      refine okb_p rfl rfl rfl ?_
      refine okb_p rfl rfl rfl ?_
      exact okb_rv (ok_r rfl rfl rfl rfl rfl ⟨⟨_, rfl⟩, hS', _, rfl, Or.inr ⟨1, M1, .tail _ (.head _), hX, hm⟩⟩)
    rcases List.mem_cons.mp hm2 with rfl | hm2
    · refine ⟨rfl, _, rfl, ?_⟩
      refine okb_p rfl rfl rfl ?_
      refine okb_p rfl rfl rfl ?_
      exact okb_rv (ok_r rfl rfl rfl rfl rfl ⟨⟨_, rfl⟩, hS', _, rfl, Or.inr ⟨2, M1, .head _, hX, hm⟩⟩)
    exact nomatch hm2
set_option maxRecDepth 20000 in
theorem wz_wed (X : Option (List AI)) {a b sz im T H : Int} {C : List AC} {y1 y2 : Int32} {SY : Option AV → MM → Prop} {SE : Nat → MM → Prop} (hS : lt_S a b T H C) (hc : ok_ (tb_P X) 143 0 (ea_ar 0 [.inr (.inl (some 0)), .inl (.inl y1), .inl (.inl y2)]) [] C (fun o C' => (cm_P sz im C C' ∧ en_P 1 [0, 1, 2] o) ∧ JE SY SE o C')) : okb (tb_P X) 1 335 0 (ea_ar 0 [.inr (.inl (some 0)), .inl (.inl y1), .inl (.inl y2), .inr (.inl (some 215))]) [] C (wz_K [(2, Int32.ofInt 1), (0, Int32.ofInt 2), (1, Int32.ofInt 3)] sz im T H SY SE) := by
  obtain ⟨xs, x1, -, -⟩ := hI_f hS.1 (show tb_G 0 = some (.inl (11, _)) from rfl)
  refine okb_p rfl rfl rfl ?_
  refine okb_p rfl rfl rfl ?_
  refine okb_p rfl rfl rfl ?_
  refine okb_p rfl rfl rfl ?_
  refine okb_p rfl rfl rfl ?_
  refine okb_cv (N := 0) (N' := 1) (mj := 143) (as := [.inl (.inl y1), .inl (.inl y2)]) (T := [.inl (.inl (Int32.ofInt 0)), .inr (.inl (some 215))]) rfl rfl x1 rfl rfl rfl (okb_post (okb_of hc) (fun o C' hq => ?_))
  obtain ⟨⟨hP, hE⟩, M1, hm, hJ⟩ := hq
  have hS' : lt_S sz im T H C' := lt_cm hS hP
  cases o with
  | inl v =>
    obtain ⟨y, rfl⟩ := hE
    have hY : SY (some (.inl (.inl y))) M1 := by
      rcases hJ with ⟨v, e, h⟩ | ⟨ce, e, -⟩
      · cases e; exact h
      · cases e
    obtain ⟨d, us, u1⟩ := lt_215 hS'
    show okb (tb_P X) 0 335 8 _ [.inl (.inl y), .inl (.inl (Int32.ofInt 0)), .inr (.inl (some 215))] C' _
    refine okb_p rfl rfl rfl ?_
    refine okb_ls rfl u1 (ix_of (x := Int32.ofInt 0) (j := 0) (by decide) (by decide)) ?_
    refine okb_p rfl rfl rfl ?_
    refine okb_p rfl rfl rfl ?_
    exact okb_rv (ok_r rfl rfl rfl rfl rfl ⟨⟨_, rfl⟩, lt_out hS' u1 _, _, rfl, Or.inl ⟨rfl, _, _, M1, rfl, hY, mm_z hm u1 _⟩⟩)
  | inr ce =>
    have hX : SE ce M1 := by
      rcases hJ with ⟨v, e, -⟩ | ⟨c2, e, h⟩
      · cases e
      · cases e; exact h
    have hm2 : ce ∈ [0, 1, 2] := hE
    rcases List.mem_cons.mp hm2 with rfl | hm2
    · refine ⟨rfl, _, rfl, ?_⟩
      refine okb_p rfl rfl rfl ?_
      refine okb_p rfl rfl rfl ?_
      exact okb_rv (ok_r rfl rfl rfl rfl rfl ⟨⟨_, rfl⟩, hS', _, rfl, Or.inr ⟨0, M1, .tail _ (.head _), hX, hm⟩⟩)
    rcases List.mem_cons.mp hm2 with rfl | hm2
    · refine ⟨rfl, _, rfl, ?_⟩
      refine okb_p rfl rfl rfl ?_
      refine okb_p rfl rfl rfl ?_
      exact okb_rv (ok_r rfl rfl rfl rfl rfl ⟨⟨_, rfl⟩, hS', _, rfl, Or.inr ⟨1, M1, .tail _ (.tail _ (.head _)), hX, hm⟩⟩)
    rcases List.mem_cons.mp hm2 with rfl | hm2
    · refine ⟨rfl, _, rfl, ?_⟩
      refine okb_p rfl rfl rfl ?_
      refine okb_p rfl rfl rfl ?_
      exact okb_rv (ok_r rfl rfl rfl rfl rfl ⟨⟨_, rfl⟩, hS', _, rfl, Or.inr ⟨2, M1, .head _, hX, hm⟩⟩)
    exact nomatch hm2
set_option maxRecDepth 20000 in
theorem wz_baby (X : Option (List AI)) {a b sz im T H : Int} {C : List AC} {y1 : Int32} {SY : Option AV → MM → Prop} {SE : Nat → MM → Prop} (hS : lt_S a b T H C) (hc : ok_ (tb_P X) 144 0 (ea_ar 0 [.inr (.inl (some 0)), .inl (.inl y1)]) [] C (fun o C' => (cm_P sz im C C' ∧ en_P 1 [1, 2, 3] o) ∧ JE SY SE o C')) : okb (tb_P X) 1 336 0 (ea_ar 0 [.inr (.inl (some 0)), .inl (.inl y1), .inr (.inl (some 215))]) [] C (wz_K [(2, Int32.ofInt 1), (1, Int32.ofInt 2), (3, Int32.ofInt 3)] sz im T H SY SE) := by
  obtain ⟨xs, x1, -, -⟩ := hI_f hS.1 (show tb_G 0 = some (.inl (11, _)) from rfl)
  refine okb_p rfl rfl rfl ?_
  refine okb_p rfl rfl rfl ?_
  refine okb_p rfl rfl rfl ?_
  refine okb_p rfl rfl rfl ?_
  refine okb_cv (N := 0) (N' := 1) (mj := 144) (as := [.inl (.inl y1)]) (T := [.inl (.inl (Int32.ofInt 0)), .inr (.inl (some 215))]) rfl rfl x1 rfl rfl rfl (okb_post (okb_of hc) (fun o C' hq => ?_))
  obtain ⟨⟨hP, hE⟩, M1, hm, hJ⟩ := hq
  have hS' : lt_S sz im T H C' := lt_cm hS hP
  cases o with
  | inl v =>
    obtain ⟨y, rfl⟩ := hE
    have hY : SY (some (.inl (.inl y))) M1 := by
      rcases hJ with ⟨v, e, h⟩ | ⟨ce, e, -⟩
      · cases e; exact h
      · cases e
    obtain ⟨d, us, u1⟩ := lt_215 hS'
    show okb (tb_P X) 0 336 7 _ [.inl (.inl y), .inl (.inl (Int32.ofInt 0)), .inr (.inl (some 215))] C' _
    refine okb_p rfl rfl rfl ?_
    refine okb_ls rfl u1 (ix_of (x := Int32.ofInt 0) (j := 0) (by decide) (by decide)) ?_
    refine okb_p rfl rfl rfl ?_
    refine okb_p rfl rfl rfl ?_
    exact okb_rv (ok_r rfl rfl rfl rfl rfl ⟨⟨_, rfl⟩, lt_out hS' u1 _, _, rfl, Or.inl ⟨rfl, _, _, M1, rfl, hY, mm_z hm u1 _⟩⟩)
  | inr ce =>
    have hX : SE ce M1 := by
      rcases hJ with ⟨v, e, -⟩ | ⟨c2, e, h⟩
      · cases e
      · cases e; exact h
    have hm2 : ce ∈ [1, 2, 3] := hE
    rcases List.mem_cons.mp hm2 with rfl | hm2
    · refine ⟨rfl, _, rfl, ?_⟩
      refine okb_p rfl rfl rfl ?_
      refine okb_p rfl rfl rfl ?_
      exact okb_rv (ok_r rfl rfl rfl rfl rfl ⟨⟨_, rfl⟩, hS', _, rfl, Or.inr ⟨1, M1, .tail _ (.head _), hX, hm⟩⟩)
    rcases List.mem_cons.mp hm2 with rfl | hm2
    · refine ⟨rfl, _, rfl, ?_⟩
      refine okb_p rfl rfl rfl ?_
      refine okb_p rfl rfl rfl ?_
      exact okb_rv (ok_r rfl rfl rfl rfl rfl ⟨⟨_, rfl⟩, hS', _, rfl, Or.inr ⟨2, M1, .head _, hX, hm⟩⟩)
    rcases List.mem_cons.mp hm2 with rfl | hm2
    · refine ⟨rfl, _, rfl, ?_⟩
      refine okb_p rfl rfl rfl ?_
      refine okb_p rfl rfl rfl ?_
      exact okb_rv (ok_r rfl rfl rfl rfl rfl ⟨⟨_, rfl⟩, hS', _, rfl, Or.inr ⟨3, M1, .tail _ (.tail _ (.head _)), hX, hm⟩⟩)
    exact nomatch hm2
set_option maxRecDepth 20000 in
theorem wz_release (X : Option (List AI)) {a b sz im T H : Int} {C : List AC} {y1 : Int32} {SY : Option AV → MM → Prop} {SE : Nat → MM → Prop} (hS : lt_S a b T H C) (hc : ok_ (tb_P X) 145 0 (ea_ar 0 [.inr (.inl (some 0)), .inl (.inl y1)]) [] C (fun o C' => (cm_P sz im C C' ∧ en_P 1 [1, 2] o) ∧ JE SY SE o C')) : okb (tb_P X) 1 337 0 (ea_ar 0 [.inr (.inl (some 0)), .inl (.inl y1), .inr (.inl (some 215))]) [] C (wz_K [(2, Int32.ofInt 1), (1, Int32.ofInt 2)] sz im T H SY SE) := by
  obtain ⟨xs, x1, -, -⟩ := hI_f hS.1 (show tb_G 0 = some (.inl (11, _)) from rfl)
  refine okb_p rfl rfl rfl ?_
  refine okb_p rfl rfl rfl ?_
  refine okb_p rfl rfl rfl ?_
  refine okb_p rfl rfl rfl ?_
  refine okb_cv (N := 0) (N' := 1) (mj := 145) (as := [.inl (.inl y1)]) (T := [.inl (.inl (Int32.ofInt 0)), .inr (.inl (some 215))]) rfl rfl x1 rfl rfl rfl (okb_post (okb_of hc) (fun o C' hq => ?_))
  obtain ⟨⟨hP, hE⟩, M1, hm, hJ⟩ := hq
  have hS' : lt_S sz im T H C' := lt_cm hS hP
  cases o with
  | inl v =>
    obtain ⟨y, rfl⟩ := hE
    have hY : SY (some (.inl (.inl y))) M1 := by
      rcases hJ with ⟨v, e, h⟩ | ⟨ce, e, -⟩
      · cases e; exact h
      · cases e
    obtain ⟨d, us, u1⟩ := lt_215 hS'
    show okb (tb_P X) 0 337 7 _ [.inl (.inl y), .inl (.inl (Int32.ofInt 0)), .inr (.inl (some 215))] C' _
    refine okb_p rfl rfl rfl ?_
    refine okb_ls rfl u1 (ix_of (x := Int32.ofInt 0) (j := 0) (by decide) (by decide)) ?_
    refine okb_p rfl rfl rfl ?_
    refine okb_p rfl rfl rfl ?_
    exact okb_rv (ok_r rfl rfl rfl rfl rfl ⟨⟨_, rfl⟩, lt_out hS' u1 _, _, rfl, Or.inl ⟨rfl, _, _, M1, rfl, hY, mm_z hm u1 _⟩⟩)
  | inr ce =>
    have hX : SE ce M1 := by
      rcases hJ with ⟨v, e, -⟩ | ⟨c2, e, h⟩
      · cases e
      · cases e; exact h
    have hm2 : ce ∈ [1, 2] := hE
    rcases List.mem_cons.mp hm2 with rfl | hm2
    · refine ⟨rfl, _, rfl, ?_⟩
      refine okb_p rfl rfl rfl ?_
      refine okb_p rfl rfl rfl ?_
      exact okb_rv (ok_r rfl rfl rfl rfl rfl ⟨⟨_, rfl⟩, hS', _, rfl, Or.inr ⟨1, M1, .tail _ (.head _), hX, hm⟩⟩)
    rcases List.mem_cons.mp hm2 with rfl | hm2
    · refine ⟨rfl, _, rfl, ?_⟩
      refine okb_p rfl rfl rfl ?_
      refine okb_p rfl rfl rfl ?_
      exact okb_rv (ok_r rfl rfl rfl rfl rfl ⟨⟨_, rfl⟩, hS', _, rfl, Or.inr ⟨2, M1, .head _, hX, hm⟩⟩)
    exact nomatch hm2
set_option maxRecDepth 20000 in
theorem wz_days (X : Option (List AI)) {a b sz im T H : Int} {C : List AC} {y1 : Int32} {SY : Option AV → MM → Prop} {SE : Nat → MM → Prop} (hS : lt_S a b T H C) (hc : ok_ (tb_P X) 146 0 (ea_ar 0 [.inr (.inl (some 0)), .inl (.inl y1)]) [] C (fun o C' => (cm_P sz im C C' ∧ en_P 1 [0] o) ∧ JE SY SE o C')) : okb (tb_P X) 1 338 0 (ea_ar 0 [.inr (.inl (some 0)), .inl (.inl y1), .inr (.inl (some 215))]) [] C (wz_K [(0, Int32.ofInt 1)] sz im T H SY SE) := by
  obtain ⟨xs, x1, -, -⟩ := hI_f hS.1 (show tb_G 0 = some (.inl (11, _)) from rfl)
  refine okb_p rfl rfl rfl ?_
  refine okb_p rfl rfl rfl ?_
  refine okb_p rfl rfl rfl ?_
  refine okb_p rfl rfl rfl ?_
  refine okb_cv (N := 0) (N' := 1) (mj := 146) (as := [.inl (.inl y1)]) (T := [.inl (.inl (Int32.ofInt 0)), .inr (.inl (some 215))]) rfl rfl x1 rfl rfl rfl (okb_post (okb_of hc) (fun o C' hq => ?_))
  obtain ⟨⟨hP, hE⟩, M1, hm, hJ⟩ := hq
  have hS' : lt_S sz im T H C' := lt_cm hS hP
  cases o with
  | inl v =>
    obtain ⟨y, rfl⟩ := hE
    have hY : SY (some (.inl (.inl y))) M1 := by
      rcases hJ with ⟨v, e, h⟩ | ⟨ce, e, -⟩
      · cases e; exact h
      · cases e
    obtain ⟨d, us, u1⟩ := lt_215 hS'
    show okb (tb_P X) 0 338 7 _ [.inl (.inl y), .inl (.inl (Int32.ofInt 0)), .inr (.inl (some 215))] C' _
    refine okb_p rfl rfl rfl ?_
    refine okb_ls rfl u1 (ix_of (x := Int32.ofInt 0) (j := 0) (by decide) (by decide)) ?_
    refine okb_p rfl rfl rfl ?_
    refine okb_p rfl rfl rfl ?_
    exact okb_rv (ok_r rfl rfl rfl rfl rfl ⟨⟨_, rfl⟩, lt_out hS' u1 _, _, rfl, Or.inl ⟨rfl, _, _, M1, rfl, hY, mm_z hm u1 _⟩⟩)
  | inr ce =>
    have hX : SE ce M1 := by
      rcases hJ with ⟨v, e, -⟩ | ⟨c2, e, h⟩
      · cases e
      · cases e; exact h
    have hm2 : ce ∈ [0] := hE
    rcases List.mem_cons.mp hm2 with rfl | hm2
    · refine ⟨rfl, _, rfl, ?_⟩
      refine okb_p rfl rfl rfl ?_
      refine okb_p rfl rfl rfl ?_
      exact okb_rv (ok_r rfl rfl rfl rfl rfl ⟨⟨_, rfl⟩, hS', _, rfl, Or.inr ⟨0, M1, .head _, hX, hm⟩⟩)
    exact nomatch hm2
set_option maxRecDepth 20000 in
theorem wz_read (X : Option (List AI)) {a b im T H : Int} {C : List AC} {y1 : Int32} {SY : Option AV → MM → Prop} {SE : Nat → MM → Prop} (hS : lt_S a b T H C) (hc : ok_ (tb_P X) 149 0 (ea_ar 0 [.inr (.inl (some 0)), .inl (.inl y1)]) [] C (fun o C' => (us_P im C C' ∧ en_P 1 [0, 4] o) ∧ JE SY SE o C')) : okb (tb_P X) 1 339 0 (ea_ar 0 [.inr (.inl (some 0)), .inl (.inl y1), .inr (.inl (some 215))]) [] C (wz_K [(0, Int32.ofInt 1), (4, Int32.ofInt 2)] 0 im T H SY SE) := by
  obtain ⟨xs, x1, -, -⟩ := hI_f hS.1 (show tb_G 0 = some (.inl (11, _)) from rfl)
  refine okb_p rfl rfl rfl ?_
  refine okb_p rfl rfl rfl ?_
  refine okb_p rfl rfl rfl ?_
  refine okb_p rfl rfl rfl ?_
  refine okb_cv (N := 0) (N' := 1) (mj := 149) (as := [.inl (.inl y1)]) (T := [.inl (.inl (Int32.ofInt 0)), .inr (.inl (some 215))]) rfl rfl x1 rfl rfl rfl (okb_post (okb_of hc) (fun o C' hq => ?_))
  obtain ⟨⟨hP, hE⟩, M1, hm, hJ⟩ := hq
  have hS' : lt_S 0 im T H C' := lt_cm hS hP
  cases o with
  | inl v =>
    obtain ⟨y, rfl⟩ := hE
    have hY : SY (some (.inl (.inl y))) M1 := by
      rcases hJ with ⟨v, e, h⟩ | ⟨ce, e, -⟩
      · cases e; exact h
      · cases e
    obtain ⟨d, us, u1⟩ := lt_215 hS'
    show okb (tb_P X) 0 339 7 _ [.inl (.inl y), .inl (.inl (Int32.ofInt 0)), .inr (.inl (some 215))] C' _
    refine okb_p rfl rfl rfl ?_
    refine okb_ls rfl u1 (ix_of (x := Int32.ofInt 0) (j := 0) (by decide) (by decide)) ?_
    refine okb_p rfl rfl rfl ?_
    refine okb_p rfl rfl rfl ?_
    exact okb_rv (ok_r rfl rfl rfl rfl rfl ⟨⟨_, rfl⟩, lt_out hS' u1 _, _, rfl, Or.inl ⟨rfl, _, _, M1, rfl, hY, mm_z hm u1 _⟩⟩)
  | inr ce =>
    have hX : SE ce M1 := by
      rcases hJ with ⟨v, e, -⟩ | ⟨c2, e, h⟩
      · cases e
      · cases e; exact h
    have hm2 : ce ∈ [0, 4] := hE
    rcases List.mem_cons.mp hm2 with rfl | hm2
    · refine ⟨rfl, _, rfl, ?_⟩
      refine okb_p rfl rfl rfl ?_
      refine okb_p rfl rfl rfl ?_
      exact okb_rv (ok_r rfl rfl rfl rfl rfl ⟨⟨_, rfl⟩, hS', _, rfl, Or.inr ⟨0, M1, .head _, hX, hm⟩⟩)
    rcases List.mem_cons.mp hm2 with rfl | hm2
    · refine ⟨rfl, _, rfl, ?_⟩
      refine okb_p rfl rfl rfl ?_
      refine okb_p rfl rfl rfl ?_
      exact okb_rv (ok_r rfl rfl rfl rfl rfl ⟨⟨_, rfl⟩, hS', _, rfl, Or.inr ⟨4, M1, .tail _ (.head _), hX, hm⟩⟩)
    exact nomatch hm2
set_option maxRecDepth 20000 in
theorem wz_next (X : Option (List AI)) {a b im T H : Int} {C : List AC} {y1 : Int32} {SY : Option AV → MM → Prop} {SE : Nat → MM → Prop} (hS : lt_S a b T H C) (hc : ok_ (tb_P X) 150 0 (ea_ar 0 [.inr (.inl (some 0)), .inl (.inl y1)]) [] C (fun o C' => (us_P im C C' ∧ en_P 1 [0, 1, 2] o) ∧ JE SY SE o C')) : okb (tb_P X) 1 340 0 (ea_ar 0 [.inr (.inl (some 0)), .inl (.inl y1), .inr (.inl (some 215))]) [] C (wz_K [(2, Int32.ofInt 1), (0, Int32.ofInt 2), (1, Int32.ofInt 3)] 0 im T H SY SE) := by
  obtain ⟨xs, x1, -, -⟩ := hI_f hS.1 (show tb_G 0 = some (.inl (11, _)) from rfl)
  refine okb_p rfl rfl rfl ?_
  refine okb_p rfl rfl rfl ?_
  refine okb_p rfl rfl rfl ?_
  refine okb_p rfl rfl rfl ?_
  refine okb_cv (N := 0) (N' := 1) (mj := 150) (as := [.inl (.inl y1)]) (T := [.inl (.inl (Int32.ofInt 0)), .inr (.inl (some 215))]) rfl rfl x1 rfl rfl rfl (okb_post (okb_of hc) (fun o C' hq => ?_))
  obtain ⟨⟨hP, hE⟩, M1, hm, hJ⟩ := hq
  have hS' : lt_S 0 im T H C' := lt_cm hS hP
  cases o with
  | inl v =>
    obtain ⟨y, rfl⟩ := hE
    have hY : SY (some (.inl (.inl y))) M1 := by
      rcases hJ with ⟨v, e, h⟩ | ⟨ce, e, -⟩
      · cases e; exact h
      · cases e
    obtain ⟨d, us, u1⟩ := lt_215 hS'
    show okb (tb_P X) 0 340 7 _ [.inl (.inl y), .inl (.inl (Int32.ofInt 0)), .inr (.inl (some 215))] C' _
    refine okb_p rfl rfl rfl ?_
    refine okb_ls rfl u1 (ix_of (x := Int32.ofInt 0) (j := 0) (by decide) (by decide)) ?_
    refine okb_p rfl rfl rfl ?_
    refine okb_p rfl rfl rfl ?_
    exact okb_rv (ok_r rfl rfl rfl rfl rfl ⟨⟨_, rfl⟩, lt_out hS' u1 _, _, rfl, Or.inl ⟨rfl, _, _, M1, rfl, hY, mm_z hm u1 _⟩⟩)
  | inr ce =>
    have hX : SE ce M1 := by
      rcases hJ with ⟨v, e, -⟩ | ⟨c2, e, h⟩
      · cases e
      · cases e; exact h
    have hm2 : ce ∈ [0, 1, 2] := hE
    rcases List.mem_cons.mp hm2 with rfl | hm2
    · refine ⟨rfl, _, rfl, ?_⟩
      refine okb_p rfl rfl rfl ?_
      refine okb_p rfl rfl rfl ?_
      exact okb_rv (ok_r rfl rfl rfl rfl rfl ⟨⟨_, rfl⟩, hS', _, rfl, Or.inr ⟨0, M1, .tail _ (.head _), hX, hm⟩⟩)
    rcases List.mem_cons.mp hm2 with rfl | hm2
    · refine ⟨rfl, _, rfl, ?_⟩
      refine okb_p rfl rfl rfl ?_
      refine okb_p rfl rfl rfl ?_
      exact okb_rv (ok_r rfl rfl rfl rfl rfl ⟨⟨_, rfl⟩, hS', _, rfl, Or.inr ⟨1, M1, .tail _ (.tail _ (.head _)), hX, hm⟩⟩)
    rcases List.mem_cons.mp hm2 with rfl | hm2
    · refine ⟨rfl, _, rfl, ?_⟩
      refine okb_p rfl rfl rfl ?_
      refine okb_p rfl rfl rfl ?_
      exact okb_rv (ok_r rfl rfl rfl rfl rfl ⟨⟨_, rfl⟩, hS', _, rfl, Or.inr ⟨2, M1, .head _, hX, hm⟩⟩)
    exact nomatch hm2
set_option maxRecDepth 20000 in
theorem wz_dies (X : Option (List AI)) {a b sz im T H : Int} {C : List AC} {y1 : Int32} {SY : Option AV → MM → Prop} {SE : Nat → MM → Prop} (hS : lt_S a b T H C) (hc : ok_ (tb_P X) 152 0 (ea_ar 0 [.inr (.inl (some 0)), .inl (.inl y1)]) [] C (fun o C' => (cm_P sz im C C' ∧ en_P 1 [1, 2] o) ∧ JE SY SE o C')) : okb (tb_P X) 1 341 0 (ea_ar 0 [.inr (.inl (some 0)), .inl (.inl y1), .inr (.inl (some 215))]) [] C (wz_K [(2, Int32.ofInt 1), (1, Int32.ofInt 2)] sz im T H SY SE) := by
  obtain ⟨xs, x1, -, -⟩ := hI_f hS.1 (show tb_G 0 = some (.inl (11, _)) from rfl)
  refine okb_p rfl rfl rfl ?_
  refine okb_p rfl rfl rfl ?_
  refine okb_p rfl rfl rfl ?_
  refine okb_p rfl rfl rfl ?_
  refine okb_cv (N := 0) (N' := 1) (mj := 152) (as := [.inl (.inl y1)]) (T := [.inl (.inl (Int32.ofInt 0)), .inr (.inl (some 215))]) rfl rfl x1 rfl rfl rfl (okb_post (okb_of hc) (fun o C' hq => ?_))
  obtain ⟨⟨hP, hE⟩, M1, hm, hJ⟩ := hq
  have hS' : lt_S sz im T H C' := lt_cm hS hP
  cases o with
  | inl v =>
    obtain ⟨y, rfl⟩ := hE
    have hY : SY (some (.inl (.inl y))) M1 := by
      rcases hJ with ⟨v, e, h⟩ | ⟨ce, e, -⟩
      · cases e; exact h
      · cases e
    obtain ⟨d, us, u1⟩ := lt_215 hS'
    show okb (tb_P X) 0 341 7 _ [.inl (.inl y), .inl (.inl (Int32.ofInt 0)), .inr (.inl (some 215))] C' _
    refine okb_p rfl rfl rfl ?_
    refine okb_ls rfl u1 (ix_of (x := Int32.ofInt 0) (j := 0) (by decide) (by decide)) ?_
    refine okb_p rfl rfl rfl ?_
    refine okb_p rfl rfl rfl ?_
    exact okb_rv (ok_r rfl rfl rfl rfl rfl ⟨⟨_, rfl⟩, lt_out hS' u1 _, _, rfl, Or.inl ⟨rfl, _, _, M1, rfl, hY, mm_z hm u1 _⟩⟩)
  | inr ce =>
    have hX : SE ce M1 := by
      rcases hJ with ⟨v, e, -⟩ | ⟨c2, e, h⟩
      · cases e
      · cases e; exact h
    have hm2 : ce ∈ [1, 2] := hE
    rcases List.mem_cons.mp hm2 with rfl | hm2
    · refine ⟨rfl, _, rfl, ?_⟩
      refine okb_p rfl rfl rfl ?_
      refine okb_p rfl rfl rfl ?_
      exact okb_rv (ok_r rfl rfl rfl rfl rfl ⟨⟨_, rfl⟩, hS', _, rfl, Or.inr ⟨1, M1, .tail _ (.head _), hX, hm⟩⟩)
    rcases List.mem_cons.mp hm2 with rfl | hm2
    · refine ⟨rfl, _, rfl, ?_⟩
      refine okb_p rfl rfl rfl ?_
      refine okb_p rfl rfl rfl ?_
      exact okb_rv (ok_r rfl rfl rfl rfl rfl ⟨⟨_, rfl⟩, hS', _, rfl, Or.inr ⟨2, M1, .head _, hX, hm⟩⟩)
    exact nomatch hm2
set_option maxRecDepth 20000 in
theorem wz_heirs (X : Option (List AI)) {a b sz im T H : Int} {C : List AC} {y1 : Int32} {SY : Option AV → MM → Prop} {SE : Nat → MM → Prop} (hS : lt_S a b T H C) (hc : ok_ (tb_P X) 153 0 (ea_ar 0 [.inr (.inl (some 0)), .inl (.inl y1)]) [] C (fun o C' => (cm_P sz im C C' ∧ en_P 1 [0] o) ∧ JE SY SE o C')) : okb (tb_P X) 1 342 0 (ea_ar 0 [.inr (.inl (some 0)), .inl (.inl y1), .inr (.inl (some 215))]) [] C (wz_K [(0, Int32.ofInt 1)] sz im T H SY SE) := by
  obtain ⟨xs, x1, -, -⟩ := hI_f hS.1 (show tb_G 0 = some (.inl (11, _)) from rfl)
  refine okb_p rfl rfl rfl ?_
  refine okb_p rfl rfl rfl ?_
  refine okb_p rfl rfl rfl ?_
  refine okb_p rfl rfl rfl ?_
  refine okb_cv (N := 0) (N' := 1) (mj := 153) (as := [.inl (.inl y1)]) (T := [.inl (.inl (Int32.ofInt 0)), .inr (.inl (some 215))]) rfl rfl x1 rfl rfl rfl (okb_post (okb_of hc) (fun o C' hq => ?_))
  obtain ⟨⟨hP, hE⟩, M1, hm, hJ⟩ := hq
  have hS' : lt_S sz im T H C' := lt_cm hS hP
  cases o with
  | inl v =>
    obtain ⟨y, rfl⟩ := hE
    have hY : SY (some (.inl (.inl y))) M1 := by
      rcases hJ with ⟨v, e, h⟩ | ⟨ce, e, -⟩
      · cases e; exact h
      · cases e
    obtain ⟨d, us, u1⟩ := lt_215 hS'
    show okb (tb_P X) 0 342 7 _ [.inl (.inl y), .inl (.inl (Int32.ofInt 0)), .inr (.inl (some 215))] C' _
    refine okb_p rfl rfl rfl ?_
    refine okb_ls rfl u1 (ix_of (x := Int32.ofInt 0) (j := 0) (by decide) (by decide)) ?_
    refine okb_p rfl rfl rfl ?_
    refine okb_p rfl rfl rfl ?_
    exact okb_rv (ok_r rfl rfl rfl rfl rfl ⟨⟨_, rfl⟩, lt_out hS' u1 _, _, rfl, Or.inl ⟨rfl, _, _, M1, rfl, hY, mm_z hm u1 _⟩⟩)
  | inr ce =>
    have hX : SE ce M1 := by
      rcases hJ with ⟨v, e, -⟩ | ⟨c2, e, h⟩
      · cases e
      · cases e; exact h
    have hm2 : ce ∈ [0] := hE
    rcases List.mem_cons.mp hm2 with rfl | hm2
    · refine ⟨rfl, _, rfl, ?_⟩
      refine okb_p rfl rfl rfl ?_
      refine okb_p rfl rfl rfl ?_
      exact okb_rv (ok_r rfl rfl rfl rfl rfl ⟨⟨_, rfl⟩, hS', _, rfl, Or.inr ⟨0, M1, .head _, hX, hm⟩⟩)
    exact nomatch hm2
set_option maxRecDepth 20000 in
theorem wz_risk (X : Option (List AI)) {a b sz im T H : Int} {C : List AC} {y1 y2 : Int32} {SY : Option AV → MM → Prop} {SE : Nat → MM → Prop} (hS : lt_S a b T H C) (hc : ok_ (tb_P X) 154 0 (ea_ar 0 [.inr (.inl (some 0)), .inl (.inl y1), .inl (.inl y2)]) [] C (fun o C' => (cm_P sz im C C' ∧ en_P 1 [0, 1, 2] o) ∧ JE SY SE o C')) : okb (tb_P X) 1 343 0 (ea_ar 0 [.inr (.inl (some 0)), .inl (.inl y1), .inl (.inl y2), .inr (.inl (some 215))]) [] C (wz_K [(2, Int32.ofInt 1), (0, Int32.ofInt 2), (1, Int32.ofInt 3)] sz im T H SY SE) := by
  obtain ⟨xs, x1, -, -⟩ := hI_f hS.1 (show tb_G 0 = some (.inl (11, _)) from rfl)
  refine okb_p rfl rfl rfl ?_
  refine okb_p rfl rfl rfl ?_
  refine okb_p rfl rfl rfl ?_
  refine okb_p rfl rfl rfl ?_
  refine okb_p rfl rfl rfl ?_
  refine okb_cv (N := 0) (N' := 1) (mj := 154) (as := [.inl (.inl y1), .inl (.inl y2)]) (T := [.inl (.inl (Int32.ofInt 0)), .inr (.inl (some 215))]) rfl rfl x1 rfl rfl rfl (okb_post (okb_of hc) (fun o C' hq => ?_))
  obtain ⟨⟨hP, hE⟩, M1, hm, hJ⟩ := hq
  have hS' : lt_S sz im T H C' := lt_cm hS hP
  cases o with
  | inl v =>
    obtain ⟨y, rfl⟩ := hE
    have hY : SY (some (.inl (.inl y))) M1 := by
      rcases hJ with ⟨v, e, h⟩ | ⟨ce, e, -⟩
      · cases e; exact h
      · cases e
    obtain ⟨d, us, u1⟩ := lt_215 hS'
    show okb (tb_P X) 0 343 8 _ [.inl (.inl y), .inl (.inl (Int32.ofInt 0)), .inr (.inl (some 215))] C' _
    refine okb_p rfl rfl rfl ?_
    refine okb_ls rfl u1 (ix_of (x := Int32.ofInt 0) (j := 0) (by decide) (by decide)) ?_
    refine okb_p rfl rfl rfl ?_
    refine okb_p rfl rfl rfl ?_
    exact okb_rv (ok_r rfl rfl rfl rfl rfl ⟨⟨_, rfl⟩, lt_out hS' u1 _, _, rfl, Or.inl ⟨rfl, _, _, M1, rfl, hY, mm_z hm u1 _⟩⟩)
  | inr ce =>
    have hX : SE ce M1 := by
      rcases hJ with ⟨v, e, -⟩ | ⟨c2, e, h⟩
      · cases e
      · cases e; exact h
    have hm2 : ce ∈ [0, 1, 2] := hE
    rcases List.mem_cons.mp hm2 with rfl | hm2
    · refine ⟨rfl, _, rfl, ?_⟩
      refine okb_p rfl rfl rfl ?_
      refine okb_p rfl rfl rfl ?_
      exact okb_rv (ok_r rfl rfl rfl rfl rfl ⟨⟨_, rfl⟩, hS', _, rfl, Or.inr ⟨0, M1, .tail _ (.head _), hX, hm⟩⟩)
    rcases List.mem_cons.mp hm2 with rfl | hm2
    · refine ⟨rfl, _, rfl, ?_⟩
      refine okb_p rfl rfl rfl ?_
      refine okb_p rfl rfl rfl ?_
      exact okb_rv (ok_r rfl rfl rfl rfl rfl ⟨⟨_, rfl⟩, hS', _, rfl, Or.inr ⟨1, M1, .tail _ (.tail _ (.head _)), hX, hm⟩⟩)
    rcases List.mem_cons.mp hm2 with rfl | hm2
    · refine ⟨rfl, _, rfl, ?_⟩
      refine okb_p rfl rfl rfl ?_
      refine okb_p rfl rfl rfl ?_
      exact okb_rv (ok_r rfl rfl rfl rfl rfl ⟨⟨_, rfl⟩, hS', _, rfl, Or.inr ⟨2, M1, .head _, hX, hm⟩⟩)
    exact nomatch hm2
set_option maxRecDepth 20000 in
theorem wz_safe (X : Option (List AI)) {a b sz im T H : Int} {C : List AC} {y1 y2 : Int32} {SY : Option AV → MM → Prop} {SE : Nat → MM → Prop} (hS : lt_S a b T H C) (hc : ok_ (tb_P X) 155 0 (ea_ar 0 [.inr (.inl (some 0)), .inl (.inl y1), .inl (.inl y2)]) [] C (fun o C' => (cm_P sz im C C' ∧ en_P 1 [1, 2] o) ∧ JE SY SE o C')) : okb (tb_P X) 1 344 0 (ea_ar 0 [.inr (.inl (some 0)), .inl (.inl y1), .inl (.inl y2), .inr (.inl (some 215))]) [] C (wz_K [(2, Int32.ofInt 1), (1, Int32.ofInt 2)] sz im T H SY SE) := by
  obtain ⟨xs, x1, -, -⟩ := hI_f hS.1 (show tb_G 0 = some (.inl (11, _)) from rfl)
  refine okb_p rfl rfl rfl ?_
  refine okb_p rfl rfl rfl ?_
  refine okb_p rfl rfl rfl ?_
  refine okb_p rfl rfl rfl ?_
  refine okb_p rfl rfl rfl ?_
  refine okb_cv (N := 0) (N' := 1) (mj := 155) (as := [.inl (.inl y1), .inl (.inl y2)]) (T := [.inl (.inl (Int32.ofInt 0)), .inr (.inl (some 215))]) rfl rfl x1 rfl rfl rfl (okb_post (okb_of hc) (fun o C' hq => ?_))
  obtain ⟨⟨hP, hE⟩, M1, hm, hJ⟩ := hq
  have hS' : lt_S sz im T H C' := lt_cm hS hP
  cases o with
  | inl v =>
    obtain ⟨y, rfl⟩ := hE
    have hY : SY (some (.inl (.inl y))) M1 := by
      rcases hJ with ⟨v, e, h⟩ | ⟨ce, e, -⟩
      · cases e; exact h
      · cases e
    obtain ⟨d, us, u1⟩ := lt_215 hS'
    show okb (tb_P X) 0 344 8 _ [.inl (.inl y), .inl (.inl (Int32.ofInt 0)), .inr (.inl (some 215))] C' _
    refine okb_p rfl rfl rfl ?_
    refine okb_ls rfl u1 (ix_of (x := Int32.ofInt 0) (j := 0) (by decide) (by decide)) ?_
    refine okb_p rfl rfl rfl ?_
    refine okb_p rfl rfl rfl ?_
    exact okb_rv (ok_r rfl rfl rfl rfl rfl ⟨⟨_, rfl⟩, lt_out hS' u1 _, _, rfl, Or.inl ⟨rfl, _, _, M1, rfl, hY, mm_z hm u1 _⟩⟩)
  | inr ce =>
    have hX : SE ce M1 := by
      rcases hJ with ⟨v, e, -⟩ | ⟨c2, e, h⟩
      · cases e
      · cases e; exact h
    have hm2 : ce ∈ [1, 2] := hE
    rcases List.mem_cons.mp hm2 with rfl | hm2
    · refine ⟨rfl, _, rfl, ?_⟩
      refine okb_p rfl rfl rfl ?_
      refine okb_p rfl rfl rfl ?_
      exact okb_rv (ok_r rfl rfl rfl rfl rfl ⟨⟨_, rfl⟩, hS', _, rfl, Or.inr ⟨1, M1, .tail _ (.head _), hX, hm⟩⟩)
    rcases List.mem_cons.mp hm2 with rfl | hm2
    · refine ⟨rfl, _, rfl, ?_⟩
      refine okb_p rfl rfl rfl ?_
      refine okb_p rfl rfl rfl ?_
      exact okb_rv (ok_r rfl rfl rfl rfl rfl ⟨⟨_, rfl⟩, hS', _, rfl, Or.inr ⟨2, M1, .head _, hX, hm⟩⟩)
    exact nomatch hm2
set_option maxRecDepth 20000 in
theorem wz_better (X : Option (List AI)) {a b sz im T H : Int} {C : List AC} {y1 y2 : Int32} {SY : Option AV → MM → Prop} {SE : Nat → MM → Prop} (hS : lt_S a b T H C) (hc : ok_ (tb_P X) 156 0 (ea_ar 0 [.inr (.inl (some 0)), .inl (.inl y1), .inl (.inl y2)]) [] C (fun o C' => (cm_P sz im C C' ∧ en_P 1 [0, 1, 2] o) ∧ JE SY SE o C')) : okb (tb_P X) 1 345 0 (ea_ar 0 [.inr (.inl (some 0)), .inl (.inl y1), .inl (.inl y2), .inr (.inl (some 215))]) [] C (wz_K [(2, Int32.ofInt 1), (0, Int32.ofInt 2), (1, Int32.ofInt 3)] sz im T H SY SE) := by
  obtain ⟨xs, x1, -, -⟩ := hI_f hS.1 (show tb_G 0 = some (.inl (11, _)) from rfl)
  refine okb_p rfl rfl rfl ?_
  refine okb_p rfl rfl rfl ?_
  refine okb_p rfl rfl rfl ?_
  refine okb_p rfl rfl rfl ?_
  refine okb_p rfl rfl rfl ?_
  refine okb_cv (N := 0) (N' := 1) (mj := 156) (as := [.inl (.inl y1), .inl (.inl y2)]) (T := [.inl (.inl (Int32.ofInt 0)), .inr (.inl (some 215))]) rfl rfl x1 rfl rfl rfl (okb_post (okb_of hc) (fun o C' hq => ?_))
  obtain ⟨⟨hP, hE⟩, M1, hm, hJ⟩ := hq
  have hS' : lt_S sz im T H C' := lt_cm hS hP
  cases o with
  | inl v =>
    obtain ⟨y, rfl⟩ := hE
    have hY : SY (some (.inl (.inl y))) M1 := by
      rcases hJ with ⟨v, e, h⟩ | ⟨ce, e, -⟩
      · cases e; exact h
      · cases e
    obtain ⟨d, us, u1⟩ := lt_215 hS'
    show okb (tb_P X) 0 345 8 _ [.inl (.inl y), .inl (.inl (Int32.ofInt 0)), .inr (.inl (some 215))] C' _
    refine okb_p rfl rfl rfl ?_
    refine okb_ls rfl u1 (ix_of (x := Int32.ofInt 0) (j := 0) (by decide) (by decide)) ?_
    refine okb_p rfl rfl rfl ?_
    refine okb_p rfl rfl rfl ?_
    exact okb_rv (ok_r rfl rfl rfl rfl rfl ⟨⟨_, rfl⟩, lt_out hS' u1 _, _, rfl, Or.inl ⟨rfl, _, _, M1, rfl, hY, mm_z hm u1 _⟩⟩)
  | inr ce =>
    have hX : SE ce M1 := by
      rcases hJ with ⟨v, e, -⟩ | ⟨c2, e, h⟩
      · cases e
      · cases e; exact h
    have hm2 : ce ∈ [0, 1, 2] := hE
    rcases List.mem_cons.mp hm2 with rfl | hm2
    · refine ⟨rfl, _, rfl, ?_⟩
      refine okb_p rfl rfl rfl ?_
      refine okb_p rfl rfl rfl ?_
      exact okb_rv (ok_r rfl rfl rfl rfl rfl ⟨⟨_, rfl⟩, hS', _, rfl, Or.inr ⟨0, M1, .tail _ (.head _), hX, hm⟩⟩)
    rcases List.mem_cons.mp hm2 with rfl | hm2
    · refine ⟨rfl, _, rfl, ?_⟩
      refine okb_p rfl rfl rfl ?_
      refine okb_p rfl rfl rfl ?_
      exact okb_rv (ok_r rfl rfl rfl rfl rfl ⟨⟨_, rfl⟩, hS', _, rfl, Or.inr ⟨1, M1, .tail _ (.tail _ (.head _)), hX, hm⟩⟩)
    rcases List.mem_cons.mp hm2 with rfl | hm2
    · refine ⟨rfl, _, rfl, ?_⟩
      refine okb_p rfl rfl rfl ?_
      refine okb_p rfl rfl rfl ?_
      exact okb_rv (ok_r rfl rfl rfl rfl rfl ⟨⟨_, rfl⟩, hS', _, rfl, Or.inr ⟨2, M1, .head _, hX, hm⟩⟩)
    exact nomatch hm2
set_option maxRecDepth 20000 in
theorem wz_telling (X : Option (List AI)) {a b sz im T H : Int} {C : List AC} {y1 y2 : Int32} {SY : Option AV → MM → Prop} {SE : Nat → MM → Prop} (hS : lt_S a b T H C) (hc : ok_ (tb_P X) 157 0 (ea_ar 0 [.inr (.inl (some 0)), .inl (.inl y1), .inl (.inl y2)]) [] C (fun o C' => (cm_P sz im C C' ∧ en_P 1 [0] o) ∧ JE SY SE o C')) : okb (tb_P X) 1 346 0 (ea_ar 0 [.inr (.inl (some 0)), .inl (.inl y1), .inl (.inl y2), .inr (.inl (some 215))]) [] C (wz_K [(0, Int32.ofInt 1)] sz im T H SY SE) := by
  obtain ⟨xs, x1, -, -⟩ := hI_f hS.1 (show tb_G 0 = some (.inl (11, _)) from rfl)
  refine okb_p rfl rfl rfl ?_
  refine okb_p rfl rfl rfl ?_
  refine okb_p rfl rfl rfl ?_
  refine okb_p rfl rfl rfl ?_
  refine okb_p rfl rfl rfl ?_
  refine okb_cv (N := 0) (N' := 1) (mj := 157) (as := [.inl (.inl y1), .inl (.inl y2)]) (T := [.inl (.inl (Int32.ofInt 0)), .inr (.inl (some 215))]) rfl rfl x1 rfl rfl rfl (okb_post (okb_of hc) (fun o C' hq => ?_))
  obtain ⟨⟨hP, hE⟩, M1, hm, hJ⟩ := hq
  have hS' : lt_S sz im T H C' := lt_cm hS hP
  cases o with
  | inl v =>
    obtain ⟨y, rfl⟩ := hE
    have hY : SY (some (.inl (.inl y))) M1 := by
      rcases hJ with ⟨v, e, h⟩ | ⟨ce, e, -⟩
      · cases e; exact h
      · cases e
    obtain ⟨d, us, u1⟩ := lt_215 hS'
    show okb (tb_P X) 0 346 8 _ [.inl (.inl y), .inl (.inl (Int32.ofInt 0)), .inr (.inl (some 215))] C' _
    refine okb_p rfl rfl rfl ?_
    refine okb_ls rfl u1 (ix_of (x := Int32.ofInt 0) (j := 0) (by decide) (by decide)) ?_
    refine okb_p rfl rfl rfl ?_
    refine okb_p rfl rfl rfl ?_
    exact okb_rv (ok_r rfl rfl rfl rfl rfl ⟨⟨_, rfl⟩, lt_out hS' u1 _, _, rfl, Or.inl ⟨rfl, _, _, M1, rfl, hY, mm_z hm u1 _⟩⟩)
  | inr ce =>
    have hX : SE ce M1 := by
      rcases hJ with ⟨v, e, -⟩ | ⟨c2, e, h⟩
      · cases e
      · cases e; exact h
    have hm2 : ce ∈ [0] := hE
    rcases List.mem_cons.mp hm2 with rfl | hm2
    · refine ⟨rfl, _, rfl, ?_⟩
      refine okb_p rfl rfl rfl ?_
      refine okb_p rfl rfl rfl ?_
      exact okb_rv (ok_r rfl rfl rfl rfl rfl ⟨⟨_, rfl⟩, hS', _, rfl, Or.inr ⟨0, M1, .head _, hX, hm⟩⟩)
    exact nomatch hm2
set_option maxRecDepth 20000 in
theorem wz_deduced (X : Option (List AI)) {a b sz im T H : Int} {C : List AC} {y1 : Int32} {SY : Option AV → MM → Prop} {SE : Nat → MM → Prop} (hS : lt_S a b T H C) (hc : ok_ (tb_P X) 158 0 (ea_ar 0 [.inr (.inl (some 0)), .inl (.inl y1)]) [] C (fun o C' => (cm_P sz im C C' ∧ en_P 1 [1, 2] o) ∧ JE SY SE o C')) : okb (tb_P X) 1 347 0 (ea_ar 0 [.inr (.inl (some 0)), .inl (.inl y1), .inr (.inl (some 215))]) [] C (wz_K [(2, Int32.ofInt 1), (1, Int32.ofInt 2)] sz im T H SY SE) := by
  obtain ⟨xs, x1, -, -⟩ := hI_f hS.1 (show tb_G 0 = some (.inl (11, _)) from rfl)
  refine okb_p rfl rfl rfl ?_
  refine okb_p rfl rfl rfl ?_
  refine okb_p rfl rfl rfl ?_
  refine okb_p rfl rfl rfl ?_
  refine okb_cv (N := 0) (N' := 1) (mj := 158) (as := [.inl (.inl y1)]) (T := [.inl (.inl (Int32.ofInt 0)), .inr (.inl (some 215))]) rfl rfl x1 rfl rfl rfl (okb_post (okb_of hc) (fun o C' hq => ?_))
  obtain ⟨⟨hP, hE⟩, M1, hm, hJ⟩ := hq
  have hS' : lt_S sz im T H C' := lt_cm hS hP
  cases o with
  | inl v =>
    obtain ⟨y, rfl⟩ := hE
    have hY : SY (some (.inl (.inl y))) M1 := by
      rcases hJ with ⟨v, e, h⟩ | ⟨ce, e, -⟩
      · cases e; exact h
      · cases e
    obtain ⟨d, us, u1⟩ := lt_215 hS'
    show okb (tb_P X) 0 347 7 _ [.inl (.inl y), .inl (.inl (Int32.ofInt 0)), .inr (.inl (some 215))] C' _
    refine okb_p rfl rfl rfl ?_
    refine okb_ls rfl u1 (ix_of (x := Int32.ofInt 0) (j := 0) (by decide) (by decide)) ?_
    refine okb_p rfl rfl rfl ?_
    refine okb_p rfl rfl rfl ?_
    exact okb_rv (ok_r rfl rfl rfl rfl rfl ⟨⟨_, rfl⟩, lt_out hS' u1 _, _, rfl, Or.inl ⟨rfl, _, _, M1, rfl, hY, mm_z hm u1 _⟩⟩)
  | inr ce =>
    have hX : SE ce M1 := by
      rcases hJ with ⟨v, e, -⟩ | ⟨c2, e, h⟩
      · cases e
      · cases e; exact h
    have hm2 : ce ∈ [1, 2] := hE
    rcases List.mem_cons.mp hm2 with rfl | hm2
    · refine ⟨rfl, _, rfl, ?_⟩
      refine okb_p rfl rfl rfl ?_
      refine okb_p rfl rfl rfl ?_
      exact okb_rv (ok_r rfl rfl rfl rfl rfl ⟨⟨_, rfl⟩, hS', _, rfl, Or.inr ⟨1, M1, .tail _ (.head _), hX, hm⟩⟩)
    rcases List.mem_cons.mp hm2 with rfl | hm2
    · refine ⟨rfl, _, rfl, ?_⟩
      refine okb_p rfl rfl rfl ?_
      refine okb_p rfl rfl rfl ?_
      exact okb_rv (ok_r rfl rfl rfl rfl rfl ⟨⟨_, rfl⟩, hS', _, rfl, Or.inr ⟨2, M1, .head _, hX, hm⟩⟩)
    exact nomatch hm2
set_option maxRecDepth 20000 in
theorem wz_hush (X : Option (List AI)) {a b sz im T H : Int} {C : List AC} {y1 : Int32} {SY : Option AV → MM → Prop} {SE : Nat → MM → Prop} (hS : lt_S a b T H C) (hc : ok_ (tb_P X) 159 0 (ea_ar 0 [.inr (.inl (some 0)), .inl (.inl y1)]) [] C (fun o C' => (cm_P sz im C C' ∧ en_P 1 [2] o) ∧ JE SY SE o C')) : okb (tb_P X) 1 348 0 (ea_ar 0 [.inr (.inl (some 0)), .inl (.inl y1), .inr (.inl (some 215))]) [] C (wz_K [(2, Int32.ofInt 1)] sz im T H SY SE) := by
  obtain ⟨xs, x1, -, -⟩ := hI_f hS.1 (show tb_G 0 = some (.inl (11, _)) from rfl)
  refine okb_p rfl rfl rfl ?_
  refine okb_p rfl rfl rfl ?_
  refine okb_p rfl rfl rfl ?_
  refine okb_p rfl rfl rfl ?_
  refine okb_cv (N := 0) (N' := 1) (mj := 159) (as := [.inl (.inl y1)]) (T := [.inl (.inl (Int32.ofInt 0)), .inr (.inl (some 215))]) rfl rfl x1 rfl rfl rfl (okb_post (okb_of hc) (fun o C' hq => ?_))
  obtain ⟨⟨hP, hE⟩, M1, hm, hJ⟩ := hq
  have hS' : lt_S sz im T H C' := lt_cm hS hP
  cases o with
  | inl v =>
    obtain ⟨y, rfl⟩ := hE
    have hY : SY (some (.inl (.inl y))) M1 := by
      rcases hJ with ⟨v, e, h⟩ | ⟨ce, e, -⟩
      · cases e; exact h
      · cases e
    obtain ⟨d, us, u1⟩ := lt_215 hS'
    show okb (tb_P X) 0 348 7 _ [.inl (.inl y), .inl (.inl (Int32.ofInt 0)), .inr (.inl (some 215))] C' _
    refine okb_p rfl rfl rfl ?_
    refine okb_ls rfl u1 (ix_of (x := Int32.ofInt 0) (j := 0) (by decide) (by decide)) ?_
    refine okb_p rfl rfl rfl ?_
    refine okb_p rfl rfl rfl ?_
    exact okb_rv (ok_r rfl rfl rfl rfl rfl ⟨⟨_, rfl⟩, lt_out hS' u1 _, _, rfl, Or.inl ⟨rfl, _, _, M1, rfl, hY, mm_z hm u1 _⟩⟩)
  | inr ce =>
    have hX : SE ce M1 := by
      rcases hJ with ⟨v, e, -⟩ | ⟨c2, e, h⟩
      · cases e
      · cases e; exact h
    have hm2 : ce ∈ [2] := hE
    rcases List.mem_cons.mp hm2 with rfl | hm2
    · refine ⟨rfl, _, rfl, ?_⟩
      refine okb_p rfl rfl rfl ?_
      refine okb_p rfl rfl rfl ?_
      exact okb_rv (ok_r rfl rfl rfl rfl rfl ⟨⟨_, rfl⟩, hS', _, rfl, Or.inr ⟨2, M1, .head _, hX, hm⟩⟩)
    exact nomatch hm2
set_option maxRecDepth 20000 in
theorem wz_usual (X : Option (List AI)) {a b sz im T H : Int} {C : List AC} {y1 : Int32} {SY : Option AV → MM → Prop} {SE : Nat → MM → Prop} (hS : lt_S a b T H C) (hc : ok_ (tb_P X) 160 0 (ea_ar 0 [.inr (.inl (some 0)), .inl (.inl y1)]) [] C (fun o C' => (cm_P sz im C C' ∧ en_P 1 [2] o) ∧ JE SY SE o C')) : okb (tb_P X) 1 349 0 (ea_ar 0 [.inr (.inl (some 0)), .inl (.inl y1), .inr (.inl (some 215))]) [] C (wz_K [(2, Int32.ofInt 1)] sz im T H SY SE) := by
  obtain ⟨xs, x1, -, -⟩ := hI_f hS.1 (show tb_G 0 = some (.inl (11, _)) from rfl)
  refine okb_p rfl rfl rfl ?_
  refine okb_p rfl rfl rfl ?_
  refine okb_p rfl rfl rfl ?_
  refine okb_p rfl rfl rfl ?_
  refine okb_cv (N := 0) (N' := 1) (mj := 160) (as := [.inl (.inl y1)]) (T := [.inl (.inl (Int32.ofInt 0)), .inr (.inl (some 215))]) rfl rfl x1 rfl rfl rfl (okb_post (okb_of hc) (fun o C' hq => ?_))
  obtain ⟨⟨hP, hE⟩, M1, hm, hJ⟩ := hq
  have hS' : lt_S sz im T H C' := lt_cm hS hP
  cases o with
  | inl v =>
    obtain ⟨y, rfl⟩ := hE
    have hY : SY (some (.inl (.inl y))) M1 := by
      rcases hJ with ⟨v, e, h⟩ | ⟨ce, e, -⟩
      · cases e; exact h
      · cases e
    obtain ⟨d, us, u1⟩ := lt_215 hS'
    show okb (tb_P X) 0 349 7 _ [.inl (.inl y), .inl (.inl (Int32.ofInt 0)), .inr (.inl (some 215))] C' _
    refine okb_p rfl rfl rfl ?_
    refine okb_ls rfl u1 (ix_of (x := Int32.ofInt 0) (j := 0) (by decide) (by decide)) ?_
    refine okb_p rfl rfl rfl ?_
    refine okb_p rfl rfl rfl ?_
    exact okb_rv (ok_r rfl rfl rfl rfl rfl ⟨⟨_, rfl⟩, lt_out hS' u1 _, _, rfl, Or.inl ⟨rfl, _, _, M1, rfl, hY, mm_z hm u1 _⟩⟩)
  | inr ce =>
    have hX : SE ce M1 := by
      rcases hJ with ⟨v, e, -⟩ | ⟨c2, e, h⟩
      · cases e
      · cases e; exact h
    have hm2 : ce ∈ [2] := hE
    rcases List.mem_cons.mp hm2 with rfl | hm2
    · refine ⟨rfl, _, rfl, ?_⟩
      refine okb_p rfl rfl rfl ?_
      refine okb_p rfl rfl rfl ?_
      exact okb_rv (ok_r rfl rfl rfl rfl rfl ⟨⟨_, rfl⟩, hS', _, rfl, Or.inr ⟨2, M1, .head _, hX, hm⟩⟩)
    exact nomatch hm2
set_option maxRecDepth 20000 in
theorem wz_custom (X : Option (List AI)) {a b sz im T H : Int} {C : List AC} {y1 : Int32} {SY : Option AV → MM → Prop} {SE : Nat → MM → Prop} (hS : lt_S a b T H C) (hc : ok_ (tb_P X) 162 0 (ea_ar 0 [.inr (.inl (some 0)), .inl (.inl y1)]) [] C (fun o C' => (cm_P sz im C C' ∧ en_P 1 [0] o) ∧ JE SY SE o C')) : okb (tb_P X) 1 350 0 (ea_ar 0 [.inr (.inl (some 0)), .inl (.inl y1), .inr (.inl (some 215))]) [] C (wz_K [(0, Int32.ofInt 1)] sz im T H SY SE) := by
  obtain ⟨xs, x1, -, -⟩ := hI_f hS.1 (show tb_G 0 = some (.inl (11, _)) from rfl)
  refine okb_p rfl rfl rfl ?_
  refine okb_p rfl rfl rfl ?_
  refine okb_p rfl rfl rfl ?_
  refine okb_p rfl rfl rfl ?_
  refine okb_cv (N := 0) (N' := 1) (mj := 162) (as := [.inl (.inl y1)]) (T := [.inl (.inl (Int32.ofInt 0)), .inr (.inl (some 215))]) rfl rfl x1 rfl rfl rfl (okb_post (okb_of hc) (fun o C' hq => ?_))
  obtain ⟨⟨hP, hE⟩, M1, hm, hJ⟩ := hq
  have hS' : lt_S sz im T H C' := lt_cm hS hP
  cases o with
  | inl v =>
    obtain ⟨y, rfl⟩ := hE
    have hY : SY (some (.inl (.inl y))) M1 := by
      rcases hJ with ⟨v, e, h⟩ | ⟨ce, e, -⟩
      · cases e; exact h
      · cases e
    obtain ⟨d, us, u1⟩ := lt_215 hS'
    show okb (tb_P X) 0 350 7 _ [.inl (.inl y), .inl (.inl (Int32.ofInt 0)), .inr (.inl (some 215))] C' _
    refine okb_p rfl rfl rfl ?_
    refine okb_ls rfl u1 (ix_of (x := Int32.ofInt 0) (j := 0) (by decide) (by decide)) ?_
    refine okb_p rfl rfl rfl ?_
    refine okb_p rfl rfl rfl ?_
    exact okb_rv (ok_r rfl rfl rfl rfl rfl ⟨⟨_, rfl⟩, lt_out hS' u1 _, _, rfl, Or.inl ⟨rfl, _, _, M1, rfl, hY, mm_z hm u1 _⟩⟩)
  | inr ce =>
    have hX : SE ce M1 := by
      rcases hJ with ⟨v, e, -⟩ | ⟨c2, e, h⟩
      · cases e
      · cases e; exact h
    have hm2 : ce ∈ [0] := hE
    rcases List.mem_cons.mp hm2 with rfl | hm2
    · refine ⟨rfl, _, rfl, ?_⟩
      refine okb_p rfl rfl rfl ?_
      refine okb_p rfl rfl rfl ?_
      exact okb_rv (ok_r rfl rfl rfl rfl rfl ⟨⟨_, rfl⟩, hS', _, rfl, Or.inr ⟨0, M1, .head _, hX, hm⟩⟩)
    exact nomatch hm2
set_option maxRecDepth 20000 in
theorem wz_provoked (X : Option (List AI)) {a b sz im T H : Int} {C : List AC} {y1 y2 : Int32} {SY : Option AV → MM → Prop} {SE : Nat → MM → Prop} (hS : lt_S a b T H C) (hc : ok_ (tb_P X) 164 0 (ea_ar 0 [.inr (.inl (some 0)), .inl (.inl y1), .inl (.inl y2)]) [] C (fun o C' => (cm_P sz im C C' ∧ en_P 1 [1, 2] o) ∧ JE SY SE o C')) : okb (tb_P X) 1 351 0 (ea_ar 0 [.inr (.inl (some 0)), .inl (.inl y1), .inl (.inl y2), .inr (.inl (some 215))]) [] C (wz_K [(2, Int32.ofInt 1), (1, Int32.ofInt 2)] sz im T H SY SE) := by
  obtain ⟨xs, x1, -, -⟩ := hI_f hS.1 (show tb_G 0 = some (.inl (11, _)) from rfl)
  refine okb_p rfl rfl rfl ?_
  refine okb_p rfl rfl rfl ?_
  refine okb_p rfl rfl rfl ?_
  refine okb_p rfl rfl rfl ?_
  refine okb_p rfl rfl rfl ?_
  refine okb_cv (N := 0) (N' := 1) (mj := 164) (as := [.inl (.inl y1), .inl (.inl y2)]) (T := [.inl (.inl (Int32.ofInt 0)), .inr (.inl (some 215))]) rfl rfl x1 rfl rfl rfl (okb_post (okb_of hc) (fun o C' hq => ?_))
  obtain ⟨⟨hP, hE⟩, M1, hm, hJ⟩ := hq
  have hS' : lt_S sz im T H C' := lt_cm hS hP
  cases o with
  | inl v =>
    obtain ⟨y, rfl⟩ := hE
    have hY : SY (some (.inl (.inl y))) M1 := by
      rcases hJ with ⟨v, e, h⟩ | ⟨ce, e, -⟩
      · cases e; exact h
      · cases e
    obtain ⟨d, us, u1⟩ := lt_215 hS'
    show okb (tb_P X) 0 351 8 _ [.inl (.inl y), .inl (.inl (Int32.ofInt 0)), .inr (.inl (some 215))] C' _
    refine okb_p rfl rfl rfl ?_
    refine okb_ls rfl u1 (ix_of (x := Int32.ofInt 0) (j := 0) (by decide) (by decide)) ?_
    refine okb_p rfl rfl rfl ?_
    refine okb_p rfl rfl rfl ?_
    exact okb_rv (ok_r rfl rfl rfl rfl rfl ⟨⟨_, rfl⟩, lt_out hS' u1 _, _, rfl, Or.inl ⟨rfl, _, _, M1, rfl, hY, mm_z hm u1 _⟩⟩)
  | inr ce =>
    have hX : SE ce M1 := by
      rcases hJ with ⟨v, e, -⟩ | ⟨c2, e, h⟩
      · cases e
      · cases e; exact h
    have hm2 : ce ∈ [1, 2] := hE
    rcases List.mem_cons.mp hm2 with rfl | hm2
    · refine ⟨rfl, _, rfl, ?_⟩
      refine okb_p rfl rfl rfl ?_
      refine okb_p rfl rfl rfl ?_
      exact okb_rv (ok_r rfl rfl rfl rfl rfl ⟨⟨_, rfl⟩, hS', _, rfl, Or.inr ⟨1, M1, .tail _ (.head _), hX, hm⟩⟩)
    rcases List.mem_cons.mp hm2 with rfl | hm2
    · refine ⟨rfl, _, rfl, ?_⟩
      refine okb_p rfl rfl rfl ?_
      refine okb_p rfl rfl rfl ?_
      exact okb_rv (ok_r rfl rfl rfl rfl rfl ⟨⟨_, rfl⟩, hS', _, rfl, Or.inr ⟨2, M1, .head _, hX, hm⟩⟩)
    exact nomatch hm2
set_option maxRecDepth 20000 in
theorem wz_crowd (X : Option (List AI)) {a b sz im T H : Int} {C : List AC} {y1 y2 : Int32} {SY : Option AV → MM → Prop} {SE : Nat → MM → Prop} (hS : lt_S a b T H C) (hc : ok_ (tb_P X) 165 0 (ea_ar 0 [.inr (.inl (some 0)), .inl (.inl y1), .inl (.inl y2)]) [] C (fun o C' => (cm_P sz im C C' ∧ en_P 1 [0, 2] o) ∧ JE SY SE o C')) : okb (tb_P X) 1 352 0 (ea_ar 0 [.inr (.inl (some 0)), .inl (.inl y1), .inl (.inl y2), .inr (.inl (some 215))]) [] C (wz_K [(2, Int32.ofInt 1), (0, Int32.ofInt 2)] sz im T H SY SE) := by
  obtain ⟨xs, x1, -, -⟩ := hI_f hS.1 (show tb_G 0 = some (.inl (11, _)) from rfl)
  refine okb_p rfl rfl rfl ?_
  refine okb_p rfl rfl rfl ?_
  refine okb_p rfl rfl rfl ?_
  refine okb_p rfl rfl rfl ?_
  refine okb_p rfl rfl rfl ?_
  refine okb_cv (N := 0) (N' := 1) (mj := 165) (as := [.inl (.inl y1), .inl (.inl y2)]) (T := [.inl (.inl (Int32.ofInt 0)), .inr (.inl (some 215))]) rfl rfl x1 rfl rfl rfl (okb_post (okb_of hc) (fun o C' hq => ?_))
  obtain ⟨⟨hP, hE⟩, M1, hm, hJ⟩ := hq
  have hS' : lt_S sz im T H C' := lt_cm hS hP
  cases o with
  | inl v =>
    obtain ⟨y, rfl⟩ := hE
    have hY : SY (some (.inl (.inl y))) M1 := by
      rcases hJ with ⟨v, e, h⟩ | ⟨ce, e, -⟩
      · cases e; exact h
      · cases e
    obtain ⟨d, us, u1⟩ := lt_215 hS'
    show okb (tb_P X) 0 352 8 _ [.inl (.inl y), .inl (.inl (Int32.ofInt 0)), .inr (.inl (some 215))] C' _
    refine okb_p rfl rfl rfl ?_
    refine okb_ls rfl u1 (ix_of (x := Int32.ofInt 0) (j := 0) (by decide) (by decide)) ?_
    refine okb_p rfl rfl rfl ?_
    refine okb_p rfl rfl rfl ?_
    exact okb_rv (ok_r rfl rfl rfl rfl rfl ⟨⟨_, rfl⟩, lt_out hS' u1 _, _, rfl, Or.inl ⟨rfl, _, _, M1, rfl, hY, mm_z hm u1 _⟩⟩)
  | inr ce =>
    have hX : SE ce M1 := by
      rcases hJ with ⟨v, e, -⟩ | ⟨c2, e, h⟩
      · cases e
      · cases e; exact h
    have hm2 : ce ∈ [0, 2] := hE
    rcases List.mem_cons.mp hm2 with rfl | hm2
    · refine ⟨rfl, _, rfl, ?_⟩
      refine okb_p rfl rfl rfl ?_
      refine okb_p rfl rfl rfl ?_
      exact okb_rv (ok_r rfl rfl rfl rfl rfl ⟨⟨_, rfl⟩, hS', _, rfl, Or.inr ⟨0, M1, .tail _ (.head _), hX, hm⟩⟩)
    rcases List.mem_cons.mp hm2 with rfl | hm2
    · refine ⟨rfl, _, rfl, ?_⟩
      refine okb_p rfl rfl rfl ?_
      refine okb_p rfl rfl rfl ?_
      exact okb_rv (ok_r rfl rfl rfl rfl rfl ⟨⟨_, rfl⟩, hS', _, rfl, Or.inr ⟨2, M1, .head _, hX, hm⟩⟩)
    exact nomatch hm2
set_option maxRecDepth 20000 in
theorem wz_witnesses (X : Option (List AI)) {a b sz im T H : Int} {C : List AC} {y1 y2 y3 : Int32} {SY : Option AV → MM → Prop} {SE : Nat → MM → Prop} (hS : lt_S a b T H C) (hc : ok_ (tb_P X) 166 0 (ea_ar 0 [.inr (.inl (some 0)), .inl (.inl y1), .inl (.inl y2), .inl (.inl y3)]) [] C (fun o C' => (cm_P sz im C C' ∧ en_P 1 [0, 2] o) ∧ JE SY SE o C')) : okb (tb_P X) 1 353 0 (ea_ar 0 [.inr (.inl (some 0)), .inl (.inl y1), .inl (.inl y2), .inl (.inl y3), .inr (.inl (some 215))]) [] C (wz_K [(2, Int32.ofInt 1), (0, Int32.ofInt 2)] sz im T H SY SE) := by
  obtain ⟨xs, x1, -, -⟩ := hI_f hS.1 (show tb_G 0 = some (.inl (11, _)) from rfl)
  refine okb_p rfl rfl rfl ?_
  refine okb_p rfl rfl rfl ?_
  refine okb_p rfl rfl rfl ?_
  refine okb_p rfl rfl rfl ?_
  refine okb_p rfl rfl rfl ?_
  refine okb_p rfl rfl rfl ?_
  refine okb_cv (N := 0) (N' := 1) (mj := 166) (as := [.inl (.inl y1), .inl (.inl y2), .inl (.inl y3)]) (T := [.inl (.inl (Int32.ofInt 0)), .inr (.inl (some 215))]) rfl rfl x1 rfl rfl rfl (okb_post (okb_of hc) (fun o C' hq => ?_))
  obtain ⟨⟨hP, hE⟩, M1, hm, hJ⟩ := hq
  have hS' : lt_S sz im T H C' := lt_cm hS hP
  cases o with
  | inl v =>
    obtain ⟨y, rfl⟩ := hE
    have hY : SY (some (.inl (.inl y))) M1 := by
      rcases hJ with ⟨v, e, h⟩ | ⟨ce, e, -⟩
      · cases e; exact h
      · cases e
    obtain ⟨d, us, u1⟩ := lt_215 hS'
    show okb (tb_P X) 0 353 10 _ [.inl (.inl y), .inl (.inl (Int32.ofInt 0)), .inr (.inl (some 215))] C' _
    refine okb_p rfl rfl rfl ?_
    refine okb_ls rfl u1 (ix_of (x := Int32.ofInt 0) (j := 0) (by decide) (by decide)) ?_
    refine okb_p rfl rfl rfl ?_
    refine okb_p rfl rfl rfl ?_
    exact okb_rv (ok_r rfl rfl rfl rfl rfl ⟨⟨_, rfl⟩, lt_out hS' u1 _, _, rfl, Or.inl ⟨rfl, _, _, M1, rfl, hY, mm_z hm u1 _⟩⟩)
  | inr ce =>
    have hX : SE ce M1 := by
      rcases hJ with ⟨v, e, -⟩ | ⟨c2, e, h⟩
      · cases e
      · cases e; exact h
    have hm2 : ce ∈ [0, 2] := hE
    rcases List.mem_cons.mp hm2 with rfl | hm2
    · refine ⟨rfl, _, rfl, ?_⟩
      refine okb_p rfl rfl rfl ?_
      refine okb_p rfl rfl rfl ?_
      exact okb_rv (ok_r rfl rfl rfl rfl rfl ⟨⟨_, rfl⟩, hS', _, rfl, Or.inr ⟨0, M1, .tail _ (.head _), hX, hm⟩⟩)
    rcases List.mem_cons.mp hm2 with rfl | hm2
    · refine ⟨rfl, _, rfl, ?_⟩
      refine okb_p rfl rfl rfl ?_
      refine okb_p rfl rfl rfl ?_
      exact okb_rv (ok_r rfl rfl rfl rfl rfl ⟨⟨_, rfl⟩, hS', _, rfl, Or.inr ⟨2, M1, .head _, hX, hm⟩⟩)
    exact nomatch hm2
set_option maxRecDepth 20000 in
theorem wz_trial (X : Option (List AI)) {a b sz im T H : Int} {C : List AC} {y1 y2 : Int32} {SY : Option AV → MM → Prop} {SE : Nat → MM → Prop} (hS : lt_S a b T H C) (hc : ok_ (tb_P X) 167 0 (ea_ar 0 [.inr (.inl (some 0)), .inl (.inl y1), .inl (.inl y2)]) [] C (fun o C' => (cm_P sz im C C' ∧ en_P 1 [0, 4] o) ∧ JE SY SE o C')) : okb (tb_P X) 1 354 0 (ea_ar 0 [.inr (.inl (some 0)), .inl (.inl y1), .inl (.inl y2), .inr (.inl (some 215))]) [] C (wz_K [(0, Int32.ofInt 1), (4, Int32.ofInt 2)] sz im T H SY SE) := by
  obtain ⟨xs, x1, -, -⟩ := hI_f hS.1 (show tb_G 0 = some (.inl (11, _)) from rfl)
  refine okb_p rfl rfl rfl ?_
  refine okb_p rfl rfl rfl ?_
  refine okb_p rfl rfl rfl ?_
  refine okb_p rfl rfl rfl ?_
  refine okb_p rfl rfl rfl ?_
  refine okb_cv (N := 0) (N' := 1) (mj := 167) (as := [.inl (.inl y1), .inl (.inl y2)]) (T := [.inl (.inl (Int32.ofInt 0)), .inr (.inl (some 215))]) rfl rfl x1 rfl rfl rfl (okb_post (okb_of hc) (fun o C' hq => ?_))
  obtain ⟨⟨hP, hE⟩, M1, hm, hJ⟩ := hq
  have hS' : lt_S sz im T H C' := lt_cm hS hP
  cases o with
  | inl v =>
    obtain ⟨y, rfl⟩ := hE
    have hY : SY (some (.inl (.inl y))) M1 := by
      rcases hJ with ⟨v, e, h⟩ | ⟨ce, e, -⟩
      · cases e; exact h
      · cases e
    obtain ⟨d, us, u1⟩ := lt_215 hS'
    show okb (tb_P X) 0 354 8 _ [.inl (.inl y), .inl (.inl (Int32.ofInt 0)), .inr (.inl (some 215))] C' _
    refine okb_p rfl rfl rfl ?_
    refine okb_ls rfl u1 (ix_of (x := Int32.ofInt 0) (j := 0) (by decide) (by decide)) ?_
    refine okb_p rfl rfl rfl ?_
    refine okb_p rfl rfl rfl ?_
    exact okb_rv (ok_r rfl rfl rfl rfl rfl ⟨⟨_, rfl⟩, lt_out hS' u1 _, _, rfl, Or.inl ⟨rfl, _, _, M1, rfl, hY, mm_z hm u1 _⟩⟩)
  | inr ce =>
    have hX : SE ce M1 := by
      rcases hJ with ⟨v, e, -⟩ | ⟨c2, e, h⟩
      · cases e
      · cases e; exact h
    have hm2 : ce ∈ [0, 4] := hE
    rcases List.mem_cons.mp hm2 with rfl | hm2
    · refine ⟨rfl, _, rfl, ?_⟩
      refine okb_p rfl rfl rfl ?_
      refine okb_p rfl rfl rfl ?_
      exact okb_rv (ok_r rfl rfl rfl rfl rfl ⟨⟨_, rfl⟩, hS', _, rfl, Or.inr ⟨0, M1, .head _, hX, hm⟩⟩)
    rcases List.mem_cons.mp hm2 with rfl | hm2
    · refine ⟨rfl, _, rfl, ?_⟩
      refine okb_p rfl rfl rfl ?_
      refine okb_p rfl rfl rfl ?_
      exact okb_rv (ok_r rfl rfl rfl rfl rfl ⟨⟨_, rfl⟩, hS', _, rfl, Or.inr ⟨4, M1, .tail _ (.head _), hX, hm⟩⟩)
    exact nomatch hm2
set_option maxRecDepth 20000 in
theorem wz_span (X : Option (List AI)) {a b sz im T H : Int} {C : List AC} {y1 y2 : Int32} {SY : Option AV → MM → Prop} {SE : Nat → MM → Prop} (hS : lt_S a b T H C) (hc : ok_ (tb_P X) 168 0 (ea_ar 0 [.inr (.inl (some 0)), .inl (.inl y1), .inl (.inl y2)]) [] C (fun o C' => (cm_P sz im C C' ∧ en_P 1 [0] o) ∧ JE SY SE o C')) : okb (tb_P X) 1 355 0 (ea_ar 0 [.inr (.inl (some 0)), .inl (.inl y1), .inl (.inl y2), .inr (.inl (some 215))]) [] C (wz_K [(0, Int32.ofInt 1)] sz im T H SY SE) := by
  obtain ⟨xs, x1, -, -⟩ := hI_f hS.1 (show tb_G 0 = some (.inl (11, _)) from rfl)
  refine okb_p rfl rfl rfl ?_
  refine okb_p rfl rfl rfl ?_
  refine okb_p rfl rfl rfl ?_
  refine okb_p rfl rfl rfl ?_
  refine okb_p rfl rfl rfl ?_
  refine okb_cv (N := 0) (N' := 1) (mj := 168) (as := [.inl (.inl y1), .inl (.inl y2)]) (T := [.inl (.inl (Int32.ofInt 0)), .inr (.inl (some 215))]) rfl rfl x1 rfl rfl rfl (okb_post (okb_of hc) (fun o C' hq => ?_))
  obtain ⟨⟨hP, hE⟩, M1, hm, hJ⟩ := hq
  have hS' : lt_S sz im T H C' := lt_cm hS hP
  cases o with
  | inl v =>
    obtain ⟨y, rfl⟩ := hE
    have hY : SY (some (.inl (.inl y))) M1 := by
      rcases hJ with ⟨v, e, h⟩ | ⟨ce, e, -⟩
      · cases e; exact h
      · cases e
    obtain ⟨d, us, u1⟩ := lt_215 hS'
    show okb (tb_P X) 0 355 8 _ [.inl (.inl y), .inl (.inl (Int32.ofInt 0)), .inr (.inl (some 215))] C' _
    refine okb_p rfl rfl rfl ?_
    refine okb_ls rfl u1 (ix_of (x := Int32.ofInt 0) (j := 0) (by decide) (by decide)) ?_
    refine okb_p rfl rfl rfl ?_
    refine okb_p rfl rfl rfl ?_
    exact okb_rv (ok_r rfl rfl rfl rfl rfl ⟨⟨_, rfl⟩, lt_out hS' u1 _, _, rfl, Or.inl ⟨rfl, _, _, M1, rfl, hY, mm_z hm u1 _⟩⟩)
  | inr ce =>
    have hX : SE ce M1 := by
      rcases hJ with ⟨v, e, -⟩ | ⟨c2, e, h⟩
      · cases e
      · cases e; exact h
    have hm2 : ce ∈ [0] := hE
    rcases List.mem_cons.mp hm2 with rfl | hm2
    · refine ⟨rfl, _, rfl, ?_⟩
      refine okb_p rfl rfl rfl ?_
      refine okb_p rfl rfl rfl ?_
      exact okb_rv (ok_r rfl rfl rfl rfl rfl ⟨⟨_, rfl⟩, hS', _, rfl, Or.inr ⟨0, M1, .head _, hX, hm⟩⟩)
    exact nomatch hm2
set_option maxRecDepth 20000 in
theorem wz_led (X : Option (List AI)) {a b sz im T H : Int} {C : List AC} {y1 : Int32} {SY : Option AV → MM → Prop} {SE : Nat → MM → Prop} (hS : lt_S a b T H C) (hc : ok_ (tb_P X) 170 0 (ea_ar 0 [.inr (.inl (some 0)), .inl (.inl y1)]) [] C (fun o C' => (cm_P sz im C C' ∧ en_P 1 [2] o) ∧ JE SY SE o C')) : okb (tb_P X) 1 356 0 (ea_ar 0 [.inr (.inl (some 0)), .inl (.inl y1), .inr (.inl (some 215))]) [] C (wz_K [(2, Int32.ofInt 1)] sz im T H SY SE) := by
  obtain ⟨xs, x1, -, -⟩ := hI_f hS.1 (show tb_G 0 = some (.inl (11, _)) from rfl)
  refine okb_p rfl rfl rfl ?_
  refine okb_p rfl rfl rfl ?_
  refine okb_p rfl rfl rfl ?_
  refine okb_p rfl rfl rfl ?_
  refine okb_cv (N := 0) (N' := 1) (mj := 170) (as := [.inl (.inl y1)]) (T := [.inl (.inl (Int32.ofInt 0)), .inr (.inl (some 215))]) rfl rfl x1 rfl rfl rfl (okb_post (okb_of hc) (fun o C' hq => ?_))
  obtain ⟨⟨hP, hE⟩, M1, hm, hJ⟩ := hq
  have hS' : lt_S sz im T H C' := lt_cm hS hP
  cases o with
  | inl v =>
    obtain ⟨y, rfl⟩ := hE
    have hY : SY (some (.inl (.inl y))) M1 := by
      rcases hJ with ⟨v, e, h⟩ | ⟨ce, e, -⟩
      · cases e; exact h
      · cases e
    obtain ⟨d, us, u1⟩ := lt_215 hS'
    show okb (tb_P X) 0 356 7 _ [.inl (.inl y), .inl (.inl (Int32.ofInt 0)), .inr (.inl (some 215))] C' _
    refine okb_p rfl rfl rfl ?_
    refine okb_ls rfl u1 (ix_of (x := Int32.ofInt 0) (j := 0) (by decide) (by decide)) ?_
    refine okb_p rfl rfl rfl ?_
    refine okb_p rfl rfl rfl ?_
    exact okb_rv (ok_r rfl rfl rfl rfl rfl ⟨⟨_, rfl⟩, lt_out hS' u1 _, _, rfl, Or.inl ⟨rfl, _, _, M1, rfl, hY, mm_z hm u1 _⟩⟩)
  | inr ce =>
    have hX : SE ce M1 := by
      rcases hJ with ⟨v, e, -⟩ | ⟨c2, e, h⟩
      · cases e
      · cases e; exact h
    have hm2 : ce ∈ [2] := hE
    rcases List.mem_cons.mp hm2 with rfl | hm2
    · refine ⟨rfl, _, rfl, ?_⟩
      refine okb_p rfl rfl rfl ?_
      refine okb_p rfl rfl rfl ?_
      exact okb_rv (ok_r rfl rfl rfl rfl rfl ⟨⟨_, rfl⟩, hS', _, rfl, Or.inr ⟨2, M1, .head _, hX, hm⟩⟩)
    exact nomatch hm2
set_option maxRecDepth 20000 in
theorem wz_log (X : Option (List AI)) {a b sz im T H : Int} {C : List AC} {y1 y2 : Int32} {SY : Option AV → MM → Prop} {SE : Nat → MM → Prop} (hS : lt_S a b T H C) (hc : ok_ (tb_P X) 172 0 (ea_ar 0 [.inr (.inl (some 0)), .inl (.inl y1), .inl (.inl y2)]) [] C (fun o C' => (cm_P sz im C C' ∧ en_P 1 [4] o) ∧ JE SY SE o C')) : okb (tb_P X) 1 357 0 (ea_ar 0 [.inr (.inl (some 0)), .inl (.inl y1), .inl (.inl y2), .inr (.inl (some 215))]) [] C (wz_K [(4, Int32.ofInt 1)] sz im T H SY SE) := by
  obtain ⟨xs, x1, -, -⟩ := hI_f hS.1 (show tb_G 0 = some (.inl (11, _)) from rfl)
  refine okb_p rfl rfl rfl ?_
  refine okb_p rfl rfl rfl ?_
  refine okb_p rfl rfl rfl ?_
  refine okb_p rfl rfl rfl ?_
  refine okb_p rfl rfl rfl ?_
  refine okb_cv (N := 0) (N' := 1) (mj := 172) (as := [.inl (.inl y1), .inl (.inl y2)]) (T := [.inl (.inl (Int32.ofInt 0)), .inr (.inl (some 215))]) rfl rfl x1 rfl rfl rfl (okb_post (okb_of hc) (fun o C' hq => ?_))
  obtain ⟨⟨hP, hE⟩, M1, hm, hJ⟩ := hq
  have hS' : lt_S sz im T H C' := lt_cm hS hP
  cases o with
  | inl v =>
    obtain ⟨y, rfl⟩ := hE
    have hY : SY (some (.inl (.inl y))) M1 := by
      rcases hJ with ⟨v, e, h⟩ | ⟨ce, e, -⟩
      · cases e; exact h
      · cases e
    obtain ⟨d, us, u1⟩ := lt_215 hS'
    show okb (tb_P X) 0 357 8 _ [.inl (.inl y), .inl (.inl (Int32.ofInt 0)), .inr (.inl (some 215))] C' _
    refine okb_p rfl rfl rfl ?_
    refine okb_ls rfl u1 (ix_of (x := Int32.ofInt 0) (j := 0) (by decide) (by decide)) ?_
    refine okb_p rfl rfl rfl ?_
    refine okb_p rfl rfl rfl ?_
    exact okb_rv (ok_r rfl rfl rfl rfl rfl ⟨⟨_, rfl⟩, lt_out hS' u1 _, _, rfl, Or.inl ⟨rfl, _, _, M1, rfl, hY, mm_z hm u1 _⟩⟩)
  | inr ce =>
    have hX : SE ce M1 := by
      rcases hJ with ⟨v, e, -⟩ | ⟨c2, e, h⟩
      · cases e
      · cases e; exact h
    have hm2 : ce ∈ [4] := hE
    rcases List.mem_cons.mp hm2 with rfl | hm2
    · refine ⟨rfl, _, rfl, ?_⟩
      refine okb_p rfl rfl rfl ?_
      refine okb_p rfl rfl rfl ?_
      exact okb_rv (ok_r rfl rfl rfl rfl rfl ⟨⟨_, rfl⟩, hS', _, rfl, Or.inr ⟨4, M1, .head _, hX, hm⟩⟩)
    exact nomatch hm2
