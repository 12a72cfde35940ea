/-! THE LAW: what each call of the class ends with (printed by wip/eq/gen93.py) -/
section JC
variable {X : Option (List AI)} {B : Int} {M : MM} {C : List AC}
theorem jc_feed {y1 y2 y3 y4 y5 : Int32} (hm : mm tb_G M.1 M.2 C) (h : CP B M) : ∀ N, pa (tb_P X) N 131 0 (ea_ar 0 [.inr (.inl (some 0)), .inl (.inl y1), .inl (.inl y2), .inl (.inl y3), .inl (.inl y4), .inl (.inl y5)]) [] C (JE (fun v M1 => ∃ y, v = some (.inl (.inl y)) ∧ ∀ N', W_m_feed y1 y2 y3 y4 y5 N' M1 (fun b M2 => CP B M2 ∧ M2.1 190 0 = 0 ∧ y = b)) (fun _ _ => False)) := fun N => je (q_E_feed (a_feed h)) hm (jx_r (fun y M' h => ⟨y, rfl, h⟩))
theorem jc_end {y1 : Int32} (hm : mm tb_G M.1 M.2 C) (h : CP B M) : ∀ N, pa (tb_P X) N 132 0 (ea_ar 0 [.inr (.inl (some 0)), .inl (.inl y1)]) [] C (JE (fun v M1 => ∃ y, v = some (.inl (.inl y)) ∧ ∀ N', W_m_end y1 N' M1 (fun b M2 => CP B M2 ∧ M2.1 190 0 = 0 ∧ y = b)) (fun _ _ => False)) := fun N => je (q_E_end (a_end h)) hm (jx_r (fun y M' h => ⟨y, rfl, h⟩))
theorem jc_code (hm : mm tb_G M.1 M.2 C) (h : CP B M) : ∀ N, pa (tb_P X) N 133 0 (ea_ar 0 [.inr (.inl (some 0))]) [] C (JE (fun v M1 => ∃ y, v = some (.inl (.inl y)) ∧ ∀ z N', W_m_code N' (wj M1 215 0 z) (fun b M2 => CP B M2 ∧ M2.1 190 0 = 0 ∧ y = b)) (fun ce M1 => ∀ N', W_m_code N' M1 (fun _ M2 => CP B M2 ∧ M2.1 190 0 = if ce = 0 then 1 else 2))) := fun N => je (q_E_code (a_code h)) hm (jx_re (fun y M' h => ⟨y, rfl, h⟩) (fun ce M' h => h))
theorem jc_republic (hm : mm tb_G M.1 M.2 C) (h : CP B M) : ∀ N, pa (tb_P X) N 134 0 (ea_ar 0 [.inr (.inl (some 0))]) [] C (JE (fun v M1 => ∃ y, v = some (.inl (.inl y)) ∧ ∀ z N', W_m_republic N' (wj M1 215 0 z) (fun b M2 => CP B M2 ∧ M2.1 190 0 = 0 ∧ y = b)) (fun ce M1 => ∀ N', W_m_republic N' M1 (fun _ M2 => CP B M2 ∧ M2.1 190 0 = if ce = 0 then 1 else 2))) := fun N => je (q_E_republic (a_republic h)) hm (jx_re (fun y M' h => ⟨y, rfl, h⟩) (fun ce M' h => h))
theorem jc_fault (hm : mm tb_G M.1 M.2 C) (h : CP B M) : ∀ N, pa (tb_P X) N 135 0 (ea_ar 0 [.inr (.inl (some 0))]) [] C (JE (fun v M1 => ∃ y, v = some (.inl (.inl y)) ∧ ∀ N', W_m_fault N' M1 (fun b M2 => CP B M2 ∧ M2.1 190 0 = 0 ∧ y = b)) (fun _ _ => False)) := fun N => je q_E_fault hm (jx_v ⟨_, rfl, a_fault h⟩)
theorem jc_clause {y1 y2 : Int32} (hm : mm tb_G M.1 M.2 C) (h : CP B M) : ∀ N, pa (tb_P X) N 136 0 (ea_ar 0 [.inr (.inl (some 0)), .inl (.inl y1), .inl (.inl y2)]) [] C (JE (SW B) (SX B)) := fun N => je (q_E_clause (fE_clause h)) hm (jx_re (fun y M' h => h) (fun ce M' h => h))
theorem jc_citizen {y1 y2 : Int32} (hm : mm tb_G M.1 M.2 C) (h : CP B M) : ∀ N, pa (tb_P X) N 137 0 (ea_ar 0 [.inr (.inl (some 0)), .inl (.inl y1), .inl (.inl y2)]) [] C (JE (SW B) (SX B)) := fun N => je (q_E_citizen (an_E_citizen (Q := fun _ => True) (E := fun _ => True) (fun _ => trivial) (fun _ => trivial))) hm (jx_pe (fun y _ => h) (fun ce _ => h))
theorem jc_seen {y1 : Int32} (hm : mm tb_G M.1 M.2 C) (h : CP B M) : ∀ N, pa (tb_P X) N 138 0 (ea_ar 0 [.inr (.inl (some 0)), .inl (.inl y1)]) [] C (JE (fun v M1 => ∃ y, v = some (.inr (.inr (.inl (some y)))) ∧ ∀ z N', W_m_seen y1 N' (wj M1 215 0 z) (fun b M2 => CP B M2 ∧ M2.1 190 0 = 0 ∧ y = b)) (fun ce M1 => ∀ N', W_m_seen y1 N' M1 (fun _ M2 => CP B M2 ∧ M2.1 190 0 = 1))) := fun N => je (q_E_seen (a_seen h)) hm (jx_ple (fun y h => ⟨y, rfl, h⟩) (fun ce h => h))
theorem jc_habit {y1 y2 : Int32} (hm : mm tb_G M.1 M.2 C) (h : CP B M) : ∀ N, pa (tb_P X) N 139 0 (ea_ar 0 [.inr (.inl (some 0)), .inl (.inl y1), .inl (.inl y2)]) [] C (JE (SW B) (SX B)) := fun N => je (q_E_habit (an_E_habit (Q := fun _ => True) (E := fun _ => True) (fun _ => trivial) (fun _ => trivial))) hm (jx_pe (fun y _ => h) (fun ce _ => h))
theorem jc_matter {y1 y2 y3 : Int32} (hm : mm tb_G M.1 M.2 C) (h : CP B M) : ∀ N, pa (tb_P X) N 140 0 (ea_ar 0 [.inr (.inl (some 0)), .inl (.inl y1), .inl (.inl y2), .inl (.inl y3)]) [] C (JE (SW B) (SX B)) := fun N => je (q_E_matter (an_E_matter (Q := fun _ => True) (E := fun _ => True) (fun _ => trivial) (fun _ => trivial))) hm (jx_pe (fun y _ => h) (fun ce _ => h))
theorem jc_tell {y1 y2 : Int32} (hm : mm tb_G M.1 M.2 C) (h : CP B M) : ∀ N, pa (tb_P X) N 141 0 (ea_ar 0 [.inr (.inl (some 0)), .inl (.inl y1), .inl (.inl y2)]) [] C (JE (fun v M1 => ∃ y, v = some (.inl (.inl y)) ∧ ∀ z N', W_m_tell y1 y2 N' (wj M1 215 0 z) (fun b M2 => CP B M2 ∧ M2.1 190 0 = 0 ∧ y = b)) (fun ce M1 => ∀ N', W_m_tell y1 y2 N' M1 (fun _ M2 => CP B M2 ∧ M2.1 190 0 = if ce = 2 then 1 else 2))) := fun N => je (q_E_tell (a_tell h)) hm (jx_re (fun y M' h => ⟨y, rfl, h⟩) (fun ce M' h => h))
theorem jc_die {y1 : Int32} (hm : mm tb_G M.1 M.2 C) (h : CP B M) : ∀ N, pa (tb_P X) N 142 0 (ea_ar 0 [.inr (.inl (some 0)), .inl (.inl y1)]) [] C (JE (fun v M1 => ∃ y, v = some (.inl (.inl y)) ∧ ∀ z N', W_m_die y1 N' (wj M1 215 0 z) (fun b M2 => CP B M2 ∧ M2.1 190 0 = 0 ∧ y = b)) (fun ce M1 => ∀ N', W_m_die y1 N' M1 (fun _ M2 => CP B M2 ∧ M2.1 190 0 = if ce = 2 then 1 else 2))) := fun N => je (q_E_die (a_die h)) hm (jx_re (fun y M' h => ⟨y, rfl, h⟩) (fun ce M' h => h))
theorem jc_wed {y1 y2 : Int32} (hm : mm tb_G M.1 M.2 C) (h : CP B M) : ∀ N, pa (tb_P X) N 143 0 (ea_ar 0 [.inr (.inl (some 0)), .inl (.inl y1), .inl (.inl y2)]) [] C (JE (fun v M1 => ∃ y, v = some (.inl (.inl y)) ∧ ∀ z N', W_m_wed y1 y2 N' (wj M1 215 0 z) (fun b M2 => CP B M2 ∧ M2.1 190 0 = 0 ∧ y = b)) (fun ce M1 => ∀ N', W_m_wed y1 y2 N' M1 (fun _ M2 => CP B M2 ∧ M2.1 190 0 = if ce = 2 then 1 else if ce = 0 then 2 else 3))) := fun N => je (q_E_wed (a_wed h)) hm (jx_re (fun y M' h => ⟨y, rfl, h⟩) (fun ce M' h => h))
theorem jc_baby {y1 : Int32} (hm : mm tb_G M.1 M.2 C) (h : CP B M) : ∀ N, pa (tb_P X) N 144 0 (ea_ar 0 [.inr (.inl (some 0)), .inl (.inl y1)]) [] C (JE (fun v M1 => ∃ y, v = some (.inl (.inl y)) ∧ ∀ z N', W_m_baby y1 N' (wj M1 215 0 z) (fun b M2 => CP B M2 ∧ M2.1 190 0 = 0 ∧ y = b)) (fun ce M1 => ∀ N', W_m_baby y1 N' M1 (fun _ M2 => CP B M2 ∧ M2.1 190 0 = if ce = 2 then 1 else if ce = 3 then 3 else 2))) := fun N => je (q_E_baby (a_baby h)) hm (jx_re (fun y M' h => ⟨y, rfl, h⟩) (fun ce M' h => h))
theorem jc_release {y1 : Int32} (hm : mm tb_G M.1 M.2 C) (h : CP B M) : ∀ N, pa (tb_P X) N 145 0 (ea_ar 0 [.inr (.inl (some 0)), .inl (.inl y1)]) [] C (JE (fun v M1 => ∃ y, v = some (.inl (.inl y)) ∧ ∀ z N', W_m_release y1 N' (wj M1 215 0 z) (fun b M2 => CP B M2 ∧ M2.1 190 0 = 0 ∧ y = b)) (fun ce M1 => ∀ N', W_m_release y1 N' M1 (fun _ M2 => CP B M2 ∧ M2.1 190 0 = if ce = 2 then 1 else 2))) := fun N => je (q_E_release (a_release h)) hm (jx_re (fun y M' h => ⟨y, rfl, h⟩) (fun ce M' h => h))
theorem jc_days {y1 : Int32} (hm : mm tb_G M.1 M.2 C) (h : CP B M) (hB : 0 ≤ B ∧ B ≤ 28000) : ∀ N, pa (tb_P X) N 146 0 (ea_ar 0 [.inr (.inl (some 0)), .inl (.inl y1)]) [] C (JE (fun v M1 => ∃ y, v = some (.inl (.inl y)) ∧ ∀ z N', W_m_days y1 N' (wj M1 215 0 z) (fun b M2 => CP (B + 50) M2 ∧ M2.1 190 0 = 0 ∧ y = b)) (fun ce M1 => ∀ N', W_m_days y1 N' M1 (fun _ M2 => CP (B + 50) M2 ∧ M2.1 190 0 = 1))) := fun N => je (q_E_days (a_days h hB)) hm (jx_re (fun y M' h => ⟨y, rfl, h⟩) (fun ce M' h => h))
theorem jc_nobody (hm : mm tb_G M.1 M.2 C) (h : CP B M) : ∀ N, pa (tb_P X) N 147 0 (ea_ar 0 [.inr (.inl (some 0))]) [] C (JE (SW B) (SX B)) := fun N => je (q_E_nobody (an_E_nobody (Q := fun _ => True) (fun _ => trivial))) hm (jx_p (fun y _ => h))
theorem jc_relief (hm : mm tb_G M.1 M.2 C) (h : CP B M) : ∀ N, pa (tb_P X) N 148 0 (ea_ar 0 [.inr (.inl (some 0))]) [] C (JE (SW B) (SX B)) := fun N => je (q_E_relief (fE_relief h)) hm (jx_r (fun y M' h => h))
theorem jc_read {y1 : Int32} (hm : mm tb_G M.1 M.2 C) (h : CP B M) : ∀ N, pa (tb_P X) N 149 0 (ea_ar 0 [.inr (.inl (some 0)), .inl (.inl y1)]) [] C (JE (fun _ M1 => ∀ z N', W_m_read y1 N' (wj M1 215 0 z) (fun _ M2 => CP B M2)) (fun _ M1 => ∀ N', W_m_read y1 N' M1 (fun _ M2 => CP B M2))) := fun N => je (q_E_read (f_read h)) hm (jx_re (fun y M' h => h) (fun ce M' h => h))
theorem jc_next {y1 : Int32} (hm : mm tb_G M.1 M.2 C) (h : CP B M) : ∀ N, pa (tb_P X) N 150 0 (ea_ar 0 [.inr (.inl (some 0)), .inl (.inl y1)]) [] C (JE (fun _ M1 => ∀ z N', W_m_next y1 N' (wj M1 215 0 z) (fun _ M2 => CP B M2)) (fun _ M1 => ∀ N', W_m_next y1 N' M1 (fun _ M2 => CP B M2))) := fun N => je (q_E_next (f_next h)) hm (jx_re (fun y M' h => h) (fun ce M' h => h))
theorem jc_cover (hm : mm tb_G M.1 M.2 C) (h : CP B M) : ∀ N, pa (tb_P X) N 151 0 (ea_ar 0 [.inr (.inl (some 0))]) [] C (JE (SW B) (SX B)) := fun N => je (q_E_cover (an_E_cover (Q := fun _ => True) (fun _ => trivial))) hm (jx_p (fun y _ => h))
theorem jc_dies {y1 : Int32} (hm : mm tb_G M.1 M.2 C) (h : CP B M) : ∀ N, pa (tb_P X) N 152 0 (ea_ar 0 [.inr (.inl (some 0)), .inl (.inl y1)]) [] C (JE (SW B) (SX B)) := fun N => je (q_E_dies (an_E_dies (Q := fun _ => True) (E := fun _ => True) (fun _ => trivial) (fun _ => trivial))) hm (jx_pe (fun y _ => h) (fun ce _ => h))
theorem jc_heirs {y1 : Int32} (hm : mm tb_G M.1 M.2 C) (h : CP B M) : ∀ N, pa (tb_P X) N 153 0 (ea_ar 0 [.inr (.inl (some 0)), .inl (.inl y1)]) [] C (JE (SW B) (SX B)) := fun N => je (q_E_heirs (an_E_heirs (Q := fun _ => True) (E := fun _ => True) (fun _ => trivial) (fun _ => trivial))) hm (jx_pe (fun y _ => h) (fun ce _ => h))
theorem jc_risk {y1 y2 : Int32} (hm : mm tb_G M.1 M.2 C) (h : CP B M) : ∀ N, pa (tb_P X) N 154 0 (ea_ar 0 [.inr (.inl (some 0)), .inl (.inl y1), .inl (.inl y2)]) [] C (JE (SW B) (SX B)) := fun N => je (q_E_risk (fE_risk h)) hm (jx_re (fun y M' h => h) (fun ce M' h => h))
theorem jc_safe {y1 y2 : Int32} (hm : mm tb_G M.1 M.2 C) (h : CP B M) : ∀ N, pa (tb_P X) N 155 0 (ea_ar 0 [.inr (.inl (some 0)), .inl (.inl y1), .inl (.inl y2)]) [] C (JE (SW B) (SX B)) := fun N => je (q_E_safe (an_E_safe (Q := fun _ => True) (E := fun _ => True) (fun _ => trivial) (fun _ => trivial))) hm (jx_pe (fun y _ => h) (fun ce _ => h))
theorem jc_better {y1 y2 : Int32} (hm : mm tb_G M.1 M.2 C) (h : CP B M) : ∀ N, pa (tb_P X) N 156 0 (ea_ar 0 [.inr (.inl (some 0)), .inl (.inl y1), .inl (.inl y2)]) [] C (JE (SW B) (SX B)) := fun N => je (q_E_better (fE_better h)) hm (jx_re (fun y M' h => h) (fun ce M' h => h))
theorem jc_telling {y1 y2 : Int32} (hm : mm tb_G M.1 M.2 C) (h : CP B M) : ∀ N, pa (tb_P X) N 157 0 (ea_ar 0 [.inr (.inl (some 0)), .inl (.inl y1), .inl (.inl y2)]) [] C (JE (SW B) (SX B)) := fun N => je (q_E_telling (fE_telling h)) hm (jx_re (fun y M' h => h) (fun ce M' h => h))
theorem jc_deduced {y1 : Int32} (hm : mm tb_G M.1 M.2 C) (h : CP B M) : ∀ N, pa (tb_P X) N 158 0 (ea_ar 0 [.inr (.inl (some 0)), .inl (.inl y1)]) [] C (JE (SW B) (SX B)) := fun N => je (q_E_deduced (an_E_deduced (Q := fun _ => True) (E := fun _ => True) (fun _ => trivial) (fun _ => trivial))) hm (jx_pe (fun y _ => h) (fun ce _ => h))
theorem jc_hush {y1 : Int32} (hm : mm tb_G M.1 M.2 C) (h : CP B M) : ∀ N, pa (tb_P X) N 159 0 (ea_ar 0 [.inr (.inl (some 0)), .inl (.inl y1)]) [] C (JE (SW B) (SX B)) := fun N => je (q_E_hush (an_E_hush (Q := fun _ => True) (E := fun _ => True) (fun _ => trivial) (fun _ => trivial))) hm (jx_pe (fun y _ => h) (fun ce _ => h))
theorem jc_usual {y1 : Int32} (hm : mm tb_G M.1 M.2 C) (h : CP B M) : ∀ N, pa (tb_P X) N 160 0 (ea_ar 0 [.inr (.inl (some 0)), .inl (.inl y1)]) [] C (JE (SW B) (SX B)) := fun N => je (q_E_usual (an_E_usual (Q := fun _ => True) (E := fun _ => True) (fun _ => trivial) (fun _ => trivial))) hm (jx_pe (fun y _ => h) (fun ce _ => h))
theorem jc_feared {y1 : Int32} (hm : mm tb_G M.1 M.2 C) (h : CP B M) : ∀ N, pa (tb_P X) N 161 0 (ea_ar 0 [.inr (.inl (some 0)), .inl (.inl y1)]) [] C (JE (SW B) (SX B)) := fun N => je (q_E_feared (an_E_feared (Q := fun _ => True) (fun _ => trivial))) hm (jx_pl (fun y _ => h))
theorem jc_custom {y1 : Int32} (hm : mm tb_G M.1 M.2 C) (h : CP B M) : ∀ N, pa (tb_P X) N 162 0 (ea_ar 0 [.inr (.inl (some 0)), .inl (.inl y1)]) [] C (JE (SW B) (SX B)) := fun N => je (q_E_custom (fE_custom h)) hm (jx_re (fun y M' h => h) (fun ce M' h => h))
theorem jc_settles (hm : mm tb_G M.1 M.2 C) (h : CP B M) : ∀ N, pa (tb_P X) N 163 0 (ea_ar 0 [.inr (.inl (some 0))]) [] C (JE (SW B) (SX B)) := fun N => je (q_E_settles (fE_settles h)) hm (jx_r (fun y M' h => h))
theorem jc_provoked {y1 y2 : Int32} (hm : mm tb_G M.1 M.2 C) (h : CP B M) : ∀ N, pa (tb_P X) N 164 0 (ea_ar 0 [.inr (.inl (some 0)), .inl (.inl y1), .inl (.inl y2)]) [] C (JE (SW B) (SX B)) := fun N => je (q_E_provoked (an_E_provoked (Q := fun _ => True) (E := fun _ => True) (fun _ => trivial) (fun _ => trivial))) hm (jx_pe (fun y _ => h) (fun ce _ => h))
theorem jc_crowd {y1 y2 : Int32} (hm : mm tb_G M.1 M.2 C) (h : CP B M) : ∀ N, pa (tb_P X) N 165 0 (ea_ar 0 [.inr (.inl (some 0)), .inl (.inl y1), .inl (.inl y2)]) [] C (JE (SW B) (SX B)) := fun N => je (q_E_crowd (an_E_crowd (Q := fun _ => True) (E := fun _ => True) (fun _ => trivial) (fun _ => trivial))) hm (jx_pe (fun y _ => h) (fun ce _ => h))
theorem jc_witnesses {y1 y2 y3 : Int32} (hm : mm tb_G M.1 M.2 C) (h : CP B M) : ∀ N, pa (tb_P X) N 166 0 (ea_ar 0 [.inr (.inl (some 0)), .inl (.inl y1), .inl (.inl y2), .inl (.inl y3)]) [] C (JE (SW B) (SX B)) := fun N => je (q_E_witnesses (an_E_witnesses (Q := fun _ => True) (E := fun _ => True) (fun _ => trivial) (fun _ => trivial))) hm (jx_pe (fun y _ => h) (fun ce _ => h))
theorem jc_trial {y1 y2 : Int32} (hm : mm tb_G M.1 M.2 C) (h : CP B M) : ∀ N, pa (tb_P X) N 167 0 (ea_ar 0 [.inr (.inl (some 0)), .inl (.inl y1), .inl (.inl y2)]) [] C (JE (SW B) (SX B)) := fun N => je (q_E_trial (fE_trial h)) hm (jx_re (fun y M' h => h) (fun ce M' h => h))
theorem jc_span {y1 y2 : Int32} (hm : mm tb_G M.1 M.2 C) (h : CP B M) : ∀ N, pa (tb_P X) N 168 0 (ea_ar 0 [.inr (.inl (some 0)), .inl (.inl y1), .inl (.inl y2)]) [] C (JE (SW B) (SX B)) := fun N => je (q_E_span (fE_span h)) hm (jx_re (fun y M' h => h) (fun ce M' h => h))
theorem jc_first (hm : mm tb_G M.1 M.2 C) (h : CP B M) : ∀ N, pa (tb_P X) N 169 0 (ea_ar 0 [.inr (.inl (some 0))]) [] C (JE (SW B) (SX B)) := fun N => je (q_E_first (fE_first h)) hm (jx_r (fun y M' h => h))
theorem jc_led {y1 : Int32} (hm : mm tb_G M.1 M.2 C) (h : CP B M) : ∀ N, pa (tb_P X) N 170 0 (ea_ar 0 [.inr (.inl (some 0)), .inl (.inl y1)]) [] C (JE (SW B) (SX B)) := fun N => je (q_E_led (an_E_led (Q := fun _ => True) (E := fun _ => True) (fun _ => trivial) (fun _ => trivial))) hm (jx_pe (fun y _ => h) (fun ce _ => h))
theorem jc_worst (hm : mm tb_G M.1 M.2 C) (h : CP B M) : ∀ N, pa (tb_P X) N 171 0 (ea_ar 0 [.inr (.inl (some 0))]) [] C (JE (SW B) (SX B)) := fun N => je (q_E_worst (an_E_worst (Q := fun _ => True) (fun _ => trivial))) hm (jx_p (fun y _ => h))
theorem jc_log {y1 y2 : Int32} (hm : mm tb_G M.1 M.2 C) (h : CP B M) : ∀ N, pa (tb_P X) N 172 0 (ea_ar 0 [.inr (.inl (some 0)), .inl (.inl y1), .inl (.inl y2)]) [] C (JE (SW B) (SX B)) := fun N => je (q_E_log (an_E_log (Q := fun _ => True) (E := fun _ => True) (fun _ => trivial) (fun _ => trivial))) hm (jx_pe (fun y _ => h) (fun ce _ => h))
theorem jc_seed {y1 : Int32} (hm : mm tb_G M.1 M.2 C) (h : CP B M) : ∀ N, pa (tb_P X) N 173 0 (ea_ar 0 [.inr (.inl (some 0)), .inl (.inl y1)]) [] C (JE (fun v M1 => ∃ y, v = some (.inl (.inl y)) ∧ ∀ N', W_m_seed y1 N' M1 (fun b M2 => CP B M2 ∧ M2.1 190 0 = 0 ∧ y = b)) (fun _ _ => False)) := fun N => je (q_E_seed (a_seed h)) hm (jx_r (fun y M' h => ⟨y, rfl, h⟩))
theorem jc_undo (hm : mm tb_G M.1 M.2 C) (h : CP B M) : ∀ N, pa (tb_P X) N 174 0 (ea_ar 0 [.inr (.inl (some 0))]) [] C (JE (fun v M1 => ∃ y, v = some (.inl (.inl y)) ∧ ∀ N', W_m_undo N' M1 (fun b M2 => CP B M2 ∧ M2.1 190 0 = 0 ∧ y = b)) (fun _ _ => False)) := fun N => je (q_E_undo (a_undo h)) hm (jx_r (fun y M' h => ⟨y, rfl, h⟩))
theorem jc_image (hm : mm tb_G M.1 M.2 C) (h : CP B M) : ∀ N, pa (tb_P X) N 175 0 (ea_ar 0 [.inr (.inl (some 0))]) [] C (JE (fun _ M1 => ∀ N', W_m_image N' M1 (fun M2 => CP B M2 ∧ M2.1 190 0 = 0)) (fun _ _ => False)) := fun N => je (q_E_image (a_image h)) hm (jx_u (fun M' h => h))
theorem jc_back (hm : mm tb_G M.1 M.2 C) (h : CP B M) : ∀ N, pa (tb_P X) N 176 0 (ea_ar 0 [.inr (.inl (some 0))]) [] C (JE (fun v M1 => ∃ y, v = some (.inl (.inl y)) ∧ ∀ N', W_m_back N' M1 (fun b M2 => CP B M2 ∧ M2.1 190 0 = 0 ∧ y = b)) (fun _ _ => False)) := fun N => je (q_E_back (a_back h)) hm (jx_r (fun y M' h => ⟨y, rfl, h⟩))
theorem jc_count {y1 : Int32} (hm : mm tb_G M.1 M.2 C) (h : CP B M) : ∀ N, pa (tb_P X) N 177 0 (ea_ar 0 [.inr (.inl (some 0)), .inl (.inl y1)]) [] C (JE (SW B) (SX B)) := fun N => je (q_E_count (an_E_count (Q := fun _ => True) (fun _ => trivial))) hm (jx_p (fun y _ => h))
theorem th_ok (hm : mm tb_G M.1 M.2 C) : ok_ (tb_P X) 388 0 (ea_ar 0 [.inr (.inl (some 190))]) [] C (fun o C' => o = .inl (some (.inl (.inl (M.1 190 0)))) ∧ C' = C) := by
  obtain ⟨vs, h1, h2⟩ := fld_190 hm
  refine ok_an rfl rfl rfl ?_
  refine ok_gf rfl rfl h1 h2 ?_
  exact ok_r rfl rfl rfl rfl rfl ⟨rfl, rfl⟩
end JC
theorem lk_s2 (L : List (Nat × AV)) (i : Nat) (a : AV) : ea_lk (ea_s2 L i a) i = some a := by
  show (bif Nat.beq i i then some a else _) = _
  rw [Nat.beq_refl]
  rfl
theorem lk_filt2 {i j : Nat} {v : AV} (hv : ea_cat v = 1) : ∀ {L : List (Nat × AV)}, ea_lk L j = some v → j ≠ i → j ≠ i + 1 → ea_lk (L.filter (fun q => !(q.1 == i) && (!(q.1 == i + 1) && !(q.1 + 1 == i && ea_cat q.2 == 2)))) j = some v
  | [], h, _, _ => by cases h
  | q :: t, h, h1, h2 => by
    unfold ea_lk at h
    cases hb : Nat.beq q.1 j with
    | true =>
      rw [hb] at h
      simp only [cond_true, Option.some.injEq] at h
      have e := Nat.eq_of_beq_eq_true hb
      rw [List.filter_cons, if_pos (by rw [h, hv, e]; simp [h1, h2])]
      unfold ea_lk
      rw [hb, h]
      rfl
    | false =>
      rw [hb] at h
      simp only [cond_false] at h
      have ih := lk_filt2 hv h h1 h2
      rw [List.filter_cons]
      split
      · unfold ea_lk
        rw [hb]
        exact ih
      · exact ih
theorem lk_s2_n1 {L : List (Nat × AV)} {i j : Nat} {a v : AV} (h : ea_lk L j = some v) (hv : ea_cat v = 1) (h1 : j ≠ i) (h2 : j ≠ i + 1) : ea_lk (ea_s2 L i a) j = some v := by
  unfold ea_s2
  show (bif Nat.beq i j then some a else ea_lk (L.filter _) j) = some v
  have hb : Nat.beq i j = false := by
    cases hb : Nat.beq i j with
    | false => rfl
    | true => exact absurd (Nat.eq_of_beq_eq_true hb).symm h1
  rw [hb]
  exact lk_filt2 hv h h1 h2
theorem okb_lw {P : EP} {N m pc k : Nat} {L : List (Nat × AV)} {S : List AV} {C : List AC} {K : Option AV ⊕ Nat → List AC → Prop} {w : Int64} (hc : ep_cod P m pc = some (.lload k, 2)) (hl : ea_lk L k = some (.inr (.inr (.inl (some w))))) (h : okb P N m (pc + 2) L (.inr (.inr (.inl (some w))) :: S) C K) : okb P N m pc L S C K :=
  okb_p hc rfl (show (match ea_lk L k with
    | some (.inr (.inr (.inl a))) => some (pc + 2, L, (.inr (.inr (.inl a)) : AV) :: S)
    | _ => none) = some (pc + 2, L, .inr (.inr (.inl (some w))) :: S) by rw [hl]) h
