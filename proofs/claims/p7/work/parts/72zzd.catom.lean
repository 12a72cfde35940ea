section
/-! THE CLASS READS AN ATOM, A CONDITION -/
def RDC (t : Nat) (K V : Nat → Int32) (e : Nat → Nat) (rd : Int32 → Nat → MM → (Int32 → MM → Prop) → Prop) (sp : Nat → Option BF × Nat) (d : Int32) (A : Nat) : Prop := ∀ N M i s u Q, TKc M t K V i → i ≤ t → M.1 13 6 = i32 s → M.1 13 8 = i32 (5 * u) → 2 * s ≤ pe e i → 3 * u + 3 ≤ pe e i → CDS t K V e A i s u M (sp i) Q → rd d N M Q
def atomC (ra rc : Int32 → Nat → MM → (Int32 → MM → Prop) → Prop) (p1 : Int32) (N : Nat) (M : MM) (Q : Int32 → MM → Prop) : Prop :=
  (((V_Text_kind  M) = 6 →
    W_Text_goOn  N M (fun M3 =>
      W_Law_addStep 13 (-1) N M3 (fun M5 =>
        Q 1 M5))) ∧
   (¬ (V_Text_kind  M) = 6 →
    (((V_Text_kind  M) = 5 →
      ((p1 < 6 →
        W_Text_goOn  N M (fun M9 =>
          (((V_Text_kind  M) = 5 →
            ra (p1 + 1) N M9 (fun r11 M12 =>
              ((r11 = 0 →
                Q 0 M12) ∧
               (¬ r11 = 0 →
                W_Law_addStep 13 (-2) N M12 (fun M15 =>
                  Q 1 M15))))) ∧
           (¬ (V_Text_kind  M) = 5 →
            rc (p1 + 1) N M9 (fun r16 M17 =>
              ((r16 = 0 →
                Q 0 M17) ∧
               (¬ r16 = 0 →
                (((V_Text_kind  M17) = 41 →
                  W_Text_goOn  N M17 (fun M21 =>
                    Q 1 M21)) ∧
                 (¬ (V_Text_kind  M17) = 41 →
                  Q 0 M17))))))))) ∧
       (¬ p1 < 6 →
        Q 0 M))) ∧
     (¬ (V_Text_kind  M) = 5 →
      (((V_Text_kind  M) = 40 →
        ((p1 < 6 →
          W_Text_goOn  N M (fun M25 =>
            (((V_Text_kind  M) = 5 →
              ra (p1 + 1) N M25 (fun r27 M28 =>
                ((r27 = 0 →
                  Q 0 M28) ∧
                 (¬ r27 = 0 →
                  W_Law_addStep 13 (-2) N M28 (fun M31 =>
                    Q 1 M31))))) ∧
             (¬ (V_Text_kind  M) = 5 →
              rc (p1 + 1) N M25 (fun r32 M33 =>
                ((r32 = 0 →
                  Q 0 M33) ∧
                 (¬ r32 = 0 →
                  (((V_Text_kind  M33) = 41 →
                    W_Text_goOn  N M33 (fun M37 =>
                      Q 1 M37)) ∧
                   (¬ (V_Text_kind  M33) = 41 →
                    Q 0 M33))))))))) ∧
         (¬ p1 < 6 →
          Q 0 M))) ∧
       (¬ (V_Text_kind  M) = 40 →
        W_LawReader_readComparison  N M (fun r38 M39 =>
          Q r38 M39)))))))
def bCn (ra : Int32 → Nat → MM → (Int32 → MM → Prop) → Prop) (p1 : Int32) (Q : Int32 → MM → Prop) (N : Nat) (ih : Int32 → Int32 → Int32 → MM → Prop) (v2 : Int32) (v3 : Int32) (v4 : Int32) (M : MM) : Prop :=
  ((v4 < 400 →
    ra p1 N M (fun r2 M3 =>
      ((r2 = 0 →
        Q 0 M3) ∧
       (¬ r2 = 0 →
        ((v2 = 0 →
          (((V_Text_kind  M3) = 4 →
            W_Text_goOn  N M3 (fun M9 =>
              ih 1 v3 (v4 + 1) M9)) ∧
           (¬ (V_Text_kind  M3) = 4 →
            ((v3 = 0 →
              (((V_Text_kind  M3) = 3 →
                W_Text_goOn  N M3 (fun M15 =>
                  ih 0 1 (v4 + 1) M15)) ∧
               (¬ (V_Text_kind  M3) = 3 →
                Q 1 M3))) ∧
             (¬ v3 = 0 →
              W_Law_addStep 13 (-4) N M3 (fun M18 =>
                (((V_Text_kind  M18) = 3 →
                  W_Text_goOn  N M18 (fun M22 =>
                    ih 0 1 (v4 + 1) M22)) ∧
                 (¬ (V_Text_kind  M18) = 3 →
                  Q 1 M18)))))))) ∧
         (¬ v2 = 0 →
          W_Law_addStep 13 (-3) N M3 (fun M25 =>
            (((V_Text_kind  M25) = 4 →
              W_Text_goOn  N M25 (fun M29 =>
                ih 1 v3 (v4 + 1) M29)) ∧
             (¬ (V_Text_kind  M25) = 4 →
              ((v3 = 0 →
                (((V_Text_kind  M25) = 3 →
                  W_Text_goOn  N M25 (fun M35 =>
                    ih 0 1 (v4 + 1) M35)) ∧
                 (¬ (V_Text_kind  M25) = 3 →
                  Q 1 M25))) ∧
               (¬ v3 = 0 →
                W_Law_addStep 13 (-4) N M25 (fun M38 =>
                  (((V_Text_kind  M38) = 3 →
                    W_Text_goOn  N M38 (fun M42 =>
                      ih 0 1 (v4 + 1) M42)) ∧
                   (¬ (V_Text_kind  M38) = 3 →
                    Q 1 M38)))))))))))))) ∧
   (¬ v4 < 400 →
    Q 0 M))
def lpC (ra : Int32 → Nat → MM → (Int32 → MM → Prop) → Prop) (p1 : Int32) (Q : Int32 → MM → Prop) : Nat → Int32 → Int32 → Int32 → MM → Prop
  | 0, _, _, _, _ => True
  | N + 1, v2, v3, v4, M => bCn ra p1 Q N (lpC ra p1 Q N) v2 v3 v4 M
theorem lpC_I {ra : Int32 → Nat → MM → (Int32 → MM → Prop) → Prop} {p1 : Int32} {Q : Int32 → MM → Prop} (P : Int32 → Int32 → Int32 → MM → Prop) (h : ∀ N ih v2 v3 v4 M, (∀ v2 v3 v4 M', P v2 v3 v4 M' → ih v2 v3 v4 M') → P v2 v3 v4 M → bCn ra p1 Q N ih v2 v3 v4 M) : ∀ N v2 v3 v4 M, P v2 v3 v4 M → lpC ra p1 Q N v2 v3 v4 M
  | 0, _, _, _, _, _ => trivial
  | N + 1, v2, v3, v4, M, hP => h N _ v2 v3 v4 M (fun v2 v3 v4 M' hM' => lpC_I P h N v2 v3 v4 M' hM') hP
theorem CMt_sn {A s s' u : Nat} {M : MM} {st : Int32} {Y Z : Int32 → Int32 → Int32 → Int32 → Nat → Nat} (h : CMt A M s s' u Y) (hl : s ≤ s') (hs : M.1 16 s' = st) (hc : ∀ tm pl wh kn dy X, X < A → cst tm pl wh kn dy st (i32 (Y pl wh kn dy X)) = i32 (Z pl wh kn dy X)) : CMt A M s (s' + 1) u Z := fun sp tm a1 a2 pl wh kn dy hr X hX => by
  rw [show s' + 1 - s = (s' - s) + 1 by omega, crun_app, h sp tm (fun x hx => a1 x (by omega)) a2 pl wh kn dy hr X hX, show s + (s' - s) = s' by omega]
  show cst tm pl wh kn dy (sp s') _ = _
  rw [a1 s' (by omega), hs]
  exact hc tm pl wh kn dy X hX
def oY (o : Option BF) (pl wh kn dy : Int32) (X : Nat) : Nat := match o with
  | none => X
  | some c => 2 * X + (c pl wh kn dy).toNat
def jY (o a : Option BF) (pl wh kn dy : Int32) (X : Nat) : Nat := oY a pl wh kn dy (oY o pl wh kn dy X)
theorem bt2 (c : Bool) : c.toNat ≤ 1 := by cases c <;> decide
theorem oY_b {o : Option BF} {pl wh kn dy : Int32} {X : Nat} : oY o pl wh kn dy X ≤ 2 * X + 1 := by
  unfold oY
  cases o with
  | none => show X ≤ _; omega
  | some c =>
    have := bt2 (c pl wh kn dy)
    show 2 * X + (c pl wh kn dy).toNat ≤ _
    omega
section CA
variable {f : BY} {n t : Nat} {K V : Nat → Int32} {b e : Nat → Nat}
theorem w6 : wln 6 = 5 ∧ wln 5 = 3 ∧ wln 4 = 3 ∧ wln 3 = 2 ∧ wln 2 = 2 ∧ wln 1 = 6 ∧ wln 0 = 5 := by decide +kernel
theorem c_feast {N A i s u : Nat} {M : MM} {Q : Int32 → MM → Prop} (hn : n ≤ 400) (hT : TKS f n t K V b e) (h : TKc M t K V i) (hi : i ≤ t) (hk : K i = 6) (h6 : M.1 13 6 = i32 s) (h8 : M.1 13 8 = i32 (5 * u)) (hs : 2 * s ≤ pe e i) {res : Option BF × Nat} (hres : res = (some (fun _ _ _ dy => decide (rm dy 7 = 0)), i + 1)) (hQ : CDS t K V e A i s u M res Q) : W_Text_goOn N M (fun M3 => W_Law_addStep 13 (-1) N M3 (fun M5 => Q 1 M5)) := by
  have hlt := tk_lt hT hi (by rw [hk]; decide)
  have hw := pe_w (k := 6) (by omega) hT hi hk
  rw [w6.1] at hw
  have hpn := pe_n hT (show i + 1 ≤ t by omega)
  unfold W_Text_goOn
  refine c_step (s := s) h6 (by omega) (fun M' a1 a2 a3 a4 => ?_)
  exact hQ.1 _ (i + 1) hres (by omega) (by omega) M' (s + 1) u (TKc_e (TKc_g h) a4 rfl) a1 (by rw [eq1 a4 (b := 13) (k := 8) rfl]; exact h8) (by omega) (by omega) (by omega) (by omega) (CMt_1 a2 (fun tm ht2 pl wh kn dy hr X hX => cst_f)) (fun x hx => by rw [a3 x (by omega)]; rfl) (fun x hx => by rw [eqb a4 (lo := 17) (hi := 17) rfl (Nat.le_refl _) (Nat.le_refl _)]; rfl)
theorem c_atom0 {F A : Nat} (hn : n ≤ 400) (hT : TKS f n t K V b e) : RDC t K V e W_LawReader_readAtom_369 (pAtom K V F 0) (i32 6) A := by
  intro N M i s u Q h hi h6 h8 hs hu hQ
  have ht := hT.1
  unfold pAtom at hQ
  unfold W_LawReader_readAtom_369
  rw [kd h hi ht]
  refine ⟨fun hk => ?_, fun hk => ⟨fun hk5 => ⟨fun x => absurd x (by decide), fun _ => ?_⟩, fun hk5 => ⟨fun hk40 => ⟨fun x => absurd x (by decide), fun _ => ?_⟩, fun hk40 => ?_⟩⟩⟩
  · rw [if_neg (by rw [hk]; decide), if_neg (by rw [hk]; decide), if_pos hk] at hQ
    exact c_feast hn hT h hi hk h6 h8 hs rfl hQ
  · rw [if_neg (by rw [hk5]; decide), if_pos hk5] at hQ
    exact hQ.2 i rfl hi M h
  · rw [if_pos hk40] at hQ
    exact hQ.2 i rfl hi M h
  · rw [if_neg hk40, if_neg hk5, if_neg hk] at hQ
    exact c_cmp hn hT h hi h6 h8 hs hu hQ
theorem c_atomS {ra rc : Int32 → Nat → MM → (Int32 → MM → Prop) → Prop} {F k d A A' : Nat} (hn : n ≤ 400) (hT : TKS f n t K V b e) (hd : d < 6) (hA : A ≤ A') (hc : RDC t K V e rc (pCond K V F k) (i32 (d + 1)) A) (ha : RDC t K V e ra (pAtom K V F k) (i32 (d + 1)) A') : RDC t K V e (atomC ra rc) (pAtom K V F (k + 1)) (i32 d) A := by
  intro N M i s u Q h hi h6 h8 hs hu hQ
  have ht := hT.1
  have hd6 : i32 d < 6 := (i32_lt (k := 6) (by omega) (by omega)).mpr hd
  unfold pAtom at hQ
  unfold atomC
  rw [kd h hi ht, i32_s]
  refine ⟨fun hk => ?_, fun hk => ⟨fun hk5 => ⟨fun _ => ?_, fun x => absurd hd6 x⟩, fun hk5 => ⟨fun hk40 => ⟨fun _ => ?_, fun x => absurd hd6 x⟩, fun hk40 => ?_⟩⟩⟩
  · rw [if_neg (by rw [hk]; decide), if_neg (by rw [hk]; decide), if_pos hk] at hQ
    exact c_feast hn hT h hi hk h6 h8 hs rfl hQ
  · rw [if_neg (by rw [hk5]; decide), if_pos hk5] at hQ
    have hlt := tk_lt hT hi (by rw [hk5]; decide)
    have hw := pe_w (k := 5) (by omega) hT hi hk5
    rw [w6.2.1] at hw
    unfold W_Text_goOn
    refine ⟨fun _ => ?_, fun x => absurd hk5 x⟩
    refine ha N _ (i + 1) s u _ (TKc_g h) (by omega) h6 h8 (by omega) (by omega) ⟨fun c j hj hjt hij M' s' u' t1 a6 a8 l1 l2 l3 l4 g1 f1 f2 => ?_, fun j hj hjt M' t1 => ?_⟩
    · refine ⟨fun x => absurd x (by decide), fun _ => ?_⟩
      rw [hj] at hQ
      dsimp only at hQ
      have hpn := pe_n hT hjt
      refine c_step (s := s') a6 (by omega) (fun M3 b1 b2 b3 b4 => ?_)
      have e17 : M3.1 17 = M'.1 17 := eqb b4 (lo := 17) (hi := 17) rfl (Nat.le_refl _) (Nat.le_refl _)
      refine hQ.1 _ j rfl hjt (by omega) M3 (s' + 1) u' (TKc_e t1 b4 rfl) b1 (by rw [eq1 b4 (b := 13) (k := 8) rfl]; exact a8) (by omega) (by omega) (by omega) (by omega) ?_ (fun x hx => by rw [b3 x (by omega)]; exact f1 x hx) (fun x hx => by rw [e17]; exact f2 x hx)
      exact CMt_sn (CMt_cg (CMt_le g1 hA) (Nat.le_refl _) (fun x hx => b3 x (by omega)) (fun x hx => by rw [e17])) l1 b2 (fun tm pl wh kn dy X hX => cst_n)
    · refine ⟨fun _ => ?_, fun x => absurd rfl x⟩
      rw [hj] at hQ
      exact hQ.2 j rfl hjt M' t1
  · rw [if_pos hk40] at hQ
    have hlt := tk_lt hT hi (by rw [hk40]; decide)
    have hw := pe_1 hT hlt
    unfold W_Text_goOn
    refine ⟨fun x => absurd x hk5, fun _ => ?_⟩
    refine hc N _ (i + 1) s u _ (TKc_g h) (by omega) h6 h8 (by omega) (by omega) ⟨fun c j hj hjt hij M' s' u' t1 a6 a8 l1 l2 l3 l4 g1 f1 f2 => ?_, fun j hj hjt M' t1 => ?_⟩
    · refine ⟨fun x => absurd x (by decide), fun _ => ?_⟩
      rw [show pJoin K (pAtom K V F k) F none none (i + 1) = (some c, j) from hj] at hQ
      dsimp only at hQ
      rw [kd t1 hjt ht]
      refine ⟨fun hk41 => ?_, fun hk41 => ?_⟩
      · rw [if_pos hk41] at hQ
        have hlt2 := tk_lt hT hjt (by rw [hk41]; decide)
        have hw2 := pe_1 hT hlt2
        exact hQ.1 c (j + 1) rfl (by omega) (by omega) _ s' u' (TKc_g t1) a6 a8 l1 l2 (by omega) (by omega) g1 f1 f2
      · rw [if_neg hk41] at hQ
        exact hQ.2 j rfl hjt M' t1
    · refine ⟨fun _ => ?_, fun x => absurd rfl x⟩
      rw [show pJoin K (pAtom K V F k) F none none (i + 1) = (none, j) from hj] at hQ
      exact hQ.2 j rfl hjt M' t1
  · rw [if_neg hk40, if_neg hk5, if_neg hk] at hQ
    exact c_cmp hn hT h hi h6 h8 hs hu hQ
theorem c_cond {ra : Int32 → Nat → MM → (Int32 → MM → Prop) → Prop} {at_ : Nat → Option BF × Nat} {d : Int32} {F A A' : Nat} (hn : n ≤ 400) (hT : TKS f n t K V b e) (hF : 400 < F) (hA : 4 * A ≤ A') (hA2 : A ≤ 2 ^ 28) (hra : RDC t K V e ra at_ d A') : RDC t K V e (fun p1 N M Q => lpC ra p1 Q N 0 0 0 M) (fun i => pJoin K at_ F none none i) d A := by
  intro N M i s u Q h hi h6 h8 hs hu hQ
  have ht := hT.1
  obtain ⟨m0, rfl⟩ : ∃ m, F = m + 1 := ⟨F - 1, by omega⟩
  obtain ⟨hQ1, hQ0⟩ := hQ
  dsimp only at hQ1 hQ0
  refine lpC_I (fun v2 v3 v4 M' => ∃ m o a s' u' i' cnt, v2 = b32 a.isSome ∧ v3 = b32 o.isSome ∧ v4 = i32 cnt ∧ 2 * cnt + i ≤ i' ∧ i' ≤ t ∧ t ≤ i' + m ∧ pJoin K at_ (m0 + 1) none none i = pJoin K at_ (m + 1) o a i' ∧ TKc M' t K V i' ∧ M'.1 13 6 = i32 s' ∧ M'.1 13 8 = i32 (5 * u') ∧ s ≤ s' ∧ u ≤ u' ∧ 2 * s' + 2 * (a.isSome.toNat + o.isSome.toNat) + pe e i ≤ 2 * s + pe e i' ∧ 3 * u' + pe e i ≤ 3 * u + pe e i' ∧ CMt A M' s s' u' (jY o a) ∧ (∀ x, x < s → M'.1 16 x = M.1 16 x) ∧ (∀ x, x < 5 * u → M'.1 17 x = M.1 17 x)) (fun N ih v2 v3 v4 M' hih hv => ?_) N 0 0 0 M ⟨m0, none, none, s, u, i, 0, rfl, rfl, rfl, by omega, hi, by omega, rfl, h, h6, h8, Nat.le_refl _, Nat.le_refl _, by show 2 * s + 2 * (0 + 0) + pe e i ≤ _; omega, Nat.le_refl _, CMt_0, fun _ _ => rfl, fun _ _ => rfl⟩
  obtain ⟨m, o, a, s', u', i', cnt, rfl, rfl, rfl, k1, k2, k3, k4, k5, k6, k7, k8, k9, k10, k11, k12, k13, k14⟩ := hv
  unfold bCn
  refine ⟨fun _ => ?_, fun hx => absurd ((i32_lt (k := 400) (by omega) (by omega)).mpr (by omega)) hx⟩
  refine hra N M' i' s' u' _ k5 k2 k6 k7 (by omega) (by omega) ⟨fun c j hj hjt hij M3 s3 u3 t3 a6 a8 l1 l2 l3 l4 g3 f3 f4 => ?_, fun j hj hjt M3 t3 => ?_⟩
  · refine ⟨fun x => absurd x (by decide), fun _ => ?_⟩
    have hjs : pJoin K at_ (m0 + 1) none none i = if K j = 4 then pJoin K at_ m o (some (jn and a c)) (j + 1) else if K j = 3 then pJoin K at_ m (some (jn or o (jn and a c))) none (j + 1) else (some (jn or o (jn and a c)), j) := k4.trans (pJoin_s hj)
    have hpn := pe_n hT hjt
    -- the truth that the atom leaves
    have G : CMt A M3 s s3 u3 (fun pl wh kn dy X => 2 * jY o a pl wh kn dy X + (c pl wh kn dy).toNat) := CMt_tr (CMt_cg k12 (Nat.le_refl _) f3 f4) g3 k8 l1 l2 (fun pl wh kn dy X hX => by
      have h1 := oY_b (o := a) (pl := pl) (wh := wh) (kn := kn) (dy := dy) (X := oY o pl wh kn dy X)
      have h2 := oY_b (o := o) (pl := pl) (wh := wh) (kn := kn) (dy := dy) (X := X)
      show oY a pl wh kn dy (oY o pl wh kn dy X) < A'
      omega)
    have F16 : ∀ x, x < s → M3.1 16 x = M.1 16 x := fun x hx => (f3 x (by omega)).trans (k13 x hx)
    have F17 : ∀ x, x < 5 * u → M3.1 17 x = M.1 17 x := fun x hx => (f4 x (by omega)).trans (k14 x hx)
    -- what follows the ands
    have fin : ∀ (M4 : MM) (s4 : Nat) (q : BF), TKc M4 t K V j → M4.1 13 6 = i32 s4 → M4.1 13 8 = i32 (5 * u3) → s ≤ s4 → 2 * s4 + pe e i ≤ 2 * s + pe e j → CMt A M4 s s4 u3 (jY none (some q)) → (∀ x, x < s → M4.1 16 x = M.1 16 x) → (∀ x, x < 5 * u → M4.1 17 x = M.1 17 x) → ¬ K j = 4 → q = jn or o (jn and a c) → ((((V_Text_kind M4) = 3 → W_Text_goOn N M4 (fun M22 => ih 0 1 (i32 cnt + 1) M22)) ∧ (¬ (V_Text_kind M4) = 3 → Q 1 M4))) := fun M4 s4 q t4 b6 b8 n1 n2 g4 r16 r17 hk4 hq => by
      rw [if_neg hk4] at hjs
      rw [kd t4 hjt ht]
      refine ⟨fun hk3 => ?_, fun hk3 => ?_⟩
      · rw [if_pos hk3] at hjs
        have hlt := tk_lt hT hjt (by rw [hk3]; decide)
        have hw := pe_w (k := 3) (by omega) hT hjt hk3
        rw [w6.2.2.2.1] at hw
        obtain ⟨m2, rfl⟩ : ∃ m2, m = m2 + 1 := ⟨m - 1, by omega⟩
        unfold W_Text_goOn
        exact hih _ _ _ _ ⟨m2, some q, none, s4, u3, j + 1, cnt + 1, rfl, rfl, i32_s cnt, by omega, by omega, by omega, by rw [hjs, hq], TKc_g t4, b6, b8, n1, by omega, by show 2 * s4 + 2 * (0 + 1) + pe e i ≤ _; omega, by omega, g4, r16, r17⟩
      · rw [if_neg hk3] at hjs
        exact hQ1 q j (by rw [hjs, hq]) hjt (by omega) M4 s4 u3 t4 b6 b8 n1 (by omega) n2 (by omega) g4 r16 r17
    have aft : ∀ (M4 : MM) (s4 : Nat), TKc M4 t K V j → M4.1 13 6 = i32 s4 → M4.1 13 8 = i32 (5 * u3) → s ≤ s4 → 2 * s4 + 2 * o.isSome.toNat + pe e i ≤ 2 * s + pe e j → CMt A M4 s s4 u3 (jY o (some (jn and a c))) → (∀ x, x < s → M4.1 16 x = M.1 16 x) → (∀ x, x < 5 * u → M4.1 17 x = M.1 17 x) → (((V_Text_kind  M4) = 4 →
              W_Text_goOn  N M4 (fun M29 =>
                ih 1 (b32 o.isSome) (i32 cnt + 1) M29)) ∧
             (¬ (V_Text_kind  M4) = 4 →
              ((b32 o.isSome = 0 →
                (((V_Text_kind  M4) = 3 →
                  W_Text_goOn  N M4 (fun M35 =>
                    ih 0 1 (i32 cnt + 1) M35)) ∧
                 (¬ (V_Text_kind  M4) = 3 →
                  Q 1 M4))) ∧
               (¬ b32 o.isSome = 0 →
                W_Law_addStep 13 (-4) N M4 (fun M38 =>
                  (((V_Text_kind  M38) = 3 →
                    W_Text_goOn  N M38 (fun M42 =>
                      ih 0 1 (i32 cnt + 1) M42)) ∧
                   (¬ (V_Text_kind  M38) = 3 →
                    Q 1 M38))))))) := fun M4 s4 t4 b6 b8 n1 n2 g4 r16 r17 => by
      refine ⟨fun hk4 => ?_, fun hk4 => ?_⟩
      · rw [kd t4 hjt ht] at hk4
        rw [if_pos hk4] at hjs
        have hlt := tk_lt hT hjt (by rw [hk4]; decide)
        have hw := pe_w (k := 4) (by omega) hT hjt hk4
        rw [w6.2.2.1] at hw
        obtain ⟨m2, rfl⟩ : ∃ m2, m = m2 + 1 := ⟨m - 1, by omega⟩
        unfold W_Text_goOn
        exact hih _ _ _ _ ⟨m2, o, some (jn and a c), s4, u3, j + 1, cnt + 1, rfl, rfl, i32_s cnt, by omega, by omega, by omega, hjs, TKc_g t4, b6, b8, n1, by omega, by show 2 * s4 + 2 * (1 + o.isSome.toNat) + pe e i ≤ _; omega, by omega, g4, r16, r17⟩
      · rw [kd t4 hjt ht] at hk4
        cases o with
        | none =>
          refine ⟨fun _ => fin M4 s4 _ t4 b6 b8 n1 (by have : 2 * s4 + 2 * 0 + pe e i ≤ 2 * s + pe e j := n2; omega) g4 r16 r17 hk4 rfl, fun x => absurd rfl x⟩
        | some o0 =>
          refine ⟨fun x => absurd (show (1 : Int32) = 0 from x) (by decide), fun _ => ?_⟩
          have n2' : 2 * s4 + 2 * 1 + pe e i ≤ 2 * s + pe e j := n2
          refine c_step (s := s4) b6 (by omega) (fun M5 d1 d2 d3 d4 => ?_)
          have e17 : M5.1 17 = M4.1 17 := eqb d4 (lo := 17) (hi := 17) rfl (Nat.le_refl _) (Nat.le_refl _)
          refine fin M5 (s4 + 1) (jn or (some o0) (jn and a c)) (TKc_e t4 d4 rfl) d1 (by rw [eq1 d4 (b := 13) (k := 8) rfl]; exact b8) (by omega) (by omega) ?_ (fun x hx => by rw [d3 x (by omega)]; exact r16 x hx) (fun x hx => by rw [e17]; exact r17 x hx) hk4 rfl
          exact CMt_sn (CMt_cg g4 (Nat.le_refl _) (fun x hx => d3 x (by omega)) (fun x hx => by rw [e17])) n1 d2 (fun tm pl wh kn dy X hX => cst_o (by omega))
    cases a with
    | none =>
      have k10' : 2 * s' + 2 * (0 + o.isSome.toNat) + pe e i ≤ 2 * s + pe e i' := k10
      exact ⟨fun _ => aft M3 s3 t3 a6 a8 (by omega) (by omega) G F16 F17, fun x => absurd rfl x⟩
    | some a0 =>
      have k10' : 2 * s' + 2 * (1 + o.isSome.toNat) + pe e i ≤ 2 * s + pe e i' := k10
      refine ⟨fun x => absurd (show (1 : Int32) = 0 from x) (by decide), fun _ => ?_⟩
      refine c_step (s := s3) a6 (by omega) (fun M5 d1 d2 d3 d4 => ?_)
      have e17 : M5.1 17 = M3.1 17 := eqb d4 (lo := 17) (hi := 17) rfl (Nat.le_refl _) (Nat.le_refl _)
      refine aft M5 (s3 + 1) (TKc_e t3 d4 rfl) d1 (by rw [eq1 d4 (b := 13) (k := 8) rfl]; exact a8) (by omega) (by omega) ?_ (fun x hx => by rw [d3 x (by omega)]; exact F16 x hx) (fun x hx => by rw [e17]; exact F17 x hx)
      refine CMt_sn (CMt_cg G (Nat.le_refl _) (fun x hx => d3 x (by omega)) (fun x hx => by rw [e17])) (by omega) d2 (fun tm pl wh kn dy X hX => ?_)
      refine cst_a (X := oY o pl wh kn dy X) ?_
      have := oY_b (o := o) (pl := pl) (wh := wh) (kn := kn) (dy := dy) (X := X)
      omega
  · refine ⟨fun _ => hQ0 j ?_ hjt M3 t3, fun x => absurd rfl x⟩
    rw [k4]
    exact pJoin_n hj
/-! seven levels -/
theorem lpC_368 : W_LawReader_readCondition_368 = fun p1 N M Q => lpC W_LawReader_readAtom_369 p1 Q N 0 0 0 M := by
  have key : ∀ p1 Q N, W_LawReader_readCondition_368_7 p1 Q N = lpC W_LawReader_readAtom_369 p1 Q N := fun p1 Q N => by
    induction N with
    | zero => rfl
    | succ N ih =>
      funext v2 v3 v4 M
      show B_LawReader_readCondition_368_7 p1 Q N (W_LawReader_readCondition_368_7 p1 Q N) v2 v3 v4 M = _
      rw [ih]
      rfl
  funext p1 N M Q
  unfold W_LawReader_readCondition_368
  rw [key]
theorem lpC_366 : W_LawReader_readCondition_366 = fun p1 N M Q => lpC W_LawReader_readAtom_367 p1 Q N 0 0 0 M := by
  have key : ∀ p1 Q N, W_LawReader_readCondition_366_7 p1 Q N = lpC W_LawReader_readAtom_367 p1 Q N := fun p1 Q N => by
    induction N with
    | zero => rfl
    | succ N ih =>
      funext v2 v3 v4 M
      show B_LawReader_readCondition_366_7 p1 Q N (W_LawReader_readCondition_366_7 p1 Q N) v2 v3 v4 M = _
      rw [ih]
      rfl
  funext p1 N M Q
  unfold W_LawReader_readCondition_366
  rw [key]
theorem lpC_364 : W_LawReader_readCondition_364 = fun p1 N M Q => lpC W_LawReader_readAtom_365 p1 Q N 0 0 0 M := by
  have key : ∀ p1 Q N, W_LawReader_readCondition_364_7 p1 Q N = lpC W_LawReader_readAtom_365 p1 Q N := fun p1 Q N => by
    induction N with
    | zero => rfl
    | succ N ih =>
      funext v2 v3 v4 M
      show B_LawReader_readCondition_364_7 p1 Q N (W_LawReader_readCondition_364_7 p1 Q N) v2 v3 v4 M = _
      rw [ih]
      rfl
  funext p1 N M Q
  unfold W_LawReader_readCondition_364
  rw [key]
theorem lpC_362 : W_LawReader_readCondition_362 = fun p1 N M Q => lpC W_LawReader_readAtom_363 p1 Q N 0 0 0 M := by
  have key : ∀ p1 Q N, W_LawReader_readCondition_362_7 p1 Q N = lpC W_LawReader_readAtom_363 p1 Q N := fun p1 Q N => by
    induction N with
    | zero => rfl
    | succ N ih =>
      funext v2 v3 v4 M
      show B_LawReader_readCondition_362_7 p1 Q N (W_LawReader_readCondition_362_7 p1 Q N) v2 v3 v4 M = _
      rw [ih]
      rfl
  funext p1 N M Q
  unfold W_LawReader_readCondition_362
  rw [key]
theorem lpC_360 : W_LawReader_readCondition_360 = fun p1 N M Q => lpC W_LawReader_readAtom_361 p1 Q N 0 0 0 M := by
  have key : ∀ p1 Q N, W_LawReader_readCondition_360_7 p1 Q N = lpC W_LawReader_readAtom_361 p1 Q N := fun p1 Q N => by
    induction N with
    | zero => rfl
    | succ N ih =>
      funext v2 v3 v4 M
      show B_LawReader_readCondition_360_7 p1 Q N (W_LawReader_readCondition_360_7 p1 Q N) v2 v3 v4 M = _
      rw [ih]
      rfl
  funext p1 N M Q
  unfold W_LawReader_readCondition_360
  rw [key]
theorem lpC_358 : W_LawReader_readCondition_358 = fun p1 N M Q => lpC W_LawReader_readAtom_359 p1 Q N 0 0 0 M := by
  have key : ∀ p1 Q N, W_LawReader_readCondition_358_7 p1 Q N = lpC W_LawReader_readAtom_359 p1 Q N := fun p1 Q N => by
    induction N with
    | zero => rfl
    | succ N ih =>
      funext v2 v3 v4 M
      show B_LawReader_readCondition_358_7 p1 Q N (W_LawReader_readCondition_358_7 p1 Q N) v2 v3 v4 M = _
      rw [ih]
      rfl
  funext p1 N M Q
  unfold W_LawReader_readCondition_358
  rw [key]
theorem lpC_t : W_LawReader_readCondition = fun p1 N M Q => lpC W_LawReader_readAtom p1 Q N 0 0 0 M := by
  have key : ∀ p1 Q N, W_LawReader_readCondition_7 p1 Q N = lpC W_LawReader_readAtom p1 Q N := fun p1 Q N => by
    induction N with
    | zero => rfl
    | succ N ih =>
      funext v2 v3 v4 M
      show B_LawReader_readCondition_7 p1 Q N (W_LawReader_readCondition_7 p1 Q N) v2 v3 v4 M = _
      rw [ih]
      rfl
  funext p1 N M Q
  unfold W_LawReader_readCondition
  rw [key]
theorem atC1 : W_LawReader_readAtom_367 = atomC W_LawReader_readAtom_369 W_LawReader_readCondition_368 := rfl
theorem atC2 : W_LawReader_readAtom_365 = atomC W_LawReader_readAtom_367 W_LawReader_readCondition_366 := rfl
theorem atC3 : W_LawReader_readAtom_363 = atomC W_LawReader_readAtom_365 W_LawReader_readCondition_364 := rfl
theorem atC4 : W_LawReader_readAtom_361 = atomC W_LawReader_readAtom_363 W_LawReader_readCondition_362 := rfl
theorem atC5 : W_LawReader_readAtom_359 = atomC W_LawReader_readAtom_361 W_LawReader_readCondition_360 := rfl
theorem atC6 : W_LawReader_readAtom = atomC W_LawReader_readAtom_359 W_LawReader_readCondition_358 := rfl
theorem c_lv0 {F : Nat} (hn : n ≤ 400) (hT : TKS f n t K V b e) (hF : 400 < F) : RDC t K V e W_LawReader_readAtom_369 (pAtom K V F 0) (i32 6) (2 ^ 30) ∧ RDC t K V e W_LawReader_readCondition_368 (pCond K V F 0) (i32 6) (2 ^ 28) := by
  have h := c_atom0 (F := F) (A := 2 ^ 30) hn hT
  exact ⟨h, lpC_368 ▸ c_cond hn hT hF (by decide) (by decide) h⟩
theorem c_lv1 {F : Nat} (hn : n ≤ 400) (hT : TKS f n t K V b e) (hF : 400 < F) : RDC t K V e W_LawReader_readAtom_367 (pAtom K V F 1) (i32 5) (2 ^ 28) ∧ RDC t K V e W_LawReader_readCondition_366 (pCond K V F 1) (i32 5) (2 ^ 26) := by
  have hh := c_lv0 (F := F) hn hT hF
  have h : RDC t K V e W_LawReader_readAtom_367 (pAtom K V F 1) (i32 5) (2 ^ 28) := atC1 ▸ c_atomS (d := 5) hn hT (by omega) (by decide) hh.2 hh.1
  exact ⟨h, lpC_366 ▸ c_cond hn hT hF (by decide) (by decide) h⟩
theorem c_lv2 {F : Nat} (hn : n ≤ 400) (hT : TKS f n t K V b e) (hF : 400 < F) : RDC t K V e W_LawReader_readAtom_365 (pAtom K V F 2) (i32 4) (2 ^ 26) ∧ RDC t K V e W_LawReader_readCondition_364 (pCond K V F 2) (i32 4) (2 ^ 24) := by
  have hh := c_lv1 (F := F) hn hT hF
  have h : RDC t K V e W_LawReader_readAtom_365 (pAtom K V F 2) (i32 4) (2 ^ 26) := atC2 ▸ c_atomS (d := 4) hn hT (by omega) (by decide) hh.2 hh.1
  exact ⟨h, lpC_364 ▸ c_cond hn hT hF (by decide) (by decide) h⟩
theorem c_lv3 {F : Nat} (hn : n ≤ 400) (hT : TKS f n t K V b e) (hF : 400 < F) : RDC t K V e W_LawReader_readAtom_363 (pAtom K V F 3) (i32 3) (2 ^ 24) ∧ RDC t K V e W_LawReader_readCondition_362 (pCond K V F 3) (i32 3) (2 ^ 22) := by
  have hh := c_lv2 (F := F) hn hT hF
  have h : RDC t K V e W_LawReader_readAtom_363 (pAtom K V F 3) (i32 3) (2 ^ 24) := atC3 ▸ c_atomS (d := 3) hn hT (by omega) (by decide) hh.2 hh.1
  exact ⟨h, lpC_362 ▸ c_cond hn hT hF (by decide) (by decide) h⟩
theorem c_lv4 {F : Nat} (hn : n ≤ 400) (hT : TKS f n t K V b e) (hF : 400 < F) : RDC t K V e W_LawReader_readAtom_361 (pAtom K V F 4) (i32 2) (2 ^ 22) ∧ RDC t K V e W_LawReader_readCondition_360 (pCond K V F 4) (i32 2) (2 ^ 20) := by
  have hh := c_lv3 (F := F) hn hT hF
  have h : RDC t K V e W_LawReader_readAtom_361 (pAtom K V F 4) (i32 2) (2 ^ 22) := atC4 ▸ c_atomS (d := 2) hn hT (by omega) (by decide) hh.2 hh.1
  exact ⟨h, lpC_360 ▸ c_cond hn hT hF (by decide) (by decide) h⟩
theorem c_lv5 {F : Nat} (hn : n ≤ 400) (hT : TKS f n t K V b e) (hF : 400 < F) : RDC t K V e W_LawReader_readAtom_359 (pAtom K V F 5) (i32 1) (2 ^ 20) ∧ RDC t K V e W_LawReader_readCondition_358 (pCond K V F 5) (i32 1) (2 ^ 18) := by
  have hh := c_lv4 (F := F) hn hT hF
  have h : RDC t K V e W_LawReader_readAtom_359 (pAtom K V F 5) (i32 1) (2 ^ 20) := atC5 ▸ c_atomS (d := 1) hn hT (by omega) (by decide) hh.2 hh.1
  exact ⟨h, lpC_358 ▸ c_cond hn hT hF (by decide) (by decide) h⟩
theorem c_lv6 {F : Nat} (hn : n ≤ 400) (hT : TKS f n t K V b e) (hF : 400 < F) : RDC t K V e W_LawReader_readAtom (pAtom K V F 6) (i32 0) (2 ^ 18) ∧ RDC t K V e W_LawReader_readCondition (pCond K V F 6) (i32 0) (2 ^ 16) := by
  have hh := c_lv5 (F := F) hn hT hF
  have h : RDC t K V e W_LawReader_readAtom (pAtom K V F 6) (i32 0) (2 ^ 18) := atC6 ▸ c_atomS (d := 0) hn hT (by omega) (by decide) hh.2 hh.1
  exact ⟨h, lpC_t ▸ c_cond hn hT hF (by decide) (by decide) h⟩
end CA
end
section
/-! THE CLASS READS A CLAUSE, A CODE -/
def CKt (M : MM) (s s' u : Nat) (c : BF) : Prop := ∀ sp tm : Nat → Int32, (∀ x, x < s' → sp x = M.1 16 x) → (∀ x, x < 5 * u → tm x = M.1 17 x) → ∀ pl wh kn dy, rng pl wh kn dy → decide (crun sp tm pl wh kn dy s (s' - s) 1 &&& 1 = 1) = c pl wh kn dy
def CLb (M : MM) (L : LWT) (s u : Nat) : Prop := M.1 13 1 = i32 L.1 ∧ L.1 ≤ 12 ∧ (∀ j, j < 32 → tb (M.1 13 2) j = (decide (j < L.1) && decide (L.2.1 j = 1))) ∧ ∃ E : Nat → Nat, E 0 = 0 ∧ E L.1 = s ∧ ∀ k, k < L.1 → M.1 15 k = i32 (E (k + 1)) ∧ E k ≤ E (k + 1) ∧ E (k + 1) ≤ s ∧ (L.2.1 k = 1 ∨ L.2.1 k = 0) ∧ M.1 14 k = L.2.2.1 k ∧ CKt M (E k) (E (k + 1)) u (L.2.2.2 k)
theorem CLb_fr {M M' : MM} {L : LWT} {s u u' : Nat} (h : CLb M L s u) (hu : u ≤ u') (e1 : M'.1 13 1 = M.1 13 1) (e2 : M'.1 13 2 = M.1 13 2) (e14 : M'.1 14 = M.1 14) (e15 : M'.1 15 = M.1 15) (e16 : ∀ x, x < s → M'.1 16 x = M.1 16 x) (e17 : ∀ x, x < 5 * u → M'.1 17 x = M.1 17 x) : CLb M' L s u' := by
  obtain ⟨h1, h2, h3, E, h4, h5, h6⟩ := h
  refine ⟨by rw [e1]; exact h1, h2, by rw [e2]; exact h3, E, h4, h5, fun k hk => ?_⟩
  obtain ⟨a1, a2, a3, a4, a5, a6⟩ := h6 k hk
  exact ⟨by rw [e15]; exact a1, a2, a3, a4, by rw [e14]; exact a5, fun sp tm b1 b2 => a6 sp tm (fun x hx => (b1 x hx).trans (e16 x (by omega))) (fun x hx => (b2 x (by omega)).trans (e17 x hx))⟩
theorem CLb_L {M : MM} {L : LWT} {s u : Nat} (h : CLb M L s u) (hs : s ≤ 200) : LawC M 13 L := by
  obtain ⟨h1, h2, h3, E, h4, h5, h6⟩ := h
  refine ⟨h1, h2, fun j hj => ?_, fun k hk => ?_⟩
  · obtain ⟨a1, a2, a3, -⟩ := h6 j hj
    show 0 ≤ (M.1 15 j).toInt
    rw [a1, i32_i (by omega)]
    omega
  · obtain ⟨a1, a2, a3, a4, a5, a6⟩ := h6 k hk
    refine ⟨?_, a5, fun pl wh kn dy hr => ?_⟩
    · rw [bt_b (by omega), h3 k (by omega), decide_eq_true hk, Bool.true_and]
      rcases a4 with h | h <;> rw [h] <;> decide
    · have hf : cfrom M 13 k = E k := by
        unfold cfrom
        by_cases c : k = 0
        · rw [if_pos c, c, h4]
        · rw [if_neg c]
          obtain ⟨b1, b2, b3, -⟩ := h6 (k - 1) (by omega)
          show ni (M.1 15 (k - 1)) = E k
          rw [b1, ni_i (by omega), show k - 1 + 1 = k by omega]
      unfold cT
      rw [hf, show M.1 (13 + 2) k = i32 (E (k + 1)) from a1, ni_i (by omega)]
      exact a6 _ _ (fun _ _ => rfl) (fun _ _ => rfl) pl wh kn dy hr
section CB
variable {f : BY} {n t i s u : Nat} {K V : Nat → Int32} {b e : Nat → Nat} {M : MM} {L : LWT}
theorem c_addcl {N s' : Nat} {x v : Int32} {c : BF} {Q : MM → Prop} (hx : x = 1 ∨ x = 0) (h : CLb M L s u) (hL : L.1 < 12) (h6 : M.1 13 6 = i32 s') (hs : s ≤ s') (hc : CKt M s s' u c) (hQ : ∀ M', CLb M' (lput L (x, v, c)) s' u → Eqo [(14, 14, none), (15, 15, none), (13, 13, some 2), (13, 13, some 1)] M M' → Q M') : W_Law_addClause 13 x v N M Q := by
  obtain ⟨h1, h2, h3, E, h4, h5, h6'⟩ := h
  have n1 : ni (M.1 13 1) = L.1 := by rw [h1, ni_i (by omega)]
  have main : ∀ (M' : MM), M'.1 13 1 = i32 (L.1 + 1) → (∀ j, j < 32 → tb (M'.1 13 2) j = (tb (M.1 13 2) j || (decide (j = L.1) && decide (x = 1)))) → M'.1 14 L.1 = v → M'.1 15 L.1 = i32 s' → (∀ k, ¬ k = L.1 → M'.1 14 k = M.1 14 k) → (∀ k, ¬ k = L.1 → M'.1 15 k = M.1 15 k) → M'.1 16 = M.1 16 → M'.1 17 = M.1 17 → CLb M' (lput L (x, v, c)) s' u := fun M' b1 b2 b3 b4 b5 b6 b7 b8 => by
    refine ⟨b1, by show L.1 + 1 ≤ 12; omega, fun j hj => ?_, fun k => if k ≤ L.1 then E k else s', ?_, ?_, fun k hk => ?_⟩
    · rw [b2 j hj, h3 j hj]
      show _ = (decide (j < L.1 + 1) && decide (up1 L.2.1 L.1 x j = 1))
      by_cases hj2 : j = L.1
      · subst hj2
        rw [up1_e]
        simp
      · have e2 : (j < L.1 + 1) ↔ j < L.1 := by omega
        rw [up1_n hj2]
        simp [e2, hj2]
    · show (if 0 ≤ L.1 then E 0 else s') = 0
      rw [if_pos (by omega)]; exact h4
    · show (if L.1 + 1 ≤ L.1 then E (L.1 + 1) else s') = s'
      exact if_neg (by omega)
    · replace hk : k < L.1 + 1 := hk
      show M'.1 15 k = i32 (if k + 1 ≤ L.1 then E (k + 1) else s') ∧ (if k ≤ L.1 then E k else s') ≤ (if k + 1 ≤ L.1 then E (k + 1) else s') ∧ (if k + 1 ≤ L.1 then E (k + 1) else s') ≤ s' ∧ (up1 L.2.1 L.1 x k = 1 ∨ up1 L.2.1 L.1 x k = 0) ∧ M'.1 14 k = up1 L.2.2.1 L.1 v k ∧ CKt M' (if k ≤ L.1 then E k else s') (if k + 1 ≤ L.1 then E (k + 1) else s') u (if k = L.1 then c else L.2.2.2 k)
      by_cases hk2 : k = L.1
      · subst hk2
        rw [if_neg (by omega), if_pos (Nat.le_refl _), up1_e, up1_e, if_pos rfl, h5]
        exact ⟨b4, hs, Nat.le_refl _, hx, b3, fun sp tm d1 d2 => hc sp tm (fun y hy => by rw [← b7]; exact d1 y hy) (fun y hy => by rw [← b8]; exact d2 y hy)⟩
      · obtain ⟨a1, a2, a3, a4, a5, a6⟩ := h6' k (by omega)
        rw [if_pos (by omega), if_pos (by omega), up1_n hk2, up1_n hk2, if_neg hk2]
        exact ⟨by rw [b6 k hk2]; exact a1, a2, by omega, a4, by rw [b5 k hk2]; exact a5, fun sp tm d1 d2 => a6 sp tm (fun y hy => by rw [← b7]; exact d1 y hy) (fun y hy => by rw [← b8]; exact d2 y hy)⟩
  unfold W_Law_addClause
  have e0 : ∀ y : Int32, Eqo [(14, 14, none), (15, 15, none), (13, 13, some 2), (13, 13, some 1)] M (wi (wi (wi (wi M (13 + 1) L.1 v) (13 + 2) L.1 (i32 s')) 13 2 y) 13 1 (i32 (L.1 + 1))) := fun y => eqo_wi (i := 3) (eqo_wi (i := 2) (eqo_wi (i := 1) (eqo_wi (i := 0) (eqo_rf M) rfl (Or.inl rfl)) rfl (Or.inl rfl)) rfl (Or.inr rfl)) rfl (Or.inr rfl)
  have m0 : ∀ y : Int32, (∀ j, j < 32 → tb y j = (tb (M.1 13 2) j || (decide (j = L.1) && decide (x = 1)))) → CLb (wi (wi (wi (wi M (13 + 1) L.1 v) (13 + 2) L.1 (i32 s')) 13 2 y) 13 1 (i32 (L.1 + 1))) (lput L (x, v, c)) s' u := fun y hy => main _ wi_1e (by rw [wi_1n (by omega), wi_1e]; exact hy) (by rw [wi_1n (by omega), wi_1n (by omega), wi_1n (by omega)]; exact wi_1e) (by rw [wi_1n (by omega), wi_1n (by omega)]; exact wi_1e) (fun k hk => by rw [wi_1n (by omega), wi_1n (by omega), wi_1n (by omega), wi_1n (by omega)]) (fun k hk => by rw [wi_1n (by omega), wi_1n (by omega), wi_1n (by omega), wi_1n (by omega)]) rfl rfl
  have s1 : (wi M (13 + 1) L.1 v).1 13 1 = i32 L.1 := by rw [wi_1n (by omega)]; exact h1
  have s6 : (wi M (13 + 1) L.1 v).1 13 6 = i32 s' := by rw [wi_1n (by omega)]; exact h6
  have s2 : (wi (wi M (13 + 1) L.1 v) (13 + 2) L.1 (i32 s')).1 13 2 = M.1 13 2 := by rw [wi_1n (by omega), wi_1n (by omega)]
  have s1' : (wi (wi M (13 + 1) L.1 v) (13 + 2) L.1 (i32 s')).1 13 1 = i32 L.1 := by rw [wi_1n (by omega)]; exact s1
  have s1'' : ∀ y, (wi (wi (wi M (13 + 1) L.1 v) (13 + 2) L.1 (i32 s')) 13 2 y).1 13 1 = i32 L.1 := fun y => by rw [wi_1n (by omega)]; exact s1'
  rw [n1, s1, ni_i (by omega), s6, s2, s1', s1'', s1'', i32_s, h1]
  refine ⟨fun _ => ⟨fun hx0 => ?_, fun hx0 => ?_⟩, fun hb => absurd ((i32_lt (k := 12) (by omega) (by omega)).mpr hL) hb⟩
  · refine hQ _ (m0 _ (fun j hj => ?_)) (e0 _)
    rw [tb_or, tb_0, hx0, decide_eq_false (show ¬ (0 : Int32) = 1 by decide)]
    simp
  · refine hQ _ (m0 _ (fun j hj => ?_)) (e0 _)
    have hx1 : x = 1 := by
      rcases hx with h | h
      · exact h
      · exact absurd h hx0
    rw [tb_or, tb_sl (by omega) hj, hx1, decide_eq_true rfl, Bool.and_true]
def clW (x : Int32) (N : Nat) (M : MM) (Q : Int32 → MM → Prop) : Prop :=
    W_Text_goOn  N M (fun M4 =>
      W_Text_numberWithin 0 7 N M4 (fun r5 M6 =>
        ((r5 = (-1) →
          Q 0 M6) ∧
         (¬ r5 = (-1) →
          (((V_Text_kind  M6) = 2 →
            W_Text_goOn  N M6 (fun M10 =>
              W_LawReader_readCondition 0 N M10 (fun r11 M12 =>
                ((r11 = 0 →
                  Q 0 M12) ∧
                 (¬ r11 = 0 →
                  W_Law_addClause 13 x r5 N M12 (fun M15 =>
                    Q 1 M15)))))) ∧
           (¬ (V_Text_kind  M6) = 2 →
            W_Law_addClause 13 x r5 N M6 (fun M17 =>
              Q 1 M17)))))))
def CCR (t : Nat) (K V : Nat → Int32) (e : Nat → Nat) (L : LWT) (i : Nat) (res : Option CLS × Nat) (r : Int32) (M' : MM) : Prop := (r = 1 ∧ ∃ q j s' u', res = (some q, j) ∧ j ≤ t ∧ i < j ∧ TKc M' t K V j ∧ CLb M' (lput L q) s' u' ∧ M'.1 13 6 = i32 s' ∧ M'.1 13 8 = i32 (5 * u') ∧ 2 * s' ≤ pe e j ∧ 3 * u' ≤ pe e j) ∨ (r = 0 ∧ ∃ j, res = (none, j) ∧ j ≤ t ∧ TKc M' t K V j)
theorem c_clW {N F k : Nat} {x : Int32} {Q : Int32 → MM → Prop} (hx : x = 1 ∨ x = 0) (hF : 400 < F) (hn : n ≤ 400) (hT : TKS f n t K V b e) (h : TKc M t K V i) (hi : i ≤ t) (hk2 : k < 2) (hk : K i = i32 k) (hL : L.1 < 12) (hc : CLb M L s u) (h6 : M.1 13 6 = i32 s) (h8 : M.1 13 8 = i32 (5 * u)) (hs : 2 * s ≤ pe e i) (hu : 3 * u ≤ pe e i) (hQ : ∀ r M', CCR t K V e L i (pDeed K V F x (i + 1)) r M' → Q r M') : clW x N M Q := by
  have ht := hT.1
  have hlt := tk_lt hT hi (by rw [hk]; exact fun y => by have := (i32_ij (b := 21) (by omega) (by omega)).mp y; omega)
  have hw := pe_w (by omega) hT hi hk
  have hw5 : 5 ≤ wln k := by
    have : k = 0 ∨ k = 1 := by omega
    rcases this with h | h <;> rw [h]
    · rw [w6.2.2.2.2.2.2]; omega
    · rw [w6.2.2.2.2.2.1]; omega
  unfold pDeed at hQ
  unfold clW W_Text_goOn W_Text_numberWithin
  dsimp only
  have t1 := TKc_g h
  rw [kd t1 (by omega) ht, vl t1 (by omega) ht]
  refine ⟨fun h20 => ?_, fun h20 => ?_⟩
  · rw [if_pos h20] at hQ
    obtain ⟨m, m1, m2⟩ := tk_V hT (by omega) h20
    have hneg : ¬ V (i + 1) < 0 := by
      rw [m2, lt_lit, i32_i (by omega)]
      show ¬ (m : Int) < 0
      omega
    refine ⟨fun y => absurd y hneg, fun _ => ⟨fun h7 => ?_, fun h7 => ?_⟩⟩
    · rw [if_pos h7] at hQ
      exact ⟨fun _ => hQ 0 _ (Or.inr ⟨rfl, i + 1, rfl, by omega, t1⟩), fun y => absurd rfl y⟩
    · rw [if_neg h7] at hQ
      refine ⟨fun y => absurd (show V (i + 1) < 0 by rw [y]; decide) hneg, fun _ => ?_⟩
      have hlt2 := tk_lt hT (by omega) (show ¬ K (i + 1) = 21 by rw [h20]; decide)
      have t2 := TKc_g t1
      have hp1 := pe_1 hT hlt2
      rw [kd t2 (by omega) ht]
      refine ⟨fun hk2 => ?_, fun hk2 => ?_⟩
      · rw [if_pos hk2] at hQ
        have hlt3 := tk_lt hT (by omega) (show ¬ K (i + 1 + 1) = 21 by rw [hk2]; decide)
        have hp2 := pe_1 hT hlt3
        rw [show i + 1 + 1 + 1 = i + 3 from rfl] at hp2
        refine and_LawReader_readCondition (Q1 := fun r M' => (r = 1 ∧ ∃ c j s' u', pCond K V F 6 (i + 1 + 2) = (some c, j) ∧ j ≤ t ∧ i + 3 < j ∧ TKc M' t K V j ∧ M'.1 13 6 = i32 s' ∧ M'.1 13 8 = i32 (5 * u') ∧ s ≤ s' ∧ u ≤ u' ∧ 2 * s' + pe e (i + 3) ≤ 2 * s + pe e j ∧ 3 * u' + pe e (i + 3) ≤ 3 * u + pe e j ∧ CMg (2 ^ 16) M' s s' u' c ∧ (∀ x, x < s → M'.1 16 x = M.1 16 x) ∧ (∀ x, x < 5 * u → M'.1 17 x = M.1 17 x)) ∨ (r = 0 ∧ ∃ j, pCond K V F 6 (i + 1 + 2) = (none, j) ∧ j ≤ t ∧ TKc M' t K V j)) (Q2 := fun _ M' => Eqo fp_LawReader_readCondition _ M') (fun r M' g1 g2 => ?_) ?_ (an_LawReader_readCondition (fun r M' h => h))
        · rcases g1 with ⟨rfl, c, j, s', u', j1, j2, j3, j4, j5, j6, j7, j8, j9, j10, j11, j12, j13⟩ | ⟨rfl, j, j1, j2, j3⟩
          · refine ⟨fun y => absurd y (by decide), fun _ => ?_⟩
            have e1 : M'.1 13 1 = M.1 13 1 := eq1 g2 (b := 13) (k := 1) rfl
            have e2 : M'.1 13 2 = M.1 13 2 := eq1 g2 (b := 13) (k := 2) rfl
            have e14 : M'.1 14 = M.1 14 := eqb g2 (lo := 14) (hi := 14) rfl (Nat.le_refl _) (Nat.le_refl _)
            have e15 : M'.1 15 = M.1 15 := eqb g2 (lo := 15) (hi := 15) rfl (Nat.le_refl _) (Nat.le_refl _)
            have hc' := CLb_fr hc j8 e1 e2 e14 e15 j12 j13
            refine c_addcl (c := c) (s' := s') hx hc' hL j5 j7 ?_ (fun M5 d1 d2 => hQ 1 _ (Or.inl ⟨rfl, _, j, s', u', by rw [j1], j2, by omega, TKc_e j4 d2 rfl, d1, by rw [eq1 d2 (b := 13) (k := 6) rfl]; exact j5, by rw [eq1 d2 (b := 13) (k := 8) rfl]; exact j6, by omega, by omega⟩))
            intro sp tm a1 a2 pl wh kn dy hr
            have := j11 sp tm a1 a2 pl wh kn dy hr 1 (by decide)
            rw [show (1 : Int32) = i32 1 from rfl, this]
            show decide (i32 (2 * 1 + (c pl wh kn dy).toNat) &&& i32 1 = i32 1) = c pl wh kn dy
            cases c pl wh kn dy <;> decide
          · exact ⟨fun _ => hQ 0 _ (Or.inr ⟨rfl, j, by rw [j1], j2, j3⟩), fun y => absurd rfl y⟩
        · refine (c_lv6 hn hT hF).2 N _ (i + 3) s u _ (TKc_g t2) (by omega) h6 h8 (by omega) (by omega) ⟨fun c j hj hjt hij M' s' u' b1 b2 b3 l1 l2 l3 l4 g1 f1 f2 => Or.inl ⟨rfl, c, j, s', u', hj, hjt, hij, b1, b2, b3, l1, l2, l3, l4, g1, f1, f2⟩, fun j hj hjt M' b1 => Or.inr ⟨rfl, j, hj, hjt, b1⟩⟩
      · rw [if_neg hk2] at hQ
        have hc' : CLb (wi (wi M 3 5 (M.1 3 5 + 1)) 3 5 ((wi M 3 5 (M.1 3 5 + 1)).1 3 5 + 1)) L s u := CLb_fr hc (Nat.le_refl _) rfl rfl rfl rfl (fun _ _ => rfl) (fun _ _ => rfl)
        refine c_addcl (c := fun _ _ _ _ => true) (s' := s) hx hc' hL h6 (Nat.le_refl _) ?_ (fun M5 d1 d2 => hQ 1 _ (Or.inl ⟨rfl, _, i + 1 + 1, s, u, rfl, by omega, by omega, TKc_e t2 d2 rfl, d1, by rw [eq1 d2 (b := 13) (k := 6) rfl]; exact h6, by rw [eq1 d2 (b := 13) (k := 8) rfl]; exact h8, by omega, by omega⟩))
        intro sp tm a1 a2 pl wh kn dy hr
        rw [Nat.sub_self]
        show decide ((1 : Int32) &&& 1 = 1) = true
        decide
  · rw [if_neg h20] at hQ
    exact ⟨fun _ => hQ 0 _ (Or.inr ⟨rfl, i + 1, rfl, by omega, t1⟩), fun y => absurd rfl y⟩
theorem c_clause {N F : Nat} {Q : Int32 → MM → Prop} (hF : 400 < F) (hn : n ≤ 400) (hT : TKS f n t K V b e) (h : TKc M t K V i) (hi : i ≤ t) (hL : L.1 < 12) (hc : CLb M L s u) (h6 : M.1 13 6 = i32 s) (h8 : M.1 13 8 = i32 (5 * u)) (hs : 2 * s ≤ pe e i) (hu : 3 * u ≤ pe e i) (hQ : ∀ r M', CCR t K V e L i (pClause K V F i) r M' → Q r M') : W_LawReader_readClause N M Q := by
  have ht := hT.1
  unfold W_LawReader_readClause
  rw [kd h hi ht]
  unfold pClause at hQ
  refine ⟨fun h1 => ?_, fun h1 => ⟨fun h0 => ?_, fun h0 => ?_⟩⟩
  · rw [if_pos h1] at hQ
    exact c_clW (Or.inl rfl) hF hn hT h hi (k := 1) (by omega) h1 hL hc h6 h8 hs hu hQ
  · rw [if_neg h1, if_pos h0] at hQ
    exact c_clW (Or.inr rfl) hF hn hT h hi (k := 0) (by omega) h0 hL hc h6 h8 hs hu hQ
  · rw [if_neg h1, if_neg h0] at hQ
    exact hQ 0 M (Or.inr ⟨rfl, i, rfl, hi, h⟩)
def RAC (t : Nat) (K V : Nat → Int32) (res : Option LWT × Nat) (r : Int32) (M' : MM) : Prop := (∃ L j, res = (some L, j) ∧ r = -1 ∧ LawC M' 13 L ∧ M'.1 13 0 = 1) ∨ (∃ j, res = (none, j) ∧ j ≤ t ∧ r = V_Text_begin M' ∧ TKc M' t K V j)
theorem c_readAll {N F : Nat} {Q : Int32 → MM → Prop} (hF : 400 < F) (hn : n ≤ 400) (hT : TKS f n t K V b e) (h : TKc M t K V 0) (hQ : ∀ r M', RAC t K V (pCode K V F) r M' → Q r M') : W_LawReader_readAll N M Q := by
  have ht := hT.1
  unfold W_LawReader_readAll W_Law_clear
  dsimp only
  have e1 : Eqo [(13, 13, some 0), (13, 13, some 1), (13, 13, some 2), (13, 13, some 6), (13, 13, some 8)] M (wi (wi (wi (wi (wi (wi M 13 0 0) 13 1 0) 13 2 0) 13 6 0) 13 8 0) 13 0 1) := eqo_wi (i := 0) (eqo_wi (i := 4) (eqo_wi (i := 3) (eqo_wi (i := 2) (eqo_wi (i := 1) (eqo_wi (i := 0) (eqo_rf M) rfl (Or.inr rfl)) rfl (Or.inr rfl)) rfl (Or.inr rfl)) rfl (Or.inr rfl)) rfl (Or.inr rfl)) rfl (Or.inr rfl)
  have z0 : (wi (wi (wi (wi (wi (wi M 13 0 0) 13 1 0) 13 2 0) 13 6 0) 13 8 0) 13 0 1).1 13 0 = 1 := wi_1e
  have z1 : (wi (wi (wi (wi (wi (wi M 13 0 0) 13 1 0) 13 2 0) 13 6 0) 13 8 0) 13 0 1).1 13 1 = 0 := by simp (disch := omega) only [wi_1n, wi_1e]
  have z2 : (wi (wi (wi (wi (wi (wi M 13 0 0) 13 1 0) 13 2 0) 13 6 0) 13 8 0) 13 0 1).1 13 2 = 0 := by simp (disch := omega) only [wi_1n, wi_1e]
  have z6 : (wi (wi (wi (wi (wi (wi M 13 0 0) 13 1 0) 13 2 0) 13 6 0) 13 8 0) 13 0 1).1 13 6 = 0 := by simp (disch := omega) only [wi_1n, wi_1e]
  have z8 : (wi (wi (wi (wi (wi (wi M 13 0 0) 13 1 0) 13 2 0) 13 6 0) 13 8 0) 13 0 1).1 13 8 = 0 := by simp (disch := omega) only [wi_1n, wi_1e]
  generalize wi (wi (wi (wi (wi (wi M 13 0 0) 13 1 0) 13 2 0) 13 6 0) 13 8 0) 13 0 1 = M1 at *
  have t1 := TKc_e h e1 rfl
  have c0 : CLb M1 zL 0 0 := ⟨z1, by show 0 ≤ 12; omega, fun j hj => by rw [z2, tb_0, decide_eq_false (by show ¬ j < 0; omega)]; rfl, fun _ => 0, rfl, rfl, fun k hk => absurd hk (by show ¬ k < 0; omega)⟩
  rw [kd t1 (by omega) ht]
  refine ⟨fun h21 => hQ _ _ (Or.inl ⟨zL, 0, ?_, rfl, CLb_L c0 (by omega), z0⟩), fun h21 => ?_⟩
  · unfold pCode
    rw [if_pos h21]
  · have hpc : pCode K V F = pLaw K V F 12 zL 0 := by
      unfold pCode
      rw [if_neg h21]
    rw [hpc] at hQ
    refine I_LawReader_readAll_31 Q (fun v M' => ∃ m L i s u, L.1 + m = 12 ∧ v = i32 L.1 ∧ i ≤ t ∧ TKc M' t K V i ∧ CLb M' L s u ∧ M'.1 13 6 = i32 s ∧ M'.1 13 8 = i32 (5 * u) ∧ 2 * s ≤ pe e i ∧ 3 * u ≤ pe e i ∧ M'.1 13 0 = 1 ∧ pLaw K V F 12 zL 0 = pLaw K V F m L i) (fun N ih v M' hih hv => ?_) N _ _ ⟨12, zL, 0, 0, 0, rfl, rfl, by omega, t1, c0, z6, z8, by omega, by omega, z0, rfl⟩
    obtain ⟨m, L, i, s, u, k1, rfl, k2, k3, k4, k5, k6, k7, k8, k9, k10⟩ := hv
    unfold B_LawReader_readAll_31
    rw [show i32 L.1 < 12 ↔ L.1 < 12 from i32_lt (k := 12) (by omega) (by omega)]
    refine ⟨fun hl => ?_, fun hl => ?_⟩
    · obtain ⟨m2, rfl⟩ : ∃ m2, m = m2 + 1 := ⟨m - 1, by omega⟩
      refine and_LawReader_readClause (Q1 := fun r M6 => CCR t K V e L i (pClause K V F i) r M6) (Q2 := fun _ M6 => Eqo fp_LawReader_readClause M' M6) (fun r M6 g1 g2 => ?_) (c_clause hF hn hT k3 k2 hl k4 k5 k6 k7 k8 (fun r M6 h => h)) (an_LawReader_readClause (fun r M' h => h))
      have g0 : M6.1 13 0 = 1 := by rw [eq1 g2 (b := 13) (k := 0) rfl]; exact k9
      rcases g1 with ⟨rfl, q, j, s', u', j1, j2, j3, j4, j5, j6, j7, j8, j9⟩ | ⟨rfl, j, j1, j2, j3⟩
      · refine ⟨fun y => absurd y (by decide), fun _ => ?_⟩
        have k10' : pLaw K V F 12 zL 0 = (if K j = 21 then (some (lput L q), j) else if K j = 59 then pLaw K V F m2 (lput L q) (j + 1) else (none, j)) := by
          rw [k10]
          show (match pClause K V F i with | (none, j) => (none, j) | (some q, j) => _) = _
          rw [j1]
        have hpn := pe_n hT j2
        rw [kd j4 j2 ht]
        refine ⟨fun y21 => ?_, fun y21 => ⟨fun y59 => ?_, fun y59 => ?_⟩⟩
        · rw [if_pos y21] at k10'
          exact hQ _ _ (Or.inl ⟨_, j, k10', rfl, CLb_L j5 (by omega), g0⟩)
        · rw [if_neg y21, if_pos y59] at k10'
          have hlt := tk_lt hT j2 y21
          have hp1 := pe_1 hT hlt
          unfold W_Text_goOn
          rw [i32_s]
          exact hih _ _ ⟨m2, lput L q, j + 1, s', u', by show L.1 + 1 + m2 = 12; omega, rfl, by omega, TKc_g j4, CLb_fr j5 (Nat.le_refl _) rfl rfl rfl rfl (fun _ _ => rfl) (fun _ _ => rfl), j6, j7, by omega, by omega, g0, k10'⟩
        · rw [if_neg y21, if_neg y59] at k10'
          exact hQ _ _ (Or.inr ⟨j, k10', j2, rfl, j4⟩)
      · refine ⟨fun _ => hQ _ _ (Or.inr ⟨j, ?_, j2, rfl, j3⟩), fun y => absurd rfl y⟩
        rw [k10]
        show (match pClause K V F i with | (none, j) => (none, j) | (some q, j) => _) = _
        rw [j1]
    · obtain rfl : m = 0 := by omega
      exact hQ _ _ (Or.inr ⟨i, k10, k2, rfl, k3⟩)
end CB
end
section
/-! ACTS: a code is told -/
section AE
variable {B : Int} {M : MM}
theorem bg {M : MM} {t j : Nat} {K V : Nat → Int32} (h : TKc M t K V j) (hj : j ≤ t) (ht : t ≤ 400) : V_Text_begin M = M.1 5 j := by
  unfold V_Text_begin
  rw [h.1, h.2.1, if_pos ((i32_lt (by omega) (by omega)).mpr (by omega)), ni_i (by omega)]
/-- the coupling where only the tape and the fault were written -/
theorem CP_ft {l : List (Nat × Nat × Option Nat)} {M' : MM} (h : CP B M) (e : Eqo l M M') (hl : ((fpo l 8 12 && fpf l 190 15) && (imk l && (wlk l && (cmk l && rmk l)))) = true) (hT : TP M') (hF : M'.1 0 15 = M'.1 190 23) (h1 : ∀ j, j < 48 → M'.1 201 j = M.1 201 j) (h2 : ∀ j, j < 800 → M'.1 202 j = M.1 202 j) : CP B M' := by
  simp only [Bool.and_eq_true] at hl
  obtain ⟨⟨k2, k3⟩, k5, k6, k7, k8⟩ := hl
  obtain ⟨-, -, ⟨L, h3, h4, h5, h6⟩, h7, m, hh, h8, h9, h10⟩ := h
  refine ⟨hT, hF, ⟨L, LawC_eq h3 e k2, LawR_cp h4 h1 h2, ?_, IMG_eq h6 e k5⟩, WLD_eq h7 e k6, m, hh, CM_eq h8 e k7, RMm_eq h9 e k8, h10⟩
  unfold TLD at *
  rw [eq1 e k3, eqb e k2 (show 8 ≤ 8 by omega) (by omega)]
  exact h5
theorem TP_0 {M : MM} (h1 : M.1 1 1 = 0) (h2 : M.1 190 18 = 0) : TP M := ⟨0, by omega, h1, h2, fun j hj => by omega⟩
abbrev fcA : List (Nat × Nat × Option Nat) := fp_Text_split ++ ([(1, 1, some 1)] ++ (fp_LawReader_readAll ++ [(0, 0, some 15)]))
theorem a_code (h : CP B M) {N : Nat} : W_E_code N M (fun y M1 => ∀ z N', W_m_code N' (wj M1 215 0 z) (fun b M2 => CP B M2 ∧ M2.1 190 0 = 0 ∧ y = b)) (fun ce M1 => ∀ N', W_m_code N' M1 (fun _ M2 => CP B M2 ∧ M2.1 190 0 = if ce = 0 then 1 else 2)) := by
  obtain ⟨F, hF⟩ : ∃ F, 400 < F := ⟨401, by omega⟩
  have h' := h
  obtain ⟨⟨n, hn, t1, t2, t3⟩, hfl, ⟨L, hL, hR, hTL, hI⟩, ⟨hc, hg⟩, m, hh, hm, hr, hi⟩ := h'
  have hb : BOK (M.1 2) n := fun j hj => (t3 j hj).1
  unfold W_E_code
  refine c_split (f := M.1 2) (n := n) ⟨t1, rfl⟩ hn (fun M2 t hX h35 e2 => ?_)
  obtain ⟨hT, h5, h4⟩ := TXT_s hX
  have ht := hT.1
  have eA : Eqo [(1, 1, some 1)] M2 (wi M2 1 1 0) := eqo_1
  refine and_LawReader_readAll (Q1 := fun r M' => RAC t (M2.1 4) (M2.1 7) (pCode (M2.1 4) (M2.1 7) F) r M') (Q2 := fun r M' => Eqo fp_LawReader_readAll (wi M2 1 1 0) M') (fun r M4 g1 g2 => ?_) (c_readAll hF hn hT ⟨h35, h4, rfl, rfl⟩ (fun r M' h => h)) (an_LawReader_readAll (fun r M' h => h))
  have e4 : Eqo fcA M (wi M4 0 15 r) := eqo_app e2 (eqo_app eA (eqo_app g2 eqo_1))
  have z11 : (wi M4 0 15 r).1 1 1 = 0 := by rw [wi_1n (by omega), eq1 g2 (b := 1) (k := 1) rfl, wi_1e]
  rw [show (wi M4 0 15 r).1 0 15 = r from wi_1e]
  have r5 : (wi M4 0 15 r).1 5 = M2.1 5 := by
    funext j
    rw [wi_1n (by omega), eqb g2 (lo := 5) (hi := 5) rfl (Nat.le_refl _) (Nat.le_refl _), wi_1n (by omega)]
  have c0 := hc.1.1
  -- the reference, where the class throws
  have bad : ∀ N' (x : Int32), (∀ L j, pCode (M2.1 4) (M2.1 7) F = (some L, j) → (¬ M.1 190 15 < 0 ∨ 0 < M.1 191 0) ∧ r = -1 ∧ x = 2) → (∀ j, pCode (M2.1 4) (M2.1 7) F = (none, j) → r = i32 (thb M2 j) ∧ x = 1) → W_m_code N' (wi M4 0 15 r) (fun _ M2 => CP B M2 ∧ M2.1 190 0 = x) := by
    intro N' x b1 b2
    refine r_code (f := M.1 2) hF (n := n) (by rw [eq1 e4 (b := 190) (k := 18) rfl]; exact t2) (fun j hj => by rw [eqb e4 (lo := 203) (hi := 203) rfl (Nat.le_refl _) (Nat.le_refl _)]; exact (t3 j hj).2) hb hn hT (fun L j M' d1 d2 d3 => ?_) (fun M' d1 d2 d3 d4 d5 => ?_)
    · obtain ⟨f1, -⟩ := b1 L j d1
      rw [eq1 e4 (b := 190) (k := 15) rfl] at d2
      rw [eqb e4 (lo := 191) (hi := 191) rfl (Nat.le_refl _) (Nat.le_refl _)] at d3
      rcases f1 with f1 | f1
      · exact absurd d2 f1
      · exact absurd f1 d3
    · have e := eqo_app e4 d4
      have q015 : M'.1 0 15 = r := by rw [eq1 d4 (b := 0) (k := 15) rfl, wi_1e]
      have q201 : (wi M4 0 15 r).1 201 = M.1 201 := eqb e4 (lo := 201) (hi := 201) rfl (Nat.le_refl _) (Nat.le_refl _)
      have q202 : (wi M4 0 15 r).1 202 = M.1 202 := eqb e4 (lo := 202) (hi := 202) rfl (Nat.le_refl _) (Nat.le_refl _)
      have key : M'.1 190 23 = r ∧ M'.1 190 0 = x := by
        rcases d1 with ⟨j, j1, j2, j3, j4⟩ | ⟨⟨L', j, j1⟩, j2, j3, j4⟩
        · obtain ⟨f1, rfl⟩ := b2 j j1
          exact ⟨by rw [j3, f1], j4⟩
        · obtain ⟨-, f1, rfl⟩ := b1 L' j j1
          exact ⟨by rw [j3, f1], j4⟩
      exact ⟨CP_ft h e rfl (TP_0 (by rw [eq1 d4 (b := 1) (k := 1) rfl]; exact z11) d5) (by rw [q015, key.1]) (fun j hj => by rw [d2 j hj, q201]) (fun j hj => by rw [d3 j hj, q202]), key.2⟩
  rcases g1 with ⟨Lc, jc, g3, rfl, g4, g5⟩ | ⟨jc, g3, g4, rfl, g5⟩
  · refine ⟨fun _ => ?_, fun hx => absurd rfl hx⟩
    have e80 : (wi M4 0 15 (-1)).1 8 0 = M.1 8 0 := eq1 e4 (b := 8) (k := 0) rfl
    have e180 : (wi M4 0 15 (-1)).1 18 0 = M.1 191 0 := by rw [eq1 e4 (b := 18) (k := 0) rfl]; exact c0
    rw [e80, e180]
    have hno : ∀ j, pCode (M2.1 4) (M2.1 7) F = (none, j) → False := fun j hj => by rw [g3] at hj; cases hj
    refine ⟨fun hz => ⟨fun hp N' => ?_, fun hp => ?_⟩, fun hz N' => ?_⟩
    · exact bad N' 2 (fun _ _ _ => ⟨Or.inr hp, rfl, rfl⟩) (fun j hj => (hno j hj).elim)
    · have hneg : M.1 190 15 = -1 ∧ L.1 = 0 := by
        rcases hTL with ⟨a1, -, a3⟩ | ⟨-, a2⟩
        · exact ⟨a1, a3⟩
        · rw [hz] at a2
          exact absurd a2 (by decide)
      refine sp_lawb (Or.inl (by omega)) (fun M9 l0 l1 l2 l3 le => ?_)
      unfold W_Memory_forget
      intro z N'
      have e9 : Eqo (fcA ++ (fp_Law_become 8 13 ++ ([(44, 44, some 2)] ++ [(215, 215, none)]))) M (wj (wi M9 44 2 0) 215 0 z) := eqo_app e4 (eqo_app le (eqo_app eqo_1 eqo_z))
      refine r_code (f := M.1 2) hF (n := n) (by rw [eq1 e9 (b := 190) (k := 18) rfl]; exact t2) (fun j hj => by rw [eqb e9 (lo := 203) (hi := 203) rfl (Nat.le_refl _) (Nat.le_refl _)]; exact (t3 j hj).2) hb hn hT (fun L' j M' d1 d2 d3 d4 d5 d6 d7 d8 d9 d10 => ?_) (fun M' d1 d2 d3 d4 d5 => ?_)
      · rw [g3] at d1
        obtain ⟨rfl, -⟩ := Prod.mk.inj d1 |>.imp Option.some.inj id
        have e := eqo_app e9 d9
        have lc : LawC (wi M4 0 15 (-1)) 13 Lc := LawC_eq g4 (eqo_1 (a := 0) (k := 15)) rfl
        have lc9 : LawC (wj (wi M9 44 2 0) 215 0 z) 8 Lc := LawC_eq (LawC_eq (l2 Lc lc) (eqo_1 (a := 44) (k := 2)) rfl) eqo_z rfl
        have q0 : M'.1 8 0 = 1 := by rw [eq1 d9 (b := 8) (k := 0) rfl, wj_1, wi_1n (by omega), l0, wi_1n (by omega), g5]
        refine ⟨⟨TP_0 ?_ d10, ?_, ⟨Lc, LawC_eq lc9 d9 rfl, d4, Or.inr ⟨d5, q0⟩, ?_⟩, WLD_eq ⟨hc, hg⟩ e rfl, 0, hh, ⟨by omega, ?_, ?_, fun i hi => by omega⟩, ⟨by omega, d6, fun i hi => by omega⟩, fun i hi => by omega⟩, d8, ?_⟩
        · rw [eq1 d9 (b := 1) (k := 1) rfl, wj_1, wi_1n (by omega), eq1 le (b := 1) (k := 1) rfl]
          exact z11
        · rw [eq1 d9 (b := 0) (k := 15) rfl, wj_1, wi_1n (by omega), eq1 le (b := 0) (k := 15) rfl, wi_1e, d7]
        · refine ⟨by rw [eq1 e (b := 0) (k := 14) rfl, eq1 e (b := 190) (k := 11) rfl]; exact hI.1, ?_⟩
          rw [eq1 e (b := 190) (k := 11) rfl, eqb e (lo := 192) (hi := 192) rfl (Nat.le_refl _) (Nat.le_refl _), eqb2 e (lo := 197) (hi := 197) rfl (Nat.le_refl _) (Nat.le_refl _)]
          rcases hI.2 with i1 | ⟨i1, i2, i3, i4⟩
          · exact Or.inl i1
          · refine Or.inr ⟨i1, CW_eq i2 e rfl, i3, ?_⟩
            rcases i4 with ⟨k1, k2, k3, k4⟩ | ⟨k1, k2, k3, k4⟩
            · exact Or.inl ⟨by rw [eq1 e (b := 190) (k := 16) rfl]; exact k1, by rw [eq1 e (b := 173) (k := 0) rfl]; exact k2, by rw [eq1 e (b := 173) (k := 1) rfl]; exact k3, fun j hj => by omega⟩
            · rw [hneg.1, hneg.2] at k2
              exact absurd k2 (by decide)
        · rw [eq1 d9 (b := 44) (k := 2) rfl, wj_1, wi_1e]
          rfl
        · rw [eq1 e (b := 44) (k := 1) rfl]
          exact hm.2.2.1
        · rw [wi_1n (by omega), l1, lc.1]
      · exfalso
        rcases d1 with ⟨j, j1, -⟩ | ⟨-, j2, -⟩
        · exact hno j j1
        · rw [eq1 e9 (b := 190) (k := 15) rfl, eqb e9 (lo := 191) (hi := 191) rfl (Nat.le_refl _) (Nat.le_refl _)] at j2
          rcases j2 with j2 | j2
          · rw [hneg.1] at j2
            exact j2 (by decide)
          · exact hp j2
    · refine bad N' 2 (fun _ _ _ => ⟨Or.inl (fun hx => ?_), rfl, rfl⟩) (fun j hj => (hno j hj).elim)
      rcases hTL with ⟨-, a2, -⟩ | ⟨a1, -⟩
      · exact hz a2
      · rw [a1, lt_lit, i32_i (by have := hR.1; omega)] at hx
        exact absurd hx (by show ¬ ((L.1 : Int) < 0); omega)
  · have hbe : V_Text_begin M4 = i32 (thb M2 jc) := by
      rw [bg g5 g4 ht]
      have := congrFun r5 jc
      rw [wi_1n (by omega)] at this
      rw [this]
      exact h5 jc g4
    have hj4 : thb M2 jc ≤ n := (hT.2.2.2 jc g4).2.1
    refine ⟨fun hx => ?_, fun _ N' => bad N' 1 (fun L j hj => by rw [g3] at hj; cases hj) (fun j hj => ?_)⟩
    · rw [hbe] at hx
      have := congrArg Int32.toInt hx
      rw [i32_i (by omega)] at this
      exact absurd this (by show ¬ ((thb M2 jc : Int) = -1); omega)
    · rw [g3] at hj
      obtain ⟨-, rfl⟩ := Prod.mk.inj hj
      exact ⟨hbe, rfl⟩
end AE
end
section
/-! A REPUBLIC'S TEXT: what it means -/
abbrev WRS : Type := RW × RS
section RSP
variable (K V : Nat → Int32) (S : Nat → Nat)
def nm (lo hi : Int32) (i : Nat) : Int32 := if K i = 20 then (if V i < lo then -1 else if hi < V i then -1 else V i) else -1
def mtq (i : Nat) : Bool := decide (K i = 20 ∧ S i = 2 ∧ V i / 10 < 8 ∧ rm (V i) 10 < 8)
def mtv (i : Nat) : Int32 := V i / 10 * 8 + rm (V i) 10
def pHab (c : Nat) : Nat → Nat → Nat → RW → Option RW × Nat
  | 0, _, i, _ => (none, i)
  | k + 1, v, i, w => if mtq K V S i = true then (if K (i + 1) = 20 then pHab c k (v + 1) (i + 1) (up1 w (18 + 13 * c + (7 + v)) (mtv V i)) else (some (up1 (up1 w (18 + 13 * c + (7 + v)) (mtv V i)) (18 + 13 * c + 5) (i32 (v + 1))), i + 1)) else (none, i)
def knwW (c : Nat) (w : RW) (x : Int32) : RW := up1 w (18 + 13 * c + 1) (cl w c 1 ||| sl 1 x)
def pKn (C : Int32) (c : Nat) : Nat → Nat → RW → Option RW × Nat
  | 0, i, _ => (none, i)
  | k + 1, i, w => if nm K V 0 C i < 0 then (none, i) else if K (i + 1) = 20 then pKn C c k (i + 1) (knwW c w (nm K V 0 C i)) else (some (knwW c w (nm K V 0 C i)), i + 1)
def zrow (w : RW) (c k : Nat) : RW := fun j => if 18 + 13 * c ≤ j ∧ j < 18 + 13 * c + k then 0 else w j
def citW (w : RW) (c : Nat) (x : Int32) : RW := up1 (up1 (up1 (zrow w c 13) (18 + 13 * c + 0) 1) (18 + 13 * c + 4) (-1)) (18 + 13 * c + 2) x
def morW (w : RW) : RW := up1 w 0 (w 0 + 1)
def pCit (C : Int32) (F : Nat) (q : WRS) (i : Nat) : Option WRS × Nat :=
  if K i = 12 then (if nm K V 0 100 (i + 1) < 0 then (none, i + 1) else if K (i + 2) = 13 then (match pHab K V S (nC q.1) 6 0 (i + 3) (citW q.1 (nC q.1) (nm K V 0 100 (i + 1))) with
    | (none, j) => (none, j)
    | (some w2, j) => if K j = 14 then (match pKn K V C (nC q.1) F (j + 1) w2 with
      | (none, j') => (none, j')
      | (some w3, j') => (some (morW w3, us q.2 (nC q.1) (Int64.ofNat 0)), j')) else (some (morW w2, us q.2 (nC q.1) (Int64.ofNat 0)), j)) else (none, i + 2)) else (none, i)
def tol (w : RW) (i : Nat) : Int32 := if nm K V 0 (w 0 - 1) i < 0 then -1 else if cl w (ni (nm K V 0 (w 0 - 1) i)) 0 = 1 then nm K V 0 (w 0 - 1) i else -1
def sng (w : RW) (x : Int32) : Bool := decide (¬ x < 0 ∧ cl w (ni x) 4 < 0)
def wedW (w : RW) (c d : Nat) : RW := up1 (up1 (up1 (up1 w (18 + 13 * c + 4) (i32 d)) (18 + 13 * d + 4) (i32 c)) (18 + 13 * c + 1) (cl w c 1 ||| cl w d 1)) (18 + 13 * d + 1) (cl w c 1 ||| cl w d 1)
def pWed (q : WRS) (i : Nat) : Option WRS × Nat := if sng q.1 (tol K V q.1 i) = true then (if sng q.1 (tol K V q.1 (i + 1)) = true ∧ ¬ tol K V q.1 i = tol K V q.1 (i + 1) then (some (wedW q.1 (ni (tol K V q.1 i)) (ni (tol K V q.1 (i + 1))), q.2), i + 2) else (none, i + 1)) else (none, i)
def pSeen (q : WRS) (i : Nat) : Option WRS × Nat := if tol K V q.1 i < 0 then (none, i) else if mtq K V S (i + 1) = true then (some (q.1, us q.2 (ni (tol K V q.1 i)) (q.2 (ni (tol K V q.1 i)) ||| ll (Int64.ofNat 1) (mtv V (i + 1)))), i + 2) else (none, i + 1)
def pNum (k : Nat) (lo hi : Int32) (q : WRS) (i : Nat) : Option WRS × Nat := if nm K V lo hi i < 0 then (none, i) else (some (up1 q.1 k (nm K V lo hi i), q.2), i + 1)
def pHarm (q : WRS) (i : Nat) : Option WRS × Nat := if nm K V 0 7 i < 0 then (none, i) else pNum K V (10 + ni (nm K V 0 7 i)) 0 99 q (i + 1)
def pRL (C : Int32) (F : Nat) (q : WRS) (i : Nat) : Option WRS × Nat :=
  if K i = 11 then (if nC q.1 = 10 then (none, i) else pCit K V S C F q (i + 1)) else if K i = 15 then pNum K V 7 0 100 q (i + 1) else if K i = 16 then pNum K V 8 1 30 q (i + 1) else if K i = 18 then pWed K V q (i + 1) else if K i = 19 then pSeen K V S q (i + 1) else if K i = 17 then pHarm K V q (i + 1) else (none, i)
def pRs (C : Int32) (F : Nat) : Nat → WRS → Nat → Option WRS × Nat
  | 0, _, i => (none, i)
  | m + 1, q, i => match pRL K V S C F q i with
    | (none, j) => (none, j)
    | (some q', j) => if K j = 21 then (some q', j) else if K j = 59 then pRs C F m q' (j + 1) else (none, j)
def pRep (C : Int32) (F : Nat) (q : WRS) : Option WRS × Nat := if K 0 = 21 then (some q, 0) else pRs K V S C F 14 q 0
end RSP
/-! what it keeps -/
section RSK
variable {f : BY} {n t : Nat} {K V : Nat → Int32} {b e : Nat → Nat} {w w' : RW}
def sz (b e : Nat → Nat) (i : Nat) : Nat := e i - b i
theorem nm_ok {lo hi : Int32} {i : Nat} (hT : TKS f n t K V b e) (hi' : i ≤ t) (h : ¬ nm K V lo hi i < 0) : ∃ m, m ≤ 1000 ∧ nm K V lo hi i = i32 m ∧ V i = i32 m ∧ K i = 20 ∧ ¬ V i < lo ∧ ¬ hi < V i ∧ i < t := by
  unfold nm at *
  by_cases hk : K i = 20
  · rw [if_pos hk] at h ⊢
    obtain ⟨m, hm, hv⟩ := tk_V hT hi' hk
    have hlt := tk_lt hT hi' (by rw [hk]; decide)
    by_cases c1 : V i < lo
    · rw [if_pos c1] at h
      exact absurd (by decide) h
    · rw [if_neg c1] at h ⊢
      by_cases c2 : hi < V i
      · rw [if_pos c2] at h
        exact absurd (by decide) h
      · rw [if_neg c2]
        exact ⟨m, hm, hv, hv, hk, c1, c2, hlt⟩
  · rw [if_neg hk] at h
    exact absurd (by decide) h
theorem nm_n {lo hi : Int32} {i : Nat} (hT : TKS f n t K V b e) (hi' : i ≤ t) : nm K V lo hi i < 0 ↔ nm K V lo hi i = -1 := by
  constructor
  · intro h
    unfold nm at *
    by_cases hk : K i = 20
    · rw [if_pos hk] at h ⊢
      obtain ⟨m, hm, hv⟩ := tk_V hT hi' hk
      by_cases c1 : V i < lo
      · rw [if_pos c1]
      · rw [if_neg c1] at h ⊢
        by_cases c2 : hi < V i
        · rw [if_pos c2]
        · rw [if_neg c2, hv, lt_lit, i32_i (by omega)] at h
          exact absurd h (by show ¬ ((m : Int) < 0); omega)
    · rw [if_neg hk]
  · intro h
    rw [h]
    decide
theorem mtq_ok {i : Nat} {S : Nat → Nat} (hT : TKS f n t K V b e) (hi : i ≤ t) (h : mtq K V S i = true) : K i = 20 ∧ S i = 2 ∧ i < t ∧ 0 ≤ (mtv V i).toInt ∧ (mtv V i).toInt ≤ 63 ∧ ¬ mtv V i < 0 ∧ ¬ mtv V i = -1 := by
  unfold mtq at h
  obtain ⟨h1, h2, h3, h4⟩ := of_decide_eq_true h
  obtain ⟨m, hm, hv⟩ := tk_V hT hi h1
  have hlt := tk_lt hT hi (by rw [h1]; decide)
  rw [hv, show (i32 m / 10 : Int32) = i32 (m / 10) from i32_d (y := 10) (by omega) (by omega), show ((8 : Int32)) = i32 8 from rfl] at h3
  rw [hv, show rm (i32 m) 10 = i32 (m % 10) from rm_n (y := 10) (by omega) (by omega), show ((8 : Int32)) = i32 8 from rfl] at h4
  have a3 := (i32_lt (by omega) (by omega)).mp h3
  have a4 := (i32_lt (by omega) (by omega)).mp h4
  have e1 : mtv V i = i32 (m / 10 * 8 + m % 10) := by
    unfold mtv
    rw [hv, show (i32 m / 10 : Int32) = i32 (m / 10) from i32_d (y := 10) (by omega) (by omega), show rm (i32 m) 10 = i32 (m % 10) from rm_n (y := 10) (by omega) (by omega), show i32 (m / 10) * 8 = i32 (m / 10 * 8) from i32_m _ 8, i32_a]
  have e2 : (mtv V i).toInt = ((m / 10 * 8 + m % 10 : Nat) : Int) := by rw [e1, i32_i (by omega)]
  refine ⟨h1, h2, hlt, by omega, by omega, fun x => ?_, fun x => ?_⟩
  · rw [lt_lit, e2] at x
    have : (0 : Int32).toInt = 0 := rfl
    omega
  · have := congrArg Int32.toInt x
    rw [e2] at this
    have e3 : ((-1 : Int32)).toInt = -1 := rfl
    omega
theorem tol_ok {i : Nat} (hT : TKS f n t K V b e) (hi : i ≤ t) (hw : WF w) (h : ¬ tol K V w i < 0) : ∃ m, m < nC w ∧ tol K V w i = i32 m ∧ nm K V 0 (w 0 - 1) i = i32 m ∧ V i = i32 m ∧ K i = 20 ∧ i < t ∧ alv w m = true := by
  unfold tol at *
  by_cases c1 : nm K V 0 (w 0 - 1) i < 0
  · rw [if_pos c1] at h
    exact absurd (by decide) h
  · rw [if_neg c1] at h ⊢
    obtain ⟨m, hm, h1, h2, h3, h4, h5, h6⟩ := nm_ok hT hi c1
    obtain ⟨e0, e1, e2⟩ := nC_i hw
    rw [h1, ni_i (by omega)] at h ⊢
    have hmn : m < nC w := by
      rw [h2, e2] at h5
      by_cases z : nC w = 0
      · rw [z] at h5
        exfalso
        apply h5
        rw [lt_lit, i32_i (by omega)]
        show (i32 0 - 1 : Int32).toInt < (m : Int)
        have : (i32 0 - 1 : Int32).toInt = -1 := by decide
        omega
      · obtain ⟨k, hk⟩ : ∃ k, nC w = k + 1 := ⟨nC w - 1, by omega⟩
        rw [hk, show (i32 (k + 1) - 1 : Int32) = i32 k from i32_sb k 1] at h5
        have : ¬ k < m := fun x => h5 ((i32_lt (by omega) (by omega)).mpr x)
        omega
    by_cases c2 : cl w m 0 = 1
    · rw [if_pos c2]
      exact ⟨m, hmn, rfl, rfl, h2, h3, h6, decide_eq_true c2⟩
    · rw [if_neg c2] at h
      exact absurd (by decide) h
end RSK
end
section
/-! A REPUBLIC'S TEXT: the reference reads it -/
theorem st_citizen : stL 13200821491936309661 = dwL 11 ∧ sx_len ((13200821491936309661 + 1) / 128) < 100 := by decide +kernel
theorem st_watch : stL 198125670153119 = dwL 15 ∧ sx_len ((198125670153119 + 1) / 128) < 100 := by decide +kernel
theorem st_term : stL 784791157281 = dwL 16 ∧ sx_len ((784791157281 + 1) / 128) < 100 := by decide +kernel
theorem st_harm : stL 784791024679 = dwL 17 ∧ sx_len ((784791024679 + 1) / 128) < 100 := by decide +kernel
theorem st_wed : stL 2989669283 = dwL 18 ∧ sx_len ((2989669283 + 1) / 128) < 100 := by decide +kernel
theorem st_seen : stL 786829588901 = dwL 19 ∧ sx_len ((786829588901 + 1) / 128) < 100 := by decide +kernel
theorem st_fear : stL 795385967383 = dwL 12 ∧ sx_len ((795385967383 + 1) / 128) < 100 := by decide +kernel
theorem st_does : stL 797567332889 = dwL 13 ∧ sx_len ((797567332889 + 1) / 128) < 100 := by decide +kernel
theorem st_knows : stL 204215892260251 = dwL 14 ∧ sx_len ((204215892260251 + 1) / 128) < 100 := by decide +kernel
abbrev fq3 : List (Nat × Nat × Option Nat) := [(190, 190, some 19), (190, 190, some 21), (191, 191, none), (196, 196, none)]
def RST (f : BY) (n : Nat) (M0 : MM) (M : MM) (p g : Nat) (w : RW) (s : RS) : Prop := TXr M f n p g ∧ M.1 191 = w ∧ M.2 196 = s ∧ Eqo fq3 M0 M
theorem atP_q3 {M0 M : MM} {p' g' : Nat} (h : Eqo fq3 M0 M) : Eqo fq3 M0 (atP M p' g') := fun c j hc => by
  refine ⟨?_, (h c j hc).2⟩
  rw [← (h c j hc).1]
  show (if c = 190 ∧ j = 19 then i32 p' else if c = 190 ∧ j = 21 then i32 g' else M.1 c j) = M.1 c j
  by_cases x1 : c = 190 ∧ j = 19
  · obtain ⟨rfl, rfl⟩ := x1
    exact absurd hc (by decide)
  · rw [if_neg x1]
    by_cases x2 : c = 190 ∧ j = 21
    · obtain ⟨rfl, rfl⟩ := x2
      exact absurd hc (by decide)
    · rw [if_neg x2]
def np (K : Nat → Int32) (b e : Nat → Nat) (i : Nat) : Nat := if K i = 20 then e i else b i
section RR
variable {f : BY} {n t i p g N : Nat} {K V : Nat → Int32} {b e : Nat → Nat} {M : MM} {w : RW} {s : RS} {M0 : MM} {Q : Int32 → MM → Prop}
theorem RST_at {p' g' : Nat} (h : RST f n M0 M p g w s) : RST f n M0 (atP M p' g') p' g' w s := ⟨atP_T h.1, h.2.1, h.2.2.1, atP_q3 h.2.2.2⟩
theorem RST_w {k : Nat} {y : Int32} (h : RST f n M0 M p g w s) : RST f n M0 (wi M 191 k y) p g (up1 w k y) s := ⟨TXr_e h.1 eqo_a rfl, wi_row h.2.1, h.2.2.1, eqo_wi (i := 2) h.2.2.2 rfl (Or.inl rfl)⟩
theorem RST_j {k : Nat} {y : Int64} (h : RST f n M0 M p g w s) : RST f n M0 (wj M 196 k y) p g w (us s k y) := ⟨TXr_e h.1 eqo_b rfl, h.2.1, by
  funext j
  unfold us
  by_cases c : j = k
  · rw [c, if_pos rfl, wj_2e]
  · rw [if_neg c, wj_2n (by omega), h.2.2.1], eqo_wj (i := 3) h.2.2.2 rfl (Or.inl rfl)⟩
theorem RST_g (h : RST f n M0 M p g w s) : M.1 190 21 = i32 g ∧ Eqo fq3 M0 M := ⟨h.1.2.2.1, h.2.2.2⟩
theorem r_set {c k : Nat} {y z : Int32} {Q : MM → Prop} (h : RST f n M0 M p g w s) (hc : c < 1000) (hk : k < 1000) (hz : z = i32 k) (hQ : ∀ M', RST f n M0 M' p g (up1 w (18 + 13 * c + k) y) s → Q M') : W_m_sets (i32 c) z y N M Q := by
  unfold W_m_sets
  rw [hz, ofs hc hk]
  exact hQ _ (RST_w h)
theorem np_T (hb : BOK f n) (hn : n ≤ 400) (hT : TKS f n t K V b e) (hi : i ≤ t) (hk : K i = 20) : PT e b (i + 1) (np K b e i) ∧ i < t := by
  have hlt := tk_lt hT hi (by rw [hk]; decide)
  unfold np
  rw [if_pos hk]
  exact ⟨PT_s hT hlt, hlt⟩
theorem r_nm (hb : BOK f n) (hn : n ≤ 400) (hT : TKS f n t K V b e) {lo hi' : Int32} (h1 : hi' < 1000) (h : RST f n M0 M p g w s) (hi : i ≤ t) (hp : PT e b i p) (hQ : ∀ M', RST f n M0 M' (np K b e i) (b i) w s → Q (nm K V lo hi' i) M') : W_m_number lo hi' N M Q := by
  refine t_number h1 h.1 hb hn hT hi hp ⟨fun hk => ?_, fun hk => ?_⟩
  · have := hQ (atP M (e i) (b i)) (by unfold np; rw [if_pos hk]; exact RST_at h)
    unfold nm at this
    rw [if_pos hk] at this
    exact this
  · have := hQ (atP M (b i) (b i)) (by unfold np; rw [if_neg hk]; exact RST_at h)
    unfold nm at this
    rw [if_neg hk] at this
    exact this
theorem mt_d (hb : BOK f n) (hn : n ≤ 400) (hT : TKS f n t K V b e) (hi : i ≤ t) (hk : K i = 20) : mtR f (b i) (e i) = if mtq K V (sz b e) i = true then mtv V i else -1 := by
  obtain ⟨w1, w2⟩ := tk_num hT hi hk
  unfold mtR mtq
  by_cases c : e i - b i = 2
  · rw [if_pos c]
    rw [if_neg (by omega), c] at w2
    have d1 := w1.2.2.1 (b i) (by omega) (by omega)
    have d2 := w1.2.2.1 (b i + 1) (by omega) (by omega)
    obtain ⟨a1, a2, a3⟩ := d1
    obtain ⟨b1, b2, b3⟩ := d2
    have x1 : f (b i) - 48 = i32 ((f (b i)).toInt - 48).toNat := by
      have : f (b i) = i32 (((f (b i)).toInt - 48).toNat + 48) := i32_of (by omega)
      rw [this, show (48 : Int32) = i32 48 from rfl, i32_sb, i32_i (by omega)]
      congr 1
      omega
    have x2 : f (b i + 1) - 48 = i32 ((f (b i + 1)).toInt - 48).toNat := by
      have : f (b i + 1) = i32 (((f (b i + 1)).toInt - 48).toNat + 48) := i32_of (by omega)
      rw [this, show (48 : Int32) = i32 48 from rfl, i32_sb, i32_i (by omega)]
      congr 1
      omega
    have hv : V i = i32 (10 * ((f (b i)).toInt - 48).toNat + ((f (b i + 1)).toInt - 48).toNat) := by
      rw [w2]
      show 10 * (10 * 0 + f (b i + 0) - 48) + f (b i + 1) - 48 = _
      rw [show (10 * 0 + f (b i + 0) - 48 : Int32) = f (b i) - 48 by rw [Nat.add_zero]; simp, x1, show (10 : Int32) * i32 _ = i32 (10 * ((f (b i)).toInt - 48).toNat) from i32_m 10 _, show ∀ y : Int32, y + f (b i + 1) - 48 = y + (f (b i + 1) - 48) from fun y => by rw [Int32.sub_eq_add_neg, Int32.sub_eq_add_neg, Int32.add_assoc], x2, i32_a]
    rw [x1, x2]
    generalize hA : ((f (b i)).toInt - 48).toNat = A at *
    generalize hB : ((f (b i + 1)).toInt - 48).toNat = B at *
    have hA9 : A ≤ 9 := by omega
    have hB9 : B ≤ 9 := by omega
    have y1 : V i / 10 = i32 A := by
      rw [hv, show (i32 (10 * A + B) / 10 : Int32) = i32 ((10 * A + B) / 10) from i32_d (y := 10) (by omega) (by omega), show (10 * A + B) / 10 = A by omega]
    have y2 : rm (V i) 10 = i32 B := by
      rw [hv, show rm (i32 (10 * A + B)) 10 = i32 ((10 * A + B) % 10) from rm_n (y := 10) (by omega) (by omega), show (10 * A + B) % 10 = B by omega]
    unfold mtv
    rw [y1, y2]
    by_cases p1 : i32 A < 8
    · by_cases p2 : i32 B < 8
      · rw [if_pos p1, if_pos p2, if_pos (decide_eq_true ⟨hk, c, p1, p2⟩), show (8 : Int32) * i32 A = i32 (8 * A) from i32_m 8 _, show i32 A * 8 = i32 (A * 8) from i32_m _ 8, Nat.mul_comm]
      · rw [if_pos p1, if_neg p2, if_neg (fun h => p2 (of_decide_eq_true h).2.2.2)]
    · rw [if_neg p1, if_neg (fun h => p1 (of_decide_eq_true h).2.2.1)]
  · rw [if_neg c, if_neg (fun h => c (of_decide_eq_true h).2.1)]
theorem r_mt (hb : BOK f n) (hn : n ≤ 400) (hT : TKS f n t K V b e) (h : RST f n M0 M p g w s) (hi : i ≤ t) (hp : PT e b i p) (hQ : ∀ M', RST f n M0 M' (np K b e i) (b i) w s → Q (if mtq K V (sz b e) i = true then mtv V i else -1) M') : W_m_matterTold N M Q := by
  refine r_matter h.1 hb hn (tk_pn hT hi hp) (fun q e' hq he => ?_)
  obtain rfl := NB_u hq (tk_nb hT hi hp)
  by_cases hk : K i = 20
  · obtain ⟨w1, w2⟩ := tk_num hT hi hk
    obtain rfl := ENd_u he w1
    rw [mt_d hb hn hT hi hk]
    exact hQ _ (by unfold np; rw [if_pos hk]; exact RST_at h)
  · have hd : ENd (DG f n) n (b i) (b i) := ⟨Nat.le_refl _, (hT.2.2.2 i hi).2.1, fun j j1 j2 => by omega, fun x => hk ((tk_dig hT hi).mp x)⟩
    obtain rfl := ENd_u he hd
    have := hQ (atP M (b i) (b i)) (by unfold np; rw [if_neg hk]; exact RST_at h)
    rw [if_neg (fun h => hk (of_decide_eq_true h).1)] at this
    unfold mtR
    rw [if_neg (by omega)]
    exact this
theorem r_fig (hb : BOK f n) (hn : n ≤ 400) (hT : TKS f n t K V b e) (h : RST f n M0 M p g w s) (hi : i ≤ t) (hp : PT e b i p) (hQ : ∀ M', RST f n M0 M' (b i) (b i) w s → (K i = 20 → Q 1 M') ∧ (¬ K i = 20 → Q 0 M')) : W_m_isFigure N M Q := t_figure h.1 hb hn hT hi hp (hQ _ (RST_at h))
theorem r_ps (hb : BOK f n) (hn : n ≤ 400) (hT : TKS f n t K V b e) {σ k : Nat} (hs : stL σ = dwL k ∧ sx_len ((σ + 1) / 128) < 100) (hk : k < 20) (h : RST f n M0 M p g w s) (hi : i ≤ t) (hp : PT e b i p) (hQ1 : K i = i32 k → i < t → ∀ M', RST f n M0 M' (e i) (b i) w s → PT e b (i + 1) (e i) → Q 1 M') (hQ0 : ¬ K i = i32 k → ∀ M', RST f n M0 M' (b i) (b i) w s → PT e b i (b i) → Q 0 M') : W_m_passes σ N M Q :=
  t_passes hs hk h.1 hb hn hT hi hp ⟨fun y => by
    have hlt := tk_lt hT hi (by rw [y]; exact fun z => by have := (i32_ij (b := 21) (by omega) (by omega)).mp z; omega)
    exact hQ1 y hlt _ (RST_at h) (PT_s hT hlt), fun y => hQ0 y _ (RST_at h) (PT_b hT hi)⟩
theorem r_lts (hb : BOK f n) (hn : n ≤ 400) (hT : TKS f n t K V b e) {Q : MM → Prop} (h : RST f n M0 M p g w s) (hi : i ≤ t) (hp : PT e b i p) (hQ : ∀ e' M', ENd (LT f n) n (b i) e' → RST f n M0 M' e' (b i) w s → Q M') : W_m_letters N M Q := by
  refine r_letters h.1 hb hn (tk_pn hT hi hp) (fun q e' hq he => ?_)
  obtain rfl := NB_u hq (tk_nb hT hi hp)
  exact hQ e' _ he (RST_at h)
theorem r_isw (hb : BOK f n) (hn : n ≤ 400) (hT : TKS f n t K V b e) {σ k e' : Nat} {Q : Int32 → Prop} (hs : stL σ = dwL k ∧ sx_len ((σ + 1) / 128) < 100) (hk : k < 20) (h : RST f n M0 M e' (b i) w s) (hi : i ≤ t) (he : ENd (LT f n) n (b i) e') (hQ1 : K i = i32 k → e' = e i → i < t → PT e b (i + 1) e' → Q 1) (hQ0 : ¬ K i = i32 k → Q 0) : W_m_isWord σ N M Q := by
  refine r_isWord h.1 hb hn he hs.2 ?_
  by_cases c : K i = i32 k
  · rw [decide_eq_true ((t_wd hs.1 hk hT hi he).mpr c)]
    have hlt := tk_lt hT hi (by rw [c]; exact fun z => by have := (i32_ij (b := 21) (by omega) (by omega)).mp z; omega)
    have ee := t_we hk hT hi he c
    exact hQ1 c ee hlt (by rw [ee]; exact PT_s hT hlt)
  · rw [decide_eq_false (fun y => c ((t_wd hs.1 hk hT hi he).mp y))]
    exact hQ0 c
theorem r_tol (hb : BOK f n) (hn : n ≤ 400) (hT : TKS f n t K V b e) (h : RST f n M0 M p g w s) (hw : WF w) (hi : i ≤ t) (hp : PT e b i p) (hQ : ∀ M', RST f n M0 M' (np K b e i) (b i) w s → Q (tol K V w i) M') : W_m_citizenTold N M Q := by
  unfold W_m_citizenTold
  have hc : V_m_citizens M = w 0 := by
    unfold V_m_citizens
    rw [h.2.1]
    rfl
  obtain ⟨e0, e1, e2⟩ := nC_i hw
  have hlim : w 0 - 1 < 1000 := by
    rw [e2]
    have : nC w = 0 ∨ nC w = 1 ∨ nC w = 2 ∨ nC w = 3 ∨ nC w = 4 ∨ nC w = 5 ∨ nC w = 6 ∨ nC w = 7 ∨ nC w = 8 ∨ nC w = 9 ∨ nC w = 10 := by omega
    rcases this with c | c | c | c | c | c | c | c | c | c | c <;> rw [c] <;> decide
  rw [hc]
  refine r_nm hb hn hT hlim h hi hp (fun M' h' => ?_)
  have hh := hQ M' h'
  unfold tol at hh
  refine ⟨fun c => ?_, fun c => ?_⟩
  · rw [if_pos c] at hh
    exact hh
  · rw [if_neg c] at hh
    obtain ⟨m, hm', h1, h2, -, -, h5, -⟩ := nm_ok hT hi c
    have hm : m < 1000 := by
      rw [h2, lt_lit, i32_i (by omega)] at h5
      rw [lt_lit, show (1000 : Int32).toInt = 1000 from rfl] at hlim
      omega
    rw [h1, ni_i (by omega)] at hh
    rw [h1]
    have ha : V_m_isAlive (i32 m) M' = if cl w m 0 = 1 then 1 else 0 := by
      unfold V_m_isAlive
      rw [show V_m_of (i32 m) 0 M' = cl (M'.1 191) m 0 from by
        have := v_of (c := m) (i := 0) (M := M') (by omega) (by omega)
        exact this, h'.2.1]
    rw [ha]
    by_cases c2 : cl w m 0 = 1
    · rw [if_pos c2] at hh ⊢
      exact ⟨fun y => absurd y (by decide), fun _ => hh⟩
    · rw [if_neg c2] at hh ⊢
      exact ⟨fun _ => hh, fun y => absurd rfl y⟩
theorem tol_T (hb : BOK f n) (hn : n ≤ 400) (hT : TKS f n t K V b e) (hw : WF w) (hi : i ≤ t) (h : ¬ tol K V w i < 0) : PT e b (i + 1) (np K b e i) ∧ i < t := by
  obtain ⟨m, -, -, -, -, hk, -⟩ := tol_ok hT hi hw h
  exact np_T hb hn hT hi hk
theorem v_sng (hb : BOK f n) (hn : n ≤ 400) (hT : TKS f n t K V b e) {y : Int32} {m : Nat} (h : RST f n M0 M p g w s) (hm : m < 1000) (hy : y < 0 ∨ y = i32 m) : V_m_isSingle y M = b32 (sng w y) := by
  unfold V_m_isSingle sng
  by_cases c : y < 0
  · rw [if_pos c, decide_eq_false (fun h => h.1 c)]; rfl
  · rw [if_neg c]
    have hy : y = i32 m := by
      rcases hy with h | h
      · exact absurd h c
      · exact h
    rw [hy, show V_m_of (i32 m) 4 M = cl (M.1 191) m 4 from v_of (c := m) (i := 4) (M := M) hm (by omega), h.2.1, ni_i (by omega)]
    rw [hy] at c
    by_cases c2 : cl w m 4 < 0
    · rw [if_pos c2, decide_eq_true ⟨c, c2⟩]; rfl
    · rw [if_neg c2, decide_eq_false (fun h => c2 h.2)]; rfl
end RR
end
section
/-! A REPUBLIC'S TEXT: the reference reads a line -/
section R2
variable {f : BY} {n t i p g N : Nat} {K V : Nat → Int32} {b e : Nat → Nat} {M : MM} {w : RW} {s : RS} {M0 : MM} {Q : Int32 → MM → Prop}
def ROK (f : BY) (n t : Nat) (b e : Nat → Nat) (M0 : MM) (res : Option WRS × Nat) (r : Int32) (M' : MM) : Prop := (r = 1 ∧ ∃ q j p' g', res = (some q, j) ∧ j ≤ t ∧ RST f n M0 M' p' g' q.1 q.2 ∧ PT e b j p') ∨ (r = 0 ∧ ∃ j, res = (none, j) ∧ j ≤ t ∧ M'.1 190 21 = i32 (b j) ∧ Eqo fq3 M0 M')
def ROW (f : BY) (n t : Nat) (b e : Nat → Nat) (M0 : MM) (s : RS) (res : Option RW × Nat) (r : Int32) (M' : MM) : Prop := (r = 1 ∧ ∃ w' j p' g', res = (some w', j) ∧ j ≤ t ∧ RST f n M0 M' p' g' w' s ∧ PT e b j p') ∨ (r = 0 ∧ ∃ j, res = (none, j) ∧ j ≤ t ∧ M'.1 190 21 = i32 (b j) ∧ Eqo fq3 M0 M')
theorem r_hab (hb : BOK f n) (hn : n ≤ 400) (hT : TKS f n t K V b e) {c : Nat} (hc : c < 1000) (h : RST f n M0 M p g w s) (hi : i ≤ t) (hp : PT e b i p) (hQ : ∀ r M', ROW f n t b e M0 s (pHab K V (sz b e) c 6 0 i w) r M' → Q r M') : W_m_readHabit (i32 c) N M Q := by
  unfold W_m_readHabit
  refine I_m_readHabit_2 (i32 c) Q (fun v M' => ∃ k u j w' p' g', u + k = 6 ∧ v = i32 u ∧ j ≤ t ∧ RST f n M0 M' p' g' w' s ∧ PT e b j p' ∧ (u = 0 ∨ g' = b j) ∧ pHab K V (sz b e) c 6 0 i w = pHab K V (sz b e) c k u j w') (fun N ih v M' hih hv => ?_) N _ _ ⟨6, 0, i, w, p, g, rfl, rfl, hi, h, hp, Or.inl rfl, rfl⟩
  obtain ⟨k, u, j, w', p', g', k1, rfl, k2, k3, k4, k5, k6⟩ := hv
  rw [k6] at hQ
  unfold B_m_readHabit_2
  refine ⟨fun h6 => ?_, fun h6 => ?_⟩
  · have hu : u = 6 := (i32_ij (b := 6) (by omega) (by omega)).mp h6
    obtain rfl : k = 0 := by omega
    have hg : g' = b j := by
      rcases k5 with c | c
      · omega
      · exact c
    exact hQ 0 M' (Or.inr ⟨rfl, j, rfl, k2, hg ▸ RST_g k3⟩)
  · have hu : u ≠ 6 := fun c => h6 (by rw [c]; rfl)
    obtain ⟨k, rfl⟩ : ∃ k', k = k' + 1 := ⟨k - 1, by omega⟩
    unfold pHab at hQ
    refine r_mt hb hn hT k3 k2 k4 (fun M4 h4 => ?_)
    by_cases hm : mtq K V (sz b e) j = true
    · rw [if_pos hm] at hQ ⊢
      obtain ⟨m1, m2, m3, m4, m5, m6, m7⟩ := mtq_ok hT k2 hm
      refine ⟨fun y => absurd y m6, fun _ => ?_⟩
      refine r_set (c := c) (k := 7 + u) h4 hc (by omega) (i32_a 7 u) (fun M7 h7 => ?_)
      refine r_fig hb hn hT h7 (i := j + 1) (by omega) (np_T hb hn hT k2 m1).1 (fun M9 h9 => ⟨fun hk => ?_, fun hk => ?_⟩)
      · rw [if_pos hk] at hQ
        refine ⟨fun y => absurd y (by decide), fun _ => hih _ _ ⟨k, u + 1, j + 1, _, _, _, by omega, i32_s u, by omega, h9, PT_b hT (by omega), Or.inr rfl, ?_⟩⟩
        rw [k6]
        show (if mtq K V (sz b e) j = true then _ else _) = _
        rw [if_pos hm, if_pos hk]
      · rw [if_neg hk] at hQ
        refine ⟨fun _ => ?_, fun y => absurd rfl y⟩
        refine r_set (c := c) (k := 5) h9 hc (by omega) rfl (fun M12 h12 => ?_)
        rw [i32_s] at h12
        exact hQ 1 _ (Or.inl ⟨rfl, _, j + 1, _, _, rfl, by omega, h12, PT_b hT (by omega)⟩)
    · rw [if_neg hm] at hQ ⊢
      exact ⟨fun _ => hQ 0 _ (Or.inr ⟨rfl, j, rfl, k2, RST_g h4⟩), fun y => absurd (by decide) y⟩
theorem r_kno (hb : BOK f n) (hn : n ≤ 400) (hT : TKS f n t K V b e) {F c : Nat} {C : Int32} (hF : 400 < F) (hc : c < 1000) (hC : C < 1000) (hx : mx 0 (M0.1 190 15) - 1 = C) (h : RST f n M0 M p g w s) (hi : i ≤ t) (hp : PT e b i p) (hQ : ∀ r M', ROW f n t b e M0 s (pKn K V C c F i w) r M' → Q r M') : W_m_readKnows (i32 c) N M Q := by
  have ht := hT.1
  unfold W_m_readKnows
  refine I_m_readKnows_0 (i32 c) Q (fun M' => ∃ k j w' p' g', 400 < k + j ∧ j ≤ t ∧ RST f n M0 M' p' g' w' s ∧ PT e b j p' ∧ pKn K V C c F i w = pKn K V C c k j w') (fun N ih M' hih hv => ?_) N _ ⟨F, i, w, p, g, by omega, hi, h, hp, rfl⟩
  obtain ⟨k, j, w', p', g', k1, k2, k3, k4, k6⟩ := hv
  rw [k6] at hQ
  unfold B_m_readKnows_0
  rw [show V_m_clauses M' - 1 = C from by unfold V_m_clauses; rw [eq1 k3.2.2.2 (b := 190) (k := 15) rfl]; exact hx]
  refine r_nm hb hn hT hC k3 k2 k4 (fun M2 h2 => ?_)
  by_cases hk0 : k = 0
  · subst hk0
    -- not reached: the text has ended
    have hjt : j = t := by omega
    have : nm K V 0 C j < 0 := by
      rcases Classical.em (nm K V 0 C j < 0) with h | h
      · exact h
      · obtain ⟨m, -, -, -, -, -, -, hlt⟩ := nm_ok hT k2 h
        omega
    exact ⟨fun _ => hQ 0 _ (Or.inr ⟨rfl, j, rfl, k2, RST_g h2⟩), fun y => absurd this y⟩
  · obtain ⟨k, rfl⟩ : ∃ k', k = k' + 1 := ⟨k - 1, by omega⟩
    unfold pKn at hQ
    refine ⟨fun hneg => ?_, fun hneg => ?_⟩
    · rw [if_pos hneg] at hQ
      exact hQ 0 _ (Or.inr ⟨rfl, j, rfl, k2, RST_g h2⟩)
    · rw [if_neg hneg] at hQ
      obtain ⟨m, hm, m1, m2, m3, m4, m5, m6⟩ := nm_ok hT k2 hneg
      rw [show V_m_of (i32 c) 1 M2 = cl w' c 1 from by
        have := v_of (c := c) (i := 1) (M := M2) hc (by omega)
        rw [h2.2.1] at this
        exact this]
      refine r_set (c := c) (k := 1) h2 hc (by omega) rfl (fun M5 h5 => ?_)
      refine r_fig hb hn hT h5 (i := j + 1) (by omega) (np_T hb hn hT k2 m3).1 (fun M9 h9 => ⟨fun hk => ?_, fun hk => ?_⟩)
      · refine ⟨fun y => absurd y (by decide), fun _ => hih _ ⟨k, j + 1, _, _, _, by omega, by omega, h9, PT_b hT (by omega), ?_⟩⟩
        rw [k6]
        show (if nm K V 0 C j < 0 then _ else _) = _
        rw [if_neg hneg, if_pos hk]
        rfl
      · rw [if_neg hk] at hQ
        exact ⟨fun _ => hQ 1 _ (Or.inl ⟨rfl, _, j + 1, _, _, rfl, by omega, h9, PT_b hT (by omega)⟩), fun y => absurd rfl y⟩
theorem zrow_0 (hb : BOK f n) (hn : n ≤ 400) (hT : TKS f n t K V b e) {c : Nat} : zrow w c 0 = w := by
  funext j
  unfold zrow
  rw [if_neg (by omega)]
theorem zrow_s (hb : BOK f n) (hn : n ≤ 400) (hT : TKS f n t K V b e) {c k : Nat} : up1 (zrow w c k) (18 + 13 * c + k) 0 = zrow w c (k + 1) := by
  funext j
  unfold up1 zrow
  by_cases h : j = 18 + 13 * c + k
  · rw [if_pos h, if_pos (by omega)]
  · rw [if_neg h]
    by_cases h2 : 18 + 13 * c ≤ j ∧ j < 18 + 13 * c + k
    · rw [if_pos h2, if_pos (by omega)]
    · rw [if_neg h2, if_neg (by omega)]
theorem r_zer (hb : BOK f n) (hn : n ≤ 400) (hT : TKS f n t K V b e) {c : Nat} {k34 : MM → Prop} (hc : c < 1000) (h : RST f n M0 M p g w s) (hQ : ∀ M', RST f n M0 M' p g (zrow w c 13) s → k34 M') : W_m_readCitizen_15 (i32 c) k34 Q N 0 M := by
  refine I_m_readCitizen_15 (i32 c) k34 Q (fun v M' => ∃ k, k ≤ 13 ∧ v = i32 k ∧ RST f n M0 M' p g (zrow w c k) s) (fun N ih v M' hih hv => ?_) N _ _ ⟨0, by omega, rfl, by rw [zrow_0 hb hn hT]; exact h⟩
  obtain ⟨k, k1, rfl, k2⟩ := hv
  unfold B_m_readCitizen_15
  refine ⟨fun hl => ?_, fun hl => ?_⟩
  · have hl' : k < 13 := (i32_lt (k := 13) (by omega) (by omega)).mp hl
    refine r_set (c := c) (k := k) k2 hc (by omega) rfl (fun M4 h4 => hih _ _ ⟨k + 1, by omega, i32_s k, ?_⟩)
    rw [zrow_s hb hn hT] at h4
    exact h4
  · have : ¬ k < 13 := fun e => hl ((i32_lt (j := k) (k := 13) (by omega) (by omega)).mpr e)
    obtain rfl : k = 13 := by omega
    exact hQ _ k2
theorem r_cit (hb : BOK f n) (hn : n ≤ 400) (hT : TKS f n t K V b e) {F : Nat} {C : Int32} (hF : 400 < F) (hC : C < 1000) (hx : mx 0 (M0.1 190 15) - 1 = C) (h : RST f n M0 M p g w s) (hw : WF w) (hi : i + 1 ≤ t) (hp : PT e b (i + 1) p) (hg : g = b i) (hQ : ∀ r M', ROK f n t b e M0 (if nC w = 10 then (none, i) else pCit K V (sz b e) C F (w, s) (i + 1)) r M' → Q r M') : W_m_readCitizen N M Q := by
  obtain ⟨e0, e1, e2⟩ := nC_i hw
  unfold W_m_readCitizen
  have hc : V_m_citizens M = i32 (nC w) := by
    unfold V_m_citizens
    rw [h.2.1]
    exact e2
  rw [hc]
  refine ⟨fun h10 => ?_, fun h10 => ?_⟩
  · have : nC w = 10 := (i32_ij (b := 10) (by omega) (by omega)).mp h10
    rw [if_pos this] at hQ
    exact hQ 0 M (Or.inr ⟨rfl, i, rfl, by omega, hg ▸ RST_g h⟩)
  · rw [if_neg (fun y => h10 (by rw [y]; rfl))] at hQ
    unfold pCit at hQ
    dsimp only at hQ
    refine r_zer hb hn hT (by omega) h (fun M5 h5 => ?_)
    rw [ni_i (show nC w < 2147483648 by omega)]
    refine r_set (c := nC w) (k := 0) (RST_j h5) (by omega) (by omega) rfl (fun M7 h7 => ?_)
    refine r_set (c := nC w) (k := 4) h7 (by omega) (by omega) rfl (fun M9 h9 => ?_)
    refine r_lts hb hn hT h9 hi hp (fun e' M11 he h11 => ?_)
    refine r_isw hb hn hT st_fear (by omega) h11 hi he (fun hk ee hlt hp' => ?_) (fun hk => ?_)
    · rw [if_pos (show K (i + 1) = 12 from hk)] at hQ
      refine ⟨fun y => absurd y (by decide), fun _ => ?_⟩
      refine r_nm hb hn hT (by decide) h11 (i := i + 1 + 1) (by omega) hp' (fun M16 h16 => ?_)
      refine r_set (c := nC w) (k := 2) h16 (by omega) (by omega) rfl (fun M18 h18 => ?_)
      have hof : V_m_of (i32 (nC w)) 2 M18 = nm K V 0 100 (i + 1 + 1) := by
        have := v_of (c := nC w) (i := 2) (M := M18) (by omega) (by omega)
        rw [h18.2.1] at this
        rw [show (2 : Int32) = i32 2 from rfl, this]
        exact up1_e
      rw [hof]
      refine ⟨fun hneg => ?_, fun hneg => ?_⟩
      · rw [if_pos hneg] at hQ
        exact hQ 0 _ (Or.inr ⟨rfl, _, rfl, by omega, RST_g h18⟩)
      · rw [if_neg hneg] at hQ
        obtain ⟨m, hm, m1, m2, m3, m4, m5, m6⟩ := nm_ok hT (by omega) hneg
        refine r_lts hb hn hT h18 (i := i + 1 + 1 + 1) (by omega) (np_T hb hn hT (by omega) m3).1 (fun e2' M21 he2 h21 => ?_)
        refine r_isw hb hn hT st_does (by omega) h21 (by omega) he2 (fun hk2 ee2 hlt2 hp2 => ?_) (fun hk2 => ?_)
        · rw [if_pos (show K (i + 1 + 2) = 13 from hk2)] at hQ
          refine ⟨fun y => absurd y (by decide), fun _ => ?_⟩
          refine r_hab hb hn hT (by omega) h21 (i := i + 1 + 1 + 1 + 1) (by omega) hp2 (fun r25 M26 h26 => ?_)
          replace hQ : ∀ r M', ROK f n t b e M0 (match pHab K V (sz b e) (nC w) 6 0 (i + 1 + 3) (citW w (nC w) (nm K V 0 100 (i + 1 + 1))) with
            | (none, j) => (none, j)
            | (some w2, j) => if K j = 14 then (match pKn K V C (nC w) F (j + 1) w2 with
              | (none, j') => (none, j')
              | (some w3, j') => (some (morW w3, us s (nC w) (Int64.ofNat 0)), j')) else (some (morW w2, us s (nC w) (Int64.ofNat 0)), j)) r M' → Q r M' := hQ
          rcases h26 with ⟨rfl, w2, j, p2, g2, j1, j2, j3, j4⟩ | ⟨rfl, j, j1, j2, j3⟩
          · replace j1 : pHab K V (sz b e) (nC w) 6 0 (i + 1 + 3) (citW w (nC w) (nm K V 0 100 (i + 1 + 1))) = (some w2, j) := j1
            rw [j1] at hQ
            refine ⟨fun y => absurd y (by decide), fun _ => ?_⟩
            have fin : ∀ (M' : MM) (w3 : RW) (j' p' g' : Nat), RST f n M0 M' p' g' w3 (us s (nC w) (Int64.ofNat 0)) → RST f n M0 (wi M' 191 (ni 0) ((M'.1 191 (ni 0)) + 1)) p' g' (morW w3) (us s (nC w) (Int64.ofNat 0)) := fun M' w3 j' p' g' hh => by
              have := RST_w (k := ni 0) (y := M'.1 191 (ni 0) + 1) hh
              rw [hh.2.1] at this ⊢
              exact this
            refine r_ps hb hn hT st_knows (by omega) j3 j2 j4 (fun hk3 hlt3 M29 h29 hp3 => ?_) (fun hk3 M29 h29 hp3 => ?_)
            · replace hQ : ∀ r M', ROK f n t b e M0 (match pKn K V C (nC w) F (j + 1) w2 with
              | (none, j') => (none, j')
              | (some w3, j') => (some (morW w3, us s (nC w) (Int64.ofNat 0)), j')) r M' → Q r M' := fun r M' hh => hQ r M' (by
                show ROK f n t b e M0 (if K j = 14 then _ else _) r M'
                rw [if_pos (show K j = 14 from hk3)]
                exact hh)
              refine ⟨fun y => absurd y (by decide), fun _ => ?_⟩
              refine r_kno hb hn hT hF (by omega) hC hx h29 (i := j + 1) (by omega) hp3 (fun r31 M32 h32 => ?_)
              rcases h32 with ⟨rfl, w3, j', p3, g3, l1, l2, l3, l4⟩ | ⟨rfl, j', l1, l2, l3⟩
              · rw [l1] at hQ
                exact ⟨fun y => absurd y (by decide), fun _ => hQ 1 _ (Or.inl ⟨rfl, _, j', _, _, rfl, l2, fin M32 w3 j' _ _ l3, l4⟩)⟩
              · rw [l1] at hQ
                exact ⟨fun _ => hQ 0 _ (Or.inr ⟨rfl, j', rfl, l2, l3⟩), fun y => absurd rfl y⟩
            · replace hQ : ∀ r M', ROK f n t b e M0 (some (morW w2, us s (nC w) (Int64.ofNat 0)), j) r M' → Q r M' := fun r M' hh => hQ r M' (by
                show ROK f n t b e M0 (if K j = 14 then _ else _) r M'
                rw [if_neg (show ¬ K j = 14 from hk3)]
                exact hh)
              exact ⟨fun _ => hQ 1 _ (Or.inl ⟨rfl, _, j, _, _, rfl, j2, fin M29 w2 j _ _ h29, hp3⟩), fun y => absurd rfl y⟩
          · replace j1 : pHab K V (sz b e) (nC w) 6 0 (i + 1 + 3) (citW w (nC w) (nm K V 0 100 (i + 1 + 1))) = (none, j) := j1
            rw [j1] at hQ
            exact ⟨fun _ => hQ 0 _ (Or.inr ⟨rfl, j, rfl, j2, j3⟩), fun y => absurd rfl y⟩
        · rw [if_neg (show ¬ K (i + 1 + 2) = 13 from hk2)] at hQ
          exact ⟨fun _ => hQ 0 _ (Or.inr ⟨rfl, _, rfl, by omega, RST_g h21⟩), fun y => absurd rfl y⟩
    · rw [if_neg (show ¬ K (i + 1) = 12 from hk)] at hQ
      exact ⟨fun _ => hQ 0 _ (Or.inr ⟨rfl, _, rfl, hi, RST_g h11⟩), fun y => absurd rfl y⟩
end R2
end
section
/-! A REPUBLIC'S TEXT: the class reads it -/
section ROWS
variable {w w' : RW} {s s' : RS} {c v k k' j a : Nat} {x y : Int32} {M : MM}
theorem up1_cm (h : ¬ k = k') : up1 (up1 w k x) k' y = up1 (up1 w k' y) k x := by
  funext j
  show (if j = k' then y else if j = k then x else w j) = (if j = k then x else if j = k' then y else w j)
  by_cases h1 : j = k
  · have h2 : ¬ j = k' := by omega
    simp only [if_pos h1, if_neg h2]
  · simp only [if_neg h1]
theorem up1_u : up1 (up1 w k x) k y = up1 w k y := by
  funext j
  unfold up1
  by_cases h1 : j = k
  · rw [if_pos h1, if_pos h1]
  · rw [if_neg h1, if_neg h1, if_neg h1]
/-- as the class has it: the length so far, the citizen counted -/
def clR (w : RW) (c v : Nat) : RW := up1 (up1 w (18 + 13 * c + 5) (i32 v)) 0 (i32 (c + 1))
theorem clR_n (hc : c < 10) : nC (clR w c v) = c + 1 := by
  unfold nC clR
  rw [up1_e, ni_i (by omega)]
theorem clR_h (hv : v < 6) : up1 (up1 (clR w c v) (18 + 13 * c + (7 + v)) x) (18 + 13 * c + 5) (i32 (v + 1)) = clR (up1 w (18 + 13 * c + (7 + v)) x) c (v + 1) := by
  unfold clR
  rw [up1_cm (k := 0) (k' := 18 + 13 * c + (7 + v)) (by omega), up1_cm (k := 18 + 13 * c + 5) (k' := 18 + 13 * c + (7 + v)) (by omega), up1_cm (k := 0) (k' := 18 + 13 * c + 5) (by omega), up1_u]
theorem CW_hb {m : Int32} (h : CW M a w s) (hn : nC w ≤ 10) (hc : c < nC w) (hl : cl w c 5 = i32 v) (hv : v < 6) : CW (wi (wi M (a + 5) (6 * c + v) m) (a + 6) c (i32 (v + 1))) a (up1 (up1 w (18 + 13 * c + (7 + v)) m) (18 + 13 * c + 5) (i32 (v + 1))) s := by
  obtain ⟨⟨a0, a1, a2, a3, a4, a5, a6, a7, a8⟩, b1, b2, b3, b4⟩ := h
  have en : nC (up1 (up1 w (18 + 13 * c + (7 + v)) m) (18 + 13 * c + 5) (i32 (v + 1))) = nC w := by unfold nC; rw [up1_n (by omega), up1_n (by omega)]
  have ck : ∀ c' i, c' ≠ c ∨ (i < 5 ∨ i = 6) → i < 13 → cl (up1 (up1 w (18 + 13 * c + (7 + v)) m) (18 + 13 * c + 5) (i32 (v + 1))) c' i = cl w c' i := fun c' i h1 h2 => by
    rw [cl_up (by omega) h2, if_neg (by omega), cl_up (by omega) h2, if_neg (by omega)]
  refine ⟨?_, fun d' hd' => ?_, ?_, fun c' hc' => ?_, ?_⟩
  · unfold CWs
    simp (disch := omega) only [wi_1n, up1_n, a0, a1, a2, a3, a4, a5, a6, a7, a8, and_self]
  · rw [wi_1n (by omega), wi_1n (by omega), up1_n (by omega), up1_n (by omega)]
    exact b1 d' hd'
  · rw [wi_1n (by omega), wi_1n (by omega), en, b2]
    exact bs_congr (fun k' _ => by unfold alv; rw [ck _ _ (by omega) (by omega)])
  · rw [en] at hc'
    by_cases e : c' = c
    · subst e
      obtain ⟨c1, c2, c3, c4, c5, c6, c7, c8⟩ := b3 c' hc'
      refine ⟨?_, ?_, ?_, ?_, ?_, ?_, fun k hk' hl' => ?_, c8⟩
      · rw [ck _ _ (by omega) (by omega), wi_1n (by omega), wi_1n (by omega)]; exact c1
      · rw [ck _ _ (by omega) (by omega), wi_1n (by omega), wi_1n (by omega)]; exact c2
      · rw [ck _ _ (by omega) (by omega), wi_1n (by omega), wi_1n (by omega)]; exact c3
      · rw [ck _ _ (by omega) (by omega), wi_1n (by omega), wi_1n (by omega)]; exact c4
      · rw [cl_up (by omega) (by omega), if_pos ⟨rfl, rfl⟩, wi_1e]
      · rw [ck _ _ (by omega) (by omega), wi_1n (by omega), wi_1n (by omega)]; exact c6
      · rw [cl_up (by omega) (by omega), if_pos ⟨rfl, rfl⟩, i32_i (by omega)] at hl'
        rw [cl_up (by omega) (by omega), if_neg (by omega), cl_up (by omega) (by omega), wi_1n (by omega)]
        by_cases e : k = v
        · subst e
          rw [wi_1e, if_pos ⟨rfl, rfl⟩]
        · rw [wi_1n (by omega), if_neg (by omega)]
          exact c7 k hk' (by rw [hl, i32_i (by omega)]; omega)
    · exact CWc_fr (b3 c' hc') (fun i' _ => by rw [wi_1n (by omega), wi_1n (by omega)]) (fun k' _ => by rw [wi_1n (by omega), wi_1n (by omega)]) rfl (fun i' hi' => ck _ _ (Or.inl e) hi') rfl
  · exact CWl_fr b4 (by rw [wi_1n (by omega), wi_1n (by omega)]) (by rw [wi_1n (by omega), wi_1n (by omega)]) (fun j => by rw [wi_1n (by omega), wi_1n (by omega)]) (by rw [up1_n (by omega), up1_n (by omega)]) (fun k' _ _ => by rw [up1_n (by omega), up1_n (by omega)])
theorem acW_o {c' i : Nat} (hc : c' ≠ c) (hi : i < 13) : cl (clR (citW w c x) c 0) c' i = cl w c' i := by
  unfold clR citW
  rw [cl_lo (by omega), cl_up (by omega) hi, if_neg (by omega), cl_up (by omega) hi, if_neg (by omega), cl_up (by omega) hi, if_neg (by omega), cl_up (by omega) hi, if_neg (by omega)]
  unfold cl zrow
  rw [if_neg (by omega)]
theorem cit_n {i : Nat} (hi : i < 13) : cl (citW w c x) c i = if i = 2 then x else if i = 4 then -1 else if i = 0 then 1 else 0 := by
  unfold citW
  rw [cl_up (by omega) hi]
  by_cases h2 : i = 2
  · rw [if_pos ⟨rfl, h2⟩, if_pos h2]
  · rw [if_neg (by omega), if_neg h2, cl_up (by omega) hi]
    by_cases h4 : i = 4
    · rw [if_pos ⟨rfl, h4⟩, if_pos h4]
    · rw [if_neg (by omega), if_neg h4, cl_up (by omega) hi]
      by_cases h0 : i = 0
      · rw [if_pos ⟨rfl, h0⟩, if_pos h0]
      · rw [if_neg (by omega), if_neg h0]
        unfold cl zrow
        rw [if_pos (by omega)]
theorem acW_n {i : Nat} (hi : i < 13) : cl (clR (citW w c x) c 0) c i = if i = 2 then x else if i = 4 then -1 else if i = 0 then 1 else 0 := by
  unfold clR
  rw [cl_lo (by omega), cl_up (by omega) hi]
  by_cases h5 : i = 5
  · rw [if_pos ⟨rfl, h5⟩, if_neg (by omega), if_neg (by omega), if_neg (by omega)]; rfl
  · rw [if_neg (by omega)]
    exact cit_n hi
theorem cit_k {k : Nat} (hk : k < 18 + 13 * c ∨ 18 + 13 * c + 13 ≤ k) : citW w c x k = w k := by
  unfold citW
  rw [up1_n (by omega), up1_n (by omega), up1_n (by omega)]
  unfold zrow
  rw [if_neg (by omega)]
theorem acW_k {k : Nat} (h0 : k ≠ 0) (hk : k < 18 + 13 * c ∨ 18 + 13 * c + 13 ≤ k) : clR (citW w c x) c 0 k = w k := by
  unfold clR
  rw [up1_n h0, up1_n (by omega), cit_k hk]
theorem c_addC {N : Nat} {Q : Int32 → MM → Prop} (h : CW M a w s) (hw : WF w) (hn : nC w < 10) (hQ : ∀ M', CW M' a (clR (citW w (nC w) x) (nC w) 0) (us s (nC w) (Int64.ofNat 0)) → Eqo (fp_World_addCitizen a) M M' → Q (i32 (nC w)) M') : W_World_addCitizen a x N M Q := by
  obtain ⟨e0, -, ei⟩ := nC_i hw
  refine and_World_addCitizen (Q1 := fun r M' => r = i32 (nC w) ∧ CW M' a (clR (citW w (nC w) x) (nC w) 0) (us s (nC w) (Int64.ofNat 0))) (fun r M' h1 h2 => by rw [h1.1]; exact hQ M' h1.2 h2) ?_ (an_World_addCitizen (Q := fun r M' => Eqo (fp_World_addCitizen a) M M') (fun r M1 h => h))
  unfold W_World_addCitizen
  rw [h.1.1, ei]
  refine ⟨fun _ => ⟨rfl, ?_⟩, fun hbad => absurd ((i32_lt (k := 10) (by omega) (by omega)).mpr hn) hbad⟩
  rw [wi_1n (by omega), h.2.2.1, ni_i (show nC w < 2147483648 by omega), i32_s]
  generalize hc : nC w = c at *
  obtain ⟨⟨a0, a1, a2, a3, a4, a5, a6, a7, a8⟩, q1, q2, q3, q4, q5, q6⟩ := h
  have b1 := clR_n (w := citW w c x) (v := 0) hn
  refine ⟨⟨?_, ?_, ?_, ?_, ?_, ?_, ?_, ?_, ?_⟩, fun d hd => ?_, ?_, fun c' hc' => ?_, ?_, ?_, fun k q hk hl hq => ?_⟩
  · simp (disch := omega) only [wj_1, wi_1n, wi_1e]
    unfold clR
    rw [up1_e]
  · rw [acW_k (by omega) (by omega)]
    simp (disch := omega) only [wj_1, wi_1n]
    exact a1
  · rw [acW_k (by omega) (by omega)]
    simp (disch := omega) only [wj_1, wi_1n]
    exact a2
  · rw [acW_k (by omega) (by omega)]
    simp (disch := omega) only [wj_1, wi_1n]
    exact a3
  · rw [acW_k (by omega) (by omega)]
    simp (disch := omega) only [wj_1, wi_1n]
    exact a4
  · rw [acW_k (by omega) (by omega)]
    simp (disch := omega) only [wj_1, wi_1n]
    exact a5
  · rw [acW_k (by omega) (by omega)]
    simp (disch := omega) only [wj_1, wi_1n]
    exact a6
  · rw [acW_k (by omega) (by omega)]
    simp (disch := omega) only [wj_1, wi_1n]
    exact a7
  · rw [acW_k (by omega) (by omega)]
    simp (disch := omega) only [wj_1, wi_1n]
    exact a8
  · rw [acW_k (by omega) (by omega)]
    simp (disch := omega) only [wj_1, wi_1n]
    exact q1 d hd
  · rw [b1, bs_s]
    simp (disch := omega) only [wj_1, wi_1n, wi_1e]
    rw [if_pos (by unfold alv; rw [acW_n (by omega)]; rfl), bs_congr (P := alv (clR (citW w c x) c 0)) (P' := alv w) (fun k hk => by unfold alv; rw [acW_o (by omega) (by omega)])]
  · rw [b1] at hc'
    by_cases e : c' = c
    · subst e
      refine ⟨?_, ?_, ?_, ?_, ?_, ?_, fun k hk hl => ?_, ?_⟩
      · rw [acW_n (by omega)]
        simp (disch := omega) only [wj_1, wi_1n, wi_1e]
        rfl
      · rw [acW_n (by omega)]
        simp (disch := omega) only [wj_1, wi_1n, wi_1e]
        rfl
      · rw [acW_n (by omega)]
        simp (disch := omega) only [wj_1, wi_1n, wi_1e]
        rfl
      · rw [acW_n (by omega)]
        simp (disch := omega) only [wj_1, wi_1n, wi_1e]
        rfl
      · rw [acW_n (by omega)]
        simp (disch := omega) only [wj_1, wi_1n, wi_1e]
        rfl
      · rw [acW_n (by omega)]
        simp (disch := omega) only [wj_1, wi_1n, wi_1e]
        rfl
      · rw [acW_n (by omega)] at hl
        exact absurd hl (by show ¬ (k : Int) < (0 : Int32).toInt; rw [show (0 : Int32).toInt = 0 from rfl]; omega)
      · rw [wj_2e]
        unfold us
        rw [if_pos rfl]
    · refine CWc_fr (q3 c' (by omega)) (fun i hi => ?_) (fun k hk => ?_) ?_ (fun i hi => acW_o (by omega) hi) ?_
      · simp (disch := omega) only [wj_1, wi_1n]
      · simp (disch := omega) only [wj_1, wi_1n]
      · rw [wj_2n (by omega)]
        rfl
      · unfold us
        rw [if_neg e]
  · rw [acW_k (by omega) (by omega)]
    simp (disch := omega) only [wj_1, wi_1n]
    exact q4
  · simp (disch := omega) only [wj_1, wi_1n]
    exact q5
  · rw [acW_k (by omega) (by omega)] at hl
    rw [acW_k (by omega) (by omega)]
    simp (disch := omega) only [wj_1, wi_1n]
    exact q6 k q hk hl hq
end ROWS
end
