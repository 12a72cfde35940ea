/-! THE CLASS READS AN ATOM, A CONDITION -/
def RDC (t : Nat) (K V : Nat → Int32) (e : Nat → Nat) (rd : Int32 → Nat → MM → (Int32 → MM → Prop) → Prop) (sp : Nat → Option BF × Nat) (d : Int32) (A : Nat) : Prop := ∀ N M i s u Q, TKc M t K V i → i ≤ t → M.1 13 6 = i32 s → M.1 13 8 = i32 (5 * u) → 2 * s ≤ pe e i → 3 * u + 3 ≤ pe e i → CDS t K V e A i s u M (sp i) Q → rd d N M Q
def atomC (ra rc : Int32 → Nat → MM → (Int32 → MM → Prop) → Prop) (p1 : Int32) (N : Nat) (M : MM) (Q : Int32 → MM → Prop) : Prop :=
  (((V_Text_kind  M) = 6 →
    W_Text_goOn  N M (fun M3 =>
      W_Law_addStep 13 (-1) N M3 (fun M5 =>
        Q 1 M5))) ∧
   (¬ (V_Text_kind  M) = 6 →
    (((V_Text_kind  M) = 5 →
      ((p1 < 6 →
        W_Text_goOn  N M (fun M9 =>
          (((V_Text_kind  M) = 5 →
            ra (p1 + 1) N M9 (fun r11 M12 =>
              ((r11 = 0 →
                Q 0 M12) ∧
               (¬ r11 = 0 →
                W_Law_addStep 13 (-2) N M12 (fun M15 =>
                  Q 1 M15))))) ∧
           (¬ (V_Text_kind  M) = 5 →
            rc (p1 + 1) N M9 (fun r16 M17 =>
              ((r16 = 0 →
                Q 0 M17) ∧
               (¬ r16 = 0 →
                (((V_Text_kind  M17) = 41 →
                  W_Text_goOn  N M17 (fun M21 =>
                    Q 1 M21)) ∧
                 (¬ (V_Text_kind  M17) = 41 →
                  Q 0 M17))))))))) ∧
       (¬ p1 < 6 →
        Q 0 M))) ∧
     (¬ (V_Text_kind  M) = 5 →
      (((V_Text_kind  M) = 40 →
        ((p1 < 6 →
          W_Text_goOn  N M (fun M25 =>
            (((V_Text_kind  M) = 5 →
              ra (p1 + 1) N M25 (fun r27 M28 =>
                ((r27 = 0 →
                  Q 0 M28) ∧
                 (¬ r27 = 0 →
                  W_Law_addStep 13 (-2) N M28 (fun M31 =>
                    Q 1 M31))))) ∧
             (¬ (V_Text_kind  M) = 5 →
              rc (p1 + 1) N M25 (fun r32 M33 =>
                ((r32 = 0 →
                  Q 0 M33) ∧
                 (¬ r32 = 0 →
                  (((V_Text_kind  M33) = 41 →
                    W_Text_goOn  N M33 (fun M37 =>
                      Q 1 M37)) ∧
                   (¬ (V_Text_kind  M33) = 41 →
                    Q 0 M33))))))))) ∧
         (¬ p1 < 6 →
          Q 0 M))) ∧
       (¬ (V_Text_kind  M) = 40 →
        W_LawReader_readComparison  N M (fun r38 M39 =>
          Q r38 M39)))))))
def bCn (ra : Int32 → Nat → MM → (Int32 → MM → Prop) → Prop) (p1 : Int32) (Q : Int32 → MM → Prop) (N : Nat) (ih : Int32 → Int32 → Int32 → MM → Prop) (v2 : Int32) (v3 : Int32) (v4 : Int32) (M : MM) : Prop :=
  ((v4 < 400 →
    ra p1 N M (fun r2 M3 =>
      ((r2 = 0 →
        Q 0 M3) ∧
       (¬ r2 = 0 →
        ((v2 = 0 →
          (((V_Text_kind  M3) = 4 →
            W_Text_goOn  N M3 (fun M9 =>
              ih 1 v3 (v4 + 1) M9)) ∧
           (¬ (V_Text_kind  M3) = 4 →
            ((v3 = 0 →
              (((V_Text_kind  M3) = 3 →
                W_Text_goOn  N M3 (fun M15 =>
                  ih 0 1 (v4 + 1) M15)) ∧
               (¬ (V_Text_kind  M3) = 3 →
                Q 1 M3))) ∧
             (¬ v3 = 0 →
              W_Law_addStep 13 (-4) N M3 (fun M18 =>
                (((V_Text_kind  M18) = 3 →
                  W_Text_goOn  N M18 (fun M22 =>
                    ih 0 1 (v4 + 1) M22)) ∧
                 (¬ (V_Text_kind  M18) = 3 →
                  Q 1 M18)))))))) ∧
         (¬ v2 = 0 →
          W_Law_addStep 13 (-3) N M3 (fun M25 =>
            (((V_Text_kind  M25) = 4 →
              W_Text_goOn  N M25 (fun M29 =>
                ih 1 v3 (v4 + 1) M29)) ∧
             (¬ (V_Text_kind  M25) = 4 →
              ((v3 = 0 →
                (((V_Text_kind  M25) = 3 →
                  W_Text_goOn  N M25 (fun M35 =>
                    ih 0 1 (v4 + 1) M35)) ∧
                 (¬ (V_Text_kind  M25) = 3 →
                  Q 1 M25))) ∧
               (¬ v3 = 0 →
                W_Law_addStep 13 (-4) N M25 (fun M38 =>
                  (((V_Text_kind  M38) = 3 →
                    W_Text_goOn  N M38 (fun M42 =>
                      ih 0 1 (v4 + 1) M42)) ∧
                   (¬ (V_Text_kind  M38) = 3 →
                    Q 1 M38)))))))))))))) ∧
   (¬ v4 < 400 →
    Q 0 M))
def lpC (ra : Int32 → Nat → MM → (Int32 → MM → Prop) → Prop) (p1 : Int32) (Q : Int32 → MM → Prop) : Nat → Int32 → Int32 → Int32 → MM → Prop
  | 0, _, _, _, _ => True
  | N + 1, v2, v3, v4, M => bCn ra p1 Q N (lpC ra p1 Q N) v2 v3 v4 M
theorem lpC_I {ra : Int32 → Nat → MM → (Int32 → MM → Prop) → Prop} {p1 : Int32} {Q : Int32 → MM → Prop} (P : Int32 → Int32 → Int32 → MM → Prop) (h : ∀ N ih v2 v3 v4 M, (∀ v2 v3 v4 M', P v2 v3 v4 M' → ih v2 v3 v4 M') → P v2 v3 v4 M → bCn ra p1 Q N ih v2 v3 v4 M) : ∀ N v2 v3 v4 M, P v2 v3 v4 M → lpC ra p1 Q N v2 v3 v4 M
  | 0, _, _, _, _, _ => trivial
  | N + 1, v2, v3, v4, M, hP => h N _ v2 v3 v4 M (fun v2 v3 v4 M' hM' => lpC_I P h N v2 v3 v4 M' hM') hP
theorem CMt_sn {A s s' u : Nat} {M : MM} {st : Int32} {Y Z : Int32 → Int32 → Int32 → Int32 → Nat → Nat} (h : CMt A M s s' u Y) (hl : s ≤ s') (hs : M.1 16 s' = st) (hc : ∀ tm pl wh kn dy X, X < A → cst tm pl wh kn dy st (i32 (Y pl wh kn dy X)) = i32 (Z pl wh kn dy X)) : CMt A M s (s' + 1) u Z := fun sp tm a1 a2 pl wh kn dy hr X hX => by
  rw [show s' + 1 - s = (s' - s) + 1 by omega, crun_app, h sp tm (fun x hx => a1 x (by omega)) a2 pl wh kn dy hr X hX, show s + (s' - s) = s' by omega]
  show cst tm pl wh kn dy (sp s') _ = _
  rw [a1 s' (by omega), hs]
  exact hc tm pl wh kn dy X hX
def oY (o : Option BF) (pl wh kn dy : Int32) (X : Nat) : Nat := match o with
  | none => X
  | some c => 2 * X + (c pl wh kn dy).toNat
def jY (o a : Option BF) (pl wh kn dy : Int32) (X : Nat) : Nat := oY a pl wh kn dy (oY o pl wh kn dy X)
theorem bt2 (c : Bool) : c.toNat ≤ 1 := by cases c <;> decide
theorem oY_b {o : Option BF} {pl wh kn dy : Int32} {X : Nat} : oY o pl wh kn dy X ≤ 2 * X + 1 := by
  unfold oY
  cases o with
  | none => show X ≤ _; omega
  | some c =>
    have := bt2 (c pl wh kn dy)
    show 2 * X + (c pl wh kn dy).toNat ≤ _
    omega
section CA
variable {f : BY} {n t : Nat} {K V : Nat → Int32} {b e : Nat → Nat}
theorem w6 : wln 6 = 5 ∧ wln 5 = 3 ∧ wln 4 = 3 ∧ wln 3 = 2 ∧ wln 2 = 2 ∧ wln 1 = 6 ∧ wln 0 = 5 := by decide +kernel
theorem c_feast {N A i s u : Nat} {M : MM} {Q : Int32 → MM → Prop} (hn : n ≤ 400) (hT : TKS f n t K V b e) (h : TKc M t K V i) (hi : i ≤ t) (hk : K i = 6) (h6 : M.1 13 6 = i32 s) (h8 : M.1 13 8 = i32 (5 * u)) (hs : 2 * s ≤ pe e i) {res : Option BF × Nat} (hres : res = (some (fun _ _ _ dy => decide (rm dy 7 = 0)), i + 1)) (hQ : CDS t K V e A i s u M res Q) : W_Text_goOn N M (fun M3 => W_Law_addStep 13 (-1) N M3 (fun M5 => Q 1 M5)) := by
  have hlt := tk_lt hT hi (by rw [hk]; decide)
  have hw := pe_w (k := 6) (by omega) hT hi hk
  rw [w6.1] at hw
  have hpn := pe_n hT (show i + 1 ≤ t by omega)
  unfold W_Text_goOn
  refine c_step (s := s) h6 (by omega) (fun M' a1 a2 a3 a4 => ?_)
  exact hQ.1 _ (i + 1) hres (by omega) (by omega) M' (s + 1) u (TKc_e (TKc_g h) a4 rfl) a1 (by rw [eq1 a4 (b := 13) (k := 8) rfl]; exact h8) (by omega) (by omega) (by omega) (by omega) (CMt_1 a2 (fun tm ht2 pl wh kn dy hr X hX => cst_f)) (fun x hx => by rw [a3 x (by omega)]; rfl) (fun x hx => by rw [eqb a4 (lo := 17) (hi := 17) rfl (Nat.le_refl _) (Nat.le_refl _)]; rfl)
theorem c_atom0 {F A : Nat} (hn : n ≤ 400) (hT : TKS f n t K V b e) : RDC t K V e W_LawReader_readAtom_369 (pAtom K V F 0) (i32 6) A := by
  intro N M i s u Q h hi h6 h8 hs hu hQ
  have ht := hT.1
  unfold pAtom at hQ
  unfold W_LawReader_readAtom_369
  rw [kd h hi ht]
  refine ⟨fun hk => ?_, fun hk => ⟨fun hk5 => ⟨fun x => absurd x (by decide), fun _ => ?_⟩, fun hk5 => ⟨fun hk40 => ⟨fun x => absurd x (by decide), fun _ => ?_⟩, fun hk40 => ?_⟩⟩⟩
  · rw [if_neg (by rw [hk]; decide), if_neg (by rw [hk]; decide), if_pos hk] at hQ
    exact c_feast hn hT h hi hk h6 h8 hs rfl hQ
  · rw [if_neg (by rw [hk5]; decide), if_pos hk5] at hQ
    exact hQ.2 i rfl hi M h
  · rw [if_pos hk40] at hQ
    exact hQ.2 i rfl hi M h
  · rw [if_neg hk40, if_neg hk5, if_neg hk] at hQ
    exact c_cmp hn hT h hi h6 h8 hs hu hQ
theorem c_atomS {ra rc : Int32 → Nat → MM → (Int32 → MM → Prop) → Prop} {F k d A A' : Nat} (hn : n ≤ 400) (hT : TKS f n t K V b e) (hd : d < 6) (hA : A ≤ A') (hc : RDC t K V e rc (pCond K V F k) (i32 (d + 1)) A) (ha : RDC t K V e ra (pAtom K V F k) (i32 (d + 1)) A') : RDC t K V e (atomC ra rc) (pAtom K V F (k + 1)) (i32 d) A := by
  intro N M i s u Q h hi h6 h8 hs hu hQ
  have ht := hT.1
  have hd6 : i32 d < 6 := (i32_lt (k := 6) (by omega) (by omega)).mpr hd
  unfold pAtom at hQ
  unfold atomC
  rw [kd h hi ht, i32_s]
  refine ⟨fun hk => ?_, fun hk => ⟨fun hk5 => ⟨fun _ => ?_, fun x => absurd hd6 x⟩, fun hk5 => ⟨fun hk40 => ⟨fun _ => ?_, fun x => absurd hd6 x⟩, fun hk40 => ?_⟩⟩⟩
  · rw [if_neg (by rw [hk]; decide), if_neg (by rw [hk]; decide), if_pos hk] at hQ
    exact c_feast hn hT h hi hk h6 h8 hs rfl hQ
  · rw [if_neg (by rw [hk5]; decide), if_pos hk5] at hQ
    have hlt := tk_lt hT hi (by rw [hk5]; decide)
    have hw := pe_w (k := 5) (by omega) hT hi hk5
    rw [w6.2.1] at hw
    unfold W_Text_goOn
    refine ⟨fun _ => ?_, fun x => absurd hk5 x⟩
    refine ha N _ (i + 1) s u _ (TKc_g h) (by omega) h6 h8 (by omega) (by omega) ⟨fun c j hj hjt hij M' s' u' t1 a6 a8 l1 l2 l3 l4 g1 f1 f2 => ?_, fun j hj hjt M' t1 => ?_⟩
    · refine ⟨fun x => absurd x (by decide), fun _ => ?_⟩
      rw [hj] at hQ
      dsimp only at hQ
      have hpn := pe_n hT hjt
      refine c_step (s := s') a6 (by omega) (fun M3 b1 b2 b3 b4 => ?_)
      have e17 : M3.1 17 = M'.1 17 := eqb b4 (lo := 17) (hi := 17) rfl (Nat.le_refl _) (Nat.le_refl _)
      refine hQ.1 _ j rfl hjt (by omega) M3 (s' + 1) u' (TKc_e t1 b4 rfl) b1 (by rw [eq1 b4 (b := 13) (k := 8) rfl]; exact a8) (by omega) (by omega) (by omega) (by omega) ?_ (fun x hx => by rw [b3 x (by omega)]; exact f1 x hx) (fun x hx => by rw [e17]; exact f2 x hx)
      exact CMt_sn (CMt_cg (CMt_le g1 hA) (Nat.le_refl _) (fun x hx => b3 x (by omega)) (fun x hx => by rw [e17])) l1 b2 (fun tm pl wh kn dy X hX => cst_n)
    · refine ⟨fun _ => ?_, fun x => absurd rfl x⟩
      rw [hj] at hQ
      exact hQ.2 j rfl hjt M' t1
  · rw [if_pos hk40] at hQ
    have hlt := tk_lt hT hi (by rw [hk40]; decide)
    have hw := pe_1 hT hlt
    unfold W_Text_goOn
    refine ⟨fun x => absurd x hk5, fun _ => ?_⟩
    refine hc N _ (i + 1) s u _ (TKc_g h) (by omega) h6 h8 (by omega) (by omega) ⟨fun c j hj hjt hij M' s' u' t1 a6 a8 l1 l2 l3 l4 g1 f1 f2 => ?_, fun j hj hjt M' t1 => ?_⟩
    · refine ⟨fun x => absurd x (by decide), fun _ => ?_⟩
      rw [show pJoin K (pAtom K V F k) F none none (i + 1) = (some c, j) from hj] at hQ
      dsimp only at hQ
      rw [kd t1 hjt ht]
      refine ⟨fun hk41 => ?_, fun hk41 => ?_⟩
      · rw [if_pos hk41] at hQ
        have hlt2 := tk_lt hT hjt (by rw [hk41]; decide)
        have hw2 := pe_1 hT hlt2
        exact hQ.1 c (j + 1) rfl (by omega) (by omega) _ s' u' (TKc_g t1) a6 a8 l1 l2 (by omega) (by omega) g1 f1 f2
      · rw [if_neg hk41] at hQ
        exact hQ.2 j rfl hjt M' t1
    · refine ⟨fun _ => ?_, fun x => absurd rfl x⟩
      rw [show pJoin K (pAtom K V F k) F none none (i + 1) = (none, j) from hj] at hQ
      exact hQ.2 j rfl hjt M' t1
  · rw [if_neg hk40, if_neg hk5, if_neg hk] at hQ
    exact c_cmp hn hT h hi h6 h8 hs hu hQ
theorem c_cond {ra : Int32 → Nat → MM → (Int32 → MM → Prop) → Prop} {at_ : Nat → Option BF × Nat} {d : Int32} {F A A' : Nat} (hn : n ≤ 400) (hT : TKS f n t K V b e) (hF : 400 < F) (hA : 4 * A ≤ A') (hA2 : A ≤ 2 ^ 28) (hra : RDC t K V e ra at_ d A') : RDC t K V e (fun p1 N M Q => lpC ra p1 Q N 0 0 0 M) (fun i => pJoin K at_ F none none i) d A := by
  intro N M i s u Q h hi h6 h8 hs hu hQ
  have ht := hT.1
  obtain ⟨m0, rfl⟩ : ∃ m, F = m + 1 := ⟨F - 1, by omega⟩
  obtain ⟨hQ1, hQ0⟩ := hQ
  dsimp only at hQ1 hQ0
  refine lpC_I (fun v2 v3 v4 M' => ∃ m o a s' u' i' cnt, v2 = b32 a.isSome ∧ v3 = b32 o.isSome ∧ v4 = i32 cnt ∧ 2 * cnt + i ≤ i' ∧ i' ≤ t ∧ t ≤ i' + m ∧ pJoin K at_ (m0 + 1) none none i = pJoin K at_ (m + 1) o a i' ∧ TKc M' t K V i' ∧ M'.1 13 6 = i32 s' ∧ M'.1 13 8 = i32 (5 * u') ∧ s ≤ s' ∧ u ≤ u' ∧ 2 * s' + 2 * (a.isSome.toNat + o.isSome.toNat) + pe e i ≤ 2 * s + pe e i' ∧ 3 * u' + pe e i ≤ 3 * u + pe e i' ∧ CMt A M' s s' u' (jY o a) ∧ (∀ x, x < s → M'.1 16 x = M.1 16 x) ∧ (∀ x, x < 5 * u → M'.1 17 x = M.1 17 x)) (fun N ih v2 v3 v4 M' hih hv => ?_) N 0 0 0 M ⟨m0, none, none, s, u, i, 0, rfl, rfl, rfl, by omega, hi, by omega, rfl, h, h6, h8, Nat.le_refl _, Nat.le_refl _, by show 2 * s + 2 * (0 + 0) + pe e i ≤ _; omega, Nat.le_refl _, CMt_0, fun _ _ => rfl, fun _ _ => rfl⟩
  obtain ⟨m, o, a, s', u', i', cnt, rfl, rfl, rfl, k1, k2, k3, k4, k5, k6, k7, k8, k9, k10, k11, k12, k13, k14⟩ := hv
  unfold bCn
  refine ⟨fun _ => ?_, fun hx => absurd ((i32_lt (k := 400) (by omega) (by omega)).mpr (by omega)) hx⟩
  refine hra N M' i' s' u' _ k5 k2 k6 k7 (by omega) (by omega) ⟨fun c j hj hjt hij M3 s3 u3 t3 a6 a8 l1 l2 l3 l4 g3 f3 f4 => ?_, fun j hj hjt M3 t3 => ?_⟩
  · refine ⟨fun x => absurd x (by decide), fun _ => ?_⟩
    have hjs : pJoin K at_ (m0 + 1) none none i = if K j = 4 then pJoin K at_ m o (some (jn and a c)) (j + 1) else if K j = 3 then pJoin K at_ m (some (jn or o (jn and a c))) none (j + 1) else (some (jn or o (jn and a c)), j) := k4.trans (pJoin_s hj)
    have hpn := pe_n hT hjt
    -- the truth that the atom leaves
    have G : CMt A M3 s s3 u3 (fun pl wh kn dy X => 2 * jY o a pl wh kn dy X + (c pl wh kn dy).toNat) := CMt_tr (CMt_cg k12 (Nat.le_refl _) f3 f4) g3 k8 l1 l2 (fun pl wh kn dy X hX => by
      have h1 := oY_b (o := a) (pl := pl) (wh := wh) (kn := kn) (dy := dy) (X := oY o pl wh kn dy X)
      have h2 := oY_b (o := o) (pl := pl) (wh := wh) (kn := kn) (dy := dy) (X := X)
      show oY a pl wh kn dy (oY o pl wh kn dy X) < A'
      omega)
    have F16 : ∀ x, x < s → M3.1 16 x = M.1 16 x := fun x hx => (f3 x (by omega)).trans (k13 x hx)
    have F17 : ∀ x, x < 5 * u → M3.1 17 x = M.1 17 x := fun x hx => (f4 x (by omega)).trans (k14 x hx)
    -- what follows the ands
    have fin : ∀ (M4 : MM) (s4 : Nat) (q : BF), TKc M4 t K V j → M4.1 13 6 = i32 s4 → M4.1 13 8 = i32 (5 * u3) → s ≤ s4 → 2 * s4 + pe e i ≤ 2 * s + pe e j → CMt A M4 s s4 u3 (jY none (some q)) → (∀ x, x < s → M4.1 16 x = M.1 16 x) → (∀ x, x < 5 * u → M4.1 17 x = M.1 17 x) → ¬ K j = 4 → q = jn or o (jn and a c) → ((((V_Text_kind M4) = 3 → W_Text_goOn N M4 (fun M22 => ih 0 1 (i32 cnt + 1) M22)) ∧ (¬ (V_Text_kind M4) = 3 → Q 1 M4))) := fun M4 s4 q t4 b6 b8 n1 n2 g4 r16 r17 hk4 hq => by
      rw [if_neg hk4] at hjs
      rw [kd t4 hjt ht]
      refine ⟨fun hk3 => ?_, fun hk3 => ?_⟩
      · rw [if_pos hk3] at hjs
        have hlt := tk_lt hT hjt (by rw [hk3]; decide)
        have hw := pe_w (k := 3) (by omega) hT hjt hk3
        rw [w6.2.2.2.1] at hw
        obtain ⟨m2, rfl⟩ : ∃ m2, m = m2 + 1 := ⟨m - 1, by omega⟩
        unfold W_Text_goOn
        exact hih _ _ _ _ ⟨m2, some q, none, s4, u3, j + 1, cnt + 1, rfl, rfl, i32_s cnt, by omega, by omega, by omega, by rw [hjs, hq], TKc_g t4, b6, b8, n1, by omega, by show 2 * s4 + 2 * (0 + 1) + pe e i ≤ _; omega, by omega, g4, r16, r17⟩
      · rw [if_neg hk3] at hjs
        exact hQ1 q j (by rw [hjs, hq]) hjt (by omega) M4 s4 u3 t4 b6 b8 n1 (by omega) n2 (by omega) g4 r16 r17
    have aft : ∀ (M4 : MM) (s4 : Nat), TKc M4 t K V j → M4.1 13 6 = i32 s4 → M4.1 13 8 = i32 (5 * u3) → s ≤ s4 → 2 * s4 + 2 * o.isSome.toNat + pe e i ≤ 2 * s + pe e j → CMt A M4 s s4 u3 (jY o (some (jn and a c))) → (∀ x, x < s → M4.1 16 x = M.1 16 x) → (∀ x, x < 5 * u → M4.1 17 x = M.1 17 x) → (((V_Text_kind  M4) = 4 →
              W_Text_goOn  N M4 (fun M29 =>
                ih 1 (b32 o.isSome) (i32 cnt + 1) M29)) ∧
             (¬ (V_Text_kind  M4) = 4 →
              ((b32 o.isSome = 0 →
                (((V_Text_kind  M4) = 3 →
                  W_Text_goOn  N M4 (fun M35 =>
                    ih 0 1 (i32 cnt + 1) M35)) ∧
                 (¬ (V_Text_kind  M4) = 3 →
                  Q 1 M4))) ∧
               (¬ b32 o.isSome = 0 →
                W_Law_addStep 13 (-4) N M4 (fun M38 =>
                  (((V_Text_kind  M38) = 3 →
                    W_Text_goOn  N M38 (fun M42 =>
                      ih 0 1 (i32 cnt + 1) M42)) ∧
                   (¬ (V_Text_kind  M38) = 3 →
                    Q 1 M38))))))) := fun M4 s4 t4 b6 b8 n1 n2 g4 r16 r17 => by
      refine ⟨fun hk4 => ?_, fun hk4 => ?_⟩
      · rw [kd t4 hjt ht] at hk4
        rw [if_pos hk4] at hjs
        have hlt := tk_lt hT hjt (by rw [hk4]; decide)
        have hw := pe_w (k := 4) (by omega) hT hjt hk4
        rw [w6.2.2.1] at hw
        obtain ⟨m2, rfl⟩ : ∃ m2, m = m2 + 1 := ⟨m - 1, by omega⟩
        unfold W_Text_goOn
        exact hih _ _ _ _ ⟨m2, o, some (jn and a c), s4, u3, j + 1, cnt + 1, rfl, rfl, i32_s cnt, by omega, by omega, by omega, hjs, TKc_g t4, b6, b8, n1, by omega, by show 2 * s4 + 2 * (1 + o.isSome.toNat) + pe e i ≤ _; omega, by omega, g4, r16, r17⟩
      · rw [kd t4 hjt ht] at hk4
        cases o with
        | none =>
          refine ⟨fun _ => fin M4 s4 _ t4 b6 b8 n1 (by have : 2 * s4 + 2 * 0 + pe e i ≤ 2 * s + pe e j := n2; omega) g4 r16 r17 hk4 rfl, fun x => absurd rfl x⟩
        | some o0 =>
          refine ⟨fun x => absurd (show (1 : Int32) = 0 from x) (by decide), fun _ => ?_⟩
          have n2' : 2 * s4 + 2 * 1 + pe e i ≤ 2 * s + pe e j := n2
          refine c_step (s := s4) b6 (by omega) (fun M5 d1 d2 d3 d4 => ?_)
          have e17 : M5.1 17 = M4.1 17 := eqb d4 (lo := 17) (hi := 17) rfl (Nat.le_refl _) (Nat.le_refl _)
          refine fin M5 (s4 + 1) (jn or (some o0) (jn and a c)) (TKc_e t4 d4 rfl) d1 (by rw [eq1 d4 (b := 13) (k := 8) rfl]; exact b8) (by omega) (by omega) ?_ (fun x hx => by rw [d3 x (by omega)]; exact r16 x hx) (fun x hx => by rw [e17]; exact r17 x hx) hk4 rfl
          exact CMt_sn (CMt_cg g4 (Nat.le_refl _) (fun x hx => d3 x (by omega)) (fun x hx => by rw [e17])) n1 d2 (fun tm pl wh kn dy X hX => cst_o (by omega))
    cases a with
    | none =>
      have k10' : 2 * s' + 2 * (0 + o.isSome.toNat) + pe e i ≤ 2 * s + pe e i' := k10
      exact ⟨fun _ => aft M3 s3 t3 a6 a8 (by omega) (by omega) G F16 F17, fun x => absurd rfl x⟩
    | some a0 =>
      have k10' : 2 * s' + 2 * (1 + o.isSome.toNat) + pe e i ≤ 2 * s + pe e i' := k10
      refine ⟨fun x => absurd (show (1 : Int32) = 0 from x) (by decide), fun _ => ?_⟩
      refine c_step (s := s3) a6 (by omega) (fun M5 d1 d2 d3 d4 => ?_)
      have e17 : M5.1 17 = M3.1 17 := eqb d4 (lo := 17) (hi := 17) rfl (Nat.le_refl _) (Nat.le_refl _)
      refine aft M5 (s3 + 1) (TKc_e t3 d4 rfl) d1 (by rw [eq1 d4 (b := 13) (k := 8) rfl]; exact a8) (by omega) (by omega) ?_ (fun x hx => by rw [d3 x (by omega)]; exact F16 x hx) (fun x hx => by rw [e17]; exact F17 x hx)
      refine CMt_sn (CMt_cg G (Nat.le_refl _) (fun x hx => d3 x (by omega)) (fun x hx => by rw [e17])) (by omega) d2 (fun tm pl wh kn dy X hX => ?_)
      refine cst_a (X := oY o pl wh kn dy X) ?_
      have := oY_b (o := o) (pl := pl) (wh := wh) (kn := kn) (dy := dy) (X := X)
      omega
  · refine ⟨fun _ => hQ0 j ?_ hjt M3 t3, fun x => absurd rfl x⟩
    rw [k4]
    exact pJoin_n hj
/-! seven levels -/
theorem lpC_368 : W_LawReader_readCondition_368 = fun p1 N M Q => lpC W_LawReader_readAtom_369 p1 Q N 0 0 0 M := by
  have key : ∀ p1 Q N, W_LawReader_readCondition_368_7 p1 Q N = lpC W_LawReader_readAtom_369 p1 Q N := fun p1 Q N => by
    induction N with
    | zero => rfl
    | succ N ih =>
      funext v2 v3 v4 M
      show B_LawReader_readCondition_368_7 p1 Q N (W_LawReader_readCondition_368_7 p1 Q N) v2 v3 v4 M = _
      rw [ih]
      rfl
  funext p1 N M Q
  unfold W_LawReader_readCondition_368
  rw [key]
theorem lpC_366 : W_LawReader_readCondition_366 = fun p1 N M Q => lpC W_LawReader_readAtom_367 p1 Q N 0 0 0 M := by
  have key : ∀ p1 Q N, W_LawReader_readCondition_366_7 p1 Q N = lpC W_LawReader_readAtom_367 p1 Q N := fun p1 Q N => by
    induction N with
    | zero => rfl
    | succ N ih =>
      funext v2 v3 v4 M
      show B_LawReader_readCondition_366_7 p1 Q N (W_LawReader_readCondition_366_7 p1 Q N) v2 v3 v4 M = _
      rw [ih]
      rfl
  funext p1 N M Q
  unfold W_LawReader_readCondition_366
  rw [key]
theorem lpC_364 : W_LawReader_readCondition_364 = fun p1 N M Q => lpC W_LawReader_readAtom_365 p1 Q N 0 0 0 M := by
  have key : ∀ p1 Q N, W_LawReader_readCondition_364_7 p1 Q N = lpC W_LawReader_readAtom_365 p1 Q N := fun p1 Q N => by
    induction N with
    | zero => rfl
    | succ N ih =>
      funext v2 v3 v4 M
      show B_LawReader_readCondition_364_7 p1 Q N (W_LawReader_readCondition_364_7 p1 Q N) v2 v3 v4 M = _
      rw [ih]
      rfl
  funext p1 N M Q
  unfold W_LawReader_readCondition_364
  rw [key]
theorem lpC_362 : W_LawReader_readCondition_362 = fun p1 N M Q => lpC W_LawReader_readAtom_363 p1 Q N 0 0 0 M := by
  have key : ∀ p1 Q N, W_LawReader_readCondition_362_7 p1 Q N = lpC W_LawReader_readAtom_363 p1 Q N := fun p1 Q N => by
    induction N with
    | zero => rfl
    | succ N ih =>
      funext v2 v3 v4 M
      show B_LawReader_readCondition_362_7 p1 Q N (W_LawReader_readCondition_362_7 p1 Q N) v2 v3 v4 M = _
      rw [ih]
      rfl
  funext p1 N M Q
  unfold W_LawReader_readCondition_362
  rw [key]
theorem lpC_360 : W_LawReader_readCondition_360 = fun p1 N M Q => lpC W_LawReader_readAtom_361 p1 Q N 0 0 0 M := by
  have key : ∀ p1 Q N, W_LawReader_readCondition_360_7 p1 Q N = lpC W_LawReader_readAtom_361 p1 Q N := fun p1 Q N => by
    induction N with
    | zero => rfl
    | succ N ih =>
      funext v2 v3 v4 M
      show B_LawReader_readCondition_360_7 p1 Q N (W_LawReader_readCondition_360_7 p1 Q N) v2 v3 v4 M = _
      rw [ih]
      rfl
  funext p1 N M Q
  unfold W_LawReader_readCondition_360
  rw [key]
theorem lpC_358 : W_LawReader_readCondition_358 = fun p1 N M Q => lpC W_LawReader_readAtom_359 p1 Q N 0 0 0 M := by
  have key : ∀ p1 Q N, W_LawReader_readCondition_358_7 p1 Q N = lpC W_LawReader_readAtom_359 p1 Q N := fun p1 Q N => by
    induction N with
    | zero => rfl
    | succ N ih =>
      funext v2 v3 v4 M
      show B_LawReader_readCondition_358_7 p1 Q N (W_LawReader_readCondition_358_7 p1 Q N) v2 v3 v4 M = _
      rw [ih]
      rfl
  funext p1 N M Q
  unfold W_LawReader_readCondition_358
  rw [key]
theorem lpC_t : W_LawReader_readCondition = fun p1 N M Q => lpC W_LawReader_readAtom p1 Q N 0 0 0 M := by
  have key : ∀ p1 Q N, W_LawReader_readCondition_7 p1 Q N = lpC W_LawReader_readAtom p1 Q N := fun p1 Q N => by
    induction N with
    | zero => rfl
    | succ N ih =>
      funext v2 v3 v4 M
      show B_LawReader_readCondition_7 p1 Q N (W_LawReader_readCondition_7 p1 Q N) v2 v3 v4 M = _
      rw [ih]
      rfl
  funext p1 N M Q
  unfold W_LawReader_readCondition
  rw [key]
theorem atC1 : W_LawReader_readAtom_367 = atomC W_LawReader_readAtom_369 W_LawReader_readCondition_368 := rfl
theorem atC2 : W_LawReader_readAtom_365 = atomC W_LawReader_readAtom_367 W_LawReader_readCondition_366 := rfl
theorem atC3 : W_LawReader_readAtom_363 = atomC W_LawReader_readAtom_365 W_LawReader_readCondition_364 := rfl
theorem atC4 : W_LawReader_readAtom_361 = atomC W_LawReader_readAtom_363 W_LawReader_readCondition_362 := rfl
theorem atC5 : W_LawReader_readAtom_359 = atomC W_LawReader_readAtom_361 W_LawReader_readCondition_360 := rfl
theorem atC6 : W_LawReader_readAtom = atomC W_LawReader_readAtom_359 W_LawReader_readCondition_358 := rfl
theorem c_lv0 {F : Nat} (hn : n ≤ 400) (hT : TKS f n t K V b e) (hF : 400 < F) : RDC t K V e W_LawReader_readAtom_369 (pAtom K V F 0) (i32 6) (2 ^ 30) ∧ RDC t K V e W_LawReader_readCondition_368 (pCond K V F 0) (i32 6) (2 ^ 28) := by
  have h := c_atom0 (F := F) (A := 2 ^ 30) hn hT
  exact ⟨h, lpC_368 ▸ c_cond hn hT hF (by decide) (by decide) h⟩
theorem c_lv1 {F : Nat} (hn : n ≤ 400) (hT : TKS f n t K V b e) (hF : 400 < F) : RDC t K V e W_LawReader_readAtom_367 (pAtom K V F 1) (i32 5) (2 ^ 28) ∧ RDC t K V e W_LawReader_readCondition_366 (pCond K V F 1) (i32 5) (2 ^ 26) := by
  have hh := c_lv0 (F := F) hn hT hF
  have h : RDC t K V e W_LawReader_readAtom_367 (pAtom K V F 1) (i32 5) (2 ^ 28) := atC1 ▸ c_atomS (d := 5) hn hT (by omega) (by decide) hh.2 hh.1
  exact ⟨h, lpC_366 ▸ c_cond hn hT hF (by decide) (by decide) h⟩
theorem c_lv2 {F : Nat} (hn : n ≤ 400) (hT : TKS f n t K V b e) (hF : 400 < F) : RDC t K V e W_LawReader_readAtom_365 (pAtom K V F 2) (i32 4) (2 ^ 26) ∧ RDC t K V e W_LawReader_readCondition_364 (pCond K V F 2) (i32 4) (2 ^ 24) := by
  have hh := c_lv1 (F := F) hn hT hF
  have h : RDC t K V e W_LawReader_readAtom_365 (pAtom K V F 2) (i32 4) (2 ^ 26) := atC2 ▸ c_atomS (d := 4) hn hT (by omega) (by decide) hh.2 hh.1
  exact ⟨h, lpC_364 ▸ c_cond hn hT hF (by decide) (by decide) h⟩
theorem c_lv3 {F : Nat} (hn : n ≤ 400) (hT : TKS f n t K V b e) (hF : 400 < F) : RDC t K V e W_LawReader_readAtom_363 (pAtom K V F 3) (i32 3) (2 ^ 24) ∧ RDC t K V e W_LawReader_readCondition_362 (pCond K V F 3) (i32 3) (2 ^ 22) := by
  have hh := c_lv2 (F := F) hn hT hF
  have h : RDC t K V e W_LawReader_readAtom_363 (pAtom K V F 3) (i32 3) (2 ^ 24) := atC3 ▸ c_atomS (d := 3) hn hT (by omega) (by decide) hh.2 hh.1
  exact ⟨h, lpC_362 ▸ c_cond hn hT hF (by decide) (by decide) h⟩
theorem c_lv4 {F : Nat} (hn : n ≤ 400) (hT : TKS f n t K V b e) (hF : 400 < F) : RDC t K V e W_LawReader_readAtom_361 (pAtom K V F 4) (i32 2) (2 ^ 22) ∧ RDC t K V e W_LawReader_readCondition_360 (pCond K V F 4) (i32 2) (2 ^ 20) := by
  have hh := c_lv3 (F := F) hn hT hF
  have h : RDC t K V e W_LawReader_readAtom_361 (pAtom K V F 4) (i32 2) (2 ^ 22) := atC4 ▸ c_atomS (d := 2) hn hT (by omega) (by decide) hh.2 hh.1
  exact ⟨h, lpC_360 ▸ c_cond hn hT hF (by decide) (by decide) h⟩
theorem c_lv5 {F : Nat} (hn : n ≤ 400) (hT : TKS f n t K V b e) (hF : 400 < F) : RDC t K V e W_LawReader_readAtom_359 (pAtom K V F 5) (i32 1) (2 ^ 20) ∧ RDC t K V e W_LawReader_readCondition_358 (pCond K V F 5) (i32 1) (2 ^ 18) := by
  have hh := c_lv4 (F := F) hn hT hF
  have h : RDC t K V e W_LawReader_readAtom_359 (pAtom K V F 5) (i32 1) (2 ^ 20) := atC5 ▸ c_atomS (d := 1) hn hT (by omega) (by decide) hh.2 hh.1
  exact ⟨h, lpC_358 ▸ c_cond hn hT hF (by decide) (by decide) h⟩
theorem c_lv6 {F : Nat} (hn : n ≤ 400) (hT : TKS f n t K V b e) (hF : 400 < F) : RDC t K V e W_LawReader_readAtom (pAtom K V F 6) (i32 0) (2 ^ 18) ∧ RDC t K V e W_LawReader_readCondition (pCond K V F 6) (i32 0) (2 ^ 16) := by
  have hh := c_lv5 (F := F) hn hT hF
  have h : RDC t K V e W_LawReader_readAtom (pAtom K V F 6) (i32 0) (2 ^ 18) := atC6 ▸ c_atomS (d := 0) hn hT (by omega) (by decide) hh.2 hh.1
  exact ⟨h, lpC_t ▸ c_cond hn hT hF (by decide) (by decide) h⟩
end CA
