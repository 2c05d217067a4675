/-! orders of MOMENTS, by the reference -/
def MV (X : HX) (m : Nat) (mo : Nat → Nat) : Prop := m ≤ 27 ∧ X 0 16 = nI m ∧ ∀ k, k < m → X 9 k = nI (mo k) ∧ mo k < 512
def RwV (X : HX) (n : Nat) (R : Nat → Nat) : Prop := n ≤ 10 ∧ X 0 18 = nI n ∧ ∀ v, v < n → X 10 v = nI (R v) ∧ R v < 512
def PrV (X : HX) (n : Nat) (L : List (Nat × Nat)) : Prop := L.length ≤ 40 ∧ X 0 24 = nI L.length ∧ ∀ k p, L[k]? = some p → X 14 k = nI p.1 ∧ X 15 k = nI p.2 ∧ p.1 < n ∧ p.2 < n
def TrV (X : HX) (n : Nat) (t : Option (Nat × Nat × Nat)) : Prop := match t with
  | none => X 0 25 = -1
  | some (a, b, d) => X 0 25 = nI a ∧ X 0 26 = nI b ∧ X 0 27 = nI d ∧ a < n ∧ b < n ∧ d < n
def begP (R : Nat → Nat) (v c : Nat) : Prop := ∃ j, Bs (R v) j ∧ Bs c j
def whoP (R : Nat → Nat) (v c : Nat) : Prop := ∀ j, Bs (R v) j → Bs c j
def triP (R : Nat → Nat) (t : Option (Nat × Nat × Nat)) (c k : Nat) : Prop := match t with
  | none => True
  | some (a, b, d) => ¬ (¬ begP R b c ∧ Bs (R b) k ∧ (begP R a c ↔ begP R d c)) ∧ ¬ (¬ begP R a c ∧ Bs (R a) k ∧ begP R d c ∧ ¬ begP R b c) ∧ ¬ (¬ begP R d c ∧ Bs (R d) k ∧ begP R a c ∧ ¬ begP R b c)
def mayN (R : Nat → Nat) (n : Nat) (L : List (Nat × Nat)) (t : Option (Nat × Nat × Nat)) (c k : Nat) : Prop := mayS R n c k ∧ (∀ p, p ∈ L → Bs (R p.2) k → whoP R p.1 c) ∧ triP R t c k
theorem beg0 {R : Nat → Nat} {v c : Nat} : R v &&& c = 0 ↔ ¬ begP R v c := by
  rw [and_0]
  exact ⟨fun h ⟨j, h1, h2⟩ => h j h1 h2, fun h j h1 h2 => h ⟨j, h1, h2⟩⟩
section LayM
variable {Q : Qt} {r : Ly} {X : HX} {Y : HY} {n : Nat} {R : Nat → Nat} {L : List (Nat × Nat)} {t : Option (Nat × Nat × Nat)}
theorem X9_beg_s {v c : Nat} (hR : RwV X n R) (hv : v < n) (hc : c < 512) (k : ∀ z : Bool, (z = true ↔ begP R v c) → Q (.inl (some (.int (nI z.toNat)))) (LX9 ++ r) X Y) : tX9_isBegun [.ref 0, .int (nI v), .int (nI c)] (LX9 ++ r) X Y Q := by
  obtain ⟨h1, h2⟩ := hR.2.2 v hv
  have hn := hR.1
  have n1 : R v &&& c ≤ R v := Nat.and_le_left
  apply tX9_isBegun_i
  simp (disch := omega) only [m_0, m_L0, m_lt, m_le, m_eq, m_neg, m_in, m_clamp, m_add, m_sub, m_pred, m_mul, m_l, m_i, m_Land, m_Lor, m_and, m_or, m_xor, m_Landn, m_andn, m_LshlP, m_shl, m_LbitP, m_bit, m_cmp0P, m_Lb0, m_Lb1, m_b0, m_b1, Nat.one_mul, h1]
  exact ⟨by omega, fun q => ⟨(by first | exact Or.inl rfl | exact Or.inr rfl | exact Or.inl trivial | exact Or.inr trivial), k false ⟨fun z => (by cases z), fun z => absurd z (beg0.mp q)⟩⟩, fun q => ⟨(by first | exact Or.inl rfl | exact Or.inr rfl | exact Or.inl trivial | exact Or.inr trivial), k true ⟨fun _ => Classical.byContradiction fun z => q (beg0.mpr z), fun _ => rfl⟩⟩⟩
theorem X9_who_s {v c : Nat} (hR : RwV X n R) (hv : v < n) (hc : c < 512) (k : ∀ z : Bool, (z = true ↔ whoP R v c) → Q (.inl (some (.int (nI z.toNat)))) (LX9 ++ r) X Y) : tX9_isWhole [.ref 0, .int (nI v), .int (nI c)] (LX9 ++ r) X Y Q := by
  obtain ⟨h1, h2⟩ := hR.2.2 v hv
  have hn := hR.1
  have n1 := nAn_le (R v) c
  apply tX9_isWhole_i
  simp (disch := omega) only [m_0, m_L0, m_lt, m_le, m_eq, m_neg, m_in, m_clamp, m_add, m_sub, m_pred, m_mul, m_l, m_i, m_Land, m_Lor, m_and, m_or, m_xor, m_Landn, m_andn, m_LshlP, m_shl, m_LbitP, m_bit, m_cmp0P, m_Lb0, m_Lb1, m_b0, m_b1, Nat.one_mul, h1]
  exact ⟨by omega, fun q => ⟨(by first | exact Or.inl rfl | exact Or.inr rfl | exact Or.inl trivial | exact Or.inr trivial), k false ⟨fun z => (by cases z), fun z => absurd (nAn_0.mpr z) q⟩⟩, fun q => ⟨(by first | exact Or.inl rfl | exact Or.inr rfl | exact Or.inl trivial | exact Or.inr trivial), k true ⟨fun _ => nAn_0.mp (Classical.not_not.mp q), fun _ => rfl⟩⟩⟩
theorem z01 {z : Bool} (h : nI z.toNat = 0) : z = false := by cases z; rfl; exact absurd h (by decide)
theorem z11 {z : Bool} (h : ¬ nI z.toNat = 0) : z = true := by cases z; exact absurd rfl h; rfl
theorem X9_may_s {c k0 : Nat} (hR : RwV X n R) (hP : PrV X n L) (hT : TrV X n t) (hc : c < 512) (hk : k0 < 9) (k : ∀ z : Bool, (z = true ↔ mayN R n L t c k0) → Q (.inl (some (.int (nI z.toNat)))) (LX9 ++ r) X Y) : tX9_mayNext [.ref 0, .int (nI c), .int (nI k0)] (LX9 ++ r) X Y Q := by
  have hn := hR.1
  have hL := hP.1
  have kf : ¬ mayN R n L t c k0 → Q (.inl (some (.int (nI 0)))) (LX9 ++ r) X Y := fun h => k false ⟨fun z => (by cases z), fun z => absurd z h⟩
  have kt : mayN R n L t c k0 → Q (.inl (some (.int (nI 1)))) (LX9 ++ r) X Y := fun h => k true ⟨fun _ => h, fun _ => rfl⟩
  -- the pairs, then the three
  have H2 : ∀ p j, j + p = L.length → mayS R n c k0 → (∀ i q, i < j → L[i]? = some q → Bs (R q.2) k0 → whoP R q.1 c) → hX9_mayNext_51 Q r (nI c) (nI k0) (nI j) X Y := by
    intro p
    induction p with
    | zero =>
      intro j hj hS hI
      have hO : ∀ p, p ∈ L → Bs (R p.2) k0 → whoP R p.1 c := fun q hq => by
        obtain ⟨i, hi⟩ := List.mem_iff_getElem?.mp hq
        exact hI i q (by have := (List.getElem?_eq_some_iff.mp hi).1; omega) hi
      apply hX9_mayNext_51_i
      simp (disch := omega) only [m_0, m_L0, m_lt, m_le, m_eq, m_neg, m_in, m_clamp, m_add, m_sub, m_pred, m_mul, m_l, m_i, m_Land, m_Lor, m_and, m_or, m_xor, m_Landn, m_andn, m_LshlP, m_shl, m_LbitP, m_bit, m_cmp0P, m_Lb0, m_Lb1, m_b0, m_b1, Nat.one_mul, hP.2.1]
      refine ⟨fun _ => ?_, fun h => by omega⟩
      cases t with
      | none =>
        have e : X 0 25 = -1 := hT
        rw [e]
        exact ⟨fun h => absurd rfl h, fun _ => ⟨(by first | exact Or.inl rfl | exact Or.inr rfl | exact Or.inl trivial | exact Or.inr trivial), kt ⟨hS, hO, trivial⟩⟩⟩
      | some w =>
        obtain ⟨a, b, d⟩ := w
        obtain ⟨ea, eb, ed, ha, hb, hd⟩ : X 0 25 = nI a ∧ X 0 26 = nI b ∧ X 0 27 = nI d ∧ a < n ∧ b < n ∧ d < n := hT
        have ra := hR.2.2 a ha
        have rb := hR.2.2 b hb
        have rd := hR.2.2 d hd
        rw [ea]
        refine ⟨fun _ => X9_beg_s hR ha hc (fun za hza => cK1_mk ?_), fun h => ?_⟩
        · rw [eb]
          refine X9_beg_s hR hb hc (fun zb hzb => cK1_mk ?_)
          rw [ed]
          refine X9_beg_s hR hd hc (fun zd hzd => cK1_mk ?_)
          -- what follows, by steps
          have s3 : ¬ (¬ begP R b c ∧ Bs (R b) k0 ∧ (begP R a c ↔ begP R d c)) → ¬ (¬ begP R a c ∧ Bs (R a) k0 ∧ begP R d c ∧ ¬ begP R b c) → hX9_mayNext_205 Q r (nI k0) (nI za.toNat) (nI zb.toNat) (nI zd.toNat) X Y := by
            intro t1 t2
            have fin : ¬ (¬ begP R d c ∧ Bs (R d) k0 ∧ begP R a c ∧ ¬ begP R b c) → hX9_mayNext_235 Q r X Y := fun t3 => by
              apply hX9_mayNext_235_i
              exact ⟨(by first | exact Or.inl rfl | exact Or.inr rfl | exact Or.inl trivial | exact Or.inr trivial), kt ⟨hS, hO, t1, t2, t3⟩⟩
            apply hX9_mayNext_205_i
            rw [ed]
            simp (disch := omega) only [m_0, m_L0, m_lt, m_le, m_eq, m_neg, m_in, m_clamp, m_add, m_sub, m_pred, m_mul, m_l, m_i, m_Land, m_Lor, m_and, m_or, m_xor, m_Landn, m_andn, m_LshlP, m_shl, m_LbitP, m_bit, m_cmp0P, m_Lb0, m_Lb1, m_b0, m_b1, Nat.one_mul, rd.1]
            refine ⟨fun h => fin (fun z => z.1 (hzd.mp (z11 h))), fun h => ⟨by omega, fun h2 => fin (fun z => absurd z.2.1 (bsF.mpr h2)), fun h2 => ⟨fun h3 => fin (fun z => by rw [hza.mpr z.2.2.1] at h3; exact absurd h3 (by decide)), fun h3 => ⟨fun h4 => ⟨(by first | exact Or.inl rfl | exact Or.inr rfl | exact Or.inl trivial | exact Or.inr trivial), kf (fun z => z.2.2.2.2 ⟨fun q => by rw [hzd.mpr q] at h; exact h (by decide), nz_nz h2, hza.mp (z11 h3), fun q => by rw [hzb.mpr q] at h4; exact absurd h4 (by decide)⟩)⟩, fun h4 => fin (fun z => z.2.2.2 (hzb.mp (z11 h4)))⟩⟩⟩⟩
          have s2 : ¬ (¬ begP R b c ∧ Bs (R b) k0 ∧ (begP R a c ↔ begP R d c)) → hX9_mayNext_172 Q r (nI k0) (nI za.toNat) (nI zb.toNat) (nI zd.toNat) X Y := by
            intro t1
            apply hX9_mayNext_172_i
            rw [ea]
            simp (disch := omega) only [m_0, m_L0, m_lt, m_le, m_eq, m_neg, m_in, m_clamp, m_add, m_sub, m_pred, m_mul, m_l, m_i, m_Land, m_Lor, m_and, m_or, m_xor, m_Landn, m_andn, m_LshlP, m_shl, m_LbitP, m_bit, m_cmp0P, m_Lb0, m_Lb1, m_b0, m_b1, Nat.one_mul, ra.1]
            refine ⟨fun h => s3 t1 (fun z => z.1 (hza.mp (z11 h))), fun h => ⟨by omega, fun h2 => s3 t1 (fun z => h2 z.2.1), fun h2 => ⟨fun h3 => s3 t1 (fun z => by rw [hzd.mpr z.2.2.1] at h3; exact absurd h3 (by decide)), fun h3 => ⟨fun h4 => s3 t1 (fun z => z.2.2.2 (hzb.mp (z11 h4))), fun h4 => ⟨(by first | exact Or.inl rfl | exact Or.inr rfl | exact Or.inl trivial | exact Or.inr trivial), kf (fun z => z.2.2.2.1 ⟨fun q => by rw [hza.mpr q] at h; exact h (by decide), Classical.not_not.mp h2, hzd.mp (z11 h3), fun q => by rw [hzb.mpr q] at h4; exact h4 (by decide)⟩)⟩⟩⟩⟩⟩
          rw [eb]
          simp (disch := omega) only [m_0, m_L0, m_lt, m_le, m_eq, m_neg, m_in, m_clamp, m_add, m_sub, m_pred, m_mul, m_l, m_i, m_Land, m_Lor, m_and, m_or, m_xor, m_Landn, m_andn, m_LshlP, m_shl, m_LbitP, m_bit, m_cmp0P, m_Lb0, m_Lb1, m_b0, m_b1, Nat.one_mul, rb.1]
          refine ⟨fun h => s2 (fun z => z.1 (hzb.mp (z11 h))), fun h => ⟨by omega, fun h2 => s2 (fun z => h2 z.2.1), fun h2 => ⟨fun h3 => s2 (fun z => h3 ?_), fun h3 => ⟨(by first | exact Or.inl rfl | exact Or.inr rfl | exact Or.inl trivial | exact Or.inr trivial), kf (fun z => z.2.2.1 ⟨fun q => by rw [hzb.mpr q] at h; exact h (by decide), Classical.not_not.mp h2, ?_⟩)⟩⟩⟩⟩
          · have : za = zd := by
              cases za <;> cases zd
              · rfl
              · exact absurd (z.2.2.mpr (hzd.mp rfl)) (fun q => by have := hza.mpr q; cases this)
              · exact absurd (z.2.2.mp (hza.mp rfl)) (fun q => by have := hzd.mpr q; cases this)
              · rfl
            rw [this]
          · have h3 := Classical.not_not.mp h3
            have : za = zd := by
              cases za <;> cases zd
              · rfl
              · exact absurd h3 (by decide)
              · exact absurd h3 (by decide)
              · rfl
            rw [← hza, ← hzd, this]
        · have h9 : nI a = -1 := Classical.not_not.mp h
          rw [m_neg (by omega)] at h9; exact h9.elim
    | succ p ih =>
      intro j hj hS hI
      obtain ⟨q, hq⟩ : ∃ q, L[j]? = some q := ⟨L[j]'(by omega), List.getElem?_eq_getElem (by omega)⟩
      obtain ⟨e1, e2, l1, l2⟩ := hP.2.2 j q hq
      have r1 := hR.2.2 _ l1
      have r2 := hR.2.2 _ l2
      have nx : (Bs (R q.2) k0 → whoP R q.1 c) → hX9_mayNext_94 Q r (nI c) (nI k0) (nI j) X Y := fun h => by
        apply hX9_mayNext_94_i
        rw [m_add]
        refine ih (j + 1) (by omega) hS (fun i q' hi hq' => ?_)
        by_cases e : i = j
        · subst e; rw [hq] at hq'; cases hq'; exact h
        · exact hI i q' (by omega) hq'
      apply hX9_mayNext_51_i
      simp (disch := omega) only [m_0, m_L0, m_lt, m_le, m_eq, m_neg, m_in, m_clamp, m_add, m_sub, m_pred, m_mul, m_l, m_i, m_Land, m_Lor, m_and, m_or, m_xor, m_Landn, m_andn, m_LshlP, m_shl, m_LbitP, m_bit, m_cmp0P, m_Lb0, m_Lb1, m_b0, m_b1, Nat.one_mul, hP.2.1, e1, e2, r2.1]
      refine ⟨fun h => by omega, fun _ => ⟨by omega, by omega, fun h => nx (fun h2 => absurd h2 h), fun h => ⟨by omega, X9_who_s hR l1 hc (fun z hz => cK1_mk ⟨fun h2 => nx (fun _ => hz.mp (z11 h2)), fun h2 => ⟨(by first | exact Or.inl rfl | exact Or.inr rfl | exact Or.inl trivial | exact Or.inr trivial), kf (fun y => ?_)⟩⟩)⟩⟩⟩
      have h3 := hz.mpr (y.2.1 q (List.mem_of_getElem? hq) (Classical.not_not.mp h))
      rw [h3] at h2; exact h2 (by decide)
  have H1 : ∀ p j, j + p = n → (∀ v, v < j → (∃ j, Bs (R v) j ∧ Bs c j) → (∃ j, Bs (R v) j ∧ ¬ Bs c j) → Bs (R v) k0) → hX9_mayNext_2 Q r (nI c) (nI k0) (nI j) X Y := by
    intro p
    induction p with
    | zero =>
      intro j hj hI
      apply hX9_mayNext_2_i
      simp (disch := omega) only [m_0, m_L0, m_lt, m_le, m_eq, m_neg, m_in, m_clamp, m_add, m_sub, m_pred, m_mul, m_l, m_i, m_Land, m_Lor, m_and, m_or, m_xor, m_Landn, m_andn, m_LshlP, m_shl, m_LbitP, m_bit, m_cmp0P, m_Lb0, m_Lb1, m_b0, m_b1, Nat.one_mul, hR.2.1]
      exact ⟨fun _ => H2 _ 0 (Nat.zero_add _) (fun v hv => hI v (by omega)) (fun i q hi => by omega), fun h => by omega⟩
    | succ p ih =>
      intro j hj hI
      have hjn : j < n := by omega
      have rj := hR.2.2 j hjn
      have nx : ((∃ i, Bs (R j) i ∧ Bs c i) → (∃ i, Bs (R j) i ∧ ¬ Bs c i) → Bs (R j) k0) → hX9_mayNext_43 Q r (nI c) (nI k0) (nI j) X Y := fun h => by
        apply hX9_mayNext_43_i
        rw [m_add]
        exact ih (j + 1) (by omega) (fun v hv => by
          by_cases e : v = j
          · subst e; exact h
          · exact hI v (by omega))
      apply hX9_mayNext_2_i
      simp (disch := omega) only [m_0, m_L0, m_lt, m_le, m_eq, m_neg, m_in, m_clamp, m_add, m_sub, m_pred, m_mul, m_l, m_i, m_Land, m_Lor, m_and, m_or, m_xor, m_Landn, m_andn, m_LshlP, m_shl, m_LbitP, m_bit, m_cmp0P, m_Lb0, m_Lb1, m_b0, m_b1, Nat.one_mul, hR.2.1]
      refine ⟨fun h => by omega, fun _ => X9_beg_s hR hjn hc (fun z hz => cK1_mk ⟨fun h => nx (fun q => by rw [hz.mpr q] at h; exact absurd h (by decide)), fun h => X9_who_s hR hjn hc (fun y hy => cK1_mk ⟨fun h2 => nx (fun _ ⟨i, q1, q2⟩ => absurd (hy.mp (z11 h2) i q1) q2), fun h2 => ?_⟩)⟩)⟩
      simp (disch := omega) only [m_0, m_L0, m_lt, m_le, m_eq, m_neg, m_in, m_clamp, m_add, m_sub, m_pred, m_mul, m_l, m_i, m_Land, m_Lor, m_and, m_or, m_xor, m_Landn, m_andn, m_LshlP, m_shl, m_LbitP, m_bit, m_cmp0P, m_Lb0, m_Lb1, m_b0, m_b1, Nat.one_mul, rj.1]
      refine ⟨by omega, fun h3 => nx (fun _ _ => nz_nz h3), fun h3 => ⟨(by first | exact Or.inl rfl | exact Or.inr rfl | exact Or.inl trivial | exact Or.inr trivial), kf (fun m => ?_)⟩⟩
      have hw : ∃ i, Bs (R j) i ∧ ¬ Bs c i := Classical.byContradiction fun q => h2 (fun e => by
        have : ¬ whoP R j c := fun w => by rw [hy.mpr w] at e; exact absurd e (by decide)
        exact this (fun i hi => Classical.byContradiction fun q2 => q ⟨i, hi, q2⟩))
      have h4 := m.1 j hjn (hz.mp (z11 h)) hw
      have h5 : (R j).testBit k0 = false := Classical.not_not.mp h3
      exact absurd h4 (bsF.mpr h5)
  apply tX9_mayNext_i
  exact H1 n 0 (Nat.zero_add _) (fun v hv => by omega)
/-- all ways that countWays leaves -/
def WyV (Y : HY) (m : Nat) (may : Nat → Nat → Prop) : Prop := ∀ c, c < 2 ^ m → Y 11 c = lN (wy m may c)
theorem X9_count_s {m : Nat} (h16 : X 0 16 = nI m) (hm : m ≤ 9) (hR : RwV X n R) (hP : PrV X n L) (hT : TrV X n t) (k : ∀ Y', (∀ c, c ≠ 11 → Y' c = Y c) → WyV Y' m (mayN R n L t) → Q (.inl (some (.long (lN (wy m (mayN R n L t) 0))))) (LX9 ++ r) X Y') : tX9_countWays [.ref 0] (LX9 ++ r) X Y Q := by
  have hTw := pw9 hm
  have hT0 := Nat.two_pow_pos m
  have H : ∀ p Y', p ≤ 2 ^ m → (∀ c, c ≠ 11 → Y' c = Y c) → (∀ c, p ≤ c → c < 2 ^ m → Y' 11 c = lN (wy m (mayN R n L t) c)) → p < 2 ^ m → hX9_countWays_20 Q r (zI ((p : Int) - 1)) X Y' := by
    intro p
    induction p with
    | zero =>
      intro Y' _ f1 h1 _
      apply hX9_countWays_20_i
      refine ⟨fun _ => ?_, fun h => absurd (show zI ((0 : Int) - 1) < 0 by decide) h⟩
      have e0 := h1 0 (Nat.le_refl _) hT0
      simp (disch := omega) only [m_0, m_L0, m_lt, m_le, m_eq, m_neg, m_in, m_clamp, m_add, m_sub, m_pred, m_mul, m_l, m_i, m_Land, m_Lor, m_and, m_or, m_xor, m_Landn, m_andn, m_LshlP, m_shl, m_LbitP, m_bit, m_cmp0P, m_Lb0, m_Lb1, m_b0, m_b1, Nat.one_mul, e0]
      exact ⟨by omega, k Y' f1 (fun c hc => h1 c (Nat.zero_le _) hc)⟩
    | succ p ih =>
      intro Y' hp f1 h1 hpT
      have hpT : p < 2 ^ m := by omega
      have hpf : p ≠ 2 ^ m - 1 := by omega
      have e1 : zI (((p + 1 : Nat) : Int) - 1) = nI p := by rw [show ((p + 1 : Nat) : Int) - 1 = (p : Int) by omega]; rfl
      have e2 : nI p + -1 = zI ((p : Int) - 1) := by rw [← m_zI, m_m1, m_zadd]; rfl
      rw [e1]
      have G : ∀ q i Y', i + q = m → (∀ c, c ≠ 11 → Y' c = Y c) → (∀ c, p < c → c < 2 ^ m → Y' 11 c = lN (wy m (mayN R n L t) c)) → Y' 11 p = lN (sumN (wyT m (mayN R n L t) p) i) → hX9_countWays_33 Q r (nI p) (nI i) X Y' := by
        intro q
        induction q with
        | zero =>
          intro i Y' hi f1 h1 h2
          apply hX9_countWays_33_i
          simp (disch := omega) only [m_0, m_L0, m_lt, m_le, m_eq, m_neg, m_in, m_clamp, m_add, m_sub, m_pred, m_mul, m_l, m_i, m_Land, m_Lor, m_and, m_or, m_xor, m_Landn, m_andn, m_LshlP, m_shl, m_LbitP, m_bit, m_cmp0P, m_Lb0, m_Lb1, m_b0, m_b1, Nat.one_mul, h16]
          refine ⟨fun _ => ?_, fun h => by omega⟩
          rw [e2]
          refine ih Y' (by omega) f1 (fun c q1 q2 => ?_) (by omega)
          by_cases e : c = p
          · subst e
            have him : i = m := by omega
            subst him
            rw [h2, wy_step q2 hpf]
          · exact h1 c (by omega) q2
        | succ q ihq =>
          intro i Y' hi f1 h1 h2
          have him : i < m := by omega
          have skip : (¬ (p.testBit i = false ∧ mayN R n L t p i)) → hX9_countWays_33 Q r (nI p) (nI (i + 1)) X Y' := fun h => ihq (i + 1) Y' (by omega) f1 h1 (by rw [h2, sumN_succ, wyT_no h]; rfl)
          apply hX9_countWays_33_i
          simp (disch := omega) only [m_0, m_L0, m_lt, m_le, m_eq, m_neg, m_in, m_clamp, m_add, m_sub, m_pred, m_mul, m_l, m_i, m_Land, m_Lor, m_and, m_or, m_xor, m_Landn, m_andn, m_LshlP, m_shl, m_LbitP, m_bit, m_cmp0P, m_Lb0, m_Lb1, m_b0, m_b1, Nat.one_mul, h16]
          refine ⟨fun h => by omega, fun _ => ⟨fun hb => skip (fun z => hb z.1), fun hb => X9_may_s hR hP hT (by omega) (by omega) (fun z hz => cK1_mk ⟨fun h => skip (fun y => by rw [hz.mpr y.2] at h; exact absurd h (by decide)), fun h => ?_⟩)⟩⟩
          have hb0 : p.testBit i = false := Classical.not_not.mp hb
          have hy := hz.mp (z11 h)
          have hlt := or_lt hpT him
          have hgt : p < p ||| 2 ^ i := Nat.lt_of_le_of_ne Nat.left_le_or (fun e3 => by
            have := hb0
            rw [e3, or_bit] at this; simp at this)
          have h9 := h1 _ hgt hlt
          simp (disch := omega) only [m_0, m_L0, m_lt, m_le, m_eq, m_neg, m_in, m_clamp, m_add, m_sub, m_pred, m_mul, m_l, m_i, m_Land, m_Lor, m_and, m_or, m_xor, m_Landn, m_andn, m_LshlP, m_shl, m_LbitP, m_bit, m_cmp0P, m_Lb0, m_Lb1, m_b0, m_b1, Nat.one_mul, h2, h9, m_Ladd]
          refine ⟨by omega, by omega, by omega, ihq (i + 1) _ (by omega) (fun c hc => by rw [up2_row hc]; exact f1 c hc) (fun c q1 q2 => by rw [up2_idx (by omega)]; exact h1 c q1 q2) ?_⟩
          rw [up2_same, sumN_succ, wyT_yes hb0 hy]
      apply hX9_countWays_20_i
      simp (disch := omega) only [m_0, m_L0, m_lt, m_le, m_eq, m_neg, m_in, m_clamp, m_add, m_sub, m_pred, m_mul, m_l, m_i, m_Land, m_Lor, m_and, m_or, m_xor, m_Landn, m_andn, m_LshlP, m_shl, m_LbitP, m_bit, m_cmp0P, m_Lb0, m_Lb1, m_b0, m_b1, Nat.one_mul]
      refine ⟨fun h => by omega, fun _ => ⟨by omega, G m 0 _ (Nat.zero_add _) (fun c hc => by rw [up2_row hc]; exact f1 c hc) (fun c q1 q2 => by rw [up2_idx (by omega)]; exact h1 c (by omega) q2) (by rw [up2_same]; rfl)⟩⟩
  apply tX9_countWays_i
  simp (disch := omega) only [m_0, m_L0, m_lt, m_le, m_eq, m_neg, m_in, m_clamp, m_add, m_sub, m_pred, m_mul, m_l, m_i, m_Land, m_Lor, m_and, m_or, m_xor, m_Landn, m_andn, m_LshlP, m_shl, m_LbitP, m_bit, m_cmp0P, m_Lb0, m_Lb1, m_b0, m_b1, Nat.one_mul, h16]
  refine ⟨by omega, ?_⟩
  have eF : nI (2 ^ m - 1) - nI 1 = zI (((2 ^ m - 1 : Nat) : Int) - 1) := by rw [← m_zI, ← m_zI, m_zsub]; rfl
  rw [eF]
  refine H (2 ^ m - 1) _ (by omega) (fun c hc => up2_row hc) (fun c q1 q2 => ?_) (by omega)
  have e : c = 2 ^ m - 1 := by omega
  subst e
  rw [up2_same, wy_full]
theorem X9_least_s {m : Nat} (h16 : X 0 16 = nI m) (hm : m ≤ 9) (hR : RwV X n R) (hP : PrV X n L) (hT : TrV X n t) (hW : WyV Y m (mayN R n L t)) (hl : 0 < wy m (mayN R n L t) 0) (k : ∀ X' le, (∀ c, c ≠ 13 → X' c = X c) → LsP m (mayN R n L t) le → (∀ p, p < m → X' 13 p = nI (le p)) → Q (.inl none) (LX9 ++ r) X' Y) : tX9_leastLaying [.ref 0] (LX9 ++ r) X Y Q := by
  have hTw := pw9 hm
  apply tX9_leastLaying_i
  have H : ∀ q p X' (le : Nat → Nat), p + q = m → (∀ c, c ≠ 13 → X' c = X c) → LyN m (mayN R n L t) p le → 0 < wy m (mayN R n L t) (ctO le p) → (∀ i, i < p → ∀ k, stE m (mayN R n L t) (ctO le i) k → le i ≤ k) → (∀ i, i < p → X' 13 i = nI (le i)) → hX9_leastLaying_4 Q r (nI (ctO le p)) (nI p) X' Y := by
    intro q
    induction q with
    | zero =>
      intro p X' le hp f1 h1 h2 h3 h4
      have e : p = m := by omega
      subst e
      apply hX9_leastLaying_4_i
      simp (disch := omega) only [m_0, m_L0, m_lt, m_le, m_eq, m_neg, m_in, m_clamp, m_add, m_sub, m_pred, m_mul, m_l, m_i, m_Land, m_Lor, m_and, m_or, m_xor, m_Landn, m_andn, m_LshlP, m_shl, m_LbitP, m_bit, m_cmp0P, m_Lb0, m_Lb1, m_b0, m_b1, Nat.one_mul, f1 0 (by omega), h16]
      exact ⟨fun _ => k X' le f1 ⟨h1, h3⟩ h4, fun h => by omega⟩
    | succ q ih =>
      intro p X' le hp f1 h1 h2 h3 h4
      have hcT := (h1.cut p (Nat.le_refl _)).1
      have hR' : RwV X' n R := by unfold RwV; rw [f1 0 (by omega), f1 10 (by omega)]; exact hR
      have hP' : PrV X' n L := by unfold PrV; rw [f1 0 (by omega), f1 14 (by omega), f1 15 (by omega)]; exact hP
      have hT' : TrV X' n t := by
        unfold TrV at hT ⊢
        cases t with
        | none => rw [f1 0 (by omega)]; exact hT
        | some w => rw [f1 0 (by omega)]; exact hT
      apply hX9_leastLaying_4_i
      simp (disch := omega) only [m_0, m_L0, m_lt, m_le, m_eq, m_neg, m_in, m_clamp, m_add, m_sub, m_pred, m_mul, m_l, m_i, m_Land, m_Lor, m_and, m_or, m_xor, m_Landn, m_andn, m_LshlP, m_shl, m_LbitP, m_bit, m_cmp0P, m_Lb0, m_Lb1, m_b0, m_b1, Nat.one_mul, f1 0 (by omega), h16]
      refine ⟨fun h => by omega, fun _ => ?_⟩
      have hf : ctO le p ≠ 2 ^ m - 1 := fun e => by
        have := (h1.cut p (Nat.le_refl _)).2; rw [e, mis_full] at this; omega
      obtain ⟨kx, hkx, hbx, hyx, hwx⟩ := wy_pos hcT hf h2
      have stx := live_e h1.rc hkx hbx hyx hwx
      have G : ∀ u i, i + u = m → (∀ k, k < i → ¬ stE m (mayN R n L t) (ctO le p) k) → hX9_leastLaying_14 Q r (nI (ctO le p)) (nI p) (nI i) X' Y := by
        intro u
        induction u with
        | zero =>
          intro i hi hJ
          exact absurd stx (hJ kx (by omega))
        | succ u ihu =>
          intro i hi hJ
          have him : i < m := by omega
          have nx : ¬ stE m (mayN R n L t) (ctO le p) i → hX9_leastLaying_14 Q r (nI (ctO le p)) (nI p) (nI (i + 1)) X' Y := fun h => ihu (i + 1) (by omega) (fun k hk => by
            by_cases e : k = i
            · subst e; exact h
            · exact hJ k (by omega))
          have stb : stE m (mayN R n L t) (ctO le p) i → (ctO le p).testBit i = false ∧ mayN R n L t (ctO le p) i ∧ 0 < wy m (mayN R n L t) (ctO le p ||| 2 ^ i) := fun ⟨o, ho, j, hj, q1, q2⟩ => by
            have h9 := ho j hj
            rw [q1, q2] at h9
            have h8 := ho.pos _ (j + 1) rfl (by omega)
            simp only [ctO] at h8
            rw [q1, q2] at h8
            exact ⟨h9.2.1, h9.2.2, h8⟩
          apply hX9_leastLaying_14_i
          simp (disch := omega) only [m_0, m_L0, m_lt, m_le, m_eq, m_neg, m_in, m_clamp, m_add, m_sub, m_pred, m_mul, m_l, m_i, m_Land, m_Lor, m_and, m_or, m_xor, m_Landn, m_andn, m_LshlP, m_shl, m_LbitP, m_bit, m_cmp0P, m_Lb0, m_Lb1, m_b0, m_b1, Nat.one_mul]
          refine ⟨fun hb => nx (fun z => by rw [(stb z).1] at hb; cases hb), fun hb => X9_may_s hR' hP' hT' (by omega) (by omega) (fun z hz => cK1_mk ⟨fun h => nx (fun y => by rw [hz.mpr (stb y).2.1] at h; exact absurd h (by decide)), fun h => ?_⟩)⟩
          have hb0 : (ctO le p).testBit i = false := by cases hq : (ctO le p).testBit i; rfl; exact absurd hq hb
          have hy := hz.mp (z11 h)
          have hlt := or_lt hcT him
          have hbd := wy_bd9 (may := mayN R n L t) hm hlt
          simp (disch := omega) only [m_0, m_L0, m_lt, m_le, m_eq, m_neg, m_in, m_clamp, m_add, m_sub, m_pred, m_mul, m_l, m_i, m_Land, m_Lor, m_and, m_or, m_xor, m_Landn, m_andn, m_LshlP, m_shl, m_LbitP, m_bit, m_cmp0P, m_Lb0, m_Lb1, m_b0, m_b1, Nat.one_mul, hW _ hlt]
          refine ⟨by omega, fun h0 => ?_, fun h0 => nx (fun y => ?_)⟩
          · have h0 : wy m (mayN R n L t) (ctO le p ||| 2 ^ i) ≠ 0 := fun e => h0 (by rw [e])
            have st : stE m (mayN R n L t) (ctO le p) i := live_e h1.rc him hb0 hy (by omega)
            have e0 : ∀ j, j < p → (fun j => if j = p then i else le j) j = le j := fun j hj => if_neg (by omega)
            have ep : (fun j => if j = p then i else le j) p = i := if_pos rfl
            refine ⟨by omega, ?_⟩
            have h9 := ih (p + 1) (up2 X' 13 p (nI i)) (fun j => if j = p then i else le j) (by omega) (fun c hc => by rw [up2_row hc]; exact f1 c hc) (fun j hj => by
              by_cases e : j = p
              · subst e
                rw [ctO_eq e0, ep]; exact ⟨him, hb0, hy⟩
              · rw [ctO_eq (fun i hi => e0 i (by omega)), e0 j (by omega)]; exact h1 j (by omega)) (by
              simp only [ctO]; rw [ctO_eq e0]; simp only [if_true]; omega) (fun j hj k hk => by
              by_cases e : j = p
              · subst e
                rw [ctO_eq e0] at hk
                rw [if_pos rfl]; exact Nat.le_of_not_lt (fun q => hJ k q hk)
              · rw [ctO_eq (fun i hi => e0 i (by omega))] at hk
                rw [if_neg e]; exact h3 j (by omega) k hk) (fun j hj => by
              by_cases e : j = p
              · subst e; rw [up2_same, if_pos rfl]
              · rw [up2_idx e, if_neg e]; exact h4 j (by omega))
            simp only [ctO] at h9
            rw [ctO_eq e0] at h9
            simp only [if_true] at h9
            exact h9
          · have := (stb y).2.2
            have h0 := Classical.not_not.mp h0
            rw [m_Leq (by omega) (by omega)] at h0
            omega
      exact G m 0 (Nat.zero_add _) (fun k hk => by omega)
  exact H m 0 X (fun _ => 0) (Nat.zero_add _) (fun _ _ => rfl) (fun i hi => by omega) hl (fun i hi => by omega) (fun i hi => by omega)
theorem X9_first_s {m g : Nat} {le : Nat → Nat} (hm : m ≤ 9) (hR : RwV X n R) (hg : g < n) (hlt : ∀ p, p < m → le p < m) (hL : ∀ p, p < m → X 13 p = nI (le p)) (hex : ∃ p, p < m ∧ Bs (R g) (le p)) (k : ∀ p : Nat, p < m → Bs (R g) (le p) → (∀ i, i < p → ¬ Bs (R g) (le i)) → Q (.inl (some (.int (nI p)))) (LX9 ++ r) X Y) : tX9_firstPlace [.ref 0, .int (nI g)] (LX9 ++ r) X Y Q := by
  obtain ⟨px, hpx, hbx⟩ := hex
  have hn := hR.1
  have rg := hR.2.2 g hg
  apply tX9_firstPlace_i
  have H : ∀ q p, p + q = m → (∀ i, i < p → ¬ Bs (R g) (le i)) → hX9_firstPlace_2 Q r (nI g) (nI p) X Y := by
    intro q
    induction q with
    | zero =>
      intro p hp hI
      exact absurd hbx (hI px (by omega))
    | succ q ih =>
      intro p hp hI
      have hl := hlt p (by omega)
      apply hX9_firstPlace_2_i
      simp (disch := omega) only [m_0, m_L0, m_lt, m_le, m_eq, m_neg, m_in, m_clamp, m_add, m_sub, m_pred, m_mul, m_l, m_i, m_Land, m_Lor, m_and, m_or, m_xor, m_Landn, m_andn, m_LshlP, m_shl, m_LbitP, m_bit, m_cmp0P, m_Lb0, m_Lb1, m_b0, m_b1, Nat.one_mul, rg.1, hL p (by omega)]
      refine ⟨by omega, by omega, fun h => k p (by omega) (nz_nz h) hI, fun h => ih (p + 1) (by omega) (fun i hi => ?_)⟩
      by_cases e : i = p
      · subst e; exact bsF.mpr (Classical.not_not.mp h)
      · exact hI i (by omega)
  exact H m 0 (Nat.zero_add _) (fun i hi => by omega)
theorem X9_last_s {m g : Nat} {le : Nat → Nat} (h16 : X 0 16 = nI m) (hm : m ≤ 9) (hR : RwV X n R) (hg : g < n) (hlt : ∀ p, p < m → le p < m) (hL : ∀ p, p < m → X 13 p = nI (le p)) (hex : ∃ p, p < m ∧ Bs (R g) (le p)) (k : ∀ p : Nat, p < m → Bs (R g) (le p) → (∀ i, p < i → i < m → ¬ Bs (R g) (le i)) → Q (.inl (some (.int (nI p)))) (LX9 ++ r) X Y) : tX9_lastPlace [.ref 0, .int (nI g)] (LX9 ++ r) X Y Q := by
  obtain ⟨px, hpx, hbx⟩ := hex
  have hn := hR.1
  have rg := hR.2.2 g hg
  apply tX9_lastPlace_i
  have H : ∀ p, p ≤ m → (∀ i, p ≤ i → i < m → ¬ Bs (R g) (le i)) → hX9_lastPlace_7 Q r (nI g) (zI ((p : Int) - 1)) X Y := by
    intro p
    induction p with
    | zero =>
      intro hp hI
      exact absurd hbx (hI px (Nat.zero_le _) hpx)
    | succ p ih =>
      intro hp hI
      have hl := hlt p (by omega)
      have e1 : zI (((p + 1 : Nat) : Int) - 1) = nI p := by rw [show ((p + 1 : Nat) : Int) - 1 = (p : Int) by omega]; rfl
      have e2 : nI p + -1 = zI ((p : Int) - 1) := by rw [← m_zI, m_m1, m_zadd]; rfl
      rw [e1]
      apply hX9_lastPlace_7_i
      simp (disch := omega) only [m_0, m_L0, m_lt, m_le, m_eq, m_neg, m_in, m_clamp, m_add, m_sub, m_pred, m_mul, m_l, m_i, m_Land, m_Lor, m_and, m_or, m_xor, m_Landn, m_andn, m_LshlP, m_shl, m_LbitP, m_bit, m_cmp0P, m_Lb0, m_Lb1, m_b0, m_b1, Nat.one_mul, rg.1, hL p (by omega)]
      rw [e2]
      refine ⟨by omega, by omega, fun h => k p (by omega) (nz_nz h) (fun i q1 q2 => hI i (by omega) q2), fun h => ih (by omega) (fun i q1 q2 => ?_)⟩
      by_cases e : i = p
      · subst e; exact bsF.mpr (Classical.not_not.mp h)
      · exact hI i (by omega) q2
  rw [h16]
  have eZ : nI m - nI 1 = zI ((m : Int) - 1) := by rw [← m_zI, ← m_zI, m_zsub]; rfl
  rw [eZ]
  exact H m (Nat.le_refl _) (fun i q1 q2 => by omega)
end LayM
