/-! orders of MOMENTS, by the class -/
def rwG (mo : Nat → Nat) (m v : Nat) : Nat := bmk (fun k => (mo k).testBit v) m
theorem rwG_bit {mo : Nat → Nat} {m v k : Nat} : Bs (rwG mo m v) k ↔ k < m ∧ Bs (mo k) v := by
  unfold Bs rwG
  rw [bmk_bit, Bool.and_eq_true, decide_eq_true_eq]
theorem rwG_lt (mo : Nat → Nat) (m v : Nat) : rwG mo m v < 2 ^ m := bmk_lt _ _
/-- the rows side by side, and who must be ahead is -/
def mayG (mo : Nat → Nat) (m : Nat) (P : Nat → Nat) (c k : Nat) : Prop := mayS (rwG mo m) 9 c k ∧ ∀ j, Bs (P k) j → Bs c j
def LV (X : HX) (m : Nat) (mo : Nat → Nat) : Prop := m ≤ 27 ∧ X 0 3 = nI m ∧ ∀ k, k < m → X 1 k = nI (mo k) ∧ mo k < 512
def PV (X : HX) (P : Nat → Nat) : Prop := ∀ k, k < 9 → X 4 k = nI (P k) ∧ P k < 134217728
/-- who is on both sides of a cut -/
def bdP (mo : Nat → Nat) (m c b : Nat) : Prop := b < 512 ∧ ∀ v, Bs b v ↔ (∃ j, Bs (rwG mo m v) j ∧ Bs c j) ∧ ∃ j, Bs (rwG mo m v) j ∧ ¬ Bs c j
def unP (mo : Nat → Nat) (c u : Nat) : Prop := u < 512 ∧ ∀ v, Bs u v ↔ ∃ j, Bs c j ∧ Bs (mo j) v
theorem nAn_0 {a b : Nat} : nAn a b = 0 ↔ ∀ v, Bs a v → Bs b v := by
  constructor
  · intro h v hv
    have h1 : (nAn a b).testBit v = false := by rw [h]; simp
    rw [nAn_bit, show a.testBit v = true from hv, Bool.true_and] at h1
    unfold Bs
    cases hb : b.testBit v
    · rw [hb] at h1; cases h1
    · rfl
  · intro h
    refine eq0_bit (fun i => ?_)
    rw [nAn_bit]
    cases ha : a.testBit i
    · rfl
    · rw [show b.testBit i = true from h i ha]; rfl
theorem and_0 {a b : Nat} : a &&& b = 0 ↔ ∀ v, Bs a v → ¬ Bs b v := by
  constructor
  · intro h v hv hb
    have h1 : (a &&& b).testBit v = false := by rw [h]; simp
    rw [Nat.testBit_and, show a.testBit v = true from hv, show b.testBit v = true from hb] at h1
    cases h1
  · intro h
    refine eq0_bit (fun i => ?_)
    rw [Nat.testBit_and]
    cases ha : a.testBit i
    · rfl
    · rw [bsF.mp (h i ha)]; rfl
theorem pw9 {m : Nat} (h : m ≤ 9) : 2 ^ m ≤ 512 := Nat.le_trans (Nat.pow_le_pow_right (n := 2) (by omega) h) (by decide : 2 ^ 9 ≤ _)
theorem low_lt {c l : Nat} (h : c.testBit l = true) : nAn c (2 ^ l) < c := by
  refine Nat.lt_of_le_of_ne (nAn_le _ _) (fun e => ?_)
  have h1 : (nAn c (2 ^ l)).testBit l = true := by rw [e]; exact h
  rw [nAn_bit, Nat.testBit_two_pow] at h1
  simp at h1
theorem nAn1_bit {c l i : Nat} : Bs (nAn c (2 ^ l)) i ↔ Bs c i ∧ l ≠ i := by
  unfold Bs
  rw [nAn_bit, Nat.testBit_two_pow]
  simp
theorem low_uq {c l l' : Nat} (h1 : c.testBit l = true) (h2 : ∀ i, i < l → c.testBit i = false) (h3 : c.testBit l' = true) (h4 : ∀ i, i < l' → c.testBit i = false) : l' = l := by
  rcases Nat.lt_trichotomy l' l with q | q | q
  · rw [h2 l' q] at h3; cases h3
  · exact q
  · rw [h4 l q] at h1; cases h1
section LayC
variable {Q : Qt} {r : Ly} {X : HX} {Y : HY} {m : Nat} {mo P : Nat → Nat}
theorem X3_both_s (hm : m ≤ 9) (hV : LV X m mo) (k : ∀ X', (∀ c, c ≠ 5 → c ≠ 6 → X' c = X c) → (∀ c, c < 2 ^ m → ∃ b, X' 5 c = nI b ∧ bdP mo m c b) → Q (.inl none) (LX3 ++ r) X' Y) : tX3_findBothSides [.ref 0, .int (nI (2 ^ m - 1))] (LX3 ++ r) X Y Q := by
  have hT := pw9 hm
  have hT0 := Nat.two_pow_pos m
  have L2 : ∀ n j X', j + n = 2 ^ m → (∀ c, c ≠ 5 → c ≠ 6 → X' c = X c) → (∀ c, c < 2 ^ m → ∃ u, X' 6 c = nI u ∧ unP mo c u) → (∀ c, c < j → ∃ b, X' 5 c = nI b ∧ bdP mo m c b) → hX3_findBothSides_49 Q r (nI (2 ^ m - 1)) (nI j) X' Y := by
    intro n
    induction n with
    | zero =>
      intro j X' hj f1 h6 h5
      apply hX3_findBothSides_49_i
      simp (disch := omega) only [m_0, m_L0, m_lt, m_le, m_eq, m_neg, m_in, m_clamp, m_add, m_sub, m_pred, m_mul, m_l, m_i, m_Land, m_Lor, m_and, m_or, m_xor, m_Landn, m_andn, m_LshlP, m_shl, m_LbitP, m_bit, m_cmp0P, m_Lb0, m_Lb1, m_b0, m_b1, Nat.one_mul]
      exact ⟨fun _ => k X' f1 (fun c hc => h5 c (by omega)), fun h => by omega⟩
    | succ n ih =>
      intro j X' hj f1 h6 h5
      have hjT : j < 2 ^ m := by omega
      have hx : (2 ^ m - 1) ^^^ j < 2 ^ m := Nat.xor_lt_two_pow (full_lt m) hjT
      obtain ⟨u1, e1, w1, b1⟩ := h6 j hjT
      obtain ⟨u2, e2, w2, b2⟩ := h6 _ hx
      apply hX3_findBothSides_49_i
      simp (disch := omega) only [m_0, m_L0, m_lt, m_le, m_eq, m_neg, m_in, m_clamp, m_add, m_sub, m_pred, m_mul, m_l, m_i, m_Land, m_Lor, m_and, m_or, m_xor, m_Landn, m_andn, m_LshlP, m_shl, m_LbitP, m_bit, m_cmp0P, m_Lb0, m_Lb1, m_b0, m_b1, Nat.one_mul, e1, e2]
      refine ⟨fun h => by omega, fun _ => ⟨by omega, by omega, by omega, ih (j + 1) _ (by omega) (fun c q1 q2 => by rw [up2_row q1]; exact f1 c q1 q2) (fun c hc => ?_) (fun c hc => ?_)⟩⟩
      · obtain ⟨u, q1, q2⟩ := h6 c hc
        exact ⟨u, by rw [up2_out (by omega)]; exact q1, q2⟩
      · by_cases e : c = j
        · subst e
          refine ⟨u1 &&& u2, up2_same, Nat.lt_of_le_of_lt Nat.and_le_left w1, fun v => ?_⟩
          have : Bs (u1 &&& u2) v ↔ Bs u1 v ∧ Bs u2 v := by unfold Bs; rw [Nat.testBit_and, Bool.and_eq_true]
          rw [this, b1, b2]
          have bx : ∀ i, Bs ((2 ^ m - 1) ^^^ c) i ↔ i < m ∧ ¬ Bs c i := fun i => by
            unfold Bs
            rw [Nat.testBit_xor, full_bit]
            by_cases q : i < m
            · cases c.testBit i <;> simp [q]
            · have : ¬ Bs c i := fun z => q (bit_lt hjT z)
              rw [bsF.mp this]; simp [q]
          constructor
          · rintro ⟨⟨i, q1, q2⟩, i', q3, q4⟩
            exact ⟨⟨i, rwG_bit.mpr ⟨bit_lt hjT q1, q2⟩, q1⟩, i', rwG_bit.mpr ⟨((bx i').mp q3).1, q4⟩, ((bx i').mp q3).2⟩
          · rintro ⟨⟨i, q1, q2⟩, i', q3, q4⟩
            exact ⟨⟨i, q2, (rwG_bit.mp q1).2⟩, i', (bx i').mpr ⟨(rwG_bit.mp q3).1, q4⟩, (rwG_bit.mp q3).2⟩
        · obtain ⟨b, q1, q2⟩ := h5 c (by omega)
          exact ⟨b, by rw [up2_idx e]; exact q1, q2⟩
  have L1 : ∀ n j X', j + n = 2 ^ m → 1 ≤ j → (∀ c, c ≠ 6 → X' c = X c) → (∀ c, c < j → ∃ u, X' 6 c = nI u ∧ unP mo c u) → hX3_findBothSides_9 Q r (nI (2 ^ m - 1)) (nI j) X' Y := by
    intro n
    induction n with
    | zero =>
      intro j X' hj h1 f1 h6
      apply hX3_findBothSides_9_i
      simp (disch := omega) only [m_0, m_L0, m_lt, m_le, m_eq, m_neg, m_in, m_clamp, m_add, m_sub, m_pred, m_mul, m_l, m_i, m_Land, m_Lor, m_and, m_or, m_xor, m_Landn, m_andn, m_LshlP, m_shl, m_LbitP, m_bit, m_cmp0P, m_Lb0, m_Lb1, m_b0, m_b1, Nat.one_mul]
      exact ⟨fun _ => L2 _ 0 X' (Nat.zero_add _) (fun c _ q2 => f1 c q2) (fun c hc => h6 c (by omega)) (fun c hc => by omega), fun h => by omega⟩
    | succ n ih =>
      intro j X' hj h1 f1 h6
      have hjT : j < 2 ^ m := by omega
      obtain ⟨l, hl1, hl2, e1, -⟩ := low_of (show 0 < j by omega)
      have hlt := low_lt hl1
      obtain ⟨u, e2, w2, b2⟩ := h6 _ hlt
      apply hX3_findBothSides_9_i
      simp (disch := omega) only [m_0, m_L0, m_lt, m_le, m_eq, m_neg, m_in, m_clamp, m_add, m_sub, m_pred, m_mul, m_l, m_i, m_Land, m_Lor, m_and, m_or, m_xor, m_Landn, m_andn, m_LshlP, m_shl, m_LbitP, m_bit, m_cmp0P, m_Lb0, m_Lb1, m_b0, m_b1, Nat.one_mul, e1]
      refine ⟨fun h => by omega, fun _ => ⟨by omega, X8_lowest_s (by omega) (by omega) (fun l' q1 q2 q3 => cK1_mk ?_)⟩⟩
      have el : l' = l := low_uq hl1 hl2 q2 q3
      subst el
      have hlm : l' < m := bit_lt hjT hl1
      have hmo := hV.2.2 l' hlm
      have f9 : X' 1 = X 1 := f1 1 (by omega)
      simp (disch := omega) only [m_0, m_L0, m_lt, m_le, m_eq, m_neg, m_in, m_clamp, m_add, m_sub, m_pred, m_mul, m_l, m_i, m_Land, m_Lor, m_and, m_or, m_xor, m_Landn, m_andn, m_LshlP, m_shl, m_LbitP, m_bit, m_cmp0P, m_Lb0, m_Lb1, m_b0, m_b1, Nat.one_mul, e2, f9, hmo.1]
      refine ⟨by omega, by omega, ih (j + 1) _ (by omega) (by omega) (fun c hc => by rw [up2_row hc]; exact f1 c hc) (fun c hc => ?_)⟩
      by_cases e : c = j
      · subst e
        refine ⟨u ||| mo l', up2_same, Nat.or_lt_two_pow (n := 9) w2 hmo.2, fun v => ?_⟩
        have : Bs (u ||| mo l') v ↔ Bs u v ∨ Bs (mo l') v := by unfold Bs; rw [Nat.testBit_or, Bool.or_eq_true]
        rw [this, b2]
        constructor
        · rintro (⟨i, z1, z2⟩ | z)
          · exact ⟨i, (nAn1_bit.mp z1).1, z2⟩
          · exact ⟨l', hl1, z⟩
        · rintro ⟨i, z1, z2⟩
          by_cases e : l' = i
          · exact Or.inr (e ▸ z2)
          · exact Or.inl ⟨i, nAn1_bit.mpr ⟨z1, e⟩, z2⟩
      · obtain ⟨b, q1, q2⟩ := h6 c (by omega)
        exact ⟨b, by rw [up2_idx e]; exact q1, q2⟩
  apply tX3_findBothSides_i
  simp (disch := omega) only [m_0, m_L0, m_lt, m_le, m_eq, m_neg, m_in, m_clamp, m_add, m_sub, m_pred, m_mul, m_l, m_i, m_Land, m_Lor, m_and, m_or, m_xor, m_Landn, m_andn, m_LshlP, m_shl, m_LbitP, m_bit, m_cmp0P, m_Lb0, m_Lb1, m_b0, m_b1, Nat.one_mul]
  refine ⟨by omega, L1 _ 1 _ (Nat.add_sub_cancel' (by omega : 1 ≤ 2 ^ m)) (Nat.le_refl _) (fun c hc => up2_row hc) (fun c hc => ?_)⟩
  have e : c = 0 := by omega
  subst e
  exact ⟨0, up2_same, by omega, fun v => ⟨fun q => by simp [Bs] at q, fun ⟨i, q, _⟩ => by simp [Bs] at q⟩⟩
theorem X3_mayB_s {c t b p q : Nat} (hc : c < 512) (ht : t < 9) (h1 : X 1 t = nI q) (hq : q < 512) (h5 : X 5 c = nI b) (hb : b < 512) (h4 : X 4 t = nI p) (hp : p < 134217728) (k : ∀ z : Bool, (z = true ↔ ¬ Bs c t ∧ (∀ v, Bs b v → Bs q v) ∧ ∀ j, Bs p j → Bs c j) → Q (.inl (some (.int (nI z.toNat)))) (LX3 ++ r) X Y) : tX3_mayFollow [.ref 0, .int (nI c), .int (nI t)] (LX3 ++ r) X Y Q := by
  have n1 := nAn_le b q
  have n2 := nAn_le p c
  apply tX3_mayFollow_i
  simp (disch := omega) only [m_0, m_L0, m_lt, m_le, m_eq, m_neg, m_in, m_clamp, m_add, m_sub, m_pred, m_mul, m_l, m_i, m_Land, m_Lor, m_and, m_or, m_xor, m_Landn, m_andn, m_LshlP, m_shl, m_LbitP, m_bit, m_cmp0P, m_Lb0, m_Lb1, m_b0, m_b1, Nat.one_mul, h1, h5, h4]
  refine ⟨fun h => ⟨(by first | exact Or.inl rfl | exact Or.inr rfl | exact Or.inl trivial | exact Or.inr trivial), k false ⟨fun z => (by cases z), fun z => absurd (bsF.mp z.1) h⟩⟩, fun h => ⟨hc, by omega, fun h2 => ⟨(by first | exact Or.inl rfl | exact Or.inr rfl | exact Or.inl trivial | exact Or.inr trivial), k false ⟨fun z => (by cases z), fun z => absurd (nAn_0.mpr z.2.1) h2⟩⟩, fun h2 => ⟨ht, fun h3 => ⟨(by first | exact Or.inl rfl | exact Or.inr rfl | exact Or.inl trivial | exact Or.inr trivial), k false ⟨fun z => (by cases z), fun z => absurd (nAn_0.mpr z.2.2) h3⟩⟩, fun h3 => ⟨(by first | exact Or.inl rfl | exact Or.inr rfl | exact Or.inl trivial | exact Or.inr trivial), k true ⟨fun _ => ⟨bsF.mpr (Classical.not_not.mp h), nAn_0.mp (Classical.not_not.mp h2), nAn_0.mp (Classical.not_not.mp h3)⟩, fun _ => rfl⟩⟩⟩⟩⟩
theorem bd_may {c t b : Nat} (hmo : ∀ k, k < m → mo k < 512) (ht : t < m) (hb : bdP mo m c b) : (∀ v, Bs b v → Bs (mo t) v) ↔ mayS (rwG mo m) 9 c t := by
  constructor
  · intro h v hv h1 h2
    exact rwG_bit.mpr ⟨ht, h v ((hb.2 v).mpr ⟨h1, h2⟩)⟩
  · intro h v hv
    have h1 := (hb.2 v).mp hv
    exact (rwG_bit.mp (h v (bit_lt (k := 9) hb.1 hv) h1.1 h1.2)).2
/-- what findLayings leaves -/
noncomputable def en (m : Nat) (may : Nat → Nat → Prop) (c : Nat) : Nat := @ite Nat (rcP m may c ∨ c = 2 ^ m - 1) (Classical.propDecidable _) (wy m may c) 0
def B5 (X : HX) (m : Nat) (mo : Nat → Nat) : Prop := ∀ c, c < 2 ^ m → ∃ b, X 5 c = nI b ∧ bdP mo m c b
theorem X3_may_s {c t : Nat} (hm : m ≤ 9) (hV : LV X m mo) (hP : PV X P) (h5 : B5 X m mo) (hc : c < 2 ^ m) (ht : t < m) (k : ∀ z : Bool, (z = true ↔ c.testBit t = false ∧ mayG mo m P c t) → Q (.inl (some (.int (nI z.toNat)))) (LX3 ++ r) X Y) : tX3_mayFollow [.ref 0, .int (nI c), .int (nI t)] (LX3 ++ r) X Y Q := by
  have hT := pw9 hm
  obtain ⟨b, e, hb⟩ := h5 c hc
  have h1 := hV.2.2 t ht
  have h4 := hP t (by omega)
  refine X3_mayB_s (by omega) (by omega) h1.1 h1.2 e hb.1 h4.1 h4.2 (fun z hz => k z (hz.trans ?_))
  rw [bd_may (fun k hk => (hV.2.2 k hk).2) ht hb, bsF]
  rfl
theorem b01n (b : Bool) : b.toNat < 2 := by cases b <;> decide
theorem X3_reach_s (hm : m ≤ 9) (hV : LV X m mo) (hP : PV X P) (h5 : B5 X m mo) (k : ∀ X', (∀ c, c ≠ 6 → X' c = X c) → (∀ z : Nat → Bool, (∀ c, c < 2 ^ m → X' 6 c = nI (z c).toNat) → (∀ c, c < 2 ^ m → (z c = true ↔ rcP m (mayG mo m P) c)) → Q (.inl none) (LX3 ++ r) X' Y)) : tX3_findReached [.ref 0, .int (nI (2 ^ m - 1))] (LX3 ++ r) X Y Q := by
  have hT := pw9 hm
  have hT0 := Nat.two_pow_pos m
  -- the steps: cuts from j on, MOMENTS from i on
  have H : ∀ n j X' (z : Nat → Bool), j + n = 2 ^ m - 1 → (∀ c, c ≠ 6 → X' c = X c) → (∀ c, c < 2 ^ m → X' 6 c = nI (z c).toNat) → z 0 = true → (∀ c, c < 2 ^ m → z c = true → rcP m (mayG mo m P) c) → (∀ d t, d < j → t < m → z d = true → d.testBit t = false → mayG mo m P d t → z (d ||| 2 ^ t) = true) → hX3_findReached_30 Q r (nI (2 ^ m - 1)) (nI j) X' Y := by
    intro n
    induction n with
    | zero =>
      intro j X' z hj f1 h6 h0 h1 h2
      apply hX3_findReached_30_i
      simp (disch := omega) only [m_0, m_L0, m_lt, m_le, m_eq, m_neg, m_in, m_clamp, m_add, m_sub, m_pred, m_mul, m_l, m_i, m_Land, m_Lor, m_and, m_or, m_xor, m_Landn, m_andn, m_LshlP, m_shl, m_LbitP, m_bit, m_cmp0P, m_Lb0, m_Lb1, m_b0, m_b1, Nat.one_mul]
      refine ⟨fun _ => k X' f1 z h6 (fun c hc => ⟨h1 c hc, fun hr => ?_⟩), fun h => by omega⟩
      refine (hr (fun c => c < 2 ^ m ∧ z c = true) ⟨hT0, h0⟩ ?_).2
      rintro d t ⟨q1, q2⟩ hd ht hb hy
      refine ⟨or_lt hd ht, h2 d t ?_ ht q2 hb hy⟩
      have : d ≠ 2 ^ m - 1 := fun e => by rw [e, full_bit] at hb; simp [ht] at hb
      omega
    | succ n ih =>
      intro j X' z hj f1 h6 h0 h1 h2
      have hjT : j < 2 ^ m := by omega
      apply hX3_findReached_30_i
      simp (disch := omega) only [m_0, m_L0, m_lt, m_le, m_eq, m_neg, m_in, m_clamp, m_add, m_sub, m_pred, m_mul, m_l, m_i, m_Land, m_Lor, m_and, m_or, m_xor, m_Landn, m_andn, m_LshlP, m_shl, m_LbitP, m_bit, m_cmp0P, m_Lb0, m_Lb1, m_b0, m_b1, Nat.one_mul]
      refine ⟨fun h => by omega, fun _ => ?_⟩
      have G : ∀ p i X' (z : Nat → Bool), i + p = m → (∀ c, c ≠ 6 → X' c = X c) → (∀ c, c < 2 ^ m → X' 6 c = nI (z c).toNat) → z 0 = true → (∀ c, c < 2 ^ m → z c = true → rcP m (mayG mo m P) c) → (∀ d t, (d < j ∨ (d = j ∧ t < i)) → t < m → z d = true → d.testBit t = false → mayG mo m P d t → z (d ||| 2 ^ t) = true) → hX3_findReached_37 Q r (nI (2 ^ m - 1)) (nI j) (nI i) X' Y := by
        intro p
        induction p with
        | zero =>
          intro i X' z hi f1 h6 h0 h1 h2
          have e3 : X' 0 = X 0 := f1 0 (by omega)
          apply hX3_findReached_37_i
          have hm27 := hV.1
          simp (disch := omega) only [m_0, m_L0, m_lt, m_le, m_eq, m_neg, m_in, m_clamp, m_add, m_sub, m_pred, m_mul, m_l, m_i, m_Land, m_Lor, m_and, m_or, m_xor, m_Landn, m_andn, m_LshlP, m_shl, m_LbitP, m_bit, m_cmp0P, m_Lb0, m_Lb1, m_b0, m_b1, Nat.one_mul, e3, hV.2.1]
          exact ⟨fun _ => ih (j + 1) X' z (by omega) f1 h6 h0 h1 (fun d t hd ht => h2 d t (by omega) ht), fun h => by omega⟩
        | succ p ihp =>
          intro i X' z hi f1 h6 h0 h1 h2
          have e3 : X' 0 = X 0 := f1 0 (by omega)
          have e1 : X' 1 = X 1 := f1 1 (by omega)
          have e4 : X' 4 = X 4 := f1 4 (by omega)
          have e5 : X' 5 = X 5 := f1 5 (by omega)
          have hV' : LV X' m mo := by unfold LV; rw [e3, e1]; exact hV
          have hP' : PV X' P := by unfold PV; rw [e4]; exact hP
          have h5' : B5 X' m mo := by unfold B5; rw [e5]; exact h5
          have hzb := b01n (z j)
          have him : i < m := by omega
          apply hX3_findReached_37_i
          simp (disch := omega) only [m_0, m_L0, m_lt, m_le, m_eq, m_neg, m_in, m_clamp, m_add, m_sub, m_pred, m_mul, m_l, m_i, m_Land, m_Lor, m_and, m_or, m_xor, m_Landn, m_andn, m_LshlP, m_shl, m_LbitP, m_bit, m_cmp0P, m_Lb0, m_Lb1, m_b0, m_b1, Nat.one_mul, hV'.2.1, h6 j hjT]
          refine ⟨fun h => by omega, fun _ => ⟨by omega, fun hz => ?_, fun hz => ?_⟩⟩
          · have hz0 : z j = false := by cases q : z j; rfl; rw [q] at hz; exact absurd hz (by decide)
            exact ih (j + 1) X' z (by omega) f1 h6 h0 h1 (fun d t hd ht q => by
              by_cases e : d = j
              · rw [e, hz0] at q; cases q
              · exact h2 d t (Or.inl (by omega)) ht q)
          · have hz1 : z j = true := by cases q : z j; rw [q] at hz; exact absurd rfl hz; rfl
            refine X3_may_s hm hV' hP' h5' hjT him (fun y hy => cK1_mk ⟨fun q => ?_, fun q => ?_⟩)
            · have hy0 : y = false := by cases y; rfl; exact absurd q (by decide)
              refine ihp (i + 1) X' z (by omega) f1 h6 h0 h1 (fun d t hd ht q1 q2 q3 => ?_)
              by_cases e : d = j ∧ t = i
              · have := hy.mpr (by rw [← e.1, ← e.2]; exact ⟨q2, q3⟩)
                rw [hy0] at this; cases this
              · exact h2 d t (by omega) ht q1 q2 q3
            · have hy1 : y = true := by cases y; exact absurd rfl q; rfl
              have hy2 := hy.mp hy1
              have hlt := or_lt hjT him
              simp (disch := omega) only [m_0, m_L0, m_lt, m_le, m_eq, m_neg, m_in, m_clamp, m_add, m_sub, m_pred, m_mul, m_l, m_i, m_Land, m_Lor, m_and, m_or, m_xor, m_Landn, m_andn, m_LshlP, m_shl, m_LbitP, m_bit, m_cmp0P, m_Lb0, m_Lb1, m_b0, m_b1, Nat.one_mul]
              refine ⟨by omega, ihp (i + 1) _ (fun c => if c = j ||| 2 ^ i then true else z c) (by omega) (fun c hc => by rw [up2_row hc]; exact f1 c hc) (fun c hc => ?_) (by split <;> first | rfl | exact h0) (fun c hc q1 => ?_) (fun d t hd ht q1 q2 q3 => ?_)⟩
              · by_cases e : c = j ||| 2 ^ i
                · subst e; simp only [up2_same, if_true]; rfl
                · simp only [up2_idx e, e, if_false]; exact h6 c hc
              · by_cases e : c = j ||| 2 ^ i
                · subst e; exact (h1 j hjT hz1).step hjT him hy2.1 hy2.2
                · simp only [e, if_false] at q1; exact h1 c hc q1
              · by_cases e : d ||| 2 ^ t = j ||| 2 ^ i
                · simp only [e, if_true]
                · simp only [e, if_false]
                  have hdj : d ≠ j ||| 2 ^ i := fun e2 => by
                    have : j < j ||| 2 ^ i := Nat.lt_of_le_of_ne Nat.left_le_or (fun e3 => by
                      have := hy2.1
                      rw [e3, or_bit] at this; simp at this)
                    omega
                  simp only [hdj, if_false] at q1
                  refine h2 d t ?_ ht q1 q2 q3
                  rcases hd with hd | ⟨hd, ht2⟩
                  · exact Or.inl hd
                  · refine Or.inr ⟨hd, ?_⟩
                    have : t ≠ i := fun e4 => e (by rw [hd, e4])
                    omega
      exact G m 0 X' z (Nat.zero_add _) f1 h6 h0 h1 (fun d t hd ht => h2 d t (by omega) ht)
  have L1 : ∀ n j X', j + n = 2 ^ m → (∀ c, c ≠ 6 → X' c = X c) → (∀ c, c < j → X' 6 c = nI (decide (c = 0)).toNat) → hX3_findReached_2 Q r (nI (2 ^ m - 1)) (nI j) X' Y := by
    intro n
    induction n with
    | zero =>
      intro j X' hj f1 h6
      apply hX3_findReached_2_i
      simp (disch := omega) only [m_0, m_L0, m_lt, m_le, m_eq, m_neg, m_in, m_clamp, m_add, m_sub, m_pred, m_mul, m_l, m_i, m_Land, m_Lor, m_and, m_or, m_xor, m_Landn, m_andn, m_LshlP, m_shl, m_LbitP, m_bit, m_cmp0P, m_Lb0, m_Lb1, m_b0, m_b1, Nat.one_mul]
      refine ⟨fun _ => H _ 0 X' (fun c => decide (c = 0)) (Nat.zero_add _) f1 (fun c hc => h6 c (by omega)) rfl (fun c hc q => ?_) (fun d t hd => by omega), fun h => by omega⟩
      have : c = 0 := by simpa using q
      rw [this]; exact rcP.zero
    | succ n ih =>
      intro j X' hj f1 h6
      apply hX3_findReached_2_i
      simp (disch := omega) only [m_0, m_L0, m_lt, m_le, m_eq, m_neg, m_in, m_clamp, m_add, m_sub, m_pred, m_mul, m_l, m_i, m_Land, m_Lor, m_and, m_or, m_xor, m_Landn, m_andn, m_LshlP, m_shl, m_LbitP, m_bit, m_cmp0P, m_Lb0, m_Lb1, m_b0, m_b1, Nat.one_mul]
      refine ⟨fun h => by omega, fun _ => ⟨fun hj0 => ⟨by omega, ih (j + 1) _ (by omega) (fun c hc => by rw [up2_row hc]; exact f1 c hc) (fun c hc => ?_)⟩, fun hj0 => ⟨by omega, ih (j + 1) _ (by omega) (fun c hc => by rw [up2_row hc]; exact f1 c hc) (fun c hc => ?_)⟩⟩⟩
      · by_cases e : c = j
        · subst e; rw [up2_same]; simp [hj0]
        · rw [up2_idx e]; exact h6 c (by omega)
      · by_cases e : c = j
        · subst e; rw [up2_same]; simp [Classical.not_not.mp hj0]
        · rw [up2_idx e]; exact h6 c (by omega)
  apply tX3_findReached_i
  exact L1 _ 0 X (Nat.zero_add _) (fun _ _ => rfl) (fun c hc => by omega)
end LayC
