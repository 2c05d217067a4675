/-! more of Laying, by the class: side by side, spans, orders told, rooms, MOMENTS found -/
/-- a set stands side by side in every order -/
def sbP (m : Nat) (may : Nat → Nat → Prop) (S : Nat) : Prop := ∀ o, LyN m may m o → ∀ i, i < m → (∃ j, Bs S j ∧ Bs (ctO o i) j) → (∃ j, Bs S j ∧ ¬ Bs (ctO o i) j) → Bs S (o i)
/-- a guest comes at a place of some order -/
def frP (m : Nat) (may : Nat → Nat → Prop) (mo : Nat → Nat) (g p : Nat) : Prop := ∃ o, LyN m may m o ∧ p < m ∧ Bs (mo (o p)) g ∧ ∀ j, j < p → ¬ Bs (mo (o j)) g
def spL (m : Nat) (may : Nat → Nat → Prop) (mo : Nat → Nat) (g : Nat) (z : Int) : Prop := (z = -1 ∧ ∀ p, ¬ frP m may mo g p) ∨ ∃ p : Nat, z = p ∧ frP m may mo g p ∧ ∀ q, frP m may mo g q → p ≤ q
def spH (m : Nat) (may : Nat → Nat → Prop) (mo : Nat → Nat) (g : Nat) (z : Int) : Prop := (z = -1 ∧ ∀ p, ¬ frP m may mo g p) ∨ ∃ p : Nat, z = p ∧ frP m may mo g p ∧ ∀ q, frP m may mo g q → q ≤ p
theorem mis_cnt {c : Nat} : ∀ m : Nat, mis m c + gSz (Bs c) m = m
  | 0 => rfl
  | m + 1 => by
    have ih := mis_cnt (c := c) m
    unfold mis at ih ⊢
    simp only [sumN, gSz]
    by_cases h : Bs c m
    · have : bn c m = 0 := by unfold bn; rw [show c.testBit m = true from h]; rfl
      simp only [h, if_true]; omega
    · have : bn c m = 1 := bn_no (bsF.mp h)
      simp only [h, if_false]; omega
theorem cnt_ct {m : Nat} {may : Nat → Nat → Prop} {o : Nat → Nat} (hm : m ≤ 9) (ho : LyN m may m o) {i : Nat} (hi : i ≤ m) : cnt (ctO o i) = i := by
  obtain ⟨h1, h2⟩ := ho.cut i hi
  have h3 := mis_cnt (c := ctO o i) m
  have h4 : cnt (ctO o i) = gSz (Bs (ctO o i)) m := by
    rw [cnt_sz]
    have := gSz_out (P := Bs (ctO o i)) (n := m) (fun v hv => bit_lt h1 hv) (64 - m)
    rwa [show m + (64 - m) = 64 by omega] at this
  omega
section LayE
variable {Q : Qt} {r : Ly} {X : HX} {Y : HY} {m : Nat} {mo P : Nat → Nat}
theorem X3_side_s {S : Nat} (hC : CV X m mo P) (hS : S < 2 ^ m) (k : ∀ z : Bool, (z = true ↔ (ldP m mo P → sbP m (mayG mo m P) S)) → Q (.inl (some (.int (nI z.toNat)))) (LX3 ++ r) X Y) : tX3_isSideBySide [.ref 0, .int (nI S)] (LX3 ++ r) X Y Q := by
  apply tX3_isSideBySide_i
  by_cases hl : ldP m mo P
  · obtain ⟨hm, hw⟩ := id hl
    have hT := pw9 hm
    have h7 : ∀ c, c < 2 ^ m → X 7 c = nI (en m (mayG mo m P) c) := by
      obtain ⟨-, -, h | h⟩ := hC
      · exact h.2.2
      · omega
    have H : ∀ n j, j + n = 2 ^ m → (∀ c, c < j → (∃ i, Bs S i ∧ Bs c i) → (∃ i, Bs S i ∧ ¬ Bs c i) → ∀ t, t < m → ¬ Bs S t → ¬ stE m (mayG mo m P) c t) → hX3_isSideBySide_2 Q r (nI S) (nI j) X Y := by
      intro n
      induction n with
      | zero =>
        intro j hj hI
        apply hX3_isSideBySide_2_i
        refine X3_isLaid_s hC (fun z hz => cK1_mk ?_)
        have hz1 : z = true := hz.mpr hl
        subst hz1
        simp (disch := omega) only [m_0, m_L0, m_lt, m_le, m_eq, m_neg, m_in, m_clamp, m_add, m_sub, m_pred, m_mul, m_l, m_i, m_Land, m_Lor, m_and, m_or, m_xor, m_Landn, m_andn, m_LshlP, m_shl, m_LbitP, m_bit, m_cmp0P, m_Lb0, m_Lb1, m_b0, m_b1, Nat.one_mul, hC.1.2.1]
        refine ⟨fun h => absurd h (by decide), fun _ => ⟨fun _ => ⟨(by first | exact Or.inl rfl | exact Or.inr rfl | exact Or.inl trivial | exact Or.inr trivial), k true ⟨fun _ _ => ?_, fun _ => rfl⟩⟩, fun h => by omega⟩⟩
        intro o ho i hi h1 h2
        refine Classical.byContradiction fun hn => ?_
        exact hI (ctO o i) (by have := (ho.cut i (by omega)).1; omega) h1 h2 (o i) (ho i hi).1 hn ⟨o, ho, i, hi, rfl, rfl⟩
      | succ n ih =>
        intro j hj hI
        have hjT : j < 2 ^ m := by omega
        have b1 := en_le (may := mayG mo m P) hm hjT
        have n2 : j &&& S ≤ j := Nat.and_le_left
        have nx : ((∃ i, Bs S i ∧ Bs j i) → (∃ i, Bs S i ∧ ¬ Bs j i) → ∀ t, t < m → ¬ Bs S t → ¬ stE m (mayG mo m P) j t) → hX3_isSideBySide_2 Q r (nI S) (nI (j + 1)) X Y := fun h => ih (j + 1) (by omega) (fun c hc => by
          by_cases e : c = j
          · subst e; exact h
          · exact hI c (by omega))
        apply hX3_isSideBySide_2_i
        refine X3_isLaid_s hC (fun z hz => cK1_mk ?_)
        have hz1 : z = true := hz.mpr hl
        subst hz1
        simp (disch := omega) only [m_0, m_L0, m_lt, m_le, m_eq, m_neg, m_in, m_clamp, m_add, m_sub, m_pred, m_mul, m_l, m_i, m_Land, m_Lor, m_and, m_or, m_xor, m_Landn, m_andn, m_LshlP, m_shl, m_LbitP, m_bit, m_cmp0P, m_Lb0, m_Lb1, m_b0, m_b1, Nat.one_mul, hC.1.2.1, h7 j hjT]
        refine ⟨fun h => absurd h (by decide), fun _ => ⟨fun h => by omega, fun _ => ⟨fun h => by omega, fun _ => ⟨by omega, fun q => nx (fun _ _ t ht _ hs => ((stE_iff hjT ht).mp hs).1 q), fun q => ⟨fun q2 => nx (fun ⟨i, h1, h2⟩ _ => absurd h1 (and_0.mp q2 i h2)), fun q2 => ⟨fun q3 => ?_, fun q3 => nx (fun _ ⟨i, h1, h2⟩ => ?_)⟩⟩⟩⟩⟩⟩
        · -- partly had
          obtain ⟨x, hx⟩ := ne0_bit q2
          rw [Nat.testBit_and, Bool.and_eq_true] at hx
          have hy : ∃ i, Bs S i ∧ ¬ Bs j i := Classical.byContradiction fun hn => q3 (by
            apply Nat.eq_of_testBit_eq; intro i
            rw [Nat.testBit_and]
            cases hSi : S.testBit i
            · simp
            · have : j.testBit i = true := by
                cases hji : j.testBit i
                · exact absurd ⟨i, hSi, bsF.mpr hji⟩ hn
                · rfl
              rw [this]; rfl)
          have G : ∀ p t, t + p = m → (∀ t', t' < t → ¬ Bs S t' → ¬ stE m (mayG mo m P) j t') → hX3_isSideBySide_54 Q r (nI S) (nI j) (nI t) X Y := by
            intro p
            induction p with
            | zero =>
              intro t ht hJ
              apply hX3_isSideBySide_54_i
              simp (disch := omega) only [m_0, m_L0, m_lt, m_le, m_eq, m_neg, m_in, m_clamp, m_add, m_sub, m_pred, m_mul, m_l, m_i, m_Land, m_Lor, m_and, m_or, m_xor, m_Landn, m_andn, m_LshlP, m_shl, m_LbitP, m_bit, m_cmp0P, m_Lb0, m_Lb1, m_b0, m_b1, Nat.one_mul, hC.1.2.1]
              exact ⟨fun _ => nx (fun _ _ t' ht' => hJ t' (by omega)), fun h => by omega⟩
            | succ p ihp =>
              intro t ht hJ
              have htm : t < m := by omega
              have nx2 : (¬ Bs S t → ¬ stE m (mayG mo m P) j t) → hX3_isSideBySide_54 Q r (nI S) (nI j) (nI (t + 1)) X Y := fun h => ihp (t + 1) (by omega) (fun t' ht' => by
                by_cases e : t' = t
                · subst e; exact h
                · exact hJ t' (by omega))
              apply hX3_isSideBySide_54_i
              simp (disch := omega) only [m_0, m_L0, m_lt, m_le, m_eq, m_neg, m_in, m_clamp, m_add, m_sub, m_pred, m_mul, m_l, m_i, m_Land, m_Lor, m_and, m_or, m_xor, m_Landn, m_andn, m_LshlP, m_shl, m_LbitP, m_bit, m_cmp0P, m_Lb0, m_Lb1, m_b0, m_b1, Nat.one_mul, hC.1.2.1]
              refine ⟨fun h => by omega, fun _ => ⟨fun h => nx2 (fun h2 => absurd (nz_nz h) h2), fun h => X3_leads_s hC hm hjT htm (fun y hy2 => cK1_mk ⟨fun h2 => nx2 (fun _ hs => by rw [hy2.mpr hs] at h2; exact absurd h2 (by decide)), fun h2 => ⟨(by first | exact Or.inl rfl | exact Or.inr rfl | exact Or.inl trivial | exact Or.inr trivial), k false ⟨fun z => (by cases z), fun z => ?_⟩⟩⟩)⟩⟩
              have hs := hy2.mp (by cases y; exact absurd rfl h2; rfl)
              have hn : ¬ Bs S t := bsF.mpr (Classical.not_not.mp h)
              obtain ⟨o, ho, i, hi, rfl, rfl⟩ := hs
              exact absurd (z hl o ho i hi ⟨x, hx.2, hx.1⟩ hy) hn
          exact G m 0 (Nat.zero_add _) (fun t ht => by omega)
        · have q3 := Classical.not_not.mp q3
          have h3 : (j &&& S).testBit i = true := by rw [q3]; exact h1
          rw [Nat.testBit_and, Bool.and_eq_true] at h3
          exact absurd h3.1 h2
    exact H _ 0 (Nat.zero_add _) (fun c hc => by omega)
  · apply hX3_isSideBySide_2_i
    refine X3_isLaid_s hC (fun z hz => cK1_mk ?_)
    have hz0 : z = false := by cases z; rfl; exact absurd (hz.mp rfl) hl
    subst hz0
    exact ⟨fun _ => ⟨(by first | exact Or.inl rfl | exact Or.inr rfl | exact Or.inl trivial | exact Or.inr trivial), k true ⟨fun _ q => absurd q hl, fun _ => rfl⟩⟩, fun h => absurd rfl h⟩
/-- a guest's first MOMENT may be next -/
def cbP (m : Nat) (may : Nat → Nat → Prop) (mo : Nat → Nat) (c g : Nat) : Prop := (∀ j, Bs (rwG mo m g) j → ¬ Bs c j) ∧ ∃ t, t < m ∧ Bs (mo t) g ∧ stE m may c t
theorem X3_comes_s {c g : Nat} (hC : CV X m mo P) (hm : m ≤ 9) (hc : c < 2 ^ m) (hg : g < 9) (k : ∀ z : Bool, (z = true ↔ cbP m (mayG mo m P) mo c g) → Q (.inl (some (.int (nI z.toNat)))) (LX3 ++ r) X Y) : tX3_comesBehind [.ref 0, .int (nI c), .int (nI g)] (LX3 ++ r) X Y Q := by
  have hT := pw9 hm
  have hr := rwG_lt mo m g
  have n1 : rwG mo m g &&& c ≤ rwG mo m g := Nat.and_le_left
  apply tX3_comesBehind_i
  refine X3_of_s hC.1 hg (cK1_mk ?_)
  simp (disch := omega) only [m_0, m_L0, m_lt, m_le, m_eq, m_neg, m_in, m_clamp, m_add, m_sub, m_pred, m_mul, m_l, m_i, m_Land, m_Lor, m_and, m_or, m_xor, m_Landn, m_andn, m_LshlP, m_shl, m_LbitP, m_bit, m_cmp0P, m_Lb0, m_Lb1, m_b0, m_b1, Nat.one_mul]
  refine ⟨fun q => ?_, fun q => ⟨(by first | exact Or.inl rfl | exact Or.inr rfl | exact Or.inl trivial | exact Or.inr trivial), k false ⟨fun z => (by cases z), fun z => absurd (and_0.mpr z.1) q⟩⟩⟩
  have H : ∀ n t, t + n = m → (∀ t', t' < t → Bs (mo t') g → ¬ stE m (mayG mo m P) c t') → hX3_comesBehind_14 Q r (nI c) (nI g) (nI t) X Y := by
    intro n
    induction n with
    | zero =>
      intro t ht hI
      apply hX3_comesBehind_14_i
      simp (disch := omega) only [m_0, m_L0, m_lt, m_le, m_eq, m_neg, m_in, m_clamp, m_add, m_sub, m_pred, m_mul, m_l, m_i, m_Land, m_Lor, m_and, m_or, m_xor, m_Landn, m_andn, m_LshlP, m_shl, m_LbitP, m_bit, m_cmp0P, m_Lb0, m_Lb1, m_b0, m_b1, Nat.one_mul, hC.1.2.1]
      refine ⟨fun _ => ⟨(by first | exact Or.inl rfl | exact Or.inr rfl | exact Or.inl trivial | exact Or.inr trivial), k false ⟨fun z => (by cases z), fun z => ?_⟩⟩, fun h => by omega⟩
      obtain ⟨-, t', h1, h2, h3⟩ := z
      exact absurd h3 (hI t' (by omega) h2)
    | succ n ih =>
      intro t ht hI
      have htm : t < m := by omega
      have h1 := hC.1.2.2 t htm
      have hm27 := hC.1.1
      have nx : (Bs (mo t) g → ¬ stE m (mayG mo m P) c t) → hX3_comesBehind_14 Q r (nI c) (nI g) (nI (t + 1)) X Y := fun h => ih (t + 1) (by omega) (fun t' ht' => by
        by_cases e : t' = t
        · subst e; exact h
        · exact hI t' (by omega))
      apply hX3_comesBehind_14_i
      simp (disch := omega) only [m_0, m_L0, m_lt, m_le, m_eq, m_neg, m_in, m_clamp, m_add, m_sub, m_pred, m_mul, m_l, m_i, m_Land, m_Lor, m_and, m_or, m_xor, m_Landn, m_andn, m_LshlP, m_shl, m_LbitP, m_bit, m_cmp0P, m_Lb0, m_Lb1, m_b0, m_b1, Nat.one_mul, hC.1.2.1, h1.1]
      refine ⟨fun h => by omega, fun _ => ⟨fun h => by omega, fun _ => ⟨by omega, fun h => nx (fun h2 => absurd h2 (bsF.mpr h)), fun h => X3_leads_s hC hm hc htm (fun y hy => cK1_mk ⟨fun h2 => nx (fun _ hs => by rw [hy.mpr hs] at h2; exact absurd h2 (by decide)), fun h2 => ⟨(by first | exact Or.inl rfl | exact Or.inr rfl | exact Or.inl trivial | exact Or.inr trivial), k true ⟨fun _ => ⟨and_0.mp q, t, htm, nz_nz h, hy.mp (by cases y; exact absurd rfl h2; rfl)⟩, fun _ => rfl⟩⟩⟩)⟩⟩⟩
  exact H m 0 (Nat.zero_add _) (fun t ht => by omega)
theorem cb_fr {may : Nat → Nat → Prop} {c g : Nat} (hm : m ≤ 9) (h : cbP m may mo c g) : frP m may mo g (cnt c) := by
  obtain ⟨h1, t, ht, h2, o, ho, i, hi, rfl, rfl⟩ := h
  rw [cnt_ct hm ho (by omega)]
  refine ⟨o, ho, hi, h2, fun j hj hb => h1 (o j) (rwG_bit.mpr ⟨(ho j (by omega)).1, hb⟩) (ctO_bit.mpr ⟨j, hj, rfl⟩)⟩
theorem fr_cb {may : Nat → Nat → Prop} {g p : Nat} (hm : m ≤ 9) (h : frP m may mo g p) : ∃ c, c < 2 ^ m ∧ cnt c = p ∧ cbP m may mo c g := by
  obtain ⟨o, ho, hp, h1, h2⟩ := h
  refine ⟨ctO o p, (ho.cut p (by omega)).1, cnt_ct hm ho (by omega), fun j hj hb => ?_, o p, (ho p hp).1, h1, o, ho, p, hp, rfl, rfl⟩
  obtain ⟨i, hi, rfl⟩ := ctO_bit.mp hb
  exact h2 i hi (rwG_bit.mp hj).2
theorem ldno {g : Nat} (hm9 : m ≤ 9) (h : ¬ ldP m mo P) : ∀ p, ¬ frP m (mayG mo m P) mo g p := fun _ ⟨o, ho, _⟩ => h ⟨hm9, wy_ex.mpr ⟨o, ho⟩⟩
theorem X3_early_s {g : Nat} (hC : CV X m mo P) (hg : g < 9) (k : ∀ z : Int, (ldP m mo P → spL m (mayG mo m P) mo g z) → (¬ ldP m mo P → z = -1) → -1 ≤ z → z < 64 → Q (.inl (some (.int (zI z)))) (LX3 ++ r) X Y) : tX3_earliestFirst [.ref 0, .int (nI g)] (LX3 ++ r) X Y Q := by
  apply tX3_earliestFirst_i
  by_cases hl : ldP m mo P
  · obtain ⟨hm, hw⟩ := id hl
    have hT := pw9 hm
    have H : ∀ n j (z : Int), j + n = 2 ^ m → ((z = -1 ∧ ∀ c, c < j → ¬ cbP m (mayG mo m P) mo c g) ∨ ∃ p : Nat, z = p ∧ p ≤ 64 ∧ frP m (mayG mo m P) mo g p ∧ ∀ c, c < j → cbP m (mayG mo m P) mo c g → p ≤ cnt c) → hX3_earliestFirst_4 Q r (nI g) (zI z) (nI j) X Y := by
      intro n
      induction n with
      | zero =>
        intro j z hj hI
        apply hX3_earliestFirst_4_i
        refine X3_isLaid_s hC (fun y hy => cK1_mk ?_)
        have hz1 : y = true := hy.mpr hl
        subst hz1
        simp (disch := omega) only [m_0, m_L0, m_lt, m_le, m_eq, m_neg, m_in, m_clamp, m_add, m_sub, m_pred, m_mul, m_l, m_i, m_Land, m_Lor, m_and, m_or, m_xor, m_Landn, m_andn, m_LshlP, m_shl, m_LbitP, m_bit, m_cmp0P, m_Lb0, m_Lb1, m_b0, m_b1, Nat.one_mul, hC.1.2.1]
        refine ⟨fun h => absurd h (by decide), fun _ => ⟨fun _ => ?_, fun h => by omega⟩⟩
        rcases hI with ⟨h1, h2⟩ | ⟨p, h1, h2, h3, h4⟩
        · refine k z (fun _ => Or.inl ⟨h1, fun p hp => ?_⟩) (fun q => absurd hl q) (by omega) (by omega)
          obtain ⟨c, hc, _, hb⟩ := fr_cb hm hp
          exact h2 c (by omega) hb
        · have hp9 : p < m := by obtain ⟨o, ho, hp, _⟩ := h3; exact hp
          refine k z (fun _ => Or.inr ⟨p, h1, h3, fun q hq => ?_⟩) (fun q => absurd hl q) (by omega) (by omega)
          obtain ⟨c, hc, e, hb⟩ := fr_cb hm hq
          rw [← e]; exact h4 c (by omega) hb
      | succ n ih =>
        intro j z hj hI
        have hjT : j < 2 ^ m := by omega
        have hcl := cnt_le j
        have hzr : -2147483648 ≤ z ∧ z < 2147483648 := by
          rcases hI with ⟨h1, -⟩ | ⟨p, h1, h2, -⟩ <;> omega
        apply hX3_earliestFirst_4_i
        refine X3_isLaid_s hC (fun y hy => cK1_mk ?_)
        have hz1 : y = true := hy.mpr hl
        subst hz1
        simp (disch := omega) only [m_0, m_L0, m_lt, m_le, m_eq, m_neg, m_in, m_clamp, m_add, m_sub, m_pred, m_mul, m_l, m_i, m_Land, m_Lor, m_and, m_or, m_xor, m_Landn, m_andn, m_LshlP, m_shl, m_LbitP, m_bit, m_cmp0P, m_Lb0, m_Lb1, m_b0, m_b1, Nat.one_mul, hC.1.2.1]
        refine ⟨fun h => absurd h (by decide), fun _ => ⟨fun h => by omega, fun _ => ⟨fun h => by omega, fun _ => bc32 (by omega) (cK1_mk ?_)⟩⟩⟩
        rw [m_negz hzr]
        have no : ¬ cbP m (mayG mo m P) mo j g → hX3_earliestFirst_4 Q r (nI g) (zI z) (nI (j + 1)) X Y := fun hn => ih (j + 1) z (by omega) (hI.imp (fun q => ⟨q.1, fun c hc => by
          by_cases e : c = j
          · subst e; exact hn
          · exact q.2 c (by omega)⟩) (fun ⟨p, q1, q2, q3, q4⟩ => ⟨p, q1, q2, q3, fun c hc hb => by
          by_cases e : c = j
          · subst e; exact absurd hb hn
          · exact q4 c (by omega) hb⟩))
        have yes : cbP m (mayG mo m P) mo j g → (∀ p : Nat, z = p → cnt j ≤ p) → hX3_earliestFirst_4 Q r (nI g) (nI (cnt j)) (nI (j + 1)) X Y := fun hb hp => by
          have h9 := ih (j + 1) (cnt j : Int) (by omega) (Or.inr ⟨cnt j, rfl, hcl, cb_fr hm hb, fun c hc hb2 => by
            by_cases e : c = j
            · subst e; exact Nat.le_refl _
            · rcases hI with ⟨q1, q2⟩ | ⟨p, q1, q2, q3, q4⟩
              · exact absurd hb2 (q2 c (by omega))
              · have := q4 c (by omega) hb2
                have := hp p q1; omega⟩)
          exact h9
        refine ⟨fun hz => X3_comes_s hC hm hjT hg (fun y hy => cK1_mk ⟨fun h => no (fun q => by rw [hy.mpr q] at h; exact absurd h (by decide)), fun h => yes (hy.mp (by cases y; exact absurd rfl h; rfl)) (fun p hp => by omega)⟩), fun hz => ?_⟩
        rw [← m_zI, m_zle hzr (by omega)]
        refine ⟨fun hle => ?_, fun hle => X3_comes_s hC hm hjT hg (fun y hy => cK1_mk ⟨fun h => no (fun q => by rw [hy.mpr q] at h; exact absurd h (by decide)), fun h => yes (hy.mp (by cases y; exact absurd rfl h; rfl)) (fun p hp => by omega)⟩)⟩
        refine ih (j + 1) z (by omega) ?_
        rcases hI with ⟨q1, q2⟩ | ⟨p, q1, q2, q3, q4⟩
        · exact absurd q1 hz
        · exact Or.inr ⟨p, q1, q2, q3, fun c hc hb => by
            by_cases e : c = j
            · subst e; omega
            · exact q4 c (by omega) hb⟩
    exact H _ 0 (-1) (Nat.zero_add _) (Or.inl ⟨rfl, fun c hc => by omega⟩)
  · apply hX3_earliestFirst_4_i
    refine X3_isLaid_s hC (fun z hz => cK1_mk ?_)
    have hz0 : z = false := by cases z; rfl; exact absurd (hz.mp rfl) hl
    subst hz0
    exact ⟨fun _ => k (-1) (fun q => absurd q hl) (fun _ => rfl) (by omega) (by omega), fun h => absurd rfl h⟩
theorem X3_latest_s {g : Nat} (hC : CV X m mo P) (hg : g < 9) (k : ∀ z : Int, (ldP m mo P → spH m (mayG mo m P) mo g z) → (¬ ldP m mo P → z = -1) → -1 ≤ z → z < 64 → Q (.inl (some (.int (zI z)))) (LX3 ++ r) X Y) : tX3_latestFirst [.ref 0, .int (nI g)] (LX3 ++ r) X Y Q := by
  apply tX3_latestFirst_i
  by_cases hl : ldP m mo P
  · obtain ⟨hm, hw⟩ := id hl
    have hT := pw9 hm
    have H : ∀ n j (z : Int), j + n = 2 ^ m → ((z = -1 ∧ ∀ c, c < j → ¬ cbP m (mayG mo m P) mo c g) ∨ ∃ p : Nat, z = p ∧ p ≤ 64 ∧ frP m (mayG mo m P) mo g p ∧ ∀ c, c < j → cbP m (mayG mo m P) mo c g → cnt c ≤ p) → hX3_latestFirst_4 Q r (nI g) (zI z) (nI j) X Y := by
      intro n
      induction n with
      | zero =>
        intro j z hj hI
        apply hX3_latestFirst_4_i
        refine X3_isLaid_s hC (fun y hy => cK1_mk ?_)
        have hz1 : y = true := hy.mpr hl
        subst hz1
        simp (disch := omega) only [m_0, m_L0, m_lt, m_le, m_eq, m_neg, m_in, m_clamp, m_add, m_sub, m_pred, m_mul, m_l, m_i, m_Land, m_Lor, m_and, m_or, m_xor, m_Landn, m_andn, m_LshlP, m_shl, m_LbitP, m_bit, m_cmp0P, m_Lb0, m_Lb1, m_b0, m_b1, Nat.one_mul, hC.1.2.1]
        refine ⟨fun h => absurd h (by decide), fun _ => ⟨fun _ => ?_, fun h => by omega⟩⟩
        rcases hI with ⟨h1, h2⟩ | ⟨p, h1, h2, h3, h4⟩
        · refine k z (fun _ => Or.inl ⟨h1, fun p hp => ?_⟩) (fun q => absurd hl q) (by omega) (by omega)
          obtain ⟨c, hc, _, hb⟩ := fr_cb hm hp
          exact h2 c (by omega) hb
        · have hp9 : p < m := by obtain ⟨o, ho, hp, _⟩ := h3; exact hp
          refine k z (fun _ => Or.inr ⟨p, h1, h3, fun q hq => ?_⟩) (fun q => absurd hl q) (by omega) (by omega)
          obtain ⟨c, hc, e, hb⟩ := fr_cb hm hq
          rw [← e]; exact h4 c (by omega) hb
      | succ n ih =>
        intro j z hj hI
        have hjT : j < 2 ^ m := by omega
        have hcl := cnt_le j
        have hzr : -2147483648 ≤ z ∧ z < 2147483648 := by
          rcases hI with ⟨h1, -⟩ | ⟨p, h1, h2, -⟩ <;> omega
        apply hX3_latestFirst_4_i
        refine X3_isLaid_s hC (fun y hy => cK1_mk ?_)
        have hz1 : y = true := hy.mpr hl
        subst hz1
        simp (disch := omega) only [m_0, m_L0, m_lt, m_le, m_eq, m_neg, m_in, m_clamp, m_add, m_sub, m_pred, m_mul, m_l, m_i, m_Land, m_Lor, m_and, m_or, m_xor, m_Landn, m_andn, m_LshlP, m_shl, m_LbitP, m_bit, m_cmp0P, m_Lb0, m_Lb1, m_b0, m_b1, Nat.one_mul, hC.1.2.1]
        refine ⟨fun h => absurd h (by decide), fun _ => ⟨fun h => by omega, fun _ => ⟨fun h => by omega, fun _ => bc32 (by omega) (cK1_mk ?_)⟩⟩⟩
        rw [← m_zI (cnt j), m_zle (by omega) hzr]
        have no : (cbP m (mayG mo m P) mo j g → (cnt j : Int) ≤ z) → hX3_latestFirst_4 Q r (nI g) (zI z) (nI (j + 1)) X Y := fun hn => ih (j + 1) z (by omega) (hI.imp (fun q => ⟨q.1, fun c hc => by
          by_cases e : c = j
          · subst e; intro hb; have := hn hb; omega
          · exact q.2 c (by omega)⟩) (fun ⟨p, q1, q2, q3, q4⟩ => ⟨p, q1, q2, q3, fun c hc hb => by
          by_cases e : c = j
          · subst e; have := hn hb; omega
          · exact q4 c (by omega) hb⟩))
        refine ⟨fun hle => no (fun _ => hle), fun hle => X3_comes_s hC hm hjT hg (fun y hy => cK1_mk ⟨fun h => no (fun q => by rw [hy.mpr q] at h; exact absurd h (by decide)), fun h => ?_⟩)⟩
        have hb := hy.mp (by cases y; exact absurd rfl h; rfl)
        refine ih (j + 1) (cnt j : Int) (by omega) (Or.inr ⟨cnt j, rfl, hcl, cb_fr hm hb, fun c hc hb2 => ?_⟩)
        by_cases e : c = j
        · subst e; exact Nat.le_refl _
        · rcases hI with ⟨q1, q2⟩ | ⟨p, q1, q2, q3, q4⟩
          · exact absurd hb2 (q2 c (by omega))
          · have := q4 c (by omega) hb2; omega
    exact H _ 0 (-1) (Nat.zero_add _) (Or.inl ⟨rfl, fun c hc => by omega⟩)
  · apply hX3_latestFirst_4_i
    refine X3_isLaid_s hC (fun z hz => cK1_mk ?_)
    have hz0 : z = false := by cases z; rfl; exact absurd (hz.mp rfl) hl
    subst hz0
    exact ⟨fun _ => k (-1) (fun q => absurd q hl) (fun _ => rfl) (by omega) (by omega), fun h => absurd rfl h⟩
/-- the one is told ahead of the other -/
def ordP (mo P : Nat → Nat) (m a b : Nat) : Nat → Nat := fun k => if k < m ∧ (mo k).testBit b = true then P k ||| rwG mo m a else P k
theorem X3_order_s {a b : Nat} (hV : LV X m mo) (hP : PV X P) (ha : a < 9) (hb : b < 9) (k : ∀ X', (∀ c, c ≠ 4 → X' c = X c) → PV X' (ordP mo P m a b) → Q (.inl none) (LX3 ++ r) X' Y) : tX3_order [.ref 0, .int (nI a), .int (nI b)] (LX3 ++ r) X Y Q := by
  have hm27 := hV.1
  have hrl : rwG mo m a < 134217728 := Nat.lt_of_lt_of_le (rwG_lt mo m a) (Nat.le_trans (Nat.pow_le_pow_right (n := 2) (by omega) hm27) (by decide : 2 ^ 27 ≤ _))
  apply tX3_order_i
  refine X3_of_s hV ha (cK1_mk ?_)
  have H : ∀ n j X', j + n = 9 → (∀ c, c ≠ 4 → X' c = X c) → PV X' (fun k => if k < j then ordP mo P m a b k else P k) → hX3_order_9 Q r (nI b) (nI (rwG mo m a)) (nI j) X' Y := by
    intro n
    induction n with
    | zero =>
      intro j X' hj f1 h4
      have fin : Q (.inl none) (LX3 ++ r) X' Y := k X' f1 (fun t ht => by
        have := h4 t ht
        simp only [show t < j by omega, if_true] at this
        exact this)
      apply hX3_order_9_i
      simp (disch := omega) only [m_0, m_L0, m_lt, m_le, m_eq, m_neg, m_in, m_clamp, m_add, m_sub, m_pred, m_mul, m_l, m_i, m_Land, m_Lor, m_and, m_or, m_xor, m_Landn, m_andn, m_LshlP, m_shl, m_LbitP, m_bit, m_cmp0P, m_Lb0, m_Lb1, m_b0, m_b1, Nat.one_mul, f1 0 (by omega), hV.2.1]
      exact ⟨fun _ => fin, fun _ => ⟨fun _ => fin, fun h => by omega⟩⟩
    | succ n ih =>
      intro j X' hj f1 h4
      have hj9 : j < 9 := by omega
      have h4j := h4 j hj9
      simp only [show ¬ j < j by omega, if_false] at h4j
      apply hX3_order_9_i
      simp (disch := omega) only [m_0, m_L0, m_lt, m_le, m_eq, m_neg, m_in, m_clamp, m_add, m_sub, m_pred, m_mul, m_l, m_i, m_Land, m_Lor, m_and, m_or, m_xor, m_Landn, m_andn, m_LshlP, m_shl, m_LbitP, m_bit, m_cmp0P, m_Lb0, m_Lb1, m_b0, m_b1, Nat.one_mul, f1 0 (by omega), f1 1 (by omega), hV.2.1]
      refine ⟨fun hmj => ?_, fun hmj => ⟨fun h => by omega, fun _ => ?_⟩⟩
      · refine k X' f1 (fun t ht => ?_)
        have := h4 t ht
        by_cases e : t < j
        · simp only [e, if_true] at this; exact this
        · simp only [e, if_false] at this
          unfold ordP
          rw [if_neg (fun q => by omega)]; exact this
      · have h1 := hV.2.2 j (by omega)
        simp (disch := omega) only [m_0, m_L0, m_lt, m_le, m_eq, m_neg, m_in, m_clamp, m_add, m_sub, m_pred, m_mul, m_l, m_i, m_Land, m_Lor, m_and, m_or, m_xor, m_Landn, m_andn, m_LshlP, m_shl, m_LbitP, m_bit, m_cmp0P, m_Lb0, m_Lb1, m_b0, m_b1, Nat.one_mul, h1.1, h4j.1]
        refine ⟨by omega, fun hb0 => ih (j + 1) X' (by omega) f1 (fun t ht => ?_), fun hb1 => ⟨hj9, hj9, ih (j + 1) _ (by omega) (fun c hc => by rw [up2_row hc]; exact f1 c hc) (fun t ht => ?_)⟩⟩
        · have := h4 t ht
          by_cases e : t = j
          · subst e
            simp only [show t < t + 1 by omega, if_true]
            unfold ordP
            rw [if_neg (fun q => by rw [q.2] at hb0; cases hb0)]; exact h4j
          · by_cases q : t < j
            · simp only [q, if_true] at this
              simp only [show t < j + 1 by omega, if_true]; exact this
            · simp only [q, if_false] at this
              simp only [show ¬ t < j + 1 by omega, if_false]; exact this
        · by_cases e : t = j
          · subst e
            simp only [show t < t + 1 by omega, if_true, up2_same]
            unfold ordP
            rw [if_pos ⟨by omega, nz_nz hb1⟩]
            exact ⟨rfl, Nat.or_lt_two_pow (n := 27) h4j.2 hrl⟩
          · have := h4 t ht
            rw [up2_idx e]
            by_cases q : t < j
            · simp only [q, if_true] at this
              simp only [show t < j + 1 by omega, if_true]; exact this
            · simp only [q, if_false] at this
              simp only [show ¬ t < j + 1 by omega, if_false]; exact this
  exact H 9 0 X (by omega) (fun _ _ => rfl) (fun t ht => by simp only [show ¬ t < 0 by omega, if_false]; exact hP t ht)
theorem X3_take_s (h27 : m ≤ 27) (h8 : X 8 3 = nI m) (h9 : ∀ k, k < m → X 9 k = nI (mo k) ∧ mo k < 512) (k : ∀ X', (∀ c, c ≠ 0 → c ≠ 1 → c ≠ 4 → X' c = X c) → (∀ i, i ≠ 3 → X' 0 i = X 0 i) → LV X' m mo → PV X' (fun _ => 0) → Q (.inl none) (LX3_3 ++ r) X' Y) : tX3_takeMoments [.ref 0, .ref 8] (LX3_3 ++ r) X Y Q := by
  apply tX3_takeMoments_i
  rw [h8]
  have L2 : ∀ n j X', j + n = 9 → (∀ c, c ≠ 0 → c ≠ 1 → c ≠ 4 → X' c = X c) → (∀ i, i ≠ 3 → X' 0 i = X 0 i) → LV X' m mo → (∀ t, t < j → X' 4 t = nI 0) → hX3_takeMoments_44 Q r (nI j) X' Y := by
    intro n
    induction n with
    | zero =>
      intro j X' hj f1 f2 hV h4
      apply hX3_takeMoments_44_i
      simp (disch := omega) only [m_0, m_L0, m_lt, m_le, m_eq, m_neg, m_in, m_clamp, m_add, m_sub, m_pred, m_mul, m_l, m_i, m_Land, m_Lor, m_and, m_or, m_xor, m_Landn, m_andn, m_LshlP, m_shl, m_LbitP, m_bit, m_cmp0P, m_Lb0, m_Lb1, m_b0, m_b1, Nat.one_mul]
      exact ⟨fun _ => k X' f1 f2 hV (fun t ht => ⟨h4 t (by omega), by show (0 : Nat) < 134217728; omega⟩), fun h => by omega⟩
    | succ n ih =>
      intro j X' hj f1 f2 hV h4
      apply hX3_takeMoments_44_i
      simp (disch := omega) only [m_0, m_L0, m_lt, m_le, m_eq, m_neg, m_in, m_clamp, m_add, m_sub, m_pred, m_mul, m_l, m_i, m_Land, m_Lor, m_and, m_or, m_xor, m_Landn, m_andn, m_LshlP, m_shl, m_LbitP, m_bit, m_cmp0P, m_Lb0, m_Lb1, m_b0, m_b1, Nat.one_mul]
      refine ⟨fun h => by omega, fun _ => ⟨by omega, ih (j + 1) _ (by omega) (fun c q1 q2 q3 => by rw [up2_row q3]; exact f1 c q1 q2 q3) (fun i hi => by rw [up2_out (by omega)]; exact f2 i hi) ?_ (fun t ht => ?_)⟩⟩
      · unfold LV; rw [up2_row (by omega), up2_row (by omega)]; exact hV
      · by_cases e : t = j
        · rw [e, up2_same]
        · rw [up2_idx e]; exact h4 t (by omega)
  have L1 : ∀ n j X', j + n = m → (∀ c, c ≠ 0 → c ≠ 1 → c ≠ 4 → X' c = X c) → (∀ i, i ≠ 3 → X' 0 i = X 0 i) → X' 0 3 = nI m → (∀ t, t < j → X' 1 t = nI (mo t)) → hX3_takeMoments_10 Q r (nI j) X' Y := by
    intro n
    induction n with
    | zero =>
      intro j X' hj f1 f2 h3 h1
      have h9 := L2 9 0 X' (by omega) f1 f2 ⟨h27, h3, fun t ht => ⟨h1 t (by omega), (h9 t ht).2⟩⟩ (fun t ht => by omega)
      apply hX3_takeMoments_10_i
      simp (disch := omega) only [m_0, m_L0, m_lt, m_le, m_eq, m_neg, m_in, m_clamp, m_add, m_sub, m_pred, m_mul, m_l, m_i, m_Land, m_Lor, m_and, m_or, m_xor, m_Landn, m_andn, m_LshlP, m_shl, m_LbitP, m_bit, m_cmp0P, m_Lb0, m_Lb1, m_b0, m_b1, Nat.one_mul, h3]
      exact ⟨fun _ => h9, fun h => by omega⟩
    | succ n ih =>
      intro j X' hj f1 f2 h3 h1
      have hj9 := h9 j (by omega)
      apply hX3_takeMoments_10_i
      simp (disch := omega) only [m_0, m_L0, m_lt, m_le, m_eq, m_neg, m_in, m_clamp, m_add, m_sub, m_pred, m_mul, m_l, m_i, m_Land, m_Lor, m_and, m_or, m_xor, m_Landn, m_andn, m_LshlP, m_shl, m_LbitP, m_bit, m_cmp0P, m_Lb0, m_Lb1, m_b0, m_b1, Nat.one_mul, h3, f1 9 (by omega) (by omega) (by omega), hj9.1]
      refine ⟨fun h => by omega, fun _ => ⟨fun h => by omega, fun _ => ⟨by omega, by omega, ih (j + 1) _ (by omega) (fun c q1 q2 q3 => by rw [up2_row q2]; exact f1 c q1 q2 q3) (fun i hi => by rw [up2_out (by omega)]; exact f2 i hi) (by rw [up2_out (by omega)]; exact h3) (fun t ht => ?_)⟩⟩⟩
      by_cases e : t = j
      · rw [e, up2_same]
      · rw [up2_idx e]; exact h1 t (by omega)
  exact L1 m 0 _ (Nat.zero_add _) (fun c q1 q2 q3 => up2_row q1) (fun i hi => up2_idx hi) up2_same (fun t ht => by omega)
end LayE
/-! MOMENTS found -/
def cmP (M : Nat → Nat) (G c b : Nat) : Prop := b < 512 ∧ ∀ v, Bs b v ↔ v < G ∧ ∀ u, Bs c u → u = v ∨ Eo M u v
theorem cm_mo {M : Nat → Nat} {G c b : Nat} (hs : ∀ a b, Eo M a b → Eo M b a) (hc : c < 2 ^ G) (h0 : c ≠ 0) (h : cmP M G c b) : b = c ↔ mxP2 M G c := by
  constructor
  · intro e
    have h2 : ∀ v, Bs c v ↔ v < G ∧ ∀ u, Bs c u → u = v ∨ Eo M u v := e ▸ h.2
    refine ⟨⟨fun v hv => bs_full.mpr (bit_lt hc hv), fun a x ha hx hne => (((h2 x).mp hx).2 a ha).resolve_left hne, fun u hu hn => Classical.byContradiction fun hq => hn ((h2 u).mpr ⟨bs_full.mp hu, fun x hx => ?_⟩)⟩, h0⟩
    exact Or.inr (Classical.byContradiction fun z => hq ⟨x, hx, z⟩)
  · rintro ⟨⟨h1, h2, h3⟩, -⟩
    apply Nat.eq_of_testBit_eq
    intro v
    have : Bs b v ↔ Bs c v := by
      rw [h.2]
      constructor
      · rintro ⟨q1, q2⟩
        refine Classical.byContradiction fun hn => ?_
        obtain ⟨u, hu, hne⟩ := h3 v (bs_full.mpr q1) hn
        rcases q2 u hu with e | e
        · exact hn (e ▸ hu)
        · exact hne e
      · intro hv
        refine ⟨bit_lt hc hv, fun u hu => ?_⟩
        by_cases e : u = v
        · exact Or.inl e
        · exact Or.inr (h2 u v hu hv e)
    unfold Bs at this
    cases q1 : b.testBit v <;> cases q2 : c.testBit v <;> simp [q1, q2] at this <;> rfl
theorem gSz_mn {P : Nat → Prop} {a : Nat} : ∀ {b : Nat}, a ≤ b → gSz P a ≤ gSz P b
  | 0, h => by rw [Nat.le_zero.mp h]; exact Nat.le_refl _
  | b + 1, h => by
    by_cases e : a = b + 1
    · rw [e]; exact Nat.le_refl _
    · have := gSz_mn (P := P) (a := a) (b := b) (by omega)
      simp only [gSz]; omega
theorem X3_moms_s {Q : Qt} {r : Ly} {X : HX} {Y : HY} {M : Nat → Nat} {G : Nat} (hG : G ≤ 9) (hM : ∀ i, i < 10 → Y 9 i = lN (M i)) (hMb : ∀ i j, Eo M i j → i < G ∧ j < G) (hs : ∀ a b, Eo M a b → Eo M b a) (hir : ∀ a, ¬ Eo M a a) (k : ∀ X', (∀ c, c ≠ 0 → c ≠ 1 → c ≠ 5 → X' c = X c) → (∀ i, i ≠ 3 → X' 0 i = X 0 i) → LV X' (mN M G) (mo M G) → Q (.inl none) (LX3_4 ++ r) X' Y) : tX3_findMoments [.ref 0, .ref 8, .int (nI G)] (LX3_4 ++ r) X Y Q := by
  have hT := pw9 hG
  have hT0 := Nat.two_pow_pos G
  have h27 := mN_27 (M := M) hs hir hG
  have hMl : ∀ i, M i < 512 := fun i => lt_of_bits (k := 9) (fun j hj => by have := (hMb i j hj).2; omega)
  apply tX3_findMoments_i
  have H : ∀ n j X', j + n = 2 ^ G → 1 ≤ j → (∀ c, c ≠ 0 → c ≠ 1 → c ≠ 5 → X' c = X c) → (∀ i, i ≠ 3 → X' 0 i = X 0 i) → (∀ c, c < j → ∃ b, X' 5 c = nI b ∧ cmP M G c b) → X' 0 3 = nI (flL (mxP2 M G) j).length → (∀ t, t < (flL (mxP2 M G) j).length → X' 1 t = nI ((flL (mxP2 M G) j).getD t 0)) → hX3_findMoments_18 Q r (nI G) (nI j) X' Y := by
    intro n
    induction n with
    | zero =>
      intro j X' hj h1 f1 f2 h5 h3 hm
      have e : j = 2 ^ G := by omega
      subst e
      apply hX3_findMoments_18_i
      simp (disch := omega) only [m_0, m_L0, m_lt, m_le, m_eq, m_neg, m_in, m_clamp, m_add, m_sub, m_pred, m_mul, m_l, m_i, m_Land, m_Lor, m_and, m_or, m_xor, m_Landn, m_andn, m_LshlP, m_shl, m_LbitP, m_bit, m_cmp0P, m_Lb0, m_Lb1, m_b0, m_b1, Nat.one_mul]
      refine ⟨fun _ => k X' f1 f2 ⟨h27, h3, fun t ht => ⟨hm t ht, by have := (mo_is ht).2.2; omega⟩⟩, fun h => by omega⟩
    | succ n ih =>
      intro j X' hj h1 f1 f2 h5 h3 hm
      have hjT : j < 2 ^ G := by omega
      have hl1 : (flL (mxP2 M G) j).length ≤ (flL (mxP2 M G) (j + 1)).length := by rw [flL_len, flL_len]; exact gSz_mn (by omega)
      have hl2 : (flL (mxP2 M G) (j + 1)).length ≤ mN M G := by unfold mN mos; rw [flL_len, flL_len]; exact gSz_mn (by omega)
      obtain ⟨l, q1, q2, e1, -⟩ := low_of (show 0 < j by omega)
      have hlt := low_lt q1
      obtain ⟨b, e2, w2, b2⟩ := h5 _ hlt
      have hlG : l < G := bit_lt hjT q1
      apply hX3_findMoments_18_i
      simp (disch := omega) only [m_0, m_L0, m_lt, m_le, m_eq, m_neg, m_in, m_clamp, m_add, m_sub, m_pred, m_mul, m_l, m_i, m_Land, m_Lor, m_and, m_or, m_xor, m_Landn, m_andn, m_LshlP, m_shl, m_LbitP, m_bit, m_cmp0P, m_Lb0, m_Lb1, m_b0, m_b1, Nat.one_mul, e1]
      refine ⟨fun h => by omega, fun _ => ⟨fun h => by omega, fun _ => X8_lowest_s (by omega) (by omega) (fun l' z1 z2 z3 => cK1_mk ?_)⟩⟩
      have el : l' = l := low_uq q1 q2 z2 z3
      subst el
      have hor : M l' ||| 2 ^ l' < 512 := Nat.or_lt_two_pow (n := 9) (hMl l') (Nat.pow_lt_pow_right (a := 2) (by omega) (by omega))
      have hb3 : b &&& (M l' ||| 2 ^ l') < 512 := Nat.lt_of_le_of_lt Nat.and_le_left w2
      have hcm : cmP M G j (b &&& (M l' ||| 2 ^ l')) := by
        refine ⟨hb3, fun v => ?_⟩
        have : Bs (b &&& (M l' ||| 2 ^ l')) v ↔ Bs b v ∧ (Eo M l' v ∨ l' = v) := by
          unfold Bs
          rw [Nat.testBit_and, Bool.and_eq_true, or_bitT]; rfl
        rw [this, b2]
        constructor
        · rintro ⟨⟨g1, g2⟩, g3⟩
          refine ⟨g1, fun u hu => ?_⟩
          by_cases e : l' = u
          · subst e; exact g3.elim Or.inr (fun e => Or.inl e)
          · exact g2 u (nAn1_bit.mpr ⟨hu, e⟩)
        · rintro ⟨g1, g2⟩
          exact ⟨⟨g1, fun u hu => g2 u (nAn1_bit.mp hu).1⟩, (g2 l' q1).symm⟩
      have key := cm_mo hs hjT (by omega) hcm
      simp (disch := omega) only [m_0, m_L0, m_lt, m_le, m_eq, m_neg, m_in, m_clamp, m_add, m_sub, m_pred, m_mul, m_l, m_i, m_Land, m_Lor, m_and, m_or, m_xor, m_Landn, m_andn, m_LshlP, m_shl, m_LbitP, m_bit, m_cmp0P, m_Lb0, m_Lb1, m_b0, m_b1, Nat.one_mul, hM l' (by omega), e2, up2_same, up2_out]
      have h5' : ∀ c, c < j + 1 → ∃ b', up2 X' 5 j (nI (b &&& (M l' ||| 2 ^ l'))) 5 c = nI b' ∧ cmP M G c b' := fun c hc => by
        by_cases e : c = j
        · subst e; exact ⟨_, up2_same, hcm⟩
        · obtain ⟨b', g1, g2⟩ := h5 c (by omega)
          exact ⟨b', by rw [up2_idx e]; exact g1, g2⟩
      refine ⟨by omega, by omega, by omega, by omega, fun hne => ?_, fun heq => ?_⟩
      · have hno : ¬ mxP2 M G j := fun q => hne (key.mpr q)
        refine ih (j + 1) _ (by omega) (by omega) (fun c g1 g2 g3 => by rw [up2_row g3]; exact f1 c g1 g2 g3) (fun i hi => by rw [up2_out (by omega)]; exact f2 i hi) h5' ?_ ?_
        · rw [up2_out (by omega), flL_no hno]; exact h3
        · rw [flL_no hno]; intro t ht; rw [up2_out (by omega)]; exact hm t ht
      · have hyes : mxP2 M G j := key.mp (Classical.not_not.mp heq)
        have el : (flL (mxP2 M G) (j + 1)).length = (flL (mxP2 M G) j).length + 1 := by rw [flL_yes hyes]; simp
        simp (disch := omega) only [m_0, m_L0, m_lt, m_le, m_eq, m_neg, m_in, m_clamp, m_add, m_sub, m_pred, m_mul, m_l, m_i, m_Land, m_Lor, m_and, m_or, m_xor, m_Landn, m_andn, m_LshlP, m_shl, m_LbitP, m_bit, m_cmp0P, m_Lb0, m_Lb1, m_b0, m_b1, Nat.one_mul, h3]
        refine ⟨fun h => by omega, fun _ => ⟨by omega, ih (j + 1) _ (by omega) (by omega) (fun c g1 g2 g3 => by rw [up2_row g1, up2_row g2, up2_row g3]; exact f1 c g1 g2 g3) (fun i hi => by rw [up2_idx hi, up2_out (by omega), up2_out (by omega)]; exact f2 i hi) (fun c hc => by rw [up2_out (by omega), up2_out (by omega)]; exact h5' c hc) ?_ ?_⟩⟩
        · rw [up2_same, el]
        · rw [flL_yes hyes]
          intro t ht
          rw [List.length_append, List.length_cons, List.length_nil] at ht
          rw [up2_out (by omega), List.getD_eq_getElem?_getD]
          by_cases e : t = (flL (mxP2 M G) j).length
          · subst e
            rw [up2_same, List.getElem?_append_right (Nat.le_refl _), Nat.sub_self]; rfl
          · rw [up2_idx e, up2_out (by omega), List.getElem?_append_left (by omega), ← List.getD_eq_getElem?_getD]
            exact hm t (by omega)
  simp (disch := omega) only [m_0, m_L0, m_lt, m_le, m_eq, m_neg, m_in, m_clamp, m_add, m_sub, m_pred, m_mul, m_l, m_i, m_Land, m_Lor, m_and, m_or, m_xor, m_Landn, m_andn, m_LshlP, m_shl, m_LbitP, m_bit, m_cmp0P, m_Lb0, m_Lb1, m_b0, m_b1, Nat.one_mul]
  have e0 : flL (mxP2 M G) 1 = [] := flL_no (fun q => q.2 rfl)
  refine ⟨by omega, H _ 1 _ (Nat.add_sub_cancel' (by omega : 1 ≤ 2 ^ G)) (Nat.le_refl _) (fun c g1 g2 g3 => by rw [up2_row g3, up2_row g1]) (fun i hi => by rw [up2_out (by omega), up2_idx hi]) (fun c hc => ?_) (by rw [e0, up2_out (by omega), up2_same]; rfl) (fun t ht => by rw [e0] at ht; simp at ht)⟩
  have e : c = 0 := by omega
  subst e
  refine ⟨2 ^ G - 1, up2_same, by omega, fun v => ?_⟩
  rw [bs_full]
  exact ⟨fun h => ⟨h, fun u hu => by simp [Bs] at hu⟩, fun h => h.1⟩
