/-! counting orders, by the class -/
/-- all that stands in Laying's cells behind findLayings -/
def CV (X : HX) (m : Nat) (mo P : Nat → Nat) : Prop := LV X m mo ∧ PV X P ∧ ((m ≤ 9 ∧ B5 X m mo ∧ ∀ c, c < 2 ^ m → X 7 c = nI (en m (mayG mo m P) c)) ∨ (9 < m ∧ X 7 0 = nI 0))
theorem en_yes {m : Nat} {may : Nat → Nat → Prop} {c : Nat} (h : rcP m may c) : en m may c = wy m may c := by unfold en; rw [if_pos (Or.inl h)]
theorem en_full {m : Nat} {may : Nat → Nat → Prop} : en m may (2 ^ m - 1) = 1 := by unfold en; rw [if_pos (Or.inr rfl), wy_full]
theorem en_no {m : Nat} {may : Nat → Nat → Prop} {c : Nat} (h : ¬ rcP m may c) (h2 : c ≠ 2 ^ m - 1) : en m may c = 0 := by
  unfold en; rw [if_neg]; rintro (q | q)
  · exact h q
  · exact h2 q
theorem en_le {m : Nat} {may : Nat → Nat → Prop} {c : Nat} (hm : m ≤ 9) (hc : c < 2 ^ m) : en m may c ≤ 387420489 := by
  by_cases h : rcP m may c ∨ c = 2 ^ m - 1
  · unfold en; rw [if_pos h]; exact wy_bd9 hm hc
  · unfold en; rw [if_neg h]; omega
/-- a step that stands in an order -/
def stE (m : Nat) (may : Nat → Nat → Prop) (c k : Nat) : Prop := ∃ o, LyN m may m o ∧ ∃ i, i < m ∧ ctO o i = c ∧ o i = k
theorem stE_iff {m : Nat} {may : Nat → Nat → Prop} {c k : Nat} (hc : c < 2 ^ m) (hk : k < m) : stE m may c k ↔ en m may c ≠ 0 ∧ (c.testBit k = false ∧ may c k) ∧ en m may (c ||| 2 ^ k) ≠ 0 := by
  constructor
  · rintro ⟨o, h, i, hi, rfl, rfl⟩
    obtain ⟨h1, h2⟩ := live_of h (i := i) (by omega)
    obtain ⟨h3, h4⟩ := live_of h (i := i + 1) (by omega)
    refine ⟨?_, (h i hi).2, ?_⟩
    · rw [en_yes h1]; omega
    · rw [show ctO o i ||| 2 ^ o i = ctO o (i + 1) from rfl, en_yes h3]; omega
  · rintro ⟨h1, ⟨h2, h3⟩, h4⟩
    have hf : c ≠ 2 ^ m - 1 := fun e => by rw [e, full_bit] at h2; simp [hk] at h2
    have hr : rcP m may c := Classical.byContradiction fun q => h1 (en_no q hf)
    rw [en_yes (hr.step hc hk h2 h3)] at h4
    exact live_e hr hk h2 h3 (by omega)
theorem en_live {m : Nat} {may : Nat → Nat → Prop} {c : Nat} (hl : 0 < wy m may 0) : en m may c ≠ 0 ↔ ∃ o, LyN m may m o ∧ ∃ i, i ≤ m ∧ ctO o i = c := by
  constructor
  · intro h
    by_cases hr : rcP m may c
    · rw [en_yes hr] at h
      exact live_c hr (by omega)
    · have hf : c = 2 ^ m - 1 := Classical.byContradiction fun q => h (en_no hr q)
      obtain ⟨o, ho⟩ := wy_ex.mp hl
      exact ⟨o, ho, m, Nat.le_refl _, by rw [ho.full, hf]⟩
  · rintro ⟨o, ho, i, hi, rfl⟩
    obtain ⟨h1, h2⟩ := live_of ho hi
    rw [en_yes h1]; omega
section LayD
variable {Q : Qt} {r : Ly} {X : HX} {Y : HY} {m : Nat} {mo P : Nat → Nat}
theorem sumN_succ (f : Nat → Nat) (n : Nat) : sumN f (n + 1) = sumN f n + f n := rfl
theorem X3_find_s (hV : LV X m mo) (hP : PV X P) (k : ∀ X', (∀ c, c ≠ 5 → c ≠ 6 → c ≠ 7 → X' c = X c) → CV X' m mo P → Q (.inl none) (LX3 ++ r) X' Y) : tX3_findLayings [.ref 0] (LX3 ++ r) X Y Q := by
  have hm27 := hV.1
  apply tX3_findLayings_i
  simp (disch := omega) only [m_0, m_L0, m_lt, m_le, m_eq, m_neg, m_in, m_clamp, m_add, m_sub, m_pred, m_mul, m_l, m_i, m_Land, m_Lor, m_and, m_or, m_xor, m_Landn, m_andn, m_LshlP, m_shl, m_LbitP, m_bit, m_cmp0P, m_Lb0, m_Lb1, m_b0, m_b1, Nat.one_mul, up2_out, hV.2.1]
  refine ⟨by omega, fun hm => ?_, fun hm => ?_⟩
  · have hT := pw9 hm
    have hT0 := Nat.two_pow_pos m
    have eF : nI (2 ^ m) - nI 1 = nI (2 ^ m - 1) := m_sub hT0
    rw [eF]
    have hV0 : LV (up2 X 7 0 (nI 0)) m mo := by unfold LV; rw [up2_row (by omega), up2_row (by omega)]; exact hV
    refine X3_both_s hm hV0 (fun X2 f2 h5 => cK0_mk ?_)
    have hV2 : LV X2 m mo := by unfold LV; rw [f2 0 (by omega) (by omega), f2 1 (by omega) (by omega)]; exact hV0
    have hP2 : PV X2 P := by unfold PV; rw [f2 4 (by omega) (by omega), up2_row (by omega)]; exact hP
    refine X3_reach_s hm hV2 hP2 h5 (fun X3 f3 z h6 hz => cK0_mk ?_)
    have fr : ∀ c, c ≠ 5 → c ≠ 6 → c ≠ 7 → X3 c = X c := fun c q1 q2 q3 => by rw [f3 c q2, f2 c q1 q2, up2_row q3]
    have h5b : B5 X3 m mo := by unfold B5; rw [f3 5 (by omega)]; exact h5
    have H : ∀ n X', n ≤ 2 ^ m → (∀ c, c ≠ 7 → X' c = X3 c) → (∀ c, n ≤ c → c < 2 ^ m → X' 7 c = nI (en m (mayG mo m P) c)) → hX3_findLayings_38 Q r (nI (2 ^ m - 1)) (zI ((n : Int) - 1)) X' Y := by
      intro n
      induction n with
      | zero =>
        intro X' _ f4 h7
        apply hX3_findLayings_38_i
        refine ⟨fun _ => k X' (fun c q1 q2 q3 => by rw [f4 c q3]; exact fr c q1 q2 q3) ⟨?_, ?_, Or.inl ⟨hm, ?_, fun c hc => h7 c (Nat.zero_le _) hc⟩⟩, fun h => absurd (show zI ((0 : Int) - 1) < 0 by decide) h⟩
        · unfold LV; rw [f4 0 (by omega), f4 1 (by omega), fr 0 (by omega) (by omega) (by omega), fr 1 (by omega) (by omega) (by omega)]; exact hV
        · unfold PV; rw [f4 4 (by omega), fr 4 (by omega) (by omega) (by omega)]; exact hP
        · unfold B5; rw [f4 5 (by omega)]; exact h5b
      | succ n ih =>
        intro X' hn f4 h7
        have hnT : n < 2 ^ m := by omega
        have e1 : zI (((n + 1 : Nat) : Int) - 1) = nI n := by rw [show ((n + 1 : Nat) : Int) - 1 = (n : Int) by omega]; rfl
        have e2 : nI n + -1 = zI ((n : Int) - 1) := by rw [← m_zI, m_m1, m_zadd]; rfl
        rw [e1]
        have hzb := b01n (z n)
        -- the sum
        have G : ∀ p i X', i + p = m → (∀ c, c ≠ 7 → X' c = X3 c) → (∀ c, n < c → c < 2 ^ m → X' 7 c = nI (en m (mayG mo m P) c)) → X' 7 n = nI ((if n = 2 ^ m - 1 then 1 else 0) + sumN (wyT m (mayG mo m P) n) i) → z n = true → hX3_findLayings_60 Q r (nI (2 ^ m - 1)) (nI n) (nI i) X' Y := by
          intro p
          induction p with
          | zero =>
            intro i X' hi f4 h7 h8 hzn
            have e3 : X' 0 = X 0 := by rw [f4 0 (by omega)]; exact fr 0 (by omega) (by omega) (by omega)
            apply hX3_findLayings_60_i
            simp (disch := omega) only [m_0, m_L0, m_lt, m_le, m_eq, m_neg, m_in, m_clamp, m_add, m_sub, m_pred, m_mul, m_l, m_i, m_Land, m_Lor, m_and, m_or, m_xor, m_Landn, m_andn, m_LshlP, m_shl, m_LbitP, m_bit, m_cmp0P, m_Lb0, m_Lb1, m_b0, m_b1, Nat.one_mul, e3, hV.2.1]
            refine ⟨fun _ => ?_, fun h => by omega⟩
            rw [e2]
            refine ih X' (by omega) f4 (fun c q1 q2 => ?_)
            by_cases e : c = n
            · subst e
              have him : i = m := by omega
              subst him
              rw [h8]
              by_cases hf : c = 2 ^ i - 1
              · rw [if_pos hf, hf, en_full]
                have : sumN (wyT i (mayG mo i P) (2 ^ i - 1)) i = 0 := by
                  have := sumN_bd (f := wyT i (mayG mo i P) (2 ^ i - 1)) (B := 0) (n := i) (fun k hk => by
                    rw [wyT_no (fun q => by have := q.1; rw [full_bit] at this; simp [hk] at this)]; exact Nat.le_refl _)
                  omega
                rw [this]
              · rw [if_neg hf, Nat.zero_add, en_yes ((hz c q2).mp hzn), wy_step q2 hf]
            · exact h7 c (by omega) q2
          | succ p ihp =>
            intro i X' hi f4 h7 h8 hzn
            have him : i < m := by omega
            have e3 : X' 0 = X 0 := by rw [f4 0 (by omega)]; exact fr 0 (by omega) (by omega) (by omega)
            have e6 : X' 6 = X3 6 := f4 6 (by omega)
            have hV' : LV X' m mo := by unfold LV; rw [f4 0 (by omega), f4 1 (by omega), fr 0 (by omega) (by omega) (by omega), fr 1 (by omega) (by omega) (by omega)]; exact hV
            have hP' : PV X' P := by unfold PV; rw [f4 4 (by omega), fr 4 (by omega) (by omega) (by omega)]; exact hP
            have h5' : B5 X' m mo := by unfold B5; rw [f4 5 (by omega)]; exact h5b
            apply hX3_findLayings_60_i
            simp (disch := omega) only [m_0, m_L0, m_lt, m_le, m_eq, m_neg, m_in, m_clamp, m_add, m_sub, m_pred, m_mul, m_l, m_i, m_Land, m_Lor, m_and, m_or, m_xor, m_Landn, m_andn, m_LshlP, m_shl, m_LbitP, m_bit, m_cmp0P, m_Lb0, m_Lb1, m_b0, m_b1, Nat.one_mul, e3, hV.2.1, e6, h6 n hnT]
            refine ⟨fun h => by omega, fun _ => ⟨by omega, fun q => absurd q (by rw [hzn]; decide), fun _ => ?_⟩⟩
            have hr := (hz n hnT).mp hzn
            refine X3_may_s hm hV' hP' h5' hnT him (fun y hy => cK1_mk ⟨fun q => ?_, fun q => ?_⟩)
            · have hy0 : y = false := by cases y; rfl; exact absurd q (by decide)
              refine ihp (i + 1) X' (by omega) f4 h7 ?_ hzn
              rw [h8, sumN_succ, wyT_no (fun z => by have := hy.mpr z; rw [hy0] at this; cases this)]
              rfl
            · have hy1 : y = true := by cases y; exact absurd rfl q; rfl
              have hy2 := hy.mp hy1
              have hlt := or_lt hnT him
              have hgt : n < n ||| 2 ^ i := Nat.lt_of_le_of_ne Nat.left_le_or (fun e3 => by
                have := hy2.1
                rw [e3, or_bit] at this; simp at this)
              have h9 := h7 _ hgt hlt
              simp (disch := omega) only [m_0, m_L0, m_lt, m_le, m_eq, m_neg, m_in, m_clamp, m_add, m_sub, m_pred, m_mul, m_l, m_i, m_Land, m_Lor, m_and, m_or, m_xor, m_Landn, m_andn, m_LshlP, m_shl, m_LbitP, m_bit, m_cmp0P, m_Lb0, m_Lb1, m_b0, m_b1, Nat.one_mul, h8, h9]
              refine ⟨by omega, by omega, by omega, ihp (i + 1) _ (by omega) (fun c hc => by rw [up2_row hc]; exact f4 c hc) (fun c q1 q2 => by rw [up2_idx (by omega)]; exact h7 c q1 q2) ?_ hzn⟩
              rw [up2_same, sumN_succ, wyT_yes hy2.1 hy2.2, en_yes (hr.step hnT him hy2.1 hy2.2), Nat.add_assoc]
        have go : ∀ X', (∀ c, c ≠ 7 → X' c = X3 c) → (∀ c, n < c → c < 2 ^ m → X' 7 c = nI (en m (mayG mo m P) c)) → X' 7 n = nI (if n = 2 ^ m - 1 then 1 else 0) → hX3_findLayings_60 Q r (nI (2 ^ m - 1)) (nI n) (nI 0) X' Y := by
          intro X' f4 h7 h8
          cases hzn : z n with
          | true => exact G m 0 X' (Nat.zero_add _) f4 h7 (by rw [h8]; rfl) hzn
          | false =>
            have e3 : X' 0 = X 0 := by rw [f4 0 (by omega)]; exact fr 0 (by omega) (by omega) (by omega)
            have e6 : X' 6 = X3 6 := f4 6 (by omega)
            have fin : hX3_findLayings_38 Q r (nI (2 ^ m - 1)) (zI ((n : Int) - 1)) X' Y := by
              refine ih X' (by omega) f4 (fun c q1 q2 => ?_)
              by_cases e : c = n
              · subst e
                rw [h8]
                by_cases hf : c = 2 ^ m - 1
                · rw [if_pos hf, hf, en_full]
                · rw [if_neg hf, en_no (fun q => by rw [(hz c q2).mpr q] at hzn; cases hzn) hf]
              · exact h7 c (by omega) q2
            apply hX3_findLayings_60_i
            simp (disch := omega) only [m_0, m_L0, m_lt, m_le, m_eq, m_neg, m_in, m_clamp, m_add, m_sub, m_pred, m_mul, m_l, m_i, m_Land, m_Lor, m_and, m_or, m_xor, m_Landn, m_andn, m_LshlP, m_shl, m_LbitP, m_bit, m_cmp0P, m_Lb0, m_Lb1, m_b0, m_b1, Nat.one_mul, e3, hV.2.1, e6, h6 n hnT, hzn]
            refine ⟨fun _ => by rw [e2]; exact fin, fun _ => ⟨by omega, fun _ => by rw [e2]; exact fin, fun q => absurd rfl q⟩⟩
        apply hX3_findLayings_38_i
        simp (disch := omega) only [m_0, m_L0, m_lt, m_le, m_eq, m_neg, m_in, m_clamp, m_add, m_sub, m_pred, m_mul, m_l, m_i, m_Land, m_Lor, m_and, m_or, m_xor, m_Landn, m_andn, m_LshlP, m_shl, m_LbitP, m_bit, m_cmp0P, m_Lb0, m_Lb1, m_b0, m_b1, Nat.one_mul]
        refine ⟨fun h => by omega, fun _ => ⟨fun hf => ⟨by omega, ?_⟩, fun hf => ⟨by omega, ?_⟩⟩⟩
        · refine go _ (fun c hc => by rw [up2_row hc]; exact f4 c hc) (fun c q1 q2 => by rw [up2_idx (by omega)]; exact h7 c (by omega) q2) ?_
          rw [up2_same, if_neg hf]
        · refine go _ (fun c hc => by rw [up2_row hc]; exact f4 c hc) (fun c q1 q2 => by rw [up2_idx (by omega)]; exact h7 c (by omega) q2) ?_
          rw [up2_same, if_pos (Classical.not_not.mp hf)]
    have eZ : nI (2 ^ m - 1) = zI (((2 ^ m : Nat) : Int) - 1) := by rw [← m_zI]; congr 1; omega
    have h9 := H (2 ^ m) X3 (Nat.le_refl _) (fun _ _ => rfl) (fun c q1 q2 => by omega)
    rw [← eZ] at h9
    exact h9
  · refine k _ (fun c _ _ q3 => up2_row q3) ⟨?_, ?_, Or.inr ⟨by omega, up2_same⟩⟩
    · unfold LV; rw [up2_row (by omega), up2_row (by omega)]; exact hV
    · unfold PV; rw [up2_row (by omega)]; exact hP
/-- there is an order -/
def ldP (m : Nat) (mo P : Nat → Nat) : Prop := m ≤ 9 ∧ 0 < wy m (mayG mo m P) 0
theorem X3_isLaid_s (hC : CV X m mo P) (k : ∀ z : Bool, (z = true ↔ ldP m mo P) → Q (.inl (some (.int (nI z.toNat)))) (LX3 ++ r) X Y) : tX3_isLaid [.ref 0] (LX3 ++ r) X Y Q := by
  obtain ⟨hV, hP, h | h⟩ := hC
  · obtain ⟨hm, h5, h7⟩ := h
    have e0 := h7 0 (Nat.two_pow_pos m)
    rw [en_yes rcP.zero] at e0
    have hb := wy_bd9 (may := mayG mo m P) hm (Nat.two_pow_pos m)
    apply tX3_isLaid_i
    simp (disch := omega) only [m_0, m_L0, m_lt, m_le, m_eq, m_neg, m_in, m_clamp, m_add, m_sub, m_pred, m_mul, m_l, m_i, m_Land, m_Lor, m_and, m_or, m_xor, m_Landn, m_andn, m_LshlP, m_shl, m_LbitP, m_bit, m_cmp0P, m_Lb0, m_Lb1, m_b0, m_b1, Nat.one_mul, e0]
    exact ⟨by omega, fun q => ⟨(by first | exact Or.inl rfl | exact Or.inr rfl | exact Or.inl trivial | exact Or.inr trivial), k false ⟨fun z => (by cases z), fun z => absurd z.2 (by omega)⟩⟩, fun q => ⟨(by first | exact Or.inl rfl | exact Or.inr rfl | exact Or.inl trivial | exact Or.inr trivial), k true ⟨fun _ => ⟨hm, by omega⟩, fun _ => rfl⟩⟩⟩
  · obtain ⟨hm, h7⟩ := h
    apply tX3_isLaid_i
    simp (disch := omega) only [m_0, m_L0, m_lt, m_le, m_eq, m_neg, m_in, m_clamp, m_add, m_sub, m_pred, m_mul, m_l, m_i, m_Land, m_Lor, m_and, m_or, m_xor, m_Landn, m_andn, m_LshlP, m_shl, m_LbitP, m_bit, m_cmp0P, m_Lb0, m_Lb1, m_b0, m_b1, Nat.one_mul, h7]
    exact ⟨by omega, fun q => ⟨(by first | exact Or.inl rfl | exact Or.inr rfl | exact Or.inl trivial | exact Or.inr trivial), k false ⟨fun z => (by cases z), fun z => absurd z.1 (by omega)⟩⟩, fun q => absurd trivial q⟩
theorem X3_layings_s (hC : CV X m mo P) (k : ∀ n, n ≤ 387420489 → (ldP m mo P → n = wy m (mayG mo m P) 0) → (¬ ldP m mo P → n = 0) → Q (.inl (some (.int (nI n)))) (LX3 ++ r) X Y) : tX3_layings [.ref 0] (LX3 ++ r) X Y Q := by
  obtain ⟨hV, hP, h | h⟩ := hC
  · obtain ⟨hm, h5, h7⟩ := h
    have e0 := h7 0 (Nat.two_pow_pos m)
    rw [en_yes rcP.zero] at e0
    apply tX3_layings_i
    simp (disch := omega) only [m_0, m_L0, m_lt, m_le, m_eq, m_neg, m_in, m_clamp, m_add, m_sub, m_pred, m_mul, m_l, m_i, m_Land, m_Lor, m_and, m_or, m_xor, m_Landn, m_andn, m_LshlP, m_shl, m_LbitP, m_bit, m_cmp0P, m_Lb0, m_Lb1, m_b0, m_b1, Nat.one_mul, e0]
    exact ⟨by omega, k _ (wy_bd9 hm (Nat.two_pow_pos m)) (fun _ => rfl) (fun q => Classical.byContradiction fun q2 => q ⟨hm, by omega⟩)⟩
  · obtain ⟨hm, h7⟩ := h
    apply tX3_layings_i
    simp (disch := omega) only [m_0, m_L0, m_lt, m_le, m_eq, m_neg, m_in, m_clamp, m_add, m_sub, m_pred, m_mul, m_l, m_i, m_Land, m_Lor, m_and, m_or, m_xor, m_Landn, m_andn, m_LshlP, m_shl, m_LbitP, m_bit, m_cmp0P, m_Lb0, m_Lb1, m_b0, m_b1, Nat.one_mul, h7]
    exact ⟨by omega, k 0 (by omega) (fun q => absurd q.1 (by omega)) (fun _ => rfl)⟩
theorem X3_leads_s {c t : Nat} (hC : CV X m mo P) (hm : m ≤ 9) (hc : c < 2 ^ m) (ht : t < m) (k : ∀ z : Bool, (z = true ↔ stE m (mayG mo m P) c t) → Q (.inl (some (.int (nI z.toNat)))) (LX3 ++ r) X Y) : tX3_leadsOn [.ref 0, .int (nI c), .int (nI t)] (LX3 ++ r) X Y Q := by
  obtain ⟨hV, hP, h | h⟩ := hC
  · obtain ⟨hm, h5, h7⟩ := h
    have hT := pw9 hm
    have hlt := or_lt hc ht
    have b1 := en_le (may := mayG mo m P) hm hc
    have b2 := en_le (may := mayG mo m P) hm hlt
    have key := stE_iff (may := mayG mo m P) hc ht
    apply tX3_leadsOn_i
    simp (disch := omega) only [m_0, m_L0, m_lt, m_le, m_eq, m_neg, m_in, m_clamp, m_add, m_sub, m_pred, m_mul, m_l, m_i, m_Land, m_Lor, m_and, m_or, m_xor, m_Landn, m_andn, m_LshlP, m_shl, m_LbitP, m_bit, m_cmp0P, m_Lb0, m_Lb1, m_b0, m_b1, Nat.one_mul, h7 c hc]
    refine ⟨by omega, fun q => ⟨(by first | exact Or.inl rfl | exact Or.inr rfl | exact Or.inl trivial | exact Or.inr trivial), k false ⟨fun z => (by cases z), fun z => absurd q (key.mp z).1⟩⟩, fun q => X3_may_s hm hV hP h5 hc ht (fun y hy => cK1_mk ⟨fun q2 => ⟨(by first | exact Or.inl rfl | exact Or.inr rfl | exact Or.inl trivial | exact Or.inr trivial), k false ⟨fun z => (by cases z), fun z => ?_⟩⟩, fun q2 => ?_⟩)⟩
    · rw [hy.mpr (key.mp z).2.1] at q2; exact absurd q2 (by decide)
    · have hy1 : y = true := by cases y; exact absurd rfl q2; rfl
      simp (disch := omega) only [m_0, m_L0, m_lt, m_le, m_eq, m_neg, m_in, m_clamp, m_add, m_sub, m_pred, m_mul, m_l, m_i, m_Land, m_Lor, m_and, m_or, m_xor, m_Landn, m_andn, m_LshlP, m_shl, m_LbitP, m_bit, m_cmp0P, m_Lb0, m_Lb1, m_b0, m_b1, Nat.one_mul, h7 _ hlt]
      exact ⟨by omega, fun q3 => ⟨(by first | exact Or.inl rfl | exact Or.inr rfl | exact Or.inl trivial | exact Or.inr trivial), k false ⟨fun z => (by cases z), fun z => absurd q3 (key.mp z).2.2⟩⟩, fun q3 => ⟨(by first | exact Or.inl rfl | exact Or.inr rfl | exact Or.inl trivial | exact Or.inr trivial), k true ⟨fun _ => key.mpr ⟨q, hy.mp hy1, q3⟩, fun _ => rfl⟩⟩⟩
  · omega
/-- THE LEAST order -/
def LsP (m : Nat) (may : Nat → Nat → Prop) (le : Nat → Nat) : Prop := LyN m may m le ∧ ∀ p, p < m → ∀ k, stE m may (ctO le p) k → le p ≤ k
theorem LsP_uq {m : Nat} {may : Nat → Nat → Prop} {a b : Nat → Nat} (ha : LsP m may a) (hb : LsP m may b) : ∀ p, p < m → a p = b p := by
  have key : ∀ p, p ≤ m → ∀ i, i < p → a i = b i := by
    intro p
    induction p with
    | zero => intro _ i hi; omega
    | succ p ih =>
      intro hp i hi
      have h0 := ih (by omega)
      by_cases e : i = p
      · subst e
        have ec : ctO a i = ctO b i := ctO_eq h0
        have h1 := ha.2 i (by omega) (b i) ⟨b, hb.1, i, by omega, ec.symm, rfl⟩
        have h2 := hb.2 i (by omega) (a i) ⟨a, ha.1, i, by omega, ec, rfl⟩
        omega
      · exact h0 i (by omega)
  exact fun p hp => key (p + 1) (by omega) p (by omega)
def LeV (X : HX) (m : Nat) (le : Nat → Nat) : Prop := ∀ p, p < m → X 2 p = nI (le p)
theorem X3_least_s (hC : CV X m mo P) (k : ∀ X', (∀ c, c ≠ 2 → X' c = X c) → (ldP m mo P → ∃ le, LsP m (mayG mo m P) le ∧ LeV X' m le) → Q (.inl none) (LX3 ++ r) X' Y) : tX3_findLeast [.ref 0] (LX3 ++ r) X Y Q := by
  apply tX3_findLeast_i
  by_cases hl : ldP m mo P
  · obtain ⟨hm, hw⟩ := hl
    have hT := pw9 hm
    have CV' : ∀ X', (∀ c, c ≠ 2 → X' c = X c) → CV X' m mo P := fun X' f => by
      unfold CV LV PV B5; rw [f 0 (by omega), f 1 (by omega), f 4 (by omega), f 5 (by omega), f 7 (by omega)]; exact hC
    have H : ∀ n p X' (le : Nat → Nat), p + n = m → (∀ c, c ≠ 2 → X' c = X c) → LyN m (mayG mo m P) p le → 0 < wy m (mayG mo m P) (ctO le p) → (∀ i, i < p → ∀ k, stE m (mayG mo m P) (ctO le i) k → le i ≤ k) → (∀ i, i < p → X' 2 i = nI (le i)) → hX3_findLeast_4 Q r (nI (ctO le p)) (nI p) X' Y := by
      intro n
      induction n with
      | zero =>
        intro p X' le hp f1 h1 h2 h3 h4
        have hC' := CV' X' f1
        have e : p = m := by omega
        subst e
        apply hX3_findLeast_4_i
        refine X3_isLaid_s hC' (fun z hz => cK1_mk ?_)
        have fin : Q (.inl none) (LX3 ++ r) X' Y := k X' f1 (fun _ => ⟨le, ⟨h1, h3⟩, h4⟩)
        simp (disch := omega) only [m_0, m_L0, m_lt, m_le, m_eq, m_neg, m_in, m_clamp, m_add, m_sub, m_pred, m_mul, m_l, m_i, m_Land, m_Lor, m_and, m_or, m_xor, m_Landn, m_andn, m_LshlP, m_shl, m_LbitP, m_bit, m_cmp0P, m_Lb0, m_Lb1, m_b0, m_b1, Nat.one_mul, hC'.1.2.1]
        exact ⟨fun _ => fin, fun _ => ⟨fun _ => fin, fun h => by omega⟩⟩
      | succ n ih =>
        intro p X' le hp f1 h1 h2 h3 h4
        have hC' := CV' X' f1
        have hcT := (h1.cut p (Nat.le_refl _)).1
        apply hX3_findLeast_4_i
        refine X3_isLaid_s hC' (fun z hz => cK1_mk ?_)
        have hz1 : z = true := hz.mpr ⟨hm, hw⟩
        subst hz1
        simp (disch := omega) only [m_0, m_L0, m_lt, m_le, m_eq, m_neg, m_in, m_clamp, m_add, m_sub, m_pred, m_mul, m_l, m_i, m_Land, m_Lor, m_and, m_or, m_xor, m_Landn, m_andn, m_LshlP, m_shl, m_LbitP, m_bit, m_cmp0P, m_Lb0, m_Lb1, m_b0, m_b1, Nat.one_mul, hC'.1.2.1]
        refine ⟨fun h => absurd h (by decide), fun _ => ⟨fun h => by omega, fun _ => ⟨fun h => by omega, fun _ => ?_⟩⟩⟩
        -- the least that leads on
        have G : ∀ t (nx : Nat), t ≤ m → nx < m → (∀ k, t ≤ k → stE m (mayG mo m P) (ctO le p) k → nx ≤ k) → ((∀ k, t ≤ k → ¬ stE m (mayG mo m P) (ctO le p) k) ∨ stE m (mayG mo m P) (ctO le p) nx) → hX3_findLeast_35 Q r (nI (ctO le p)) (nI p) (nI nx) (zI ((t : Int) - 1)) X' Y := by
          intro t
          induction t with
          | zero =>
            intro nx _ hnx g1 g2
            apply hX3_findLeast_35_i
            refine ⟨fun _ => ?_, fun h => absurd (show zI ((0 : Int) - 1) < 0 by decide) h⟩
            have hf : ctO le p ≠ 2 ^ m - 1 := fun e => by
              have := (h1.cut p (Nat.le_refl _)).2; rw [e, mis_full] at this; omega
            have g3 : stE m (mayG mo m P) (ctO le p) nx := by
              rcases g2 with g2 | g2
              · obtain ⟨k, hk, hb, hy, hw2⟩ := wy_pos hcT hf h2
                exact absurd (live_e h1.rc hk hb hy hw2) (g2 k (Nat.zero_le _))
              · exact g2
            have e0 : ∀ i, i < p → (fun i => if i = p then nx else le i) i = le i := fun i hi => if_neg (by omega)
            have ep : (fun i => if i = p then nx else le i) p = nx := if_pos rfl
            obtain ⟨o, ho, i, hi, q1, q2⟩ := g3
            have hst := ho i hi
            rw [q1, q2] at hst
            have hpos := ho.pos _ (i + 1) rfl (by omega)
            simp only [ctO] at hpos
            rw [q1, q2] at hpos
            simp (disch := omega) only [m_0, m_L0, m_lt, m_le, m_eq, m_neg, m_in, m_clamp, m_add, m_sub, m_pred, m_mul, m_l, m_i, m_Land, m_Lor, m_and, m_or, m_xor, m_Landn, m_andn, m_LshlP, m_shl, m_LbitP, m_bit, m_cmp0P, m_Lb0, m_Lb1, m_b0, m_b1, Nat.one_mul]
            refine ⟨by omega, ?_⟩
            have h9 := ih (p + 1) (up2 X' 2 p (nI nx)) (fun i => if i = p then nx else le i) (by omega) (fun c hc => by rw [up2_row hc]; exact f1 c hc) (fun j hj => by
              by_cases e : j = p
              · subst e
                rw [ctO_eq e0, ep]; exact hst
              · rw [ctO_eq (fun i hi => e0 i (by omega)), e0 j (by omega)]; exact h1 j (by omega)) (by
              simp only [ctO]; rw [ctO_eq e0]; simp only [if_true]; exact hpos) (fun j hj k hk => by
              by_cases e : j = p
              · subst e
                rw [ctO_eq e0] at hk
                rw [if_pos rfl]; exact g1 k (Nat.zero_le _) hk
              · rw [ctO_eq (fun i hi => e0 i (by omega))] at hk
                rw [if_neg e]; exact h3 j (by omega) k hk) (fun j hj => by
              by_cases e : j = p
              · subst e; rw [up2_same, if_pos rfl]
              · rw [up2_idx e, if_neg e]; exact h4 j (by omega))
            simp only [ctO] at h9
            rw [ctO_eq e0] at h9
            simp only [if_true] at h9
            exact h9
          | succ t iht =>
            intro nx htm hnx g1 g2
            have e1 : zI (((t + 1 : Nat) : Int) - 1) = nI t := by rw [show ((t + 1 : Nat) : Int) - 1 = (t : Int) by omega]; rfl
            have e2 : nI t + -1 = zI ((t : Int) - 1) := by rw [← m_zI, m_m1, m_zadd]; rfl
            rw [e1]
            apply hX3_findLeast_35_i
            simp (disch := omega) only [m_0, m_L0, m_lt, m_le, m_eq, m_neg, m_in, m_clamp, m_add, m_sub, m_pred, m_mul, m_l, m_i, m_Land, m_Lor, m_and, m_or, m_xor, m_Landn, m_andn, m_LshlP, m_shl, m_LbitP, m_bit, m_cmp0P, m_Lb0, m_Lb1, m_b0, m_b1, Nat.one_mul]
            rw [e2]
            refine ⟨fun h => by omega, fun _ => X3_leads_s hC' hm hcT (by omega) (fun y hy => cK1_mk ⟨fun q => ?_, fun q => ?_⟩)⟩
            · have hy0 : ¬ stE m (mayG mo m P) (ctO le p) t := fun z => by rw [hy.mpr z] at q; exact absurd q (by decide)
              refine iht nx (by omega) hnx (fun k hk hs => ?_) (g2.imp (fun g2 k hk hs => ?_) id)
              · by_cases e : k = t
                · exact absurd (e ▸ hs) hy0
                · exact g1 k (by omega) hs
              · by_cases e : k = t
                · exact hy0 (e ▸ hs)
                · exact g2 k (by omega) hs
            · have hy1 : stE m (mayG mo m P) (ctO le p) t := hy.mp (by cases y; exact absurd rfl q; rfl)
              exact iht t (by omega) (by omega) (fun k hk _ => hk) (Or.inr hy1)
        have eZ : nI (m - 1) = zI ((m : Int) - 1) := by rw [← m_zI]; congr 1; omega
        rw [eZ]
        exact G m 0 (Nat.le_refl _) (by omega) (fun k hk hs => Nat.zero_le _) (Or.inl (fun k hk hs => by
          obtain ⟨o, ho, i, hi, q1, q2⟩ := hs
          have := (ho i hi).1; omega))
    have h9 := H m 0 X (fun _ => 0) (Nat.zero_add _) (fun _ _ => rfl) (fun i hi => by omega) hw (fun i hi => by omega) (fun i hi => by omega)
    exact h9
  · apply hX3_findLeast_4_i
    refine X3_isLaid_s hC (fun z hz => cK1_mk ?_)
    have hz0 : z = false := by cases z; rfl; exact absurd (hz.mp rfl) hl
    subst hz0
    exact ⟨fun _ => k X (fun _ _ => rfl) (fun q => absurd q hl), fun h => absurd rfl h⟩
/-! reading it -/
theorem bmk_or (p : Nat → Bool) (n : Nat) : bmk p n ||| (p n).toNat * 2 ^ n = bmk p (n + 1) := by
  apply Nat.eq_of_testBit_eq
  intro i
  rw [Nat.testBit_or, bmk_bit, bmk_bit]
  cases h : p n
  · simp only [Bool.toNat_false, Nat.zero_mul, Nat.zero_testBit, Bool.or_false]
    by_cases e : i = n
    · subst e; simp [h]
    · by_cases q : i < n
      · simp [q, Nat.lt_succ_of_lt q]
      · simp [q]; omega
  · simp only [Bool.toNat_true, Nat.one_mul, Nat.testBit_two_pow]
    by_cases e : i = n
    · subst e; simp [h]
    · by_cases q : i < n
      · simp [q, Nat.lt_succ_of_lt q]; intro z; omega
      · have : ¬ n = i := fun z => e z.symm
        simp [q, this]; omega
theorem X3_of_s {g : Nat} (hV : LV X m mo) (hg : g < 9) (k : Q (.inl (some (.int (nI (rwG mo m g))))) (LX3 ++ r) X Y) : tX3_momentsOf [.ref 0, .int (nI g)] (LX3 ++ r) X Y Q := by
  have hm27 := hV.1
  apply tX3_momentsOf_i
  have H : ∀ n j, j + n = m → hX3_momentsOf_4 Q r (nI g) (nI (bmk (fun k => (mo k).testBit g) j)) (nI j) X Y := by
    intro n
    induction n with
    | zero =>
      intro j hj
      have e : j = m := by omega
      subst e
      apply hX3_momentsOf_4_i
      simp (disch := omega) only [m_0, m_L0, m_lt, m_le, m_eq, m_neg, m_in, m_clamp, m_add, m_sub, m_pred, m_mul, m_l, m_i, m_Land, m_Lor, m_and, m_or, m_xor, m_Landn, m_andn, m_LshlP, m_shl, m_LbitP, m_bit, m_cmp0P, m_Lb0, m_Lb1, m_b0, m_b1, Nat.one_mul, hV.2.1]
      exact ⟨fun _ => k, fun h => by omega⟩
    | succ n ih =>
      intro j hj
      have h1 := hV.2.2 j (by omega)
      apply hX3_momentsOf_4_i
      simp (disch := omega) only [m_0, m_L0, m_lt, m_le, m_eq, m_neg, m_in, m_clamp, m_add, m_sub, m_pred, m_mul, m_l, m_i, m_Land, m_Lor, m_and, m_or, m_xor, m_Landn, m_andn, m_LshlP, m_shl, m_LbitP, m_bit, m_cmp0P, m_Lb0, m_Lb1, m_b0, m_b1, Nat.one_mul, hV.2.1, h1.1]
      refine ⟨fun h => by omega, fun _ => ⟨fun h => by omega, fun _ => ⟨by omega, ?_⟩⟩⟩
      rw [show nB (mo j) g = ((fun k => (mo k).testBit g) j).toNat from rfl, bmk_or]
      exact ih (j + 1) (by omega)
  exact H m 0 (Nat.zero_add _)
/-- the first place of a guest in an order; none -/
def fpP (m : Nat) (mo le : Nat → Nat) (g : Nat) (z : Int) : Prop := (z = -1 ∧ ∀ p, p < m → ¬ Bs (mo (le p)) g) ∨ ∃ p : Nat, z = p ∧ p < m ∧ Bs (mo (le p)) g ∧ ∀ i, i < p → ¬ Bs (mo (le i)) g
def lpP (m : Nat) (mo le : Nat → Nat) (g : Nat) (z : Int) : Prop := (z = -1 ∧ ∀ p, p < m → ¬ Bs (mo (le p)) g) ∨ ∃ p : Nat, z = p ∧ p < m ∧ Bs (mo (le p)) g ∧ ∀ i, p < i → i < m → ¬ Bs (mo (le i)) g
theorem X3_first_s {le : Nat → Nat} {g : Nat} (hV : LV X m mo) (hm : m ≤ 9) (hL : LeV X m le) (hlt : ∀ p, p < m → le p < m) (hg : g < 9) (k : ∀ z : Int, fpP m mo le g z → Q (.inl (some (.int (zI z)))) (LX3 ++ r) X Y) : tX3_firstPlace [.ref 0, .int (nI g)] (LX3 ++ r) X Y Q := by
  apply tX3_firstPlace_i
  have H : ∀ n j, j + n = m → (∀ i, i < j → ¬ Bs (mo (le i)) g) → hX3_firstPlace_2 Q r (nI g) (nI j) X Y := by
    intro n
    induction n with
    | zero =>
      intro j hj hI
      apply hX3_firstPlace_2_i
      simp (disch := omega) only [m_0, m_L0, m_lt, m_le, m_eq, m_neg, m_in, m_clamp, m_add, m_sub, m_pred, m_mul, m_l, m_i, m_Land, m_Lor, m_and, m_or, m_xor, m_Landn, m_andn, m_LshlP, m_shl, m_LbitP, m_bit, m_cmp0P, m_Lb0, m_Lb1, m_b0, m_b1, Nat.one_mul, hV.2.1]
      exact ⟨fun _ => k (-1) (Or.inl ⟨rfl, fun p hp => hI p (by omega)⟩), fun h => by omega⟩
    | succ n ih =>
      intro j hj hI
      have hl := hlt j (by omega)
      have h1 := hV.2.2 _ hl
      have hm27 := hV.1
      apply hX3_firstPlace_2_i
      simp (disch := omega) only [m_0, m_L0, m_lt, m_le, m_eq, m_neg, m_in, m_clamp, m_add, m_sub, m_pred, m_mul, m_l, m_i, m_Land, m_Lor, m_and, m_or, m_xor, m_Landn, m_andn, m_LshlP, m_shl, m_LbitP, m_bit, m_cmp0P, m_Lb0, m_Lb1, m_b0, m_b1, Nat.one_mul, hV.2.1, hL j (by omega), h1.1]
      refine ⟨fun h => by omega, fun _ => ⟨fun h => by omega, fun _ => ⟨by omega, by omega, fun hb => ih (j + 1) (by omega) (fun i hi => ?_), fun hb => ?_⟩⟩⟩
      · by_cases e : i = j
        · subst e; exact bsF.mpr hb
        · exact hI i (by omega)
      · rw [← m_zI]
        exact k j (Or.inr ⟨j, rfl, by omega, nz_nz hb, hI⟩)
  exact H m 0 (Nat.zero_add _) (fun i hi => by omega)
theorem X3_last_s {le : Nat → Nat} {g : Nat} (hV : LV X m mo) (hm : m ≤ 9) (hL : LeV X m le) (hlt : ∀ p, p < m → le p < m) (hg : g < 9) (k : ∀ z : Int, lpP m mo le g z → Q (.inl (some (.int (zI z)))) (LX3 ++ r) X Y) : tX3_lastPlace [.ref 0, .int (nI g)] (LX3 ++ r) X Y Q := by
  apply tX3_lastPlace_i
  have H : ∀ n j (z : Int), j + n = m → ((z = -1 ∧ ∀ p, p < j → ¬ Bs (mo (le p)) g) ∨ ∃ p : Nat, z = p ∧ p < j ∧ Bs (mo (le p)) g ∧ ∀ i, p < i → i < j → ¬ Bs (mo (le i)) g) → hX3_lastPlace_4 Q r (nI g) (zI z) (nI j) X Y := by
    intro n
    induction n with
    | zero =>
      intro j z hj hI
      have e : j = m := by omega
      subst e
      apply hX3_lastPlace_4_i
      simp (disch := omega) only [m_0, m_L0, m_lt, m_le, m_eq, m_neg, m_in, m_clamp, m_add, m_sub, m_pred, m_mul, m_l, m_i, m_Land, m_Lor, m_and, m_or, m_xor, m_Landn, m_andn, m_LshlP, m_shl, m_LbitP, m_bit, m_cmp0P, m_Lb0, m_Lb1, m_b0, m_b1, Nat.one_mul, hV.2.1]
      exact ⟨fun _ => k z hI, fun h => by omega⟩
    | succ n ih =>
      intro j z hj hI
      have hl := hlt j (by omega)
      have h1 := hV.2.2 _ hl
      have hm27 := hV.1
      apply hX3_lastPlace_4_i
      simp (disch := omega) only [m_0, m_L0, m_lt, m_le, m_eq, m_neg, m_in, m_clamp, m_add, m_sub, m_pred, m_mul, m_l, m_i, m_Land, m_Lor, m_and, m_or, m_xor, m_Landn, m_andn, m_LshlP, m_shl, m_LbitP, m_bit, m_cmp0P, m_Lb0, m_Lb1, m_b0, m_b1, Nat.one_mul, hV.2.1, hL j (by omega), h1.1]
      refine ⟨fun h => by omega, fun _ => ⟨fun h => by omega, fun _ => ⟨by omega, by omega, fun hb => ih (j + 1) z (by omega) ?_, fun hb => ?_⟩⟩⟩
      · rcases hI with ⟨h1, h2⟩ | ⟨p, h1, h2, h3, h4⟩
        · refine Or.inl ⟨h1, fun p hp => ?_⟩
          by_cases e : p = j
          · subst e; exact bsF.mpr hb
          · exact h2 p (by omega)
        · refine Or.inr ⟨p, h1, by omega, h3, fun i q1 q2 => ?_⟩
          by_cases e : i = j
          · subst e; exact bsF.mpr hb
          · exact h4 i q1 (by omega)
      · have h9 := ih (j + 1) (j : Int) (by omega) (Or.inr ⟨j, rfl, by omega, nz_nz hb, fun i q1 q2 => by omega⟩)
        exact h9
  exact H m 0 (-1) (Nat.zero_add _) (Or.inl ⟨rfl, fun p hp => by omega⟩)
/-- some order has all of A, and none of B, ahead of a place -/
def ctP (m : Nat) (may : Nat → Nat → Prop) (A B : Nat) : Prop := ∃ o, LyN m may m o ∧ ∃ i, i ≤ m ∧ (∀ j, Bs A j → Bs (ctO o i) j) ∧ ∀ j, Bs B j → ¬ Bs (ctO o i) j
theorem X3_isCut_s {A B : Nat} (hC : CV X m mo P) (hA : A < 134217728) (hB : B < 134217728) (k : ∀ z : Bool, (z = true ↔ ldP m mo P ∧ ctP m (mayG mo m P) A B) → Q (.inl (some (.int (nI z.toNat)))) (LX3 ++ r) X Y) : tX3_isCut [.ref 0, .int (nI A), .int (nI B)] (LX3 ++ r) X Y Q := by
  apply tX3_isCut_i
  by_cases hl : ldP m mo P
  · obtain ⟨hm, hw⟩ := id hl
    have hT := pw9 hm
    have h7 : ∀ c, c < 2 ^ m → X 7 c = nI (en m (mayG mo m P) c) := by
      obtain ⟨-, -, h | h⟩ := hC
      · exact h.2.2
      · omega
    have H : ∀ n j, j + n = 2 ^ m → (∀ c, c < j → en m (mayG mo m P) c ≠ 0 → (∀ j, Bs A j → Bs c j) → (∀ j, Bs B j → ¬ Bs c j) → False) → hX3_isCut_2 Q r (nI A) (nI B) (nI j) X Y := by
      intro n
      induction n with
      | zero =>
        intro j hj hI
        apply hX3_isCut_2_i
        refine X3_isLaid_s hC (fun z hz => cK1_mk ?_)
        have hz1 : z = true := hz.mpr hl
        subst hz1
        simp (disch := omega) only [m_0, m_L0, m_lt, m_le, m_eq, m_neg, m_in, m_clamp, m_add, m_sub, m_pred, m_mul, m_l, m_i, m_Land, m_Lor, m_and, m_or, m_xor, m_Landn, m_andn, m_LshlP, m_shl, m_LbitP, m_bit, m_cmp0P, m_Lb0, m_Lb1, m_b0, m_b1, Nat.one_mul, hC.1.2.1]
        refine ⟨fun h => absurd h (by decide), fun _ => ⟨fun _ => ⟨(by first | exact Or.inl rfl | exact Or.inr rfl | exact Or.inl trivial | exact Or.inr trivial), k false ⟨fun z => (by cases z), fun z => ?_⟩⟩, fun h => by omega⟩⟩
        obtain ⟨-, o, ho, i, hi, q1, q2⟩ := z
        exact (hI (ctO o i) (by have := (ho.cut i hi).1; omega) ((en_live hw).mpr ⟨o, ho, i, hi, rfl⟩) q1 q2).elim
      | succ n ih =>
        intro j hj hI
        have hjT : j < 2 ^ m := by omega
        have b1 := en_le (may := mayG mo m P) hm hjT
        have n1 := nAn_le A j
        have n2 : B &&& j ≤ B := Nat.and_le_left
        apply hX3_isCut_2_i
        refine X3_isLaid_s hC (fun z hz => cK1_mk ?_)
        have hz1 : z = true := hz.mpr hl
        subst hz1
        have nx : (en m (mayG mo m P) j ≠ 0 → (∀ i, Bs A i → Bs j i) → (∀ i, Bs B i → ¬ Bs j i) → False) → hX3_isCut_2 Q r (nI A) (nI B) (nI (j + 1)) X Y := fun h => ih (j + 1) (by omega) (fun c hc => by
          by_cases e : c = j
          · subst e; exact h
          · exact hI c (by omega))
        simp (disch := omega) only [m_0, m_L0, m_lt, m_le, m_eq, m_neg, m_in, m_clamp, m_add, m_sub, m_pred, m_mul, m_l, m_i, m_Land, m_Lor, m_and, m_or, m_xor, m_Landn, m_andn, m_LshlP, m_shl, m_LbitP, m_bit, m_cmp0P, m_Lb0, m_Lb1, m_b0, m_b1, Nat.one_mul, hC.1.2.1, h7 j hjT]
        refine ⟨fun h => absurd h (by decide), fun _ => ⟨fun h => by omega, fun _ => ⟨fun h => by omega, fun _ => ⟨by omega, fun q => nx (fun q1 _ _ => q1 q), fun q => ⟨fun q2 => nx (fun _ q3 _ => q2 (nAn_0.mpr q3)), fun q2 => ⟨fun q3 => nx (fun _ _ q4 => q3 (and_0.mpr q4)), fun q3 => ⟨(by first | exact Or.inl rfl | exact Or.inr rfl | exact Or.inl trivial | exact Or.inr trivial), k true ⟨fun _ => ⟨hl, ?_⟩, fun _ => rfl⟩⟩⟩⟩⟩⟩⟩⟩
        obtain ⟨o, ho, i, hi, rfl⟩ := (en_live hw).mp q
        exact ⟨o, ho, i, hi, nAn_0.mp (Classical.not_not.mp q2), and_0.mp (Classical.not_not.mp q3)⟩
    exact H _ 0 (Nat.zero_add _) (fun c hc => by omega)
  · apply hX3_isCut_2_i
    refine X3_isLaid_s hC (fun z hz => cK1_mk ?_)
    have hz0 : z = false := by cases z; rfl; exact absurd (hz.mp rfl) hl
    subst hz0
    exact ⟨fun _ => ⟨(by first | exact Or.inl rfl | exact Or.inr rfl | exact Or.inl trivial | exact Or.inr trivial), k false ⟨fun q => (by cases q), fun q => absurd q.1 hl⟩⟩, fun h => absurd rfl h⟩
end LayD
