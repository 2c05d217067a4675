/-! sets as numbers -/
theorem odd_part : ∀ n m : Nat, m ≤ n → 0 < m → ∃ l q, m = 2 ^ (l + 1) * q + 2 ^ l
  | 0, m, h, h0 => by omega
  | n + 1, m, h, h0 => by
    by_cases he : m % 2 = 1
    · exact ⟨0, m / 2, by omega⟩
    · obtain ⟨l, q, e⟩ := odd_part n (m / 2) (by omega) (by omega)
      refine ⟨l + 1, q, ?_⟩
      have e2 : m = 2 * (m / 2) := by omega
      have p1 : 2 ^ (l + 1 + 1) * q = 2 * (2 ^ (l + 1) * q) := by rw [Nat.pow_succ, Nat.mul_comm (2 ^ (l + 1)) 2, Nat.mul_assoc]
      have p2 : 2 ^ (l + 1) = 2 * 2 ^ l := by rw [Nat.pow_succ, Nat.mul_comm]
      rw [p1, p2, ← Nat.mul_add, ← p2, ← e]
      exact e2
theorem low_bits {l q i : Nat} : (2 ^ (l + 1) * q + 2 ^ l).testBit i = (if i < l + 1 then decide (i = l) else q.testBit (i - (l + 1))) ∧ (2 ^ (l + 1) * q + 2 ^ l - 1).testBit i = (if i < l + 1 then decide (i < l) else q.testBit (i - (l + 1))) := by
  have h1 : 2 ^ l < 2 ^ (l + 1) := Nat.pow_lt_pow_right (by omega) (by omega)
  have h2 : 0 < 2 ^ l := Nat.pos_of_ne_zero (by simp)
  constructor
  · rw [Nat.testBit_two_pow_mul_add _ h1, Nat.testBit_two_pow]
    by_cases h : i < l + 1
    · simp only [h, if_true]; by_cases e : l = i <;> simp [e, eq_comm]
    · simp only [h, if_false]
  · rw [Nat.add_sub_assoc h2, Nat.testBit_two_pow_mul_add _ (by omega), Nat.testBit_two_pow_sub_one]
theorem low_of {m : Nat} (h0 : 0 < m) : ∃ l, m.testBit l = true ∧ (∀ i, i < l → m.testBit i = false) ∧ m &&& (m - 1) = nAn m (2 ^ l) ∧ nAn m (m - 1) = 2 ^ l := by
  obtain ⟨l, q, e⟩ := odd_part m m (Nat.le_refl _) h0
  refine ⟨l, ?_, fun i hi => ?_, ?_, ?_⟩
  · rw [e, low_bits.1]; simp
  · rw [e, low_bits.1]; simp only [show i < l + 1 by omega, if_true]; exact decide_eq_false (by omega)
  · apply Nat.eq_of_testBit_eq; intro i
    rw [Nat.testBit_and, nAn_bit, e, low_bits.1, low_bits.2, Nat.testBit_two_pow]
    by_cases h : i < l + 1
    · simp only [h, if_true]
      by_cases e2 : i = l
      · subst e2; simp
      · simp [e2, show ¬ l = i from fun q => e2 q.symm]
    · simp only [h, if_false]
      simp [show ¬ l = i by omega]
  · apply Nat.eq_of_testBit_eq; intro i
    rw [nAn_bit, e, low_bits.1, low_bits.2, Nat.testBit_two_pow]
    by_cases h : i < l + 1
    · simp only [h, if_true]
      by_cases e2 : i = l
      · subst e2; simp
      · simp [e2, show ¬ l = i from fun q => e2 q.symm]
    · simp only [h, if_false]
      simp [show ¬ l = i by omega]
theorem m_Lneg {m : Nat} (h0 : 0 < m) (hm : m < 18446744073709551616) : -(lN m) = lN (18446744073709551616 - m) := by
  apply Int64.toBitVec_inj.mp; apply BitVec.eq_of_toNat_eq
  simp only [lN, Int64.toBitVec_neg, Int64.toBitVec_ofNat', BitVec.toNat_neg, BitVec.toNat_ofNat]
  omega
theorem neg_bits {m i : Nat} (h0 : 0 < m) (hm : m < 18446744073709551616) : (18446744073709551616 - m).testBit i = (decide (i < 64) && !(m - 1).testBit i) := by
  have := Nat.testBit_two_pow_sub_succ (x := m - 1) (n := 64) (by omega) i
  rw [show m - 1 + 1 = m by omega] at this
  exact this
theorem m_low {m : Nat} (h0 : 0 < m) (hm : m < 9223372036854775808) : ∃ l, l < 63 ∧ m.testBit l = true ∧ (∀ i, i < l → m.testBit i = false) ∧ (lN m &&& (-(lN m))) - lN 1 = lN (2 ^ l - 1) ∧ lN m &&& (lN m - lN 1) = lN (nAn m (2 ^ l)) := by
  obtain ⟨l, h1, h2, h3, h4⟩ := low_of h0
  have hl : l < 63 := by
    refine Classical.byContradiction fun h => ?_
    have := Nat.testBit_lt_two_pow (x := m) (i := l) (Nat.lt_of_lt_of_le (by omega : m < 2 ^ 63) (Nat.pow_le_pow_right (by omega) (by omega)))
    rw [h1] at this; cases this
  refine ⟨l, hl, h1, h2, ?_, ?_⟩
  · rw [m_Lneg h0 (by omega), m_Land]
    have e : m &&& (18446744073709551616 - m) = 2 ^ l := by
      rw [← h4]
      apply Nat.eq_of_testBit_eq; intro i
      rw [Nat.testBit_and, neg_bits h0 (by omega), nAn_bit]
      by_cases hi : i < 64
      · simp [hi]
      · rw [Nat.testBit_lt_two_pow (x := m) (i := i) (Nat.lt_of_lt_of_le (by omega : m < 2 ^ 63) (Nat.pow_le_pow_right (by omega) (by omega)))]
        rfl
    rw [e, m_Lsub (Nat.pos_of_ne_zero (by simp))]
  · rw [m_Lsub (by omega), m_Land, h3]
theorem cnt_low : ∀ l : Fin 64, cnt (2 ^ l.val - 1) = l.val := by decide +kernel
/-- a number's bits as a set, and how many -/
def Bs (S v : Nat) : Prop := S.testBit v = true
theorem pcn_sz (S : Nat) : ∀ n, pcn S n = gSz (Bs S) n
  | 0 => rfl
  | n + 1 => by
    simp only [pcn, gSz, pcn_sz S n, Bs]
    by_cases h : S.testBit n = true
    · simp [h]
    · have h2 : S.testBit n = false := by simpa using h
      simp [h2]
theorem gSz_out {P : Nat → Prop} {n : Nat} (h : ∀ v, P v → v < n) : ∀ k, gSz P (n + k) = gSz P n
  | 0 => rfl
  | k + 1 => by
    show gSz P (n + k) + @ite Nat (P (n + k)) (Classical.propDecidable _) 1 0 = gSz P n
    have : ¬ P (n + k) := fun q => by have := h _ q; omega
    simp only [this, if_false, Nat.add_zero]
    exact gSz_out h k
theorem gSz_eq {P P' : Nat → Prop} {n : Nat} (h : ∀ v, P v ↔ P' v) : gSz P n = gSz P' n := Nat.le_antisymm (gSz_le (fun v => (h v).mp)) (gSz_le (fun v => (h v).mpr))
theorem bit_lt {m k i : Nat} (hm : m < 2 ^ k) (h : m.testBit i = true) : i < k := by
  refine Classical.byContradiction fun q => ?_
  rw [Nat.testBit_lt_two_pow (Nat.lt_of_lt_of_le hm (Nat.pow_le_pow_right (by omega) (by omega)))] at h
  cases h
theorem lt_of_bits {m k : Nat} (h : ∀ i, m.testBit i = true → i < k) : m < 2 ^ k := by
  apply Nat.lt_pow_two_of_testBit
  intro i hi
  cases hb : m.testBit i with
  | false => rfl
  | true => have := h i hb; omega
theorem ne0_bit {m : Nat} (h : m ≠ 0) : ∃ i, m.testBit i = true := by
  obtain ⟨l, h1, -⟩ := low_of (Nat.pos_of_ne_zero h)
  exact ⟨l, h1⟩
theorem eq0_bit {m : Nat} (h : ∀ i, m.testBit i = false) : m = 0 := by
  refine Classical.byContradiction fun q => ?_
  obtain ⟨i, hi⟩ := ne0_bit q
  rw [h i] at hi; cases hi
