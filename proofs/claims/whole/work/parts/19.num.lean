/-! numbers of the machine as Nat and Int -/
def zI (z : Int) : Int32 := Int32.ofInt z
/-- a without b -/
def nAn (a b : Nat) : Nat := a ^^^ (a &&& b)
theorem nAn_bit (a b i : Nat) : (nAn a b).testBit i = (a.testBit i && !b.testBit i) := by
  simp only [nAn, Nat.testBit_xor, Nat.testBit_and]
  cases a.testBit i <;> cases b.testBit i <;> rfl
theorem nAn_le (a b : Nat) : nAn a b ≤ a := by
  have h : nAn a b = nAn a b &&& a := Nat.eq_of_testBit_eq fun i => by
    rw [Nat.testBit_and, nAn_bit]
    cases a.testBit i <;> cases b.testBit i <;> rfl
  rw [h]
  exact Nat.and_le_right
theorem m_zI (n : Nat) : zI (n : Int) = nI n := rfl
theorem m_toI {z : Int} (h1 : -2147483648 ≤ z) (h2 : z < 2147483648) : (zI z).toInt = z := by
  unfold zI
  rw [Int32.toInt_ofInt]
  show z.bmod 4294967296 = z
  exact Int.bmod_eq_of_le (by omega) (by omega)
theorem m_zlt {a b : Int} (h1 : -2147483648 ≤ a ∧ a < 2147483648) (h2 : -2147483648 ≤ b ∧ b < 2147483648) : zI a < zI b ↔ a < b := by
  rw [Int32.lt_iff_toInt_lt, m_toI h1.1 h1.2, m_toI h2.1 h2.2]
theorem m_zle {a b : Int} (h1 : -2147483648 ≤ a ∧ a < 2147483648) (h2 : -2147483648 ≤ b ∧ b < 2147483648) : zI a ≤ zI b ↔ a ≤ b := by
  rw [Int32.le_iff_toInt_le, m_toI h1.1 h1.2, m_toI h2.1 h2.2]
theorem m_zeq {a b : Int} (h1 : -2147483648 ≤ a ∧ a < 2147483648) (h2 : -2147483648 ≤ b ∧ b < 2147483648) : zI a = zI b ↔ a = b := by
  rw [← Int32.toInt_inj, m_toI h1.1 h1.2, m_toI h2.1 h2.2]
theorem m_zadd (a b : Int) : zI a + zI b = zI (a + b) := (Int32.ofInt_add a b).symm
theorem m_zsub (a b : Int) : zI a - zI b = zI (a - b) := (Int32.ofInt_sub a b).symm
theorem m_m1 : (-1 : Int32) = zI (-1) := rfl
theorem m_0 : (0 : Int32) = nI 0 := rfl
theorem m_L0 : (0 : Int64) = lN 0 := rfl
theorem m_lt {a b : Nat} (ha : a < 2147483648) (hb : b < 2147483648) : nI a < nI b ↔ a < b := nI_ltI ha hb
theorem m_le {a b : Nat} (ha : a < 2147483648) (hb : b < 2147483648) : nI a ≤ nI b ↔ a ≤ b := nI_leI ha hb
theorem m_eq {a b : Nat} (ha : a < 2147483648) (hb : b < 2147483648) : nI a = nI b ↔ a = b := nI_eq ha hb
theorem m_lt0 {a : Nat} (ha : a < 2147483648) : nI a < 0 ↔ False := ⟨fun h => nI_pos ha h, fun h => h.elim⟩
theorem m_neg {a : Nat} (ha : a < 2147483648) : nI a = -1 ↔ False := by
  rw [m_m1, ← m_zI, m_zeq (by omega) (by omega)]
  exact ⟨fun h => by omega, False.elim⟩
theorem m_negz {a : Int} (h1 : -2147483648 ≤ a ∧ a < 2147483648) : zI a = -1 ↔ a = -1 := by
  rw [m_m1, m_zeq h1 (by omega)]
theorem m_clamp {a : Nat} (ha : a < 2147483648) : (nI a).toNatClampNeg = a := nI_clamp ha
theorem m_in {a n : Nat} (ha : a < 2147483648) : vp_in (nI a) n ↔ a < n := by
  rw [vp_in_iff, nI_toInt ha]
  omega
theorem m_add (a b : Nat) : nI a + nI b = nI (a + b) := nI_add a b
theorem m_sub {a b : Nat} (h : b ≤ a) : nI a - nI b = nI (a - b) := pk_sub h
theorem m_pred {a : Nat} (h : 0 < a) : nI a + (-1) = nI (a - 1) := sb_m1 h
theorem m_l {n : Nat} (h : n < 2147483648) : (nI n).toInt64 = lN n := nI_l h
theorem m_i (n : Nat) : (lN n).toInt32 = nI n := lN_i n
theorem m_Land (a b : Nat) : lN a &&& lN b = lN (a &&& b) := by
  apply Int64.toBitVec_inj.mp; apply BitVec.eq_of_toNat_eq
  simp [lN, Nat.and_mod_two_pow]
theorem m_Lor (a b : Nat) : lN a ||| lN b = lN (a ||| b) := by
  apply Int64.toBitVec_inj.mp; apply BitVec.eq_of_toNat_eq
  simp [lN, Nat.or_mod_two_pow]
theorem m_and (a b : Nat) : nI a &&& nI b = nI (a &&& b) := by
  apply Int32.toBitVec_inj.mp; apply BitVec.eq_of_toNat_eq
  simp [nI, Nat.and_mod_two_pow]
theorem m_or (a b : Nat) : nI a ||| nI b = nI (a ||| b) := by
  apply Int32.toBitVec_inj.mp; apply BitVec.eq_of_toNat_eq
  simp [nI, Nat.or_mod_two_pow]
theorem m_xor (a b : Nat) : nI a ^^^ nI b = nI (a ^^^ b) := by
  apply Int32.toBitVec_inj.mp; apply BitVec.eq_of_toNat_eq
  simp [nI, Nat.xor_mod_two_pow]
theorem m_Lxor (a b : Nat) : lN a ^^^ lN b = lN (a ^^^ b) := by
  apply Int64.toBitVec_inj.mp; apply BitVec.eq_of_toNat_eq
  simp [lN, Nat.xor_mod_two_pow]
theorem m_Ladd (a b : Nat) : lN a + lN b = lN (a + b) := lN_add a b
theorem m_Lsub {a b : Nat} (h : b ≤ a) : lN a - lN b = lN (a - b) := lN_sub h
theorem m_Leq {a b : Nat} (ha : a < 9223372036854775808) (hb : b < 9223372036854775808) : lN a = lN b ↔ a = b := pk_lEQ ha hb
theorem m_cmp0 {x y : Int64} : lg_cmp x y = 0 ↔ x = y := by
  unfold lg_cmp
  by_cases h2 : x = y
  · simp [h2]
  · by_cases h : y < x <;> simp [h, h2]
theorem m_all (i : Nat) (h : i < 64) : (18446744073709551615 : Nat).testBit i = true := by
  rw [show (18446744073709551615 : Nat) = 2 ^ 64 - 1 from rfl, Nat.testBit_two_pow_sub_one]
  exact decide_eq_true h
theorem m_all32 (i : Nat) (h : i < 32) : (4294967295 : Nat).testBit i = true := by
  rw [show (4294967295 : Nat) = 2 ^ 32 - 1 from rfl, Nat.testBit_two_pow_sub_one]
  exact decide_eq_true h
theorem m_bitL {a b i : Nat} (e : a % 18446744073709551616 = b % 18446744073709551616) (h : i < 64) : a.testBit i = b.testBit i := by
  have h1 := Nat.testBit_mod_two_pow a 64 i
  have h2 := Nat.testBit_mod_two_pow b 64 i
  rw [show (2 : Nat) ^ 64 = 18446744073709551616 from rfl] at h1 h2
  rw [e] at h1
  simp only [h, decide_true, Bool.true_and] at h1 h2
  rw [← h1, h2]
theorem m_extL {a b : Nat} (h : ∀ i, i < 64 → a.testBit i = b.testBit i) : lN a = lN b := by
  apply Int64.toBitVec_inj.mp; apply BitVec.eq_of_toNat_eq
  apply Nat.eq_of_testBit_eq
  intro i
  simp only [lN, Int64.toBitVec_ofNat', BitVec.toNat_ofNat, Nat.testBit_mod_two_pow]
  by_cases hi : i < 64
  · simp [hi, h i hi]
  · simp [hi]
theorem m_ext {a b : Nat} (h : ∀ i, i < 32 → a.testBit i = b.testBit i) : nI a = nI b := by
  apply Int32.toBitVec_inj.mp; apply BitVec.eq_of_toNat_eq
  apply Nat.eq_of_testBit_eq
  intro i
  simp only [nI, Int32.toBitVec_ofNat', BitVec.toNat_ofNat, Nat.testBit_mod_two_pow]
  by_cases hi : i < 32
  · simp [hi, h i hi]
  · simp [hi]
theorem m_Lm1 : (-1 : Int64) = lN 18446744073709551615 := rfl
theorem m_Im1 : (-1 : Int32) = nI 4294967295 := rfl
theorem m_Landn (a b : Nat) : lN a &&& (lN b ^^^ (-1)) = lN (nAn a b) := by
  rw [m_Lm1, m_Lxor, m_Land]
  exact m_extL fun i hi => by rw [Nat.testBit_and, Nat.testBit_xor, m_all i hi, nAn_bit]; cases b.testBit i <;> rfl
theorem m_andn (a b : Nat) : nI a &&& (nI b ^^^ (-1)) = nI (nAn a b) := by
  rw [m_Im1, m_xor, m_and]
  exact m_ext fun i hi => by rw [Nat.testBit_and, Nat.testBit_xor, m_all32 i hi, nAn_bit]; cases b.testBit i <;> rfl
theorem m_s64 : ∀ k : Fin 64, (((nI k.val).toInt64 &&& 63).toBitVec.smod 64).toNat = k.val := by decide +kernel
theorem m_s32 : ∀ k : Fin 32, ((nI k.val &&& 31).toBitVec.smod 32).toNat = k.val := by decide +kernel
theorem m_Lshl {m k : Nat} (hk : k < 64) : lN m <<< ((nI k).toInt64 &&& 63) = lN (m * 2 ^ k) := by
  apply Int64.toBitVec_inj.mp; apply BitVec.eq_of_toNat_eq
  rw [Int64.toBitVec_shiftLeft, BitVec.shiftLeft_eq', m_s64 ⟨k, hk⟩, BitVec.toNat_shiftLeft]
  simp [lN, Nat.shiftLeft_eq, Nat.mul_mod]
theorem m_shl {m k : Nat} (hk : k < 32) : nI m <<< (nI k &&& 31) = nI (m * 2 ^ k) := by
  apply Int32.toBitVec_inj.mp; apply BitVec.eq_of_toNat_eq
  rw [Int32.toBitVec_shiftLeft, BitVec.shiftLeft_eq', m_s32 ⟨k, hk⟩, BitVec.toNat_shiftLeft]
  simp [nI, Nat.shiftLeft_eq, Nat.mul_mod]
theorem m_Lshr {m k : Nat} (hm : m < 9223372036854775808) (hk : k < 64) : lN m >>> ((nI k).toInt64 &&& 63) = lN (m / 2 ^ k) := by
  apply Int64.toBitVec_inj.mp
  rw [Int64.toBitVec_shiftRight, BitVec.sshiftRight_eq', m_s64 ⟨k, hk⟩, BitVec.sshiftRight_eq_of_msb_false]
  · apply BitVec.eq_of_toNat_eq
    simp only [lN, Int64.toBitVec_ofNat', BitVec.toNat_ushiftRight, BitVec.toNat_ofNat, Nat.shiftRight_eq_div_pow]
    rw [Nat.mod_eq_of_lt (by omega : m < 2 ^ 64), Nat.mod_eq_of_lt]
    exact Nat.lt_of_le_of_lt (Nat.div_le_self _ _) (by omega)
  · rw [BitVec.msb_eq_decide]
    simp only [lN, Int64.toBitVec_ofNat', BitVec.toNat_ofNat]
    rw [Nat.mod_eq_of_lt (by omega : m < 2 ^ 64)]
    exact decide_eq_false (by omega)
theorem m_shr {m k : Nat} (hm : m < 2147483648) (hk : k < 32) : nI m >>> (nI k &&& 31) = nI (m / 2 ^ k) := by
  apply Int32.toBitVec_inj.mp
  rw [Int32.toBitVec_shiftRight, BitVec.sshiftRight_eq', m_s32 ⟨k, hk⟩, BitVec.sshiftRight_eq_of_msb_false]
  · apply BitVec.eq_of_toNat_eq
    simp only [nI, Int32.toBitVec_ofNat', BitVec.toNat_ushiftRight, BitVec.toNat_ofNat, Nat.shiftRight_eq_div_pow]
    rw [Nat.mod_eq_of_lt (by omega : m < 2 ^ 32), Nat.mod_eq_of_lt]
    exact Nat.lt_of_le_of_lt (Nat.div_le_self _ _) (by omega)
  · rw [BitVec.msb_eq_decide]
    simp only [nI, Int32.toBitVec_ofNat', BitVec.toNat_ofNat]
    rw [Nat.mod_eq_of_lt (by omega : m < 2 ^ 32)]
    exact decide_eq_false (by omega)
/-- bit k as a number -/
def nB (m k : Nat) : Nat := (m.testBit k).toNat
theorem nB_of (m k : Nat) : m / 2 ^ k &&& 1 = nB m k := by
  rw [Nat.and_one_is_mod, nB, Nat.testBit_eq_decide_div_mod_eq]
  by_cases h : m / 2 ^ k % 2 = 1
  · simp [h]
  · simp [h]; omega
theorem nB_lt (m k : Nat) : nB m k < 2 := by unfold nB; cases m.testBit k <;> decide
theorem m_Lbit {m k : Nat} (hm : m < 9223372036854775808) (hk : k < 64) : (lN m >>> ((nI k).toInt64 &&& 63)) &&& lN 1 = lN (nB m k) := by
  rw [m_Lshr hm hk, m_Land, nB_of]
theorem m_bit {m k : Nat} (hm : m < 2147483648) (hk : k < 32) : (nI m >>> (nI k &&& 31)) &&& nI 1 = nI (nB m k) := by
  rw [m_shr hm hk, m_and, nB_of]
theorem nB_0 (m k : Nat) : nB m k = 0 ↔ m.testBit k = false := by unfold nB; cases m.testBit k <;> decide
theorem nB_1 (m k : Nat) : nB m k = 1 ↔ m.testBit k = true := by unfold nB; cases m.testBit k <;> decide
theorem m_Lb0 {m k : Nat} : lN (nB m k) = lN 0 ↔ m.testBit k = false := by
  rw [m_Leq (by have := nB_lt m k; omega) (by omega), nB_0]
theorem m_Lb1 {m k : Nat} : lN (nB m k) = lN 1 ↔ m.testBit k = true := by
  rw [m_Leq (by have := nB_lt m k; omega) (by omega), nB_1]
theorem m_b0 {m k : Nat} : nI (nB m k) = nI 0 ↔ m.testBit k = false := by
  rw [m_eq (by have := nB_lt m k; omega) (by omega), nB_0]
theorem m_b1 {m k : Nat} : nI (nB m k) = nI 1 ↔ m.testBit k = true := by
  rw [m_eq (by have := nB_lt m k; omega) (by omega), nB_1]
theorem m_div {a d : Nat} (ha : a < 2147483648) (h0 : 0 < d) (hd : d < 2147483648) : nI a / nI d = nI (a / d) := pk_div ha h0 hd
theorem m_mul (a b : Nat) : nI a * nI b = nI (a * b) := pk_mul a b
