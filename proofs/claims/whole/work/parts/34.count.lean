/-! how many bits a number has: the JDK's way -/
def pcn (m : Nat) : Nat → Nat
  | 0 => 0
  | n + 1 => pcn m n + (m.testBit n).toNat
def cM5 : Nat → Nat
  | 0 => 0
  | n + 1 => 256 * cM5 n + 85
def cM3 : Nat → Nat
  | 0 => 0
  | n + 1 => 256 * cM3 n + 51
def cMf : Nat → Nat
  | 0 => 0
  | n + 1 => 256 * cMf n + 15
def cs1 (n m : Nat) : Nat := m - (m / 2 &&& cM5 n)
def cs2 (n m : Nat) : Nat := (cs1 n m &&& cM3 n) + (cs1 n m / 4 &&& cM3 n)
def cs3 (n m : Nat) : Nat := (cs2 n m + cs2 n m / 16) &&& cMf n
def cb1 (b : Nat) : Nat := b - (b / 2 &&& 85)
def cb2 (b : Nat) : Nat := (cb1 b &&& 51) + (cb1 b / 4 &&& 51)
theorem c_split {h b M c : Nat} (hb : b < 256) (hc : c < 256) : (256 * h + b) &&& (256 * M + c) = 256 * (h &&& M) + (b &&& c) := by
  have hbc : b &&& c < 2 ^ 8 := Nat.lt_of_le_of_lt Nat.and_le_left hb
  apply Nat.eq_of_testBit_eq
  intro i
  rw [Nat.testBit_and, show (256 : Nat) = 2 ^ 8 from rfl, Nat.testBit_two_pow_mul_add _ hb, Nat.testBit_two_pow_mul_add _ hc, Nat.testBit_two_pow_mul_add _ hbc]
  by_cases hi : i < 8
  · simp only [hi, if_true, Nat.testBit_and]
  · simp only [hi, if_false, Nat.testBit_and]
theorem c_t1 : ∀ b : Fin 256, ∀ k : Fin 2, (k.val * 128 + b.val / 2) &&& 85 = b.val / 2 &&& 85 ∧ b.val / 2 &&& 85 ≤ b.val := by decide +kernel
theorem c_t2 : ∀ b : Fin 256, ∀ k : Fin 4, (k.val * 64 + cb1 b.val / 4) &&& 51 = cb1 b.val / 4 &&& 51 := by decide +kernel
theorem c_t3 : ∀ b : Fin 256, cb1 b.val < 256 ∧ cb2 b.val < 69 ∧ cb2 b.val % 16 ≤ 4 ∧ cb2 b.val / 16 ≤ 4 ∧ (cb2 b.val + cb2 b.val / 16) % 16 = pcn b.val 8 ∧ pcn b.val 8 ≤ 8 := by decide +kernel
theorem cs1_step {n h b : Nat} (hb : b < 256) : cs1 (n + 1) (256 * h + b) = 256 * cs1 n h + cb1 b := by
  have e : (256 * h + b) / 2 = 256 * (h / 2) + (h % 2 * 128 + b / 2) := by omega
  have t := c_t1 ⟨b, hb⟩ ⟨h % 2, by omega⟩
  dsimp only at t
  have l1 : h / 2 &&& cM5 n ≤ h := Nat.le_trans Nat.and_le_left (Nat.div_le_self _ _)
  unfold cs1 cb1
  rw [e, cM5, c_split (by omega) (by omega), t.1]
  omega
theorem cs2_step {n h b : Nat} (hb : b < 256) : cs2 (n + 1) (256 * h + b) = 256 * cs2 n h + cb2 b := by
  have t3 := c_t3 ⟨b, hb⟩
  dsimp only at t3
  have e : (256 * cs1 n h + cb1 b) / 4 = 256 * (cs1 n h / 4) + (cs1 n h % 4 * 64 + cb1 b / 4) := by omega
  have t := c_t2 ⟨b, hb⟩ ⟨cs1 n h % 4, by omega⟩
  dsimp only at t
  unfold cs2 cb2
  rw [cs1_step hb, e, cM3, c_split (by omega) (by omega), c_split (by omega) (by omega), t]
  omega
theorem cs2_mod : ∀ n h : Nat, cs2 n h % 16 ≤ 4
  | 0, h => by
    have : cs2 0 h = 0 := by simp [cs2, cM3]
    omega
  | n + 1, h => by
    have e : h = 256 * (h / 256) + h % 256 := by omega
    have t3 := c_t3 ⟨h % 256, by omega⟩
    dsimp only at t3
    rw [e, cs2_step (by omega)]
    omega
theorem cs3_step {n h b : Nat} (hb : b < 256) : cs3 (n + 1) (256 * h + b) = 256 * cs3 n h + pcn b 8 := by
  have t3 := c_t3 ⟨b, hb⟩
  dsimp only at t3
  have hm := cs2_mod n h
  have e : 256 * cs2 n h + cb2 b + (256 * cs2 n h + cb2 b) / 16 = 256 * (cs2 n h + cs2 n h / 16) + (cs2 n h % 16 * 16 + cb2 b + cb2 b / 16) := by omega
  have a15 : ∀ x : Nat, x &&& 15 = x % 16 := fun x => Nat.and_two_pow_sub_one_eq_mod x 4
  unfold cs3
  rw [cs2_step hb, e, cMf, c_split (by omega) (by omega), a15, ← t3.2.2.2.2.1]
  omega
theorem pcn_split (h b : Nat) (hb : b < 256) : ∀ n, pcn (256 * h + b) (8 + n) = pcn b 8 + pcn h n
  | 0 => by
    have e : ∀ i, i < 8 → (256 * h + b).testBit i = b.testBit i := fun i hi => by
      rw [show (256 : Nat) = 2 ^ 8 from rfl, Nat.testBit_two_pow_mul_add _ hb, if_pos hi]
    simp only [pcn, e 0 (by omega), e 1 (by omega), e 2 (by omega), e 3 (by omega), e 4 (by omega), e 5 (by omega), e 6 (by omega), e 7 (by omega), Nat.add_zero]
  | n + 1 => by
    have ih := pcn_split h b hb n
    have e : (256 * h + b).testBit (8 + n) = h.testBit n := by
      rw [show (256 : Nat) = 2 ^ 8 from rfl, Nat.testBit_two_pow_mul_add _ hb, if_neg (by omega), Nat.add_sub_cancel_left]
    show pcn (256 * h + b) (8 + n) + ((256 * h + b).testBit (8 + n)).toNat = pcn b 8 + (pcn h n + (h.testBit n).toNat)
    rw [ih, e]; omega
/-- how many of the first 64 -/
def cnt (m : Nat) : Nat := pcn m 64
theorem cs3_8 {m : Nat} (hm : m < 18446744073709551616) : ∃ c0 c1 c2 c3 c4 c5 c6 c7 : Nat, c0 ≤ 8 ∧ c1 ≤ 8 ∧ c2 ≤ 8 ∧ c3 ≤ 8 ∧ c4 ≤ 8 ∧ c5 ≤ 8 ∧ c6 ≤ 8 ∧ c7 ≤ 8 ∧ cs3 8 m = c0 + 256 * (c1 + 256 * (c2 + 256 * (c3 + 256 * (c4 + 256 * (c5 + 256 * (c6 + 256 * c7)))))) ∧ pcn m 64 = c0 + c1 + c2 + c3 + c4 + c5 + c6 + c7 := by
  have st : ∀ (n m : Nat), cs3 (n + 1) m = 256 * cs3 n (m / 256) + pcn (m % 256) 8 := fun n m => by
    have e : m = 256 * (m / 256) + m % 256 := by omega
    have := cs3_step (n := n) (h := m / 256) (b := m % 256) (by omega)
    rw [← e] at this; exact this
  have sp : ∀ (n m : Nat), pcn m (8 + n) = pcn (m % 256) 8 + pcn (m / 256) n := fun n m => by
    have e : m = 256 * (m / 256) + m % 256 := by omega
    have := pcn_split (m / 256) (m % 256) (by omega) n
    rw [← e] at this; exact this
  have le : ∀ m : Nat, pcn (m % 256) 8 ≤ 8 := fun m => (c_t3 ⟨m % 256, by omega⟩).2.2.2.2.2
  have z : ∀ m : Nat, cs3 0 m = 0 := fun m => by simp [cs3, cMf]
  refine ⟨_, _, _, _, _, _, _, _, le m, le (m / 256), le (m / 256 / 256), le (m / 256 / 256 / 256), le (m / 256 / 256 / 256 / 256), le (m / 256 / 256 / 256 / 256 / 256), le (m / 256 / 256 / 256 / 256 / 256 / 256), le (m / 256 / 256 / 256 / 256 / 256 / 256 / 256), ?_, ?_⟩
  · rw [st 7, st 6, st 5, st 4, st 3, st 2, st 1, st 0, z]
    omega
  · rw [show (64 : Nat) = 8 + (8 + (8 + (8 + (8 + (8 + (8 + (8 + 0))))))) from rfl, sp, sp, sp, sp, sp, sp, sp, sp]
    simp only [pcn]
    omega
theorem m_u64 : ∀ k : Fin 64, (((nI k.val).toInt64.toUInt64 &&& Int64.toUInt64 63).toBitVec % 64).toNat = k.val := by decide +kernel
theorem m_u32 : ∀ k : Fin 32, (((nI k.val).toUInt32 &&& Int32.toUInt32 31).toBitVec % 32).toNat = k.val := by decide +kernel
theorem m_Lush {m k : Nat} (hm : m < 18446744073709551616) (hk : k < 64) : ((lN m).toUInt64 >>> ((nI k).toInt64.toUInt64 &&& Int64.toUInt64 63)).toInt64 = lN (m / 2 ^ k) := by
  apply Int64.toBitVec_inj.mp; apply BitVec.eq_of_toNat_eq
  show ((lN m).toBitVec >>> (((nI k).toInt64.toUInt64 &&& Int64.toUInt64 63).toBitVec % 64)).toNat = (lN (m / 2 ^ k)).toBitVec.toNat
  rw [BitVec.ushiftRight_eq', BitVec.toNat_ushiftRight, m_u64 ⟨k, hk⟩]
  simp only [lN, Int64.toBitVec_ofNat', BitVec.toNat_ofNat, Nat.shiftRight_eq_div_pow]
  rw [Nat.mod_eq_of_lt (by omega : m < 2 ^ 64), Nat.mod_eq_of_lt]
  exact Nat.lt_of_le_of_lt (Nat.div_le_self _ _) (by omega)
theorem m_ush {m k : Nat} (hm : m < 4294967296) (hk : k < 32) : ((nI m).toUInt32 >>> ((nI k).toUInt32 &&& Int32.toUInt32 31)).toInt32 = nI (m / 2 ^ k) := by
  apply Int32.toBitVec_inj.mp; apply BitVec.eq_of_toNat_eq
  show ((nI m).toBitVec >>> (((nI k).toUInt32 &&& Int32.toUInt32 31).toBitVec % 32)).toNat = (nI (m / 2 ^ k)).toBitVec.toNat
  rw [BitVec.ushiftRight_eq', BitVec.toNat_ushiftRight, m_u32 ⟨k, hk⟩]
  simp only [nI, Int32.toBitVec_ofNat', BitVec.toNat_ofNat, Nat.shiftRight_eq_div_pow]
  rw [Nat.mod_eq_of_lt (by omega : m < 2 ^ 32), Nat.mod_eq_of_lt]
  exact Nat.lt_of_le_of_lt (Nat.div_le_self _ _) (by omega)
theorem c_8 : cM5 8 = 6148914691236517205 ∧ cM3 8 = 3689348814741910323 ∧ cMf 8 = 1085102592571150095 ∧ cM5 4 = 1431655765 ∧ cM3 4 = 858993459 ∧ cMf 4 = 252645135 := by decide +kernel
theorem cs3_4 {m : Nat} (hm : m < 4294967296) : ∃ c0 c1 c2 c3 : Nat, c0 ≤ 8 ∧ c1 ≤ 8 ∧ c2 ≤ 8 ∧ c3 ≤ 8 ∧ cs3 4 m = c0 + 256 * (c1 + 256 * (c2 + 256 * c3)) ∧ pcn m 32 = c0 + c1 + c2 + c3 := by
  have st : ∀ (n m : Nat), cs3 (n + 1) m = 256 * cs3 n (m / 256) + pcn (m % 256) 8 := fun n m => by
    have e : m = 256 * (m / 256) + m % 256 := by omega
    have := cs3_step (n := n) (h := m / 256) (b := m % 256) (by omega)
    rw [← e] at this; exact this
  have sp : ∀ (n m : Nat), pcn m (8 + n) = pcn (m % 256) 8 + pcn (m / 256) n := fun n m => by
    have e : m = 256 * (m / 256) + m % 256 := by omega
    have := pcn_split (m / 256) (m % 256) (by omega) n
    rw [← e] at this; exact this
  have le : ∀ m : Nat, pcn (m % 256) 8 ≤ 8 := fun m => (c_t3 ⟨m % 256, by omega⟩).2.2.2.2.2
  have z : ∀ m : Nat, cs3 0 m = 0 := fun m => by simp [cs3, cMf]
  refine ⟨_, _, _, _, le m, le (m / 256), le (m / 256 / 256), le (m / 256 / 256 / 256), ?_, ?_⟩
  · rw [st 3, st 2, st 1, st 0, z]
    omega
  · rw [show (32 : Nat) = 8 + (8 + (8 + (8 + 0))) from rfl, sp, sp, sp, sp]
    simp only [pcn]
    omega
theorem pcn_out {m k : Nat} (hm : m < 2 ^ k) : ∀ n, pcn m (k + n) = pcn m k
  | 0 => rfl
  | n + 1 => by
    show pcn m (k + n) + (m.testBit (k + n)).toNat = pcn m k
    rw [pcn_out hm n, Nat.testBit_lt_two_pow (Nat.lt_of_lt_of_le hm (Nat.pow_le_pow_right (by omega) (by omega)))]
    rfl
theorem pcn_le (m : Nat) : ∀ n, pcn m n ≤ n
  | 0 => Nat.le_refl _
  | n + 1 => by
    have := pcn_le m n
    show pcn m n + (m.testBit n).toNat ≤ n + 1
    cases m.testBit n <;> simp <;> omega
theorem cnt_le (m : Nat) : cnt m ≤ 64 := pcn_le m 64
