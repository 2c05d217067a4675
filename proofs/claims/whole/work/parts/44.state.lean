/-! what was told: guests, memories (word, the two, by whom, how sure, in force), stays -/
abbrev St : Type := Nat × Nat × (Nat → Nat) × (Nat → Nat) × (Nat → Nat) × (Nat → Int) × (Nat → Nat) × (Nat → Bool) × (Nat → Int) × (Nat → Int)
def sG (s : St) : Nat := s.1
def sN (s : St) : Nat := s.2.1
def sWd (s : St) : Nat → Nat := s.2.2.1
def sFi (s : St) : Nat → Nat := s.2.2.2.1
def sSe (s : St) : Nat → Nat := s.2.2.2.2.1
def sTe (s : St) : Nat → Int := s.2.2.2.2.2.1
def sSu (s : St) : Nat → Nat := s.2.2.2.2.2.2.1
def sFo (s : St) : Nat → Bool := s.2.2.2.2.2.2.2.1
def sCa (s : St) : Nat → Int := s.2.2.2.2.2.2.2.2.1
def sWe (s : St) : Nat → Int := s.2.2.2.2.2.2.2.2.2
/-- what always holds -/
def SI (s : St) : Prop := sG s ≤ 9 ∧ sN s ≤ 40 ∧ (∀ k, k < sN s → sWd s k ≤ 3 ∧ sFi s k < sG s ∧ sSe s k < sG s ∧ sFi s k ≠ sSe s k ∧ -1 ≤ sTe s k ∧ sTe s k < sG s ∧ 1 ≤ sSu s k ∧ sSu s k ≤ 99) ∧ ∀ i, i < 9 → -1 ≤ sCa s i ∧ sCa s i ≤ 99 ∧ -1 ≤ sWe s i ∧ sWe s i ≤ 99
/-- a row of bits -/
def bmk (p : Nat → Bool) : Nat → Nat
  | 0 => 0
  | n + 1 => bmk p n + if p n then 2 ^ n else 0
theorem bmk_lt (p : Nat → Bool) : ∀ n, bmk p n < 2 ^ n
  | 0 => by simp [bmk]
  | n + 1 => by
    have := bmk_lt p n
    simp only [bmk, Nat.pow_succ]
    split <;> omega
theorem bmk_bit (p : Nat → Bool) (i : Nat) : ∀ n, (bmk p n).testBit i = (decide (i < n) && p i)
  | 0 => by simp [bmk]
  | n + 1 => by
    have ih := bmk_bit p i n
    have hlt := bmk_lt p n
    simp only [bmk]
    by_cases hp : p n = true
    · rw [if_pos hp, show bmk p n + 2 ^ n = 2 ^ n * 1 + bmk p n by omega, Nat.testBit_two_pow_mul_add _ hlt, ih]
      by_cases h1 : i < n
      · simp [h1, Nat.lt_succ_of_lt h1]
      · by_cases e : i = n
        · subst e; simp [hp]
        · rw [if_neg h1, Nat.testBit_lt_two_pow (Nat.one_lt_two_pow (by omega))]
          simp; omega
    · rw [if_neg hp, Nat.add_zero, ih]
      by_cases e : i = n
      · subst e; simp [hp]
      · have : decide (i < n + 1) = decide (i < n) := by
          by_cases h : i < n
          · simp [h, Nat.lt_succ_of_lt h]
          · simp [h]; omega
        rw [this]
/-- is memory k of the pair a, b -/
def isO (s : St) (k a b : Nat) : Bool := (sFi s k == a && sSe s k == b) || (sFi s k == b && sSe s k == a)
/-- who rules a pair, of the first n, with F in force -/
def rul (s : St) (F : Nat → Bool) (a b : Nat) : Nat → Option Nat
  | 0 => none
  | k + 1 => if F k && isO s k a b && (match rul s F a b k with | none => true | some j => decide (sSu s j ≤ sSu s k)) then some k else rul s F a b k
theorem rul_lt {s : St} {F : Nat → Bool} {a b : Nat} : ∀ {n k : Nat}, rul s F a b n = some k → k < n ∧ F k = true ∧ isO s k a b = true
  | 0, k, h => by cases h
  | n + 1, k, h => by
    rw [rul] at h
    by_cases q : (F n && isO s n a b && (match rul s F a b n with | none => true | some j => decide (sSu s j ≤ sSu s n))) = true
    · rw [if_pos q] at h
      cases h
      simp only [Bool.and_eq_true] at q
      exact ⟨by omega, q.1.1, q.1.2⟩
    · rw [if_neg q] at h
      have := rul_lt h
      exact ⟨by omega, this.2⟩
theorem isO_comm (s : St) (k a b : Nat) : isO s k a b = isO s k b a := by
  unfold isO
  exact Bool.or_comm _ _
theorem rul_comm (s : St) (F : Nat → Bool) (a b : Nat) : ∀ n, rul s F a b n = rul s F b a n
  | 0 => rfl
  | n + 1 => by
    simp only [rul]
    rw [rul_comm s F a b n, isO_comm]
/-- an option as an int -/
def oI (o : Option Nat) : Int32 := match o with
  | none => -1
  | some k => nI k
/-- what a pair is: 0 met, 1 apart, 2 open -/
def kd (s : St) (F : Nat → Bool) (a b : Nat) : Nat := match rul s F a b (sN s) with
  | none => 1
  | some k => if sWd s k = 3 then 1 else sWd s k
theorem kd_comm (s : St) (F : Nat → Bool) (a b : Nat) : kd s F a b = kd s F b a := by unfold kd; rw [rul_comm]
/-- whom each one has met -/
def mt (s : St) (F : Nat → Bool) (v : Nat) : Nat := if v < sG s then bmk (fun u => (u != v) && (kd s F v u == 0)) (sG s) else 0
theorem mt_eo {s : St} {F : Nat → Bool} {a b : Nat} : Eo (mt s F) a b ↔ a < sG s ∧ b < sG s ∧ a ≠ b ∧ kd s F a b = 0 := by
  unfold Eo mt
  by_cases h : a < sG s
  · rw [if_pos h, bmk_bit]
    simp only [Bool.and_eq_true, decide_eq_true_eq, bne_iff_ne, ne_eq, beq_iff_eq, h, true_and]
    exact ⟨fun q => ⟨q.1, fun z => q.2.1 z.symm, q.2.2⟩, fun q => ⟨q.1, fun z => q.2.1 z.symm, q.2.2⟩⟩
  · rw [if_neg h]; simp [h]
theorem mt_gm {s : St} {F : Nat → Bool} (hs : SI s) : GM 10 (mt s F) := by
  intro i j h
  have h1 := mt_eo.mp h
  have := hs.1
  exact ⟨by omega, by omega, h1.2.2.1, mt_eo.mpr ⟨h1.2.1, h1.1, fun z => h1.2.2.1 z.symm, by rw [kd_comm]; exact h1.2.2.2⟩⟩
theorem mt_lt {s : St} {F : Nat → Bool} (hs : SI s) (v : Nat) : mt s F v < 512 := by
  unfold mt
  split
  · have := bmk_lt (fun u => (u != v) && (kd s F v u == 0)) (sG s)
    have h2 := Nat.pow_le_pow_right (n := 2) (by omega) hs.1
    omega
  · omega
/-- the reference's cells -/
def SV (X : HX) (s : St) : Prop := X 1 0 = nI (sG s) ∧ X 1 1 = nI (sN s) ∧ (∀ k, k < sN s → X 1 (2 + 6 * k) = nI (sWd s k) ∧ X 1 (2 + 6 * k + 1) = nI (sFi s k) ∧ X 1 (2 + 6 * k + 2) = nI (sSe s k) ∧ X 1 (2 + 6 * k + 3) = zI (sTe s k) ∧ X 1 (2 + 6 * k + 4) = nI (sSu s k) ∧ X 1 (2 + 6 * k + 5) = nI (sFo s k).toNat) ∧ ∀ i, i < 9 → X 1 (242 + i) = zI (sCa s i) ∧ X 1 (251 + i) = zI (sWe s i)
section RulM
variable {Q : Qt} {r : Ly} {X : HX} {Y : HY} {s : St}
theorem X9_of_s {k j : Nat} (hk : k < 40) (hj : j < 6) (kk : Q (.inl (some (.int (X 1 (2 + 6 * k + j))))) (LX9 ++ r) X Y) : tX9_of [.ref 0, .int (nI k), .int (nI j)] (LX9 ++ r) X Y Q := by
  apply tX9_of_i
  simp (disch := omega) only [m_0, m_L0, m_lt, m_le, m_eq, m_neg, m_in, m_clamp, m_add, m_sub, m_pred, m_mul, m_l, m_i, m_Land, m_Lor, m_and, m_or, m_xor, m_Landn, m_andn, m_LshlP, m_shl, m_LbitP, m_bit, m_cmp0P, m_Lb0, m_Lb1, m_b0, m_b1, Nat.one_mul]
  exact ⟨by omega, kk⟩
theorem X9_isOf_s {k a b : Nat} (hI : SI s) (hV : SV X s) (hk : k < sN s) (ha : a < 9) (hb : b < 9) (kk : Q (.inl (some (.int (nI (isO s k a b).toNat)))) (LX9 ++ r) X Y) : tX9_isOf [.ref 0, .int (nI k), .int (nI a), .int (nI b)] (LX9 ++ r) X Y Q := by
  have hm := hI.2.2.1 k hk
  have hk40 : k < 40 := by have := hI.2.1; omega
  have g9 := hI.1
  have e := hV.2.2.1 k hk
  have t0 : isO s k a b = false → Q (.inl (some (.int (nI 0)))) (LX9 ++ r) X Y := fun h => by rw [h] at kk; exact kk
  have t1 : isO s k a b = true → Q (.inl (some (.int (nI 1)))) (LX9 ++ r) X Y := fun h => by rw [h] at kk; exact kk
  apply tX9_isOf_i
  refine X9_of_s hk40 (by omega) (cK1_mk ?_)
  simp (disch := omega) only [m_0, m_L0, m_lt, m_le, m_eq, m_neg, m_in, m_clamp, m_add, m_sub, m_pred, m_mul, m_l, m_i, m_Land, m_Lor, m_and, m_or, m_xor, m_Landn, m_andn, m_LshlP, m_shl, m_LbitP, m_bit, m_cmp0P, m_Lb0, m_Lb1, m_b0, m_b1, Nat.one_mul, e.2.1]
  refine ⟨fun h1 => X9_of_s hk40 (by omega) (cK1_mk ?_), fun h1 => X9_of_s hk40 (by omega) (cK1_mk ?_)⟩
  · simp (disch := omega) only [m_0, m_L0, m_lt, m_le, m_eq, m_neg, m_in, m_clamp, m_add, m_sub, m_pred, m_mul, m_l, m_i, m_Land, m_Lor, m_and, m_or, m_xor, m_Landn, m_andn, m_LshlP, m_shl, m_LbitP, m_bit, m_cmp0P, m_Lb0, m_Lb1, m_b0, m_b1, Nat.one_mul, e.2.1]
    refine ⟨fun h2 => ⟨(by first | exact Or.inl rfl | exact Or.inr rfl | exact Or.inl trivial | exact Or.inr trivial), t0 (by simp [isO, h1, h2])⟩, fun h2 => X9_of_s hk40 (by omega) (cK1_mk ?_)⟩
    simp (disch := omega) only [m_0, m_L0, m_lt, m_le, m_eq, m_neg, m_in, m_clamp, m_add, m_sub, m_pred, m_mul, m_l, m_i, m_Land, m_Lor, m_and, m_or, m_xor, m_Landn, m_andn, m_LshlP, m_shl, m_LbitP, m_bit, m_cmp0P, m_Lb0, m_Lb1, m_b0, m_b1, Nat.one_mul, e.2.2.1]
    have h2 := Classical.not_not.mp h2
    exact ⟨fun h3 => ⟨(by first | exact Or.inl rfl | exact Or.inr rfl | exact Or.inl trivial | exact Or.inr trivial), t0 (by simp [isO, h1, h3])⟩, fun h3 => ⟨(by first | exact Or.inl rfl | exact Or.inr rfl | exact Or.inl trivial | exact Or.inr trivial), t1 (by simp [isO, h2, Classical.not_not.mp h3])⟩⟩
  · have h1 := Classical.not_not.mp h1
    simp (disch := omega) only [m_0, m_L0, m_lt, m_le, m_eq, m_neg, m_in, m_clamp, m_add, m_sub, m_pred, m_mul, m_l, m_i, m_Land, m_Lor, m_and, m_or, m_xor, m_Landn, m_andn, m_LshlP, m_shl, m_LbitP, m_bit, m_cmp0P, m_Lb0, m_Lb1, m_b0, m_b1, Nat.one_mul, e.2.2.1]
    refine ⟨fun h2 => ⟨(by first | exact Or.inl rfl | exact Or.inr rfl | exact Or.inl trivial | exact Or.inr trivial), t1 (by simp [isO, h1, h2])⟩, fun h2 => X9_of_s hk40 (by omega) (cK1_mk ?_)⟩
    simp (disch := omega) only [m_0, m_L0, m_lt, m_le, m_eq, m_neg, m_in, m_clamp, m_add, m_sub, m_pred, m_mul, m_l, m_i, m_Land, m_Lor, m_and, m_or, m_xor, m_Landn, m_andn, m_LshlP, m_shl, m_LbitP, m_bit, m_cmp0P, m_Lb0, m_Lb1, m_b0, m_b1, Nat.one_mul, e.2.1]
    refine ⟨fun h3 => ⟨(by first | exact Or.inl rfl | exact Or.inr rfl | exact Or.inl trivial | exact Or.inr trivial), t0 (by simp [isO, h2, h3])⟩, fun h3 => X9_of_s hk40 (by omega) (cK1_mk ?_)⟩
    simp (disch := omega) only [m_0, m_L0, m_lt, m_le, m_eq, m_neg, m_in, m_clamp, m_add, m_sub, m_pred, m_mul, m_l, m_i, m_Land, m_Lor, m_and, m_or, m_xor, m_Landn, m_andn, m_LshlP, m_shl, m_LbitP, m_bit, m_cmp0P, m_Lb0, m_Lb1, m_b0, m_b1, Nat.one_mul, e.2.2.1]
    have h3 := Classical.not_not.mp h3
    exact ⟨fun h4 => ⟨(by first | exact Or.inl rfl | exact Or.inr rfl | exact Or.inl trivial | exact Or.inr trivial), t0 (by simp [isO, h2, h4])⟩, fun h4 => ⟨(by first | exact Or.inl rfl | exact Or.inr rfl | exact Or.inl trivial | exact Or.inr trivial), t1 (by simp [isO, h3, Classical.not_not.mp h4])⟩⟩
theorem X9_ruler_s {a b : Nat} (hI : SI s) (hV : SV X s) (ha : a < 9) (hb : b < 9) (kk : Q (.inl (some (.int (oI (rul s (sFo s) a b (sN s)))))) (LX9 ++ r) X Y) : tX9_ruler [.ref 0, .int (nI a), .int (nI b)] (LX9 ++ r) X Y Q := by
  apply tX9_ruler_i
  have n40 := hI.2.1
  have H : ∀ n k, k + n = sN s → hX9_ruler_5 Q r (nI a) (nI b) (oI (rul s (sFo s) a b k)) (nI k) X Y := by
    intro n
    induction n with
    | zero =>
      intro k hk
      apply hX9_ruler_5_i
      simp (disch := omega) only [m_0, m_L0, m_lt, m_le, m_eq, m_neg, m_in, m_clamp, m_add, m_sub, m_pred, m_mul, m_l, m_i, m_Land, m_Lor, m_and, m_or, m_xor, m_Landn, m_andn, m_LshlP, m_shl, m_LbitP, m_bit, m_cmp0P, m_Lb0, m_Lb1, m_b0, m_b1, Nat.one_mul, hV.2.1]
      refine ⟨by omega, fun _ => ?_, fun h => by omega⟩
      rw [show k = sN s by omega]; exact kk
    | succ n ih =>
      intro k hk
      have hkn : k < sN s := by omega
      have hm := hI.2.2.1 k hkn
      have e := hV.2.2.1 k hkn
      have go : ∀ o, rul s (sFo s) a b (k + 1) = o → hX9_ruler_5 Q r (nI a) (nI b) (oI o) (nI (k + 1)) X Y := fun o ho => ho ▸ ih (k + 1) (by omega)
      apply hX9_ruler_5_i
      simp (disch := omega) only [m_0, m_L0, m_lt, m_le, m_eq, m_neg, m_in, m_clamp, m_add, m_sub, m_pred, m_mul, m_l, m_i, m_Land, m_Lor, m_and, m_or, m_xor, m_Landn, m_andn, m_LshlP, m_shl, m_LbitP, m_bit, m_cmp0P, m_Lb0, m_Lb1, m_b0, m_b1, Nat.one_mul, hV.2.1]
      refine ⟨by omega, fun h => by omega, fun _ => X9_of_s (by omega) (by omega) (cK1_mk ?_)⟩
      rw [e.2.2.2.2.2]
      have fb : (sFo s k).toNat < 2 := by cases sFo s k <;> decide
      simp (disch := omega) only [m_0, m_L0, m_lt, m_le, m_eq, m_neg, m_in, m_clamp, m_add, m_sub, m_pred, m_mul, m_l, m_i, m_Land, m_Lor, m_and, m_or, m_xor, m_Landn, m_andn, m_LshlP, m_shl, m_LbitP, m_bit, m_cmp0P, m_Lb0, m_Lb1, m_b0, m_b1, Nat.one_mul]
      refine ⟨fun hf => go _ ?_, fun hf => X9_isOf_s hI hV hkn ha hb (cK1_mk ?_)⟩
      · have : sFo s k = false := by cases h : sFo s k; rfl; rw [h] at hf; exact absurd rfl hf
        simp [rul, this]
      · have hf2 : sFo s k = true := by cases h : sFo s k; rw [h] at hf; exact absurd (by decide) hf; rfl
        have ob : (isO s k a b).toNat < 2 := by cases isO s k a b <;> decide
        simp (disch := omega) only [m_0, m_L0, m_lt, m_le, m_eq, m_neg, m_in, m_clamp, m_add, m_sub, m_pred, m_mul, m_l, m_i, m_Land, m_Lor, m_and, m_or, m_xor, m_Landn, m_andn, m_LshlP, m_shl, m_LbitP, m_bit, m_cmp0P, m_Lb0, m_Lb1, m_b0, m_b1, Nat.one_mul]
        refine ⟨fun ho => go _ ?_, fun ho => ?_⟩
        · have : isO s k a b = false := by cases h : isO s k a b; rfl; rw [h] at ho; exact absurd ho (by decide)
          simp [rul, this]
        · have ho2 : isO s k a b = true := by cases h : isO s k a b; rw [h] at ho; exact absurd rfl ho; rfl
          cases hr : rul s (sFo s) a b k with
          | none =>
            refine ⟨fun _ => go (some k) (by simp [rul, hf2, ho2, hr]), fun h => absurd rfl h⟩
          | some j =>
            have hj := rul_lt hr
            have hjm := hI.2.2.1 j (by omega)
            have ej := hV.2.2.1 j (by omega)
            refine ⟨fun h => by have h9 : nI j = -1 := h; rw [m_neg (by omega)] at h9; exact h9.elim, fun _ => X9_of_s (by omega) (by omega) (cK1_mk (X9_of_s (by omega) (by omega) (cK1_mk ?_)))⟩
            rw [e.2.2.2.2.1, ej.2.2.2.2.1]
            simp (disch := omega) only [m_0, m_L0, m_lt, m_le, m_eq, m_neg, m_in, m_clamp, m_add, m_sub, m_pred, m_mul, m_l, m_i, m_Land, m_Lor, m_and, m_or, m_xor, m_Landn, m_andn, m_LshlP, m_shl, m_LbitP, m_bit, m_cmp0P, m_Lb0, m_Lb1, m_b0, m_b1, Nat.one_mul]
            refine ⟨fun h => go (some j) (by simp only [rul, hf2, ho2, hr, Bool.true_and]; rw [if_neg]; simp; omega), fun h => go (some k) (by simp only [rul, hf2, ho2, hr, Bool.true_and]; rw [if_pos]; simp; omega)⟩
  exact H (sN s) 0 (by omega)
theorem X9_kindOf_s {a b : Nat} (hI : SI s) (hV : SV X s) (ha : a < 9) (hb : b < 9) (kk : Q (.inl (some (.int (nI (kd s (sFo s) a b))))) (LX9 ++ r) X Y) : tX9_kindOf [.ref 0, .int (nI a), .int (nI b)] (LX9 ++ r) X Y Q := by
  apply tX9_kindOf_i
  have n40 := hI.2.1
  refine X9_ruler_s hI hV ha hb (cK1_mk ?_)
  unfold kd at kk
  cases hr : rul s (sFo s) a b (sN s) with
  | none =>
    rw [hr] at kk
    exact ⟨fun h => absurd rfl h, fun _ => kk⟩
  | some j =>
    have hj := rul_lt hr
    have hjm := hI.2.2.1 j (by omega)
    have ej := hV.2.2.1 j (by omega)
    rw [hr] at kk
    refine ⟨fun _ => X9_of_s (by omega) (by omega) (cK1_mk ?_), fun h => by have h9 : nI j = -1 := Classical.not_not.mp h; rw [m_neg (by omega)] at h9; exact h9.elim⟩
    rw [Nat.add_zero, ej.1]
    simp (disch := omega) only [m_0, m_L0, m_lt, m_le, m_eq, m_neg, m_in, m_clamp, m_add, m_sub, m_pred, m_mul, m_l, m_i, m_Land, m_Lor, m_and, m_or, m_xor, m_Landn, m_andn, m_LshlP, m_shl, m_LbitP, m_bit, m_cmp0P, m_Lb0, m_Lb1, m_b0, m_b1, Nat.one_mul]
    refine ⟨fun h => X9_of_s (by omega) (by omega) (cK1_mk ?_), fun h => ?_⟩
    · rw [Nat.add_zero, ej.1]
      simp (disch := omega) only [m_0, m_L0, m_lt, m_le, m_eq, m_neg, m_in, m_clamp, m_add, m_sub, m_pred, m_mul, m_l, m_i, m_Land, m_Lor, m_and, m_or, m_xor, m_Landn, m_andn, m_LshlP, m_shl, m_LbitP, m_bit, m_cmp0P, m_Lb0, m_Lb1, m_b0, m_b1, Nat.one_mul]
      refine ⟨fun h2 => ?_, fun h2 => ?_⟩
      · by_cases h3 : sWd s j = 3
        · simpa only [h3, if_true] using kk
        · have : sWd s j = 1 := by omega
          simpa only [this, show ¬ (1 : Nat) = 3 by omega, if_false] using kk
      · have h2 := Classical.not_not.mp h2
        simpa only [h2, show ¬ (2 : Nat) = 3 by omega, if_false] using kk
    · have h := Classical.not_not.mp h
      simpa only [h, show ¬ (0 : Nat) = 3 by omega, if_false] using kk
end RulM
