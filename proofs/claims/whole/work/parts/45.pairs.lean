/-! Pairs and Book, by the class -/
theorem up2_same {α : Type} {X : Nat → Nat → α} {a i : Nat} {v : α} : up2 X a i v a i = v := by simp [up2]
theorem up2_idx {α : Type} {X : Nat → Nat → α} {a i j : Nat} {v : α} (h : j ≠ i) : up2 X a i v a j = X a j := by simp [up2, h]
theorem up2_out {α : Type} {X : Nat → Nat → α} {a c i j : Nat} {v : α} (h : c ≠ a) : up2 X a i v c j = X c j := by simp [up2, h]
theorem up2_row {α : Type} {X : Nat → Nat → α} {a c i : Nat} {v : α} (h : c ≠ a) : up2 X a i v c = X c := by funext j; simp [up2, h]
/-- the book's cells, from b on -/
def BV (b : Nat) (X : HX) (s : St) : Prop := X b 0 = nI (sG s) ∧ X b 1 = nI (sN s) ∧ (∀ k, k < sN s → X (b + 1) k = nI (sWd s k) ∧ X (b + 2) k = nI (sFi s k) ∧ X (b + 3) k = nI (sSe s k) ∧ X (b + 4) k = zI (sTe s k) ∧ X (b + 5) k = nI (sSu s k)) ∧ ∀ i, i < 9 → X (b + 6) i = zI (sCa s i) ∧ X (b + 7) i = zI (sWe s i)
theorem BV.of {b : Nat} {X X' : HX} {s : St} (h : BV b X s) (e : ∀ c, b ≤ c → c ≤ b + 7 → X' c = X c) : BV b X' s := by
  refine ⟨by rw [e b (by omega) (by omega)]; exact h.1, by rw [e b (by omega) (by omega)]; exact h.2.1, fun k hk => ?_, fun i hi => ?_⟩
  · rw [e (b + 1) (by omega) (by omega), e (b + 2) (by omega) (by omega), e (b + 3) (by omega) (by omega), e (b + 4) (by omega) (by omega), e (b + 5) (by omega) (by omega)]
    exact h.2.2.1 k hk
  · rw [e (b + 6) (by omega) (by omega), e (b + 7) (by omega) (by omega)]
    exact h.2.2.2 i hi
/-- the rulers' table, at cell c -/
def RV (c : Nat) (X : HX) (s : St) (F : Nat → Bool) (k : Nat) : Prop := ∀ a b, a < 9 → b < 9 → X c (9 * a + b) = oI (rul s F a b k)
section PairsC
variable {Q : Qt} {r : Ly} {X : HX} {Y : HY} {s : St} {F : Nat → Bool}
theorem oI_some {k : Nat} : oI (some k) = nI k := rfl
theorem oI_none : oI none = -1 := rfl
theorem X5_settle_s {f : Nat} (hI : SI s) (hB : BV 4 X s) (hf : f < 1099511627776) (k : ∀ X', (∀ c, c ≠ 3 → X' c = X c) → RV 3 X' s (fun i => f.testBit i) (sN s) → Q (.inl none) (LX5_0 ++ r) X' Y) : tX5_settle [.ref 0, .ref 4, .long (lN f)] (LX5_0 ++ r) X Y Q := by
  have n40 := hI.2.1
  have g9 := hI.1
  have L2 : ∀ n j X', j + n = sN s → (∀ c, c ≠ 3 → X' c = X c) → RV 3 X' s (fun i => f.testBit i) j → hX5_settle_30 Q r (lN f) (nI j) X' Y := by
    intro n
    induction n with
    | zero =>
      intro j X' hj h1 h2
      have e : X' 4 1 = nI (sN s) := by rw [h1 4 (by omega)]; exact hB.2.1
      apply hX5_settle_30_i
      simp (disch := omega) only [m_0, m_L0, m_lt, m_le, m_eq, m_neg, m_in, m_clamp, m_add, m_sub, m_pred, m_mul, m_l, m_i, m_Land, m_Lor, m_and, m_or, m_xor, m_Landn, m_andn, m_LshlP, m_shl, m_LbitP, m_bit, m_cmp0P, m_Lb0, m_Lb1, m_b0, m_b1, Nat.one_mul, e]
      refine ⟨fun _ => k X' h1 (by rw [show sN s = j by omega]; exact h2), fun h => by omega⟩
    | succ n ih =>
      intro j X' hj h1 h2
      have hB' : BV 4 X' s := hB.of (fun c q1 q2 => h1 c (by omega))
      have hjn : j < sN s := by omega
      have hm := hI.2.2.1 j hjn
      have e := hB'.2.2.1 j hjn
      have go : RV 3 X' s (fun i => f.testBit i) (j + 1) → hX5_settle_30 Q r (lN f) (nI (j + 1)) X' Y := fun h => ih (j + 1) X' (by omega) h1 h
      have put : (∀ a b, rul s (fun i => f.testBit i) a b (j + 1) = if isO s j a b then some j else rul s (fun i => f.testBit i) a b j) → hX5_settle_30 Q r (lN f) (nI (j + 1)) (up2 (up2 X' 3 (9 * sFi s j + sSe s j) (nI j)) 3 (9 * sSe s j + sFi s j) (nI j)) Y := by
        intro hr
        refine ih (j + 1) _ (by omega) (fun c hc => by rw [up2_row hc, up2_row hc, h1 c hc]) (fun a b ha hb => ?_)
        rw [hr a b]
        by_cases q : isO s j a b = true
        · rw [if_pos q, oI_some]
          simp only [isO, Bool.or_eq_true, Bool.and_eq_true, beq_iff_eq] at q
          rcases q with ⟨q1, q2⟩ | ⟨q1, q2⟩
          · by_cases q3 : 9 * a + b = 9 * sSe s j + sFi s j
            · rw [q3, up2_same]
            · rw [up2_idx q3, ← q1, ← q2, up2_same]
          · rw [← q1, ← q2, up2_same]
        · rw [if_neg q]
          have q3 : ¬ 9 * a + b = 9 * sSe s j + sFi s j := fun z => q (by simp [isO]; omega)
          have q4 : ¬ 9 * a + b = 9 * sFi s j + sSe s j := fun z => q (by simp [isO]; omega)
          rw [up2_idx q3, up2_idx q4]
          exact h2 a b ha hb
      apply hX5_settle_30_i
      simp (disch := omega) only [m_0, m_L0, m_lt, m_le, m_eq, m_neg, m_in, m_clamp, m_add, m_sub, m_pred, m_mul, m_l, m_i, m_Land, m_Lor, m_and, m_or, m_xor, m_Landn, m_andn, m_LshlP, m_shl, m_LbitP, m_bit, m_cmp0P, m_Lb0, m_Lb1, m_b0, m_b1, Nat.one_mul, hB'.2.1]
      refine ⟨fun h => by omega, fun _ => ⟨fun hb => go (fun a b ha hb2 => by rw [h2 a b ha hb2]; simp [rul, hb]), fun hb => ⟨by omega, by omega, ?_⟩⟩⟩
      have hb2 : f.testBit j = true := nz_nz hb
      apply tX5_rulerOf_i
      rw [e.2.1, e.2.2.1]
      simp (disch := omega) only [m_0, m_L0, m_lt, m_le, m_eq, m_neg, m_in, m_clamp, m_add, m_sub, m_pred, m_mul, m_l, m_i, m_Land, m_Lor, m_and, m_or, m_xor, m_Landn, m_andn, m_LshlP, m_shl, m_LbitP, m_bit, m_cmp0P, m_Lb0, m_Lb1, m_b0, m_b1, Nat.one_mul]
      refine ⟨by omega, cK1_mk ?_⟩
      rw [h2 _ _ (by omega) (by omega)]
      simp (disch := omega) only [m_0, m_L0, m_lt, m_le, m_eq, m_neg, m_in, m_clamp, m_add, m_sub, m_pred, m_mul, m_l, m_i, m_Land, m_Lor, m_and, m_or, m_xor, m_Landn, m_andn, m_LshlP, m_shl, m_LbitP, m_bit, m_cmp0P, m_Lb0, m_Lb1, m_b0, m_b1, Nat.one_mul, e.2.1, e.2.2.1, up2_out]
      cases hr : rul s (fun i => f.testBit i) (sFi s j) (sSe s j) j with
      | none =>
        refine ⟨fun _ => ⟨by omega, by omega, by omega, by omega, by omega, by omega, put (fun a b => ?_)⟩, fun h => absurd rfl h⟩
        by_cases q : isO s j a b = true
        · have : rul s (fun i => f.testBit i) a b j = none := by
            simp only [isO, Bool.or_eq_true, Bool.and_eq_true, beq_iff_eq] at q
            rcases q with ⟨q1, q2⟩ | ⟨q1, q2⟩
            · rw [← q1, ← q2]; exact hr
            · rw [rul_comm, ← q1, ← q2]; exact hr
          simp [rul, hb2, q, this]
        · simp [rul, q]
      | some t =>
        have ht := rul_lt hr
        have htm := hI.2.2.1 t (by omega)
        have et := hB'.2.2.1 t (by omega)
        have same : ∀ a b, isO s j a b = true → rul s (fun i => f.testBit i) a b j = some t := fun a b q => by
          simp only [isO, Bool.or_eq_true, Bool.and_eq_true, beq_iff_eq] at q
          rcases q with ⟨q1, q2⟩ | ⟨q1, q2⟩
          · rw [← q1, ← q2]; exact hr
          · rw [rul_comm, ← q1, ← q2]; exact hr
        rw [oI_some]
        simp (disch := omega) only [m_0, m_L0, m_lt, m_le, m_eq, m_neg, m_in, m_clamp, m_add, m_sub, m_pred, m_mul, m_l, m_i, m_Land, m_Lor, m_and, m_or, m_xor, m_Landn, m_andn, m_LshlP, m_shl, m_LbitP, m_bit, m_cmp0P, m_Lb0, m_Lb1, m_b0, m_b1, Nat.one_mul, e.2.2.2.2, et.2.2.2.2]
        refine ⟨fun h => h.elim, fun _ => ⟨by omega, by omega, fun hlt => go (fun a b ha hb2 => ?_), fun hlt => ⟨by omega, by omega, by omega, by omega, by omega, by omega, put (fun a b => ?_)⟩⟩⟩
        · rw [h2 a b ha hb2]
          by_cases q : isO s j a b = true
          · rw [same a b q]
            simp only [rul, same a b q]
            rw [if_neg]
            simp; omega
          · simp [rul, q]
        · by_cases q : isO s j a b = true
          · simp only [rul, same a b q, hb2, q, Bool.true_and, if_true]
            rw [if_pos]
            simp; omega
          · simp [rul, q]
  have L1 : ∀ n j X', j + n = 81 → (∀ c, c ≠ 3 → X' c = X c) → (∀ i, i < j → X' 3 i = -1) → hX5_settle_3 Q r (lN f) (nI j) X' Y := by
    intro n
    have e81 : Int32.ofNat 81 = nI 81 := rfl
    induction n with
    | zero =>
      intro j X' hj h1 h2
      apply hX5_settle_3_i
      rw [e81]
      simp (disch := omega) only [m_0, m_L0, m_lt, m_le, m_eq, m_neg, m_in, m_clamp, m_add, m_sub, m_pred, m_mul, m_l, m_i, m_Land, m_Lor, m_and, m_or, m_xor, m_Landn, m_andn, m_LshlP, m_shl, m_LbitP, m_bit, m_cmp0P, m_Lb0, m_Lb1, m_b0, m_b1, Nat.one_mul]
      refine ⟨fun _ => L2 _ 0 X' (Nat.zero_add _) h1 (fun a b ha hb => h2 _ (by omega)), fun h => by omega⟩
    | succ n ih =>
      intro j X' hj h1 h2
      apply hX5_settle_3_i
      rw [e81]
      simp (disch := omega) only [m_0, m_L0, m_lt, m_le, m_eq, m_neg, m_in, m_clamp, m_add, m_sub, m_pred, m_mul, m_l, m_i, m_Land, m_Lor, m_and, m_or, m_xor, m_Landn, m_andn, m_LshlP, m_shl, m_LbitP, m_bit, m_cmp0P, m_Lb0, m_Lb1, m_b0, m_b1, Nat.one_mul]
      refine ⟨fun h => by omega, fun _ => ⟨by omega, ih (j + 1) _ (by omega) (fun c hc => by rw [up2_row hc, h1 c hc]) (fun i hi => ?_)⟩⟩
      by_cases q : i = j
      · rw [q, up2_same]
      · rw [up2_idx q]; exact h2 i (by omega)
  apply tX5_settle_i
  exact L1 81 0 X (by omega) (fun _ _ => rfl) (fun i hi => by omega)
theorem X5_stateOf_s {L' : Ly} {a b : Nat} (hI : SI s) (hB : BV 4 X s) (hR : RV 3 X s F (sN s)) (ha : a < 9) (hb : b < 9) (k : Q (.inl (some (.int (nI (kd s F a b))))) (LX5_0 ++ L') X Y) : tX5_stateOf [.ref 0, .ref 4, .int (nI a), .int (nI b)] (LX5_0 ++ L') X Y Q := by
  have n40 := hI.2.1
  apply tX5_stateOf_i
  simp (disch := omega) only [m_0, m_L0, m_lt, m_le, m_eq, m_neg, m_in, m_clamp, m_add, m_sub, m_pred, m_mul, m_l, m_i, m_Land, m_Lor, m_and, m_or, m_xor, m_Landn, m_andn, m_LshlP, m_shl, m_LbitP, m_bit, m_cmp0P, m_Lb0, m_Lb1, m_b0, m_b1, Nat.one_mul]
  refine ⟨by omega, ?_⟩
  rw [hR a b ha hb]
  unfold kd at k
  cases hr : rul s F a b (sN s) with
  | none =>
    rw [hr] at k
    exact ⟨fun _ => k, fun h => absurd rfl h⟩
  | some j =>
    have hj := rul_lt hr
    have hjm := hI.2.2.1 j (by omega)
    have ej := hB.2.2.1 j (by omega)
    rw [hr] at k
    rw [oI_some]
    simp (disch := omega) only [m_0, m_L0, m_lt, m_le, m_eq, m_neg, m_in, m_clamp, m_add, m_sub, m_pred, m_mul, m_l, m_i, m_Land, m_Lor, m_and, m_or, m_xor, m_Landn, m_andn, m_LshlP, m_shl, m_LbitP, m_bit, m_cmp0P, m_Lb0, m_Lb1, m_b0, m_b1, Nat.one_mul, ej.1]
    refine ⟨fun h => h.elim, fun _ => ⟨by omega, fun h => ⟨by omega, ?_⟩, fun h => ?_⟩⟩
    · simpa only [h, if_false] using k
    · have h := Classical.not_not.mp h
      simpa only [h, if_true] using k
end PairsC
