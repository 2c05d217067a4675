/-! Meetings: what the class' methods answer -/
theorem m_1 : (1 : Int32) = nI 1 := rfl
theorem m_LshlP {m k : Nat} (hk : k < 64) : lN m <<< (lN k &&& 63) = lN (m * 2 ^ k) := by
  rw [← m_l (show k < 2147483648 by omega)]; exact m_Lshl hk
theorem m_LbitP {m k : Nat} (hm : m < 9223372036854775808) (hk : k < 64) : (lN m >>> (lN k &&& 63)) &&& lN 1 = lN (nB m k) := by
  rw [← m_l (show k < 2147483648 by omega)]; exact m_Lbit hm hk
theorem m_cmp0P {x y : Int64} : lg_cmp x y = nI 0 ↔ x = y := m_cmp0
theorem cK0_mk {L : Ly} {Q : Qt} {C : HX → HY → Prop} {X : HX} {Y : HY} (h : C X Y) : cK0 L Q C (.inl none) L X Y := ⟨rfl, Or.inl ⟨rfl, h⟩⟩
theorem cK1_mk {L : Ly} {Q : Qt} {C : Int32 → HX → HY → Prop} {X : HX} {Y : HY} {x : Int32} (h : C x X Y) : cK1 L Q C (.inl (some (.int x))) L X Y := ⟨rfl, Or.inl ⟨x, rfl, h⟩⟩
theorem cK2_mk {L : Ly} {Q : Qt} {C : Int64 → HX → HY → Prop} {X : HX} {Y : HY} {x : Int64} (h : C x X Y) : cK2 L Q C (.inl (some (.long x))) L X Y := ⟨rfl, Or.inl ⟨x, rfl, h⟩⟩
theorem cK0_ex {L : Ly} {Q : Qt} {C : HX → HY → Prop} {X : HX} {Y : HY} {E : String} (h : Q (.inr E) L X Y) : cK0 L Q C (.inr E) L X Y := ⟨rfl, Or.inr ⟨E, rfl, h⟩⟩
theorem cK1_ex {L : Ly} {Q : Qt} {C : Int32 → HX → HY → Prop} {X : HX} {Y : HY} {E : String} (h : Q (.inr E) L X Y) : cK1 L Q C (.inr E) L X Y := ⟨rfl, Or.inr ⟨E, rfl, h⟩⟩
theorem b01 (b : Bool) : nI b.toNat = 0 ∨ nI b.toNat = 1 := by cases b <;> decide
theorem b01_0 : nI 0 = 0 ∨ nI 0 = 1 := Or.inl rfl
theorem b01_1 : nI 1 = 0 ∨ nI 1 = 1 := Or.inr rfl
/-- who has met whom -/
def VM (w : Nat) (X : HX) (Y : HY) (M : Nat → Nat) : Prop := w ≤ 60 ∧ X 0 2 = nI w ∧ ∀ i, i < w → Y 1 i = lN (M i) ∧ M i < 1152921504606846976
def Eo (M : Nat → Nat) (a b : Nat) : Prop := (M a).testBit b = true
/-- rows of a graph of w -/
def GM (w : Nat) (M : Nat → Nat) : Prop := ∀ i j, Eo M i j → i < w ∧ j < w ∧ i ≠ j ∧ Eo M j i
theorem pow60 : (2 : Nat) ^ 60 = 1152921504606846976 := rfl
theorem X4_clear_s {Q : Qt} {w : Nat} {r : Ly} {X : HX} {Y : HY} (hw : w ≤ 60) (hX : X 0 2 = nI w) (k : ∀ Y', (∀ c, c ≠ 1 → Y' c = Y c) → (∀ i, i < w → Y' 1 i = lN 0) → Q (.inl none) (LX4 w ++ r) X Y') : tX4_clear [.ref 0] (LX4 w ++ r) X Y Q := by
  apply tX4_clear_i
  have L : ∀ n j Y', j + n = w → (∀ c, c ≠ 1 → Y' c = Y c) → (∀ i, i < j → Y' 1 i = lN 0) → hX4_clear_2 Q w r (nI j) X Y' := by
    intro n
    induction n with
    | zero =>
      intro j Y' hj hf h0
      apply hX4_clear_2_i
      rw [hX]
      simp (disch := omega) only [m_0, m_L0, m_lt, m_le, m_eq, m_neg, m_in, m_clamp, m_add, m_sub, m_pred, m_mul, m_l, m_i, m_Land, m_Lor, m_and, m_or, m_xor, m_Landn, m_andn, m_LshlP, m_shl, m_LbitP, m_bit, m_cmp0P, m_Lb0, m_Lb1, m_b0, m_b1, Nat.one_mul]
      exact ⟨fun _ => k Y' hf (fun i hi => h0 i (by omega)), fun h => by omega⟩
    | succ n ih =>
      intro j Y' hj hf h0
      apply hX4_clear_2_i
      rw [hX]
      simp (disch := omega) only [m_0, m_L0, m_lt, m_le, m_eq, m_neg, m_in, m_clamp, m_add, m_sub, m_pred, m_mul, m_l, m_i, m_Land, m_Lor, m_and, m_or, m_xor, m_Landn, m_andn, m_LshlP, m_shl, m_LbitP, m_bit, m_cmp0P, m_Lb0, m_Lb1, m_b0, m_b1, Nat.one_mul]
      refine ⟨fun h => by omega, fun _ => ⟨by omega, ih _ _ (by omega) (fun c hc => ?_) (fun i hi => ?_)⟩⟩
      · funext b; simp only [up2, hc, if_false]; rw [hf c hc]
      · simp only [up2, if_true]
        by_cases e : i = j
        · simp [e]
        · simp only [e, if_false]; exact h0 i (by omega)
  exact L w 0 Y (by omega) (fun _ _ => rfl) (fun i hi => by omega)
/-- the one of L who has met most of T -/
def mmP (M : Nat → Nat) (w L T : Nat) (z : Int) : Prop := (z = -1 ∧ ∀ v, v < w → L.testBit v = false) ∨ ∃ g : Nat, z = g ∧ g < w ∧ L.testBit g = true ∧ ∀ v, v < w → L.testBit v = true → cnt (M v &&& T) ≤ cnt (M g &&& T)
theorem and60 {a b : Nat} (h : a < 1152921504606846976) : a &&& b < 18446744073709551616 := Nat.lt_of_le_of_lt Nat.and_le_left (by omega)
theorem X4_mostMet_s {Q : Qt} {w : Nat} {r : Ly} {X : HX} {Y : HY} {M : Nat → Nat} {L T : Nat} (hV : VM w X Y M) (hL : L < 1152921504606846976) (hT : T < 1152921504606846976) (k : ∀ z : Int, mmP M w L T z → Q (.inl (some (.int (zI z)))) (LX4 w ++ r) X Y) : tX4_mostMet [.ref 0, .long (lN L), .long (lN T)] (LX4 w ++ r) X Y Q := by
  obtain ⟨hw, hX, hM⟩ := hV
  apply tX4_mostMet_i
  have H : ∀ n j (z y : Int), j + n = w → ((z = -1 ∧ y = -1 ∧ ∀ v, v < j → L.testBit v = false) ∨ ∃ g : Nat, z = g ∧ g < j ∧ L.testBit g = true ∧ y = cnt (M g &&& T) ∧ ∀ v, v < j → L.testBit v = true → cnt (M v &&& T) ≤ cnt (M g &&& T)) → hX4_mostMet_9 Q w r (lN L) (lN T) (zI z) (zI y) (nI j) X Y := by
    intro n
    induction n with
    | zero =>
      intro j z y hj hI
      apply hX4_mostMet_9_i
      rw [hX]
      simp (disch := omega) only [m_0, m_L0, m_lt, m_le, m_eq, m_neg, m_in, m_clamp, m_add, m_sub, m_pred, m_mul, m_l, m_i, m_Land, m_Lor, m_and, m_or, m_xor, m_Landn, m_andn, m_LshlP, m_shl, m_LbitP, m_bit, m_cmp0P, m_Lb0, m_Lb1, m_b0, m_b1, Nat.one_mul]
      refine ⟨fun _ => k z ?_, fun h => by omega⟩
      rcases hI with ⟨h1, -, h2⟩ | ⟨g, h1, h2, h3, -, h4⟩
      · exact Or.inl ⟨h1, fun v hv => h2 v (by omega)⟩
      · exact Or.inr ⟨g, h1, by omega, h3, fun v hv => h4 v (by omega)⟩
    | succ n ih =>
      intro j z y hj hI
      apply hX4_mostMet_9_i
      rw [hX]
      have hj2 : j < w := by omega
      simp (disch := omega) only [m_0, m_L0, m_lt, m_le, m_eq, m_neg, m_in, m_clamp, m_add, m_sub, m_pred, m_mul, m_l, m_i, m_Land, m_Lor, m_and, m_or, m_xor, m_Landn, m_andn, m_LshlP, m_shl, m_LbitP, m_bit, m_cmp0P, m_Lb0, m_Lb1, m_b0, m_b1, Nat.one_mul, (hM j hj2).1]
      refine ⟨fun h => by omega, fun _ => ⟨fun hb => ih _ _ _ (by omega) ?_, fun hb => ⟨hj2, bc64 (and60 (hM j hj2).2) (cK1_mk ⟨fun hc => ih _ _ _ (by omega) ?_, fun hc => ?_⟩)⟩⟩⟩
      · rcases hI with ⟨h1, h0, h2⟩ | ⟨g, h1, h2, h3, h0, h4⟩
        · refine Or.inl ⟨h1, h0, fun v hv => ?_⟩
          by_cases e : v = j
          · rw [e]; exact hb
          · exact h2 v (by omega)
        · refine Or.inr ⟨g, h1, by omega, h3, h0, fun v hv hvL => ?_⟩
          by_cases e : v = j
          · rw [e, hb] at hvL; cases hvL
          · exact h4 v (by omega) hvL
      · have hle := cnt_le (M j &&& T)
        rcases hI with ⟨h1, h0, h2⟩ | ⟨g, h1, h2, h3, h0, h4⟩
        · rw [h0, ← m_zI, m_zle (by omega) (by omega)] at hc; omega
        · have hg := cnt_le (M g &&& T)
          rw [h0, ← m_zI, m_zle (by omega) (by omega)] at hc
          refine Or.inr ⟨g, h1, by omega, h3, h0, fun v hv hvL => ?_⟩
          by_cases e : v = j
          · rw [e]; omega
          · exact h4 v (by omega) hvL
      · have hle := cnt_le (M j &&& T)
        have hb2 : L.testBit j = true := by cases h : L.testBit j; exact absurd h hb; rfl
        have e1 : nI j = zI (j : Int) := rfl
        have e2 : nI (cnt (M j &&& T)) = zI (cnt (M j &&& T) : Int) := rfl
        rw [e2]
        refine ih (j + 1) j _ (by omega) (Or.inr ⟨j, rfl, by omega, hb2, rfl, fun v hv hvL => ?_⟩)
        by_cases e : v = j
        · rw [e]; omega
        · rcases hI with ⟨h1, h0, h2⟩ | ⟨g, h1, h2, h3, h0, h4⟩
          · rw [h2 v (by omega)] at hvL; cases hvL
          · have := h4 v (by omega) hvL
            have hg := cnt_le (M g &&& T)
            rw [h0, ← m_zI, m_zle (by omega) (by omega)] at hc
            omega
  exact H w 0 (-1) (-1) (by omega) (Or.inl ⟨rfl, rfl, fun v hv => by omega⟩)
/-- whom the latest of D in an order has met: all others of D -/
def hmP (M o : Nat → Nat) (j D : Nat) : Prop := ∀ i, i < j → D.testBit (o i) = true → (∀ t, i < t → t < j → D.testBit (o t) = false) → ∀ u, D.testBit u = true → u ≠ o i → Eo M (o i) u
theorem X4_haveMet_s {Q : Qt} {w : Nat} {r : Ly} {X : HX} {Y : HY} {M o : Nat → Nat} {D j : Nat} (hV : VM w X Y M) (hD : D < 1152921504606846976) (hj : j ≤ w) (ho : ∀ i, i < j → X 2 i = nI (o i) ∧ o i < w) (k : ∀ b : Bool, (b = true ↔ hmP M o j D) → Q (.inl (some (.int (nI b.toNat)))) (LX4 w ++ r) X Y) : tX4_haveMet [.ref 0, .long (lN D), .int (nI j)] (LX4 w ++ r) X Y Q := by
  obtain ⟨hw, hX, hM⟩ := hV
  apply tX4_haveMet_i
  have H : ∀ n, n ≤ j → (∀ t, n ≤ t → t < j → D.testBit (o t) = false) → hX4_haveMet_5 Q w r (lN D) (zI ((n : Int) - 1)) X Y := by
    intro n
    induction n with
    | zero =>
      intro hn hI
      apply hX4_haveMet_5_i
      refine ⟨fun _ => ⟨(by first | exact Or.inl rfl | exact Or.inr rfl | exact Or.inl trivial | exact Or.inr trivial), k true ⟨fun _ => fun i hi hDi _ => ?_, fun _ => rfl⟩⟩, fun h => absurd (show zI ((0 : Int) - 1) < 0 by decide) h⟩
      rw [hI i (by omega) hi] at hDi; cases hDi
    | succ n ih =>
      intro hn hI
      apply hX4_haveMet_5_i
      have e1 : zI (((n + 1 : Nat) : Int) - 1) = nI n := by rw [show ((n + 1 : Nat) : Int) - 1 = (n : Int) by omega]; rfl
      rw [e1]
      obtain ⟨ho1, ho2⟩ := ho n (by omega)
      simp (disch := omega) only [m_0, m_L0, m_lt, m_le, m_eq, m_neg, m_in, m_clamp, m_add, m_sub, m_pred, m_mul, m_l, m_i, m_Land, m_Lor, m_and, m_or, m_xor, m_Landn, m_andn, m_LshlP, m_shl, m_LbitP, m_bit, m_cmp0P, m_Lb0, m_Lb1, m_b0, m_b1, Nat.one_mul, ho1, (hM (o n) ho2).1]
      refine ⟨fun h => by omega, fun _ => ⟨by omega, fun hb => ?_, fun hb => ⟨ho2, ?_, ?_⟩⟩⟩
      · have e2 : nI n + -1 = zI ((n : Int) - 1) := by rw [← m_zI, m_m1, m_zadd]; rfl
        rw [e2]
        refine ih (by omega) (fun t h1 h2 => ?_)
        by_cases e : t = n
        · rw [e]; exact hb
        · exact hI t (by omega) h2
      · intro hc
        refine ⟨(by first | exact Or.inl rfl | exact Or.inr rfl | exact Or.inl trivial | exact Or.inr trivial), k false ⟨fun h => (by cases h), fun h => ?_⟩⟩
        exfalso
        have hb2 : D.testBit (o n) = true := by cases h : D.testBit (o n); exact absurd h hb; rfl
        rw [m_Leq (by have := nAn_le (nAn D (M (o n))) (2 ^ o n); have := nAn_le D (M (o n)); omega) (by omega)] at hc
        obtain ⟨u, hu⟩ := ne0_bit hc
        rw [nAn_bit, nAn_bit, Nat.testBit_two_pow] at hu
        simp only [Bool.and_eq_true, Bool.not_eq_true', decide_eq_false_iff_not] at hu
        have := h n (by omega) hb2 (fun t h1 h2 => hI t (by omega) h2) u hu.1.1 (fun q => hu.2 q.symm)
        rw [this] at hu; exact absurd hu.1.2 (by simp)
      · intro hc
        refine ⟨(by first | exact Or.inl rfl | exact Or.inr rfl | exact Or.inl trivial | exact Or.inr trivial), k true ⟨fun _ => ?_, fun _ => rfl⟩⟩
        have hc := Classical.not_not.mp hc
        rw [m_Leq (by have := nAn_le (nAn D (M (o n))) (2 ^ o n); have := nAn_le D (M (o n)); omega) (by omega)] at hc
        intro i hi hDi hl u hu hne
        have hin : i = n := by
          rcases Nat.lt_trichotomy i n with h | h | h
          · have hb2 : D.testBit (o n) = true := by cases h : D.testBit (o n); exact absurd h hb; rfl
            rw [hl n h (by omega)] at hb2; cases hb2
          · exact h
          · rw [hI i (by omega) hi] at hDi; cases hDi
        subst hin
        have h9 : (nAn (nAn D (M (o i))) (2 ^ o i)).testBit u = false := by rw [hc]; simp
        rw [nAn_bit, nAn_bit, Nat.testBit_two_pow, hu, show decide (o i = u) = false from decide_eq_false (fun q => hne q.symm)] at h9
        show (M (o i)).testBit u = true
        cases h : (M (o i)).testBit u
        · rw [h] at h9; cases h9
        · rfl
  have e2 : nI j - nI 1 = zI ((j : Int) - 1) := by rw [← m_zI, ← m_zI, m_zsub]; rfl
  rw [e2]
  exact H j (Nat.le_refl _) (fun t h1 h2 => by omega)
