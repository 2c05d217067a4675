/-! the chart by the class: COMMON and STRONG -/
/-- a table of booleans, from place to place -/
def BlV (X : HX) (c m : Nat) (P : Nat → Nat → Prop) : Prop := ∀ a b, a ≤ b → b < m → (X c (9 * a + b) = nI 0 ∧ ¬ P a b) ∨ (X c (9 * a + b) = nI 1 ∧ P a b)
theorem BlV.z {X : HX} {c m : Nat} {P : Nat → Nat → Prop} (h : BlV X c m P) {a b : Nat} (hab : a ≤ b) (hb : b < m) : X c (9 * a + b) = nI 0 ↔ ¬ P a b := by
  rcases h a b hab hb with ⟨e, q⟩ | ⟨e, q⟩
  · exact ⟨fun _ => q, fun _ => e⟩
  · exact ⟨fun z => absurd (e.symm.trans z) (by decide), fun z => absurd q z⟩
theorem BlV.of {X X' : HX} {c m : Nat} {P : Nat → Nat → Prop} (h : BlV X c m P) (e : X' c = X c) : BlV X' c m P := fun a b h1 h2 => by rw [e]; exact h a b h1 h2
theorem nar_bool (z : Bool) : vp_nar .boolean (nI z.toNat) = nI z.toNat := by cases z <;> decide +kernel
theorem i99 {a b c d : Nat} (hb : b < 9) (hd : d < 9) (h : 9 * a + b = 9 * c + d) : a = c ∧ b = d := by omega
/-- one more is told of a table -/
theorem BlV.put {X : HX} {c m a0 b0 : Nat} {P : Nat → Nat → Prop} {z : Bool} (hm : m ≤ 9) (h : ∀ a b, a ≤ b → b < m → (a < a0 ∨ (a = a0 ∧ b < b0)) → (X c (9 * a + b) = nI 0 ∧ ¬ P a b) ∨ (X c (9 * a + b) = nI 1 ∧ P a b)) (hb : b0 < m) (hz : z = true ↔ P a0 b0) : ∀ a b, a ≤ b → b < m → (a < a0 ∨ (a = a0 ∧ b < b0 + 1)) → (up2 X c (9 * a0 + b0) (nI z.toNat) c (9 * a + b) = nI 0 ∧ ¬ P a b) ∨ (up2 X c (9 * a0 + b0) (nI z.toNat) c (9 * a + b) = nI 1 ∧ P a b) := by
  intro a b hab hb2 hc
  rw [up2_at]
  by_cases e : 9 * a + b = 9 * a0 + b0
  · obtain ⟨e1, e2⟩ := i99 (by omega) (by omega) e
    subst e1; subst e2
    rw [if_pos rfl]
    cases z with
    | false => exact Or.inl ⟨rfl, fun y => absurd (hz.mpr y) (by simp)⟩
    | true => exact Or.inr ⟨rfl, hz.mp rfl⟩
  · rw [if_neg e]
    refine h a b hab hb2 ?_
    rcases hc with hc | ⟨hc, hd⟩
    · exact Or.inl hc
    · subst hc; exact Or.inr ⟨rfl, by omega⟩
section Cmn8
variable {Q : Qt} {r : Ly} {X : HX} {Y : HY} {m : Nat} {mo P o : Nat → Nat}
/-- the least laying, as the chart sees it -/
def LvC (X : HX) (m : Nat) (o : Nat → Nat) : Prop := X 11 3 = nI m ∧ ∀ p, p < m → X 13 p = nI (o p)
theorem X1_from_s {a b : Nat} {may : Nat → Nat → Prop} (hm : m ≤ 9) (hO : LyN m may m o) (hL : ∀ p, p < m → X 13 p = nI (o p)) (hab : a ≤ b) (hb : b < m) (k : Q (.inl (some (.int (nI (ivS m o a b))))) (LX1_3 ++ r) X Y) : tX1_momentsFrom [.ref 0, .ref 11, .int (nI a), .int (nI b)] (LX1_3 ++ r) X Y Q := by
  have T9 := pw9 hm
  apply tX1_momentsFrom_i
  refine tMax_i (cK1_mk ?_)
  have ea : (if nI a < nI 0 then nI 0 else nI a) = nI a := if_neg (fun q => nI_nn (by omega) q)
  rw [ea]
  have H : ∀ n i W, i + n = b + 1 → a ≤ i → W < 512 → (∀ t, Bs W t ↔ ∃ j, a ≤ j ∧ j < i ∧ o j = t) → hX1_momentsFrom_10 Q r (nI b) (nI W) (nI i) X Y := by
    intro n
    induction n with
    | zero =>
      intro i W hi hai hW hb2
      have eW : W = ivS m o a b := Nat.eq_of_testBit_eq fun t => by
        refine Bool.eq_iff_iff.mpr (Iff.trans (hb2 t) (Iff.trans ?_ (iv_bit (m := m) (o := o) (a := a) (b := b)).symm))
        exact ⟨fun ⟨j, j1, j2, j3⟩ => ⟨by rw [← j3]; exact (hO j (by omega)).1, j, j1, by omega, j3⟩, fun ⟨_, j, j1, j2, j3⟩ => ⟨j, j1, by omega, j3⟩⟩
      apply hX1_momentsFrom_10_i
      rw [m_lt (by omega) (by omega), eW]
      exact ⟨fun _ => k, fun q => absurd (by omega) q⟩
    | succ n ih =>
      intro i W hi hai hW hb2
      have ho := (hO i (by omega)).1
      apply hX1_momentsFrom_10_i
      simp (disch := omega) only [m_0, m_L0, m_lt, m_le, m_eq, m_neg, m_in, m_clamp, m_add, m_sub, m_pred, m_mul, m_l, m_i, m_Land, m_Lor, m_and, m_or, m_xor, m_Landn, m_andn, m_LshlP, m_shl, m_LbitP, m_bit, m_cmp0P, m_Lb0, m_Lb1, m_b0, m_b1, Nat.one_mul, hL i (by omega)]
      refine ⟨fun q => by omega, fun _ => ⟨fun q => by omega, fun _ => ⟨by omega, ih (i + 1) (W ||| 2 ^ o i) (by omega) (by omega) (Nat.or_lt_two_pow (n := 9) hW (Nat.pow_lt_pow_right (by omega) (by omega))) (fun t => ?_)⟩⟩⟩
      show (W ||| 2 ^ o i).testBit t = true ↔ _
      rw [or_bitT]
      have hbt : W.testBit t = true ↔ ∃ j, a ≤ j ∧ j < i ∧ o j = t := hb2 t
      rw [hbt]
      constructor
      · rintro (⟨j, j1, j2, j3⟩ | e)
        · exact ⟨j, j1, by omega, j3⟩
        · exact ⟨i, hai, by omega, e⟩
      · rintro ⟨j, j1, j2, j3⟩
        by_cases e : j = i
        · subst e; exact Or.inr j3
        · exact Or.inl ⟨j, j1, by omega, j3⟩
  exact H (b + 1 - a) a 0 (by omega) (Nat.le_refl _) (by omega) (fun t => ⟨fun q => by simp [Bs] at q, fun ⟨j, j1, j2, _⟩ => by omega⟩)
abbrev S11 : List Nat := [11, 12, 13, 14, 15, 16, 17, 18]
theorem X1_common_s (hC : CV (sb S11 X) m mo P) (hl : ldP m mo P) (hO : LyN m (mayG mo m P) m o) (hL : ∀ p, p < m → X 13 p = nI (o p)) (k : ∀ X' Y', (∀ c, c < 19 → c ≠ 6 → X' c = X c) → (∀ c, c < 19 → Y' c = Y c) → BlV X' 6 m (cmI m (mayG mo m P) o) → Q (.inl none) (LX1_3 ++ []) X' Y') : tX1_findCommon [.ref 0, .ref 11] (LX1_3 ++ []) X Y Q := by
  have m9 := hl.1
  have e3 : X 11 3 = nI m := hC.1.2.1
  apply tX1_findCommon_i
  have H : ∀ n a X2 Y2, a + n = m → (∀ c, c < 19 → c ≠ 6 → X2 c = X c) → (∀ c, c < 19 → Y2 c = Y c) → (∀ x y, x ≤ y → y < m → x < a → (X2 6 (9 * x + y) = nI 0 ∧ ¬ cmI m (mayG mo m P) o x y) ∨ (X2 6 (9 * x + y) = nI 1 ∧ cmI m (mayG mo m P) o x y)) → hX1_findCommon_2 Q (nI a) X2 Y2 := by
    intro n
    induction n with
    | zero =>
      intro a X2 Y2 ha f g h
      apply hX1_findCommon_2_i
      rw [f 11 (by omega) (by omega), e3, m_le (by omega) (by omega)]
      exact ⟨fun _ => k X2 Y2 f g (fun x y h1 h2 => h x y h1 h2 (by omega)), fun q => absurd (by omega) q⟩
    | succ n ih =>
      intro a X2 Y2 ha f g h
      apply hX1_findCommon_2_i
      rw [f 11 (by omega) (by omega), e3, m_le (by omega) (by omega), m_le (by omega) (by omega)]
      refine ⟨fun q => absurd q (by omega), fun _ => ⟨fun q => absurd q (by omega), fun _ => ?_⟩⟩
      have G : ∀ u b X3 Y3, b + u = m → a ≤ b → (∀ c, c < 19 → c ≠ 6 → X3 c = X c) → (∀ c, c < 19 → Y3 c = Y c) → (∀ x y, x ≤ y → y < m → (x < a ∨ (x = a ∧ y < b)) → (X3 6 (9 * x + y) = nI 0 ∧ ¬ cmI m (mayG mo m P) o x y) ∨ (X3 6 (9 * x + y) = nI 1 ∧ cmI m (mayG mo m P) o x y)) → hX1_findCommon_18 Q (nI a) (nI b) X3 Y3 := by
        intro u
        induction u with
        | zero =>
          intro b X3 Y3 hb hab f3 g3 h3
          apply hX1_findCommon_18_i
          rw [f3 11 (by omega) (by omega), e3, m_le (by omega) (by omega)]
          refine ⟨fun _ => ?_, fun q => absurd (by omega) q⟩
          rw [m_add]
          exact ih (a + 1) X3 Y3 (by omega) f3 g3 (fun x y h1 h2 h4 => h3 x y h1 h2 (by omega))
        | succ u ihu =>
          intro b X3 Y3 hb hab f3 g3 h3
          apply hX1_findCommon_18_i
          rw [f3 11 (by omega) (by omega), e3, m_le (by omega) (by omega), m_le (by omega) (by omega)]
          refine ⟨fun q => absurd q (by omega), fun _ => ⟨fun q => absurd q (by omega), fun _ => ?_⟩⟩
          refine X1_from_s (r := []) m9 hO (fun p hp => by rw [f3 13 (by omega) (by omega)]; exact hL p hp) hab (by omega) (cK1_mk ?_)
          have c3 : CV (sb S11 X3) m mo P := CV_c hC (by show X3 11 3 = X 11 3; rw [f3 11 (by omega) (by omega)]) (f3 12 (by omega) (by omega)) (f3 15 (by omega) (by omega)) (f3 16 (by omega) (by omega)) (f3 18 (by omega) (by omega))
          refine X3_side_s (r := []) c3 iv_lt (fun z hz => cS1_mk ?_)
          have fa : ∀ c, c < 19 → mg S11 (LX1_3 ++ []).length X3 (sb S11 X3) c = X3 c := fun c hc => mg_sb hc
          have ga : ∀ c, c < 19 → mg S11 (LX1_3 ++ []).length Y3 (sb S11 Y3) c = Y3 c := fun c hc => mg_sb hc
          revert fa ga
          generalize mg S11 (LX1_3 ++ []).length X3 (sb S11 X3) = X4
          generalize mg S11 (LX1_3 ++ []).length Y3 (sb S11 Y3) = Y4
          intro fa ga
          rw [m_mul, m_add (9 * a) b, m_clamp (by omega), nar_bool, m_add b 1]
          refine ⟨(m_in (by omega)).mpr (by omega), ihu (b + 1) _ Y4 (by omega) (by omega) (fun c hc hd => by rw [up2_row hd, fa c hc]; exact f3 c hc hd) (fun c hc => (ga c hc).trans (g3 c hc)) ?_⟩
          have e6 := fa 6 (by omega)
          refine BlV.put m9 (fun x y h1 h2 h4 => by rw [e6]; exact h3 x y h1 h2 h4) (by omega) (hz.trans ⟨fun q => ⟨hab, by omega, q hl⟩, fun q _ => q.2.2⟩)
      exact G (m - a) a X2 Y2 (by omega) (Nat.le_refl _) f g (fun x y h1 h2 h4 => h x y h1 h2 (by omega))
  exact H m 0 X Y (by omega) (fun _ _ _ => rfl) (fun _ _ => rfl) (fun x y _ _ h => by omega)
theorem X1_cross_s {C : Nat → Nat → Prop} {a b : Nat} (hm : m ≤ 9) (hT : BlV X 6 m C) (hC : ∀ a b, C a b → a ≤ b ∧ b < m) (hab : a ≤ b) (hb : b < m) (k : ∀ z : Bool, (z = false ↔ ∀ c d, C c d → ¬ (a < c ∧ c ≤ b ∧ b < d) ∧ ¬ (c < a ∧ a ≤ d ∧ d < b)) → Q (.inl (some (.int (nI z.toNat)))) (LX1 ++ r) X Y) : tX1_isCrossed [.ref 0, .int (nI a), .int (nI b), .int (nI m)] (LX1 ++ r) X Y Q := by
  have no : ∀ c d, C c d → ((a < c ∧ c ≤ b ∧ b < d) ∨ (c < a ∧ a ≤ d ∧ d < b)) → Q (.inl (some (.int (nI 1)))) (LX1 ++ r) X Y := fun c d h1 h2 => k true ⟨fun e => (by cases e), fun q => by have := q c d h1; omega⟩
  apply tX1_isCrossed_i
  rw [m_add]
  have H : ∀ n i, i + n = b + 1 → a < i → (∀ c d, C c d → (a < c ∧ c < i ∧ c ≤ b ∧ b < d) ∨ (c < a ∧ a ≤ d ∧ d + 1 < i ∧ d < b) → False) → hX1_isCrossed_5 Q r (nI a) (nI b) (nI m) (nI i) X Y := by
    intro n
    induction n with
    | zero =>
      intro i hi hai h
      apply hX1_isCrossed_5_i
      rw [m_lt (by omega) (by omega)]
      exact ⟨fun _ => ⟨(by first | exact Or.inl rfl | exact Or.inr rfl | exact Or.inl trivial | exact Or.inr trivial), k false ⟨fun _ c d hcd => ⟨fun q => h c d hcd (Or.inl ⟨by omega, by omega, by omega, by omega⟩), fun q => h c d hcd (Or.inr ⟨by omega, by omega, by omega, by omega⟩)⟩, fun _ => rfl⟩⟩, fun q => absurd (by omega) q⟩
    | succ n ih =>
      intro i hi hai h
      apply hX1_isCrossed_5_i
      rw [m_lt (by omega) (by omega), m_add]
      refine ⟨fun q => absurd q (by omega), fun _ => ?_⟩
      have G2 : ∀ u d, d + u = a → (∀ d', b < d' → ¬ C i d') → (∀ c', c' < d → ¬ C c' (i - 1)) → hX1_isCrossed_49 Q r (nI a) (nI b) (nI m) (nI i) (nI d) X Y := by
        intro u
        induction u with
        | zero =>
          intro d hd n1 n2
          apply hX1_isCrossed_49_i
          rw [m_le (by omega) (by omega)]
          refine ⟨fun _ => ?_, fun q => absurd (by omega) q⟩
          rw [m_add]
          refine ih (i + 1) (by omega) (by omega) (fun c d' hcd q => ?_)
          rcases q with q | q
          · by_cases e : c = i
            · subst e; exact n1 d' (by omega) hcd
            · exact h c d' hcd (Or.inl ⟨q.1, by omega, q.2.2.1, q.2.2.2⟩)
          · by_cases e : d' = i - 1
            · subst e; exact n2 c (by omega) hcd
            · exact h c d' hcd (Or.inr ⟨q.1, q.2.1, by omega, q.2.2.2⟩)
        | succ u ihu =>
          intro d hd n1 n2
          have et := hT.z (a := d) (b := i - 1) (by omega) (by omega)
          have ei : 9 * d + i - 1 = 9 * d + (i - 1) := by omega
          apply hX1_isCrossed_49_i
          rw [m_le (by omega) (by omega), m_mul, m_add (9 * d) i, m_sub (by omega), m_clamp (by omega), ei]
          refine ⟨fun q => absurd q (by omega), fun _ => ⟨(m_in (by omega)).mpr (by omega), fun q => ?_, fun q => ⟨(by first | exact Or.inl rfl | exact Or.inr rfl | exact Or.inl trivial | exact Or.inr trivial), ?_⟩⟩⟩
          · rw [m_add]
            exact ihu (d + 1) (by omega) n1 (fun c' hc' y => by
              by_cases e : c' = d
              · subst e; exact et.mp q y
              · exact n2 c' (by omega) y)
          · exact no d (i - 1) (Classical.byContradiction fun y => q (et.mpr y)) (Or.inr ⟨by omega, by omega, by omega⟩)
      have G1 : ∀ u d, d + u = m → b < d → (∀ d', b < d' → d' < d → ¬ C i d') → hX1_isCrossed_16 Q r (nI a) (nI b) (nI m) (nI i) (nI d) X Y := by
        intro u
        induction u with
        | zero =>
          intro d hd hbd n1
          apply hX1_isCrossed_16_i
          rw [m_le (by omega) (by omega)]
          exact ⟨fun _ => G2 a 0 (by omega) (fun d' h1 y => n1 d' h1 (by have := (hC _ _ y).2; omega) y) (fun c' hc' => by omega), fun q => absurd (by omega) q⟩
        | succ u ihu =>
          intro d hd hbd n1
          have et := hT.z (a := i) (b := d) (by omega) (by omega)
          apply hX1_isCrossed_16_i
          rw [m_le (by omega) (by omega), m_mul, m_add (9 * i) d, m_clamp (by omega)]
          refine ⟨fun q => absurd q (by omega), fun _ => ⟨(m_in (by omega)).mpr (by omega), fun q => ?_, fun q => ⟨(by first | exact Or.inl rfl | exact Or.inr rfl | exact Or.inl trivial | exact Or.inr trivial), ?_⟩⟩⟩
          · rw [m_add]
            exact ihu (d + 1) (by omega) (by omega) (fun d' h1 h2 y => by
              by_cases e : d' = d
              · subst e; exact et.mp q y
              · exact n1 d' h1 (by omega) y)
          · exact no i d (Classical.byContradiction fun y => q (et.mpr y)) (Or.inl ⟨by omega, by omega, by omega⟩)
      exact G1 (m - (b + 1)) (b + 1) (by omega) (by omega) (fun d' h1 h2 => by omega)
  exact H (b - a) (a + 1) (by omega) (by omega) (fun c d hcd q => by have := hC _ _ hcd; omega)
theorem X1_strong_s {C : Nat → Nat → Prop} (hm : m ≤ 9) (hT : BlV X 6 m C) (hC : ∀ a b, C a b → a ≤ b ∧ b < m) (k : ∀ X', (∀ c, c ≠ 7 → X' c = X c) → BlV X' 7 m (stI C) → Q (.inl none) (LX1 ++ r) X' Y) : tX1_findStrong [.ref 0, .int (nI m)] (LX1 ++ r) X Y Q := by
  apply tX1_findStrong_i
  have H : ∀ n a X2, a + n = m → (∀ c, c ≠ 7 → X2 c = X c) → (∀ x y, x ≤ y → y < m → x < a → (X2 7 (9 * x + y) = nI 0 ∧ ¬ stI C x y) ∨ (X2 7 (9 * x + y) = nI 1 ∧ stI C x y)) → hX1_findStrong_2 Q r (nI m) (nI a) X2 Y := by
    intro n
    induction n with
    | zero =>
      intro a X2 ha f h
      apply hX1_findStrong_2_i
      rw [m_le (by omega) (by omega)]
      exact ⟨fun _ => k X2 f (fun x y h1 h2 => h x y h1 h2 (by omega)), fun q => absurd (by omega) q⟩
    | succ n ih =>
      intro a X2 ha f h
      apply hX1_findStrong_2_i
      rw [m_le (by omega) (by omega), m_le (by omega) (by omega)]
      refine ⟨fun q => absurd q (by omega), fun _ => ⟨fun q => absurd q (by omega), fun _ => ?_⟩⟩
      have G : ∀ u b X3, b + u = m → a ≤ b → (∀ c, c ≠ 7 → X3 c = X c) → (∀ x y, x ≤ y → y < m → (x < a ∨ (x = a ∧ y < b)) → (X3 7 (9 * x + y) = nI 0 ∧ ¬ stI C x y) ∨ (X3 7 (9 * x + y) = nI 1 ∧ stI C x y)) → hX1_findStrong_15 Q r (nI m) (nI a) (nI b) X3 Y := by
        intro u
        induction u with
        | zero =>
          intro b X3 hb hab f3 h3
          apply hX1_findStrong_15_i
          rw [m_le (by omega) (by omega)]
          refine ⟨fun _ => ?_, fun q => absurd (by omega) q⟩
          rw [m_add]
          exact ih (a + 1) X3 (by omega) f3 (fun x y h1 h2 h4 => h3 x y h1 h2 (by omega))
        | succ u ihu =>
          intro b X3 hb hab f3 h3
          have hT3 : BlV X3 6 m C := hT.of (f3 6 (by omega))
          have et := hT3.z (a := a) (b := b) (by omega) (by omega)
          have v81 : vp_in (nI (9 * a + b)) 81 := (m_in (by omega)).mpr (by omega)
          have nx : ∀ z : Bool, (z = true ↔ stI C a b) → hX1_findStrong_15 Q r (nI m) (nI a) (nI (b + 1)) (up2 X3 7 (9 * a + b) (nI z.toNat)) Y := fun z hz => ihu (b + 1) _ (by omega) (by omega) (fun c hc => by rw [up2_row hc]; exact f3 c hc) (BlV.put hm h3 (by omega) hz)
          have n0 : vp_nar .boolean (nI 0) = nI false.toNat := nar_bool false
          have n1 : vp_nar .boolean (nI 1) = nI true.toNat := nar_bool true
          apply hX1_findStrong_15_i
          rw [m_le (by omega) (by omega), m_le (by omega) (by omega), m_mul, m_add (9 * a) b, m_clamp (by omega), m_add b 1, n0, n1]
          refine ⟨fun q => absurd q (by omega), fun _ => ⟨fun q => absurd q (by omega), fun _ => ⟨v81, fun q => ⟨v81, nx false ⟨fun e => (by cases e), fun y => absurd y.1 (et.mp q)⟩⟩, fun q => ?_⟩⟩⟩
          have hc : C a b := Classical.byContradiction fun y => q (et.mpr y)
          refine X1_cross_s hm hT3 hC hab (by omega) (fun z hz => cK1_mk ⟨fun q2 => ⟨v81, nx false ⟨fun e => (by cases e), fun y => ?_⟩⟩, fun q2 => ⟨v81, nx true ⟨fun _ => ⟨hc, ?_⟩, fun _ => rfl⟩⟩⟩)
          · rw [hz.mpr y.2] at q2; exact absurd rfl q2
          · exact hz.mp (z01 (Classical.not_not.mp q2))
      exact G (m - a) a X2 (by omega) (Nat.le_refl _) f (fun x y h1 h2 h4 => h x y h1 h2 (by omega))
  exact H m 0 X (by omega) (fun _ _ => rfl) (fun x y _ _ h => by omega)
end Cmn8
