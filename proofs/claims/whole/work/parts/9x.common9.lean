/-! the chart by the reference: COMMON and STRONG -/
def ovP (S T : Nat) : Prop := (∃ t, Bs S t ∧ Bs T t) ∧ (∃ t, Bs S t ∧ ¬ Bs T t) ∧ ∃ t, Bs T t ∧ ¬ Bs S t
def stS (m : Nat) (may : Nat → Nat → Prop) (S : Nat) : Prop := sbP m may S ∧ ∀ T, T ≠ 0 → T < 2 ^ m → sbP m may T → ¬ ovP S T
/-- a table of booleans, by sets -/
def BsV (X : HX) (c m : Nat) (P : Nat → Prop) : Prop := ∀ S, S ≠ 0 → S < 2 ^ m → (X c S = nI 0 ∧ ¬ P S) ∨ (X c S = nI 1 ∧ P S)
theorem BsV.z {X : HX} {c m : Nat} {P : Nat → Prop} (h : BsV X c m P) {S : Nat} (h0 : S ≠ 0) (hS : S < 2 ^ m) : X c S = nI 0 ↔ ¬ P S := by
  rcases h S h0 hS with ⟨e, q⟩ | ⟨e, q⟩
  · exact ⟨fun _ => q, fun _ => e⟩
  · exact ⟨fun z => absurd (e.symm.trans z) (by decide), fun z => absurd q z⟩
theorem BsV.of {X X' : HX} {c m : Nat} {P : Nat → Prop} (h : BsV X c m P) (e : X' c = X c) : BsV X' c m P := fun S h1 h2 => by rw [e]; exact h S h1 h2
theorem and_ex {S T : Nat} : S &&& T ≠ 0 ↔ ∃ t, Bs S t ∧ Bs T t := by
  constructor
  · intro q
    obtain ⟨t, ht⟩ := ne0_bit q
    rw [Nat.testBit_and, Bool.and_eq_true] at ht
    exact ⟨t, ht.1, ht.2⟩
  · rintro ⟨t, h1, h2⟩ e
    have : (S &&& T).testBit t = true := by rw [Nat.testBit_and, Bool.and_eq_true]; exact ⟨h1, h2⟩
    rw [e] at this; simp at this
theorem nAn_ex {S T : Nat} : nAn S T ≠ 0 ↔ ∃ t, Bs S t ∧ ¬ Bs T t := by
  constructor
  · intro q
    obtain ⟨t, ht⟩ := ne0_bit q
    rw [nAn_bit, Bool.and_eq_true, Bool.not_eq_true'] at ht
    exact ⟨t, ht.1, fun y => by have y : T.testBit t = true := y; rw [y] at ht; cases ht.2⟩
  · rintro ⟨t, h1, h2⟩ e
    have : (nAn S T).testBit t = true := by
      rw [nAn_bit, Bool.and_eq_true, Bool.not_eq_true']
      refine ⟨h1, ?_⟩
      cases q : T.testBit t
      · rfl
      · exact absurd q h2
    rw [e] at this; simp at this
section StS
variable {m : Nat} {may : Nat → Nat → Prop} {o : Nat → Nat} {a b : Nat}
theorem st_iv (h : LyN m may m o) (hab : a ≤ b) (hb : b < m) : stS m may (ivS m o a b) ↔ stI (cmI m may o) a b := by
  constructor
  · rintro ⟨h1, h2⟩
    refine ⟨⟨hab, hb, h1⟩, fun c d hcd => ?_⟩
    have n := h2 _ (iv_ne h hcd.1 hcd.2.1) iv_lt hcd.2.2
    refine ⟨fun q => n ⟨⟨o c, (iv_at h hb (by omega)).mpr (by omega), (iv_at h hcd.2.1 (by omega)).mpr ⟨Nat.le_refl _, hcd.1⟩⟩, ⟨o a, (iv_at h hb (by omega)).mpr (by omega), fun y => by have := (iv_at h hcd.2.1 (by omega)).mp y; omega⟩, ⟨o d, (iv_at h hcd.2.1 hcd.2.1).mpr (by omega), fun y => by have := (iv_at h hb hcd.2.1).mp y; omega⟩⟩, fun q => n ⟨⟨o d, (iv_at h hb (by omega)).mpr (by omega), (iv_at h hcd.2.1 (by omega)).mpr (by omega)⟩, ⟨o b, (iv_at h hb (by omega)).mpr (by omega), fun y => by have := (iv_at h hcd.2.1 (by omega)).mp y; omega⟩, ⟨o c, (iv_at h hcd.2.1 (by omega)).mpr (by omega), fun y => by have := (iv_at h hb (by omega)).mp y; omega⟩⟩⟩
  · rintro ⟨h1, h2⟩
    refine ⟨h1.2.2, fun T T0 TT Ts ⟨⟨t, t1, t2⟩, q1, q2⟩ => ?_⟩
    obtain ⟨c, d, cd, dm, rfl⟩ := sb_iv h TT T0 Ts
    have n := h2 c d ⟨cd, dm, Ts⟩
    obtain ⟨i, hi, rfl⟩ := h.onto (iv_bit.mp t1).1
    have i1 := (iv_at h hb hi).mp t1
    have i2 := (iv_at h dm hi).mp t2
    have n1 : ¬ (c ≤ a ∧ b ≤ d) := fun z => by
      obtain ⟨x, x1, x2⟩ := q1
      exact x2 ((iv_sub h hab hb dm).mpr z x x1)
    have n2 : ¬ (a ≤ c ∧ d ≤ b) := fun z => by
      obtain ⟨x, x1, x2⟩ := q2
      exact x2 ((iv_sub h cd dm hb).mpr z x x1)
    omega
end StS
section Cmn9
variable {CM : HX → St → Prop} {X X' : HX} {Y Y' : HY} {s : St} {r : Ly} {Q : Qt}
theorem X9_over_s {S T : Nat} {L : Ly} (hS : S < 512) (hT : T < 512) (k : ∀ z : Bool, (z = true ↔ ovP S T) → Q (.inl (some (.int (nI z.toNat)))) L X Y) : tX9_overlap [.int (nI S), .int (nI T)] L X Y Q := by
  have h1 : S &&& T < 512 := Nat.lt_of_le_of_lt Nat.and_le_left hS
  have h2 : nAn S T < 512 := Nat.lt_of_le_of_lt (nAn_le _ _) hS
  have h3 : nAn T S < 512 := Nat.lt_of_le_of_lt (nAn_le _ _) hT
  have e1 := and_ex (S := S) (T := T)
  have e2 := nAn_ex (S := S) (T := T)
  have e3 := nAn_ex (S := T) (T := S)
  apply tX9_overlap_i
  simp (disch := omega) only [m_0, m_L0, m_lt, m_le, m_eq, m_neg, m_in, m_clamp, m_add, m_sub, m_pred, m_mul, m_l, m_i, m_Land, m_Lor, m_and, m_or, m_xor, m_Landn, m_andn, m_LshlP, m_shl, m_LbitP, m_bit, m_cmp0P, m_Lb0, m_Lb1, m_b0, m_b1, Nat.one_mul]
  refine ⟨fun q => ⟨(by first | exact Or.inl rfl | exact Or.inr rfl | exact Or.inl trivial | exact Or.inr trivial), k false ⟨fun e => (by cases e), fun y => absurd q (e1.mpr y.1)⟩⟩, fun q => ⟨fun q2 => ⟨(by first | exact Or.inl rfl | exact Or.inr rfl | exact Or.inl trivial | exact Or.inr trivial), k false ⟨fun e => (by cases e), fun y => absurd q2 (e2.mpr y.2.1)⟩⟩, fun q2 => ⟨fun q3 => ⟨(by first | exact Or.inl rfl | exact Or.inr rfl | exact Or.inl trivial | exact Or.inr trivial), k false ⟨fun e => (by cases e), fun y => absurd q3 (e3.mpr y.2.2)⟩⟩, fun q3 => ⟨(by first | exact Or.inl rfl | exact Or.inr rfl | exact Or.inl trivial | exact Or.inr trivial), k true ⟨fun _ => ⟨e1.mp q, e2.mp q2, e3.mp q3⟩, fun _ => rfl⟩⟩⟩⟩⟩
/-- with one set more that stands side by side -/
theorem sb_ways {S : Nat} (h9 : sm s ≤ 9) : wy (sm s) (mayN (fun v => if v = sG s then S else rwM (Ms s) (sG s) v) (sG s + 1) [] none) 0 = wy (sm s) (mayQ s) 0 ↔ sbP (sm s) (mayQ s) S := by
  have em : ∀ c k, mayN (fun v => if v = sG s then S else rwM (Ms s) (sG s) v) (sG s + 1) [] none c k ↔ mayQ s c k ∧ ((∃ j, Bs S j ∧ Bs c j) → (∃ j, Bs S j ∧ ¬ Bs c j) → Bs S k) := by
    intro c k
    constructor
    · rintro ⟨h1, -, -⟩
      refine ⟨fun v hv => ?_, ?_⟩
      · have := h1 v (by omega)
        simp only [if_neg (show ¬ v = sG s by omega)] at this
        exact this
      · have := h1 (sG s) (by omega)
        simp only [if_true] at this
        exact this
    · rintro ⟨h1, h2⟩
      refine ⟨fun v hv => ?_, fun p hp => by simp at hp, trivial⟩
      by_cases e : v = sG s
      · simp only [if_pos e]; exact h2
      · simp only [if_neg e]; exact h1 v (by omega)
  rw [wy_same (fun c k _ _ q => ((em c k).mp q).1)]
  constructor
  · intro q o ho i hi h1 h2
    exact ((em _ _).mp ((q o ho) i hi).2.2).2 h1 h2
  · intro q o ho i hi
    obtain ⟨a1, a2, a3⟩ := ho i hi
    exact ⟨a1, a2, (em _ _).mpr ⟨a3, q o ho i hi⟩⟩
theorem X9_common_s (h : Mw CM X Y s) (hl : layQ s) (m : MKo X s) (w : WyV Y (sm s) (mayQ s)) (k : ∀ X' Y', (∀ c, c ∉ [0, 10, 16, 17] → X' c = X c) → (∀ i, i ≠ 18 → X' 0 i = X 0 i) → (∀ c, c ≠ 11 → Y' c = Y c) → MKo X' s → WyV Y' (sm s) (mayQ s) → BsV X' 16 (sm s) (sbP (sm s) (mayQ s)) → BsV X' 17 (sm s) (stS (sm s) (mayQ s)) → Q (.inl none) (LX9 ++ r) X' Y') : tX9_findCommon [.ref 0] (LX9 ++ r) X Y Q := by
  have si := h.si
  have g9 := si.1
  have h9 := lay_9 si hl
  have T0 := Nat.two_pow_pos (sm s)
  have T9 := pw9 h9
  obtain ⟨⟨m27, m16, mm⟩, ⟨n10, n18, nr⟩, pr, tr⟩ := m
  have ef : rwF (Ms s) (sG s) = rwM (Ms s) (sG s) := by
    funext v; unfold rwF; rw [if_pos (by show sm s < 10; omega)]
  rw [ef] at nr
  have eN := mayN_eqG (M := Ms s) (G := sG s) h9
  have h10 := h.sv.1
  have c0 : (nI 0).toNatClampNeg = 0 := m_clamp (by omega)
  have cG : (nI (sG s)).toNatClampNeg = sG s := m_clamp (by omega)
  have v0 : vp_in (nI 0) 262 := (m_in (by omega)).mpr (by omega)
  have bw : ∀ may, wy (sm s) may 0 ≤ 387420489 := fun may => wy_bd9 h9 T0
  apply tX9_findCommon_i
  rw [c0, h10, m_add, m16, w 0 T0, show ((nI 1) <<< ((nI (sm s)) &&& 31)) - (nI 1) = nI (2 ^ sm s - 1) by simp (disch := omega) only [m_0, m_L0, m_lt, m_le, m_eq, m_neg, m_in, m_clamp, m_add, m_sub, m_pred, m_mul, m_l, m_i, m_Land, m_Lor, m_and, m_or, m_xor, m_Landn, m_andn, m_LshlP, m_shl, m_LbitP, m_bit, m_cmp0P, m_Lb0, m_Lb1, m_b0, m_b1, Nat.one_mul]]
  refine ⟨(m_in (by omega)).mpr (by omega), v0, ?_⟩
  -- STRONG
  have H95 : ∀ t S X2 Y2, S + t = 2 ^ sm s → S ≠ 0 → (∀ c, c ∉ [0, 10, 16, 17] → X2 c = X c) → (∀ i, i ≠ 18 → X2 0 i = X 0 i) → (∀ c, c ≠ 11 → Y2 c = Y c) → MKo X2 s → WyV Y2 (sm s) (mayQ s) → BsV X2 16 (sm s) (sbP (sm s) (mayQ s)) → (∀ T, T ≠ 0 → T < S → (X2 17 T = nI 0 ∧ ¬ stS (sm s) (mayQ s) T) ∨ (X2 17 T = nI 1 ∧ stS (sm s) (mayQ s) T)) → hX9_findCommon_95 Q r (nI (2 ^ sm s - 1)) (nI S) X2 Y2 := by
    intro t
    induction t with
    | zero =>
      intro S X2 Y2 hS S0 f2 z2 g2 mk wk b16 b17
      apply hX9_findCommon_95_i
      rw [m_lt (by omega) (by omega)]
      exact ⟨fun _ => k X2 Y2 f2 z2 g2 mk wk b16 (fun T h1 h2 => b17 T h1 (by omega)), fun q => absurd (by omega) q⟩
    | succ t ih =>
      intro S X2 Y2 hS S0 f2 z2 g2 mk wk b16 b17
      have v5 : vp_in (nI S) 512 := (m_in (by omega)).mpr (by omega)
      have cS : (nI S).toNatClampNeg = S := m_clamp (by omega)
      have mk' : ∀ v X3, X3 = up2 X2 17 S v → MKo X3 s := fun v X3 e => by
        obtain ⟨a1, a2, a3, a4⟩ := mk
        have q : ∀ c, c ≠ 17 → X3 c = X2 c := fun c hc => by rw [e, up2_row hc]
        refine ⟨?_, ?_, ?_, ?_⟩
        · unfold MV at a1 ⊢; rw [q 0 (by omega), q 9 (by omega)]; exact a1
        · unfold RwV at a2 ⊢; rw [q 0 (by omega), q 10 (by omega)]; exact a2
        · unfold PrV at a3 ⊢; rw [q 0 (by omega), q 14 (by omega), q 15 (by omega)]; exact a3
        · show X3 0 25 = -1; rw [q 0 (by omega)]; exact a4
      apply hX9_findCommon_95_i
      rw [m_lt (by omega) (by omega), cS]
      refine ⟨fun q => absurd q (by omega), fun _ => ⟨v5, v5, ?_⟩⟩
      have nx : ∀ X3 (z : Bool), (∀ c, c ≠ 17 → X3 c = X2 c) → (∀ T, T ≠ S → X3 17 T = X2 17 T) → X3 17 S = nI z.toNat → (z = true ↔ stS (sm s) (mayQ s) S) → MKo X3 s → hX9_findCommon_95 Q r (nI (2 ^ sm s - 1)) (nI S + nI 1) X3 Y2 := fun X3 z f3 g3 e3 hz mk3 => by
        rw [m_add]
        refine ih (S + 1) X3 Y2 (by omega) (by omega) (fun c hc => (f3 c (fun e => hc (by rw [e]; decide))).trans (f2 c hc)) (fun i hi => by rw [f3 0 (by omega)]; exact z2 i hi) g2 mk3 wk (b16.of (f3 16 (by omega))) (fun T h1 h2 => ?_)
        by_cases e : T = S
        · subst e
          rw [e3]
          cases z with
          | false => exact Or.inl ⟨rfl, fun y => absurd (hz.mpr y) (by simp)⟩
          | true => exact Or.inr ⟨rfl, hz.mp rfl⟩
        · rw [g3 T e]; exact b17 T h1 (by omega)
      -- the others, one by one
      have H118 : ∀ u T X3, T + u = 2 ^ sm s → T ≠ 0 → (∀ c, c ≠ 17 → X3 c = X2 c) → (∀ T, T ≠ S → X3 17 T = X2 17 T) → MKo X3 s → ((X3 17 S = nI 0 ∧ ¬ stS (sm s) (mayQ s) S) ∨ (X3 17 S = nI 1 ∧ sbP (sm s) (mayQ s) S ∧ ∀ T', T' ≠ 0 → T' < T → sbP (sm s) (mayQ s) T' → ¬ ovP S T')) → hX9_findCommon_118 Q r (nI (2 ^ sm s - 1)) (nI S) (nI T) X3 Y2 := by
        intro u
        induction u with
        | zero =>
          intro T X3 hT T0 f3 g3 mk3 hI
          apply hX9_findCommon_118_i
          rw [m_lt (by omega) (by omega)]
          refine ⟨fun _ => ?_, fun q => absurd (by omega) q⟩
          rcases hI with ⟨e, n⟩ | ⟨e, y1, y2⟩
          · exact nx X3 false f3 g3 e ⟨fun e => (by cases e), fun y => absurd y n⟩ mk3
          · exact nx X3 true f3 g3 e ⟨fun _ => ⟨y1, fun T' t0 t1 => y2 T' t0 (by omega)⟩, fun _ => rfl⟩ mk3
        | succ u ihu =>
          intro T X3 hT T0 f3 g3 mk3 hI
          have vT : vp_in (nI T) 512 := (m_in (by omega)).mpr (by omega)
          have cT : (nI T).toNatClampNeg = T := m_clamp (by omega)
          apply hX9_findCommon_118_i
          rw [m_lt (by omega) (by omega), cS, cT]
          refine ⟨fun q => absurd q (by omega), fun _ => ⟨v5, fun q => ?_, fun q => ⟨vT, ?_⟩⟩⟩
          · rcases hI with ⟨e, n⟩ | ⟨e, y1, y2⟩
            · exact nx X3 false f3 g3 e ⟨fun e => (by cases e), fun y => absurd y n⟩ mk3
            · exact absurd (e.symm.trans q) (by decide)
          · rcases hI with ⟨e, n⟩ | ⟨e, y1, y2⟩
            · exact absurd e q
            have et := (b16.of (f3 16 (by omega))).z T0 (by omega)
            refine ⟨fun q2 => ?_, fun q2 => X9_over_s (by omega) (by omega) (fun z hz => cK1_mk ⟨fun q3 => ?_, fun q3 => ⟨v5, ?_⟩⟩)⟩
            · rw [m_add]
              exact ihu (T + 1) X3 (by omega) (by omega) f3 g3 mk3 (Or.inr ⟨e, y1, fun T' t0 t1 ts => by
                by_cases e' : T' = T
                · subst e'; exact absurd ts (et.mp q2)
                · exact y2 T' t0 (by omega) ts⟩)
            · rw [m_add]
              exact ihu (T + 1) X3 (by omega) (by omega) f3 g3 mk3 (Or.inr ⟨e, y1, fun T' t0 t1 ts => by
                by_cases e' : T' = T
                · subst e'; exact fun y => by rw [hz.mpr y] at q3; exact absurd q3 (by decide)
                · exact y2 T' t0 (by omega) ts⟩)
            · have n0 : vp_nar .boolean (nI 0) = nI 0 := nar_bool false
              rw [m_add, n0]
              refine ihu (T + 1) _ (by omega) (by omega) (fun c hc => by rw [up2_row hc]; exact f3 c hc) (fun T' hT' => by rw [up2_idx hT']; exact g3 T' hT') ?_ (Or.inl ⟨up2_same, fun y => y.2 T T0 (by omega) (Classical.byContradiction fun w => q2 (et.mpr w)) (hz.mp (z11 q3))⟩)
              obtain ⟨a1, a2, a3, a4⟩ := mk3
              have q' : ∀ c, c ≠ 17 → up2 X3 17 S (nI 0) c = X3 c := fun c hc => up2_row hc
              refine ⟨?_, ?_, ?_, ?_⟩
              · unfold MV at a1 ⊢; rw [q' 0 (by omega), q' 9 (by omega)]; exact a1
              · unfold RwV at a2 ⊢; rw [q' 0 (by omega), q' 10 (by omega)]; exact a2
              · unfold PrV at a3 ⊢; rw [q' 0 (by omega), q' 14 (by omega), q' 15 (by omega)]; exact a3
              · show up2 X3 17 S (nI 0) 0 25 = -1; rw [q' 0 (by omega)]; exact a4
      refine H118 (2 ^ sm s - 1) 1 _ (by omega) (by omega) (fun c hc => up2_row hc) (fun T' hT' => up2_idx hT') (mk' _ _ rfl) ?_
      rw [up2_same]
      rcases b16 S S0 (by omega) with ⟨e, n⟩ | ⟨e, y⟩
      · rw [e]; exact Or.inl ⟨nar_bool false, fun y => n y.1⟩
      · rw [e]; exact Or.inr ⟨nar_bool true, y, fun T' t0 t1 => by omega⟩
  -- COMMON
  have H31 : ∀ t S X2 Y2, S + t = 2 ^ sm s → S ≠ 0 → (∀ c, c ∉ [0, 10, 16, 17] → X2 c = X c) → (∀ i, i ≠ 18 → X2 0 i = X 0 i) → X2 0 18 = nI (sG s + 1) → (∀ v, v < sG s → X2 10 v = X 10 v) → (∀ c, c ≠ 11 → Y2 c = Y c) → (∀ T, T ≠ 0 → T < S → (X2 16 T = nI 0 ∧ ¬ sbP (sm s) (mayQ s) T) ∨ (X2 16 T = nI 1 ∧ sbP (sm s) (mayQ s) T)) → hX9_findCommon_31 Q r (nI (2 ^ sm s - 1)) (lN (wy (sm s) (mayQ s) 0)) (nI S) X2 Y2 := by
    intro t
    induction t with
    | zero =>
      intro S X2 Y2 hS S0 f2 z2 z18 r2 g2 b16
      have s1 : X2 1 = X 1 := f2 1 (by decide)
      apply hX9_findCommon_31_i
      rw [m_lt (by omega) (by omega), c0, s1, h10]
      refine ⟨fun _ => ⟨v0, ?_⟩, fun q => absurd (by omega) q⟩
      have zz : ∀ i, up2 X2 0 18 (nI (sG s)) 0 i = X 0 i := fun i => by
        rw [up2_at]
        by_cases e : i = 18
        · rw [if_pos e, e, n18]
        · rw [if_neg e]; exact z2 i e
      have ff : ∀ c, c ≠ 0 → up2 X2 0 18 (nI (sG s)) c = X2 c := fun c hc => up2_row hc
      have rv : RwV (up2 X2 0 18 (nI (sG s))) (sG s) (rwM (Ms s) (sG s)) := ⟨n10, by rw [zz]; exact n18, fun v hv => by rw [ff 10 (by omega), r2 v hv]; exact nr v hv⟩
      have pv : PrV (up2 X2 0 18 (nI (sG s))) (sG s) [] := by
        unfold PrV at pr ⊢
        rw [ff 14 (by omega), ff 15 (by omega), f2 14 (by decide), f2 15 (by decide), zz]; exact pr
      have tv : TrV (up2 X2 0 18 (nI (sG s))) (sG s) none := by show _ = _; rw [zz]; exact tr
      refine X9_count_s (m := sm s) (by rw [zz]; exact m16) h9 rv pv tv (fun Y3 g3 w3 => cK2_mk ?_)
      have en : mayN (rwM (Ms s) (sG s)) (sG s) [] none = mayQ s := by rw [← ef]; exact eN
      rw [en] at w3
      refine H95 (2 ^ sm s - 1) 1 _ Y3 (by omega) (by omega) (fun c hc => by rw [ff c (fun e => hc (by rw [e]; decide))]; exact f2 c hc) (fun i _ => zz i) (fun c hc => (g3 c hc).trans (g2 c hc)) ⟨⟨m27, by rw [zz]; exact m16, fun k hk => by rw [ff 9 (by omega), f2 9 (by decide)]; exact mm k hk⟩, by rw [ef]; exact rv, pv, tv⟩ w3 (fun T h1 h2 => by rw [ff 16 (by omega)]; exact b16 T h1 (by omega)) (fun T h1 h2 => by omega)
    | succ t ih =>
      intro S X2 Y2 hS S0 f2 z2 z18 r2 g2 b16
      have s1 : X2 1 = X 1 := f2 1 (by decide)
      have v5 : vp_in (nI S) 512 := (m_in (by omega)).mpr (by omega)
      have cS : (nI S).toNatClampNeg = S := m_clamp (by omega)
      apply hX9_findCommon_31_i
      rw [m_lt (by omega) (by omega), c0, s1, h10, cG, cS]
      refine ⟨fun q => absurd q (by omega), fun _ => ⟨v0, (m_in (by omega)).mpr (by omega), ?_⟩⟩
      have ff : ∀ c, c ≠ 10 → up2 X2 10 (sG s) (nI S) c = X2 c := fun c hc => up2_row hc
      have rv : RwV (up2 X2 10 (sG s) (nI S)) (sG s + 1) (fun v => if v = sG s then S else rwM (Ms s) (sG s) v) := by
        refine ⟨by omega, by rw [ff 0 (by omega)]; exact z18, fun v hv => ?_⟩
        rw [up2_at]
        by_cases e : v = sG s
        · rw [if_pos e]
          show nI S = nI (if v = sG s then S else _) ∧ (if v = sG s then S else _) < 512
          rw [if_pos e]; exact ⟨rfl, by omega⟩
        · rw [if_neg e, r2 v (by omega)]
          show _ = nI (if v = sG s then S else _) ∧ (if v = sG s then S else _) < 512
          rw [if_neg e]; exact nr v (by omega)
      have pv : PrV (up2 X2 10 (sG s) (nI S)) (sG s + 1) [] := by
        refine ⟨by simp, ?_, fun k p hp => by simp at hp⟩
        rw [ff 0 (by omega), z2 24 (by omega)]; exact pr.2.1
      have tv : TrV (up2 X2 10 (sG s) (nI S)) (sG s + 1) none := by
        show _ = _
        rw [ff 0 (by omega), z2 25 (by omega)]; exact tr
      refine X9_count_s (m := sm s) (by rw [ff 0 (by omega), z2 16 (by omega)]; exact m16) h9 rv pv tv (fun Y3 g3 w3 => cK2_mk ?_)
      have b1 := bw (mayN (fun v => if v = sG s then S else rwM (Ms s) (sG s) v) (sG s + 1) [] none)
      have b2 := bw (mayQ s)
      rw [m_cmp0, m_Leq (by omega) (by omega), sb_ways h9]
      have n0 : vp_nar .boolean (nI 0) = nI 0 := nar_bool false
      have n1 : vp_nar .boolean (nI 1) = nI 1 := nar_bool true
      rw [n0, n1, m_add]
      have nx : ∀ v, ((v = nI 0 ∧ ¬ sbP (sm s) (mayQ s) S) ∨ (v = nI 1 ∧ sbP (sm s) (mayQ s) S)) → hX9_findCommon_31 Q r (nI (2 ^ sm s - 1)) (lN (wy (sm s) (mayQ s) 0)) (nI (S + 1)) (up2 (up2 X2 10 (sG s) (nI S)) 16 S v) Y3 := fun v hv => ih (S + 1) _ Y3 (by omega) (by omega) (fun c hc => by rw [up2_row (fun e => hc (by rw [e]; decide)), up2_row (fun e => hc (by rw [e]; decide))]; exact f2 c hc) (fun i hi => by rw [up2_row (by omega), up2_row (by omega)]; exact z2 i hi) (by rw [up2_row (by omega), up2_row (by omega)]; exact z18) (fun v hv => by rw [up2_row (by omega), up2_idx (by omega)]; exact r2 v hv) (fun c hc => (g3 c hc).trans (g2 c hc)) (fun T h1 h2 => by
        rw [up2_at]
        by_cases e : T = S
        · rw [if_pos e, e]; exact hv
        · rw [if_neg e, up2_row (by omega)]; exact b16 T h1 (by omega))
      exact ⟨fun q => ⟨v5, nx _ (Or.inl ⟨rfl, q⟩)⟩, fun q => ⟨v5, nx _ (Or.inr ⟨rfl, Classical.not_not.mp q⟩)⟩⟩
  exact H31 (2 ^ sm s - 1) 1 _ Y (by omega) (by omega) (fun c hc => up2_row (fun e => hc (by rw [e]; decide))) (fun i hi => up2_idx hi) up2_same (fun v _ => by rw [up2_row (by omega)]) (fun _ _ => rfl) (fun T h1 h2 => by omega)
end Cmn9
