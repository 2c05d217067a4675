/-! THE THREE, layable sets, rings, by the class -/
/-- a THREE of S -/
def th3 (M : Nat → Nat) (S a b c : Nat) : Prop := (gAv (Eo M) (Bs S) a b ∧ gRch (Eo M) (gAv (Eo M) (Bs S) a) b c) ∧ (gAv (Eo M) (Bs S) b a ∧ gRch (Eo M) (gAv (Eo M) (Bs S) b) a c) ∧ gAv (Eo M) (Bs S) c a ∧ gRch (Eo M) (gAv (Eo M) (Bs S) c) a b
theorem X4_third_s {Q : Qt} {w : Nat} {r : Ly} {X : HX} {Y : HY} {M : Nat → Nat} {S a b : Nat} (hw : w ≤ 60) (hX : X 0 2 = nI w) (hSw : ∀ v, Bs S v → v < w) (hY : ∀ a, Bs S a → ∀ b, b < w → ∃ m, Y 3 (w * a + b) = lN m ∧ wyP M S a b m) (ha : Bs S a) (hb : Bs S b)
    (kn : (∀ c, b < c → ¬ th3 M S a b c) → Q (.inl (some (.int (-1)))) (LX4 w ++ r) X Y) (k : ∀ c, b < c → c < w → th3 M S a b c → (∀ c', b < c' → c' < c → ¬ th3 M S a b c') → Q (.inl (some (.int (nI c)))) (LX4 w ++ r) X Y) : tX4_thirdOf [.ref 0, .int (nI a), .int (nI b)] (LX4 w ++ r) X Y Q := by
  have haw := hSw a ha
  have hbw := hSw b hb
  have sq := sq60 hw
  obtain ⟨p, ep, hp, bp⟩ := hY a ha b hbw
  obtain ⟨q, eq, hq, bq⟩ := hY b hb a haw
  have i1 := idx_lt haw hbw
  have i2 := idx_lt hbw haw
  have hpq : p &&& q < 1152921504606846976 := Nat.lt_of_le_of_lt Nat.and_le_left hp
  have bb : ∀ c, (p &&& q).testBit c = true ↔ (gAv (Eo M) (Bs S) a b ∧ gRch (Eo M) (gAv (Eo M) (Bs S) a) b c) ∧ (gAv (Eo M) (Bs S) b a ∧ gRch (Eo M) (gAv (Eo M) (Bs S) b) a c) := fun c => by
    rw [Nat.testBit_and, Bool.and_eq_true]
    exact and_congr (bp c) (bq c)
  have H : ∀ n c, c + n = w → b < c → (∀ c', b < c' → c' < c → ¬ th3 M S a b c') → hX4_thirdOf_41 Q w r (nI a) (nI b) (lN (p &&& q)) (nI c) X Y := by
    intro n
    induction n with
    | zero =>
      intro c hc hbc hI
      apply hX4_thirdOf_41_i
      rw [hX]
      simp (disch := omega) only [m_0, m_L0, m_lt, m_le, m_eq, m_neg, m_in, m_clamp, m_add, m_sub, m_pred, m_mul, m_l, m_i, m_Land, m_Lor, m_and, m_or, m_xor, m_Landn, m_andn, m_LshlP, m_shl, m_LbitP, m_bit, m_cmp0P, m_Lb0, m_Lb1, m_b0, m_b1, Nat.one_mul]
      refine ⟨fun _ => kn (fun c' h1 h2 => ?_), fun h => by omega⟩
      exact hI c' h1 (by have := hSw c' (gRch.mem h2.1.1 h2.1.2).1; omega) h2
    | succ n ih =>
      intro c hc hbc hI
      have hcw : c < w := by omega
      have i3 := idx_lt hcw haw
      have nxt : (¬ th3 M S a b c) → hX4_thirdOf_41 Q w r (nI a) (nI b) (lN (p &&& q)) (nI (c + 1)) X Y := fun h => ih (c + 1) (by omega) (by omega) (fun c' h1 h2 => by
        by_cases e : c' = c
        · rw [e]; exact h
        · exact hI c' h1 (by omega))
      apply hX4_thirdOf_41_i
      rw [hX]
      simp (disch := omega) only [m_0, m_L0, m_lt, m_le, m_eq, m_neg, m_in, m_clamp, m_add, m_sub, m_pred, m_mul, m_l, m_i, m_Land, m_Lor, m_and, m_or, m_xor, m_Landn, m_andn, m_LshlP, m_shl, m_LbitP, m_bit, m_cmp0P, m_Lb0, m_Lb1, m_b0, m_b1, Nat.one_mul]
      refine ⟨fun h => by omega, fun _ => ⟨fun hc0 => nxt (fun h => ?_), fun hc0 => ⟨i3, ?_⟩⟩⟩
      · rw [(bb c).mpr ⟨h.1, h.2.1⟩] at hc0; cases hc0
      · have h12 := (bb c).mp (nz_nz hc0)
        have hcS : Bs S c := (gRch.mem h12.1.1 h12.1.2).1
        obtain ⟨t, et, ht, bt⟩ := hY c hcS a haw
        simp (disch := omega) only [m_0, m_L0, m_lt, m_le, m_eq, m_neg, m_in, m_clamp, m_add, m_sub, m_pred, m_mul, m_l, m_i, m_Land, m_Lor, m_and, m_or, m_xor, m_Landn, m_andn, m_LshlP, m_shl, m_LbitP, m_bit, m_cmp0P, m_Lb0, m_Lb1, m_b0, m_b1, Nat.one_mul, et]
        refine ⟨fun hb0 => nxt (fun h => ?_), fun hb0 => ?_⟩
        · rw [show t.testBit b = true from (bt b).mpr h.2.2] at hb0; cases hb0
        · have h9 : th3 M S a b c := ⟨h12.1, h12.2, (bt b).mp (nz_nz hb0)⟩
          exact k c hbc hcw h9 hI
  apply tX4_thirdOf_i
  rw [hX]
  simp (disch := omega) only [m_0, m_L0, m_lt, m_le, m_eq, m_neg, m_in, m_clamp, m_add, m_sub, m_pred, m_mul, m_l, m_i, m_Land, m_Lor, m_and, m_or, m_xor, m_Landn, m_andn, m_LshlP, m_shl, m_LbitP, m_bit, m_cmp0P, m_Lb0, m_Lb1, m_b0, m_b1, Nat.one_mul, ep, eq]
  refine ⟨i1, i2, fun hne => H _ (b + 1) (Nat.add_sub_cancel' (by omega : b + 1 ≤ w)) (by omega) (fun c' h1 h2 => by omega), fun hne => kn (fun c hbc h => ?_)⟩
  have hne := Classical.not_not.mp hne
  rw [m_Leq (by omega) (by omega)] at hne
  have := (bb c).mpr ⟨h.1, h.2.1⟩
  rw [hne] at this; simp at this
/-- the first of the threes of S, or none -/
def th3R (M : Nat → Nat) (S : Nat) (z : Int) : Prop := (z = -1 ∧ ∀ a b c, Bs S a → Bs S b → a < b → b < c → ¬ th3 M S a b c) ∨ ∃ a b c : Nat, z = ((a + 64 * b + 4096 * c : Nat) : Int) ∧ a < b ∧ b < c ∧ c < 60 ∧ th3 M S a b c ∧ ∀ a' b' c', Bs S a' → Bs S b' → a' < b' → b' < c' → th3 M S a' b' c' → a < a' ∨ (a = a' ∧ (b < b' ∨ (b = b' ∧ c ≤ c')))
theorem enc3 {a b c : Nat} (ha : a < 64) (hb : b < 64) (hc : c < 64) : (nI a ||| (nI b <<< (nI 6 &&& 31))) ||| (nI c <<< (nI 12 &&& 31)) = nI (a + 64 * b + 4096 * c) := by
  rw [m_shl (by omega), m_shl (by omega), m_or, m_or]
  have e1 : a ||| b * 2 ^ 6 = b * 2 ^ 6 + a := by
    rw [Nat.or_comm, Nat.mul_comm, Nat.two_pow_add_eq_or_of_lt (i := 6) (by omega)]
  have e2 : (a ||| b * 2 ^ 6) ||| c * 2 ^ 12 = c * 2 ^ 12 + (a ||| b * 2 ^ 6) := by
    rw [Nat.or_comm, Nat.mul_comm c, Nat.two_pow_add_eq_or_of_lt (i := 12) (by rw [e1]; omega)]
  rw [e2, e1]
  congr 1
  omega
theorem enc3b {a b c : Nat} (ha : a < 64) (hb : b < 64) (hc : c < 64) : nI (a ||| b * 2 ^ 6) ||| (nI c <<< (nI 12 &&& 31)) = nI (a + 64 * b + 4096 * c) := by
  rw [← enc3 ha hb hc, m_shl (m := b) (k := 6) (by omega), m_or]
theorem X4_findThree_s {Q : Qt} {w : Nat} {r : Ly} {X : HX} {Y : HY} {M : Nat → Nat} {S : Nat} (hV : VM w X Y M) (hG : GM w M) (hS : S < 1152921504606846976) (hSw : ∀ v, Bs S v → v < w)
    (k : ∀ z Y', (∀ c, c ≠ 3 → Y' c = Y c) → th3R M S z → Q (.inl (some (.int (zI z)))) (LX4 w ++ r) X Y') : tX4_findThree [.ref 0, .long (lN S)] (LX4 w ++ r) X Y Q := by
  apply tX4_findThree_i
  refine X4_findWays_s hV hG hS hSw (fun Y' f1 hY => cK0_mk ?_)
  obtain ⟨hw, hX, hM⟩ := hV
  have H : ∀ n a, a + n = w → (∀ a' b c, a' < a → Bs S a' → Bs S b → a' < b → b < c → ¬ th3 M S a' b c) → hX4_findThree_7 Q w r (lN S) (nI a) X Y' := by
    intro n
    induction n with
    | zero =>
      intro a ha hI
      apply hX4_findThree_7_i
      rw [hX]
      simp (disch := omega) only [m_0, m_L0, m_lt, m_le, m_eq, m_neg, m_in, m_clamp, m_add, m_sub, m_pred, m_mul, m_l, m_i, m_Land, m_Lor, m_and, m_or, m_xor, m_Landn, m_andn, m_LshlP, m_shl, m_LbitP, m_bit, m_cmp0P, m_Lb0, m_Lb1, m_b0, m_b1, Nat.one_mul]
      refine ⟨fun _ => k (-1) Y' f1 (Or.inl ⟨rfl, fun a' b c h1 h2 h3 h4 => hI a' b c (by have := hSw a' h1; omega) h1 h2 h3 h4⟩), fun h => by omega⟩
    | succ n ih =>
      intro a ha hI
      apply hX4_findThree_7_i
      rw [hX]
      simp (disch := omega) only [m_0, m_L0, m_lt, m_le, m_eq, m_neg, m_in, m_clamp, m_add, m_sub, m_pred, m_mul, m_l, m_i, m_Land, m_Lor, m_and, m_or, m_xor, m_Landn, m_andn, m_LshlP, m_shl, m_LbitP, m_bit, m_cmp0P, m_Lb0, m_Lb1, m_b0, m_b1, Nat.one_mul]
      refine ⟨fun h => by omega, fun _ => ⟨fun hb => ?_, fun hb => ?_⟩⟩
      · have haS : Bs S a := nz_nz hb
        have G : ∀ m b, b + m = w → a < b → (∀ b' c, b' < b → Bs S b' → a < b' → b' < c → ¬ th3 M S a b' c) → hX4_findThree_33 Q w r (lN S) (nI a) (nI b) X Y' := by
          intro m
          induction m with
          | zero =>
            intro b hb hab hJ
            apply hX4_findThree_33_i
            rw [hX]
            simp (disch := omega) only [m_0, m_L0, m_lt, m_le, m_eq, m_neg, m_in, m_clamp, m_add, m_sub, m_pred, m_mul, m_l, m_i, m_Land, m_Lor, m_and, m_or, m_xor, m_Landn, m_andn, m_LshlP, m_shl, m_LbitP, m_bit, m_cmp0P, m_Lb0, m_Lb1, m_b0, m_b1, Nat.one_mul]
            refine ⟨fun _ => ih (a + 1) (by omega) (fun a' b' c q h1 h2 h3 h4 => ?_), fun h => by omega⟩
            by_cases e : a' = a
            · subst e; exact hJ b' c (by have := hSw b' h2; omega) h2 h3 h4
            · exact hI a' b' c (by omega) h1 h2 h3 h4
          | succ m ihm =>
            intro b hb hab hJ
            have nxt : (∀ c, Bs S b → b < c → ¬ th3 M S a b c) → hX4_findThree_33 Q w r (lN S) (nI a) (nI (b + 1)) X Y' := fun h => ihm (b + 1) (by omega) (by omega) (fun b' c q h2 h3 h4 => by
              by_cases e : b' = b
              · subst e; exact h c h2 h4
              · exact hJ b' c (by omega) h2 h3 h4)
            apply hX4_findThree_33_i
            rw [hX]
            simp (disch := omega) only [m_0, m_L0, m_lt, m_le, m_eq, m_neg, m_in, m_clamp, m_add, m_sub, m_pred, m_mul, m_l, m_i, m_Land, m_Lor, m_and, m_or, m_xor, m_Landn, m_andn, m_LshlP, m_shl, m_LbitP, m_bit, m_cmp0P, m_Lb0, m_Lb1, m_b0, m_b1, Nat.one_mul]
            refine ⟨fun h => by omega, fun _ => ⟨fun hb0 => nxt (fun c h _ => ?_), fun hb0 => ?_⟩⟩
            · rw [show S.testBit b = true from h] at hb0; cases hb0
            · have hbS : Bs S b := nz_nz hb0
              refine X4_third_s hw hX hSw hY haS hbS (fun hn => cK1_mk ⟨fun _ => nxt (fun c _ hc => hn c hc), fun h => absurd rfl h⟩) (fun c h1 h2 h3 h4 => cK1_mk ⟨fun h => by rw [m_neg (by omega)] at h; exact h.elim, fun _ => ?_⟩)
              rw [enc3b (by omega) (by omega) (by omega), ← m_zI]
              refine k _ Y' f1 (Or.inr ⟨a, b, c, rfl, hab, h1, by omega, h3, fun a' b' c' q1 q2 q3 q4 q5 => ?_⟩)
              rcases Nat.lt_trichotomy a' a with e | e | e
              · exact absurd q5 (hI a' b' c' e q1 q2 q3 q4)
              · subst e
                refine Or.inr ⟨rfl, ?_⟩
                rcases Nat.lt_trichotomy b' b with e | e | e
                · exact absurd q5 (hJ b' c' e q2 q3 q4)
                · subst e
                  refine Or.inr ⟨rfl, Nat.le_of_not_lt (fun q => h4 c' q4 q q5)⟩
                · exact Or.inl e
              · exact Or.inl e
        exact G _ (a + 1) (Nat.add_sub_cancel' (by omega : a + 1 ≤ w)) (by omega) (fun b' c h1 h2 h3 => by omega)
      · refine ih (a + 1) (by omega) (fun a' b' c q h1 h2 h3 h4 => ?_)
        by_cases e : a' = a
        · subst e; exact absurd (by rw [show S.testBit a' = true from h1]; decide) hb
        · exact hI a' b' c (by omega) h1 h2 h3 h4
  exact H w 0 (by omega) (fun a' b c h => by omega)
/-- a THREE is one in any turn -/
theorem th3_at {M : Nat → Nat} {w S : Nat} (hG : GM w M) : (∀ a b c, Bs S a → Bs S b → a < b → b < c → ¬ th3 M S a b c) ↔ gAT (Eo M) (Bs S) := by
  have hs : ∀ a b, Eo M a b → Eo M b a := fun a b e => (hG a b e).2.2.2
  constructor
  · intro h a b c ha hb hc n1 n2 n3 e1 e2 e3 r1 r2 r3
    have av : ∀ x y, Bs S x → Bs S y → x ≠ y → ¬ Eo M x y → gAv (Eo M) (Bs S) y x := fun x y hx _ hn he => ⟨hx, hn, fun q => he (hs _ _ q)⟩
    have mk : ∀ x y z, Bs S x → Bs S y → Bs S z → x ≠ y → x ≠ z → y ≠ z → ¬ Eo M x y → ¬ Eo M x z → ¬ Eo M y z → gRch (Eo M) (gAv (Eo M) (Bs S) z) x y → gRch (Eo M) (gAv (Eo M) (Bs S) x) y z → gRch (Eo M) (gAv (Eo M) (Bs S) y) x z → th3 M S x y z := fun x y z hx hy hz m1 m2 m3 f1 f2 f3 s1 s2 s3 =>
      ⟨⟨av y x hy hx (fun q => m1 q.symm) (fun q => f1 (hs _ _ q)), s2⟩, ⟨av x y hx hy m1 f1, s3⟩, av x z hx hz m2 f2, s1⟩
    have e1' := fun q => e1 (hs _ _ q)
    have e2' := fun q => e2 (hs _ _ q)
    have e3' := fun q => e3 (hs _ _ q)
    rcases Nat.lt_trichotomy a b with q | q | q
    · rcases Nat.lt_trichotomy b c with p | p | p
      · exact h a b c ha hb q p (mk a b c ha hb hc n1 n2 n3 e1 e2 e3 r1 r2 r3)
      · exact n3 p
      · rcases Nat.lt_trichotomy a c with o | o | o
        · exact h a c b ha hc o p (mk a c b ha hc hb n2 n1 n3.symm e2 e1 e3' r3 (r2.symm hs) r1)
        · exact n2 o
        · exact h c a b hc ha o q (mk c a b hc ha hb n2.symm n3.symm n1 e2' e3' e1 (r3.symm hs) r1 (r2.symm hs))
    · exact n1 q
    · rcases Nat.lt_trichotomy a c with p | p | p
      · exact h b a c hb ha q p (mk b a c hb ha hc n1.symm n3 n2 e1' e3 e2 (r1.symm hs) r3 r2)
      · exact n2 p
      · rcases Nat.lt_trichotomy b c with o | o | o
        · exact h b c a hb hc o p (mk b c a hb hc ha n3 n1.symm n2.symm e3 e1' e2' r2 (r3.symm hs) (r1.symm hs))
        · exact n3 o
        · exact h c b a hc hb o q (mk c b a hc hb ha n3.symm n2.symm n1.symm e3' e2' e1' (r2.symm hs) (r1.symm hs) (r3.symm hs))
  · intro h a b c ha hb hab hbc ht
    obtain ⟨⟨t1, t2⟩, ⟨t3, t4⟩, t5, t6⟩ := ht
    have c1 := gRch.mem t1 t2
    have c2 := gRch.mem t3 t4
    exact h a b c ha hb c1.1 (by omega) (by omega) (by omega) t1.2.2 c1.2.2 c2.2.2 t6 t2 t4
/-- those of S can be laid -/
def cnB (M : Nat → Nat) (S : Nat) : Prop := gCh (Eo M) (Bs S) ∧ gAT (Eo M) (Bs S)
theorem X4_isLayable_s {Q : Qt} {w : Nat} {r : Ly} {X : HX} {Y : HY} {M : Nat → Nat} {S : Nat} (hV : VM w X Y M) (hG : GM w M) (hS : S < 1152921504606846976) (hSw : ∀ v, Bs S v → v < w)
    (k : ∀ (b : Bool) X' Y', (∀ c, c ≠ 0 → c ≠ 2 → X' c = X c) → (∀ i, i ≠ 1 → X' 0 i = X 0 i) → (∀ c, c ≠ 3 → Y' c = Y c) → (b = true ↔ cnB M S) → Q (.inl (some (.int (nI b.toNat)))) (LX4 w ++ r) X' Y') : tX4_isLayable [.ref 0, .long (lN S)] (LX4 w ++ r) X Y Q := by
  apply tX4_isLayable_i
  refine X4_isRingless_s hV hG hS hSw (fun b X' f1 f2 hb _ => cK1_mk ⟨fun h => ⟨(by first | exact Or.inl rfl | exact Or.inr rfl | exact Or.inl trivial | exact Or.inr trivial), ?_⟩, fun h => ?_⟩)
  · have hb2 : b = false := by cases b; rfl; exact absurd h (by decide)
    subst hb2
    exact k false X' Y f1 f2 (fun _ _ => rfl) ⟨fun q => (by cases q), fun q => by have := hb.mpr q.1; cases this⟩
  · have hb2 : b = true := by cases b; exact absurd (by decide) h; rfl
    have hc := hb.mp hb2
    have hV' : VM w X' Y M := ⟨hV.1, by rw [f2 2 (by omega)]; exact hV.2.1, hV.2.2⟩
    refine X4_findThree_s hV' hG hS hSw (fun z Y' f3 hz => cK1_mk ⟨fun h => ⟨(by first | exact Or.inl rfl | exact Or.inr rfl | exact Or.inl trivial | exact Or.inr trivial), ?_⟩, fun h => ⟨(by first | exact Or.inl rfl | exact Or.inr rfl | exact Or.inl trivial | exact Or.inr trivial), ?_⟩⟩)
    · refine k false X' Y' f1 f2 f3 ⟨fun q => (by cases q), fun q => ?_⟩
      rcases hz with ⟨rfl, -⟩ | ⟨a, b, c, rfl, h1, h2, h3, h4, -⟩
      · exact absurd rfl h
      · exact absurd h4 ((th3_at hG).mpr q.2 a b c h4.2.1.1.1 h4.1.1.1 h1 h2)
    · refine k true X' Y' f1 f2 f3 ⟨fun _ => ⟨hc, ?_⟩, fun _ => rfl⟩
      rcases hz with ⟨rfl, hn⟩ | ⟨a, b, c, rfl, h1, h2, h3, h4, -⟩
      · exact (th3_at hG).mp hn
      · have := Classical.not_not.mp h
        rw [m_zI, m_neg (by omega)] at this; exact this.elim
theorem X8_lowest_s {Q : Qt} {r : Ly} {X : HX} {Y : HY} {m : Nat} (h0 : 0 < m) (hm : m < 9223372036854775808) (k : ∀ l, l < 63 → m.testBit l = true → (∀ i, i < l → m.testBit i = false) → Q (.inl (some (.int (nI l)))) r X Y) : tX8_lowest [.long (lN m)] r X Y Q := by
  obtain ⟨l, hl, h1, h2, e1, -⟩ := m_low h0 hm
  apply tX8_lowest_i
  rw [e1]
  refine bc64 (by have := Nat.pow_lt_pow_right (a := 2) (by omega) (show l < 63 from hl); omega) (cK1_mk ?_)
  rw [cnt_low ⟨l, by omega⟩]
  exact k l hl h1 h2
/-- a RING -/
def rgP (M : Nat → Nat) (S : Nat) : Prop := 4 ≤ cnt S ∧ (∀ v, Bs S v → cnt (M v &&& S) = 2) ∧ gCon (Eo M) (Bs S)
theorem X4_isRing_s {Q : Qt} {w : Nat} {r : Ly} {X : HX} {Y : HY} {M : Nat → Nat} {S : Nat} (hV : VM w X Y M) (hG : GM w M) (hS : S < 1152921504606846976) (hSw : ∀ v, Bs S v → v < w)
    (k : ∀ b : Bool, (b = true ↔ rgP M S) → Q (.inl (some (.int (nI b.toNat)))) (LX4 w ++ r) X Y) : tX4_isRing [.ref 0, .long (lN S)] (LX4 w ++ r) X Y Q := by
  have hs : ∀ a b, Eo M a b → Eo M b a := fun a b e => (hG a b e).2.2.2
  obtain ⟨hw, hX, hM⟩ := id hV
  have hcS := cnt_le S
  apply tX4_isRing_i
  refine bc64 (by omega) (cK1_mk ?_)
  simp (disch := omega) only [m_0, m_L0, m_lt, m_le, m_eq, m_neg, m_in, m_clamp, m_add, m_sub, m_pred, m_mul, m_l, m_i, m_Land, m_Lor, m_and, m_or, m_xor, m_Landn, m_andn, m_LshlP, m_shl, m_LbitP, m_bit, m_cmp0P, m_Lb0, m_Lb1, m_b0, m_b1, Nat.one_mul]
  refine ⟨fun h4 => ?_, fun h4 => ⟨(by first | exact Or.inl rfl | exact Or.inr rfl | exact Or.inl trivial | exact Or.inr trivial), k false ⟨fun q => (by cases q), fun q => absurd q.1 h4⟩⟩⟩
  have hS0 : S ≠ 0 := fun q => by rw [q] at h4; exact absurd h4 (by decide +kernel)
  have H : ∀ n j, j + n = w → (∀ v, v < j → Bs S v → cnt (M v &&& S) = 2) → hX4_isRing_12 Q w r (lN S) (nI j) X Y := by
    intro n
    induction n with
    | zero =>
      intro j hj hI
      apply hX4_isRing_12_i
      rw [hX]
      simp (disch := omega) only [m_0, m_L0, m_lt, m_le, m_eq, m_neg, m_in, m_clamp, m_add, m_sub, m_pred, m_mul, m_l, m_i, m_Land, m_Lor, m_and, m_or, m_xor, m_Landn, m_andn, m_LshlP, m_shl, m_LbitP, m_bit, m_cmp0P, m_Lb0, m_Lb1, m_b0, m_b1, Nat.one_mul]
      refine ⟨fun _ => ?_, fun h => by omega⟩
      refine X8_lowest_s (Nat.pos_of_ne_zero hS0) (by omega) (fun l hl h1 h2 => cK1_mk (X4_reached_s hV hG hS hSw h1 (fun R hR bR => cK2_mk ?_)))
      have key : R = S ↔ gCon (Eo M) (Bs S) := by
        constructor
        · intro e a b ha hb
          have ha2 : Bs R a := e ▸ ha
          have hb2 : Bs R b := e ▸ hb
          exact (((bR a).mp ha2).symm hs).trans ((bR b).mp hb2)
        · intro hc
          apply Nat.eq_of_testBit_eq
          intro i
          have : R.testBit i = true ↔ S.testBit i = true := (bR i).trans ⟨fun q => gRch.mem h1 q, fun q => hc l i h1 q⟩
          cases h : R.testBit i <;> cases h2 : S.testBit i <;> simp [h, h2] at this <;> rfl
      rw [m_Leq (by omega) (by omega), key]
      refine ⟨fun h => ⟨(by first | exact Or.inl rfl | exact Or.inr rfl | exact Or.inl trivial | exact Or.inr trivial), k false ⟨fun q => (by cases q), fun q => absurd q.2.2 h⟩⟩, fun h => ⟨(by first | exact Or.inl rfl | exact Or.inr rfl | exact Or.inl trivial | exact Or.inr trivial), k true ⟨fun _ => ⟨h4, fun v hv => hI v (by have := hSw v hv; omega) hv, Classical.not_not.mp h⟩, fun _ => rfl⟩⟩⟩
    | succ n ih =>
      intro j hj hI
      have hjw : j < w := by omega
      have hc := cnt_le (M j &&& S)
      apply hX4_isRing_12_i
      rw [hX]
      simp (disch := omega) only [m_0, m_L0, m_lt, m_le, m_eq, m_neg, m_in, m_clamp, m_add, m_sub, m_pred, m_mul, m_l, m_i, m_Land, m_Lor, m_and, m_or, m_xor, m_Landn, m_andn, m_LshlP, m_shl, m_LbitP, m_bit, m_cmp0P, m_Lb0, m_Lb1, m_b0, m_b1, Nat.one_mul, (hM j hjw).1]
      refine ⟨fun h => by omega, fun _ => ⟨fun hb => ih (j + 1) (by omega) (fun v hv q => ?_), fun hb => ⟨hjw, bc64 (and60 (hM j hjw).2) (cK1_mk ?_)⟩⟩⟩
      · by_cases e : v = j
        · subst e; rw [show S.testBit v = true from q] at hb; cases hb
        · exact hI v (by omega) q
      · simp (disch := omega) only [m_0, m_L0, m_lt, m_le, m_eq, m_neg, m_in, m_clamp, m_add, m_sub, m_pred, m_mul, m_l, m_i, m_Land, m_Lor, m_and, m_or, m_xor, m_Landn, m_andn, m_LshlP, m_shl, m_LbitP, m_bit, m_cmp0P, m_Lb0, m_Lb1, m_b0, m_b1, Nat.one_mul]
        refine ⟨fun h => ih (j + 1) (by omega) (fun v hv q => ?_), fun h => ⟨(by first | exact Or.inl rfl | exact Or.inr rfl | exact Or.inl trivial | exact Or.inr trivial), k false ⟨fun q => (by cases q), fun q => absurd (q.2.1 j (nz_nz hb)) h⟩⟩⟩
        by_cases e : v = j
        · subst e; exact h
        · exact hI v (by omega) q
  exact H w 0 (by omega) (fun v h => by omega)
