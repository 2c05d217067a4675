/-! who can be laid, by the reference -/
theorem and10 {a b : Nat} (h : a < 1024) : a &&& b < 1024 := Nat.lt_of_le_of_lt Nat.and_le_left h
theorem bs10 {S v : Nat} (h : S < 1024) (hv : Bs S v) : v < 10 := bit_lt (k := 10) h hv
theorem lt10 {m : Nat} (h : ∀ i, m.testBit i = true → i < 10) : m < 1024 := lt_of_bits (k := 10) h
theorem nz_iff {b : Bool} : (¬ b = true) ↔ b = false := by cases b <;> simp
theorem mBit1 {m k : Nat} (hm : m < 2147483648) (hk : k < 32) : (nI m >>> (nI k &&& 31)) &&& nI 1 = nI 1 ↔ m.testBit k = true := by rw [m_bit hm hk, m_b1]
theorem ch_del {E : Nat → Nat → Prop} {V : Nat → Prop} {v : Nat} (hv : V v) (hsv : gSimp E V v) : gCh E (fun u => V u ∧ u ≠ v) ↔ gCh E V := by
  constructor
  · intro h T hT hx
    by_cases q : T v
    · exact ⟨v, q, fun y z hy hz => hsv y z (hT y hy) (hT z hz)⟩
    · exact h T (fun x hx => ⟨hT x hx, fun e => q (e ▸ hx)⟩) hx
  · intro h; exact h.sub (fun x hx => hx.1)
theorem X9_noRing_s {Q : Qt} {r : Ly} {X : HX} {Y : HY} {M : Nat → Nat} {S : Nat} (hN : NV X M) (hG : GM 10 M) (hS : S < 1024) (k : ∀ b : Bool, (b = true ↔ gCh (Eo M) (Bs S)) → Q (.inl (some (.int (nI b.toNat)))) (LX9 ++ r) X Y) : tX9_noRing [.ref 0, .int (nI S)] (LX9 ++ r) X Y Q := by
  have hs : ∀ a b, Eo M a b → Eo M b a := fun a b e => (hG a b e).2.2.2
  apply tX9_noRing_i
  have H : ∀ n R, gSz (Bs R) 10 ≤ n → R < 1024 → (gCh (Eo M) (Bs R) ↔ gCh (Eo M) (Bs S)) → hX9_noRing_4 Q r (nI R) (nI 1) X Y := by
    intro n
    induction n with
    | zero =>
      intro R hR hR2 hI
      have hz : R = 0 := eq0_bit (fun i => by
        cases h : R.testBit i
        · rfl
        · have := gSz_lt (P := fun _ => False) (P' := Bs R) (n := 10) (fun _ q => q.elim) (bs10 hR2 h) h (fun q => q); omega)
      subst hz
      apply hX9_noRing_4_i
      refine ⟨fun _ => ⟨fun h => absurd rfl h, fun _ => ⟨(by first | exact Or.inl rfl | exact Or.inr rfl | exact Or.inl trivial | exact Or.inr trivial), k true ⟨fun _ => hI.mp (fun T hT ⟨x, hx⟩ => ?_), fun _ => rfl⟩⟩⟩, fun h => absurd rfl h⟩
      have := hT x hx; simp [Bs] at this
    | succ n ih =>
      intro R hR hR2 hI
      apply hX9_noRing_4_i
      simp (disch := omega) only [m_0, m_L0, m_lt, m_le, m_eq, m_neg, m_in, m_clamp, m_add, m_sub, m_pred, m_mul, m_l, m_i, m_Land, m_Lor, m_and, m_or, m_xor, m_Landn, m_andn, m_LshlP, m_shl, m_LbitP, m_bit, m_cmp0P, m_Lb0, m_Lb1, m_b0, m_b1, Nat.one_mul]
      refine ⟨fun h0 => ⟨fun h => absurd h0 h, fun _ => ⟨(by first | exact Or.inl rfl | exact Or.inr rfl | exact Or.inl trivial | exact Or.inr trivial), k true ⟨fun _ => hI.mp (fun T hT ⟨x, hx⟩ => ?_), fun _ => rfl⟩⟩⟩, fun h0 => ⟨fun h => absurd h (by omega), fun _ => ?_⟩⟩
      · have := hT x hx; rw [h0] at this; simp [Bs] at this
      -- the search
      have G : ∀ m v, v + m = 10 → (∀ u, u < v → Bs R u → ¬ gSimp (Eo M) (Bs R) u) → hX9_noRing_17 Q r (nI R) (nI 0) (nI v) X Y := by
        intro m
        induction m with
        | zero =>
          intro v hv hJ
          apply hX9_noRing_17_i
          simp (disch := omega) only [m_0, m_L0, m_lt, m_le, m_eq, m_neg, m_in, m_clamp, m_add, m_sub, m_pred, m_mul, m_l, m_i, m_Land, m_Lor, m_and, m_or, m_xor, m_Landn, m_andn, m_LshlP, m_shl, m_LbitP, m_bit, m_cmp0P, m_Lb0, m_Lb1, m_b0, m_b1, Nat.one_mul]
          refine ⟨fun _ => ?_, fun h => by omega⟩
          apply hX9_noRing_4_i
          simp (disch := omega) only [m_0, m_L0, m_lt, m_le, m_eq, m_neg, m_in, m_clamp, m_add, m_sub, m_pred, m_mul, m_l, m_i, m_Land, m_Lor, m_and, m_or, m_xor, m_Landn, m_andn, m_LshlP, m_shl, m_LbitP, m_bit, m_cmp0P, m_Lb0, m_Lb1, m_b0, m_b1, Nat.one_mul]
          have no : ¬ gCh (Eo M) (Bs S) := fun hc => by
            obtain ⟨x, hx⟩ := ne0_bit h0
            obtain ⟨y, hy, hsy⟩ := hI.mpr hc (Bs R) (fun _ q => q) ⟨x, hx⟩
            exact hJ y (by have := bs10 hR2 hy; omega) hy hsy
          exact ⟨fun h => absurd h h0, fun _ => ⟨fun _ => ⟨fun _ => ⟨(by first | exact Or.inl rfl | exact Or.inr rfl | exact Or.inl trivial | exact Or.inr trivial), k false ⟨fun q => (by cases q), fun q => absurd q no⟩⟩, fun h => absurd h0 h⟩, fun h => absurd trivial h⟩⟩
        | succ m ihm =>
          intro v hv hJ
          have hv10 : v < 10 := by omega
          apply hX9_noRing_17_i
          simp (disch := omega) only [m_0, m_L0, m_lt, m_le, m_eq, m_neg, m_in, m_clamp, m_add, m_sub, m_pred, m_mul, m_l, m_i, m_Land, m_Lor, m_and, m_or, m_xor, m_Landn, m_andn, m_LshlP, m_shl, m_LbitP, m_bit, m_cmp0P, m_Lb0, m_Lb1, m_b0, m_b1, Nat.one_mul, (hN v hv10).1]
          refine ⟨fun h => by omega, fun _ => ⟨fun h => absurd trivial h, fun _ => ⟨fun hb => ⟨hv10, ?_⟩, fun hb => ihm (v + 1) (by omega) (fun u hu q => ?_)⟩⟩⟩
          · have hvR : Bs R v := nz_nz hb
            have hMR : M v &&& R < 1024 := and10 (hN v hv10).2
            have bm : ∀ u, (M v &&& R).testBit u = true ↔ Eo M v u ∧ Bs R u := fun u => by rw [Nat.testBit_and, Bool.and_eq_true]; rfl
            -- all of them
            have K : ∀ p u (a : Bool), u + p = 10 → (a = true ↔ ∀ y, y < u → Eo M v y → Bs R y → ∀ z, Eo M v z → Bs R z → y = z ∨ Eo M y z) → hX9_noRing_57 Q r (nI R) (nI 0) (nI v) (nI (M v &&& R)) (nI a.toNat) (nI u) X Y := by
              intro p
              induction p with
              | zero =>
                intro u a hu ha
                have key : a = true ↔ gSimp (Eo M) (Bs R) v := ha.trans ⟨fun q y z hy hz ey ez => q y (by have := bs10 hR2 hy; omega) ey hy z ez hz, fun q y _ ey hy z ez hz => q y z hy hz ey ez⟩
                apply hX9_noRing_57_i
                simp (disch := omega) only [m_0, m_L0, m_lt, m_le, m_eq, m_neg, m_in, m_clamp, m_add, m_sub, m_pred, m_mul, m_l, m_i, m_Land, m_Lor, m_and, m_or, m_xor, m_Landn, m_andn, m_LshlP, m_shl, m_LbitP, m_bit, m_cmp0P, m_Lb0, m_Lb1, m_b0, m_b1, Nat.one_mul]
                refine ⟨fun _ => ⟨fun h => ?_, fun h => ?_⟩, fun h => by omega⟩
                · refine ihm (v + 1) (by omega) (fun w hw q => ?_)
                  by_cases e : w = v
                  · subst e; intro hq; have := key.mpr hq; subst this; exact absurd h (by decide)
                  · exact hJ w (by omega) q
                · have ht : a = true := by cases a; exact absurd rfl h; rfl
                  have hsv := key.mp ht
                  apply hX9_noRing_17_i
                  have bR : ∀ w, Bs (nAn R (2 ^ v)) w ↔ Bs R w ∧ w ≠ v := fun w => by
                    show (nAn R (2 ^ v)).testBit w = true ↔ _
                    rw [nAn_bit, Nat.testBit_two_pow]
                    simp only [Bool.and_eq_true, Bool.not_eq_true', decide_eq_false_iff_not, Bs]
                    exact ⟨fun q => ⟨q.1, fun z => q.2 z.symm⟩, fun q => ⟨q.1, fun z => q.2 z.symm⟩⟩
                  have eR : Bs (nAn R (2 ^ v)) = fun w => Bs R w ∧ w ≠ v := funext fun w => propext (bR w)
                  have fin : hX9_noRing_4 Q r (nI (nAn R (2 ^ v))) (nI 1) X Y := by
                    refine ih _ ?_ (Nat.lt_of_le_of_lt (nAn_le _ _) hR2) ?_
                    · have := gSz_lt (P := Bs (nAn R (2 ^ v))) (P' := Bs R) (n := 10) (fun w q => ((bR w).mp q).1) hv10 hvR (fun q => ((bR v).mp q).2 rfl)
                      omega
                    · rw [eR]; exact (ch_del hvR hsv).trans hI
                  simp (disch := omega) only [m_0, m_L0, m_lt, m_le, m_eq, m_neg, m_in, m_clamp, m_add, m_sub, m_pred, m_mul, m_l, m_i, m_Land, m_Lor, m_and, m_or, m_xor, m_Landn, m_andn, m_LshlP, m_shl, m_LbitP, m_bit, m_cmp0P, m_Lb0, m_Lb1, m_b0, m_b1, Nat.one_mul]
                  exact ⟨fun _ => fin, fun _ => ⟨fun _ => fin, fun h => absurd (by omega : ¬ (1 : Nat) = 0) h⟩⟩
              | succ p ihp =>
                intro u a hu ha
                have hu10 : u < 10 := by omega
                have nl := nAn_le (nAn (M v &&& R) (M u)) (2 ^ u)
                have nl2 := nAn_le (M v &&& R) (M u)
                apply hX9_noRing_57_i
                simp (disch := omega) only [m_0, m_L0, m_lt, m_le, m_eq, m_neg, m_in, m_clamp, m_add, m_sub, m_pred, m_mul, m_l, m_i, m_Land, m_Lor, m_and, m_or, m_xor, m_Landn, m_andn, m_LshlP, m_shl, m_LbitP, m_bit, m_cmp0P, m_Lb0, m_Lb1, m_b0, m_b1, Nat.one_mul, (hN u hu10).1]
                refine ⟨fun h => by omega, fun _ => ⟨fun hb2 => ihp (u + 1) a (by omega) (ha.trans ?_), fun hb2 => ⟨hu10, fun hz => ihp (u + 1) a (by omega) (ha.trans ?_), fun hz => ?_⟩⟩⟩
                · have nb : ¬ (Eo M v u ∧ Bs R u) := fun q => hb2 ((bm u).mpr q)
                  exact ⟨fun q y hy ey hyR => by
                    by_cases e : y = u
                    · subst e; exact absurd ⟨ey, hyR⟩ nb
                    · exact q y (by omega) ey hyR, fun q y hy => q y (by omega)⟩
                · have hb3 := (bm u).mp (Classical.not_not.mp hb2)
                  refine ⟨fun q y hy ey hyR z ez hzR => ?_, fun q y hy => q y (by omega)⟩
                  by_cases e : y = u
                  · subst e
                    have hz9 : (nAn (nAn (M v &&& R) (M y)) (2 ^ y)).testBit z = false := by rw [hz]; simp
                    rw [nAn_bit, nAn_bit, (bm z).mpr ⟨ez, hzR⟩, Nat.testBit_two_pow] at hz9
                    by_cases e2 : y = z
                    · exact Or.inl e2
                    · right
                      show (M y).testBit z = true
                      cases h : (M y).testBit z
                      · rw [h] at hz9; simp [e2] at hz9
                      · rfl
                  · exact q y (by omega) ey hyR z ez hzR
                · have hb3 := (bm u).mp (Classical.not_not.mp hb2)
                  have : nI 0 = nI (false : Bool).toNat := rfl
                  rw [this]
                  refine ihp (u + 1) false (by omega) ⟨fun q => (by cases q), fun q => ?_⟩
                  obtain ⟨z, hz9⟩ := ne0_bit hz
                  rw [nAn_bit, nAn_bit, Nat.testBit_two_pow] at hz9
                  simp only [Bool.and_eq_true, Bool.not_eq_true', decide_eq_false_iff_not] at hz9
                  have hz8 := (bm z).mp hz9.1.1
                  rcases q u (by omega) hb3.1 hb3.2 z hz8.1 hz8.2 with q1 | q1
                  · exact absurd q1 hz9.2
                  · rw [show (M u).testBit z = true from q1] at hz9; exact absurd hz9.1.2 (by simp)
            exact K 10 0 true (by omega) ⟨fun _ y hy => by omega, fun _ => rfl⟩
          · by_cases e : u = v
            · subst e; exact absurd q (fun z => hb (by rw [show R.testBit u = true from z]; decide))
            · exact hJ u (by omega) q
      exact G 10 0 (by omega) (fun u hu => by omega)
  exact H 10 S gSz_bd hS Iff.rfl
theorem X9_flood_s {Q : Qt} {r : Ly} {X : HX} {Y : HY} {M : Nat → Nat} {S a : Nat} (hN : NV X M) (hS : S < 1024) (ha : Bs S a) (k : ∀ R, R < 1024 → (∀ v, Bs R v ↔ gRch (Eo M) (Bs S) a v) → Q (.inl (some (.int (nI R)))) (LX9 ++ r) X Y) : tX9_flood [.ref 0, .int (nI a), .int (nI S)] (LX9 ++ r) X Y Q := by
  have ha10 := bs10 hS ha
  apply tX9_flood_i
  have H : ∀ n R W, 10 ≤ gSz (Bs W) 10 + n → R < 1024 → W < 1024 → Bs R a → (∀ v, Bs W v → Bs R v) → (∀ v, Bs R v → gRch (Eo M) (Bs S) a v) → (∀ v, Bs W v → ∀ u, Eo M v u → Bs S u → Bs R u) → hX9_flood_7 Q r (nI S) (nI R) (nI W) X Y := by
    have fin : ∀ R, R < 1024 → Bs R a → (∀ v, Bs R v → gRch (Eo M) (Bs S) a v) → (∀ v, Bs R v → ∀ u, Eo M v u → Bs S u → Bs R u) → Q (.inl (some (.int (nI R)))) (LX9 ++ r) X Y := fun R hR h0 h1 h2 => k R hR (fun v => ⟨h1 v, fun h => h (Bs R) h0 (fun x y hx _ hy e => h2 x hx y e hy)⟩)
    have stepG : ∀ R W, R < 1024 → W < 1024 → Bs R a → (∀ v, Bs R v → gRch (Eo M) (Bs S) a v) → (∀ R', R' < 1024 → (∀ v, Bs R v → Bs R' v) → (∀ v, Bs R' v → gRch (Eo M) (Bs S) a v) → (∀ v, Bs R v → ∀ u, Eo M v u → Bs S u → Bs R' u) → hX9_flood_7 Q r (nI S) (nI R') (nI R) X Y) → hX9_flood_19 Q r (nI S) (nI R) (nI R) (nI 0) X Y := by
      intro R W hR hW h0 h1 hk
      have G : ∀ m v G', v + m = 10 → G' < 1024 → (∀ v, Bs R v → Bs G' v) → (∀ v, Bs G' v → gRch (Eo M) (Bs S) a v) → (∀ x, x < v → Bs R x → ∀ u, Eo M x u → Bs S u → Bs G' u) → hX9_flood_19 Q r (nI S) (nI G') (nI R) (nI v) X Y := by
        intro m
        induction m with
        | zero =>
          intro v G' hv hG' g1 g2 g3
          apply hX9_flood_19_i
          simp (disch := omega) only [m_0, m_L0, m_lt, m_le, m_eq, m_neg, m_in, m_clamp, m_add, m_sub, m_pred, m_mul, m_l, m_i, m_Land, m_Lor, m_and, m_or, m_xor, m_Landn, m_andn, m_LshlP, m_shl, m_LbitP, m_bit, m_cmp0P, m_Lb0, m_Lb1, m_b0, m_b1, Nat.one_mul]
          exact ⟨fun _ => hk G' hG' g1 g2 (fun x hx => g3 x (by have := bs10 hR hx; omega) hx), fun h => by omega⟩
        | succ m ihm =>
          intro v G' hv hG' g1 g2 g3
          have hv10 : v < 10 := by omega
          have hMS : M v &&& S < 1024 := and10 (hN v hv10).2
          apply hX9_flood_19_i
          simp (disch := omega) only [m_0, m_L0, m_lt, m_le, m_eq, m_neg, m_in, m_clamp, m_add, m_sub, m_pred, m_mul, m_l, m_i, m_Land, m_Lor, m_and, m_or, m_xor, m_Landn, m_andn, m_LshlP, m_shl, m_LbitP, m_bit, m_cmp0P, m_Lb0, m_Lb1, m_b0, m_b1, Nat.one_mul, (hN v hv10).1]
          have bo : ∀ u, Bs (G' ||| (M v &&& S)) u ↔ Bs G' u ∨ (Eo M v u ∧ Bs S u) := fun u => by
            show (G' ||| (M v &&& S)).testBit u = true ↔ _
            rw [Nat.testBit_or, Nat.testBit_and, Bool.or_eq_true, Bool.and_eq_true]; rfl
          refine ⟨fun h => by omega, fun _ => ⟨fun hb => ihm (v + 1) G' (by omega) hG' g1 g2 (fun x hx hxR => ?_), fun hb => ⟨hv10, ihm (v + 1) _ (by omega) (Nat.or_lt_two_pow (n := 10) hG' hMS) (fun x hx => (bo x).mpr (Or.inl (g1 x hx))) (fun x hx => ?_) (fun x hx hxR u e hu => ?_)⟩⟩⟩
          · by_cases e : x = v
            · subst e; exact absurd hxR hb
            · exact g3 x (by omega) hxR
          · rcases (bo x).mp hx with q | q
            · exact g2 x q
            · have hvR : Bs R v := Classical.not_not.mp hb
              exact (h1 v hvR).step (gRch.mem ha (h1 v hvR)) q.2 q.1
          · by_cases e2 : x = v
            · subst e2; exact (bo u).mpr (Or.inr ⟨e, hu⟩)
            · exact (bo u).mpr (Or.inl (g3 x (by omega) hxR u e hu))
      exact G 10 0 R (by omega) hR (fun _ q => q) h1 (fun x hx => by omega)
    intro n
    induction n with
    | zero =>
      intro R W hn hR hW h0 hWR h1 h2
      apply hX9_flood_7_i
      simp (disch := omega) only [m_0, m_L0, m_lt, m_le, m_eq, m_neg, m_in, m_clamp, m_add, m_sub, m_pred, m_mul, m_l, m_i, m_Land, m_Lor, m_and, m_or, m_xor, m_Landn, m_andn, m_LshlP, m_shl, m_LbitP, m_bit, m_cmp0P, m_Lb0, m_Lb1, m_b0, m_b1, Nat.one_mul]
      have eRW : R = W := by
        apply Nat.eq_of_testBit_eq; intro i
        by_cases hi : i < 10
        · have : Bs W i := gSz_full (n := 10) (by omega) i hi
          rw [show W.testBit i = true from this, show R.testBit i = true from hWR i this]
        · rw [Nat.testBit_lt_two_pow (Nat.lt_of_lt_of_le hR (Nat.pow_le_pow_right (n := 2) (by omega) (by omega : 10 ≤ i))), Nat.testBit_lt_two_pow (Nat.lt_of_lt_of_le hW (Nat.pow_le_pow_right (n := 2) (by omega) (by omega : 10 ≤ i)))]
      exact ⟨fun _ => fin R hR h0 h1 (fun v hv => h2 v (eRW ▸ hv)), fun h => absurd eRW h⟩
    | succ n ih =>
      intro R W hn hR hW h0 hWR h1 h2
      apply hX9_flood_7_i
      simp (disch := omega) only [m_0, m_L0, m_lt, m_le, m_eq, m_neg, m_in, m_clamp, m_add, m_sub, m_pred, m_mul, m_l, m_i, m_Land, m_Lor, m_and, m_or, m_xor, m_Landn, m_andn, m_LshlP, m_shl, m_LbitP, m_bit, m_cmp0P, m_Lb0, m_Lb1, m_b0, m_b1, Nat.one_mul]
      refine ⟨fun e => fin R hR h0 h1 (fun v hv => h2 v (e ▸ hv)), fun hne => stepG R W hR hW h0 h1 (fun R' hR' g1 g2 g3 => ih R' R ?_ hR' hR (g1 a h0) g1 g2 g3)⟩
      have : ∃ i, Bs R i ∧ ¬ Bs W i := Classical.byContradiction fun q => hne (by
        apply Nat.eq_of_testBit_eq; intro i
        cases h : R.testBit i <;> cases h2 : W.testBit i
        · rfl
        · have := hWR i h2; rw [show R.testBit i = true from this] at h; cases h
        · exact absurd ⟨i, h, by rw [Bs, h2]; simp⟩ q
        · rfl)
      obtain ⟨i, q1, q2⟩ := this
      have := gSz_lt (n := 10) hWR (bs10 hR q1) q1 q2
      omega
  simp (disch := omega) only [m_0, m_L0, m_lt, m_le, m_eq, m_neg, m_in, m_clamp, m_add, m_sub, m_pred, m_mul, m_l, m_i, m_Land, m_Lor, m_and, m_or, m_xor, m_Landn, m_andn, m_LshlP, m_shl, m_LbitP, m_bit, m_cmp0P, m_Lb0, m_Lb1, m_b0, m_b1, Nat.one_mul]
  have ba : ∀ v, Bs (2 ^ a) v ↔ v = a := fun v => by
    show (2 ^ a).testBit v = true ↔ _
    rw [Nat.testBit_two_pow, decide_eq_true_eq]; exact eq_comm
  exact H 10 _ 0 (by omega) (Nat.pow_lt_pow_right (a := 2) (n := 10) (by omega) (by omega)) (by omega) ((ba a).mpr rfl) (fun v q => by simp [Bs] at q) (fun v q => by rw [(ba v).mp q]; exact gRch.refl) (fun v q => by simp [Bs] at q)
theorem X9_floods_s {Q : Qt} {r : Ly} {X : HX} {Y : HY} {M : Nat → Nat} {S : Nat} (hN : NV X M) (hS : S < 1024) (k : ∀ X', (∀ c, c ≠ 8 → X' c = X c) → (∀ a, Bs S a → ∀ b, b < 10 → ∃ m, m < 1024 ∧ X' 8 (10 * a + b) = nI m ∧ wyP M S a b m) → Q (.inl none) (LX9 ++ r) X' Y) : tX9_floods [.ref 0, .int (nI S)] (LX9 ++ r) X Y Q := by
  apply tX9_floods_i
  have H : ∀ n a X', a + n = 10 → (∀ c, c ≠ 8 → X' c = X c) → (∀ a', a' < a → Bs S a' → ∀ b, b < 10 → ∃ m, m < 1024 ∧ X' 8 (10 * a' + b) = nI m ∧ wyP M S a' b m) → hX9_floods_2 Q r (nI S) (nI a) X' Y := by
    intro n
    induction n with
    | zero =>
      intro a X' ha h1 h2
      apply hX9_floods_2_i
      simp (disch := omega) only [m_0, m_L0, m_lt, m_le, m_eq, m_neg, m_in, m_clamp, m_add, m_sub, m_pred, m_mul, m_l, m_i, m_Land, m_Lor, m_and, m_or, m_xor, m_Landn, m_andn, m_LshlP, m_shl, m_LbitP, m_bit, m_cmp0P, m_Lb0, m_Lb1, m_b0, m_b1, Nat.one_mul]
      exact ⟨fun _ => k X' h1 (fun a' q b hb => h2 a' (by have := bs10 hS q; omega) q b hb), fun h => by omega⟩
    | succ n ih =>
      intro a X' ha h1 h2
      have ha10 : a < 10 := by omega
      have hX7 : X' 7 = X 7 := h1 7 (by omega)
      apply hX9_floods_2_i
      simp (disch := omega) only [m_0, m_L0, m_lt, m_le, m_eq, m_neg, m_in, m_clamp, m_add, m_sub, m_pred, m_mul, m_l, m_i, m_Land, m_Lor, m_and, m_or, m_xor, m_Landn, m_andn, m_LshlP, m_shl, m_LbitP, m_bit, m_cmp0P, m_Lb0, m_Lb1, m_b0, m_b1, Nat.one_mul, hX7, (hN a ha10).1]
      refine ⟨fun h => by omega, fun _ => ⟨fun hb => ⟨ha10, ?_⟩, fun hb => ih _ _ (by omega) h1 (fun a' q1 q2 v hv => ?_)⟩⟩
      · have haS : Bs S a := nz_nz hb
        have bA : ∀ v, Bs (nAn (nAn S (M a)) (2 ^ a)) v ↔ gAv (Eo M) (Bs S) a v := fun v => by
          show (nAn (nAn S (M a)) (2 ^ a)).testBit v = true ↔ _
          rw [nAn_bit, nAn_bit, Nat.testBit_two_pow]
          simp only [Bool.and_eq_true, Bool.not_eq_true', decide_eq_false_iff_not, gAv, Bs, Eo, Bool.not_eq_true, ne_eq]
          exact ⟨fun q => ⟨q.1.1, fun z => q.2 z.symm, q.1.2⟩, fun q => ⟨⟨q.1, q.2.2⟩, fun z => q.2.1 z.symm⟩⟩
        have hA : nAn (nAn S (M a)) (2 ^ a) < 1024 := Nat.lt_of_le_of_lt (Nat.le_trans (nAn_le _ _) (nAn_le _ _)) hS
        revert bA hA
        generalize nAn (nAn S (M a)) (2 ^ a) = A
        intro bA hA
        have eA : Bs A = gAv (Eo M) (Bs S) a := funext fun v => propext (bA v)
        have G : ∀ m b X2, b + m = 10 → (∀ c, c ≠ 8 → X2 c = X c) → (∀ a', a' < a → Bs S a' → ∀ b, b < 10 → ∃ m, m < 1024 ∧ X2 8 (10 * a' + b) = nI m ∧ wyP M S a' b m) → (∀ v, v < b → ∃ m, m < 1024 ∧ X2 8 (10 * a + v) = nI m ∧ wyP M S a v m) → hX9_floods_39 Q r (nI S) (nI a) (nI A) (nI b) X2 Y := by
          intro m
          induction m with
          | zero =>
            intro b X2 hb g1 g2 g3
            apply hX9_floods_39_i
            simp (disch := omega) only [m_0, m_L0, m_lt, m_le, m_eq, m_neg, m_in, m_clamp, m_add, m_sub, m_pred, m_mul, m_l, m_i, m_Land, m_Lor, m_and, m_or, m_xor, m_Landn, m_andn, m_LshlP, m_shl, m_LbitP, m_bit, m_cmp0P, m_Lb0, m_Lb1, m_b0, m_b1, Nat.one_mul]
            refine ⟨fun _ => ih _ _ (by omega) g1 (fun a' q1 q2 v hv => ?_), fun h => by omega⟩
            by_cases e : a' = a
            · subst e; exact g3 v (by omega)
            · exact g2 a' (by omega) q2 v hv
          | succ m ihm =>
            intro b X2 hb g1 g2 g3
            have hb10 : b < 10 := by omega
            have put : ∀ t, t < 1024 → wyP M S a b t → hX9_floods_39 Q r (nI S) (nI a) (nI A) (nI (b + 1)) (up2 X2 8 (10 * a + b) (nI t)) Y := by
              intro t ht hw
              refine ihm (b + 1) _ (by omega) (fun c hc => ?_) (fun a' q1 q2 v hv => ?_) (fun v hv => ?_)
              · funext i; simp only [up2, hc, if_false]; rw [g1 c hc]
              · have : ¬ 10 * a' + v = 10 * a + b := by omega
                simp only [up2, if_true, this, if_false]
                exact g2 a' q1 q2 v hv
              · by_cases e : v = b
                · subst e; exact ⟨t, ht, by simp [up2], hw⟩
                · have : ¬ 10 * a + v = 10 * a + b := by omega
                  simp only [up2, if_true, this, if_false]
                  exact g3 v (by omega)
            apply hX9_floods_39_i
            simp (disch := omega) only [m_0, m_L0, m_lt, m_le, m_eq, m_neg, m_in, m_clamp, m_add, m_sub, m_pred, m_mul, m_l, m_i, m_Land, m_Lor, m_and, m_or, m_xor, m_Landn, m_andn, m_LshlP, m_shl, m_LbitP, m_bit, m_cmp0P, m_Lb0, m_Lb1, m_b0, m_b1, Nat.one_mul]
            refine ⟨fun h => by omega, fun _ => ⟨fun hbA => ⟨by omega, ?_⟩, fun hbA => ?_⟩⟩
            · refine put 0 (by omega) ⟨by omega, fun u => ⟨fun z => by simp [Bs] at z, fun z => absurd ((bA b).mpr z.1) hbA⟩⟩
            · have hbA2 : Bs A b := Classical.not_not.mp hbA
              have hN2 : NV X2 M := fun i hi => by rw [g1 7 (by omega)]; exact hN i hi
              refine X9_flood_s hN2 hA hbA2 (fun R hR bR => cK1_mk ⟨by omega, put R hR ⟨by omega, fun u => ?_⟩⟩)
              rw [bR u, eA]
              exact ⟨fun z => ⟨(bA b).mp hbA2, z⟩, fun z => z.2⟩
        exact G 10 0 X' (by omega) h1 h2 (fun v hv => by omega)
      · by_cases e : a' = a
        · subst e; exact absurd (by rw [show S.testBit a' = true from q2]; decide) hb
        · exact h2 a' (by omega) q2 v hv
  exact H 10 0 X (by omega) (fun _ _ => rfl) (fun a' h => by omega)
theorem X9_met_s {Q : Qt} {r : Ly} {X : HX} {Y : HY} {M : Nat → Nat} {a b : Nat} (hN : NV X M) (ha : a < 10) (hb : b < 10) (k : ∀ z : Bool, (z = true ↔ Eo M a b) → Q (.inl (some (.int (nI z.toNat)))) (LX9 ++ r) X Y) : tX9_met [.ref 0, .int (nI a), .int (nI b)] (LX9 ++ r) X Y Q := by
  apply tX9_met_i
  have hMa := (hN a ha).2
  simp (disch := omega) only [m_0, m_L0, m_lt, m_le, m_eq, m_neg, m_in, m_clamp, m_add, m_sub, m_pred, m_mul, m_l, m_i, m_Land, m_Lor, m_and, m_or, m_xor, m_Landn, m_andn, m_LshlP, m_shl, m_LbitP, m_bit, m_cmp0P, m_Lb0, m_Lb1, m_b0, m_b1, Nat.one_mul, (hN a ha).1]
  exact ⟨ha, fun h => ⟨(by first | exact Or.inl rfl | exact Or.inr rfl | exact Or.inl trivial | exact Or.inr trivial), k false ⟨fun q => (by cases q), fun q => absurd q h⟩⟩, fun h => ⟨(by first | exact Or.inl rfl | exact Or.inr rfl | exact Or.inl trivial | exact Or.inr trivial), k true ⟨fun _ => Classical.not_not.mp h, fun _ => rfl⟩⟩⟩
/-- the ways that floods leaves -/
def FV (X : HX) (M : Nat → Nat) (S : Nat) : Prop := ∀ a, Bs S a → ∀ b, b < 10 → ∃ m, m < 1024 ∧ X 8 (10 * a + b) = nI m ∧ wyP M S a b m
theorem X9_isThree_s {Q : Qt} {r : Ly} {X : HX} {Y : HY} {M : Nat → Nat} {S a b c : Nat} (hN : NV X M) (hG : GM 10 M) (hS : S < 1024) (hF : FV X M S) (ha : Bs S a) (hb : Bs S b) (hc : Bs S c) (hab : a ≠ b) (hac : a ≠ c) (hbc : b ≠ c) (k : ∀ z : Bool, (z = true ↔ th3 M S a b c) → Q (.inl (some (.int (nI z.toNat)))) (LX9 ++ r) X Y) : tX9_isThree [.ref 0, .int (nI a), .int (nI b), .int (nI c)] (LX9 ++ r) X Y Q := by
  have hs : ∀ a b, Eo M a b → Eo M b a := fun a b e => (hG a b e).2.2.2
  have a10 := bs10 hS ha
  have b10 := bs10 hS hb
  have c10 := bs10 hS hc
  have no : (Eo M a b ∨ Eo M a c ∨ Eo M b c) → ¬ th3 M S a b c := by
    intro h ht
    have h1 := ht.1.1.2.2
    have h2 := (gRch.mem ht.1.1 ht.1.2).2.2
    have h3 := (gRch.mem ht.2.1.1 ht.2.1.2).2.2
    rcases h with h | h | h
    · exact h1 h
    · exact h2 h
    · exact h3 h
  have kf : ¬ th3 M S a b c → Q (.inl (some (.int (nI 0)))) (LX9 ++ r) X Y := fun h => k false ⟨fun q => (by cases q), fun q => absurd q h⟩
  apply tX9_isThree_i
  refine X9_met_s hN a10 b10 (fun z hz => cK1_mk ⟨fun h => ⟨(by first | exact Or.inl rfl | exact Or.inr rfl | exact Or.inl trivial | exact Or.inr trivial), kf (no (Or.inl (hz.mp (by cases z; exact absurd rfl h; rfl))))⟩, fun h => ?_⟩)
  refine X9_met_s hN a10 c10 (fun z2 hz2 => cK1_mk ⟨fun h2 => ⟨(by first | exact Or.inl rfl | exact Or.inr rfl | exact Or.inl trivial | exact Or.inr trivial), kf (no (Or.inr (Or.inl (hz2.mp (by cases z2; exact absurd rfl h2; rfl)))))⟩, fun h2 => ?_⟩)
  refine X9_met_s hN b10 c10 (fun z3 hz3 => cK1_mk ⟨fun h3 => ?_, fun h3 => ⟨(by first | exact Or.inl rfl | exact Or.inr rfl | exact Or.inl trivial | exact Or.inr trivial), kf (no (Or.inr (Or.inr (hz3.mp (by cases z3; exact absurd rfl h3; rfl)))))⟩⟩)
  have n1 : ¬ Eo M a b := fun q => h (by rw [hz.mpr q]; decide)
  have n2 : ¬ Eo M a c := fun q => h2 (by rw [hz2.mpr q]; decide)
  have n3 : ¬ Eo M b c := fun q => by rw [hz3.mpr q] at h3; exact absurd h3 (by decide)
  obtain ⟨m1, l1, e1, w1⟩ := hF c hc a a10
  obtain ⟨m2, l2, e2, w2⟩ := hF b hb a a10
  obtain ⟨m3, l3, e3, w3⟩ := hF a ha b b10
  simp (disch := omega) only [m_0, m_L0, m_lt, m_le, m_eq, m_neg, m_in, m_clamp, m_add, m_sub, m_pred, m_mul, m_l, m_i, m_Land, m_Lor, m_and, m_or, m_xor, m_Landn, m_andn, m_LshlP, m_shl, m_LbitP, m_bit, m_cmp0P, m_Lb0, m_Lb1, m_b0, m_b1, Nat.one_mul, e1, e2, e3]
  refine ⟨by omega, fun q => ⟨(by first | exact Or.inl rfl | exact Or.inr rfl | exact Or.inl trivial | exact Or.inr trivial), kf (fun ht => q ((w1.2 b).mpr ht.2.2))⟩, fun q => ⟨by omega, fun q2 => ⟨(by first | exact Or.inl rfl | exact Or.inr rfl | exact Or.inl trivial | exact Or.inr trivial), kf (fun ht => q2 ((w2.2 c).mpr ht.2.1))⟩, fun q2 => ⟨by omega, fun q3 => ⟨(by first | exact Or.inl rfl | exact Or.inr rfl | exact Or.inl trivial | exact Or.inr trivial), kf (fun ht => q3 ((w3.2 c).mpr ht.1))⟩, fun q3 => ⟨(by first | exact Or.inl rfl | exact Or.inr rfl | exact Or.inl trivial | exact Or.inr trivial), k true ⟨fun _ => ?_, fun _ => rfl⟩⟩⟩⟩⟩
  exact ⟨(w3.2 c).mp (Classical.not_not.mp q3), (w2.2 c).mp (Classical.not_not.mp q2), (w1.2 b).mp (Classical.not_not.mp q)⟩
theorem X9_noThree_s {Q : Qt} {r : Ly} {X : HX} {Y : HY} {M : Nat → Nat} {S : Nat} (hN : NV X M) (hG : GM 10 M) (hS : S < 1024) (k : ∀ (b : Bool) X', (∀ c, c ≠ 8 → X' c = X c) → (b = true ↔ gAT (Eo M) (Bs S)) → Q (.inl (some (.int (nI b.toNat)))) (LX9 ++ r) X' Y) : tX9_noThree [.ref 0, .int (nI S)] (LX9 ++ r) X Y Q := by
  apply tX9_noThree_i
  refine X9_floods_s hN hS (fun X' f1 hF => cK0_mk ?_)
  have hN2 : NV X' M := fun i hi => by rw [f1 7 (by omega)]; exact hN i hi
  have H : ∀ n a, a + n = 10 → (∀ a' b c, a' < a → Bs S a' → Bs S b → a' < b → b < c → ¬ th3 M S a' b c) → hX9_noThree_7 Q r (nI S) (nI a) X' Y := by
    intro n
    induction n with
    | zero =>
      intro a ha hI
      apply hX9_noThree_7_i
      simp (disch := omega) only [m_0, m_L0, m_lt, m_le, m_eq, m_neg, m_in, m_clamp, m_add, m_sub, m_pred, m_mul, m_l, m_i, m_Land, m_Lor, m_and, m_or, m_xor, m_Landn, m_andn, m_LshlP, m_shl, m_LbitP, m_bit, m_cmp0P, m_Lb0, m_Lb1, m_b0, m_b1, Nat.one_mul]
      refine ⟨fun _ => ⟨(by first | exact Or.inl rfl | exact Or.inr rfl | exact Or.inl trivial | exact Or.inr trivial), k true X' f1 ⟨fun _ => (th3_at hG).mp (fun a' b c h1 h2 h3 h4 => hI a' b c (by have := bs10 hS h1; omega) h1 h2 h3 h4), fun _ => rfl⟩⟩, fun h => by omega⟩
    | succ n ih =>
      intro a ha hI
      apply hX9_noThree_7_i
      simp (disch := omega) only [m_0, m_L0, m_lt, m_le, m_eq, m_neg, m_in, m_clamp, m_add, m_sub, m_pred, m_mul, m_l, m_i, m_Land, m_Lor, m_and, m_or, m_xor, m_Landn, m_andn, m_LshlP, m_shl, m_LbitP, m_bit, m_cmp0P, m_Lb0, m_Lb1, m_b0, m_b1, Nat.one_mul]
      refine ⟨fun h => by omega, fun _ => ?_⟩
      have G : ∀ m b, b + m = 10 → a < b → (∀ b' c, b' < b → Bs S a → Bs S b' → a < b' → b' < c → ¬ th3 M S a b' c) → hX9_noThree_17 Q r (nI S) (nI a) (nI b) X' Y := by
        intro m
        induction m with
        | zero =>
          intro b hb hab hJ
          apply hX9_noThree_17_i
          simp (disch := omega) only [m_0, m_L0, m_lt, m_le, m_eq, m_neg, m_in, m_clamp, m_add, m_sub, m_pred, m_mul, m_l, m_i, m_Land, m_Lor, m_and, m_or, m_xor, m_Landn, m_andn, m_LshlP, m_shl, m_LbitP, m_bit, m_cmp0P, m_Lb0, m_Lb1, m_b0, m_b1, Nat.one_mul]
          refine ⟨fun _ => ih (a + 1) (by omega) (fun a' b' c q h1 h2 h3 h4 => ?_), fun h => by omega⟩
          by_cases e : a' = a
          · subst e; exact hJ b' c (by have := bs10 hS h2; omega) h1 h2 h3 h4
          · exact hI a' b' c (by omega) h1 h2 h3 h4
        | succ m ihm =>
          intro b hb hab hJ
          apply hX9_noThree_17_i
          simp (disch := omega) only [m_0, m_L0, m_lt, m_le, m_eq, m_neg, m_in, m_clamp, m_add, m_sub, m_pred, m_mul, m_l, m_i, m_Land, m_Lor, m_and, m_or, m_xor, m_Landn, m_andn, m_LshlP, m_shl, m_LbitP, m_bit, m_cmp0P, m_Lb0, m_Lb1, m_b0, m_b1, Nat.one_mul]
          refine ⟨fun h => by omega, fun _ => ?_⟩
          have K : ∀ p c, c + p = 10 → b < c → (∀ c', c' < c → Bs S a → Bs S b → b < c' → ¬ th3 M S a b c') → hX9_noThree_28 Q r (nI S) (nI a) (nI b) (nI c) X' Y := by
            intro p
            induction p with
            | zero =>
              intro c hc hbc hL
              apply hX9_noThree_28_i
              simp (disch := omega) only [m_0, m_L0, m_lt, m_le, m_eq, m_neg, m_in, m_clamp, m_add, m_sub, m_pred, m_mul, m_l, m_i, m_Land, m_Lor, m_and, m_or, m_xor, m_Landn, m_andn, m_LshlP, m_shl, m_LbitP, m_bit, m_cmp0P, m_Lb0, m_Lb1, m_b0, m_b1, Nat.one_mul]
              refine ⟨fun _ => ihm (b + 1) (by omega) (by omega) (fun b' c' q h0 h2 h3 h4 => ?_), fun h => by omega⟩
              by_cases e : b' = b
              · subst e
                intro ht
                exact hL c' (by have := bs10 hS (gRch.mem ht.1.1 ht.1.2).1; omega) h0 h2 h4 ht
              · exact hJ b' c' (by omega) h0 h2 h3 h4
            | succ p ihp =>
              intro c hc hbc hL
              have nxt : (Bs S a → Bs S b → Bs S c → ¬ th3 M S a b c) → hX9_noThree_28 Q r (nI S) (nI a) (nI b) (nI (c + 1)) X' Y := fun h => ihp (c + 1) (by omega) (by omega) (fun c' q h1 h2 h3 => by
                by_cases e : c' = c
                · subst e; intro ht; exact h h1 h2 (gRch.mem ht.1.1 ht.1.2).1 ht
                · exact hL c' (by omega) h1 h2 h3)
              apply hX9_noThree_28_i
              simp (disch := omega) only [m_0, m_L0, m_lt, m_le, m_eq, m_neg, m_in, m_clamp, m_add, m_sub, m_pred, m_mul, m_l, m_i, m_Land, m_Lor, m_and, m_or, m_xor, m_Landn, m_andn, m_LshlP, m_shl, m_LbitP, m_bit, m_cmp0P, m_Lb0, m_Lb1, m_b0, m_b1, Nat.one_mul]
              refine ⟨fun h => by omega, fun _ => ⟨fun q1 => ⟨fun _ => nxt (fun h1 _ _ _ => q1 h1), fun h => absurd trivial (by simpa using h)⟩, fun q1 => ⟨fun q2 => ⟨fun _ => nxt (fun _ h1 _ _ => q2 h1), fun h => absurd trivial (by simpa using h)⟩, fun q2 => ⟨fun q3 => ⟨fun _ => nxt (fun _ _ h1 _ => q3 h1), fun h => absurd trivial (by simpa using h)⟩, fun q3 => ⟨fun h => absurd h (by omega), fun _ => ?_⟩⟩⟩⟩⟩
              have hA := Classical.not_not.mp q1
              have hB := Classical.not_not.mp q2
              have hC := Classical.not_not.mp q3
              refine X9_isThree_s hN2 hG hS hF hA hB hC (by omega) (by omega) (by omega) (fun z hz => cK1_mk ⟨fun h => nxt (fun _ _ _ ht => by rw [hz.mpr ht] at h; exact absurd h (by decide)), fun h => ⟨(by first | exact Or.inl rfl | exact Or.inr rfl | exact Or.inl trivial | exact Or.inr trivial), k false X' f1 ⟨fun q => (by cases q), fun q => ?_⟩⟩⟩)
              have ht := hz.mp (by cases z; exact absurd rfl h; rfl)
              exact absurd ht ((th3_at hG).mpr q a b c hA hB hab hbc)
          exact K _ (b + 1) (Nat.add_sub_cancel' (by omega : b + 1 ≤ 10)) (by omega) (fun c' h1 _ _ h2 => by omega)
      exact G _ (a + 1) (Nat.add_sub_cancel' (by omega : a + 1 ≤ 10)) (by omega) (fun b' c h1 _ _ h2 => by omega)
  exact H 10 0 (by omega) (fun a' b c h => by omega)
theorem X9_canBe_s {Q : Qt} {r : Ly} {X : HX} {Y : HY} {M : Nat → Nat} {S : Nat} (hN : NV X M) (hG : GM 10 M) (hS : S < 1024) (k : ∀ (b : Bool) X', (∀ c, c ≠ 8 → X' c = X c) → (b = true ↔ cnB M S) → Q (.inl (some (.int (nI b.toNat)))) (LX9 ++ r) X' Y) : tX9_canBe [.ref 0, .int (nI S)] (LX9 ++ r) X Y Q := by
  apply tX9_canBe_i
  refine X9_noRing_s hN hG hS (fun b hb => cK1_mk ⟨fun h => ⟨(by first | exact Or.inl rfl | exact Or.inr rfl | exact Or.inl trivial | exact Or.inr trivial), k false X (fun _ _ => rfl) ⟨fun q => (by cases q), fun q => ?_⟩⟩, fun h => ?_⟩)
  · rw [hb.mpr q.1] at h; exact absurd h (by decide)
  · have h1 := hb.mp (by cases b; exact absurd rfl h; rfl)
    refine X9_noThree_s hN hG hS (fun b2 X' f1 hb2 => cK1_mk ⟨fun h2 => ⟨(by first | exact Or.inl rfl | exact Or.inr rfl | exact Or.inl trivial | exact Or.inr trivial), k false X' f1 ⟨fun q => (by cases q), fun q => ?_⟩⟩, fun h2 => ⟨(by first | exact Or.inl rfl | exact Or.inr rfl | exact Or.inl trivial | exact Or.inr trivial), k true X' f1 ⟨fun _ => ⟨h1, hb2.mp (by cases b2; exact absurd rfl h2; rfl)⟩, fun _ => rfl⟩⟩⟩)
    rw [hb2.mpr q.2] at h2; exact absurd h2 (by decide)
theorem X9_isRing_s {Q : Qt} {r : Ly} {X : HX} {Y : HY} {M : Nat → Nat} {S : Nat} (hN : NV X M) (hG : GM 10 M) (hS : S < 1024) (k : ∀ b : Bool, (b = true ↔ rgP M S) → Q (.inl (some (.int (nI b.toNat)))) (LX9 ++ r) X Y) : tX9_isRing [.ref 0, .int (nI S)] (LX9 ++ r) X Y Q := by
  have hs : ∀ a b, Eo M a b → Eo M b a := fun a b e => (hG a b e).2.2.2
  have hcS := cnt_le S
  apply tX9_isRing_i
  refine bc32 (by omega) (cK1_mk ?_)
  simp (disch := omega) only [m_0, m_L0, m_lt, m_le, m_eq, m_neg, m_in, m_clamp, m_add, m_sub, m_pred, m_mul, m_l, m_i, m_Land, m_Lor, m_and, m_or, m_xor, m_Landn, m_andn, m_LshlP, m_shl, m_LbitP, m_bit, m_cmp0P, m_Lb0, m_Lb1, m_b0, m_b1, Nat.one_mul]
  refine ⟨fun h4 => ?_, fun h4 => ⟨(by first | exact Or.inl rfl | exact Or.inr rfl | exact Or.inl trivial | exact Or.inr trivial), k false ⟨fun q => (by cases q), fun q => absurd q.1 h4⟩⟩⟩
  have hS0 : S ≠ 0 := fun q => by rw [q] at h4; exact absurd h4 (by decide +kernel)
  have H : ∀ n j o, j + n = 10 → (∀ v, v < j → Bs S v → cnt (M v &&& S) = 2) → (Bs S o ∨ ∀ v, v < j → ¬ Bs S v) → hX9_isRing_14 Q r (nI S) (nI o) (nI j) X Y := by
    intro n
    induction n with
    | zero =>
      intro j o hj hI ho
      apply hX9_isRing_14_i
      simp (disch := omega) only [m_0, m_L0, m_lt, m_le, m_eq, m_neg, m_in, m_clamp, m_add, m_sub, m_pred, m_mul, m_l, m_i, m_Land, m_Lor, m_and, m_or, m_xor, m_Landn, m_andn, m_LshlP, m_shl, m_LbitP, m_bit, m_cmp0P, m_Lb0, m_Lb1, m_b0, m_b1, Nat.one_mul]
      refine ⟨fun _ => ?_, fun h => by omega⟩
      have ho : Bs S o := ho.resolve_right (fun q => by
        obtain ⟨i, hi⟩ := ne0_bit hS0
        exact q i (by have := bs10 hS hi; omega) hi)
      refine X9_flood_s hN hS ho (fun R hR bR => cK1_mk ?_)
      have key : R = S ↔ gCon (Eo M) (Bs S) := by
        constructor
        · intro e a b ha hb
          have ha2 : Bs R a := e ▸ ha
          have hb2 : Bs R b := e ▸ hb
          exact (((bR a).mp ha2).symm hs).trans ((bR b).mp hb2)
        · intro hc
          apply Nat.eq_of_testBit_eq
          intro i
          have : R.testBit i = true ↔ S.testBit i = true := (bR i).trans ⟨fun q => gRch.mem ho q, fun q => hc o i ho q⟩
          cases h : R.testBit i <;> cases h2 : S.testBit i <;> simp [h, h2] at this <;> rfl
      simp (disch := omega) only [m_0, m_L0, m_lt, m_le, m_eq, m_neg, m_in, m_clamp, m_add, m_sub, m_pred, m_mul, m_l, m_i, m_Land, m_Lor, m_and, m_or, m_xor, m_Landn, m_andn, m_LshlP, m_shl, m_LbitP, m_bit, m_cmp0P, m_Lb0, m_Lb1, m_b0, m_b1, Nat.one_mul]
      rw [key]
      exact ⟨fun h => ⟨(by first | exact Or.inl rfl | exact Or.inr rfl | exact Or.inl trivial | exact Or.inr trivial), k false ⟨fun q => (by cases q), fun q => absurd q.2.2 h⟩⟩, fun h => ⟨(by first | exact Or.inl rfl | exact Or.inr rfl | exact Or.inl trivial | exact Or.inr trivial), k true ⟨fun _ => ⟨h4, fun v hv => hI v (by have := bs10 hS hv; omega) hv, Classical.not_not.mp h⟩, fun _ => rfl⟩⟩⟩
    | succ n ih =>
      intro j o hj hI ho
      have hj10 : j < 10 := by omega
      have hc := cnt_le (M j &&& S)
      have hMS := and10 (b := S) (hN j hj10).2
      apply hX9_isRing_14_i
      simp (disch := omega) only [m_0, m_L0, m_lt, m_le, m_eq, m_neg, m_in, m_clamp, m_add, m_sub, m_pred, m_mul, m_l, m_i, m_Land, m_Lor, m_and, m_or, m_xor, m_Landn, m_andn, m_LshlP, m_shl, m_LbitP, m_bit, m_cmp0P, m_Lb0, m_Lb1, m_b0, m_b1, Nat.one_mul, (hN j hj10).1]
      refine ⟨fun h => by omega, fun _ => ⟨fun hb => ⟨hj10, bc32 (by omega) (cK1_mk ?_)⟩, fun hb => ih (j + 1) o (by omega) (fun v hv q => ?_) ?_⟩⟩
      · simp (disch := omega) only [m_0, m_L0, m_lt, m_le, m_eq, m_neg, m_in, m_clamp, m_add, m_sub, m_pred, m_mul, m_l, m_i, m_Land, m_Lor, m_and, m_or, m_xor, m_Landn, m_andn, m_LshlP, m_shl, m_LbitP, m_bit, m_cmp0P, m_Lb0, m_Lb1, m_b0, m_b1, Nat.one_mul]
        refine ⟨fun h => ih (j + 1) j (by omega) (fun v hv q => ?_) (Or.inl (nz_nz hb)), fun h => ⟨(by first | exact Or.inl rfl | exact Or.inr rfl | exact Or.inl trivial | exact Or.inr trivial), k false ⟨fun q => (by cases q), fun q => absurd (q.2.1 j (nz_nz hb)) h⟩⟩⟩
        by_cases e : v = j
        · subst e; exact h
        · exact hI v (by omega) q
      · by_cases e : v = j
        · subst e; exact absurd (by rw [show S.testBit v = true from q]; decide) hb
        · exact hI v (by omega) q
      · refine ho.imp id (fun q v hv z => ?_)
        by_cases e : v = j
        · subst e; exact hb (by rw [show S.testBit v = true from z]; decide)
        · exact q v (by omega) z
  exact H 10 0 0 (by omega) (fun v h => by omega) (Or.inr (fun v h => by omega))
