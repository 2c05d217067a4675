/-! listed by the reference -/
/-- what falls apart without a, told by a least number for each part -/
def SpV (X : HX) (l : Ls) (a : Nat) : Prop := ∀ v, v < l.1 → (¬ gAv (Eo l.2) (lsS l) a v ∧ X 28 (60 * a + v) = -1) ∨ (gAv (Eo l.2) (lsS l) a v ∧ ∃ u, u < l.1 ∧ X 28 (60 * a + v) = nI u ∧ gAv (Eo l.2) (lsS l) a u ∧ gRch (Eo l.2) (gAv (Eo l.2) (lsS l) a) u v ∧ ∀ w, gAv (Eo l.2) (lsS l) a w → gRch (Eo l.2) (gAv (Eo l.2) (lsS l) a) w v → u ≤ w)
section Ltd9
variable {X X' : HX} {Y Y' : HY} {r : Ly} {Q : Qt} {l : Ls}
theorem X9_split_s {a : Nat} (hl : lsI l) (h260 : X 1 260 = nI l.1) (hr : ∀ i, i < 60 → Y 3 i = lN (l.2 i)) (ha : a < l.1) (k : ∀ X', (∀ c, c ≠ 28 → X' c = X c) → (∀ i, (i < 60 * a ∨ 60 * a + 60 ≤ i) → X' 28 i = X 28 i) → SpV X' l a → Q (.inl none) (LX9 ++ r) X' Y) : tX9_split [.ref 0, .int (nI a)] (LX9 ++ r) X Y Q := by
  obtain ⟨l60, lG, lB, lM⟩ := id hl
  have sy : ∀ a b, Eo l.2 a b → Eo l.2 b a := fun a b e => (lG a b e).2.2.2
  have T0 := Nat.two_pow_pos l.1
  have T60 : 2 ^ l.1 ≤ 2 ^ 60 := Nat.pow_le_pow_right (by omega) l60
  have T60' : (2 : Nat) ^ 60 = 1152921504606846976 := by decide
  have v0 : vp_in (nI 260) 262 := (m_in (by omega)).mpr (by omega)
  have c0 : (nI 260).toNatClampNeg = 260 := m_clamp (by omega)
  have lMa := lM a
  obtain ⟨V, hV⟩ : ∃ V, V = nAn (nAn (2 ^ l.1 - 1) (l.2 a)) (2 ^ a) := ⟨_, rfl⟩
  have Vlt : V < 2 ^ l.1 := by rw [hV]; exact Nat.lt_of_le_of_lt (nAn_le _ _) (Nat.lt_of_le_of_lt (nAn_le _ _) (by omega))
  have bV : ∀ v, Bs V v ↔ gAv (Eo l.2) (lsS l) a v := fun v => by
    rw [hV]
    show (nAn (nAn (2 ^ l.1 - 1) (l.2 a)) (2 ^ a)).testBit v = true ↔ lsS l v ∧ v ≠ a ∧ ¬ (l.2 a).testBit v = true
    rw [nAn_bit, nAn_bit, Nat.testBit_two_pow_sub_one, Nat.testBit_two_pow, Bool.and_eq_true, Bool.and_eq_true, Bool.not_eq_true', Bool.not_eq_true', decide_eq_true_eq, decide_eq_false_iff_not, lsS_b, Bool.not_eq_true]
    exact ⟨fun q => ⟨q.1.1, fun e => q.2 e.symm, q.1.2⟩, fun q => ⟨⟨q.1, q.2.2⟩, fun e => q.2.1 e.symm⟩⟩
  have fV : Bs V = gAv (Eo l.2) (lsS l) a := funext fun v => propext (bV v)
  apply tX9_split_i
  rw [c0, h260, m_clamp (show a < 2147483648 by omega), hr a (by omega), show ((((lN 1) <<< ((nI l.1).toInt64 &&& 63)) - (lN 1)) &&& ((lN (l.2 a)) ^^^ (-1 : Int64))) &&& (((lN 1) <<< ((nI a).toInt64 &&& 63)) ^^^ (-1 : Int64)) = lN V by rw [hV]; simp (disch := omega) only [m_0, m_L0, m_lt, m_le, m_eq, m_neg, m_in, m_clamp, m_add, m_sub, m_pred, m_mul, m_l, m_i, m_Land, m_Lor, m_and, m_or, m_xor, m_Landn, m_andn, m_LshlP, m_shl, m_LbitP, m_bit, m_cmp0P, m_Lb0, m_Lb1, m_b0, m_b1, Nat.one_mul, m_Lsub]]
  refine ⟨v0, (m_in (by omega)).mpr (by omega), ?_⟩
  -- the labels of those ahead of i
  have H70 : ∀ m i X2, i + m = l.1 → (∀ c, c ≠ 28 → X2 c = X c) → (∀ i, (i < 60 * a ∨ 60 * a + 60 ≤ i) → X2 28 i = X 28 i) → (∀ v, v < l.1 → (¬ Bs V v → X2 28 (60 * a + v) = -1) ∧ (Bs V v → (X2 28 (60 * a + v) = -1 ∧ ∀ u, u < i → Bs V u → ¬ gRch (Eo l.2) (Bs V) u v) ∨ ∃ u, u < i ∧ X2 28 (60 * a + v) = nI u ∧ Bs V u ∧ gRch (Eo l.2) (Bs V) u v ∧ ∀ w, Bs V w → gRch (Eo l.2) (Bs V) w v → u ≤ w)) → hX9_split_70 Q r (nI a) (lN V) (nI i) X2 Y := by
    intro m
    induction m with
    | zero =>
      intro i X2 hi f g hI
      apply hX9_split_70_i
      rw [c0, f 1 (by omega), h260, m_le (by omega) (by omega)]
      refine ⟨v0, fun _ => k X2 f g (fun v hv => ?_), fun y => absurd (by omega) y⟩
      obtain ⟨q1, q2⟩ := hI v hv
      rw [← fV]
      by_cases b : Bs V v
      · right
        refine ⟨b, ?_⟩
        rcases q2 b with ⟨-, n⟩ | ⟨u, u1, u2, u3, u4, u5⟩
        · exact absurd gRch.refl (n v (by omega) b)
        · exact ⟨u, by omega, u2, u3, u4, u5⟩
      · exact Or.inl ⟨b, q1 b⟩
    | succ m ih =>
      intro i X2 hi f g hI
      have i60 : i < 60 := by omega
      apply hX9_split_70_i
      rw [c0, f 1 (by omega), h260, m_le (by omega) (by omega), m_mul, m_add (60 * a) i, m_add i 1, m_clamp (by omega), m_l (show i < 2147483648 by omega), m_LbitP (show V < 9223372036854775808 by omega) (by omega), m_cmp0]
      have eb : lN (nB V i) = lN 0 ↔ V.testBit i = false := m_Lb0
      rw [eb]
      have nx : (Bs V i → ∃ u, u < i ∧ Bs V u ∧ gRch (Eo l.2) (Bs V) u i) → hX9_split_70 Q r (nI a) (lN V) (nI (i + 1)) X2 Y := fun hq => ih (i + 1) X2 (by omega) f g (fun v hv => ⟨(hI v hv).1, fun b => by
        rcases (hI v hv).2 b with ⟨q1, q2⟩ | ⟨u, u1, u2⟩
        · refine Or.inl ⟨q1, fun u hu bu rc => ?_⟩
          by_cases e : u = i
          · subst e
            obtain ⟨w, w1, w2, w3⟩ := hq bu
            exact q2 w w1 w2 (w3.trans rc)
          · exact q2 u (by omega) bu rc
        · exact Or.inr ⟨u, by omega, u2⟩⟩)
      refine ⟨v0, fun y => absurd y (by omega), fun _ => ⟨fun nb => nx (fun y => absurd (show V.testBit i = true from y) (by rw [nb]; simp)), fun nb => ⟨(m_in (by omega)).mpr (by omega), fun e1 => ?_, fun e1 => nx (fun y => ?_)⟩⟩⟩
      · have bi : Bs V i := by
          show V.testBit i = true
          cases w : V.testBit i
          · exact absurd w nb
          · rfl
        have n1 : ∀ u, u < i → Bs V u → ¬ gRch (Eo l.2) (Bs V) u i := by
          rcases (hI i (by omega)).2 bi with ⟨-, q⟩ | ⟨u, u1, u2, -⟩
          · exact q
          · rw [u2] at e1; exact absurd e1 (nI_m1 (by omega))
        -- its part is known: told to all in it
        have H188 : ∀ t v X3 F, v + t = l.1 → F < 2 ^ l.1 → (∀ x, Bs F x ↔ Bs V x ∧ gRch (Eo l.2) (Bs V) i x) → (∀ c, c ≠ 28 → X3 c = X c) → (∀ i, (i < 60 * a ∨ 60 * a + 60 ≤ i) → X3 28 i = X 28 i) → (∀ x, x < l.1 → X3 28 (60 * a + x) = if x < v ∧ F.testBit x = true then nI i else X2 28 (60 * a + x)) → hX9_split_188 Q r (nI a) (lN V) (nI i) (lN F) (nI v) X3 Y := by
          intro t
          induction t with
          | zero =>
            intro v X3 F hv hF bF f3 g3 h3
            apply hX9_split_188_i
            rw [c0, f3 1 (by omega), h260, m_le (by omega) (by omega), m_add]
            refine ⟨v0, fun _ => ih (i + 1) X3 (by omega) f3 g3 (fun x hx => ?_), fun y => absurd (by omega) y⟩
            rw [h3 x hx]
            by_cases bx : F.testBit x = true
            · have q := (bF x).mp bx
              rw [if_pos ⟨by omega, bx⟩]
              refine ⟨fun y => absurd q.1 y, fun _ => Or.inr ⟨i, by omega, rfl, bi, q.2, fun w bw rw' => ?_⟩⟩
              refine Nat.le_of_not_lt (fun z => n1 w z bw (rw'.trans (q.2.symm sy)))
            · rw [if_neg (fun y => bx y.2)]
              refine ⟨(hI x hx).1, fun b => ?_⟩
              rcases (hI x hx).2 b with ⟨q1, q2⟩ | ⟨u, u1, u2⟩
              · refine Or.inl ⟨q1, fun u hu bu rc => ?_⟩
                by_cases e : u = i
                · subst e; exact bx ((bF x).mpr ⟨b, rc⟩)
                · exact q2 u (by omega) bu rc
              · exact Or.inr ⟨u, by omega, u2⟩
          | succ t iht =>
            intro v X3 F hv hF bF f3 g3 h3
            apply hX9_split_188_i
            rw [c0, f3 1 (by omega), h260, m_le (by omega) (by omega), m_mul, m_add (60 * a) v, m_add v 1, m_clamp (by omega), m_l (show v < 2147483648 by omega), m_LbitP (show F < 9223372036854775808 by omega) (by omega), m_cmp0]
            have ebv : lN (nB F v) = lN 1 ↔ F.testBit v = true := m_Lb1
            rw [ebv]
            refine ⟨v0, fun y => absurd y (by omega), fun _ => ⟨fun nbv => iht (v + 1) X3 F (by omega) hF bF f3 g3 (fun x hx => ?_), fun nbv => ⟨(m_in (by omega)).mpr (by omega), iht (v + 1) _ F (by omega) hF bF (fun c hc => by rw [up2_row hc]; exact f3 c hc) (fun i hi => by rw [up2_nx (by omega)]; exact g3 i hi) (fun x hx => ?_)⟩⟩⟩
            · rw [h3 x hx]
              by_cases e : x = v
              · subst e; rw [if_neg (fun y => nbv y.2), if_neg (fun y => nbv y.2)]
              · by_cases y : x < v ∧ F.testBit x = true
                · rw [if_pos y, if_pos ⟨by omega, y.2⟩]
                · rw [if_neg y, if_neg (fun z => y ⟨by omega, z.2⟩)]
            · rw [up2_at]
              by_cases e : x = v
              · subst e; rw [if_pos rfl, if_pos ⟨by omega, Classical.not_not.mp nbv⟩]
              · rw [if_neg (by omega), h3 x hx]
                by_cases y : x < v ∧ F.testBit x = true
                · rw [if_pos y, if_pos ⟨by omega, y.2⟩]
                · rw [if_neg y, if_neg (fun z => y ⟨by omega, z.2⟩)]
        -- the flood
        have H122 : ∀ t F P, 61 ≤ t + gSz (Bs P) 60 → F < 2 ^ l.1 → P < 2 ^ l.1 → (∀ x, Bs F x → Bs V x ∧ gRch (Eo l.2) (Bs V) i x) → Bs F i → (∀ x, Bs P x → Bs F x) → (∀ x y, Bs P x → Bs V y → Eo l.2 x y → Bs F y) → hX9_split_122 Q r (nI a) (lN V) (nI i) (lN F) (lN P) X2 Y := by
          intro t
          induction t with
          | zero =>
            intro F P hP hF hP2 _ _ _ _
            have := gSz_bd (P := Bs P) (n := 60); omega
          | succ t iht =>
            intro F P hP hF hP2 q1 q2 q3 q4
            apply hX9_split_122_i
            rw [m_cmp0, m_Leq (by omega) (by omega)]
            refine ⟨fun e => ?_, fun e => ?_⟩
            · subst e
              refine H188 l.1 0 X2 F (by omega) hF (fun x => ⟨q1 x, fun y => ?_⟩) f g (fun x hx => by rw [if_neg (fun y => by omega)])
              exact y.2 (Bs F) q2 (fun x w tx _ pw e => q4 x w tx pw e)
            · have grow : gSz (Bs P) 60 < gSz (Bs F) 60 := by
                have : ∃ x, Bs F x ∧ ¬ Bs P x := Classical.byContradiction fun y => e (Nat.eq_of_testBit_eq fun x => by
                  refine Bool.eq_iff_iff.mpr ⟨fun z => Classical.byContradiction fun w => y ⟨x, z, w⟩, fun z => q3 x z⟩)
                obtain ⟨x, x1, x2⟩ := this
                exact gSz_lt q3 (by have := bit_lt hF x1; omega) x1 x2
              have G : ∀ u v F2, v + u = l.1 → F2 < 2 ^ l.1 → (∀ x, Bs F x → Bs F2 x) → (∀ x, Bs F2 x → Bs V x ∧ gRch (Eo l.2) (Bs V) i x) → (∀ x y, x < v → Bs F x → Bs V y → Eo l.2 x y → Bs F2 y) → hX9_split_137 Q r (nI a) (lN V) (nI i) (lN F2) (lN F) (nI v) X2 Y := by
                intro u
                induction u with
                | zero =>
                  intro v F2 hv hF2 w1 w2 w3
                  apply hX9_split_137_i
                  rw [c0, f 1 (by omega), h260, m_le (by omega) (by omega)]
                  exact ⟨v0, fun _ => iht F2 F (by omega) hF2 hF w2 (w1 i q2) w1 (fun x y bx => w3 x y (by have := bit_lt hF bx; omega) bx), fun y => absurd (by omega) y⟩
                | succ u ihu =>
                  intro v F2 hv hF2 w1 w2 w3
                  apply hX9_split_137_i
                  rw [c0, f 1 (by omega), h260, m_le (by omega) (by omega), m_add v 1, m_clamp (show v < 2147483648 by omega), hr v (by omega), m_Land, m_Lor, m_l (show v < 2147483648 by omega), m_LbitP (show F < 9223372036854775808 by omega) (by omega), m_cmp0]
                  have ebv : lN (nB F v) = lN 1 ↔ F.testBit v = true := m_Lb1
                  rw [ebv]
                  have bo : ∀ x, Bs (F2 ||| l.2 v &&& V) x ↔ Bs F2 x ∨ (Eo l.2 v x ∧ Bs V x) := fun x => by
                    show (F2 ||| l.2 v &&& V).testBit x = true ↔ _
                    rw [Nat.testBit_or, Nat.testBit_and, Bool.or_eq_true, Bool.and_eq_true]; exact Iff.rfl
                  refine ⟨v0, fun y => absurd y (by omega), fun _ => ⟨fun nbv => ihu (v + 1) F2 (by omega) hF2 w1 w2 (fun x y hx bx => ?_), fun nbv => ⟨(m_in (by omega)).mpr (by omega), ?_⟩⟩⟩
                  · have : x ≠ v := fun e => nbv (e ▸ bx)
                    exact w3 x y (by omega) bx
                  · have bv : Bs F v := Classical.not_not.mp nbv
                    have qv := q1 v bv
                    refine ihu (v + 1) _ (by omega) (Nat.or_lt_two_pow hF2 (Nat.lt_of_le_of_lt Nat.and_le_right Vlt)) (fun x bx => (bo x).mpr (Or.inl (w1 x bx))) (fun x bx => ?_) (fun x y hx bx by' e => ?_)
                    · rcases (bo x).mp bx with z | z
                      · exact w2 x z
                      · exact ⟨z.2, qv.2.step qv.1 z.2 z.1⟩
                    · by_cases ex : x = v
                      · subst ex; exact (bo y).mpr (Or.inr ⟨e, by'⟩)
                      · exact (bo y).mpr (Or.inl (w3 x y (by omega) bx by' e))
              exact G l.1 0 F (by omega) hF (fun _ z => z) q1 (fun x y hx => by omega)
        have e2 : (lN 1) <<< (lN i &&& 63) = lN (2 ^ i) := by simp (disch := omega) only [m_0, m_L0, m_lt, m_le, m_eq, m_neg, m_in, m_clamp, m_add, m_sub, m_pred, m_mul, m_l, m_i, m_Land, m_Lor, m_and, m_or, m_xor, m_Landn, m_andn, m_LshlP, m_shl, m_LbitP, m_bit, m_cmp0P, m_Lb0, m_Lb1, m_b0, m_b1, Nat.one_mul]
        have bi2 : ∀ x, Bs (2 ^ i) x ↔ x = i := fun x => by
          show (2 ^ i).testBit x = true ↔ _
          rw [Nat.testBit_two_pow, decide_eq_true_eq]
          exact ⟨Eq.symm, Eq.symm⟩
        rw [e2]
        refine H122 61 (2 ^ i) 0 (by omega) (Nat.pow_lt_pow_right (by omega) (by omega)) T0 (fun x hx => by rw [(bi2 x).mp hx]; exact ⟨bi, gRch.refl⟩) ((bi2 i).mpr rfl) (fun x hx => by simp [Bs] at hx) (fun x y hx => by simp [Bs] at hx)
      · rcases (hI i (by omega)).2 y with ⟨q1, q2⟩ | ⟨u, u1, u2, u3, u4, u5⟩
        · exact absurd q1 e1
        · exact ⟨u, u1, u3, u4⟩
  -- at first nothing is known
  have H35 : ∀ m i X2, i + m = l.1 → (∀ c, c ≠ 28 → X2 c = X c) → (∀ i, (i < 60 * a ∨ 60 * a + 60 ≤ i) → X2 28 i = X 28 i) → (∀ v, v < i → X2 28 (60 * a + v) = -1) → hX9_split_35 Q r (nI a) (lN V) (nI i) X2 Y := by
    intro m
    induction m with
    | zero =>
      intro i X2 hi f g hI
      apply hX9_split_35_i
      rw [c0, f 1 (by omega), h260, m_le (by omega) (by omega)]
      exact ⟨v0, fun _ => H70 l.1 0 X2 (by omega) f g (fun v hv => ⟨fun _ => hI v (by omega), fun _ => Or.inl ⟨hI v (by omega), fun u hu => by omega⟩⟩), fun y => absurd (by omega) y⟩
    | succ m ih =>
      intro i X2 hi f g hI
      apply hX9_split_35_i
      rw [c0, f 1 (by omega), h260, m_le (by omega) (by omega), m_mul, m_add (60 * a) i, m_clamp (by omega), m_add i 1]
      refine ⟨v0, fun y => absurd y (by omega), fun _ => ⟨(m_in (by omega)).mpr (by omega), ih (i + 1) _ (by omega) (fun c hc => by rw [up2_row hc]; exact f c hc) (fun j hj => by rw [up2_nx (by omega)]; exact g j hj) (fun v hv => ?_)⟩⟩
      rw [up2_at]
      by_cases e : v = i
      · rw [if_pos (by omega)]
      · rw [if_neg (by omega)]; exact hI v (by omega)
  exact H35 l.1 0 X (by omega) (fun _ _ => rfl) (fun _ _ => rfl) (fun v hv => by omega)
theorem X9_together_s {c a b : Nat} (l60 : l.1 ≤ 60) (hc : c < l.1) (ha : a < l.1) (hb : b < l.1) (sy : ∀ a b, Eo l.2 a b → Eo l.2 b a) (hs : SpV X l c) (k : ∀ z : Bool, (z = true ↔ gAv (Eo l.2) (lsS l) c a ∧ gRch (Eo l.2) (gAv (Eo l.2) (lsS l) c) a b) → Q (.inl (some (.int (nI z.toNat)))) (LX9 ++ r) X Y) : tX9_together [.ref 0, .int (nI c), .int (nI a), .int (nI b)] (LX9 ++ r) X Y Q := by
  apply tX9_together_i
  rw [m_mul, m_add (60 * c) a, m_add (60 * c) b, m_clamp (show 60 * c + a < 2147483648 by omega), m_clamp (show 60 * c + b < 2147483648 by omega)]
  have va : vp_in (nI (60 * c + a)) 3600 := (m_in (by omega)).mpr (by omega)
  have vb : vp_in (nI (60 * c + b)) 3600 := (m_in (by omega)).mpr (by omega)
  refine ⟨va, fun q => ⟨(by first | exact Or.inl rfl | exact Or.inr rfl | exact Or.inl trivial | exact Or.inr trivial), k false ⟨fun e => (by cases e), fun y => ?_⟩⟩, fun q => ⟨va, vb, fun q2 => ⟨(by first | exact Or.inl rfl | exact Or.inr rfl | exact Or.inl trivial | exact Or.inr trivial), k false ⟨fun e => (by cases e), fun y => ?_⟩⟩, fun q2 => ⟨(by first | exact Or.inl rfl | exact Or.inr rfl | exact Or.inl trivial | exact Or.inr trivial), k true ⟨fun _ => ?_, fun _ => rfl⟩⟩⟩⟩
  · rcases hs a ha with ⟨n, -⟩ | ⟨-, u, u1, u2, -⟩
    · exact absurd y.1 n
    · rw [u2] at q; exact absurd q (nI_m1 (by omega))
  · have yb := gRch.mem y.1 y.2
    rcases hs a ha with ⟨n, -⟩ | ⟨-, u, u1, u2, u3, u4, u5⟩
    · exact absurd y.1 n
    · rcases hs b hb with ⟨n, -⟩ | ⟨-, w, w1, w2, w3, w4, w5⟩
      · exact absurd yb n
      · have e1 := u5 w w3 (w4.trans (y.2.symm sy))
        have e2 := w5 u u3 (u4.trans y.2)
        have : u = w := by omega
        rw [u2, w2, this] at q2; exact absurd rfl q2
  · have q2 := Classical.not_not.mp q2
    rcases hs a ha with ⟨n, e⟩ | ⟨ya, u, u1, u2, u3, u4, u5⟩
    · exact absurd e q
    · refine ⟨ya, ?_⟩
      rcases hs b hb with ⟨n, e⟩ | ⟨-, w, w1, w2, w3, w4, w5⟩
      · rw [u2, e] at q2; exact absurd q2 (nI_m1 (by omega))
      · rw [u2, w2] at q2
        have : u = w := (m_eq (by omega) (by omega)).mp q2
        subst this
        exact (u4.symm sy).trans w4
theorem X9_noThree_L (hl : lsI l) (h260 : X 1 260 = nI l.1) (hr : ∀ i, i < 60 → Y 3 i = lN (l.2 i)) (k : ∀ X' (z : Bool), (∀ c, c ≠ 28 → X' c = X c) → (z = true ↔ lsA l) → Q (.inl (some (.int (nI z.toNat)))) (LX9 ++ r) X' Y) : tX9_listNoThree [.ref 0] (LX9 ++ r) X Y Q := by
  obtain ⟨l60, lG, lB, lM⟩ := id hl
  have sy : ∀ a b, Eo l.2 a b → Eo l.2 b a := fun a b e => (lG a b e).2.2.2
  have v0 : vp_in (nI 260) 262 := (m_in (by omega)).mpr (by omega)
  have c0 : (nI 260).toNatClampNeg = 260 := m_clamp (by omega)
  have ta := th3_at lG (S := 2 ^ l.1 - 1)
  have bs : ∀ v, Bs (2 ^ l.1 - 1) v ↔ v < l.1 := fun v => bs_full
  apply tX9_listNoThree_i
  have L2 : ∀ n a X2, a + n = l.1 → (∀ c, c ≠ 28 → X2 c = X c) → (∀ b, b < a → SpV X2 l b) → hX9_listNoThree_2 Q r (nI a) X2 Y := by
    intro n
    induction n with
    | zero =>
      intro a X2 ha f hs
      have X260 : X2 1 260 = nI l.1 := by rw [f 1 (by omega)]; exact h260
      apply hX9_listNoThree_2_i
      rw [c0, X260, m_le (by omega) (by omega)]
      refine ⟨v0, fun _ => ?_, fun y => absurd (by omega) y⟩
      have sp : ∀ b, b < l.1 → SpV X2 l b := fun b hb => hs b (by omega)
      have A : ∀ m x, x + m = l.1 → (∀ a b c, a < b → b < c → c < l.1 → a < x → ¬ th3 l.2 (2 ^ l.1 - 1) a b c) → hX9_listNoThree_27 Q r (nI x) X2 Y := by
        intro m
        induction m with
        | zero =>
          intro x hx no
          apply hX9_listNoThree_27_i
          rw [c0, X260, m_le (by omega) (by omega)]
          exact ⟨v0, fun _ => ⟨(by first | exact Or.inl rfl | exact Or.inr rfl | exact Or.inl trivial | exact Or.inr trivial), k X2 true f ⟨fun _ => ta.mp (fun a b c ha hb h1 h2 h3 => no a b c h1 h2 ((bs c).mp (gRch.mem h3.1.1 h3.1.2).1) (by have := (bs a).mp ha; omega) h3), fun _ => rfl⟩⟩, fun y => absurd (by omega) y⟩
        | succ m ihm =>
          intro x hx no
          apply hX9_listNoThree_27_i
          rw [c0, X260, m_le (by omega) (by omega), m_add]
          refine ⟨v0, fun y => absurd y (by omega), fun _ => ?_⟩
          have B : ∀ m2 y, y + m2 = l.1 → x < y → (∀ b c, b < c → c < l.1 → x < b → b < y → ¬ th3 l.2 (2 ^ l.1 - 1) x b c) → hX9_listNoThree_43 Q r (nI x) (nI y) X2 Y := by
            intro m2
            induction m2 with
            | zero =>
              intro y hy hxy no2
              apply hX9_listNoThree_43_i
              rw [c0, X260, m_le (by omega) (by omega), m_add]
              exact ⟨v0, fun _ => ihm (x + 1) (by omega) (fun a b c h1 h2 h3 h4 => by
                by_cases e : a = x
                · subst e; exact no2 b c h2 h3 h1 (by omega)
                · exact no a b c h1 h2 h3 (by omega)), fun w => absurd (by omega) w⟩
            | succ m2 ihb =>
              intro y hy hxy no2
              apply hX9_listNoThree_43_i
              rw [c0, X260, m_le (by omega) (by omega), m_add y 1]
              refine ⟨v0, fun w => absurd w (by omega), fun _ => ?_⟩
              have D : ∀ m3 z, z + m3 = l.1 → y < z → (∀ c, y < c → c < z → ¬ th3 l.2 (2 ^ l.1 - 1) x y c) → hX9_listNoThree_59 Q r (nI x) (nI y) (nI z) X2 Y := by
                intro m3
                induction m3 with
                | zero =>
                  intro z hz hyz no3
                  apply hX9_listNoThree_59_i
                  rw [c0, X260, m_le (by omega) (by omega), m_add y 1]
                  exact ⟨v0, fun _ => ihb (y + 1) (by omega) (by omega) (fun b c h1 h2 h3 h4 => by
                    by_cases e : b = y
                    · subst e; exact no3 c h1 (by omega)
                    · exact no2 b c h1 h2 h3 (by omega)), fun w => absurd (by omega) w⟩
                | succ m3 ihd =>
                  intro z hz hyz no3
                  have nx : ¬ th3 l.2 (2 ^ l.1 - 1) x y z → hX9_listNoThree_59 Q r (nI x) (nI y) (nI (z + 1)) X2 Y := fun hn => ihd (z + 1) (by omega) (by omega) (fun c h1 h2 => by
                    by_cases e : c = z
                    · subst e; exact hn
                    · exact no3 c h1 (by omega))
                  apply hX9_listNoThree_59_i
                  rw [c0, X260, m_le (by omega) (by omega), m_add z 1]
                  refine ⟨v0, fun w => absurd w (by omega), fun _ => ?_⟩
                  refine X9_together_s l60 (by omega) (by omega) (by omega) sy (sp z (by omega)) (fun z1 hz1 => cK1_mk ⟨fun q => nx (fun y => ?_), fun q => ?_⟩)
                  · rw [hz1.mpr y.2.2] at q; exact absurd q (by decide)
                  refine X9_together_s l60 (by omega) (by omega) (by omega) sy (sp y (by omega)) (fun z2 hz2 => cK1_mk ⟨fun q2 => nx (fun y => ?_), fun q2 => ?_⟩)
                  · rw [hz2.mpr y.2.1] at q2; exact absurd q2 (by decide)
                  refine X9_together_s l60 (by omega) (by omega) (by omega) sy (sp x (by omega)) (fun z3 hz3 => cK1_mk ⟨fun q3 => nx (fun y => ?_), fun q3 => ⟨(by first | exact Or.inl rfl | exact Or.inr rfl | exact Or.inl trivial | exact Or.inr trivial), k X2 false f ⟨fun e => (by cases e), fun la => ?_⟩⟩⟩)
                  · rw [hz3.mpr y.1] at q3; exact absurd q3 (by decide)
                  · exact absurd ⟨hz3.mp (z11 q3), hz2.mp (z11 q2), hz1.mp (z11 q)⟩ (ta.mpr la x y z ((bs x).mpr (by omega)) ((bs y).mpr (by omega)) hxy hyz)
              exact D (l.1 - (y + 1)) (y + 1) (by omega) (by omega) (fun c h1 h2 => by omega)
          exact B (l.1 - (x + 1)) (x + 1) (by omega) (by omega) (fun b c _ _ h3 h4 => by omega)
      exact A l.1 0 (by omega) (fun a b c _ _ _ h => by omega)
    | succ n ih =>
      intro a X2 ha f hs
      have X260 : X2 1 260 = nI l.1 := by rw [f 1 (by omega)]; exact h260
      apply hX9_listNoThree_2_i
      rw [c0, X260, m_le (by omega) (by omega)]
      refine ⟨v0, fun y => absurd y (by omega), fun _ => X9_split_s hl X260 hr (by omega) (fun X3 f3 g3 s3 => cK0_mk ?_)⟩
      rw [m_add]
      refine ih (a + 1) X3 (by omega) (fun c hc => (f3 c hc).trans (f c hc)) (fun b hb => ?_)
      by_cases e : b = a
      · subst e; exact s3
      · intro v hv
        have := hs b (by omega) v hv
        rw [g3 (60 * b + v) (by omega)]
        exact this
  exact L2 l.1 0 X (by omega) (fun _ _ => rfl) (fun b hb => by omega)
end Ltd9
