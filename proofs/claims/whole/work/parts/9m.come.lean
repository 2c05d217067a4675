/-! TWICE by the class: canShare, twice -/
def shT (Q : Qt) (d : Nat) (v1 : Int32) (v2 v4 : Int64) (v6 v7 v8 v9 : Int32) (X21 : HX) (Y21 : HY) : Prop := tX4_isLayable [.ref 0, .long (v4 ||| ((lN 1) <<< (v7.toInt64 &&& 63)))] (LX4 10 ++ []) X21 Y21 (cK1 (LX4 10 ++ []) Q (fun x23 X23 Y23 => (x23 = 0 → tX4_part [.ref 0, .int v1, .int v7] (LX4 10 ++ []) X23 Y23 (cK0 (LX4 10 ++ []) Q (fun X25 Y25 => tX4_part [.ref 0, .int (nI 9), .int v7] (LX4 10 ++ []) X25 Y25 (cK0 (LX4 10 ++ []) Q (fun X26 Y26 => hX8_canShare_38 Q 10 [] d v1 v2 v4 v6 v7 v8 (v9 + nI 1) X26 Y26))))) ∧ (¬ (x23 = 0) → tX8_canShare d [.ref 0, .int v1, .long (v2 &&& (v2 - (lN 1))), .long (v4 ||| ((lN 1) <<< (v7.toInt64 &&& 63))), .int (v6 + (nI 1))] (LX4 10 ++ []) X23 Y23 (cK1 (LX4 10 ++ []) Q (fun x27 X27 Y27 => (x27 = 0 → tX4_part [.ref 0, .int v1, .int v7] (LX4 10 ++ []) X27 Y27 (cK0 (LX4 10 ++ []) Q (fun X29 Y29 => tX4_part [.ref 0, .int (nI 9), .int v7] (LX4 10 ++ []) X29 Y29 (cK0 (LX4 10 ++ []) Q (fun X30 Y30 => hX8_canShare_38 Q 10 [] d v1 v2 v4 v6 v7 v8 (v9 + nI 1) X30 Y30))))) ∧ (¬ (x27 = 0) → ((nI 1) = 0 ∨ (nI 1) = 1) ∧ Q (.inl (some (.int (nI 1)))) (LX4 10 ++ []) X27 Y27))))))
/-- a state of Meetings alone, of ten; what its methods leave -/
def M4 (X : HX) : Prop := X 0 2 = nI 10
def Sc4 (X X' : HX) (Y Y' : HY) : Prop := (∀ c, c ≠ 0 → c ≠ 2 → X' c = X c) ∧ (∀ i, i ≠ 1 → X' 0 i = X 0 i) ∧ ∀ c, c ≠ 1 → c ≠ 3 → Y' c = Y c
theorem Sc4.trans {X1 X2 X3 : HX} {Y1 Y2 Y3 : HY} (h : Sc4 X1 X2 Y1 Y2) (h' : Sc4 X2 X3 Y2 Y3) : Sc4 X1 X3 Y1 Y3 :=
  ⟨fun c q1 q2 => (h'.1 c q1 q2).trans (h.1 c q1 q2), fun i q => (h'.2.1 i q).trans (h.2.1 i q), fun c q1 q2 => (h'.2.2 c q1 q2).trans (h.2.2 c q1 q2)⟩
theorem Sc4.m4 {X X' : HX} {Y Y' : HY} (h : Sc4 X X' Y Y') (m : M4 X) : M4 X' := (h.2.1 2 (by omega)).trans m
section Come8
variable {X X' : HX} {Y Y' : HY} {s : St} {Q : Qt}
theorem S4_part {M : Nat → Nat} {x y : Nat} (h : M4 X) (hM : ∀ i, i < 10 → Y 1 i = lN (M i)) (hx : x < 10) (hy : y < 10) (hxy : x ≠ y) {C : HX → HY → Prop} (k : ∀ X' Y', Sc4 X X' Y Y' → M4 X' → (∀ i, i < 10 → Y' 1 i = lN (pt M x y i)) → C X' Y') : tX4_part [.ref 0, .int (nI x), .int (nI y)] (LX4 10 ++ []) X Y (cK0 (LX4 10 ++ []) Q C) :=
  X4_part_s (M := M) (by omega) h hM hx hy hxy (fun Y3 g m => cK0_mk (k X Y3 ⟨fun _ _ _ => rfl, fun _ _ => rfl, fun c h1 _ => g c h1⟩ h m))
theorem S4_join {M : Nat → Nat} {x y : Nat} (h : M4 X) (hM : ∀ i, i < 10 → Y 1 i = lN (M i)) (hx : x < 10) (hy : y < 10) (hxy : x ≠ y) {C : HX → HY → Prop} (k : ∀ X' Y', Sc4 X X' Y Y' → M4 X' → (∀ i, i < 10 → Y' 1 i = lN (jn M x y i)) → C X' Y') : tX4_join [.ref 0, .int (nI x), .int (nI y)] (LX4 10 ++ []) X Y (cK0 (LX4 10 ++ []) Q C) :=
  X4_join_s (M := M) (by omega) h hM hx hy hxy (fun Y3 g m => cK0_mk (k X Y3 ⟨fun _ _ _ => rfl, fun _ _ => rfl, fun c h1 _ => g c h1⟩ h m))
theorem S4_trial {M : Nat → Nat} {S : Nat} (h : M4 X) (hM : ∀ i, i < 10 → Y 1 i = lN (M i) ∧ M i < 1152921504606846976) (hG : GM 10 M) (hS : S < 1024) {C : Int32 → HX → HY → Prop} (k : ∀ (z : Bool) X' Y', Sc4 X X' Y Y' → M4 X' → (Y' 1 = Y 1) → (z = true ↔ cnB M S) → C (nI z.toNat) X' Y') : tX4_isLayable [.ref 0, .long (lN S)] (LX4 10 ++ []) X Y (cK1 (LX4 10 ++ []) Q C) :=
  X4_isLayable_s (M := M) ⟨by omega, h, hM⟩ hG (by omega) (fun v hv => bit_lt (k := 10) hS hv) (fun z X3 Y3 f1 f2 g hz => cK1_mk (by
    have sc : Sc4 X X3 Y Y3 := ⟨f1, f2, fun c _ h3 => g c h3⟩
    exact k z X3 Y3 sc (sc.m4 h) (g 1 (by omega)) hz))
theorem cnt_rem {L x : Nat} (hx : L.testBit x = true) (h64 : x < 64) : cnt (nAn L (2 ^ x)) < cnt L := by
  rw [cnt_sz, cnt_sz]
  refine gSz_lt (w := x) (fun v hv => ?_) h64 hx (fun q => ?_)
  · have hv : (nAn L (2 ^ x)).testBit v = true := hv
    rw [nAn_bit, Bool.and_eq_true] at hv; exact hv.1
  · have q : (nAn L (2 ^ x)).testBit x = true := q
    rw [nAn_bit, Nat.testBit_two_pow_self, Bool.and_eq_true] at q
    exact absurd q.2 (by simp)
theorem X8_canShare_s {g : Nat} (hg : g < sG s) (si : SI s) : ∀ (d : Nat) (L A p : Nat) (D T : Nat → Nat) (X : HX) (Y : HY) (Q : Qt), cnt L < d → cnt L + p ≤ 9 → L < 1024 → A < 1024 → M4 X → (∀ i, i < 10 → Y 1 i = lN (T i)) → twI (Eo (Ms s)) g T (Bs A) D → (∀ a, D a ≤ 2) → (∀ v, Bs L v → ¬ Bs A v ∧ Eo (Ms s) g v) → (∀ v, twV (sG s) 9 v ↔ Bs A v ∨ Bs L v) → CL (tE (Eo (Ms s)) g 9 D) (Bs A) → (p = 0 → ∀ a, Bs A a → ¬ Eo (Ms s) g a) → (∀ (z : Bool) X' Y', Sc4 X X' Y Y' → M4 X' → (z = true ↔ twR (Eo (Ms s)) g 9 (sG s) (Bs A) D) → (z = false → ∃ T', (∀ i, i < 10 → Y' 1 i = lN (T' i)) ∧ twI (Eo (Ms s)) g T' (Bs A) D) → Q (rI (nI z.toNat)) (LX4 10 ++ []) X' Y') → tX8_canShare d [.ref 0, .int (nI g), .long (lN L), .long (lN A), .int (nI p)] (LX4 10 ++ []) X Y Q := by
  have g9 := si.1
  have gir := Ms_irr si
  intro d
  induction d with
  | zero => intro L A p D T X Y Q hd; omega
  | succ d ihd =>
    intro L A p D T X Y Q hd hp hL hA h m tw hD lm av can fr k
    have sx : ∀ X, Sc4 X X Y Y := fun X => ⟨fun _ _ _ => rfl, fun _ _ => rfl, fun _ _ _ => rfl⟩
    apply tX8_canShare_i
    rw [m_cmp0, m_Leq (by omega) (by omega)]
    refine ⟨fun h0 => ?_, fun h0 => ⟨(by first | exact Or.inl rfl | exact Or.inr rfl | exact Or.inl trivial | exact Or.inr trivial), ?_⟩⟩
    · have Lp : 0 < L := by omega
      obtain ⟨l', l1, l2, l3, -, l5⟩ := m_low (m := L) Lp (by omega)
      have c1 := cnt_rem l2 (by omega)
      rw [m_lt (by omega) (by omega)]
      refine ⟨fun _ => X8_lowest_s Lp (by omega) (fun x x63 xb xl => cK1_mk ?_), fun q => absurd (by omega) q⟩
      have el : l' = x := by
        rcases Nat.lt_trichotomy l' x with q | q | q
        · rw [xl l' q] at l2; cases l2
        · exact q
        · rw [l3 x q] at xb; cases xb
      subst el
      have hxA : ¬ Bs A l' := (lm l' xb).1
      have exg : Eo (Ms s) g l' := (lm l' xb).2
      have hxG := (Ms_bd g l' exg).2
      have hxg : l' ≠ g := fun e => gir g (e ▸ exg)
      have bA : ∀ v, Bs (A ||| 2 ^ l') v ↔ Bs A v ∨ v = l' := fun v => by
        show (A ||| 2 ^ l').testBit v = true ↔ _
        rw [Nat.testBit_or, Nat.testBit_two_pow, Bool.or_eq_true, decide_eq_true_eq]
        exact ⟨fun q => q.imp id Eq.symm, fun q => q.imp id Eq.symm⟩
      have fA : Bs (A ||| 2 ^ l') = fun v => Bs A v ∨ v = l' := funext fun v => propext (bA v)
      have aA : A ||| 2 ^ l' < 1024 := Nat.or_lt_two_pow (n := 10) hA (Nat.pow_lt_pow_right (by omega) (by omega))
      have gf : ∀ n : Nat, (n = 2 ∧ p = 0) ∨ (n = 3 ∧ p ≠ 0) → hX8_canShare_38 Q 10 [] d (nI g) (lN L) (lN A) (nI p) (nI l') (nI n) (nI 0) X Y := by
        intro n hn
        -- one gift
        have tail : ∀ t dv X2 Y2 T1, t < 3 → dv ≤ 2 → Sc4 X X2 Y Y2 → M4 X2 → (∀ i, i < 10 → Y2 1 i = lN (T1 i)) → twI (Eo (Ms s)) g T1 (fun v => Bs A v ∨ v = l') (upD D l' dv) → (∀ X3 Y3 T3, Sc4 X X3 Y Y3 → M4 X3 → (∀ i, i < 10 → Y3 1 i = lN (T3 i)) → twI (Eo (Ms s)) g T3 (Bs A) D → ¬ Eo T3 g l' → ¬ twR (Eo (Ms s)) g 9 (sG s) (fun v => Bs A v ∨ v = l') (upD D l' dv) → hX8_canShare_38 Q 10 [] d (nI g) (lN L) (lN A) (nI p) (nI l') (nI n) (nI (t + 1)) X3 Y3) → shT Q d (nI g) (lN L) (lN A) (nI p) (nI l') (nI n) (nI t) X2 Y2 := by
          intro t dv X2 Y2 T1 ht hdv sc2 h2 m2 tw2 nx
          have back : ∀ X3 Y3 T3, Sc4 X X3 Y Y3 → M4 X3 → (∀ i, i < 10 → Y3 1 i = lN (T3 i)) → twI (Eo (Ms s)) g T3 (fun v => Bs A v ∨ v = l') (upD D l' dv) → ¬ twR (Eo (Ms s)) g 9 (sG s) (fun v => Bs A v ∨ v = l') (upD D l' dv) → tX4_part [.ref 0, .int (nI g), .int (nI l')] (LX4 10 ++ []) X3 Y3 (cK0 (LX4 10 ++ []) Q (fun X25 Y25 => tX4_part [.ref 0, .int (nI 9), .int (nI l')] (LX4 10 ++ []) X25 Y25 (cK0 (LX4 10 ++ []) Q (fun X26 Y26 => hX8_canShare_38 Q 10 [] d (nI g) (lN L) (lN A) (nI p) (nI l') (nI n) (nI t + nI 1) X26 Y26)))) := by
            intro X3 Y3 T3 sc3 h3 m3 tw3 no3
            refine S4_part h3 m3 (by omega) (by omega) (fun e => hxg e.symm) (fun X4 Y4 sc4 h4 m4 => S4_part h4 m4 (by omega) (by omega) (by omega) (fun X5 Y5 sc5 h5 m5 => ?_))
            obtain ⟨b1, b2⟩ := twI_back tw3 hxA (by omega) hxg (by omega)
            rw [m_add]
            exact nx X5 Y5 _ ((sc3.trans sc4).trans sc5) h5 m5 b1 b2 no3
          unfold shT
          rw [show lN A ||| ((lN 1) <<< ((nI l').toInt64 &&& 63)) = lN (A ||| 2 ^ l') by simp (disch := omega) only [m_0, m_L0, m_lt, m_le, m_eq, m_neg, m_in, m_clamp, m_add, m_sub, m_pred, m_mul, m_l, m_i, m_Land, m_Lor, m_and, m_or, m_xor, m_Landn, m_andn, m_LshlP, m_shl, m_LbitP, m_bit, m_cmp0P, m_Lb0, m_Lb1, m_b0, m_b1, Nat.one_mul]]
          have cn : cnB T1 (A ||| 2 ^ l') ↔ CL (tE (Eo (Ms s)) g 9 (upD D l' dv)) (fun v => Bs A v ∨ v = l') := by
            rw [← twI_can tw2 (by omega), ← fA]; exact Iff.rfl
          refine S4_trial h2 (fun i hi => ⟨m2 i hi, by have := tw2.2.1 i; omega⟩) tw2.1 aA (fun z X3 Y3 sc3 h3 e3 hz => ?_)
          rw [cn] at hz
          have m3 : ∀ i, i < 10 → Y3 1 i = lN (T1 i) := fun i hi => by rw [e3]; exact m2 i hi
          refine ⟨fun q => ?_, fun q => ?_⟩
          · refine back X3 Y3 T1 (sc2.trans sc3) h3 m3 tw2 (fun y => ?_)
            have := twR_can y (fun v hv => (av v).mpr (hv.imp id (fun e => by subst e; exact xb)))
            rw [hz.mpr this] at q; exact absurd q (by decide)
          · have hc := hz.mp (z11 q)
            rw [l5, m_add]
            have bL : ∀ v, Bs (nAn L (2 ^ l')) v ↔ Bs L v ∧ v ≠ l' := fun v => by
              show (nAn L (2 ^ l')).testBit v = true ↔ _
              rw [nAn_bit, Nat.testBit_two_pow, Bool.and_eq_true, Bool.not_eq_true', decide_eq_false_iff_not]
              exact ⟨fun q => ⟨q.1, fun e => q.2 e.symm⟩, fun q => ⟨q.1, fun e => q.2 e.symm⟩⟩
            refine ihd (nAn L (2 ^ l')) (A ||| 2 ^ l') (p + 1) (upD D l' dv) T1 X3 Y3 _ (by omega) (by omega) (Nat.lt_of_le_of_lt (nAn_le _ _) hL) aA h3 m3 (by rw [fA]; exact tw2) (fun a => ?_) (fun v hv => ?_) (fun v => ?_) (by rw [fA]; exact hc) (fun e => by omega) (fun z' X4 Y4 sc4 h4 hz' hT => cK1_mk ?_)
            · show (if a = l' then dv else D a) ≤ 2
              have := hD a
              split <;> omega
            · obtain ⟨q1, q2⟩ := (bL v).mp hv
              exact ⟨fun y => ((bA v).mp y).elim (lm v q1).1 q2, (lm v q1).2⟩
            · rw [av v, bA, bL]
              by_cases e : v = l'
              · subst e; exact ⟨fun _ => Or.inl (Or.inr rfl), fun _ => Or.inr xb⟩
              · exact ⟨fun y => y.elim (fun y => Or.inl (Or.inl y)) (fun y => Or.inr ⟨y, e⟩), fun y => y.elim (fun y => y.elim Or.inl (fun y => absurd y e)) (fun y => Or.inr y.1)⟩
            · rw [fA] at hz' hT
              have sc := (sc2.trans sc3).trans sc4
              refine ⟨fun q => ?_, fun q => ⟨(by first | exact Or.inl rfl | exact Or.inr rfl | exact Or.inl trivial | exact Or.inr trivial), ?_⟩⟩
              · obtain ⟨T', t1, t2⟩ := hT (z01 q)
                exact back X4 Y4 T' sc h4 t1 t2 (fun y => by rw [hz'.mpr y] at q; exact absurd q (by decide))
              · have yes := hz'.mp (z11 q)
                exact k true X4 Y4 sc h4 ⟨fun _ => (twR_step hxA).mpr ⟨dv, hdv, yes⟩, fun _ => rfl⟩ (fun e => by cases e)
        have R3 : ∀ X2 Y2 T2, n = 3 → Sc4 X X2 Y Y2 → M4 X2 → (∀ i, i < 10 → Y2 1 i = lN (T2 i)) → twI (Eo (Ms s)) g T2 (Bs A) D → ¬ Eo T2 g l' → ¬ twR (Eo (Ms s)) g 9 (sG s) (fun v => Bs A v ∨ v = l') (upD D l' 0) → ¬ twR (Eo (Ms s)) g 9 (sG s) (fun v => Bs A v ∨ v = l') (upD D l' 2) → ¬ twR (Eo (Ms s)) g 9 (sG s) (fun v => Bs A v ∨ v = l') (upD D l' 1) → hX8_canShare_38 Q 10 [] d (nI g) (lN L) (lN A) (nI p) (nI l') (nI n) (nI 3) X2 Y2 := by
          intro X2 Y2 T2 hn3 sc2 h2 m2 tw2 ng n0 n2 n1
          apply hX8_canShare_38_i
          rw [m_le (by omega) (by omega)]
          refine ⟨fun _ => ⟨(by first | exact Or.inl rfl | exact Or.inr rfl | exact Or.inl trivial | exact Or.inr trivial), k false X2 Y2 sc2 h2 ⟨fun e => (by cases e), fun y => ?_⟩ (fun _ => ⟨T2, m2, tw2⟩)⟩, fun q => absurd (by omega) q⟩
          obtain ⟨dv, hdv, y⟩ := (twR_step hxA).mp y
          obtain rfl | rfl | rfl : dv = 0 ∨ dv = 1 ∨ dv = 2 := by omega
          · exact absurd y n0
          · exact absurd y n1
          · exact absurd y n2
        have R2 : ∀ X2 Y2 T2, Sc4 X X2 Y Y2 → M4 X2 → (∀ i, i < 10 → Y2 1 i = lN (T2 i)) → twI (Eo (Ms s)) g T2 (Bs A) D → ¬ Eo T2 g l' → ¬ twR (Eo (Ms s)) g 9 (sG s) (fun v => Bs A v ∨ v = l') (upD D l' 0) → ¬ twR (Eo (Ms s)) g 9 (sG s) (fun v => Bs A v ∨ v = l') (upD D l' 2) → hX8_canShare_38 Q 10 [] d (nI g) (lN L) (lN A) (nI p) (nI l') (nI n) (nI 2) X2 Y2 := by
          intro X2 Y2 T2 sc2 h2 m2 tw2 ng n0 n2
          apply hX8_canShare_38_i
          rw [m_le (by omega) (by omega)]
          refine ⟨fun q => ⟨(by first | exact Or.inl rfl | exact Or.inr rfl | exact Or.inl trivial | exact Or.inr trivial), k false X2 Y2 sc2 h2 ⟨fun e => (by cases e), fun y => ?_⟩ (fun _ => ⟨T2, m2, tw2⟩)⟩, fun q => ⟨fun _ => ⟨fun y => absurd y (by decide), fun _ => ?_⟩, fun y => absurd rfl y⟩⟩
          · have p0 : p = 0 := by omega
            obtain ⟨dv, hdv, y⟩ := (twR_step hxA).mp y
            obtain rfl | rfl | rfl : dv = 0 ∨ dv = 1 ∨ dv = 2 := by omega
            · exact absurd y n0
            · exact absurd (tw_first hg g9 (fr p0) hxA hD y) n0
            · exact absurd y n2
          · refine S4_join h2 m2 (by omega) (by omega) (by omega) (fun X3 Y3 sc3 h3 m3 => ?_)
            exact tail 2 1 X3 Y3 _ (by omega) (by omega) (sc2.trans sc3) h3 m3 (twI_e1 tw2 hxA (by omega) hxg (by omega) exg ng) (fun X4 Y4 T4 sc4 h4 m4 tw4 ng4 n1 => R3 X4 Y4 T4 (by omega) sc4 h4 m4 tw4 ng4 n0 n2 n1)
        have R1 : ∀ X2 Y2 T2, Sc4 X X2 Y Y2 → M4 X2 → (∀ i, i < 10 → Y2 1 i = lN (T2 i)) → twI (Eo (Ms s)) g T2 (Bs A) D → ¬ Eo T2 g l' → ¬ twR (Eo (Ms s)) g 9 (sG s) (fun v => Bs A v ∨ v = l') (upD D l' 0) → hX8_canShare_38 Q 10 [] d (nI g) (lN L) (lN A) (nI p) (nI l') (nI n) (nI 1) X2 Y2 := by
          intro X2 Y2 T2 sc2 h2 m2 tw2 ng n0
          apply hX8_canShare_38_i
          rw [m_le (by omega) (by omega)]
          refine ⟨fun q => absurd q (by omega), fun q => ⟨fun y => absurd y (by decide), fun _ => ?_⟩⟩
          refine S4_join h2 m2 (by omega) (by omega) (fun e => hxg e.symm) (fun X3 Y3 sc3 h3 m3 => ⟨fun y => absurd y (by decide), fun _ => ?_⟩)
          refine S4_join h3 m3 (by omega) (by omega) (by omega) (fun X4 Y4 sc4 h4 m4 => ?_)
          exact tail 1 2 X4 Y4 _ (by omega) (by omega) ((sc2.trans sc3).trans sc4) h4 m4 (twI_e2 tw2 hxA (by omega) hxg (by omega) exg) (fun X5 Y5 T5 sc5 h5 m5 tw5 ng5 n2 => R2 X5 Y5 T5 sc5 h5 m5 tw5 ng5 n0 n2)
        apply hX8_canShare_38_i
        rw [m_le (by omega) (by omega)]
        refine ⟨fun q => absurd q (by omega), fun q => ⟨fun y => absurd y (by decide), fun _ => ?_⟩⟩
        refine S4_join h m (by omega) (by omega) (fun e => hxg e.symm) (fun X3 Y3 sc3 h3 m3 => ⟨fun _ => ?_, fun y => absurd rfl y⟩)
        exact tail 0 0 X3 Y3 _ (by omega) (by omega) sc3 h3 m3 (twI_e0 tw hxA (by omega) hxg (by omega) exg) (fun X5 Y5 T5 sc5 h5 m5 tw5 ng5 n0 => R1 X5 Y5 T5 sc5 h5 m5 tw5 ng5 n0)
      refine ⟨fun q => ?_, fun q => ?_⟩
      · exact gf 3 (Or.inr ⟨rfl, fun e => q (by rw [e]; rfl)⟩)
      · exact gf 2 (Or.inl ⟨rfl, Classical.byContradiction fun e => q (fun y => e (by
          have y : nI p = nI 0 := y
          exact (m_eq (by omega) (by omega)).mp y))⟩)
    · have L0 : L = 0 := by omega
      subst L0
      have fV : twV (sG s) 9 = Bs A := funext fun v => propext ((av v).trans ⟨fun q => q.elim id (fun q => by simp [Bs] at q), Or.inl⟩)
      exact k true X Y (sx X) h ⟨fun _ => twR_done (by rw [fV]; exact can) hD, fun _ => rfl⟩ (fun e => by cases e)
end Come8
