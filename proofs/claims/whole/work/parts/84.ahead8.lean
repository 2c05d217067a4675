/-! who must be ahead, who is between: by the class -/
section Ahd8
variable {CK S1 S2 : HX → St → Prop} {X X' : HX} {Y Y' : HY} {s : St} {b : Bool} {Q : Qt}
theorem rw_27 (hI : SI s) (hm : sm s ≤ 27) (v : Nat) : rwM (Ms s) (sG s) v < 134217728 := Nat.lt_of_lt_of_le (rwM_lt v) (Nat.le_trans (Nat.pow_le_pow_right (n := 2) (by omega) hm) (by decide : 2 ^ 27 ≤ _))
theorem Q8_row9 {g : Nat} {F : Int32 → HX → HY → Prop} (h : Qw CK S1 S2 X Y s) (ok : OKo X s) (hg : g < 9) (k : ∀ X' Y', Kp b X X' Y Y' → Qw CK S1 S2 X' Y' s → OKo X' s → F (nI (rwM (Ms s) (sG s) g)) X' Y') : tX3_momentsOf [.ref 0, .int (nI g)] (LX3 ++ []) (sb S49 X) (sb S49 Y) (cS1 (LX3 ++ []) (LX8 b) S49 (LX8 b).length X Y Q F) := by
  have n79 := nC8_79 b
  have e := Eq8.mg (b := b) (X := X) (Y := Y) S49
  exact X3_of_s (r := []) ok.1 hg (cS1_mk (k _ _ e.kp (h.scr e.scr) (ok.of (by rw [(e 49 (by omega)).1]) (fun c z1 z2 => (e c (by omega)).1))))
theorem Q8_cut9 {v w : Nat} {F : Int32 → HX → HY → Prop} (h : Qw CK S1 S2 X Y s) (ok : OKo X s) (k : ∀ X' Y' (z : Bool), Kp b X X' Y Y' → Qw CK S1 S2 X' Y' s → OKo X' s → (z = true ↔ layO s ∧ ∃ o, LyN (sm s) (mayO s) (sm s) o ∧ ctA s v w o) → F (nI z.toNat) X' Y') : tX3_isCut [.ref 0, .int (nI (rwM (Ms s) (sG s) v)), .int (nI (rwM (Ms s) (sG s) w))] (LX3 ++ []) (sb S49 X) (sb S49 Y) (cS1 (LX3 ++ []) (LX8 b) S49 (LX8 b).length X Y Q F) := by
  have n79 := nC8_79 b
  have e := Eq8.mg (b := b) (X := X) (Y := Y) S49
  refine X3_isCut_s (r := []) ok (rw_27 h.si ok.1.1 v) (rw_27 h.si ok.1.1 w) (fun z hz => cS1_mk (k _ _ z e.kp (h.scr e.scr) (ok.of (by rw [(e 49 (by omega)).1]) (fun c z1 z2 => (e c (by omega)).1)) ?_))
  rw [hz, ldO h.si, may_eqO h.si]
  unfold ctP ctA
  exact Iff.rfl
theorem Q8_row1 {g : Nat} {F : Int32 → HX → HY → Prop} (h : Qw CK S1 S2 X Y s) (ok : LKo X s) (hg : g < 9) (k : ∀ X' Y', Kp b X X' Y Y' → Qw CK S1 S2 X' Y' s → LKo X' s → F (nI (rwM (Ms s) (sG s) g)) X' Y') : tX3_momentsOf [.ref 0, .int (nI g)] (LX3 ++ []) (sb S41 X) (sb S41 Y) (cS1 (LX3 ++ []) (LX8 b) S41 (LX8 b).length X Y Q F) := by
  have n79 := nC8_79 b
  have e := Eq8.mg (b := b) (X := X) (Y := Y) S41
  exact X3_of_s (r := []) ok.1.1 hg (cS1_mk (k _ _ e.kp (h.scr e.scr) (e.scr.lk ok)))
theorem Q8_cut1 {A B : Nat} {F : Int32 → HX → HY → Prop} (h : Qw CK S1 S2 X Y s) (ok : LKo X s) (hA : A < 134217728) (hB : B < 134217728) (k : ∀ X' Y' (z : Bool), Kp b X X' Y Y' → Qw CK S1 S2 X' Y' s → LKo X' s → (z = true ↔ layQ s ∧ ctP (sm s) (mayQ s) A B) → F (nI z.toNat) X' Y') : tX3_isCut [.ref 0, .int (nI A), .int (nI B)] (LX3 ++ []) (sb S41 X) (sb S41 Y) (cS1 (LX3 ++ []) (LX8 b) S41 (LX8 b).length X Y Q F) := by
  have n79 := nC8_79 b
  have e := Eq8.mg (b := b) (X := X) (Y := Y) S41
  refine X3_isCut_s (r := []) ok.1 hA hB (fun z hz => cS1_mk (k _ _ z e.kp (h.scr e.scr) (e.scr.lk ok) ?_))
  rw [hz, lay_ld h.si, may_eq h.si]
theorem ct_mono {o : Nat → Nat} {i i' j : Nat} (h : i ≤ i') (hj : Bs (ctO o i) j) : Bs (ctO o i') j := by
  obtain ⟨p, hp, e⟩ := ctO_bit.mp hj
  exact ctO_bit.mpr ⟨p, Nat.lt_of_lt_of_le hp h, e⟩
theorem bs_or {a c j : Nat} : Bs (a ||| c) j ↔ Bs a j ∨ Bs c j := by unfold Bs; rw [Nat.testBit_or, Bool.or_eq_true]
theorem ctA_lo {v u w : Nat} {o : Nat → Nat} : (∃ i, i ≤ sm s ∧ (∀ j, Bs (rwM (Ms s) (sG s) v) j → Bs (ctO o i) j) ∧ ∀ j, Bs (rwM (Ms s) (sG s) u ||| rwM (Ms s) (sG s) w) j → ¬ Bs (ctO o i) j) ↔ ctA s v u o ∧ ctA s v w o := by
  constructor
  · rintro ⟨i, hi, q1, q2⟩
    exact ⟨⟨i, hi, q1, fun j hj => q2 j (bs_or.mpr (Or.inl hj))⟩, ⟨i, hi, q1, fun j hj => q2 j (bs_or.mpr (Or.inr hj))⟩⟩
  · rintro ⟨⟨i, hi, q1, q2⟩, ⟨i', hi', q3, q4⟩⟩
    by_cases hle : i ≤ i'
    · exact ⟨i, hi, q1, fun j hj => (bs_or.mp hj).elim (q2 j) (fun z y => q4 j z (ct_mono hle y))⟩
    · exact ⟨i', hi', q3, fun j hj => (bs_or.mp hj).elim (fun z y => q2 j z (ct_mono (by omega) y)) (q4 j)⟩
theorem ctA_hi {v u w : Nat} {o : Nat → Nat} : (∃ i, i ≤ sm s ∧ (∀ j, Bs (rwM (Ms s) (sG s) u ||| rwM (Ms s) (sG s) w) j → Bs (ctO o i) j) ∧ ∀ j, Bs (rwM (Ms s) (sG s) v) j → ¬ Bs (ctO o i) j) ↔ ctA s u v o ∧ ctA s w v o := by
  constructor
  · rintro ⟨i, hi, q1, q2⟩
    exact ⟨⟨i, hi, fun j hj => q1 j (bs_or.mpr (Or.inl hj)), q2⟩, ⟨i, hi, fun j hj => q1 j (bs_or.mpr (Or.inr hj)), q2⟩⟩
  · rintro ⟨⟨i, hi, q1, q2⟩, ⟨i', hi', q3, q4⟩⟩
    by_cases hle : i ≤ i'
    · exact ⟨i', hi', fun j hj => (bs_or.mp hj).elim (fun z => ct_mono hle (q1 j z)) (q3 j), q4⟩
    · exact ⟨i, hi, fun j hj => (bs_or.mp hj).elim (q1 j) (fun z => ct_mono (by omega) (q3 j z)), q2⟩
theorem layO_ex (h : layO s) : ∃ o, LyN (sm s) (mayO s) (sm s) o := wy_ex.mp h.2
theorem X8_must_s {p q : Int32} (h : Qw CK S1 S2 X Y s) (k : ∀ X' Y', Kp b X X' Y Y' → Qw CK S1 S2 X' Y' s → Q (aMust s p q) (LX8 b) X' Y') : tX8_must b [.ref 0, .int p, .int q] (LX8 b) X Y Q := by
  have g9 := h.si.1
  have key : ¬ (isG s p ∧ isG s q) → Q (.inr XI) (LX8 b) X Y := fun n => by
    have k' := k _ _ Kp.rfl h
    unfold aMust at k'
    rw [cif_n n] at k'
    exact k'
  apply tX8_must_i
  refine Q8_guest h (fun hp => cK0_mk ?_) (fun hp => cK0_ex (key (fun n => hp n.1)))
  refine Q8_guest h (fun hq => cK0_mk ?_) (fun hq => cK0_ex (key (fun n => hq n.2)))
  obtain ⟨u, hu, rfl⟩ := isG_c hp
  obtain ⟨v, hv, rfl⟩ := isG_c hq
  refine Q8_orders h (fun X1 Y1 kp1 h1 pk1 lk1 ok1 => cK0_mk ?_)
  refine Q8_apart h1 pk1 hu hv (fun z hz => cK1_mk ⟨fun q1 => ?_, fun q1 => ?_⟩)
  · have az := hz.mp (z11 q1)
    refine Q8_row9 h1 ok1 (by omega) (fun X2 Y2 kp2 h2 ok2 => ?_)
    refine Q8_row9 h2 ok2 (by omega) (fun X3 Y3 kp3 h3 ok3 => ?_)
    refine Q8_cut9 h3 ok3 (fun X4 Y4 z4 kp4 h4 ok4 hz4 => ?_)
    refine Q8_row9 h4 ok4 (by omega) (fun X5 Y5 kp5 h5 ok5 => ?_)
    refine Q8_row9 h5 ok5 (by omega) (fun X6 Y6 kp6 h6 ok6 => ?_)
    refine Q8_cut9 h6 ok6 (fun X7 Y7 z7 kp7 h7 ok7 hz7 => ?_)
    have k' := k _ _ ((((((kp1.trans kp2).trans kp3).trans kp4).trans kp5).trans kp6).trans kp7) h7
    unfold aMust at k'
    rw [cif_y (And.intro hp hq), m_clamp (by omega), m_clamp (by omega)] at k'
    have ct := fun (o : Nat → Nat) (ho : LyN (sm s) (mayO s) (sm s) o) => ctA_or h.si hu hv az.1 az.2 (ho.any (may' := mayQ s) (fun i hi => (ho i hi).2.2.1))
    by_cases hl : layO s
    · have ne : nI u ≠ nI v := fun e => az.1 ((m_eq (by omega) (by omega)).mp e)
      rw [cif_y (And.intro hl (And.intro ne az.2))] at k'
      obtain ⟨o0, ho0⟩ := layO_ex hl
      have y4 : z4 = true ↔ ∃ o, LyN (sm s) (mayO s) (sm s) o ∧ ctA s u v o := by rw [hz4]; exact ⟨fun q => q.2, fun q => ⟨hl, q⟩⟩
      have y7 : z7 = true ↔ ∃ o, LyN (sm s) (mayO s) (sm s) o ∧ ctA s v u o := by rw [hz7]; exact ⟨fun q => q.2, fun q => ⟨hl, q⟩⟩
      have all1 : z7 = false → ∀ o, LyN (sm s) (mayO s) (sm s) o → ctA s u v o := fun e o ho => by
        rcases (ct o ho).1 with q | q
        · exact q
        · rw [y7.mpr ⟨o, ho, q⟩] at e; cases e
      have all0 : z4 = false → ∀ o, LyN (sm s) (mayO s) (sm s) o → ¬ ctA s u v o := fun e o ho q => by
        rw [y4.mpr ⟨o, ho, q⟩] at e; cases e
      cases z4 with
      | false =>
        cases z7 with
        | false => exact absurd (all1 rfl o0 ho0) (all0 rfl o0 ho0)
        | true =>
          rw [cif_n (fun q => all0 rfl o0 ho0 (q o0 ho0)), cif_y (all0 rfl)] at k'
          exact ⟨fun _ => ⟨fun q => absurd q (by decide), fun _ => k'⟩, fun q => absurd rfl q⟩
      | true =>
        obtain ⟨o1, o2, o3⟩ := y4.mp rfl
        refine ⟨fun q => absurd q (by decide), fun _ => ?_⟩
        cases z7 with
        | false =>
          rw [cif_y (all1 rfl)] at k'
          exact ⟨fun _ => k', fun q => absurd rfl q⟩
        | true =>
          obtain ⟨o4, o5, o6⟩ := y7.mp rfl
          rw [cif_n (fun q => (ct o4 o5).2 ⟨q o4 o5, o6⟩), cif_n (fun q => q o1 o2 o3)] at k'
          exact ⟨fun q => absurd q (by decide), fun _ => k'⟩
    · rw [cif_n (fun q => hl q.1)] at k'
      have e4 : z4 = false := by cases z4 with | false => rfl | true => exact absurd (hz4.mp rfl).1 hl
      have e7 : z7 = false := by cases z7 with | false => rfl | true => exact absurd (hz7.mp rfl).1 hl
      subst e4
      subst e7
      exact ⟨fun _ => ⟨fun _ => k', fun q => absurd rfl q⟩, fun q => absurd rfl q⟩
  · have az : ¬ (u ≠ v ∧ ¬ Eo (Ms s) u v) := fun q => q1 (by rw [hz.mpr q]; decide)
    have k' := k _ _ kp1 h1
    unfold aMust at k'
    rw [cif_y (And.intro hp hq), m_clamp (by omega), m_clamp (by omega), cif_n (fun q => az ⟨fun e => q.2.1 (by rw [e]), q.2.2⟩)] at k'
    exact k'
theorem X8_between_s {p q t : Int32} (h : Qw CK S1 S2 X Y s) (k : ∀ X' Y', Kp b X X' Y Y' → Qw CK S1 S2 X' Y' s → Q (aBetween s p q t) (LX8 b) X' Y') : tX8_between b [.ref 0, .int p, .int q, .int t] (LX8 b) X Y Q := by
  have g9 := h.si.1
  have key : ¬ (isG s p ∧ isG s q ∧ isG s t) → Q (.inr XI) (LX8 b) X Y := fun n => by
    have k' := k _ _ Kp.rfl h
    unfold aBetween at k'
    rw [cif_n n] at k'
    exact k'
  apply tX8_between_i
  refine Q8_guest h (fun hp => cK0_mk ?_) (fun hp => cK0_ex (key (fun n => hp n.1)))
  refine Q8_guest h (fun hq => cK0_mk ?_) (fun hq => cK0_ex (key (fun n => hq n.2.1)))
  refine Q8_guest h (fun ht => cK0_mk ?_) (fun ht => cK0_ex (key (fun n => ht n.2.2)))
  obtain ⟨u, hu, rfl⟩ := isG_c hp
  obtain ⟨v, hv, rfl⟩ := isG_c hq
  obtain ⟨w, hw, rfl⟩ := isG_c ht
  refine Q8_needL h (fun hl X1 Y1 kp1 h1 e4 pk1 lk1 => cK0_mk ?_) (fun hl X1 Y1 kp1 h1 => cK0_ex ?_)
  · have m9 := lay_9 h.si hl
    have ans : ∀ X' Y', Kp b X X' Y Y' → Qw CK S1 S2 X' Y' s → Q (rI (iB (btwQ s u v w))) (LX8 b) X' Y' := fun X' Y' kp hq' => by
      have k' := k _ _ kp hq'
      unfold aBetween at k'
      rw [cif_y (And.intro hp (And.intro hq ht)), cif_y hl, m_clamp (by omega), m_clamp (by omega), m_clamp (by omega)] at k'
      exact k'
    have no : ∀ X' Y', Kp b X X' Y Y' → Qw CK S1 S2 X' Y' s → ¬ btwQ s u v w → Q (.inl (some (.int (nI 0)))) (LX8 b) X' Y' := fun X' Y' kp hq' n => by
      have a := ans X' Y' kp hq'
      unfold iB at a
      rw [if_neg n] at a
      exact a
    refine Q8_apart h1 pk1 hu hv (fun z1 hz1 => cK1_mk ⟨fun q1 => ⟨(by first | exact Or.inl rfl | exact Or.inr rfl | exact Or.inl trivial | exact Or.inr trivial), no _ _ kp1 h1 (fun n => ?_)⟩, fun q1 => ?_⟩)
    · rw [hz1.mpr ⟨n.1.1, n.1.2.2.2.1⟩] at q1; exact absurd q1 (by decide)
    refine Q8_apart h1 pk1 hv hw (fun z2 hz2 => cK1_mk ⟨fun q2 => ⟨(by first | exact Or.inl rfl | exact Or.inr rfl | exact Or.inl trivial | exact Or.inr trivial), no _ _ kp1 h1 (fun n => ?_)⟩, fun q2 => ?_⟩)
    · rw [hz2.mpr ⟨n.1.2.1, n.1.2.2.2.2.1⟩] at q2; exact absurd q2 (by decide)
    refine Q8_apart h1 pk1 hu hw (fun z3 hz3 => cK1_mk ⟨fun q3 => ?_, fun q3 => ⟨(by first | exact Or.inl rfl | exact Or.inr rfl | exact Or.inl trivial | exact Or.inr trivial), no _ _ kp1 h1 (fun n => ?_)⟩⟩)
    · have a1 := hz1.mp (z11 q1)
      have a2 := hz2.mp (z11 q2)
      have a3 := hz3.mp (z11 q3)
      refine Q8_row1 h1 lk1 (by omega) (fun X2 Y2 kp2 h2 lk2 => ?_)
      refine Q8_row1 h2 lk2 (by omega) (fun X3 Y3 kp3 h3 lk3 => ?_)
      refine Q8_row1 h3 lk3 (by omega) (fun X4 Y4 kp4 h4 lk4 => ?_)
      have ru := rw_27 h.si (by omega : sm s ≤ 27) u
      have rv := rw_27 h.si (by omega : sm s ≤ 27) v
      have rw' := rw_27 h.si (by omega : sm s ≤ 27) w
      rw [m_or]
      have hor : rwM (Ms s) (sG s) u ||| rwM (Ms s) (sG s) w < 134217728 := Nat.or_lt_two_pow (n := 27) ru rw'
      have c1 : ctP (sm s) (mayQ s) (rwM (Ms s) (sG s) v) (rwM (Ms s) (sG s) u ||| rwM (Ms s) (sG s) w) ↔ ∃ o, LyN (sm s) (mayQ s) (sm s) o ∧ ctA s v u o ∧ ctA s v w o := by
        unfold ctP
        exact exists_congr (fun o => and_congr_right (fun _ => ctA_lo))
      have c2 : ctP (sm s) (mayQ s) (rwM (Ms s) (sG s) u ||| rwM (Ms s) (sG s) w) (rwM (Ms s) (sG s) v) ↔ ∃ o, LyN (sm s) (mayQ s) (sm s) o ∧ ctA s u v o ∧ ctA s w v o := by
        unfold ctP
        exact exists_congr (fun o => and_congr_right (fun _ => ctA_hi))
      have bt : btwQ s u v w ↔ ¬ (∃ o, LyN (sm s) (mayQ s) (sm s) o ∧ ctA s v u o ∧ ctA s v w o) ∧ ¬ ∃ o, LyN (sm s) (mayQ s) (sm s) o ∧ ctA s u v o ∧ ctA s w v o := by
        constructor
        · rintro ⟨-, n⟩
          exact ⟨fun ⟨o, o1, o2⟩ => (n o o1).1 o2, fun ⟨o, o1, o2⟩ => (n o o1).2 o2⟩
        · rintro ⟨n1, n2⟩
          exact ⟨⟨a1.1, a2.1, a3.1, a1.2, a2.2, a3.2⟩, fun o ho => ⟨fun q => n1 ⟨o, ho, q⟩, fun q => n2 ⟨o, ho, q⟩⟩⟩
      refine Q8_cut1 h4 lk4 rv hor (fun X5 Y5 z5 kp5 h5 lk5 hz5 => ⟨fun q5 => ⟨(by first | exact Or.inl rfl | exact Or.inr rfl | exact Or.inl trivial | exact Or.inr trivial), no _ _ ((((kp1.trans kp2).trans kp3).trans kp4).trans kp5) h5 (fun n => (bt.mp n).1 (c1.mp (hz5.mp (z11 q5)).2))⟩, fun q5 => ?_⟩)
      refine Q8_cut1 h5 lk5 hor rv (fun X6 Y6 z6 kp6 h6 lk6 hz6 => ⟨fun q6 => ⟨(by first | exact Or.inl rfl | exact Or.inr rfl | exact Or.inl trivial | exact Or.inr trivial), no _ _ (((((kp1.trans kp2).trans kp3).trans kp4).trans kp5).trans kp6) h6 (fun n => (bt.mp n).2 (c2.mp (hz6.mp (z11 q6)).2))⟩, fun q6 => ⟨(by first | exact Or.inl rfl | exact Or.inr rfl | exact Or.inl trivial | exact Or.inr trivial), ?_⟩⟩)
      have a := ans _ _ (((((kp1.trans kp2).trans kp3).trans kp4).trans kp5).trans kp6) h6
      unfold iB at a
      rw [if_pos (bt.mpr ⟨fun q => q5 (by rw [hz5.mpr ⟨hl, c1.mpr q⟩]; decide), fun q => q6 (by rw [hz6.mpr ⟨hl, c2.mpr q⟩]; decide)⟩)] at a
      exact a
    · exact q3 (by rw [hz3.mpr ⟨n.1.2.2.1, n.1.2.2.2.2.2⟩]; decide)
  · have k' := k _ _ kp1 h1
    unfold aBetween at k'
    rw [cif_y (And.intro hp (And.intro hq ht)), cif_n hl] at k'
    exact k'
end Ahd8
