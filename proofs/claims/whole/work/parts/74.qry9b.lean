/-! more questions, by the reference -/
section Qry9b
variable {CM : HX → St → Prop} {X X' : HX} {Y Y' : HY} {s : St} {r : Ly} {Q : Qt}
theorem X9_stays_s {p l : Int32} (h : Mw CM X Y s) (k : ∀ X' Y' res, ScM X X' Y Y' → Mw CM X' Y' s → ansM cdG (aStays s p l) (X' 0 0) res → Q res (LX9 ++ r) X' Y') : tX9_stays [.ref 0, .int p, .int l] (LX9 ++ r) X Y Q := by
  have g9 := h.si.1
  apply tX9_stays_i
  refine Q9_guest h (fun z hz => cK1_mk ⟨fun q => ?_, fun q => ?_⟩)
  · have hg := hz.mp (z11 q)
    obtain ⟨g, hg', rfl⟩ := isG_c hg
    refine Q9_ready h (fun hl X1 Y1 sc1 e1 h1 n1 m1 w1 => cK1_mk ?_) (fun hl X1 Y1 sc1 e1 h1 n1 => cK1_mk ?_)
    · have h9 := lay_9 h.si hl
      have P := Pl_r h.si hl g hg'
      have lt := leQ_lt h.si hl
      simp (disch := omega) only [m_0, m_L0, m_lt, m_le, m_eq, m_neg, m_in, m_clamp, m_add, m_sub, m_pred, m_mul, m_l, m_i, m_Land, m_Lor, m_and, m_or, m_xor, m_Landn, m_andn, m_LshlP, m_shl, m_LbitP, m_bit, m_cmp0P, m_Lb0, m_Lb1, m_b0, m_b1, Nat.one_mul, up2_same]
      refine ⟨fun _ => ⟨fun _ => ?_, fun y => (by first | exact absurd trivial y | exact absurd rfl y | exact absurd y (by omega) | exact absurd (by omega) y | exact absurd y (by decide) | exact absurd (by decide) y)⟩, fun y => (by first | exact absurd trivial y | exact absurd rfl y | exact absurd y (by omega) | exact absurd (by omega) y | exact absurd y (by decide) | exact absurd (by decide) y)⟩
      refine Q9_least (h1.sc (.up (i := 0) (by decide))) hl (m1.up (by omega) (by omega) (by omega) (by omega)) w1 (fun X2 sc2 e2 h2 m2 l2 => cK0_mk ?_)
      have kk := fun res => k X2 Y1 res ((sc1.trans (.up (i := 0) (v := nI 0) (by decide))).trans sc2) h2
      unfold aStays at kk
      rw [cif_y hg, cif_y hl, show X2 0 0 = nI 0 by rw [e2, up2_same], m_clamp (by omega)] at kk
      refine ⟨fun q => ?_, fun q => ?_⟩
      · have q' : l = 0 := q
        rw [cif_y q'] at kk
        refine X9_first_s h9 m2.2.1 hg' lt l2 ⟨_, P.1.1, P.1.2.1⟩ (fun x x1 x2 x3 => cK1_mk ?_)
        have : x = fpQ s g := by
          have : ¬ x < fpQ s g := fun z => P.1.2.2 _ z x2
          have : ¬ fpQ s g < x := fun z => x3 _ z P.1.2.1
          omega
        rw [this]; exact kk _ ⟨rfl, rfl⟩
      · have q' : ¬ l = 0 := q
        rw [cif_n q'] at kk
        refine X9_last_s m2.1.2.1 h9 m2.2.1 hg' lt l2 ⟨_, P.2.1, P.2.2.1⟩ (fun x x1 x2 x3 => cK1_mk ?_)
        have : x = lpQ s g := by
          have : ¬ x < lpQ s g := fun z => x3 _ z P.2.1 P.2.2.1
          have : ¬ lpQ s g < x := fun z => P.2.2.2 _ z x1 x2
          omega
        rw [this]; exact kk _ ⟨rfl, rfl⟩
    · simp (disch := omega) only [m_0, m_L0, m_lt, m_le, m_eq, m_neg, m_in, m_clamp, m_add, m_sub, m_pred, m_mul, m_l, m_i, m_Land, m_Lor, m_and, m_or, m_xor, m_Landn, m_andn, m_LshlP, m_shl, m_LbitP, m_bit, m_cmp0P, m_Lb0, m_Lb1, m_b0, m_b1, Nat.one_mul, up2_same]
      refine ⟨fun y => (by first | exact absurd trivial y | exact absurd rfl y | exact absurd y (by omega) | exact absurd (by omega) y | exact absurd y (by decide) | exact absurd (by decide) y), fun _ => ⟨fun y => (by first | exact absurd trivial y | exact absurd rfl y | exact absurd y (by omega) | exact absurd (by omega) y | exact absurd y (by decide) | exact absurd (by decide) y), fun _ => k _ _ _ (sc1.trans (.up (by decide))) (h1.sc (.up (by decide))) ?_⟩⟩
      unfold aStays
      rw [cif_y hg, cif_n hl]
      exact ⟨up2_same, _, rfl⟩
  · have hg : ¬ isG s p := fun y => q (by rw [hz.mpr y]; decide)
    simp (disch := omega) only [m_0, m_L0, m_lt, m_le, m_eq, m_neg, m_in, m_clamp, m_add, m_sub, m_pred, m_mul, m_l, m_i, m_Land, m_Lor, m_and, m_or, m_xor, m_Landn, m_andn, m_LshlP, m_shl, m_LbitP, m_bit, m_cmp0P, m_Lb0, m_Lb1, m_b0, m_b1, Nat.one_mul, up2_same]
    refine ⟨fun y => (by first | exact absurd trivial y | exact absurd rfl y | exact absurd y (by omega) | exact absurd (by omega) y | exact absurd y (by decide) | exact absurd (by decide) y), fun _ => k _ _ _ (.up (by decide)) (h.sc (.up (by decide))) ?_⟩
    unfold aStays
    rw [cif_n hg]
    exact ⟨up2_same, _, rfl⟩
theorem X9_count_a (h : Mw CM X Y s) (k : ∀ X' Y' res, ScM X X' Y Y' → Mw CM X' Y' s → ansM cd1 (aCount s) (X' 0 0) res → Q res (LX9 ++ r) X' Y') : tX9_count [.ref 0] (LX9 ++ r) X Y Q := by
  have s0 : ScM X (up2 X 0 0 (nI 0)) Y Y := .up (by decide)
  apply tX9_count_i
  refine Q9_ready (h.sc s0) (fun hl X1 Y1 sc1 e1 h1 n1 m1 w1 => cK1_mk ?_) (fun hl X1 Y1 sc1 e1 h1 n1 => cK1_mk ?_)
  · have e0 := w1 0 (Nat.two_pow_pos _)
    simp (disch := omega) only [m_0, m_L0, m_lt, m_le, m_eq, m_neg, m_in, m_clamp, m_add, m_sub, m_pred, m_mul, m_l, m_i, m_Land, m_Lor, m_and, m_or, m_xor, m_Landn, m_andn, m_LshlP, m_shl, m_LbitP, m_bit, m_cmp0P, m_Lb0, m_Lb1, m_b0, m_b1, Nat.one_mul, e0]
    refine ⟨fun y => (by first | exact absurd trivial y | exact absurd rfl y | exact absurd y (by omega) | exact absurd (by omega) y | exact absurd y (by decide) | exact absurd (by decide) y), fun _ => ⟨by omega, k _ _ _ (s0.trans sc1) h1 ⟨by rw [e1, up2_same], ?_⟩⟩⟩
    rw [cif_y hl]
  · simp (disch := omega) only [m_0, m_L0, m_lt, m_le, m_eq, m_neg, m_in, m_clamp, m_add, m_sub, m_pred, m_mul, m_l, m_i, m_Land, m_Lor, m_and, m_or, m_xor, m_Landn, m_andn, m_LshlP, m_shl, m_LbitP, m_bit, m_cmp0P, m_Lb0, m_Lb1, m_b0, m_b1, Nat.one_mul]
    refine ⟨fun _ => k _ _ _ (s0.trans sc1) h1 ⟨by rw [e1, up2_same], ?_⟩, fun y => (by first | exact absurd trivial y | exact absurd rfl y | exact absurd y (by omega) | exact absurd (by omega) y | exact absurd y (by decide) | exact absurd (by decide) y)⟩
    rw [cif_n hl]
theorem X9_opens_s (h : Mw CM X Y s) (k : ∀ X' Y' res, ScM X X' Y Y' → Mw CM X' Y' s → ansM cd1 (aOpens s) (X' 0 0) res → Q res (LX9 ++ r) X' Y') : tX9_opens [.ref 0] (LX9 ++ r) X Y Q := by
  have s0 : ScM X (up2 X 0 0 (nI 0)) Y Y := .up (by decide)
  apply tX9_opens_i
  refine Q9_plain (h.sc s0) (fun X1 sc1 e1 h1 n1 o1 _ => cK0_mk ?_)
  rw [o1]
  exact k _ _ _ (s0.trans sc1) h1 ⟨by rw [e1, up2_same], rfl⟩
theorem X9_pair_s {p q : Int32} (h : Mw CM X Y s) (k : ∀ X' Y' res, ScM X X' Y Y' → Mw CM X' Y' s → ansM cd1 (aPair s p q) (X' 0 0) res → Q res (LX9 ++ r) X' Y') : tX9_pair [.ref 0, .int p, .int q] (LX9 ++ r) X Y Q := by
  have g9 := h.si.1
  have sc : ∀ v, ScM X (up2 X 0 0 v) Y Y := fun v => .up (by decide)
  apply tX9_pair_i
  refine Q9_guest h (fun z hz => cK1_mk ⟨fun q1 => ?_, fun q1 => Q9_guest h (fun y hy => cK1_mk ⟨fun q2 => ?_, fun q2 => ?_⟩)⟩)
  · simp (disch := omega) only [m_0, m_L0, m_lt, m_le, m_eq, m_neg, m_in, m_clamp, m_add, m_sub, m_pred, m_mul, m_l, m_i, m_Land, m_Lor, m_and, m_or, m_xor, m_Landn, m_andn, m_LshlP, m_shl, m_LbitP, m_bit, m_cmp0P, m_Lb0, m_Lb1, m_b0, m_b1, Nat.one_mul, up2_same]
    refine ⟨fun y => (by first | exact absurd trivial y | exact absurd rfl y | exact absurd y (by omega) | exact absurd (by omega) y | exact absurd y (by decide) | exact absurd (by decide) y), fun _ => k _ _ _ (sc _) (h.sc (sc _)) ?_⟩
    unfold aPair
    rw [cif_n (fun y => by rw [hz.mpr y.1] at q1; exact absurd q1 (by decide))]
    exact ⟨up2_same, _, rfl⟩
  · have hp := hz.mp (z11 q1)
    have hq := hy.mp (z11 q2)
    obtain ⟨a, ha, rfl⟩ := isG_c hp
    obtain ⟨c, hc, rfl⟩ := isG_c hq
    have kk := fun res => k (up2 X 0 0 (nI 0)) Y res (sc _) (h.sc (sc _))
    unfold aPair at kk
    rw [cif_y ⟨hp, hq⟩, up2_same, m_clamp (by omega), m_clamp (by omega)] at kk
    have hs := h.sc (sc (nI 0))
    rw [up2_same]
    refine ⟨fun _ => ⟨fun hn => X9_kindOf_s h.si hs.sv (by omega) (by omega) (cK1_mk ?_), fun hn => ?_⟩, fun y => absurd (show nI 0 ≤ 0 by decide) y⟩
    · rw [cif_n hn] at kk; exact kk _ ⟨rfl, rfl⟩
    · rw [cif_y (Classical.not_not.mp hn)] at kk; exact kk _ ⟨rfl, rfl⟩
  · rw [up2_same]
    refine ⟨fun y => absurd y (show ¬ nI 1 ≤ 0 by decide), fun _ => k _ _ _ (sc _) (h.sc (sc _)) ?_⟩
    unfold aPair
    rw [cif_n (fun y => q2 (by rw [hy.mpr y.2]; decide))]
    exact ⟨up2_same, _, rfl⟩
theorem X9_knot_s (h : Mw CM X Y s) (k : ∀ X' Y' res, ScM X X' Y Y' → Mw CM X' Y' s → ansM cd1 (aKnot s) (X' 0 0) res → Q res (LX9 ++ r) X' Y') : tX9_knot [.ref 0] (LX9 ++ r) X Y Q := by
  have s0 : ScM X (up2 X 0 0 (nI 0)) Y Y := .up (by decide)
  apply tX9_knot_i
  refine Q9_canP (h.sc s0) (fun z X1 sc1 e1 h1 n1 hz => cK1_mk ?_)
  have kk := fun res => k X1 Y res (s0.trans sc1) h1
  unfold aKnot at kk
  rw [e1, up2_same] at kk
  refine ⟨fun q => Q9_all h1 (cK1_mk (X9_noRing_s n1 (Ms_gm h.si) (full10 h.si) (fun y hy => cK1_mk ?_))), fun q => ?_⟩
  · rw [cif_n (fun y => by rw [hz.mpr y] at q; exact absurd q (by decide))] at kk
    refine ⟨fun q2 => ?_, fun q2 => ?_⟩
    · rw [cif_n (fun y' => by rw [hy.mpr y'] at q2; exact absurd q2 (by decide))] at kk; exact kk _ ⟨rfl, rfl⟩
    · rw [cif_y (hy.mp (z11 q2))] at kk; exact kk _ ⟨rfl, rfl⟩
  · rw [cif_y (hz.mp (z11 q))] at kk; exact kk _ ⟨rfl, rfl⟩
/-- rooms given, by the reference -/
theorem Q9_rooms (h : Mw CM X Y s) (hl : layQ s) (m : MKo X s) (l2 : ∀ p, p < sm s → X 13 p = nI (leQ s p)) (k : ∀ X' (mx : Int), ScM X X' Y Y → X' 0 0 = X 0 0 → Mw CM X' Y s → (∀ g, g < sG s → X' 27 g = nI (rmQ s g) ∧ rmQ s g < 9) → mx + 1 = rmsQ s → mx < 9 → Q (.inl (some (.int (zI mx)))) (LX9 ++ r) X' Y) : tX9_giveRooms [.ref 0] (LX9 ++ r) X Y Q := by
  have g9 := h.si.1
  have h9 := lay_9 h.si hl
  refine X9_rooms_s h.sv.1 m.1.2.1 h9 m.2.1 (Nat.le_refl _) g9 (leQ_lt h.si hl) l2 (Pl_r h.si hl) (fun X' W mx f1 hW hx b1 b2 b3 b4 => ?_)
  have sc : ScM X X' Y Y := .cell (by decide) f1
  have eW := rmQ_eq hW
  refine k X' mx sc (by rw [f1 0 (by omega)]) (h.sc sc) (fun g hg => by rw [← eW g hg]; exact hx g hg) ?_ b2
  have e : rmsQ s = (mx + 1).toNat := rms_eq (fun g hg => by have := b3 g hg; rw [eW g hg] at this; omega) (by
    rcases b4 with z | ⟨g, hg, z⟩
    · left; omega
    · right; refine ⟨g, hg, ?_⟩; rw [eW g hg] at z; omega)
  rw [e]; omega
theorem X9_room_s {p : Int32} (h : Mw CM X Y s) (k : ∀ X' Y' res, ScM X X' Y Y' → Mw CM X' Y' s → ansM cdG (aRoom s p) (X' 0 0) res → Q res (LX9 ++ r) X' Y') : tX9_room [.ref 0, .int p] (LX9 ++ r) X Y Q := by
  have g9 := h.si.1
  apply tX9_room_i
  refine Q9_guest h (fun z hz => cK1_mk ⟨fun q => ?_, fun q => ?_⟩)
  · have hg := hz.mp (z11 q)
    obtain ⟨g, hg', rfl⟩ := isG_c hg
    refine Q9_ready h (fun hl X1 Y1 sc1 e1 h1 n1 m1 w1 => cK1_mk ?_) (fun hl X1 Y1 sc1 e1 h1 n1 => cK1_mk ?_)
    · simp (disch := omega) only [m_0, m_L0, m_lt, m_le, m_eq, m_neg, m_in, m_clamp, m_add, m_sub, m_pred, m_mul, m_l, m_i, m_Land, m_Lor, m_and, m_or, m_xor, m_Landn, m_andn, m_LshlP, m_shl, m_LbitP, m_bit, m_cmp0P, m_Lb0, m_Lb1, m_b0, m_b1, Nat.one_mul, up2_same]
      refine ⟨fun _ => ⟨fun _ => ?_, fun y => (by first | exact absurd trivial y | exact absurd rfl y | exact absurd y (by omega) | exact absurd (by omega) y | exact absurd y (by decide) | exact absurd (by decide) y)⟩, fun y => (by first | exact absurd trivial y | exact absurd rfl y | exact absurd y (by omega) | exact absurd (by omega) y | exact absurd y (by decide) | exact absurd (by decide) y)⟩
      refine Q9_least (h1.sc (.up (i := 0) (by decide))) hl (m1.up (by omega) (by omega) (by omega) (by omega)) w1 (fun X2 sc2 e2 h2 m2 l2 => cK0_mk ?_)
      refine Q9_rooms h2 hl m2 l2 (fun X3 mx sc3 e3 h3 x3 _ _ => cK1_mk ?_)
      simp (disch := omega) only [m_0, m_L0, m_lt, m_le, m_eq, m_neg, m_in, m_clamp, m_add, m_sub, m_pred, m_mul, m_l, m_i, m_Land, m_Lor, m_and, m_or, m_xor, m_Landn, m_andn, m_LshlP, m_shl, m_LbitP, m_bit, m_cmp0P, m_Lb0, m_Lb1, m_b0, m_b1, Nat.one_mul, (x3 g hg').1]
      refine ⟨by omega, k _ _ _ (((sc1.trans (.up (i := 0) (v := nI 0) (by decide))).trans sc2).trans sc3) h3 ?_⟩
      unfold aRoom
      rw [cif_y hg, cif_y hl, m_clamp (by omega)]
      exact ⟨by rw [e3, e2, up2_same], rfl⟩
    · simp (disch := omega) only [m_0, m_L0, m_lt, m_le, m_eq, m_neg, m_in, m_clamp, m_add, m_sub, m_pred, m_mul, m_l, m_i, m_Land, m_Lor, m_and, m_or, m_xor, m_Landn, m_andn, m_LshlP, m_shl, m_LbitP, m_bit, m_cmp0P, m_Lb0, m_Lb1, m_b0, m_b1, Nat.one_mul, up2_same]
      refine ⟨fun y => (by first | exact absurd trivial y | exact absurd rfl y | exact absurd y (by omega) | exact absurd (by omega) y | exact absurd y (by decide) | exact absurd (by decide) y), fun _ => ⟨fun y => (by first | exact absurd trivial y | exact absurd rfl y | exact absurd y (by omega) | exact absurd (by omega) y | exact absurd y (by decide) | exact absurd (by decide) y), fun _ => k _ _ _ (sc1.trans (.up (by decide))) (h1.sc (.up (by decide))) ?_⟩⟩
      unfold aRoom
      rw [cif_y hg, cif_n hl]
      exact ⟨up2_same, _, rfl⟩
  · have hg : ¬ isG s p := fun y => q (by rw [hz.mpr y]; decide)
    simp (disch := omega) only [m_0, m_L0, m_lt, m_le, m_eq, m_neg, m_in, m_clamp, m_add, m_sub, m_pred, m_mul, m_l, m_i, m_Land, m_Lor, m_and, m_or, m_xor, m_Landn, m_andn, m_LshlP, m_shl, m_LbitP, m_bit, m_cmp0P, m_Lb0, m_Lb1, m_b0, m_b1, Nat.one_mul, up2_same]
    refine ⟨fun y => (by first | exact absurd trivial y | exact absurd rfl y | exact absurd y (by omega) | exact absurd (by omega) y | exact absurd y (by decide) | exact absurd (by decide) y), fun _ => k _ _ _ (.up (by decide)) (h.sc (.up (by decide))) ?_⟩
    unfold aRoom
    rw [cif_n hg]
    exact ⟨up2_same, _, rfl⟩
theorem X9_rooms_a (h : Mw CM X Y s) (k : ∀ X' Y' res, ScM X X' Y Y' → Mw CM X' Y' s → ansM cd1 (aRooms s) (X' 0 0) res → Q res (LX9 ++ r) X' Y') : tX9_rooms [.ref 0] (LX9 ++ r) X Y Q := by
  apply tX9_rooms_i
  refine Q9_ready h (fun hl X1 Y1 sc1 e1 h1 n1 m1 w1 => cK1_mk ?_) (fun hl X1 Y1 sc1 e1 h1 n1 => cK1_mk ?_)
  · simp (disch := omega) only [m_0, m_L0, m_lt, m_le, m_eq, m_neg, m_in, m_clamp, m_add, m_sub, m_pred, m_mul, m_l, m_i, m_Land, m_Lor, m_and, m_or, m_xor, m_Landn, m_andn, m_LshlP, m_shl, m_LbitP, m_bit, m_cmp0P, m_Lb0, m_Lb1, m_b0, m_b1, Nat.one_mul, up2_same]
    refine ⟨fun _ => ⟨fun _ => ?_, fun y => (by first | exact absurd trivial y | exact absurd rfl y | exact absurd y (by omega) | exact absurd (by omega) y | exact absurd y (by decide) | exact absurd (by decide) y)⟩, fun y => (by first | exact absurd trivial y | exact absurd rfl y | exact absurd y (by omega) | exact absurd (by omega) y | exact absurd y (by decide) | exact absurd (by decide) y)⟩
    refine Q9_least (h1.sc (.up (i := 0) (by decide))) hl (m1.up (by omega) (by omega) (by omega) (by omega)) w1 (fun X2 sc2 e2 h2 m2 l2 => cK0_mk ?_)
    refine Q9_rooms h2 hl m2 l2 (fun X3 mx sc3 e3 h3 x3 em _ => cK1_mk ?_)
    have e9 : zI mx + nI 1 = nI (rmsQ s) := by
      rw [← m_zI 1, m_zadd, ← m_zI]; congr 1
    rw [e9]
    refine k _ _ _ (((sc1.trans (.up (i := 0) (v := nI 0) (by decide))).trans sc2).trans sc3) h3 ?_
    unfold aRooms
    rw [cif_y hl]
    exact ⟨by rw [e3, e2, up2_same], rfl⟩
  · simp (disch := omega) only [m_0, m_L0, m_lt, m_le, m_eq, m_neg, m_in, m_clamp, m_add, m_sub, m_pred, m_mul, m_l, m_i, m_Land, m_Lor, m_and, m_or, m_xor, m_Landn, m_andn, m_LshlP, m_shl, m_LbitP, m_bit, m_cmp0P, m_Lb0, m_Lb1, m_b0, m_b1, Nat.one_mul, up2_same]
    refine ⟨fun y => (by first | exact absurd trivial y | exact absurd rfl y | exact absurd y (by omega) | exact absurd (by omega) y | exact absurd y (by decide) | exact absurd (by decide) y), fun _ => ⟨fun y => (by first | exact absurd trivial y | exact absurd rfl y | exact absurd y (by omega) | exact absurd (by omega) y | exact absurd y (by decide) | exact absurd (by decide) y), fun _ => k _ _ _ (sc1.trans (.up (by decide))) (h1.sc (.up (by decide))) ?_⟩⟩
    unfold aRooms
    rw [cif_n hl]
    exact ⟨up2_same, _, rfl⟩
end Qry9b
