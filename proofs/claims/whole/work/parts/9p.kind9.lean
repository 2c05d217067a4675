/-! twice and kind, by the reference: the methods -/
section Twk9
variable {CM : HX → St → Prop} {X X' : HX} {Y Y' : HY} {s : St} {r : Ly} {Q : Qt}
theorem X9_canTwice_s {g : Nat} (h : Mw CM X Y s) (hg : g < sG s) (k : ∀ X' (z : Bool), ScM X X' Y Y → X' 0 0 = X 0 0 → Mw CM X' Y s → (z = true ↔ twP s g) → Q (rI (nI z.toNat)) (LX9 ++ r) X' Y) : tX9_canTwice [.ref 0, .int (nI g)] (LX9 ++ r) X Y Q := by
  have g9 := h.si.1
  have si := h.si
  have gL := Ms_lt h.si g
  have gn : g ≠ sG s := by omega
  apply tX9_canTwice_i
  refine Q9_plain h (fun X1 sc1 e1 h1 n1 _ _ => cK0_mk ⟨(m_in (by omega)).mpr (by omega), (m_in (by omega)).mpr (by omega), ?_⟩)
  rw [m_clamp (by omega), m_clamp (by omega), (n1 g (by omega)).1, h1.sv.1]
  have K9 : ∀ i, i ≤ 9 → 3 ^ metN s g i ≤ 19683 := fun i hi => by
    have h1 := metN_le (s := s) (g := g) i
    exact Nat.le_trans (Nat.pow_le_pow_right (n := 3) (by omega) (show metN s g i ≤ 9 by omega)) (by decide)
  have Kn := K9 (sG s) g9
  have bitE : ∀ i, (Ms s g).testBit i = true ↔ Eo (Ms s) g i := fun i => Iff.rfl
  -- all gifts, one after another
  have H55 : ∀ t a X2 M, a + t = 3 ^ metN s g (sG s) → ScM X X2 Y Y → X2 0 0 = X 0 0 → Mw CM X2 Y s → (∀ y, y < 10 → X2 7 y = nI (M y)) → tjP s g (sG s) M → (∀ a', a' < a → ¬ CL (tE (Eo (Ms s)) g (sG s) (dgN s g a')) (twV (sG s) (sG s))) → hX9_canTwice_55 Q r (nI g) (nI (Ms s g)) (nI (sG s)) (nI (3 ^ metN s g (sG s))) (nI a) X2 Y := by
    intro t
    induction t with
    | zero =>
      intro a X2 M ha sc2 e2 h2 m2 tj no
      apply hX9_canTwice_55_i
      rw [m_le (by omega) (by omega)]
      refine ⟨fun _ => ⟨(by first | exact Or.inl rfl | exact Or.inr rfl | exact Or.inl trivial | exact Or.inr trivial), k X2 false sc2 e2 h2 ⟨fun z => (by cases z), fun z => ?_⟩⟩, fun q => absurd (by omega) q⟩
      obtain ⟨D, d1, d2⟩ := z
      obtain ⟨a', a1, a2⟩ := dg_ex (s := s) (g := g) d1 (sG s)
      refine absurd ?_ (no a' (by omega))
      exact (tw_z g9 (Nat.le_refl _) hg d2).cong (fun x y _ _ => tE_D (fun v hv => (a2 v (Ms_bd g v hv).2 hv).symm))
    | succ t ih =>
      intro a X2 M ha sc2 e2 h2 m2 tj no
      apply hX9_canTwice_55_i
      rw [m_le (by omega) (by omega), m_clamp (by omega), m_clamp (by omega)]
      refine ⟨fun q => absurd q (by omega), fun _ => ⟨(m_in (by omega)).mpr (by omega), (m_in (by omega)).mpr (by omega), ?_⟩⟩
      have sz : ScM X2 (up2 (up2 X2 7 g (nI 0)) 7 (sG s) (nI 0)) Y Y := .cell (c0 := 7) (by decide) (fun c hc => by rw [up2_row hc, up2_row hc])
      have H83 : ∀ u i X3 M3, i + u = sG s → ScM X X3 Y Y → X3 0 0 = X 0 0 → Mw CM X3 Y s → (∀ y, y < 10 → X3 7 y = nI (M3 y)) → tiP s g (sG s) (dgN s g a) i M3 → hX9_canTwice_83 Q r (nI g) (nI (Ms s g)) (nI (sG s)) (nI (3 ^ metN s g (sG s))) (nI a) (nI (a / 3 ^ metN s g i)) (nI i) X3 Y := by
        intro u
        induction u with
        | zero =>
          intro i X3 M3 hi sc3 e3 h3 m3 ti
          have ei : i = sG s := by omega
          subst ei
          have eo := ti_end si hg ti
          have T0 := Nat.two_pow_pos (sG s + 1)
          have T9 : 2 ^ (sG s + 1) ≤ 2 ^ 10 := Nat.pow_le_pow_right (by omega) (by omega)
          apply hX9_canTwice_83_i
          rw [m_le (by omega) (by omega), show (((nI 1) <<< ((nI (sG s) + (nI 1)) &&& 31)) - (nI 1)) = nI (2 ^ (sG s + 1) - 1) by simp (disch := omega) only [m_0, m_L0, m_lt, m_le, m_eq, m_neg, m_in, m_clamp, m_add, m_sub, m_pred, m_mul, m_l, m_i, m_Land, m_Lor, m_and, m_or, m_xor, m_Landn, m_andn, m_LshlP, m_shl, m_LbitP, m_bit, m_cmp0P, m_Lb0, m_Lb1, m_b0, m_b1, Nat.one_mul]]
          refine ⟨fun _ => X9_canBe_s (M := M3) (fun y hy => ⟨m3 y hy, ti.2.2.2.2 y⟩) (tE_gm si hg eo) (by omega) (fun z X4 f4 hz => cK1_mk ?_), fun q => absurd (Nat.le_refl _) q⟩
          have sc4 : ScM X3 X4 Y Y := .cell (by decide) f4
          have e4 : X4 0 0 = X 0 0 := by rw [f4 0 (by omega)]; exact e3
          have cz : cnB M3 (2 ^ (sG s + 1) - 1) ↔ CL (tE (Eo (Ms s)) g (sG s) (dgN s g a)) (twV (sG s) (sG s)) := by
            have eV : ∀ v, Bs (2 ^ (sG s + 1) - 1) v ↔ twV (sG s) (sG s) v := fun v => bs_full.trans ⟨fun q => (show v < sG s ∨ v = sG s by omega), fun q => by have q : v < sG s ∨ v = sG s := q; omega⟩
            exact ⟨fun q => (CL.ext q eV).cong (fun x y _ _ => eo x y), fun q => CL.ext (q.cong (fun x y _ _ => (eo x y).symm)) (fun v => (eV v).symm)⟩
          rw [cz] at hz
          refine ⟨fun q => ?_, fun q => ⟨(by first | exact Or.inl rfl | exact Or.inr rfl | exact Or.inl trivial | exact Or.inr trivial), ?_⟩⟩
          · rw [m_add]
            refine ih (a + 1) X4 M3 (by omega) (sc3.trans sc4) e4 (h3.sc sc4) (fun y hy => by rw [f4 7 (by omega)]; exact m3 y hy) (tj_of ti) (fun a' ha' y => ?_)
            by_cases e : a' = a
            · subst e; rw [hz.mpr y] at q; exact absurd q (by decide)
            · exact no a' (by omega) y
          · exact k X4 true (sc3.trans sc4) e4 (h3.sc sc4) ⟨fun _ => ⟨dgN s g a, fun v => by unfold dgN; omega, tw_z (Nat.le_refl _) g9 hg (hz.mp (z11 q))⟩, fun _ => rfl⟩
        | succ u ihu =>
          intro i X3 M3 hi sc3 e3 h3 m3 ti
          have hiG : i < sG s := by omega
          have pc : 0 < 3 ^ metN s g i := Nat.pow_pos (by omega)
          have qa : a / 3 ^ metN s g i ≤ a := Nat.div_le_self _ _
          have m6 : ∀ y, y < 10 → up2 X3 7 i (nI (nAn (nAn (M3 i) (2 ^ g)) (2 ^ sG s))) 7 y = nI (rmT M3 g (sG s) i y) := fun y hy => by
            rw [up2_at]
            unfold rmT
            by_cases e : y = i
            · rw [if_pos e, if_pos e]
            · rw [if_neg e, if_neg e]; exact m3 y hy
          have sc6 : ScM X3 (up2 X3 7 i (nI (nAn (nAn (M3 i) (2 ^ g)) (2 ^ sG s)))) Y Y := .cell (c0 := 7) (by decide) (fun c hc => up2_row hc)
          have e6 : up2 X3 7 i (nI (nAn (nAn (M3 i) (2 ^ g)) (2 ^ sG s))) 0 0 = X 0 0 := by rw [up2_out (by omega)]; exact e3
          apply hX9_canTwice_83_i
          rw [pk_rem (by omega) (by omega) (by omega), m_div (by omega) (by omega) (by omega), m_clamp (show i < 2147483648 by omega), m3 i (by omega)]
          rw [show (nI (M3 i) &&& (((nI 1) <<< ((nI g) &&& 31)) ^^^ (-1))) &&& (((nI 1) <<< ((nI (sG s)) &&& 31)) ^^^ (-1)) = nI (nAn (nAn (M3 i) (2 ^ g)) (2 ^ sG s)) by simp (disch := omega) only [m_0, m_L0, m_lt, m_le, m_eq, m_neg, m_in, m_clamp, m_add, m_sub, m_pred, m_mul, m_l, m_i, m_Land, m_Lor, m_and, m_or, m_xor, m_Landn, m_andn, m_LshlP, m_shl, m_LbitP, m_bit, m_cmp0P, m_Lb0, m_Lb1, m_b0, m_b1, Nat.one_mul]]
          have dd : dgN s g a i = a / 3 ^ metN s g i % 3 := rfl
          have dl : a / 3 ^ metN s g i % 3 < 3 := Nat.mod_lt _ (by omega)
          revert m6 sc6 e6
          generalize up2 X3 7 i (nI (nAn (nAn (M3 i) (2 ^ g)) (2 ^ sG s))) = X6
          intro m6 sc6 e6
          rw [m_eq (by omega) (by omega)]
          simp (disch := omega) only [m_0, m_L0, m_lt, m_le, m_eq, m_neg, m_in, m_clamp, m_add, m_sub, m_pred, m_mul, m_l, m_i, m_Land, m_Lor, m_and, m_or, m_xor, m_Landn, m_andn, m_LshlP, m_shl, m_LbitP, m_bit, m_cmp0P, m_Lb0, m_Lb1, m_b0, m_b1, Nat.one_mul]
          refine ⟨fun q => by omega, fun _ => ⟨fun hb => ?_, fun hb => ?_⟩⟩
          · have hb : Eo (Ms s) g i := by
              have := (bitE i).mp (by cases hh : (Ms s g).testBit i; exact absurd hh hb; rfl)
              exact this
            have ig : i ≠ g := fun e => Ms_irr si g (e ▸ hb)
            have inn : i ≠ sG s := by omega
            have d3 : ¬ nI 3 = nI 0 := by decide
            have en : a / 3 ^ metN s g i / 3 = a / 3 ^ metN s g (i + 1) := by rw [metN_y hb, Nat.pow_succ, Nat.div_div_eq_div_mul]
            rw [en]
            have nx : ∀ X7 M7, ScM X6 X7 Y Y → X7 0 0 = X 0 0 → (∀ y, y < 10 → X7 7 y = nI (M7 y)) → tiP s g (sG s) (dgN s g a) (i + 1) M7 → hX9_canTwice_83 Q r (nI g) (nI (Ms s g)) (nI (sG s)) (nI (3 ^ metN s g (sG s))) (nI a) (nI (a / 3 ^ metN s g (i + 1))) (nI (i + 1)) X7 Y := fun X7 M7 sc7 e7 m7 ti7 => ihu (i + 1) X7 M7 (by omega) ((sc3.trans sc6).trans sc7) e7 ((h3.sc sc6).sc sc7) m7 ti7
            have lt6 := rmT_lt (g := g) (n := sG s) (i := i) ti.2.2.2.2
            refine ⟨by omega, by omega, by omega, by omega, fun q1 => ⟨fun q0 => by omega, fun q0 => ?_⟩, fun q1 => ?_⟩
            · -- the second coming
              refine X9_link_s m6 (by omega) (by omega) (fun e => inn e.symm) (fun X7 f7 m7 => cK0_mk (nx X7 _ (.cell (by decide) f7) (by rw [f7 0 (by omega)]; exact e6) m7 (ti_put ti hb ig inn gn (fun x y => ?_) (jn_lt (n := 10) lt6 (by omega) (by omega)))))
              rw [jn_eo (fun e => inn e.symm), rmT_eo, dd, q1]
              exact ⟨fun z => z.elim Or.inl (fun z => Or.inr (Or.inr ⟨by omega, z⟩)), fun z => z.elim Or.inl (fun z => z.elim (fun z => absurd rfl z.1) (fun z => Or.inr z.2))⟩
            · refine X9_link_s m6 (by omega) (by omega) (fun e => ig e.symm) (fun X7 f7 m7 => cK0_mk ⟨fun q0 => ?_, fun q0 => ?_⟩)
              · refine nx X7 _ (.cell (by decide) f7) (by rw [f7 0 (by omega)]; exact e6) m7 (ti_put ti hb ig inn gn (fun x y => ?_) (jn_lt (n := 10) lt6 (by omega) (by omega)))
                rw [jn_eo (fun e => ig e.symm), rmT_eo, dd, q0]
                exact ⟨fun z => z.elim Or.inl (fun z => Or.inr (Or.inl ⟨by omega, z⟩)), fun z => z.elim Or.inl (fun z => z.elim (fun z => Or.inr z.2) (fun z => absurd rfl z.1))⟩
              · have d2 : a / 3 ^ metN s g i % 3 = 2 := by omega
                refine X9_link_s m7 (by omega) (by omega) (fun e => inn e.symm) (fun X8 f8 m8 => cK0_mk (nx X8 _ (.trans (.cell (by decide) f7) (.cell (by decide) f8)) (by rw [f8 0 (by omega), f7 0 (by omega)]; exact e6) m8 (ti_put ti hb ig inn gn (fun x y => ?_) (jn_lt (n := 10) (jn_lt (n := 10) lt6 (by omega) (by omega)) (by omega) (by omega)))))
                rw [jn_eo (fun e => inn e.symm), jn_eo (fun e => ig e.symm), rmT_eo, dd, d2]
                exact ⟨fun z => z.elim (fun z => z.elim Or.inl (fun z => Or.inr (Or.inl ⟨by omega, z⟩))) (fun z => Or.inr (Or.inr ⟨by omega, z⟩)), fun z => z.elim (fun z => Or.inl (Or.inl z)) (fun z => z.elim (fun z => Or.inl (Or.inr z.2)) (fun z => Or.inr z.2))⟩
          · have hb : ¬ Eo (Ms s) g i := fun y => by
              have y : (Ms s g).testBit i = true := y
              exact hb (by rw [y]; simp)
            rw [← metN_n hb]
            exact ihu (i + 1) X3 M3 (by omega) sc3 e3 h3 m3 (ti_skip ti hb)
      have h0 := H83 (sG s) 0 (up2 (up2 X2 7 g (nI 0)) 7 (sG s) (nI 0)) (zeT M g (sG s)) (by omega) (sc2.trans sz) (by rw [up2_out (by omega), up2_out (by omega)]; exact e2) (h2.sc sz) (fun y hy => by
        rw [up2_at, up2_at]
        unfold zeT
        by_cases q1 : y = sG s
        · rw [if_pos q1, if_pos q1]
        · rw [if_neg q1, if_neg q1]
          by_cases q2 : y = g
          · rw [if_pos q2, if_pos q2]
          · rw [if_neg q2, if_neg q2]; exact m2 y hy) (ti_0 tj)
      have z0 : a / 3 ^ metN s g 0 = a := by
        have : metN s g 0 = 0 := rfl
        rw [this]; simp
      rw [z0] at h0
      exact h0
  have H24 : ∀ t j, j + t = sG s → hX9_canTwice_24 Q r (nI g) (nI (Ms s g)) (nI (sG s)) (nI (3 ^ metN s g j)) (nI j) X1 Y := by
    intro t
    induction t with
    | zero =>
      intro j hj
      have ej : j = sG s := by omega
      subst ej
      apply hX9_canTwice_24_i
      rw [m_le (by omega) (by omega)]
      refine ⟨fun _ => H55 _ 0 X1 (Ms s) (Nat.zero_add _) sc1 e1 h1 (fun y hy => (n1 y hy).1) ⟨fun x y _ _ _ _ => Iff.rfl, fun y q1 q2 q3 => ⟨fun e => q3 (Ms_sym si _ _ e), fun e => by have := (Ms_bd y (sG s) e).2; omega⟩, fun y => (by have := Ms_lt si y; omega)⟩ (fun a' ha' => by omega), fun q => absurd (Nat.le_refl _) q⟩
    | succ t ih =>
      intro j hj
      have kj := K9 j (by omega)
      apply hX9_canTwice_24_i
      simp (disch := omega) only [m_0, m_L0, m_lt, m_le, m_eq, m_neg, m_in, m_clamp, m_add, m_sub, m_pred, m_mul, m_l, m_i, m_Land, m_Lor, m_and, m_or, m_xor, m_Landn, m_andn, m_LshlP, m_shl, m_LbitP, m_bit, m_cmp0P, m_Lb0, m_Lb1, m_b0, m_b1, Nat.one_mul]
      refine ⟨fun q => by omega, fun _ => ⟨fun hb => ?_, fun hb => ?_⟩⟩
      · have hb : ¬ Eo (Ms s) g j := hb
        have i1 := ih (j + 1) (by omega)
        rw [metN_n hb] at i1; exact i1
      · have hb : Eo (Ms s) g j := Classical.not_not.mp hb
        have i1 := ih (j + 1) (by omega)
        rw [metN_y hb, Nat.pow_succ, Nat.mul_comm] at i1; exact i1
  have h24 := H24 (sG s) 0 (Nat.zero_add _)
  exact h24
theorem X9_twice_s {p : Int32} (h : Mw CM X Y s) (k : ∀ X' Y' res, ScM X X' Y Y' → Mw CM X' Y' s → ansM cd1 (aTwice s p) (X' 0 0) res → Q res (LX9 ++ r) X' Y') : tX9_twice [.ref 0, .int p] (LX9 ++ r) X Y Q := by
  have sc : ∀ v, ScM X (up2 X 0 0 v) Y Y := fun v => .up (by decide)
  have hh : ∀ v, Mw CM (up2 X 0 0 v) Y s := fun v => h.sc (sc v)
  apply tX9_twice_i
  refine Q9_guest h (fun z hz => cK1_mk ⟨fun q => ?_, fun q => ?_⟩)
  · have hp := hz.mp (z11 q)
    obtain ⟨g, hg, rfl⟩ := isG_c hp
    have g9 := h.si.1
    rw [up2_same]
    refine ⟨fun y => absurd rfl y, fun _ => X9_canTwice_s (hh _) hg (fun X2 z2 sc2 e2 h2 hz2 => cK1_mk ?_)⟩
    have kk := fun res => k X2 Y res ((sc _).trans sc2) h2
    unfold aTwice at kk
    rw [cif_y hp, m_clamp (by omega), e2, up2_same] at kk
    refine ⟨fun q2 => ⟨(by first | exact Or.inl rfl | exact Or.inr rfl | exact Or.inl trivial | exact Or.inr trivial), kk _ ⟨rfl, ?_⟩⟩, fun q2 => ⟨(by first | exact Or.inl rfl | exact Or.inr rfl | exact Or.inl trivial | exact Or.inr trivial), kk _ ⟨rfl, ?_⟩⟩⟩
    · rw [iB_n (fun y => by rw [hz2.mpr y] at q2; exact absurd q2 (by decide))]
    · rw [iB_y (hz2.mp (z11 q2))]
  · have hp : ¬ isG s p := fun y => q (by rw [hz.mpr y]; decide)
    rw [up2_same]
    have kk := fun res => k (up2 X 0 0 (nI 1)) Y res (sc _) (hh _)
    unfold aTwice at kk
    rw [cif_n hp, up2_same] at kk
    exact ⟨fun _ => ⟨(by first | exact Or.inl rfl | exact Or.inr rfl | exact Or.inl trivial | exact Or.inr trivial), kk _ ⟨rfl, _, rfl⟩⟩, fun y => absurd (by decide) y⟩
theorem X9_kind_s (h : Mw CM X Y s) (k : ∀ X' Y' res, ScM X X' Y Y' → Mw CM X' Y' s → ansM cd1 (aKind s) (X' 0 0) res → Q res (LX9 ++ r) X' Y') : tX9_kind [.ref 0] (LX9 ++ r) X Y Q := by
  have s0 : ScM X (up2 X 0 0 (nI 0)) Y Y := .up (by decide)
  have g9 := h.si.1
  apply tX9_kind_i
  refine Q9_canP (h.sc s0) (fun z X1 sc1 e1 h1 n1 hz => cK1_mk ⟨fun q => ?_, fun q => ?_⟩)
  · have hl : ¬ layQ s := fun y => by rw [hz.mpr y] at q; exact absurd q (by decide)
    have e1 : X1 0 0 = nI 0 := by rw [e1, up2_same]
    refine Q9_isRound h1 n1 (fun X2 Y2 z2 sc2 e2 h2 hz2 => cK1_mk ⟨fun q2 => ?_, fun q2 => ?_⟩)
    · have hr : ¬ rdP s := fun y => by rw [hz2.mpr y] at q2; exact absurd q2 (by decide)
      have H : ∀ n j X4, j + n = sG s → ScM X2 X4 Y2 Y2 → X4 0 0 = nI 0 → Mw CM X4 Y2 s → (∀ g, g < j → ¬ twP s g) → hX9_kind_38 Q r (nI j) X4 Y2 := by
        intro n
        induction n with
        | zero =>
          intro j X4 hj sc4 e4 h4 no
          have ej : j = sG s := by omega
          subst ej
          apply hX9_kind_38_i
          rw [m_clamp (show 0 < 2147483648 by omega), h4.sv.1, m_le (by omega) (by omega)]
          refine ⟨(m_in (by omega)).mpr (by omega), fun _ => ?_, fun q => absurd (Nat.le_refl _) q⟩
          have kk := fun res => k X4 Y2 res (((s0.trans sc1).trans sc2).trans sc4) h4
          unfold aKind at kk
          rw [cif_n hl, cif_n hr, cif_n (fun ⟨g, q1, q2⟩ => no g q1 q2), e4] at kk
          exact kk _ ⟨rfl, rfl⟩
        | succ n ih =>
          intro j X4 hj sc4 e4 h4 no
          apply hX9_kind_38_i
          rw [m_clamp (show 0 < 2147483648 by omega), h4.sv.1, m_le (by omega) (by omega)]
          refine ⟨(m_in (by omega)).mpr (by omega), fun q => absurd q (by omega), fun _ => X9_canTwice_s h4 (g := j) (by omega) (fun X5 z5 sc5 e5 h5 hz5 => cK1_mk ⟨fun q5 => ?_, fun q5 => ?_⟩)⟩
          · rw [m_add]
            exact ih (j + 1) X5 (by omega) (sc4.trans sc5) (e5.trans e4) h5 (fun g hg y => by
              by_cases e : g = j
              · subst e; rw [hz5.mpr y] at q5; exact absurd q5 (by decide)
              · exact no g (by omega) y)
          · have kk := fun res => k X5 Y2 res ((((s0.trans sc1).trans sc2).trans sc4).trans sc5) h5
            unfold aKind at kk
            rw [cif_n hl, cif_n hr, cif_y ⟨j, by omega, hz5.mp (z11 q5)⟩, e5, e4] at kk
            exact kk _ ⟨rfl, rfl⟩
      exact H _ 0 X2 (Nat.zero_add _) .rfl (e2.trans e1) h2 (fun g hg => by omega)
    · have kk := fun res => k X2 Y2 res ((s0.trans sc1).trans sc2) h2
      unfold aKind at kk
      rw [cif_n hl, cif_y (hz2.mp (z11 q2)), e2, e1] at kk
      exact kk _ ⟨rfl, rfl⟩
  · have hl := hz.mp (z11 q)
    refine X9_clawOf_s (p := 0) h1 n1 (by omega) (cK1_mk ?_)
    have kk := fun res => k X1 Y res (s0.trans sc1) h1
    unfold aKind at kk
    rw [cif_y hl, e1, up2_same] at kk
    refine ⟨fun q4 => ?_, fun q4 => ?_⟩
    · rw [cif_n q4] at kk; exact kk _ ⟨rfl, rfl⟩
    · rw [cif_y (Classical.not_not.mp q4)] at kk; exact kk _ ⟨rfl, rfl⟩
end Twk9
