/-! about: what a MEMORY says -/
/-- it rules its PAIR -/
def rulB (s : St) (k0 : Nat) : Bool := decide (rul s (sFo s) (sFi s k0) (sSe s k0) (sN s) = some k0)
def abV (s : St) (k0 w : Nat) : Int32 := if w = 0 then nI (sWd s k0) else if w = 1 then nI (sFi s k0) else if w = 2 then nI (sSe s k0) else if w = 3 then zI (sTe s k0) else if w = 4 then nI (sSu s k0) else if w = 5 then nI (sFo s k0).toNat else nI (rulB s k0).toNat
def isM (s : St) (p : Int32) : Prop := ¬ p < 0 ∧ p.toNatClampNeg < sN s
noncomputable def aAbout (s : St) (p q : Int32) : Rs := cif (isM s p) (cif (¬ q < 0 ∧ ¬ nI 6 < q) (rI (abV s p.toNatClampNeg q.toNatClampNeg)) (.inr XN)) (.inr XI)
section Abt
variable {CK S1 S2 : HX → St → Prop} {CM : HX → St → Prop} {X X' : HX} {Y Y' : HY} {s : St} {b : Bool} {Q : Qt} {r : Ly}
theorem Q8_mem {p : Int32} (h : Qw CK S1 S2 X Y s) (k1 : isM s p → Q (.inl none) (LX8 b) X Y) (k2 : ¬ isM s p → Q (.inr XI) (LX8 b) X Y) : tX8_needMemory b [.ref 0, .int p] (LX8 b) X Y Q := by
  have n40 := h.si.2.1
  apply tX8_needMemory_i
  rw [h.bv.2.1]
  refine ⟨fun q => k2 (fun z => z.1 q), fun q => ?_⟩
  rcases i32c p with z | ⟨g, hg, rfl⟩
  · exact absurd z q
  · rw [m_lt hg (by omega)]
    exact ⟨fun z => k1 ⟨q, by rw [m_clamp hg]; exact z⟩, fun z => k2 (fun y => z (by have := y.2; rw [m_clamp hg] at this; exact this))⟩
theorem isM_c {x : Int32} (h : isM s x) : ∃ g, g < sN s ∧ x = nI g := by
  rcases i32c x with q | ⟨p, hp, rfl⟩
  · exact absurd q h.1
  · exact ⟨p, by have := h.2; rw [m_clamp hp] at this; exact this, rfl⟩
theorem w6_c {q : Int32} (h : ¬ q < 0 ∧ ¬ nI 6 < q) : ∃ w, w < 7 ∧ q = nI w := by
  rcases i32c q with z | ⟨w, hw, rfl⟩
  · exact absurd z h.1
  · refine ⟨w, ?_, rfl⟩
    have := h.2
    rw [m_lt (by omega) hw] at this
    omega
theorem w6_n {q : Int32} (h : ¬ (¬ q < 0 ∧ ¬ nI 6 < q)) : q.toInt < 0 ∨ 6 < q.toInt := by
  by_cases z : q < 0
  · exact Or.inl (Int32.lt_iff_toInt_lt.mp z)
  · have h2 : nI 6 < q := Classical.byContradiction fun y => h ⟨z, y⟩
    exact Or.inr (Int32.lt_iff_toInt_lt.mp h2)
theorem Q8_force {k0 : Nat} {F : Int32 → HX → HY → Prop} (h : Qw CK S1 S2 X Y s) (hk : k0 < sN s) (k : ∀ X' Y', Eq8 b X X' Y Y' → Qw CK S1 S2 X' Y' s → F (nI (sFo s k0).toNat) X' Y') : tX0_isInForce [.ref 0, .int (nI k0)] (LX0 ++ []) (sb [9, 10, 11, 12, 13, 14, 15, 16] X) (sb [9, 10, 11, 12, 13, 14, 15, 16] Y) (cS1 (LX0 ++ []) (LX8 b) [9, 10, 11, 12, 13, 14, 15, 16] (LX8 b).length X Y Q F) := by
  have e := Eq8.mg (b := b) (X := X) (Y := Y) [9, 10, 11, 12, 13, 14, 15, 16]
  have q3 := h.2.2.2.1
  have hq3 : sb [9, 10, 11, 12, 13, 14, 15, 16] Y 0 2 = lN (fm s) := q3
  exact X0_force_s (r := []) hq3 h.si hk (cS1_mk (k _ _ e (h.scr e.scr)))
theorem Q8_rules {k0 : Nat} (h : Qw CK S1 S2 X Y s) (hk : k0 < sN s) (k : ∀ X' Y', Kp b X X' Y Y' → Qw CK S1 S2 X' Y' s → Q (.inl (some (.int (nI (rulB s k0).toNat)))) (LX8 b) X' Y') : tX8_rules b [.ref 0, .int (nI k0)] (LX8 b) X Y Q := by
  have n40 := h.si.2.1
  have g9 := h.si.1
  have hs := h.si.2.2.1 k0 hk
  apply tX8_rules_i
  refine Q8_pairs h (fun X1 Y1 kp1 h1 pk1 => cK0_mk ?_)
  have hm := h1.bv.2.2.1 k0 hk
  simp (disch := omega) only [m_0, m_L0, m_lt, m_le, m_eq, m_neg, m_in, m_clamp, m_add, m_sub, m_pred, m_mul, m_l, m_i, m_Land, m_Lor, m_and, m_or, m_xor, m_Landn, m_andn, m_LshlP, m_shl, m_LbitP, m_bit, m_cmp0P, m_Lb0, m_Lb1, m_b0, m_b1, Nat.one_mul, hm.2.1, hm.2.2.1]
  refine ⟨by omega, by omega, ?_⟩
  apply tX5_rulerOf_i
  simp (disch := omega) only [m_0, m_L0, m_lt, m_le, m_eq, m_neg, m_in, m_clamp, m_add, m_sub, m_pred, m_mul, m_l, m_i, m_Land, m_Lor, m_and, m_or, m_xor, m_Landn, m_andn, m_LshlP, m_shl, m_LbitP, m_bit, m_cmp0P, m_Lb0, m_Lb1, m_b0, m_b1, Nat.one_mul]
  have er : sb [25, 26, 27, 28] X1 3 (9 * sFi s k0 + sSe s k0) = oI (rul s (sFo s) (sFi s k0) (sSe s k0) (sN s)) := pk1.1 _ _ (by omega) (by omega)
  rw [er]
  have e := Eq8.mg (b := b) (X := X1) (Y := Y1) [25, 26, 27, 28]
  have k' := k _ _ (kp1.trans e.kp) (h1.scr e.scr)
  unfold rulB at k'
  refine ⟨by omega, cS1_mk ?_⟩
  cases hr : rul s (sFo s) (sFi s k0) (sSe s k0) (sN s) with
  | none =>
    rw [hr] at k'
    exact ⟨fun _ => ⟨(by first | exact Or.inl rfl | exact Or.inr rfl | exact Or.inl trivial | exact Or.inr trivial), k'⟩, fun q => absurd (fun e => nI_m1 (by omega) (Eq.symm e)) q⟩
  | some t =>
    have ht := (rul_lt hr).1
    rw [hr] at k'
    rw [oI_some]
    by_cases e : t = k0
    · subst e
      rw [show decide (some t = some t) = true from decide_eq_true rfl] at k'
      exact ⟨fun q => absurd rfl q, fun _ => ⟨(by first | exact Or.inl rfl | exact Or.inr rfl | exact Or.inl trivial | exact Or.inr trivial), k'⟩⟩
    · rw [show decide (some t = some k0) = false from decide_eq_false (fun z => e (Option.some.inj z))] at k'
      exact ⟨fun _ => ⟨(by first | exact Or.inl rfl | exact Or.inr rfl | exact Or.inl trivial | exact Or.inr trivial), k'⟩, fun q => absurd (fun z => e ((m_eq (by omega) (by omega)).mp z)) q⟩
theorem X8_about_s {p q : Int32} (h : Qw CK S1 S2 X Y s) (k : ∀ X' Y', Kp b X X' Y Y' → Qw CK S1 S2 X' Y' s → Q (aAbout s p q) (LX8 b) X' Y') : tX8_about b [.ref 0, .int p, .int q] (LX8 b) X Y Q := by
  have n40 := h.si.2.1
  apply tX8_about_i
  refine Q8_mem h (fun hp => cK0_mk ?_) (fun hp => cK0_ex ?_)
  · obtain ⟨k0, hk, rfl⟩ := isM_c hp
    have hm := h.bv.2.2.1 k0 hk
    by_cases hq : ¬ q < 0 ∧ ¬ nI 6 < q
    · have kk := fun X' Y' kp hx => k X' Y' kp hx
      unfold aAbout at kk
      rw [cif_y hp, cif_y hq] at kk
      obtain ⟨w, hw, rfl⟩ := w6_c hq
      rw [m_clamp (by omega), m_clamp (by omega)] at kk
      have tq : (nI w).toInt = w := nI_toInt (by omega)
      rw [tq]
      have k0' := kk X Y Kp.rfl h
      obtain rfl | rfl | rfl | rfl | rfl | rfl | rfl : w = 0 ∨ w = 1 ∨ w = 2 ∨ w = 3 ∨ w = 4 ∨ w = 5 ∨ w = 6 := by omega
      · refine ⟨fun y => by omega, fun _ => ?_, fun y => by omega, fun y => by omega, fun y => by omega, fun y => by omega, fun y => by omega, fun y => by omega, trivial⟩
        rw [m_clamp (by omega)]
        exact ⟨(m_in (by omega)).mpr (by omega), by rw [show X 10 k0 = _ from hm.1]; exact k0'⟩
      · refine ⟨fun y => by omega, fun y => by omega, fun _ => ?_, fun y => by omega, fun y => by omega, fun y => by omega, fun y => by omega, fun y => by omega, trivial⟩
        rw [m_clamp (by omega)]
        exact ⟨(m_in (by omega)).mpr (by omega), by rw [show X 11 k0 = _ from hm.2.1]; exact k0'⟩
      · refine ⟨fun y => by omega, fun y => by omega, fun y => by omega, fun _ => ?_, fun y => by omega, fun y => by omega, fun y => by omega, fun y => by omega, trivial⟩
        rw [m_clamp (by omega)]
        exact ⟨(m_in (by omega)).mpr (by omega), by rw [show X 12 k0 = _ from hm.2.2.1]; exact k0'⟩
      · refine ⟨fun y => by omega, fun y => by omega, fun y => by omega, fun y => by omega, fun _ => ?_, fun y => by omega, fun y => by omega, fun y => by omega, trivial⟩
        rw [m_clamp (by omega)]
        exact ⟨(m_in (by omega)).mpr (by omega), by rw [show X 13 k0 = _ from hm.2.2.2.1]; exact k0'⟩
      · refine ⟨fun y => by omega, fun y => by omega, fun y => by omega, fun y => by omega, fun y => by omega, fun _ => ?_, fun y => by omega, fun y => by omega, trivial⟩
        rw [m_clamp (by omega)]
        exact ⟨(m_in (by omega)).mpr (by omega), by rw [show X 14 k0 = _ from hm.2.2.2.2]; exact k0'⟩
      · refine ⟨fun y => by omega, fun y => by omega, fun y => by omega, fun y => by omega, fun y => by omega, fun y => by omega, fun _ => ?_, fun y => by omega, trivial⟩
        refine Q8_force h hk (fun X' Y' e hx => ?_)
        have k9 := kk X' Y' e.kp hx
        cases hf : sFo s k0 with
        | false => simp only [abV, hf] at k9; exact ⟨fun _ => k9, fun y => absurd rfl y⟩
        | true => simp only [abV, hf] at k9; exact ⟨fun y => absurd y (by decide), fun _ => k9⟩
      · refine ⟨fun y => by omega, fun y => by omega, fun y => by omega, fun y => by omega, fun y => by omega, fun y => by omega, fun y => by omega, fun _ => ?_, trivial⟩
        refine Q8_rules h hk (fun X' Y' kp hx => cK1_mk ?_)
        have k9 := kk X' Y' kp hx
        cases hf : rulB s k0 with
        | false => simp only [abV, hf] at k9; exact ⟨fun _ => k9, fun y => absurd rfl y⟩
        | true => simp only [abV, hf] at k9; exact ⟨fun y => absurd y (by decide), fun _ => k9⟩
    · have k' := k X Y Kp.rfl h
      unfold aAbout at k'
      rw [cif_y hp, cif_n hq] at k'
      have hn := w6_n hq
      exact ⟨fun _ => k', fun y => by omega, fun y => by omega, fun y => by omega, fun y => by omega, fun y => by omega, fun y => by omega, fun y => by omega, trivial⟩
  · have k' := k X Y Kp.rfl h
    unfold aAbout at k'
    rw [cif_n hp] at k'
    exact k'
end Abt
