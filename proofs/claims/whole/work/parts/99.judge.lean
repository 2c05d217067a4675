/-! judge: one PAIR, by the class -/
def jdP (s : St) (w a c : Nat) : Prop := if w = 3 then ∃ k0, rul s (sFo s) a c (sN s) = some k0 ∧ sWd s k0 = 3 ∧ ¬ sWe s (sFi s k0) < sCa s (sSe s k0) else kd s (sFo s) a c = w ∧ (w = 0 ↔ (sWe s c < sCa s a ∨ sWe s a < sCa s c))
section Jdg
variable {CK S1 S2 : HX → St → Prop} {CM : HX → St → Prop} {X X' : HX} {Y Y' : HY} {s : St} {b : Bool} {Q : Qt} {r : Ly}
theorem X8_judged_s {w a c : Nat} (h : Qw CK S1 S2 X Y s) (pk : PKo X Y s) (ha : a < sG s) (hc : c < sG s) (hw : w < 4) (k : ∀ (z : Bool) X' Y', (z = true ↔ jdP s w a c) → Kp b X X' Y Y' → Qw CK S1 S2 X' Y' s → PKo X' Y' s → Q (.inl (some (.int (nI z.toNat)))) (LX8 b) X' Y') : tX8_isJudged b [.ref 0, .int (nI a), .int (nI c), .int (nI w)] (LX8 b) X Y Q := by
  have g9 := h.si.1
  have n40 := h.si.2.1
  have k3 := kd_le h.si a c
  have sa := h.si.2.2.2 a (by omega)
  have sc := h.si.2.2.2 c (by omega)
  obtain ⟨ca, wa⟩ := h.bv.2.2.2 a (by omega)
  obtain ⟨cc, wc⟩ := h.bv.2.2.2 c (by omega)
  have ca : X 15 a = zI (sCa s a) := ca
  have wa : X 16 a = zI (sWe s a) := wa
  have cc : X 15 c = zI (sCa s c) := cc
  have wc : X 16 c = zI (sWe s c) := wc
  have va : vp_in (nI a) 9 := (m_in (by omega)).mpr (by omega)
  have vc : vp_in (nI c) 9 := (m_in (by omega)).mpr (by omega)
  have t0 : ∀ X' Y', ¬ jdP s w a c → Kp b X X' Y Y' → Qw CK S1 S2 X' Y' s → PKo X' Y' s → Q (.inl (some (.int (nI 0)))) (LX8 b) X' Y' := fun X' Y' n => k false X' Y' ⟨fun z => (by cases z), fun z => absurd z n⟩
  have t1 : ∀ X' Y', jdP s w a c → Kp b X X' Y Y' → Qw CK S1 S2 X' Y' s → PKo X' Y' s → Q (.inl (some (.int (nI 1)))) (LX8 b) X' Y' := fun X' Y' n => k true X' Y' ⟨fun _ => n, fun _ => rfl⟩
  have mk : nI (kd s (sFo s) a c) = nI w ↔ kd s (sFo s) a c = w := m_eq (by omega) (by omega)
  have mw : nI w = (0 : Int32) ↔ w = 0 := m_eq (a := w) (b := 0) (by omega) (by omega)
  apply tX8_isJudged_i
  rw [m_eq (show w < 2147483648 by omega) (show 3 < 2147483648 by omega)]
  refine ⟨fun w3 => ⟨va, vc, ?_⟩, fun w3 => ?_⟩
  · have jd : jdP s w a c ↔ kd s (sFo s) a c = w ∧ (w = 0 ↔ (sWe s c < sCa s a ∨ sWe s a < sCa s c)) := by unfold jdP; rw [if_neg w3]
    rw [m_clamp (show a < 2147483648 by omega), m_clamp (show c < 2147483648 by omega), wc, ca, wa, cc, m_zlt (by omega) (by omega), m_zlt (by omega) (by omega)]
    have far : (sWe s c < sCa s a ∨ sWe s a < sCa s c) → ∀ X' Y', Kp b X X' Y Y' → Qw CK S1 S2 X' Y' s → PKo X' Y' s → (¬ nI (kd s (sFo s) a c) = nI w → ((nI 0) = 0 ∨ (nI 0) = 1) ∧ Q (.inl (some (.int (nI 0)))) (LX8 b) X' Y') ∧ (¬ (¬ nI (kd s (sFo s) a c) = nI w) → (¬ nI w = 0 → ((nI 0) = (nI 0) → ((nI 0) = 0 ∨ (nI 0) = 1) ∧ Q (.inl (some (.int (nI 0)))) (LX8 b) X' Y') ∧ (¬ ((nI 0) = (nI 0)) → ((nI 1) = 0 ∨ (nI 1) = 1) ∧ Q (.inl (some (.int (nI 1)))) (LX8 b) X' Y')) ∧ (¬ (¬ nI w = 0) → ((nI 0) = (nI 1) → ((nI 0) = 0 ∨ (nI 0) = 1) ∧ Q (.inl (some (.int (nI 0)))) (LX8 b) X' Y') ∧ (¬ ((nI 0) = (nI 1)) → ((nI 1) = 0 ∨ (nI 1) = 1) ∧ Q (.inl (some (.int (nI 1)))) (LX8 b) X' Y'))) := fun o X' Y' kp hx px => by
      refine ⟨fun q => ⟨(by first | exact Or.inl rfl | exact Or.inr rfl | exact Or.inl trivial | exact Or.inr trivial), t0 _ _ (fun j => q (mk.mpr (jd.mp j).1)) kp hx px⟩, fun q => ⟨fun q2 => ⟨fun _ => ⟨(by first | exact Or.inl rfl | exact Or.inr rfl | exact Or.inl trivial | exact Or.inr trivial), t0 _ _ (fun j => q2 (mw.mpr ((jd.mp j).2.mpr o))) kp hx px⟩, fun y => absurd rfl y⟩, fun q2 => ⟨fun y => absurd y nI01, fun _ => ⟨(by first | exact Or.inl rfl | exact Or.inr rfl | exact Or.inl trivial | exact Or.inr trivial), t1 _ _ (jd.mpr ⟨mk.mp (Classical.not_not.mp q), ⟨fun _ => o, fun _ => mw.mp (Classical.not_not.mp q2)⟩⟩) kp hx px⟩⟩⟩⟩
    refine ⟨fun o => Q8_kd h pk (by omega) (by omega) (fun X' Y' kp hx px => far (Or.inl o) X' Y' kp hx px), fun o1 => ⟨vc, va, fun o => Q8_kd h pk (by omega) (by omega) (fun X' Y' kp hx px => far (Or.inr o) X' Y' kp hx px), fun o2 => Q8_kd h pk (by omega) (by omega) (fun X' Y' kp hx px => ?_)⟩⟩
    have no : ¬ (sWe s c < sCa s a ∨ sWe s a < sCa s c) := fun o => o.elim o1 o2
    exact ⟨fun q => ⟨(by first | exact Or.inl rfl | exact Or.inr rfl | exact Or.inl trivial | exact Or.inr trivial), t0 _ _ (fun j => q (mk.mpr (jd.mp j).1)) kp hx px⟩, fun q => ⟨fun q2 => ⟨fun y => absurd y.symm nI01, fun _ => ⟨(by first | exact Or.inl rfl | exact Or.inr rfl | exact Or.inl trivial | exact Or.inr trivial), t1 _ _ (jd.mpr ⟨mk.mp (Classical.not_not.mp q), ⟨fun y => absurd (mw.mpr y) q2, fun y => absurd y no⟩⟩) kp hx px⟩⟩, fun q2 => ⟨fun _ => ⟨(by first | exact Or.inl rfl | exact Or.inr rfl | exact Or.inl trivial | exact Or.inr trivial), t0 _ _ (fun j => no ((jd.mp j).2.mp (mw.mp (Classical.not_not.mp q2)))) kp hx px⟩, fun y => absurd rfl y⟩⟩⟩
  · have w3 := Classical.not_not.mp w3
    have jd : jdP s w a c ↔ ∃ k0, rul s (sFo s) a c (sN s) = some k0 ∧ sWd s k0 = 3 ∧ ¬ sWe s (sFi s k0) < sCa s (sSe s k0) := by unfold jdP; rw [if_pos w3]
    apply tX5_rulerOf_i
    simp (disch := omega) only [m_0, m_L0, m_lt, m_le, m_eq, m_neg, m_in, m_clamp, m_add, m_sub, m_pred, m_mul, m_l, m_i, m_Land, m_Lor, m_and, m_or, m_xor, m_Landn, m_andn, m_LshlP, m_shl, m_LbitP, m_bit, m_cmp0P, m_Lb0, m_Lb1, m_b0, m_b1, Nat.one_mul]
    have er : sb [25, 26, 27, 28] X 3 (9 * a + c) = oI (rul s (sFo s) a c (sN s)) := pk.1 _ _ (by omega) (by omega)
    rw [er]
    have e := Eq8.mg (b := b) (X := X) (Y := Y) [25, 26, 27, 28]
    have hx := h.scr e.scr
    have px := e.scr.pk pk
    refine ⟨by omega, cS1_mk ?_⟩
    revert e hx px
    generalize mg [25, 26, 27, 28] (LX8 b).length X (sb [25, 26, 27, 28] X) = X1
    generalize mg [25, 26, 27, 28] (LX8 b).length Y (sb [25, 26, 27, 28] Y) = Y1
    intro e hx px
    cases hr : rul s (sFo s) a c (sN s) with
    | none => exact ⟨fun _ => ⟨(by first | exact Or.inl rfl | exact Or.inr rfl | exact Or.inl trivial | exact Or.inr trivial), t0 _ _ (fun j => by obtain ⟨k0, j1, -⟩ := jd.mp j; rw [hr] at j1; cases j1) e.kp hx px⟩, fun y => absurd rfl y⟩
    | some k0 =>
      have hk := (rul_lt hr).1
      have hs := h.si.2.2.1 k0 hk
      obtain ⟨m1, m2, m3, -⟩ := hx.bv.2.2.1 k0 hk
      have m1 : X1 10 k0 = nI (sWd s k0) := m1
      have m2 : X1 11 k0 = nI (sFi s k0) := m2
      have m3 : X1 12 k0 = nI (sSe s k0) := m3
      have wf : X1 16 (sFi s k0) = zI (sWe s (sFi s k0)) := (hx.bv.2.2.2 _ (by omega)).2
      have cs : X1 15 (sSe s k0) = zI (sCa s (sSe s k0)) := (hx.bv.2.2.2 _ (by omega)).1
      have s1 := h.si.2.2.2 (sFi s k0) (by omega)
      have s2 := h.si.2.2.2 (sSe s k0) (by omega)
      have vk : vp_in (nI k0) 40 := (m_in (by omega)).mpr (by omega)
      rw [oI_some, m_clamp (show k0 < 2147483648 by omega), m1, m2, m3, m_eq (by omega) (by omega), m_clamp (show sFi s k0 < 2147483648 by omega), m_clamp (show sSe s k0 < 2147483648 by omega), wf, cs, m_zlt (by omega) (by omega)]
      refine ⟨fun y => absurd y (nI_m1 (by omega)), fun _ => ⟨vk, fun q => ⟨(by first | exact Or.inl rfl | exact Or.inr rfl | exact Or.inl trivial | exact Or.inr trivial), t0 _ _ (fun j => ?_) e.kp hx px⟩, fun q => ⟨vk, (m_in (by omega)).mpr (by omega), vk, (m_in (by omega)).mpr (by omega), fun q2 => ⟨(by first | exact Or.inl rfl | exact Or.inr rfl | exact Or.inl trivial | exact Or.inr trivial), t0 _ _ (fun j => ?_) e.kp hx px⟩, fun q2 => ⟨(by first | exact Or.inl rfl | exact Or.inr rfl | exact Or.inl trivial | exact Or.inr trivial), t1 _ _ (jd.mpr ⟨k0, hr, Classical.not_not.mp q, q2⟩) e.kp hx px⟩⟩⟩⟩
      · obtain ⟨k0', j1, j2, j3⟩ := jd.mp j
        rw [hr] at j1
        cases j1
        exact q j2
      · obtain ⟨k0', j1, j2, j3⟩ := jd.mp j
        rw [hr] at j1
        cases j1
        exact j3 q2
end Jdg
