/-! QUARRELS, by the class and by the reference -/
/-- two MEMORIES quarrel -/
def qrP (s : St) (a b : Nat) : Bool := sFo s a && sFo s b && isO s b (sFi s a) (sSe s a) && ((decide (sWd s a = 0) && (decide (sWd s b = 1) || decide (sWd s b = 3))) || (decide (sWd s b = 0) && (decide (sWd s a = 1) || decide (sWd s a = 3))))
def qrF (s : St) (p : Nat × Nat) : Bool := qrP s p.1 p.2
def qrL (s : St) : List (Nat × Nat) := (prL (sN s)).filter (qrF s)
noncomputable def aQuarrel (s : St) (p : Int32) : Rs := rI (cif (¬ p < 0 ∧ p.toNatClampNeg < (qrL s).length) (nI (40 * ((qrL s).getD p.toNatClampNeg (0, 0)).1 + ((qrL s).getD p.toNatClampNeg (0, 0)).2)) (-1))
def toB (s : St) (g : Nat) (p : Nat × Nat) : Bool := decide (sTe s p.1 = g) || decide (sTe s p.2 = g)
noncomputable def aQuarrels (s : St) (p : Int32) : Rs := cif (isG s p) (rI (nI ((qrL s).filter (toB s p.toNatClampNeg)).length)) (.inr XI)
section Qrl
variable {CK S1 S2 : HX → St → Prop} {CM : HX → St → Prop} {X X' : HX} {Y Y' : HY} {s : St} {b : Bool} {Q : Qt} {r : Ly}
theorem X0_force_s {k0 : Nat} (hY : Y 0 2 = lN (fm s)) (hI : SI s) (hk : k0 < sN s) (k : Q (.inl (some (.int (nI (sFo s k0).toNat)))) (LX0 ++ r) X Y) : tX0_isInForce [.ref 0, .int (nI k0)] (LX0 ++ r) X Y Q := by
  have n40 := hI.2.1
  have f40 := fm_lt hI
  apply tX0_isInForce_i
  rw [hY]
  simp (disch := omega) only [m_0, m_L0, m_lt, m_le, m_eq, m_neg, m_in, m_clamp, m_add, m_sub, m_pred, m_mul, m_l, m_i, m_Land, m_Lor, m_and, m_or, m_xor, m_Landn, m_andn, m_LshlP, m_shl, m_LbitP, m_bit, m_cmp0P, m_Lb0, m_Lb1, m_b0, m_b1, Nat.one_mul]
  rw [fm_bit hk]
  cases hf : sFo s k0 with
  | false => rw [hf] at k; exact ⟨fun _ => ⟨(by first | exact Or.inl rfl | exact Or.inr rfl | exact Or.inl trivial | exact Or.inr trivial), k⟩, fun q => absurd rfl q⟩
  | true => rw [hf] at k; exact ⟨fun q => (by cases q), fun _ => ⟨(by first | exact Or.inl rfl | exact Or.inr rfl | exact Or.inl trivial | exact Or.inr trivial), k⟩⟩
theorem X0_one_s {i j : Nat} (hB : BV 0 X s) (hI : SI s) (hi : i < sN s) (hj : j < sN s) (k : Q (.inl (some (.int (nI (isO s j (sFi s i) (sSe s i)).toNat)))) (LX0 ++ r) X Y) : tX0_isOnePair [.ref 0, .int (nI i), .int (nI j)] (LX0 ++ r) X Y Q := by
  have n40 := hI.2.1
  have g9 := hI.1
  obtain ⟨-, a2, a3, -⟩ := hB.2.2.1 i hi
  obtain ⟨-, b2, b3, -⟩ := hB.2.2.1 j hj
  have hi' := hI.2.2.1 i hi
  have hj' := hI.2.2.1 j hj
  have t0 : isO s j (sFi s i) (sSe s i) = false → Q (.inl (some (.int (nI 0)))) (LX0 ++ r) X Y := fun h => by rw [h] at k; exact k
  have t1 : isO s j (sFi s i) (sSe s i) = true → Q (.inl (some (.int (nI 1)))) (LX0 ++ r) X Y := fun h => by rw [h] at k; exact k
  have ev : isO s j (sFi s i) (sSe s i) = true ↔ (sFi s j = sFi s i ∧ sSe s j = sSe s i) ∨ (sFi s j = sSe s i ∧ sSe s j = sFi s i) := by
    unfold isO
    rw [Bool.or_eq_true, Bool.and_eq_true, Bool.and_eq_true, beq_iff_eq, beq_iff_eq, beq_iff_eq, beq_iff_eq]
  have f0 : ¬ ((sFi s j = sFi s i ∧ sSe s j = sSe s i) ∨ (sFi s j = sSe s i ∧ sSe s j = sFi s i)) → Q (.inl (some (.int (nI 0)))) (LX0 ++ r) X Y := fun h => t0 (by rw [Bool.eq_false_iff]; exact fun z => h (ev.mp z))
  have f1 : ((sFi s j = sFi s i ∧ sSe s j = sSe s i) ∨ (sFi s j = sSe s i ∧ sSe s j = sFi s i)) → Q (.inl (some (.int (nI 1)))) (LX0 ++ r) X Y := fun h => t1 (ev.mpr h)
  have a2 : X 2 i = nI (sFi s i) := a2
  have a3 : X 3 i = nI (sSe s i) := a3
  have b2 : X 2 j = nI (sFi s j) := b2
  have b3 : X 3 j = nI (sSe s j) := b3
  apply tX0_isOnePair_i
  simp (disch := omega) only [m_0, m_L0, m_lt, m_le, m_eq, m_neg, m_in, m_clamp, m_add, m_sub, m_pred, m_mul, m_l, m_i, m_Land, m_Lor, m_and, m_or, m_xor, m_Landn, m_andn, m_LshlP, m_shl, m_LbitP, m_bit, m_cmp0P, m_Lb0, m_Lb1, m_b0, m_b1, Nat.one_mul, a2, a3, b2, b3]
  refine ⟨by omega, by omega, fun q => ⟨by omega, by omega, fun q2 => ⟨(by first | exact Or.inl rfl | exact Or.inr rfl | exact Or.inl trivial | exact Or.inr trivial), f0 (by omega)⟩, fun q2 => ⟨by omega, by omega, fun q3 => ⟨(by first | exact Or.inl rfl | exact Or.inr rfl | exact Or.inl trivial | exact Or.inr trivial), f0 (by omega)⟩, fun q3 => ⟨(by first | exact Or.inl rfl | exact Or.inr rfl | exact Or.inl trivial | exact Or.inr trivial), f1 (by omega)⟩⟩⟩, fun q => ⟨by omega, by omega, fun q2 => ⟨(by first | exact Or.inl rfl | exact Or.inr rfl | exact Or.inl trivial | exact Or.inr trivial), f1 (by omega)⟩, fun q2 => ⟨by omega, by omega, fun q3 => ⟨(by first | exact Or.inl rfl | exact Or.inr rfl | exact Or.inl trivial | exact Or.inr trivial), f0 (by omega)⟩, fun q3 => ⟨by omega, by omega, fun q4 => ⟨(by first | exact Or.inl rfl | exact Or.inr rfl | exact Or.inl trivial | exact Or.inr trivial), f0 (by omega)⟩, fun q4 => ⟨(by first | exact Or.inl rfl | exact Or.inr rfl | exact Or.inl trivial | exact Or.inr trivial), f1 (by omega)⟩⟩⟩⟩⟩
theorem X0_says_s {i : Nat} (hB : BV 0 X s) (hI : SI s) (hi : i < sN s) (k : ∀ z : Bool, (z = true ↔ sWd s i = 1 ∨ sWd s i = 3) → Q (.inl (some (.int (nI z.toNat)))) (LX0 ++ r) X Y) : tX0_saysApart [.ref 0, .int (nI i)] (LX0 ++ r) X Y Q := by
  have n40 := hI.2.1
  have hi' := hI.2.2.1 i hi
  have a1 : X 1 i = nI (sWd s i) := (hB.2.2.1 i hi).1
  apply tX0_saysApart_i
  simp (disch := omega) only [m_0, m_L0, m_lt, m_le, m_eq, m_neg, m_in, m_clamp, m_add, m_sub, m_pred, m_mul, m_l, m_i, m_Land, m_Lor, m_and, m_or, m_xor, m_Landn, m_andn, m_LshlP, m_shl, m_LbitP, m_bit, m_cmp0P, m_Lb0, m_Lb1, m_b0, m_b1, Nat.one_mul, a1]
  exact ⟨by omega, fun q => ⟨(by first | exact Or.inl rfl | exact Or.inr rfl | exact Or.inl trivial | exact Or.inr trivial), k true ⟨fun _ => Or.inl q, fun _ => rfl⟩⟩, fun q => ⟨by omega, fun q2 => ⟨(by first | exact Or.inl rfl | exact Or.inr rfl | exact Or.inl trivial | exact Or.inr trivial), k false ⟨fun z => (by cases z), fun z => by omega⟩⟩, fun q2 => ⟨(by first | exact Or.inl rfl | exact Or.inr rfl | exact Or.inl trivial | exact Or.inr trivial), k true ⟨fun _ => Or.inr (by omega), fun _ => rfl⟩⟩⟩⟩
theorem qrP_iff {i j : Nat} : qrP s i j = true ↔ sFo s i = true ∧ sFo s j = true ∧ isO s j (sFi s i) (sSe s i) = true ∧ ((sWd s i = 0 ∧ (sWd s j = 1 ∨ sWd s j = 3)) ∨ (sWd s j = 0 ∧ (sWd s i = 1 ∨ sWd s i = 3))) := by
  unfold qrP
  simp only [Bool.and_eq_true, Bool.or_eq_true, decide_eq_true_eq, and_assoc]
theorem X0_qrl_s {i j : Nat} (hY : Y 0 2 = lN (fm s)) (hB : BV 0 X s) (hI : SI s) (hi : i < sN s) (hj : j < sN s) (k : Q (.inl (some (.int (nI (qrP s i j).toNat)))) (LX0 ++ r) X Y) : tX0_isQuarrel [.ref 0, .int (nI i), .int (nI j)] (LX0 ++ r) X Y Q := by
  have n40 := hI.2.1
  have hi' := hI.2.2.1 i hi
  have hj' := hI.2.2.1 j hj
  have a1 : X 1 i = nI (sWd s i) := (hB.2.2.1 i hi).1
  have b1 : X 1 j = nI (sWd s j) := (hB.2.2.1 j hj).1
  have f0 : ¬ (sFo s i = true ∧ sFo s j = true ∧ isO s j (sFi s i) (sSe s i) = true ∧ ((sWd s i = 0 ∧ (sWd s j = 1 ∨ sWd s j = 3)) ∨ (sWd s j = 0 ∧ (sWd s i = 1 ∨ sWd s i = 3)))) → Q (.inl (some (.int (nI 0)))) (LX0 ++ r) X Y := fun h => by
    have : qrP s i j = false := by rw [Bool.eq_false_iff]; exact fun z => h (qrP_iff.mp z)
    rw [this] at k; exact k
  have f1 : (sFo s i = true ∧ sFo s j = true ∧ isO s j (sFi s i) (sSe s i) = true ∧ ((sWd s i = 0 ∧ (sWd s j = 1 ∨ sWd s j = 3)) ∨ (sWd s j = 0 ∧ (sWd s i = 1 ∨ sWd s i = 3)))) → Q (.inl (some (.int (nI 1)))) (LX0 ++ r) X Y := fun h => by
    rw [qrP_iff.mpr h] at k; exact k
  apply tX0_isQuarrel_i
  refine X0_force_s hY hI hi (cK1_mk ⟨fun q => ⟨(by first | exact Or.inl rfl | exact Or.inr rfl | exact Or.inl trivial | exact Or.inr trivial), f0 (fun z => by rw [z.1] at q; exact absurd q (by decide))⟩, fun q => ?_⟩)
  have fi := z11 q
  refine X0_force_s hY hI hj (cK1_mk ⟨fun q2 => ⟨(by first | exact Or.inl rfl | exact Or.inr rfl | exact Or.inl trivial | exact Or.inr trivial), f0 (fun z => by rw [z.2.1] at q2; exact absurd q2 (by decide))⟩, fun q2 => ?_⟩)
  have fj := z11 q2
  refine X0_one_s hB hI hi hj (cK1_mk ⟨fun q3 => ?_, fun q3 => ⟨(by first | exact Or.inl rfl | exact Or.inr rfl | exact Or.inl trivial | exact Or.inr trivial), f0 (fun z => by rw [z.2.2.1] at q3; exact absurd q3 (by decide))⟩⟩)
  have fo := z11 q3
  simp (disch := omega) only [m_0, m_L0, m_lt, m_le, m_eq, m_neg, m_in, m_clamp, m_add, m_sub, m_pred, m_mul, m_l, m_i, m_Land, m_Lor, m_and, m_or, m_xor, m_Landn, m_andn, m_LshlP, m_shl, m_LbitP, m_bit, m_cmp0P, m_Lb0, m_Lb1, m_b0, m_b1, Nat.one_mul, a1, b1]
  refine ⟨by omega, fun q4 => ⟨by omega, fun q5 => ⟨(by first | exact Or.inl rfl | exact Or.inr rfl | exact Or.inl trivial | exact Or.inr trivial), f0 (fun z => by omega)⟩, fun q5 => X0_says_s hB hI hi (fun w hw => cK1_mk ⟨fun q6 => ⟨(by first | exact Or.inl rfl | exact Or.inr rfl | exact Or.inl trivial | exact Or.inr trivial), f0 (fun z => ?_)⟩, fun q6 => ⟨(by first | exact Or.inl rfl | exact Or.inr rfl | exact Or.inl trivial | exact Or.inr trivial), f1 ⟨fi, fj, fo, Or.inr ⟨by omega, hw.mp (z11 q6)⟩⟩⟩⟩)⟩, fun q4 => X0_says_s hB hI hj (fun w hw => cK1_mk ⟨fun q6 => ⟨(by first | exact Or.inl rfl | exact Or.inr rfl | exact Or.inl trivial | exact Or.inr trivial), f1 ⟨fi, fj, fo, Or.inl ⟨by omega, hw.mp (z11 q6)⟩⟩⟩, fun q6 => ?_⟩)⟩
  · have : ¬ (sWd s i = 1 ∨ sWd s i = 3) := fun y => by rw [hw.mpr y] at q6; exact absurd q6 (by decide)
    omega
  · have n1 : ¬ (sWd s j = 1 ∨ sWd s j = 3) := fun y => q6 (by rw [hw.mpr y]; decide)
    simp (disch := omega) only [m_0, m_L0, m_lt, m_le, m_eq, m_neg, m_in, m_clamp, m_add, m_sub, m_pred, m_mul, m_l, m_i, m_Land, m_Lor, m_and, m_or, m_xor, m_Landn, m_andn, m_LshlP, m_shl, m_LbitP, m_bit, m_cmp0P, m_Lb0, m_Lb1, m_b0, m_b1, Nat.one_mul, b1]
    refine ⟨by omega, fun q5 => ⟨(by first | exact Or.inl rfl | exact Or.inr rfl | exact Or.inl trivial | exact Or.inr trivial), f0 (fun z => by omega)⟩, fun q5 => X0_says_s hB hI hi (fun w hw => cK1_mk ⟨fun q7 => ⟨(by first | exact Or.inl rfl | exact Or.inr rfl | exact Or.inl trivial | exact Or.inr trivial), f0 (fun z => ?_)⟩, fun q7 => ⟨(by first | exact Or.inl rfl | exact Or.inr rfl | exact Or.inl trivial | exact Or.inr trivial), f1 ⟨fi, fj, fo, Or.inr ⟨by omega, hw.mp (z11 q7)⟩⟩⟩⟩)⟩
    have : ¬ (sWd s i = 1 ∨ sWd s i = 3) := fun y => by rw [hw.mpr y] at q7; exact absurd q7 (by decide)
    omega
theorem X9_qrl_s {i j : Nat} (hV : SV X s) (hI : SI s) (hi : i < sN s) (hj : j < sN s) (k : Q (.inl (some (.int (nI (qrP s i j).toNat)))) (LX9 ++ r) X Y) : tX9_quarrel2 [.ref 0, .int (nI i), .int (nI j)] (LX9 ++ r) X Y Q := by
  have n40 := hI.2.1
  have g9 := hI.1
  have hi' := hI.2.2.1 i hi
  have hj' := hI.2.2.1 j hj
  have vi := hV.2.2.1 i hi
  have vj := hV.2.2.1 j hj
  have f0 : ¬ (sFo s i = true ∧ sFo s j = true ∧ isO s j (sFi s i) (sSe s i) = true ∧ ((sWd s i = 0 ∧ (sWd s j = 1 ∨ sWd s j = 3)) ∨ (sWd s j = 0 ∧ (sWd s i = 1 ∨ sWd s i = 3)))) → Q (.inl (some (.int (nI 0)))) (LX9 ++ r) X Y := fun h => by
    have : qrP s i j = false := by rw [Bool.eq_false_iff]; exact fun z => h (qrP_iff.mp z)
    rw [this] at k; exact k
  have f1 : (sFo s i = true ∧ sFo s j = true ∧ isO s j (sFi s i) (sSe s i) = true ∧ ((sWd s i = 0 ∧ (sWd s j = 1 ∨ sWd s j = 3)) ∨ (sWd s j = 0 ∧ (sWd s i = 1 ∨ sWd s i = 3)))) → Q (.inl (some (.int (nI 1)))) (LX9 ++ r) X Y := fun h => by
    rw [qrP_iff.mpr h] at k; exact k
  apply tX9_quarrel2_i
  refine X9_of_s (by omega) (by omega) (cK1_mk ?_)
  rw [vi.2.2.2.2.2]
  refine ⟨fun q => ⟨(by first | exact Or.inl rfl | exact Or.inr rfl | exact Or.inl trivial | exact Or.inr trivial), f0 (fun z => by rw [z.1] at q; exact absurd q (by decide))⟩, fun q => X9_of_s (by omega) (by omega) (cK1_mk ?_)⟩
  have fi := z11 q
  rw [vj.2.2.2.2.2]
  refine ⟨fun q => ⟨(by first | exact Or.inl rfl | exact Or.inr rfl | exact Or.inl trivial | exact Or.inr trivial), f0 (fun z => by rw [z.2.1] at q; exact absurd q (by decide))⟩, fun q2 => X9_of_s (by omega) (by omega) (cK1_mk (X9_of_s (by omega) (by omega) (cK1_mk ?_)))⟩
  have fj := z11 q2
  rw [vi.2.1, vi.2.2.1]
  refine X9_isOf_s hI hV hj (by omega) (by omega) (cK1_mk ⟨fun q3 => X9_of_s (by omega) (by omega) (cK1_mk (X9_of_s (by omega) (by omega) (cK1_mk ?_))), fun q3 => ⟨(by first | exact Or.inl rfl | exact Or.inr rfl | exact Or.inl trivial | exact Or.inr trivial), f0 (fun z => by rw [z.2.2.1] at q3; exact absurd q3 (by decide))⟩⟩)
  have fo := z11 q3
  rw [show X 1 (2 + 6 * i + 0) = nI (sWd s i) from vi.1, show X 1 (2 + 6 * j + 0) = nI (sWd s j) from vj.1]
  simp (disch := omega) only [m_0, m_L0, m_lt, m_le, m_eq, m_neg, m_in, m_clamp, m_add, m_sub, m_pred, m_mul, m_l, m_i, m_Land, m_Lor, m_and, m_or, m_xor, m_Landn, m_andn, m_LshlP, m_shl, m_LbitP, m_bit, m_cmp0P, m_Lb0, m_Lb1, m_b0, m_b1, Nat.one_mul]
  refine ⟨fun q4 => ⟨fun q5 => ⟨(by first | exact Or.inl rfl | exact Or.inr rfl | exact Or.inl trivial | exact Or.inr trivial), f0 (fun z => by omega)⟩, fun q5 => ⟨fun q6 => ⟨(by first | exact Or.inl rfl | exact Or.inr rfl | exact Or.inl trivial | exact Or.inr trivial), f1 ⟨fi, fj, fo, Or.inr ⟨by omega, Or.inl q6⟩⟩⟩, fun q6 => ⟨fun q7 => ⟨(by first | exact Or.inl rfl | exact Or.inr rfl | exact Or.inl trivial | exact Or.inr trivial), f0 (fun z => by omega)⟩, fun q7 => ⟨(by first | exact Or.inl rfl | exact Or.inr rfl | exact Or.inl trivial | exact Or.inr trivial), f1 ⟨fi, fj, fo, Or.inr ⟨by omega, Or.inr (by omega)⟩⟩⟩⟩⟩⟩, fun q4 => ⟨fun q5 => ⟨(by first | exact Or.inl rfl | exact Or.inr rfl | exact Or.inl trivial | exact Or.inr trivial), f1 ⟨fi, fj, fo, Or.inl ⟨by omega, Or.inl q5⟩⟩⟩, fun q5 => ⟨fun q6 => ⟨(by first | exact Or.inl rfl | exact Or.inr rfl | exact Or.inl trivial | exact Or.inr trivial), f1 ⟨fi, fj, fo, Or.inl ⟨by omega, Or.inr q6⟩⟩⟩, fun q6 => ⟨fun q7 => ⟨(by first | exact Or.inl rfl | exact Or.inr rfl | exact Or.inl trivial | exact Or.inr trivial), f0 (fun z => by omega)⟩, fun q7 => ⟨fun q8 => by omega, fun q8 => ⟨fun q9 => ⟨(by first | exact Or.inl rfl | exact Or.inr rfl | exact Or.inl trivial | exact Or.inr trivial), f0 (fun z => by omega)⟩, fun q9 => by omega⟩⟩⟩⟩⟩⟩
end Qrl
