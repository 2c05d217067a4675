/-! judge, by the reference -/
section Jdg9
variable {CM : HX → St → Prop} {X X' : HX} {Y Y' : HY} {s : St} {Q : Qt} {r : Ly}
theorem X9_judged_s {w a c : Nat} (hV : SV X s) (hI : SI s) (ha : a < sG s) (hc : c < sG s) (hw : w < 4) (k : ∀ z : Bool, (z = true ↔ jdP s w a c) → Q (.inl (some (.int (nI z.toNat)))) (LX9 ++ r) X Y) : tX9_judged [.ref 0, .int (nI w), .int (nI a), .int (nI c)] (LX9 ++ r) X Y Q := by
  have g9 := hI.1
  have n40 := hI.2.1
  have k3 := kd_le hI a c
  have sa := hI.2.2.2 a (by omega)
  have sc := hI.2.2.2 c (by omega)
  have t0 : ¬ jdP s w a c → Q (.inl (some (.int (nI 0)))) (LX9 ++ r) X Y := fun n => k false ⟨fun z => (by cases z), fun z => absurd z n⟩
  have t1 : jdP s w a c → Q (.inl (some (.int (nI 1)))) (LX9 ++ r) X Y := fun n => k true ⟨fun _ => n, fun _ => rfl⟩
  have mk : nI (kd s (sFo s) a c) = nI w ↔ kd s (sFo s) a c = w := m_eq (by omega) (by omega)
  have mw : nI w ≤ (0 : Int32) ↔ w = 0 := by rw [m_0, m_le (by omega) (by omega)]; omega
  have AH : w = 3 → ((oI (rul s (sFo s) a c (sN s))) = (-1) → ((nI 0) = 0 ∨ (nI 0) = 1) ∧ Q (.inl (some (.int (nI 0)))) (LX9 ++ r) X Y) ∧ (¬ ((oI (rul s (sFo s) a c (sN s))) = (-1)) → tX9_of [.ref 0, .int (oI (rul s (sFo s) a c (sN s))), .int (nI 0)] (LX9 ++ r) X Y (cK1 (LX9 ++ r) Q (fun x5 X5 Y5 => (x5 = (nI 3) → tX9_of [.ref 0, .int (oI (rul s (sFo s) a c (sN s))), .int (nI 1)] (LX9 ++ r) X5 Y5 (cK1 (LX9 ++ r) Q (fun x7 X7 Y7 => vp_in ((nI 251) + x7) 262 ∧ (tX9_of [.ref 0, .int (oI (rul s (sFo s) a c (sN s))), .int (nI 2)] (LX9 ++ r) X7 Y7 (cK1 (LX9 ++ r) Q (fun x8 X8 Y8 => vp_in ((nI 242) + x8) 262 ∧ (((X7 1 ((nI 251) + x7).toNatClampNeg) < (X8 1 ((nI 242) + x8).toNatClampNeg) → ((nI 0) = 0 ∨ (nI 0) = 1) ∧ Q (.inl (some (.int (nI 0)))) (LX9 ++ r) X8 Y8) ∧ (¬ ((X7 1 ((nI 251) + x7).toNatClampNeg) < (X8 1 ((nI 242) + x8).toNatClampNeg)) → ((nI 1) = 0 ∨ (nI 1) = 1) ∧ Q (.inl (some (.int (nI 1)))) (LX9 ++ r) X8 Y8)))))))) ∧ (¬ (x5 = (nI 3)) → ((nI 0) = 0 ∨ (nI 0) = 1) ∧ Q (.inl (some (.int (nI 0)))) (LX9 ++ r) X5 Y5)))) := fun w3 => by
    have jd : jdP s w a c ↔ ∃ k0, rul s (sFo s) a c (sN s) = some k0 ∧ sWd s k0 = 3 ∧ ¬ sWe s (sFi s k0) < sCa s (sSe s k0) := by unfold jdP; rw [if_pos w3]
    cases hr : rul s (sFo s) a c (sN s) with
    | none => exact ⟨fun _ => ⟨(by first | exact Or.inl rfl | exact Or.inr rfl | exact Or.inl trivial | exact Or.inr trivial), t0 (fun j => by obtain ⟨k0, j1, -⟩ := jd.mp j; rw [hr] at j1; cases j1)⟩, fun y => absurd rfl y⟩
    | some k0 =>
      have hk := (rul_lt hr).1
      have hs := hI.2.2.1 k0 hk
      have vv := hV.2.2.1 k0 hk
      have s1 := hI.2.2.2 (sFi s k0) (by omega)
      have s2 := hI.2.2.2 (sSe s k0) (by omega)
      rw [oI_some]
      refine ⟨fun y => absurd y (nI_m1 (by omega)), fun _ => X9_of_s (by omega) (by omega) (cK1_mk ?_)⟩
      rw [show X 1 (2 + 6 * k0 + 0) = nI (sWd s k0) from vv.1, m_eq (by omega) (by omega)]
      refine ⟨fun q => X9_of_s (by omega) (by omega) (cK1_mk ?_), fun q => ⟨(by first | exact Or.inl rfl | exact Or.inr rfl | exact Or.inl trivial | exact Or.inr trivial), t0 (fun j => ?_)⟩⟩
      · rw [vv.2.1, m_add]
        refine ⟨(m_in (by omega)).mpr (by omega), X9_of_s (by omega) (by omega) (cK1_mk ?_)⟩
        rw [vv.2.2.1, m_add, m_clamp (by omega), m_clamp (by omega), (hV.2.2.2 _ (by omega)).2, (hV.2.2.2 _ (by omega)).1, m_zlt (by omega) (by omega)]
        refine ⟨(m_in (by omega)).mpr (by omega), fun q2 => ⟨(by first | exact Or.inl rfl | exact Or.inr rfl | exact Or.inl trivial | exact Or.inr trivial), t0 (fun j => ?_)⟩, fun q2 => ⟨(by first | exact Or.inl rfl | exact Or.inr rfl | exact Or.inl trivial | exact Or.inr trivial), t1 (jd.mpr ⟨k0, hr, q, q2⟩)⟩⟩
        obtain ⟨k0', j1, j2, j3⟩ := jd.mp j
        rw [hr] at j1
        cases j1
        exact j3 q2
      · obtain ⟨k0', j1, j2, j3⟩ := jd.mp j
        rw [hr] at j1
        cases j1
        exact q j2
  have jd : w ≠ 3 → (jdP s w a c ↔ kd s (sFo s) a c = w ∧ (w = 0 ↔ (sWe s c < sCa s a ∨ sWe s a < sCa s c))) := fun w3 => by unfold jdP; rw [if_neg w3]
  have KF : w ≠ 3 → (sWe s c < sCa s a ∨ sWe s a < sCa s c) → tX9_kindOf [.ref 0, .int (nI a), .int (nI c)] (LX9 ++ r) X Y (cK1 (LX9 ++ r) Q (fun x10 X10 Y10 => (¬ x10 = (nI w) → ((nI 0) = 0 ∨ (nI 0) = 1) ∧ Q (.inl (some (.int (nI 0)))) (LX9 ++ r) X10 Y10) ∧ (¬ (¬ x10 = (nI w)) → ((nI w) ≤ 0 → (¬ (nI 0) = (nI 0) → ((nI 0) = 0 ∨ (nI 0) = 1) ∧ Q (.inl (some (.int (nI 0)))) (LX9 ++ r) X10 Y10) ∧ (¬ (¬ (nI 0) = (nI 0)) → ((nI 1) = 0 ∨ (nI 1) = 1) ∧ Q (.inl (some (.int (nI 1)))) (LX9 ++ r) X10 Y10)) ∧ (¬ ((nI w) ≤ 0) → (¬ (nI 0) = (nI 1) → ((nI 0) = 0 ∨ (nI 0) = 1) ∧ Q (.inl (some (.int (nI 0)))) (LX9 ++ r) X10 Y10) ∧ (¬ (¬ (nI 0) = (nI 1)) → ((nI 1) = 0 ∨ (nI 1) = 1) ∧ Q (.inl (some (.int (nI 1)))) (LX9 ++ r) X10 Y10))))) := fun w3 o => by
    refine X9_kindOf_s hI hV (by omega) (by omega) (cK1_mk ?_)
    exact ⟨fun q => ⟨(by first | exact Or.inl rfl | exact Or.inr rfl | exact Or.inl trivial | exact Or.inr trivial), t0 (fun j => q (mk.mpr ((jd w3).mp j).1))⟩, fun q => ⟨fun q2 => ⟨fun y => absurd rfl y, fun _ => ⟨(by first | exact Or.inl rfl | exact Or.inr rfl | exact Or.inl trivial | exact Or.inr trivial), t1 ((jd w3).mpr ⟨mk.mp (Classical.not_not.mp q), ⟨fun _ => o, fun _ => mw.mp q2⟩⟩)⟩⟩, fun q2 => ⟨fun _ => ⟨(by first | exact Or.inl rfl | exact Or.inr rfl | exact Or.inl trivial | exact Or.inr trivial), t0 (fun j => q2 (mw.mpr (((jd w3).mp j).2.mpr o)))⟩, fun y => absurd nI01 y⟩⟩⟩
  have KN : w ≠ 3 → ¬ (sWe s c < sCa s a ∨ sWe s a < sCa s c) → tX9_kindOf [.ref 0, .int (nI a), .int (nI c)] (LX9 ++ r) X Y (cK1 (LX9 ++ r) Q (fun x35 X35 Y35 => (¬ x35 = (nI w) → ((nI 0) = 0 ∨ (nI 0) = 1) ∧ Q (.inl (some (.int (nI 0)))) (LX9 ++ r) X35 Y35) ∧ (¬ (¬ x35 = (nI w)) → ((nI w) ≤ 0 → (¬ (nI 1) = (nI 0) → ((nI 0) = 0 ∨ (nI 0) = 1) ∧ Q (.inl (some (.int (nI 0)))) (LX9 ++ r) X35 Y35) ∧ (¬ (¬ (nI 1) = (nI 0)) → ((nI 1) = 0 ∨ (nI 1) = 1) ∧ Q (.inl (some (.int (nI 1)))) (LX9 ++ r) X35 Y35)) ∧ (¬ ((nI w) ≤ 0) → (¬ (nI 1) = (nI 1) → ((nI 0) = 0 ∨ (nI 0) = 1) ∧ Q (.inl (some (.int (nI 0)))) (LX9 ++ r) X35 Y35) ∧ (¬ (¬ (nI 1) = (nI 1)) → ((nI 1) = 0 ∨ (nI 1) = 1) ∧ Q (.inl (some (.int (nI 1)))) (LX9 ++ r) X35 Y35))))) := fun w3 o => by
    refine X9_kindOf_s hI hV (by omega) (by omega) (cK1_mk ?_)
    exact ⟨fun q => ⟨(by first | exact Or.inl rfl | exact Or.inr rfl | exact Or.inl trivial | exact Or.inr trivial), t0 (fun j => q (mk.mpr ((jd w3).mp j).1))⟩, fun q => ⟨fun q2 => ⟨fun _ => ⟨(by first | exact Or.inl rfl | exact Or.inr rfl | exact Or.inl trivial | exact Or.inr trivial), t0 (fun j => o (((jd w3).mp j).2.mp (mw.mp q2)))⟩, fun y => absurd (fun e => nI01 (Eq.symm e)) y⟩, fun q2 => ⟨fun y => absurd rfl y, fun _ => ⟨(by first | exact Or.inl rfl | exact Or.inr rfl | exact Or.inl trivial | exact Or.inr trivial), t1 ((jd w3).mpr ⟨mk.mp (Classical.not_not.mp q), ⟨fun y => absurd (mw.mpr y) q2, fun y => absurd y o⟩⟩)⟩⟩⟩⟩
  have h3 : nI 3 ≤ nI w ↔ w = 3 := by rw [m_le (by omega) (by omega)]; omega
  obtain ⟨ca, wa⟩ := hV.2.2.2 a (by omega)
  obtain ⟨cc, wc⟩ := hV.2.2.2 c (by omega)
  have lt1 : X 1 ((nI 251) + (nI c)).toNatClampNeg < X 1 ((nI 242) + (nI a)).toNatClampNeg ↔ sWe s c < sCa s a := by rw [m_add, m_add, m_clamp (by omega), m_clamp (by omega), wc, ca, m_zlt (by omega) (by omega)]
  have lt2 : X 1 ((nI 251) + (nI a)).toNatClampNeg < X 1 ((nI 242) + (nI c)).toNatClampNeg ↔ sWe s a < sCa s c := by rw [m_add, m_add, m_clamp (by omega), m_clamp (by omega), wa, cc, m_zlt (by omega) (by omega)]
  have v1 : vp_in (nI 242 + nI a) 262 := by rw [m_add]; exact (m_in (by omega)).mpr (by omega)
  have v2 : vp_in (nI 251 + nI c) 262 := by rw [m_add]; exact (m_in (by omega)).mpr (by omega)
  have v3 : vp_in (nI 242 + nI c) 262 := by rw [m_add]; exact (m_in (by omega)).mpr (by omega)
  have v4 : vp_in (nI 251 + nI a) 262 := by rw [m_add]; exact (m_in (by omega)).mpr (by omega)
  apply tX9_judged_i
  refine X9_ruler_s hI hV (by omega) (by omega) (cK1_mk ⟨v1, v2, fun o => ⟨fun q => AH (h3.mp q), fun q => KF (fun e => q (h3.mpr e)) (Or.inl (lt1.mp o))⟩, fun o => ⟨v3, v4, fun o2 => ⟨fun q => AH (h3.mp q), fun q => KF (fun e => q (h3.mpr e)) (Or.inr (lt2.mp o2))⟩, fun o2 => ⟨fun q => AH (h3.mp q), fun q => KN (fun e => q (h3.mpr e)) (fun e => e.elim (fun y => o (lt1.mpr y)) (fun y => o2 (lt2.mpr y)))⟩⟩⟩)
end Jdg9
