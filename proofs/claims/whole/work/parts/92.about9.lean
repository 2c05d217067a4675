/-! about, by the reference -/
section Abt9
variable {CM : HX → St → Prop} {X X' : HX} {Y Y' : HY} {s : St} {Q : Qt} {r : Ly}
theorem X9_about_s {p q : Int32} (h : Mw CM X Y s) (k : ∀ X' Y' res, ScM X X' Y Y' → Mw CM X' Y' s → ansM cdG (aAbout s p q) (X' 0 0) res → Q res (LX9 ++ r) X' Y') : tX9_about [.ref 0, .int p, .int q] (LX9 ++ r) X Y Q := by
  have n40 := h.si.2.1
  have g9 := h.si.1
  have sc : ∀ v, ScM X (up2 X 0 0 v) Y Y := fun v => .up (by decide)
  have kk := fun v res => k _ _ res (sc v) (h.sc (sc v))
  apply tX9_about_i
  rw [m_clamp (by omega), h.sv.2.1]
  refine ⟨(m_in (by omega)).mpr (by omega), Q9_below (by omega) (fun z hz => cK1_mk ⟨fun q1 => ?_, fun q1 => ?_⟩)⟩
  · have hp : isM s p := hz.mp (z11 q1)
    obtain ⟨k0, hk, rfl⟩ := isM_c hp
    refine Q9_in (by omega) (by omega) (fun y hy => cK1_mk ⟨fun q2 => ?_, fun q2 => ?_⟩)
    · have hq : ¬ q < 0 ∧ ¬ nI 6 < q := hy.mp (z11 q2)
      obtain ⟨w, hw, rfl⟩ := w6_c hq
      have k1 := kk (nI 0)
      unfold aAbout at k1
      rw [up2_same, cif_y hp, cif_y hq, m_clamp (by omega), m_clamp (by omega)] at k1
      have k2 := k1 _ ⟨rfl, rfl⟩
      have hv := (h.sc (sc (nI 0))).sv
      have hs := h.si.2.2.1 k0 hk
      rw [up2_same]
      refine ⟨fun _ => ?_, fun y => absurd (by decide) y⟩
      clear k1
      revert k2 hv
      generalize up2 X 0 0 (nI 0) = Z
      intro k2 hv
      have vv := hv.2.2.1 k0 hk
      rw [m_le (by omega) (by omega)]
      refine ⟨fun q6 => ?_, fun q6 => X9_of_s (by omega) (by omega) (cK1_mk ?_)⟩
      · have ew : w = 6 := by omega
        subst ew
        refine X9_of_s (by omega) (by omega) (cK1_mk (X9_of_s (by omega) (by omega) (cK1_mk ?_)))
        rw [vv.2.1, vv.2.2.1]
        refine X9_ruler_s h.si hv (by omega) (by omega) (cK1_mk ?_)
        have e6 : abV s k0 6 = nI (rulB s k0).toNat := rfl
        rw [e6] at k2
        unfold rulB at k2
        cases hr : rul s (sFo s) (sFi s k0) (sSe s k0) (sN s) with
        | none =>
          rw [hr] at k2
          exact ⟨fun _ => k2, fun q => absurd (fun e => nI_m1 (by omega) (Eq.symm e)) q⟩
        | some t =>
          have ht := (rul_lt hr).1
          rw [hr] at k2
          rw [oI_some]
          by_cases e : t = k0
          · subst e
            rw [show decide (some t = some t) = true from decide_eq_true rfl] at k2
            exact ⟨fun q => absurd rfl q, fun _ => k2⟩
          · rw [show decide (some t = some k0) = false from decide_eq_false (fun z => e (Option.some.inj z))] at k2
            exact ⟨fun _ => k2, fun q => absurd (fun z => e ((m_eq (by omega) (by omega)).mp z)) q⟩
      · obtain rfl | rfl | rfl | rfl | rfl | rfl : w = 0 ∨ w = 1 ∨ w = 2 ∨ w = 3 ∨ w = 4 ∨ w = 5 := by omega
        · rw [show Z 1 (2 + 6 * k0 + 0) = nI (sWd s k0) from vv.1]; exact k2
        · rw [vv.2.1]; exact k2
        · rw [vv.2.2.1]; exact k2
        · rw [vv.2.2.2.1]; exact k2
        · rw [vv.2.2.2.2.1]; exact k2
        · rw [vv.2.2.2.2.2]; exact k2
    · have hq : ¬ (¬ q < 0 ∧ ¬ nI 6 < q) := fun e => q2 (by rw [hy.mpr e]; decide)
      have k1 := kk (nI 2)
      unfold aAbout at k1
      rw [up2_same, cif_y hp, cif_n hq] at k1
      rw [up2_same]
      exact ⟨fun y => absurd y (by decide), fun _ => k1 _ ⟨rfl, _, rfl⟩⟩
  · have hp : ¬ isM s p := fun e => q1 (by rw [hz.mpr e]; decide)
    have k1 := kk (nI 1)
    unfold aAbout at k1
    rw [up2_same, cif_n hp] at k1
    rw [up2_same]
    exact ⟨fun y => absurd y (by decide), fun _ => k1 _ ⟨rfl, _, rfl⟩⟩
end Abt9
