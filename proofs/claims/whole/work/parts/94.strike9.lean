/-! strike, by the reference -/
section Strk9
variable {CM : HX → St → Prop} {X X' : HX} {Y Y' : HY} {s : St} {Q : Qt} {r : Ly}
/-- cells of s that changes aside -/
def KpM (X X' : HX) (Y Y' : HY) : Prop := (∀ c, c ∈ [2, 3, 4, 5, 6] → X' c = X c ∧ Y' c = Y c) ∧ (∀ i, i ∈ [5, 7, 10] → X' 0 i = X 0 i) ∧ ∀ i, 260 ≤ i → X' 1 i = X 1 i
theorem X9_strike_s {p q : Int32} (hq : q = nI 0 ∨ q = nI 1) (h : Mw CM X Y s) (k1 : ∀ k0 X' Y' res, p = nI k0 → k0 < sN s → KpM X X' Y Y' → Mw CM X' Y' (stF s k0 (decide (q = nI 0))) → ansM cd1 (aStrike s k0 (decide (q = nI 0))) (X' 0 0) res → Q res (LX9 ++ r) X' Y') (k2 : ¬ isM s p → ∀ x, ScM X (up2 X 0 0 (nI 1)) Y Y → Mw CM (up2 X 0 0 (nI 1)) Y s → Q (rI x) (LX9 ++ r) (up2 X 0 0 (nI 1)) Y) : tX9_strike [.ref 0, .int p, .int q] (LX9 ++ r) X Y Q := by
  have n40 := h.si.2.1
  have g9 := h.si.1
  have sc : ∀ v, ScM X (up2 X 0 0 v) Y Y := fun v => .up (by decide)
  apply tX9_strike_i
  rw [m_clamp (by omega), h.sv.2.1]
  refine ⟨(m_in (by omega)).mpr (by omega), Q9_below (by omega) (fun z hz => cK1_mk ⟨fun q1 => ?_, fun q1 => ?_⟩)⟩
  · have hp : isM s p := hz.mp (z11 q1)
    obtain ⟨k0, hk, rfl⟩ := isM_c hp
    have h0 := h.sc (sc (nI 0))
    have vv := h0.sv.2.2.1 k0 hk
    have fin : ∀ v : Bool, v = decide (q = nI 0) → ∀ x, x = (sFo s k0 != v).toNat → Q (.inl (some (.int (nI x)))) (LX9 ++ r) (up2 (up2 (up2 X 0 0 (nI 0)) 1 (2 + 6 * k0 + 5) (nI v.toNat)) 0 28 (nI 0)) Y := fun v ev x ex => by
      subst ev
      refine k1 k0 _ Y _ rfl hk ⟨fun c hc => ⟨?_, rfl⟩, fun i hi => ?_, fun i hi => ?_⟩ ⟨h.1, h.si, ?_, Or.inl up2_same⟩ ⟨?_, ?_⟩
      · rw [up2_row (fun e => by subst e; simp at hc), up2_row (fun e => by subst e; simp at hc), up2_row (fun e => by subst e; simp at hc)]
      · rw [up2_idx (fun e => by subst e; simp at hi), up2_row (by omega), up2_idx (fun e => by subst e; simp at hi)]
      · rw [up2_row (by omega), up2_idx (by omega), up2_row (by omega)]
      · have e1 : ∀ i, up2 (up2 (up2 X 0 0 (nI 0)) 1 (2 + 6 * k0 + 5) (nI (decide (q = nI 0)).toNat)) 0 28 (nI 0) 1 i = if i = 2 + 6 * k0 + 5 then nI (decide (q = nI 0)).toNat else X 1 i := fun i => by
          rw [up2_row (by omega)]
          by_cases e : i = 2 + 6 * k0 + 5
          · rw [if_pos e, e, up2_same]
          · rw [if_neg e, up2_idx e, up2_row (by omega)]
        obtain ⟨a1, a2, a3, a4⟩ := h.sv
        refine ⟨by rw [e1, if_neg (by omega)]; exact a1, by rw [e1, if_neg (by omega)]; exact a2, fun k hk' => ?_, fun i hi => ?_⟩
        · obtain ⟨b0, b1, b2, b3, b4, b5⟩ := a3 k hk'
          refine ⟨by rw [e1, if_neg (by omega)]; exact b0, by rw [e1, if_neg (by omega)]; exact b1, by rw [e1, if_neg (by omega)]; exact b2, by rw [e1, if_neg (by omega)]; exact b3, by rw [e1, if_neg (by omega)]; exact b4, ?_⟩
          show _ = nI (if k = k0 then decide (q = nI 0) else sFo s k).toNat
          rw [e1]
          by_cases e : k = k0
          · rw [if_pos e, if_pos (by omega)]
          · rw [if_neg e, if_neg (by omega)]; exact b5
        · have hi2 : i < 9 := hi
          have k40 : k0 < 40 := by omega
          exact ⟨by rw [e1, if_neg (by omega)]; exact (a4 i hi).1, by rw [e1, if_neg (by omega)]; exact (a4 i hi).2⟩
      · rw [up2_idx (by omega), up2_row (by omega), up2_same]
      · rw [ex]
    rw [up2_same]
    refine ⟨fun _ => X9_of_s (by omega) (by omega) (cK1_mk ?_), fun y => absurd (by decide) y⟩
    rw [vv.2.2.2.2.2]
    have ei : (nI 2 + nI 6 * nI k0) + nI 5 = nI (2 + 6 * k0 + 5) := by simp (disch := omega) only [m_0, m_L0, m_lt, m_le, m_eq, m_neg, m_in, m_clamp, m_add, m_sub, m_pred, m_mul, m_l, m_i, m_Land, m_Lor, m_and, m_or, m_xor, m_Landn, m_andn, m_LshlP, m_shl, m_LbitP, m_bit, m_cmp0P, m_Lb0, m_Lb1, m_b0, m_b1, Nat.one_mul]
    rw [ei, m_clamp (by omega)]
    have hv : vp_in (nI (2 + 6 * k0 + 5)) 262 := (m_in (by omega)).mpr (by omega)
    have f1 := fin (decide (q = nI 0)) rfl
    rcases hq with rfl | rfl
    · refine ⟨fun _ => ⟨hv, (by first | exact Or.inl rfl | exact Or.inr rfl | exact Or.inl trivial | exact Or.inr trivial), hv, ?_⟩, fun y => absurd rfl y⟩
      rw [show up2 (up2 (up2 X 0 0 (nI 0)) 1 (2 + 6 * k0 + 5) (nI 1)) 0 28 (nI 0) 1 (2 + 6 * k0 + 5) = nI 1 by rw [up2_row (by omega), up2_same]]
      have f1 := fin true (by decide)
      cases hf : sFo s k0 with
      | false => rw [hf] at f1; exact ⟨fun y => absurd y (by decide), fun _ => ⟨(by first | exact Or.inl rfl | exact Or.inr rfl | exact Or.inl trivial | exact Or.inr trivial), f1 1 rfl⟩⟩
      | true => rw [hf] at f1; exact ⟨fun _ => ⟨(by first | exact Or.inl rfl | exact Or.inr rfl | exact Or.inl trivial | exact Or.inr trivial), f1 0 rfl⟩, fun y => absurd rfl y⟩
    · refine ⟨fun y => absurd y (by decide), fun _ => ⟨hv, (by first | exact Or.inl rfl | exact Or.inr rfl | exact Or.inl trivial | exact Or.inr trivial), hv, ?_⟩⟩
      rw [show up2 (up2 (up2 X 0 0 (nI 0)) 1 (2 + 6 * k0 + 5) (nI 0)) 0 28 (nI 0) 1 (2 + 6 * k0 + 5) = nI 0 by rw [up2_row (by omega), up2_same]]
      have f1 := fin false (by decide)
      cases hf : sFo s k0 with
      | false => rw [hf] at f1; exact ⟨fun _ => ⟨(by first | exact Or.inl rfl | exact Or.inr rfl | exact Or.inl trivial | exact Or.inr trivial), f1 0 rfl⟩, fun y => absurd rfl y⟩
      | true => rw [hf] at f1; exact ⟨fun y => absurd y (by decide), fun _ => ⟨(by first | exact Or.inl rfl | exact Or.inr rfl | exact Or.inl trivial | exact Or.inr trivial), f1 1 rfl⟩⟩
  · have hp : ¬ isM s p := fun e => q1 (by rw [hz.mpr e]; decide)
    have kk := fun x => k2 hp x (sc _) (h.sc (sc _))
    rw [up2_same]
    exact ⟨fun y => absurd y (by decide), fun _ => ⟨(by first | exact Or.inl rfl | exact Or.inr rfl | exact Or.inl trivial | exact Or.inr trivial), kk _⟩⟩
end Strk9
