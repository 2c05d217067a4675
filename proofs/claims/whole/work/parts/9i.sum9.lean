/-! sum by the reference, but for the chart -/
section Sm9
variable {CM : HX → St → Prop} {X X' : HX} {Y Y' : HY} {s : St} {r : Ly} {Q : Qt}
theorem X9_sum_s {q : Int32} (h : Mw CM X Y s) (k : ∀ w, w < 6 → q = nI w → ScM X (up2 X 0 0 (nI 0)) Y Y → Mw CM (up2 X 0 0 (nI 0)) Y s → Q (rI (nI (suV s w))) (LX9 ++ r) (up2 X 0 0 (nI 0)) Y) (k6 : q = nI 6 → layQ s → ∀ X' Y', ScM X X' Y Y' → X' 0 0 = nI 0 → Mw CM X' Y' s → NV X' (Ms s) → MKo X' s → WyV Y' (sm s) (mayQ s) → tX9_chart [.ref 0] (LX9 ++ r) X' Y' (cK0 (LX9 ++ r) Q (fun X25 Y25 => Q (.inl (some (.int (X25 0 35)))) (LX9 ++ r) X25 Y25))) (k6n : q = nI 6 → ¬ layQ s → ∀ X' Y', ScM X X' Y Y' → X' 0 0 = nI 0 → Mw CM X' Y' s → Q (rI (nI 0)) (LX9 ++ r) X' Y') (kn : (q.toInt < 0 ∨ 6 < q.toInt) → ScM X (up2 X 0 0 (nI 0)) Y Y → Mw CM (up2 X 0 0 (nI 0)) Y s → Q (rI (-1)) (LX9 ++ r) (up2 X 0 0 (nI 0)) Y) : tX9_sum [.ref 0, .int q] (LX9 ++ r) X Y Q := by
  have s0 : ScM X (up2 X 0 0 (nI 0)) Y Y := .up (by decide)
  have h0 := h.sc s0
  have e0 : up2 X 0 0 (nI 0) 0 0 = nI 0 := up2_same
  have n40 := h.si.2.1
  apply tX9_sum_i
  revert k kn
  revert s0 h0 e0
  generalize up2 X 0 0 (nI 0) = X1
  intro s0 h0 e0 k kn
  obtain ⟨a1, a2, a3, a4⟩ := h0.sv
  have v1 : vp_in (nI 1) 262 := (m_in (by omega)).mpr (by omega)
  have v0 : vp_in (nI 0) 262 := (m_in (by omega)).mpr (by omega)
  have c1 : (nI 1).toNatClampNeg = 1 := m_clamp (by omega)
  have c0 : (nI 0).toNatClampNeg = 0 := m_clamp (by omega)
  have H : ∀ n j, j + n = sN s → hX9_sum_9 Q r q (nI (nF s j)) (nI j) X1 Y := by
    intro n
    induction n with
    | zero =>
      intro j hj
      have ej : j = sN s := by omega
      subst ej
      apply hX9_sum_9_i
      refine ⟨v1, fun _ => ?_, fun y => absurd (by rw [c1, a2, m_le (by omega) (by omega)]; exact Nat.le_refl _) y⟩
      by_cases hq : ¬ q < 0 ∧ ¬ nI 6 < q
      · obtain ⟨w, hw, rfl⟩ := w6_c hq
        obtain rfl | rfl | rfl | rfl | rfl | rfl | rfl : w = 0 ∨ w = 1 ∨ w = 2 ∨ w = 3 ∨ w = 4 ∨ w = 5 ∨ w = 6 := by omega
        · refine ⟨fun _ => ⟨fun y => absurd (by decide) y, fun _ => ⟨v0, ?_⟩⟩, fun y => absurd (by decide) y⟩
          rw [c0, a1]; exact k 0 (by omega) rfl s0 h0
        · refine ⟨fun _ => ⟨fun _ => ⟨fun y => absurd rfl y, fun _ => ⟨v1, ?_⟩⟩, fun y => absurd (by decide) y⟩, fun y => absurd (by decide) y⟩
          rw [c1, a2]; exact k 1 (by omega) rfl s0 h0
        · exact ⟨fun _ => ⟨fun _ => ⟨fun _ => ⟨fun y => absurd rfl y, fun _ => k 2 (by omega) rfl s0 h0⟩, fun y => absurd (by decide) y⟩, fun y => absurd (by decide) y⟩, fun y => absurd (by decide) y⟩
        · exact ⟨fun _ => ⟨fun _ => ⟨fun _ => ⟨fun _ => ⟨fun y => absurd rfl y, fun _ => X9_inall_s h0.sv h0.si (cK1_mk (k 3 (by omega) rfl s0 h0))⟩, fun y => absurd (by decide) y⟩, fun y => absurd (by decide) y⟩, fun y => absurd (by decide) y⟩, fun y => absurd (by decide) y⟩
        · exact ⟨fun _ => ⟨fun _ => ⟨fun _ => ⟨fun _ => ⟨fun _ => ⟨fun y => absurd rfl y, fun _ => X9_kinds_s (by omega) h0.sv h0.si (cK1_mk (k 4 (by omega) rfl s0 h0))⟩, fun y => absurd (by decide) y⟩, fun y => absurd (by decide) y⟩, fun y => absurd (by decide) y⟩, fun y => absurd (by decide) y⟩, fun y => absurd (by decide) y⟩
        · exact ⟨fun _ => ⟨fun _ => ⟨fun _ => ⟨fun _ => ⟨fun _ => ⟨fun _ => ⟨fun y => absurd rfl y, fun _ => X9_kinds_s (by omega) h0.sv h0.si (cK1_mk (k 5 (by omega) rfl s0 h0))⟩, fun y => absurd (by decide) y⟩, fun y => absurd (by decide) y⟩, fun y => absurd (by decide) y⟩, fun y => absurd (by decide) y⟩, fun y => absurd (by decide) y⟩, fun y => absurd (by decide) y⟩
        · refine ⟨fun y => absurd rfl y, fun _ => ?_⟩
          refine Q9_ready h0 (fun hl X2 Y2 sc2 e2 h2 n2 m2 w2 => cK1_mk ⟨fun y => absurd y (by decide), fun _ => k6 rfl hl X2 Y2 (s0.trans sc2) (e2.trans e0) h2 n2 m2 w2⟩) (fun hl X2 Y2 sc2 e2 h2 n2 => cK1_mk ⟨fun _ => ?_, fun y => absurd rfl y⟩)
          have kk := k6n rfl hl X2 Y2 (s0.trans sc2) (e2.trans e0) h2
          exact ⟨fun _ => ⟨fun _ => ⟨fun _ => ⟨fun _ => ⟨fun _ => ⟨fun _ => ⟨fun y => absurd rfl y, fun _ => kk⟩, fun y => absurd (by decide) y⟩, fun y => absurd (by decide) y⟩, fun y => absurd (by decide) y⟩, fun y => absurd (by decide) y⟩, fun y => absurd (by decide) y⟩, fun y => absurd (by decide) y⟩
      · have hn := w6_n hq
        have ne : ∀ w : Nat, w ≤ 6 → ¬ q = nI w := fun w hw e => by
          rw [e, nI_toInt (by omega)] at hn; omega
        exact ⟨fun _ => ⟨fun _ => ⟨fun _ => ⟨fun _ => ⟨fun _ => ⟨fun _ => ⟨fun _ => ⟨fun _ => kn hn s0 h0, fun y => absurd (ne 6 (by omega)) y⟩, fun y => absurd (ne 5 (by omega)) y⟩, fun y => absurd (ne 4 (by omega)) y⟩, fun y => absurd (ne 3 (by omega)) y⟩, fun y => absurd (ne 2 (by omega)) y⟩, fun y => absurd (ne 1 (by omega)) y⟩, fun y => absurd (ne 0 (by omega)) y⟩, fun y => absurd (ne 6 (by omega)) y⟩
    | succ n ih =>
      intro j hj
      have hjN : j < sN s := by omega
      apply hX9_sum_9_i
      refine ⟨v1, fun y => absurd y (by rw [c1, a2, m_le (by omega) (by omega)]; omega), fun _ => X9_of_s (by omega) (by omega) (cK1_mk ?_)⟩
      rw [(a3 j hjN).2.2.2.2.2]
      have i1 := ih (j + 1) (by omega)
      cases hf : sFo s j with
      | true =>
        rw [nF_y hjN hf] at i1
        have e : nI (nF s j) + nI true.toNat = nI (nF s j + 1) := m_add _ _
        rw [e, m_add]; exact i1
      | false =>
        rw [nF_n hf] at i1
        have e : nI (nF s j) + nI false.toNat = nI (nF s j) := m_add _ _
        rw [e, m_add]; exact i1
  have h9 := H (sN s) 0 (Nat.zero_add _)
  exact h9
end Sm9
