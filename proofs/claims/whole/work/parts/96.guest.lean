/-! guest (both), stay by the reference -/
section Gst
variable {CK S1 S2 : HX → St → Prop} {CM : HX → St → Prop} {X X' : HX} {Y Y' : HY} {s : St} {b : Bool} {Q : Qt} {r : Ly}
theorem Q8_forget (hc : InC 65 75 CK ∧ InC 76 76 S1 ∧ InC 77 77 S2) (si : SI s) (bv : BV 9 X s) (ef : Y 9 2 = lN (fm s)) (w : X 33 2 = nI 10 ∧ X 37 2 = nI 10) (pv : PV (sb S41 X) P0) (k : ∀ X', (∀ c, c < nC8 b → (c < 25 ∨ c = 61 ∨ 79 ≤ c) → X' c = X c) → Qw CK S1 S2 X' Y s → Q (.inl none) (LX8 b) X' Y) : tX8_forget b [.ref 0] (LX8 b) X Y Q := by
  apply tX8_forget_i
  refine ⟨(by first | exact Or.inl rfl | exact Or.inr rfl | exact Or.inl trivial | exact Or.inr trivial), (by first | exact Or.inl rfl | exact Or.inr rfl | exact Or.inl trivial | exact Or.inr trivial), (by first | exact Or.inl rfl | exact Or.inr rfl | exact Or.inl trivial | exact Or.inr trivial), (by first | exact Or.inl rfl | exact Or.inr rfl | exact Or.inl trivial | exact Or.inr trivial), (by first | exact Or.inl rfl | exact Or.inr rfl | exact Or.inl trivial | exact Or.inr trivial), (by first | exact Or.inl rfl | exact Or.inr rfl | exact Or.inl trivial | exact Or.inr trivial), ?_⟩
  have fz : ∀ c, c ≠ 25 → c ≠ 41 → c ≠ 49 → c ≠ 65 → c ≠ 76 → c ≠ 77 → up2 (up2 (up2 (up2 (up2 (up2 X 25 3 (nI 0)) 41 4 (nI 0)) 49 4 (nI 0)) 65 6 (nI 0)) 76 0 (nI 0)) 77 0 (nI 0) c = X c := fun c q1 q2 q3 q4 q5 q6 => by
    rw [up2_row q6, up2_row q5, up2_row q4, up2_row q3, up2_row q2, up2_row q1]
  refine k _ (fun c _ hd => fz c (by omega) (by omega) (by omega) (by omega) (by omega) (by omega)) ⟨hc, si, bv.of (fun c q1 q2 => fz c (by omega) (by omega) (by omega) (by omega) (by omega) (by omega)), ef, ⟨by rw [fz 33 (by omega) (by omega) (by omega) (by omega) (by omega) (by omega)]; exact w.1, by rw [fz 37 (by omega) (by omega) (by omega) (by omega) (by omega) (by omega)]; exact w.2⟩, fun t ht => ?_, Or.inl ?_, Or.inl ?_, Or.inl ?_, Or.inl ?_, Or.inl ?_, Or.inl up2_same⟩
  · have := pv t ht
    show up2 (up2 (up2 (up2 (up2 (up2 X 25 3 (nI 0)) 41 4 (nI 0)) 49 4 (nI 0)) 65 6 (nI 0)) 76 0 (nI 0)) 77 0 (nI 0) 45 t = _ ∧ _
    rw [fz 45 (by omega) (by omega) (by omega) (by omega) (by omega) (by omega)]
    exact this
  · rw [up2_row (by omega), up2_row (by omega), up2_row (by omega), up2_row (by omega), up2_row (by omega), up2_same]
  · rw [up2_row (by omega), up2_row (by omega), up2_row (by omega), up2_row (by omega), up2_same]
  · rw [up2_row (by omega), up2_row (by omega), up2_row (by omega), up2_same]
  · rw [up2_row (by omega), up2_row (by omega), up2_same]
  · rw [up2_row (by omega), up2_same]
theorem X8_guest_s (h : Qw CK S1 S2 X Y s) (k1 : sG s < 9 → ∀ X', (∀ c, c < nC8 b → c ≠ 9 → (c < 25 ∨ c = 61 ∨ 79 ≤ c) → X' c = X c) → (∀ i, i ≠ 0 → X' 9 i = X 9 i) → Qw CK S1 S2 X' Y (gsF s) → Q (rI (nI (sG s))) (LX8 b) X' Y) (k2 : ¬ sG s < 9 → Q (.inr XU) (LX8 b) X Y) : tX8_guest b [.ref 0] (LX8 b) X Y Q := by
  have g9 := h.si.1
  have n79 := nC8_79 b
  apply tX8_guest_i
  rw [h.bv.1, m_lt (by omega) (by omega)]
  refine ⟨fun q => ?_, fun q => k2 q⟩
  rw [m_add]
  obtain ⟨b1, b2, b3, b4⟩ := h.bv
  have ez : ∀ c, c ≠ 9 → up2 X 9 0 (nI (sG s + 1)) c = X c := fun c d => up2_row d
  have bz : BV 9 (up2 X 9 0 (nI (sG s + 1))) (gsF s) := by
    refine ⟨up2_same, by rw [up2_idx (by omega)]; exact b2, fun k hk => ?_, fun i hi => ?_⟩
    · rw [ez (9 + 1) (by omega), ez (9 + 2) (by omega), ez (9 + 3) (by omega), ez (9 + 4) (by omega), ez (9 + 5) (by omega)]
      exact b3 k hk
    · rw [ez (9 + 6) (by omega), ez (9 + 7) (by omega)]
      exact b4 i hi
  have w := h.2.2.2.2.1
  have pv := h.2.2.2.2.2.1
  exact Q8_forget h.1 (gsF_si h.si q) bz h.2.2.2.1 ⟨by rw [ez 33 (by omega)]; exact w.1, by rw [ez 37 (by omega)]; exact w.2⟩ (fun t ht => by
    have := pv t ht
    show up2 X 9 0 (nI (sG s + 1)) 45 t = _ ∧ _
    rw [ez 45 (by omega)]; exact this) (fun X' f hx => cK0_mk (k1 q X' (fun c hc d hd => (f c hc hd).trans (ez c d)) (fun i hi => by rw [f 9 (by omega) (by omega)]; exact up2_idx hi) hx))
theorem X9_guest_s (h : Mw CM X Y s) (k1 : sG s < 9 → ∀ X', KpM X X' Y Y → X' 0 0 = nI 0 → Mw CM X' Y (gsF s) → Q (rI (nI (sG s))) (LX9 ++ r) X' Y) (k2 : ¬ sG s < 9 → ∀ x, ScM X (up2 X 0 0 (nI 1)) Y Y → Mw CM (up2 X 0 0 (nI 1)) Y s → Q (rI x) (LX9 ++ r) (up2 X 0 0 (nI 1)) Y) : tX9_guest [.ref 0] (LX9 ++ r) X Y Q := by
  have g9 := h.si.1
  have sc : ∀ v, ScM X (up2 X 0 0 v) Y Y := fun v => .up (by decide)
  obtain ⟨a1, a2, a3, a4⟩ := h.sv
  apply tX9_guest_i
  have v0 : vp_in (nI 0) 262 := (m_in (by omega)).mpr (by omega)
  rw [m_clamp (show 0 < 2147483648 by omega), a1, m_eq (by omega) (by omega), up2_same, up2_same]
  refine ⟨v0, fun q => ⟨fun _ => ⟨v0, v0, (by first | exact Or.inl rfl | exact Or.inr rfl | exact Or.inl trivial | exact Or.inr trivial), v0, ?_⟩, fun y => absurd (by decide) y⟩, fun q => ⟨fun y => absurd y (by decide), fun _ => k2 (by omega) _ (sc _) (h.sc (sc _))⟩⟩
  have q9 : sG s < 9 := by omega
  have e0 : up2 X 0 0 (nI 0) 1 0 = nI (sG s) := by rw [up2_row (by omega)]; exact a1
  rw [e0, m_add]
  have e1 : ∀ i, i ≠ 0 → up2 (up2 (up2 X 0 0 (nI 0)) 1 0 (nI (sG s + 1))) 0 28 (nI 0) 1 i = X 1 i := fun i d => by rw [up2_row (by omega), up2_idx d, up2_row (by omega)]
  have e2 : up2 (up2 (up2 X 0 0 (nI 0)) 1 0 (nI (sG s + 1))) 0 28 (nI 0) 1 0 = nI (sG s + 1) := by rw [up2_row (by omega), up2_same]
  rw [e2, show nI (sG s + 1) - nI 1 = nI (sG s) by rw [← m_zI, ← m_zI, m_zsub, ← m_zI]; congr 1; omega]
  refine k1 q9 _ ⟨fun c hc => ⟨?_, rfl⟩, fun i hi => ?_, fun i hi => e1 i (by omega)⟩ ?_ ⟨h.1, gsF_si h.si q9, ⟨e2, by rw [e1 1 (by omega)]; exact a2, fun k hk => ?_, fun i hi => ?_⟩, Or.inl up2_same⟩
  · rw [up2_row (fun e => by subst e; simp at hc), up2_row (fun e => by subst e; simp at hc), up2_row (fun e => by subst e; simp at hc)]
  · rw [up2_idx (fun e => by subst e; simp at hi), up2_row (by omega), up2_idx (fun e => by subst e; simp at hi)]
  · rw [up2_idx (by omega), up2_row (by omega), up2_same]
  · rw [e1 _ (by omega), e1 _ (by omega), e1 _ (by omega), e1 _ (by omega), e1 _ (by omega), e1 _ (by omega)]
    exact a3 k hk
  · rw [e1 _ (by omega), e1 _ (by omega)]
    exact a4 i hi
theorem X9_stay_s {p q t : Int32} (h : Mw CM X Y s) (i1 : IgS CM) (k1 : ∀ g a w X', p = nI g → g < sG s → q = nI a → t = nI w → a ≤ w → w ≤ 99 → KpM X X' Y Y → X' 0 0 = nI 0 → Mw CM X' Y (ssF s g a w) → Q (.inl none) (LX9 ++ r) X' Y) (k2 : isG s p → ¬ okS q t → ScM X (up2 X 0 0 (nI 2)) Y Y → Mw CM (up2 X 0 0 (nI 2)) Y s → Q (.inl none) (LX9 ++ r) (up2 X 0 0 (nI 2)) Y) (k3 : ¬ isG s p → ScM X (up2 X 0 0 (nI 1)) Y Y → Mw CM (up2 X 0 0 (nI 1)) Y s → Q (.inl none) (LX9 ++ r) (up2 X 0 0 (nI 1)) Y) : tX9_stay [.ref 0, .int p, .int q, .int t] (LX9 ++ r) X Y Q := by
  have g9 := h.si.1
  have sc : ∀ v, ScM X (up2 X 0 0 v) Y Y := fun v => .up (by decide)
  apply tX9_stay_i
  refine Q9_guest h (fun z hz => cK1_mk ⟨fun q1 => ?_, fun q1 => ?_⟩)
  · have hg := hz.mp (z11 q1)
    have bad : ¬ okS q t → Q (.inl none) (LX9 ++ r) (up2 X 0 0 (nI 2)) Y := fun n => k2 hg n (sc _) (h.sc (sc _))
    refine Q9_in (by omega) (by omega) (fun y hy => cK1_mk ⟨fun q2 => ?_, fun q2 => ?_⟩)
    · rw [up2_same]
      refine ⟨fun y => absurd y (by decide), fun _ => bad (fun n => ?_)⟩
      obtain ⟨a, w, rfl, rfl, haw, hw⟩ := okS_c n
      have := hy.mpr ⟨by rw [m_lt (by omega) (by omega)]; omega, by rw [m_lt (by omega) (by omega)]; omega⟩
      rw [this] at q2; exact absurd q2 (by decide)
    · have h2 := hy.mp (z11 q2)
      rcases i32c q with z0 | ⟨a, ha, rfl⟩
      · exact absurd z0 h2.1
      have ha9 : a ≤ 99 := by have := h2.2; rw [m_lt (by omega) ha] at this; omega
      refine Q9_in ha (by omega) (fun x hx => cK1_mk ⟨fun q3 => ?_, fun q3 => ?_⟩)
      · have h3 := hx.mp (z11 q3)
        rcases i32c t with z0 | ⟨w, hw, rfl⟩
        · refine absurd ?_ h3.1
          rw [Int32.lt_iff_toInt_lt] at z0 ⊢
          rw [nI_toInt ha]
          have : (0 : Int32).toInt = 0 := rfl
          omega
        have h31 := h3.1
        have h32 := h3.2
        rw [m_lt hw ha] at h31
        rw [m_lt (by omega) hw] at h32
        obtain ⟨g, hg', rfl⟩ := isG_c hg
        rw [up2_same]
        refine ⟨fun _ => ?_, fun y => absurd (by decide) y⟩
        rw [m_add, m_add, m_clamp (by omega), m_clamp (by omega)]
        refine ⟨(m_in (by omega)).mpr (by omega), (m_in (by omega)).mpr (by omega), ?_⟩
        have e1 : ∀ i, i ≠ 242 + g → i ≠ 251 + g → up2 (up2 (up2 X 0 0 (nI 0)) 1 (242 + g) (nI a)) 1 (251 + g) (nI w) 1 i = X 1 i := fun i d1 d2 => by rw [up2_idx d2, up2_idx d1, up2_row (by omega)]
        have fr : ∀ c, c ≠ 0 → c ≠ 1 → up2 (up2 (up2 X 0 0 (nI 0)) 1 (242 + g) (nI a)) 1 (251 + g) (nI w) c = X c := fun c d1 d2 => by rw [up2_row d2, up2_row d2, up2_row d1]
        have f0 : ∀ i, i ≠ 0 → up2 (up2 (up2 X 0 0 (nI 0)) 1 (242 + g) (nI a)) 1 (251 + g) (nI w) 0 i = X 0 i := fun i d => by rw [up2_row (by omega), up2_row (by omega), up2_idx d]
        obtain ⟨a1, a2, a3, a4⟩ := h.sv
        have n40 := h.si.2.1
        refine k1 g a w _ rfl hg' rfl rfl (by omega) (by omega) ⟨fun c hc => ⟨fr c (fun e => by subst e; simp at hc) (fun e => by subst e; simp at hc), rfl⟩, fun i hi => f0 i (fun e => by subst e; simp at hi), fun i hi => e1 i (by omega) (by omega)⟩ (by rw [up2_row (by omega), up2_row (by omega), up2_same]) ⟨h.1, ssF_si h.si (by omega) (by omega), ⟨by rw [e1 0 (by omega) (by omega)]; exact a1, by rw [e1 1 (by omega) (by omega)]; exact a2, fun k hk => ?_, fun i hi => ?_⟩, ?_⟩
        · have hk' : k < sN s := hk
          rw [e1 _ (by omega) (by omega), e1 _ (by omega) (by omega), e1 _ (by omega) (by omega), e1 _ (by omega) (by omega), e1 _ (by omega) (by omega), e1 _ (by omega) (by omega)]
          exact a3 k hk
        · show _ = zI (if i = g then (a : Int) else sCa s i) ∧ _ = zI (if i = g then (w : Int) else sWe s i)
          by_cases e : i = g
          · subst e
            rw [if_pos rfl, if_pos rfl, up2_same, up2_idx (by omega), up2_same]
            exact ⟨rfl, rfl⟩
          · rw [if_neg e, if_neg e, e1 _ (by omega) (by omega), e1 _ (by omega) (by omega)]
            exact a4 i hi
        · exact h.2.2.2.mono (f0 28 (by omega)) (fun z => i1 _ _ _ _ _ (h.1 X _ s (fun c c1 c2 => fr c (by omega) (by omega)) (f0 35 (by omega)) z))
      · rw [up2_same]
        refine ⟨fun y => absurd y (by decide), fun _ => bad (fun n => ?_)⟩
        obtain ⟨a', w, e1, rfl, haw, hw⟩ := okS_c n
        have e2 := (m_eq ha (by omega)).mp e1
        subst e2
        exact q3 (by rw [hx.mpr ⟨by rw [m_lt (by omega) (by omega)]; omega, by rw [m_lt (by omega) (by omega)]; omega⟩]; decide)
  · have hg : ¬ isG s p := fun y => q1 (by rw [hz.mpr y]; decide)
    rw [up2_same]
    exact ⟨fun y => absurd y (by decide), fun _ => k3 hg (sc _) (h.sc (sc _))⟩
end Gst
