/-! the reference's scanner, its leaves -/
/-- the reference's TAPE while it is read -/
def TR9 (X : HX) (t : Tp) : Prop := t.1 ≤ 400 ∧ X 0 8 = nI t.1 ∧ ∀ i, i < t.1 → X 5 i = nI (t.2 i) ∧ t.2 i < 256
theorem TR9.eq {X X' : HX} {t : Tp} (h : TR9 X t) (e1 : X' 0 8 = X 0 8) (e2 : X' 5 = X 5) : TR9 X' t := by
  unfold TR9 at h ⊢
  rw [e1, e2]; exact h
/-- the place alone, .. and the fault have changed -/
def G9 (X X' : HX) : Prop := (∀ c, c ≠ 0 → X' c = X c) ∧ ∀ i, i ≠ 9 → X' 0 i = X 0 i
def H9 (X X' : HX) : Prop := (∀ c, c ≠ 0 → X' c = X c) ∧ ∀ i, i ≠ 9 → i ≠ 10 → X' 0 i = X 0 i
theorem G9.rfl {X : HX} : G9 X X := ⟨fun _ _ => Eq.refl _, fun _ _ => Eq.refl _⟩
theorem H9.rfl {X : HX} : H9 X X := ⟨fun _ _ => Eq.refl _, fun _ _ _ => Eq.refl _⟩
theorem G9.trans {X X1 X2 : HX} (h : G9 X X1) (k : G9 X1 X2) : G9 X X2 := ⟨fun c hc => (k.1 c hc).trans (h.1 c hc), fun i hi => (k.2 i hi).trans (h.2 i hi)⟩
theorem H9.trans {X X1 X2 : HX} (h : H9 X X1) (k : H9 X1 X2) : H9 X X2 := ⟨fun c hc => (k.1 c hc).trans (h.1 c hc), fun i hi hj => (k.2 i hi hj).trans (h.2 i hi hj)⟩
theorem G9.h {X X' : HX} (h : G9 X X') : H9 X X' := ⟨h.1, fun i hi _ => h.2 i hi⟩
theorem G9.up {X : HX} {v : Int32} : G9 X (up2 X 0 9 v) := ⟨fun _ hc => up2_row hc, fun _ hi => up2_idx hi⟩
theorem H9.up {X : HX} {v : Int32} : H9 X (up2 X 0 10 v) := ⟨fun _ hc => up2_row hc, fun _ _ hi => up2_idx hi⟩
theorem TR9.h {X X' : HX} {t : Tp} (h : TR9 X t) (e : H9 X X') : TR9 X' t := h.eq (e.2 8 (by omega) (by omega)) (e.1 5 (by omega))
theorem TR9.g {X X' : HX} {t : Tp} (h : TR9 X t) (e : G9 X X') : TR9 X' t := h.h e.h
theorem zen_zen {t : Tp} {p : Nat} : zen zBl t (zen zBl t p) = zen zBl t p := zen_n (zen_sp zBl6 _ p rfl).2.2.2
section Words
variable {t : Tp} {b : Nat}
theorem zWd_un {e i j : Nat} (hi : i < 6) (hj : j < 6) (h : zWd t b e i) (k : zWd t b e j) : i = j := by
  have l : lenPS.getD i 0 = lenPS.getD j 0 := h.1.symm.trans k.1
  have e0 : 0 < lenPS.getD i 0 → (bytPS.getD i []).getD 0 0 = (bytPS.getD j []).getD 0 0 := fun z => (h.2 0 z).symm.trans (k.2 0 (by omega))
  have e1 : 1 < lenPS.getD i 0 → (bytPS.getD i []).getD 1 0 = (bytPS.getD j []).getD 1 0 := fun z => (h.2 1 z).symm.trans (k.2 1 (by omega))
  have hi6 : i = 0 ∨ i = 1 ∨ i = 2 ∨ i = 3 ∨ i = 4 ∨ i = 5 := by omega
  have hj6 : j = 0 ∨ j = 1 ∨ j = 2 ∨ j = 3 ∨ j = 4 ∨ j = 5 := by omega
  rcases hi6 with rfl | rfl | rfl | rfl | rfl | rfl <;> rcases hj6 with rfl | rfl | rfl | rfl | rfl | rfl <;> first | rfl | exact absurd l (by decide) | exact absurd (e0 (by decide)) (by decide) | exact absurd (e1 (by decide)) (by decide)
theorem zWv_y {e i : Nat} (hi : i < 6) (h : zWd t b e i) : zWv t b e = i := by
  have l6 := zWv_le (t := t) (b := b) e
  by_cases q : zWv t b e < 6
  · exact zWd_un q hi (zWv_c rfl q) h
  · exfalso
    have q6 : zWv t b e = 6 := by omega
    unfold zWv at q6
    by_cases q0 : zWd t b e 0
    · rw [cif_y q0] at q6; omega
    rw [cif_n q0] at q6
    by_cases q1 : zWd t b e 1
    · rw [cif_y q1] at q6; omega
    rw [cif_n q1] at q6
    by_cases q2 : zWd t b e 2
    · rw [cif_y q2] at q6; omega
    rw [cif_n q2] at q6
    by_cases q3 : zWd t b e 3
    · rw [cif_y q3] at q6; omega
    rw [cif_n q3] at q6
    by_cases q4 : zWd t b e 4
    · rw [cif_y q4] at q6; omega
    rw [cif_n q4] at q6
    by_cases q5 : zWd t b e 5
    · rw [cif_y q5] at q6; omega
    · have h6 : i = 0 ∨ i = 1 ∨ i = 2 ∨ i = 3 ∨ i = 4 ∨ i = 5 := by omega
      rcases h6 with rfl | rfl | rfl | rfl | rfl | rfl
      · exact q0 h
      · exact q1 h
      · exact q2 h
      · exact q3 h
      · exact q4 h
      · exact q5 h
/-- the thing at b is the i-th word -/
theorem zW_iff {i : Nat} (hi : i < 6) : zWd t b (zen zLt t b) i ↔ zth t b = 1 ∧ zva t b = nI i := by
  constructor
  · intro h
    have l2 : ∀ i, i < 6 → 2 ≤ lenPS.getD i 0 := by decide
    have l := l2 i hi
    have hl := h.1
    have wl : zLt (zsg t b) := (zen_sp (t := t) zLt6 _ b rfl).2.2.1 b (Nat.le_refl _) (by omega)
    have hb := zen_in zLt6 wl
    have wn : ¬ t.1 ≤ b := by omega
    refine ⟨(cif_n wn).trans (cif_y wl), ?_⟩
    rw [show zva t b = nI (zWv t b (zen zLt t b)) from (cif_n wn).trans (cif_y wl), zWv_y hi h]
  · intro ⟨h1, h2⟩
    obtain ⟨a1, a2, a3, a4⟩ := zth_1 h1
    have l6 := zWv_le (t := t) (b := b) (zen zLt t b)
    rw [a4, m_eq (by omega) (by omega)] at h2
    exact zWv_c h2 hi
theorem zth_o (h : b < t.1) (h1 : ¬ zLt (zsg t b)) (h2 : ¬ zDg (zsg t b)) (h3 : t.2 b = 59) : zth t b = 3 := by
  have wn : ¬ t.1 ≤ b := by omega
  exact (cif_n wn).trans ((cif_n h1).trans ((cif_n h2).trans (cif_y (by rw [zsg_e h]; exact h3))))
theorem zth_3 (h : zth t b = 3) : b < t.1 ∧ t.2 b = 59 ∧ znx t b = b + 1 := by
  unfold zth at h
  by_cases q1 : t.1 ≤ b
  · rw [cif_y q1] at h; omega
  rw [cif_n q1] at h
  by_cases q2 : zLt (zsg t b)
  · rw [cif_y q2] at h; omega
  rw [cif_n q2] at h
  by_cases q3 : zDg (zsg t b)
  · rw [cif_y q3] at h; omega
  rw [cif_n q3] at h
  by_cases q4 : zsg t b = 59
  · exact ⟨by omega, by rw [zsg_e (by omega)] at q4; exact q4, (cif_n q1).trans ((cif_n q2).trans (cif_n q3))⟩
  · rw [cif_n q4] at h; omega
theorem zth_0 : zth t b = 0 ↔ t.1 ≤ b := by
  constructor
  · intro h
    unfold zth at h
    by_cases q1 : t.1 ≤ b
    · exact q1
    rw [cif_n q1] at h
    by_cases q2 : zLt (zsg t b)
    · rw [cif_y q2] at h; omega
    rw [cif_n q2] at h
    by_cases q3 : zDg (zsg t b)
    · rw [cif_y q3] at h; omega
    rw [cif_n q3] at h
    by_cases q4 : zsg t b = 59
    · rw [cif_y q4] at h; omega
    · rw [cif_n q4] at h; omega
  · intro h; exact cif_y h
theorem zth_i3 : zth t b = 3 ↔ b < t.1 ∧ t.2 b = 59 := by
  constructor
  · intro h; exact ⟨(zth_3 h).1, (zth_3 h).2.1⟩
  · intro ⟨h1, h2⟩
    exact zth_o h1 (by rw [zsg_e h1, h2]; unfold zLt; omega) (by rw [zsg_e h1, h2]; unfold zDg; omega) h2
end Words
section Scan9
variable {t : Tp} {X X' : HX} {Y Y' : HY} {Q : Qt} {r : Ly} {p b : Nat}
theorem skip_go : ∀ m p X, t.1 - p = m → p ≤ t.1 → TR9 X t → X 0 9 = nI p → (∀ X', G9 X X' → X' 0 9 = nI (zen zBl t p) → Q (.inl none) (LX9 ++ r) X' Y) → hX9_skip_0 Q r X Y := by
  intro m
  induction m with
  | zero =>
    intro p X em hp ht h9 k
    have t4 := ht.1
    apply hX9_skip_0_i
    rw [h9, ht.2.1, m_le (by omega) (by omega)]
    refine ⟨fun _ => ?_, fun q => absurd (by omega) q⟩
    have nb : ¬ zBl (zsg t p) := by rw [zsg_o (by omega)]; exact zBl6
    rw [zen_n nb] at k
    exact k X G9.rfl h9
  | succ m ih =>
    intro p X em hp ht h9 k
    have t4 := ht.1
    obtain ⟨c5, c6⟩ := ht.2.2 p (by omega)
    apply hX9_skip_0_i
    rw [h9, ht.2.1, m_le (by omega) (by omega), m_clamp (show p < 2147483648 by omega), c5, m_eq (by omega) (by omega), m_add p 1]
    refine ⟨fun q => absurd q (by omega), fun _ => ⟨(m_in (by omega)).mpr (by omega), fun q => ?_, fun q => ?_⟩⟩
    · have nb : ¬ zBl (zsg t p) := by rw [zsg_e (by omega)]; exact q
      rw [zen_n nb] at k
      exact k X G9.rfl h9
    · have yb : zBl (zsg t p) := by rw [zsg_e (by omega)]; show t.2 p = 32; omega
      rw [zen_y zBl6 yb] at k
      exact ih (p + 1) _ (by omega) (by omega) (ht.g G9.up) up2_same (fun X' g e => k X' (G9.up.trans g) e)
theorem X9_skip_s (hp : p ≤ t.1) (ht : TR9 X t) (h9 : X 0 9 = nI p) (k : ∀ X', G9 X X' → X' 0 9 = nI (zen zBl t p) → Q (.inl none) (LX9 ++ r) X' Y) : tX9_skip [.ref 0] (LX9 ++ r) X Y Q := by
  apply tX9_skip_i
  exact skip_go _ p X rfl hp ht h9 k
theorem X9_isSign_s (hp : p ≤ t.1) (ht : TR9 X t) (h9 : X 0 9 = nI p) (k : ∀ X', G9 X X' → X' 0 9 = nI (zen zBl t p) → Q (.inl (some (.int (iB (zth t (zen zBl t p) = 3))))) (LX9 ++ r) X' Y) : tX9_isSign [.ref 0, .int (nI 59)] (LX9 ++ r) X Y Q := by
  have t4 := ht.1
  apply tX9_isSign_i
  refine X9_skip_s hp ht h9 (fun X2 g2 e2 => cK0_mk ?_)
  have hb : zen zBl t p ≤ t.1 := (zen_sp zBl6 _ p rfl).2.1 hp
  have kx := k X2 g2 e2
  generalize zen zBl t p = b at *
  have ht2 := ht.g g2
  rw [e2, ht2.2.1, m_le (by omega) (by omega), m_clamp (show b < 2147483648 by omega)]
  refine ⟨fun q => ⟨(by first | exact Or.inl rfl | exact Or.inr rfl | exact Or.inl trivial | exact Or.inr trivial), ?_⟩, fun q => ⟨(m_in (by omega)).mpr (by omega), fun q2 => ⟨(by first | exact Or.inl rfl | exact Or.inr rfl | exact Or.inl trivial | exact Or.inr trivial), ?_⟩, fun q2 => ⟨(by first | exact Or.inl rfl | exact Or.inr rfl | exact Or.inl trivial | exact Or.inr trivial), ?_⟩⟩⟩
  · rw [iB_n (fun z => by have := (zth_i3.mp z).1; omega)] at kx; exact kx
  · obtain ⟨c5, c6⟩ := ht2.2.2 b (by omega)
    rw [c5, m_eq (by omega) (by omega)] at q2
    rw [iB_n (fun z => q2 (zth_i3.mp z).2)] at kx; exact kx
  · obtain ⟨c5, c6⟩ := ht2.2.2 b (by omega)
    rw [c5, m_eq (by omega) (by omega)] at q2
    rw [iB_y (zth_i3.mpr ⟨by omega, by omega⟩)] at kx; exact kx
theorem lett_go (ht : TR9 X t) (hp0 : b ≤ t.1) : ∀ m p, t.1 - p = m → b ≤ p → p ≤ t.1 → zen zLt t p = zen zLt t b → Q (.inl (some (.int (nI (zen zLt t b - b))))) (LX9 ++ r) X Y → hX9_letters_2 Q r (nI b) (nI p) X Y := by
  have t4 := ht.1
  intro m
  induction m with
  | zero =>
    intro p em hbp hp ez k
    apply hX9_letters_2_i
    rw [ht.2.1, m_le (by omega) (by omega), m_sub hbp]
    refine ⟨fun _ => ?_, fun q => absurd (by omega) q⟩
    have nb : ¬ zLt (zsg t p) := by rw [zsg_o (by omega)]; exact zLt6
    rw [← ez, zen_n nb] at k
    exact k
  | succ m ih =>
    intro p em hbp hp ez k
    obtain ⟨c5, c6⟩ := ht.2.2 p (by omega)
    apply hX9_letters_2_i
    rw [ht.2.1, m_le (by omega) (by omega), m_sub hbp, m_clamp (show p < 2147483648 by omega), c5]
    refine ⟨fun q => absurd q (by omega), fun _ => ⟨(m_in (by omega)).mpr (by omega), ?_⟩⟩
    refine Q9_in (by omega) (by omega) (fun z hz => cK1_mk ⟨fun q => ?_, fun q => ?_⟩)
    · have nb : ¬ zLt (zsg t p) := by
        rw [zsg_e (by omega)]
        intro w
        have := hz.mpr ⟨by rw [m_lt (by omega) (by omega)]; have := w.1; omega, by rw [m_lt (by omega) (by omega)]; have := w.2; omega⟩
        rw [this] at q; exact absurd q n1_0
      rw [← ez, zen_n nb] at k
      exact k
    · have w := hz.mp (z11 q)
      rw [m_lt (by omega) (by omega), m_lt (by omega) (by omega)] at w
      have yb : zLt (zsg t p) := by rw [zsg_e (by omega)]; exact ⟨by omega, by omega⟩
      rw [m_add p 1]
      exact ih (p + 1) (by omega) (by omega) (by omega) ((zen_y zLt6 yb).symm.trans ez) k
theorem has_go {i : Nat} (hi : i < 6) (ht : TR9 X t) (h9 : X 0 9 = nI b) (hb : b ≤ t.1) (hl : zen zLt t b - b = lenPS.getD i 0) (ky : zWd t b (zen zLt t b) i → Q (.inl (some (.int (nI 1)))) (LX9 ++ r) (up2 X 0 9 (nI (zen zLt t b))) Y) (kn : ¬ zWd t b (zen zLt t b) i → Q (.inl (some (.int (nI 0)))) (LX9 ++ r) X Y) : ∀ m j, lenPS.getD i 0 - j = m → j ≤ lenPS.getD i 0 → (∀ k, k < j → zsI t (b + k) = (bytPS.getD i []).getD k 0) → hX9_has_23 Q r (1000 + i) (nI j) X Y := by
  have t4 := ht.1
  have z1 := (zen_sp (t := t) zLt6 _ b rfl).1
  have z2 := (zen_sp (t := t) zLt6 _ b rfl).2.1 hb
  have hl5 : lenPS.getD i 0 ≤ 5 := by
    have : ∀ i, i < 6 → lenPS.getD i 0 ≤ 5 := by decide
    exact this i hi
  intro m
  induction m with
  | zero =>
    intro j em hj hp
    apply hX9_has_23_i
    refine ⟨i, hi, rfl, cK1_mk ?_⟩
    rw [m_le (by omega) (by omega)]
    refine ⟨fun _ => ⟨i, hi, rfl, cK1_mk ⟨(by first | exact Or.inl rfl | exact Or.inr rfl | exact Or.inl trivial | exact Or.inr trivial), ?_⟩⟩, fun q => absurd (by omega) q⟩
    rw [h9, m_add, show b + lenPS.getD i 0 = zen zLt t b by omega]
    exact ky ⟨hl, fun k hk => hp k (by omega)⟩
  | succ m ih =>
    intro j em hj hp
    obtain ⟨c5, c6⟩ := ht.2.2 (b + j) (by omega)
    apply hX9_has_23_i
    refine ⟨i, hi, rfl, cK1_mk ?_⟩
    rw [m_le (by omega) (by omega), h9, m_add b j, m_clamp (show b + j < 2147483648 by omega), c5]
    refine ⟨fun q => absurd q (by omega), fun _ => ⟨(m_in (by omega)).mpr (by omega), ⟨i, j, hi, by omega, rfl, cK1_mk ⟨fun q => ?_, fun q => ⟨(by first | exact Or.inl rfl | exact Or.inr rfl | exact Or.inl trivial | exact Or.inr trivial), ?_⟩⟩⟩⟩⟩
    · rw [m_add j 1]
      refine ih (j + 1) (by omega) (by omega) (fun k hk => ?_)
      by_cases e4 : k = j
      · subst e4; rw [zsI_e (by omega)]; exact q
      · exact hp k (by omega)
    · exact kn (fun w => q (by rw [← w.2 j (by omega), zsI_e (by omega)]))
/-- has: the thing ahead is the i-th word -/
theorem X9_has_s {i q0 : Nat} (hi : i < 6) (hq0 : q0 = 1000 + i) (hp : p ≤ t.1) (ht : TR9 X t) (h9 : X 0 9 = nI p) (hb : zen zBl t p = b) (ky : zth t b = 1 → zva t b = nI i → ∀ X', G9 X X' → X' 0 9 = nI (znx t b) → Q (.inl (some (.int (nI 1)))) (LX9 ++ r) X' Y) (kn : ¬ (zth t b = 1 ∧ zva t b = nI i) → ∀ X', G9 X X' → X' 0 9 = nI b → Q (.inl (some (.int (nI 0)))) (LX9 ++ r) X' Y) : tX9_has [.ref 0, .ref q0] (LX9 ++ r) X Y Q := by
  subst hq0
  have t4 := ht.1
  have hbt : b ≤ t.1 := by rw [← hb]; exact (zen_sp zBl6 _ p rfl).2.1 hp
  have hl5 : lenPS.getD i 0 ≤ 5 := by
    have : ∀ i, i < 6 → lenPS.getD i 0 ≤ 5 := by decide
    exact this i hi
  apply tX9_has_i
  refine X9_skip_s hp ht h9 (fun X2 g2 e2 => cK0_mk ?_)
  rw [hb] at e2
  rw [e2]
  have z1 := (zen_sp (t := t) zLt6 _ b rfl).1
  have z2 := (zen_sp (t := t) zLt6 _ b rfl).2.1 hbt
  apply tX9_letters_i
  refine lett_go (ht.g g2) hbt _ b rfl (Nat.le_refl _) hbt rfl (cK1_mk ⟨i, hi, rfl, cK1_mk ?_⟩)
  rw [m_eq (by omega) (by omega)]
  have no : ¬ zWd t b (zen zLt t b) i → Q (.inl (some (.int (nI 0)))) (LX9 ++ r) X2 Y := fun w => kn (fun z => w ((zW_iff hi).mpr z)) X2 g2 e2
  refine ⟨fun q => ?_, fun q => ⟨(by first | exact Or.inl rfl | exact Or.inr rfl | exact Or.inl trivial | exact Or.inr trivial), no (fun w => q w.1)⟩⟩
  refine has_go hi (ht.g g2) e2 hbt q (fun w => ?_) no _ 0 rfl (by omega) (fun k hk => absurd hk (by omega))
  have w2 := (zW_iff hi).mp w
  refine ky w2.1 w2.2 _ (g2.trans G9.up) ?_
  rw [up2_same, (zth_1 w2.1).2.2.1]
theorem X9_wrong_s {v : Int32} (h : X 0 10 = -1) (k : Q (.inl none) (LX9 ++ r) (up2 X 0 10 v) Y) : tX9_wrong [.ref 0, .int v] (LX9 ++ r) X Y Q := by
  apply tX9_wrong_i
  rw [h]
  exact ⟨fun q => absurd rfl q, fun _ => k⟩
/-- what number does behind its digits -/
def nuT (Q : Qt) (r : Ly) (v1 v2 v3 v4 : Int32) (X : HX) (Y : HY) : Prop := ((X 0 9) = v3 → tX9_wrong [.ref 0, .int v3] (LX9 ++ r) X Y (cK0 (LX9 ++ r) Q (fun X3 Y3 => Q (.inl (some (.int v4))) (LX9 ++ r) X3 Y3))) ∧ (¬ ((X 0 9) = v3) → ((nI 2) < ((X 0 9) - v3) → tX9_wrong [.ref 0, .int v3] (LX9 ++ r) X Y (cK0 (LX9 ++ r) Q (fun X5 Y5 => Q (.inl (some (.int v4))) (LX9 ++ r) X5 Y5))) ∧ (¬ ((nI 2) < ((X 0 9) - v3)) → tX9_isIn [.int v4, .int v1, .int v2] (LX9 ++ r) X Y (cK1 (LX9 ++ r) Q (fun x6 X6 Y6 => (¬ x6 = 0 → Q (.inl (some (.int v4))) (LX9 ++ r) X6 Y6) ∧ (¬ (¬ x6 = 0) → tX9_wrong [.ref 0, .int v3] (LX9 ++ r) X6 Y6 (cK0 (LX9 ++ r) Q (fun X8 Y8 => Q (.inl (some (.int v4))) (LX9 ++ r) X8 Y8)))))))
theorem nuT_s {lo hi : Int32} {d : Nat} {v : Int32} (hb : b ≤ 400) (hd : d ≤ 3) (h9 : X 0 9 = nI (b + d)) (hf : X 0 10 = -1) (ky : 1 ≤ d → d ≤ 2 → ¬ v < lo → ¬ hi < v → Q (.inl (some (.int v))) (LX9 ++ r) X Y) (kn : ¬ (1 ≤ d ∧ d ≤ 2 ∧ ¬ v < lo ∧ ¬ hi < v) → Q (.inl (some (.int v))) (LX9 ++ r) (up2 X 0 10 (nI b)) Y) : nuT Q r lo hi (nI b) v X Y := by
  unfold nuT
  rw [h9, m_eq (by omega) (by omega), m_sub (by omega), m_lt (by omega) (by omega)]
  refine ⟨fun q => X9_wrong_s hf (cK0_mk (kn (by omega))), fun q => ⟨fun q2 => X9_wrong_s hf (cK0_mk (kn (by omega))), fun q2 => ?_⟩⟩
  apply tX9_isIn_i
  refine ⟨fun w => ⟨(by first | exact Or.inl rfl | exact Or.inr rfl | exact Or.inl trivial | exact Or.inr trivial), cK1_mk ⟨fun z => absurd rfl z, fun _ => X9_wrong_s hf (cK0_mk (kn (fun z => z.2.2.1 w)))⟩⟩, fun w => ⟨fun w2 => ⟨(by first | exact Or.inl rfl | exact Or.inr rfl | exact Or.inl trivial | exact Or.inr trivial), cK1_mk ⟨fun z => absurd rfl z, fun _ => X9_wrong_s hf (cK0_mk (kn (fun z => z.2.2.2 w2)))⟩⟩, fun w2 => ⟨(by first | exact Or.inl rfl | exact Or.inr rfl | exact Or.inl trivial | exact Or.inr trivial), cK1_mk ⟨fun _ => ky (by omega) (by omega) w w2, fun z => absurd n1_0 z⟩⟩⟩⟩
/-- one digit, or none -/
theorem num_one {lo hi v : Int32} {p : Nat} (hp : p ≤ t.1) (hbp : b ≤ p) (ht : TR9 X t) (h9 : X 0 9 = nI p) (kn : ¬ (zDg (zsg t p) ∧ p - b < 3) → nuT Q r lo hi (nI b) v X Y) (ky : zDg (zsg t p) → p - b < 3 → hX9_number_22 Q r lo hi (nI b) (((nI 10 * v) + nI (t.2 p)) - nI 48) (up2 X 0 9 (nI (p + 1))) Y) : hX9_number_22 Q r lo hi (nI b) v X Y := by
  have t4 := ht.1
  apply hX9_number_22_i
  by_cases q : t.1 ≤ p
  · have nd : ¬ zDg (zsg t p) := by rw [zsg_o q]; exact zDg6
    have kx := kn (fun z => nd z.1)
    unfold nuT at kx
    rw [show ((X 0 8) ≤ (X 0 9)) = (t.1 ≤ p) by rw [ht.2.1, h9]; exact propext (m_le (by omega) (by omega))]
    exact ⟨fun _ => kx, fun z => absurd q z⟩
  · obtain ⟨c5, c6⟩ := ht.2.2 p (by omega)
    rw [show ((X 0 8) ≤ (X 0 9)) = (t.1 ≤ p) by rw [ht.2.1, h9]; exact propext (m_le (by omega) (by omega))]
    refine ⟨fun z => absurd z q, fun _ => ⟨by rw [h9]; exact (m_in (by omega)).mpr (by omega), ?_⟩⟩
    have ec : (X 0 9).toNatClampNeg = p := by rw [h9]; exact m_clamp (by omega)
    rw [ec, c5]
    refine Q9_in (by omega) (by omega) (fun z hz => cK1_mk ⟨fun q => ?_, fun q => ⟨fun q3 => ?_, fun q3 => ⟨by rw [h9]; exact (m_in (by omega)).mpr (by omega), ?_⟩⟩⟩)
    · have nd : ¬ zDg (zsg t p) := by
        rw [zsg_e (by omega)]
        intro w
        have := hz.mpr ⟨by rw [m_lt (by omega) (by omega)]; have := w.1; omega, by rw [m_lt (by omega) (by omega)]; have := w.2; omega⟩
        rw [this] at q; exact absurd q n1_0
      have kx := kn (fun z => nd z.1)
      unfold nuT at kx
      exact kx
    · rw [h9, m_sub hbp, m_le (by omega) (by omega)] at q3
      have kx := kn (by omega)
      unfold nuT at kx
      exact kx
    · rw [h9, m_sub hbp, m_le (by omega) (by omega)] at q3
      have w := hz.mp (z11 q)
      rw [m_lt (by omega) (by omega), m_lt (by omega) (by omega)] at w
      rw [ec, c5, h9, m_add p 1]
      exact ky (by rw [zsg_e (by omega)]; exact ⟨by omega, by omega⟩) (by omega)
theorem dig_v {v c : Nat} (hc : 48 ≤ c) : ((nI 10 * nI v) + nI c) - nI 48 = nI (10 * v + (c - 48)) := by
  rw [m_mul, m_add, m_sub (by omega)]; congr 1; omega
/-- number: the thing ahead is one from lo to hi -/
theorem X9_number_s {l : Nat} {hi : Int32} (hl : l < 100) (hp : p ≤ t.1) (ht : TR9 X t) (h9 : X 0 9 = nI p) (hf : X 0 10 = -1) (hb : zen zBl t p = b) (ky : zth t b = 2 → ¬ zva t b < nI l → ¬ hi < zva t b → ∀ X', G9 X X' → X' 0 9 = nI (znx t b) → Q (.inl (some (.int (zva t b)))) (LX9 ++ r) X' Y) (kn : ¬ (zth t b = 2 ∧ ¬ zva t b < nI l ∧ ¬ hi < zva t b) → ∀ X' x p', H9 X X' → X' 0 10 = nI b → X' 0 9 = nI p' → p' ≤ t.1 → Q (.inl (some (.int x))) (LX9 ++ r) X' Y) : tX9_number [.ref 0, .int (nI l), .int hi] (LX9 ++ r) X Y Q := by
  have t4 := ht.1
  have hbt : b ≤ t.1 := by rw [← hb]; exact (zen_sp zBl6 _ p rfl).2.1 hp
  apply tX9_number_i
  refine ⟨fun _ => ?_, fun z => absurd hf z⟩
  refine X9_skip_s hp ht h9 (fun X2 g2 e2 => cK0_mk ?_)
  rw [hb] at e2
  have f2 : X2 0 10 = -1 := (g2.2 10 (by omega)).trans hf
  rw [e2]
  have bad : ∀ (X3 : HX) (d : Nat) (v : Int32), G9 X2 X3 → X3 0 9 = nI (b + d) → b + d ≤ t.1 → ¬ (zth t b = 2 ∧ ¬ zva t b < nI l ∧ ¬ hi < zva t b) → Q (.inl (some (.int v))) (LX9 ++ r) (up2 X3 0 10 (nI b)) Y := fun X3 d v g3 e3 hd no => kn no _ _ (b + d) (((g2.trans g3).h).trans H9.up) up2_same (by rw [up2_idx (by omega)]; exact e3) hd
  refine num_one (p := b) hbt (Nat.le_refl _) (ht.g g2) e2 (fun nd => ?_) (fun d0 _ => ?_)
  · have nd : ¬ zDg (zsg t b) := fun z => nd ⟨z, by omega⟩
    refine nuT_s (d := 0) (by omega) (by omega) e2 f2 (fun z => absurd z (by omega)) (fun _ => bad X2 0 _ G9.rfl e2 hbt (fun z => nd (zth_2 z.1).2.2.1))
  have hb0 := zen_in zDg6 d0
  have nl : ¬ zLt (zsg t b) := fun z => by have a1 := d0.2; have a2 := z.1; omega
  have wn : ¬ t.1 ≤ b := by omega
  have th2 : zth t b = 2 := (cif_n wn).trans ((cif_n nl).trans (cif_y d0))
  have c0 : 48 ≤ t.2 b := by have := d0.1; rw [zsg_e hb0] at this; exact this
  have y0 := zen_y zDg6 d0
  rw [dig_v c0]
  have g3 : G9 X2 (up2 X2 0 9 (nI (b + 1))) := G9.up
  refine num_one (p := b + 1) (by omega) (by omega) (ht.g (g2.trans g3)) up2_same (fun nd => ?_) (fun d1 _ => ?_)
  · have nd : ¬ zDg (zsg t (b + 1)) := fun z => nd ⟨z, by omega⟩
    have ez : zen zDg t b = b + 1 := y0.trans (zen_n nd)
    have va : zva t b = nI (10 * 0 + (t.2 b - 48)) := by
      rw [(zth_2 th2).2.2.2.2, ez, show zNv t b (b + 1) = nI (t.2 b - 48) from if_pos rfl]; congr 1; omega
    have nx : znx t b = b + 1 := (zth_2 th2).2.2.2.1.trans ez
    refine nuT_s (d := 1) (by omega) (by omega) up2_same (by rw [up2_idx (by omega)]; exact f2) (fun _ _ w1 w2 => ?_) (fun no => bad _ 1 _ g3 up2_same (by omega) (fun z => no ⟨by omega, by omega, by rw [va] at z; exact ⟨z.2.1, z.2.2⟩⟩))
    have kx := ky th2 (by rw [va]; exact w1) (by rw [va]; exact w2) _ (g2.trans g3) (by rw [up2_same, nx])
    rw [va] at kx; exact kx
  have hb1 := zen_in zDg6 d1
  have c1 : 48 ≤ t.2 (b + 1) := by have := d1.1; rw [zsg_e hb1] at this; exact this
  have y1 := zen_y zDg6 d1
  rw [dig_v c1]
  have g4 : G9 X2 (up2 (up2 X2 0 9 (nI (b + 1))) 0 9 (nI (b + 1 + 1))) := g3.trans G9.up
  refine num_one (p := b + 1 + 1) (by omega) (by omega) (ht.g (g2.trans g4)) up2_same (fun nd => ?_) (fun d2 _ => ?_)
  · have nd : ¬ zDg (zsg t (b + 1 + 1)) := fun z => nd ⟨z, by omega⟩
    have ez : zen zDg t b = b + 2 := (y0.trans y1).trans (zen_n nd)
    have va : zva t b = nI (10 * (10 * 0 + (t.2 b - 48)) + (t.2 (b + 1) - 48)) := by
      rw [(zth_2 th2).2.2.2.2, ez, show zNv t b (b + 2) = nI (10 * (t.2 b - 48) + (t.2 (b + 1) - 48)) from (if_neg (by omega)).trans (if_pos rfl)]; congr 1; omega
    have nx : znx t b = b + 2 := (zth_2 th2).2.2.2.1.trans ez
    refine nuT_s (d := 2) (by omega) (by omega) up2_same (by rw [up2_idx (by omega), up2_idx (by omega)]; exact f2) (fun _ _ w1 w2 => ?_) (fun no => bad _ 2 _ g4 up2_same (by omega) (fun z => no ⟨by omega, by omega, by rw [va] at z; exact ⟨z.2.1, z.2.2⟩⟩))
    have kx := ky th2 (by rw [va]; exact w1) (by rw [va]; exact w2) _ (g2.trans g4) (by rw [up2_same, nx])
    rw [va] at kx; exact kx
  have hb2 := zen_in zDg6 d2
  have y2 := zen_y zDg6 d2
  have y3 := (zen_sp (t := t) zDg6 _ (b + 1 + 1 + 1) rfl).1
  have va : zva t b = -1 := by
    rw [(zth_2 th2).2.2.2.2]
    exact (if_neg (by omega)).trans (if_neg (by omega))
  have lt : (-1 : Int32) < nI l := by
    rw [Int32.lt_iff_toInt_lt, nI_toInt (by omega)]
    have : (-1 : Int32).toInt = -1 := rfl
    omega
  have g5 : G9 X2 (up2 (up2 (up2 X2 0 9 (nI (b + 1))) 0 9 (nI (b + 1 + 1))) 0 9 (nI (b + 1 + 1 + 1))) := g4.trans G9.up
  refine num_one (p := b + 1 + 1 + 1) (by omega) (by omega) (ht.g (g2.trans g5)) up2_same (fun _ => ?_) (fun _ z => absurd z (by omega))
  refine nuT_s (d := 3) (by omega) (by omega) up2_same (by rw [up2_idx (by omega), up2_idx (by omega), up2_idx (by omega)]; exact f2) (fun _ z => absurd z (by omega)) (fun _ => bad _ 3 _ g5 up2_same (by omega) (fun z => z.2.1 (by rw [va]; exact lt)))
end Scan9
