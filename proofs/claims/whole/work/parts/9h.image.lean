/-! THE IMAGE: image and back -/
theorem up2_at {α : Type} {X : Nat → Nat → α} {a j i : Nat} {v : α} : up2 X a j v a i = if i = j then v else X a i := by
  by_cases e : i = j
  · rw [if_pos e, e, up2_same]
  · rw [if_neg e, up2_idx e]
section Img0
variable {Q : Qt} {r : Ly} {X X' : HX} {Y Y' : HY}
/-- a book copied -/
theorem X0_copy_s (k : ∀ X' Y', (∀ c, 8 ≤ c → X' c = X c) → (∀ c, c ≠ 0 → Y' c = Y c) → Y' 0 2 = Y 8 2 → (∀ i, i ∈ [0, 1, 10, 11, 12, 13, 14] → X' 0 i = X 8 i) → (∀ c, 1 ≤ c → c ≤ 5 → ∀ i, i < 40 → X' c i = X (c + 8) i) → (∀ c, 6 ≤ c → c ≤ 7 → ∀ i, i < 9 → X' c i = X (c + 8) i) → Q (.inl none) (LX0_0 ++ r) X' Y') : tX0_copy [.ref 0, .ref 8] (LX0_0 ++ r) X Y Q := by
  apply tX0_copy_i
  obtain ⟨Y1, hY⟩ : ∃ Y1, Y1 = up2 Y 0 2 (Y 8 2) := ⟨_, rfl⟩
  have y1 : ∀ c, c ≠ 0 → Y1 c = Y c := fun c hc => by rw [hY, up2_row hc]
  have y2 : Y1 0 2 = Y 8 2 := by rw [hY, up2_same]
  rw [← hY, up2_out (X := X) (show (8 : Nat) ≠ 0 by omega)]
  -- the stays, and the LIST
  have H2 : ∀ n j X2, j + n = 9 → (∀ c, 8 ≤ c → X2 c = X c) → X2 0 0 = X 8 0 → X2 0 1 = X 8 1 → (∀ c, 1 ≤ c → c ≤ 5 → ∀ i, i < 40 → X2 c i = X (c + 8) i) → (∀ c, 6 ≤ c → c ≤ 7 → ∀ i, i < j → X2 c i = X (c + 8) i) → hX0_copy_100 Q r (nI j) X2 Y1 := by
    intro n
    induction n with
    | zero =>
      intro j X2 hj f8 f0 f1 g1 g2
      have ej : j = 9 := by omega
      subst ej
      apply hX0_copy_100_i
      refine ⟨fun _ => ?_, fun q => absurd (by decide) q⟩
      have e8 : ∀ i, X2 8 i = X 8 i := fun i => by rw [f8 8 (by omega)]
      simp (disch := omega) only [up2_out]
      rw [e8, e8, e8, e8, e8]
      refine k _ Y1 (fun c hc => ?_) y1 y2 (fun i hi => ?_) (fun c h1 h2 i hi => ?_) (fun c h1 h2 i hi => ?_)
      · rw [up2_row (by omega), up2_row (by omega), up2_row (by omega), up2_row (by omega), up2_row (by omega)]; exact f8 c hc
      · simp only [List.mem_cons, List.not_mem_nil, or_false] at hi
        rcases hi with rfl | rfl | rfl | rfl | rfl | rfl | rfl
        · rw [up2_idx (by omega), up2_idx (by omega), up2_idx (by omega), up2_idx (by omega), up2_idx (by omega)]; exact f0
        · rw [up2_idx (by omega), up2_idx (by omega), up2_idx (by omega), up2_idx (by omega), up2_idx (by omega)]; exact f1
        · rw [up2_idx (by omega), up2_idx (by omega), up2_idx (by omega), up2_idx (by omega), up2_same]
        · rw [up2_idx (by omega), up2_idx (by omega), up2_idx (by omega), up2_same]
        · rw [up2_idx (by omega), up2_idx (by omega), up2_same]
        · rw [up2_idx (by omega), up2_same]
        · rw [up2_same]
      · rw [up2_row (by omega), up2_row (by omega), up2_row (by omega), up2_row (by omega), up2_row (by omega)]; exact g1 c h1 h2 i hi
      · rw [up2_row (by omega), up2_row (by omega), up2_row (by omega), up2_row (by omega), up2_row (by omega)]; exact g2 c h1 h2 i hi
    | succ n ih =>
      intro j X2 hj f8 f0 f1 g1 g2
      apply hX0_copy_100_i
      rw [m_clamp (show j < 2147483648 by omega)]
      simp (disch := omega) only [up2_out]
      simp (disch := omega) only [m_0, m_L0, m_lt, m_le, m_eq, m_neg, m_in, m_clamp, m_add, m_sub, m_pred, m_mul, m_l, m_i, m_Land, m_Lor, m_and, m_or, m_xor, m_Landn, m_andn, m_LshlP, m_shl, m_LbitP, m_bit, m_cmp0P, m_Lb0, m_Lb1, m_b0, m_b1, Nat.one_mul]
      refine ⟨fun q => by omega, fun _ => ⟨by omega, by omega, by omega, by omega, ih (j + 1) _ (by omega) (fun c hc => ?_) ?_ ?_ (fun c h1 h2 i hi => ?_) (fun c h1 h2 i hi => ?_)⟩⟩
      · rw [up2_row (by omega), up2_row (by omega)]; exact f8 c hc
      · rw [up2_out (by omega), up2_out (by omega)]; exact f0
      · rw [up2_out (by omega), up2_out (by omega)]; exact f1
      · rw [up2_out (by omega), up2_out (by omega)]; exact g1 c h1 h2 i hi
      · have h67 : c = 6 ∨ c = 7 := by omega
        rcases h67 with rfl | rfl
        · rw [up2_out (by omega), up2_at]
          by_cases e : i = j
          · rw [if_pos e, e, f8 14 (by omega)]
          · rw [if_neg e]; exact g2 6 h1 h2 i (by omega)
        · rw [up2_at]
          by_cases e : i = j
          · rw [if_pos e, e, f8 15 (by omega)]
          · rw [if_neg e, up2_out (by omega)]; exact g2 7 h1 h2 i (by omega)
  -- the memories
  have H1 : ∀ n j X2, j + n = 40 → (∀ c, 8 ≤ c → X2 c = X c) → X2 0 0 = X 8 0 → X2 0 1 = X 8 1 → (∀ c, 1 ≤ c → c ≤ 5 → ∀ i, i < j → X2 c i = X (c + 8) i) → hX0_copy_26 Q r (nI j) X2 Y1 := by
    intro n
    induction n with
    | zero =>
      intro j X2 hj f8 f0 f1 g1
      have ej : j = 40 := by omega
      subst ej
      apply hX0_copy_26_i
      exact ⟨fun _ => H2 9 0 X2 (by omega) f8 f0 f1 g1 (fun c _ _ i hi => by omega), fun q => absurd (by decide) q⟩
    | succ n ih =>
      intro j X2 hj f8 f0 f1 g1
      apply hX0_copy_26_i
      rw [m_clamp (show j < 2147483648 by omega)]
      simp (disch := omega) only [up2_out]
      simp (disch := omega) only [m_0, m_L0, m_lt, m_le, m_eq, m_neg, m_in, m_clamp, m_add, m_sub, m_pred, m_mul, m_l, m_i, m_Land, m_Lor, m_and, m_or, m_xor, m_Landn, m_andn, m_LshlP, m_shl, m_LbitP, m_bit, m_cmp0P, m_Lb0, m_Lb1, m_b0, m_b1, Nat.one_mul]
      refine ⟨fun q => by omega, fun _ => ⟨by omega, by omega, by omega, by omega, by omega, by omega, by omega, by omega, by omega, by omega, ih (j + 1) _ (by omega) (fun c hc => ?_) ?_ ?_ (fun c h1 h2 i hi => ?_)⟩⟩
      · rw [up2_row (by omega), up2_row (by omega), up2_row (by omega), up2_row (by omega), up2_row (by omega)]; exact f8 c hc
      · rw [up2_out (by omega), up2_out (by omega), up2_out (by omega), up2_out (by omega), up2_out (by omega)]; exact f0
      · rw [up2_out (by omega), up2_out (by omega), up2_out (by omega), up2_out (by omega), up2_out (by omega)]; exact f1
      · have h67 : c = 1 ∨ c = 2 ∨ c = 3 ∨ c = 4 ∨ c = 5 := by omega
        have g := g1 c h1 h2 i
        rcases h67 with rfl | rfl | rfl | rfl | rfl
        · rw [up2_out (by omega), up2_out (by omega), up2_out (by omega), up2_out (by omega), up2_at]
          by_cases e : i = j
          · rw [if_pos e, e, f8 9 (by omega)]
          · rw [if_neg e]; exact g (by omega)
        · rw [up2_out (by omega), up2_out (by omega), up2_out (by omega), up2_at]
          by_cases e : i = j
          · rw [if_pos e, e, f8 10 (by omega)]
          · rw [if_neg e, up2_out (by omega)]; exact g (by omega)
        · rw [up2_out (by omega), up2_out (by omega), up2_at]
          by_cases e : i = j
          · rw [if_pos e, e, f8 11 (by omega)]
          · rw [if_neg e, up2_out (by omega), up2_out (by omega)]; exact g (by omega)
        · rw [up2_out (by omega), up2_at]
          by_cases e : i = j
          · rw [if_pos e, e, f8 12 (by omega)]
          · rw [if_neg e, up2_out (by omega), up2_out (by omega), up2_out (by omega)]; exact g (by omega)
        · rw [up2_at]
          by_cases e : i = j
          · rw [if_pos e, e, f8 13 (by omega)]
          · rw [if_neg e, up2_out (by omega), up2_out (by omega), up2_out (by omega), up2_out (by omega)]; exact g (by omega)
  refine H1 40 0 _ (by omega) (fun c hc => ?_) ?_ ?_ (fun c _ _ i hi => by omega)
  · rw [up2_row (by omega), up2_row (by omega)]
  · rw [up2_idx (by omega), up2_same]
  · rw [up2_same]
end Img0
section Img8
variable {CK S1 S2 : HX → St → Prop} {X X' : HX} {Y Y' : HY} {s s' : St} {b : Bool} {Q : Qt}
/-- a book copied is told the same -/
theorem BV.copy {c d : Nat} (h : BV d X s) (n40 : sN s ≤ 40) (f : ∀ i, i ∈ [0, 1, 10, 11, 12, 13, 14] → X' c i = X d i) (g1 : ∀ e, 1 ≤ e → e ≤ 5 → ∀ i, i < 40 → X' (c + e) i = X (d + e) i) (g2 : ∀ e, 6 ≤ e → e ≤ 7 → ∀ i, i < 9 → X' (c + e) i = X (d + e) i) : BV c X' s := by
  obtain ⟨a1, a2, a3, a4⟩ := h
  refine ⟨by rw [f 0 (by simp)]; exact a1, by rw [f 1 (by simp)]; exact a2, fun k hk => ?_, fun i hi => ?_⟩
  · rw [g1 1 (by omega) (by omega) k (by omega), g1 2 (by omega) (by omega) k (by omega), g1 3 (by omega) (by omega) k (by omega), g1 4 (by omega) (by omega) k (by omega), g1 5 (by omega) (by omega) k (by omega)]
    exact a3 k hk
  · rw [g2 6 (by omega) (by omega) i hi, g2 7 (by omega) (by omega) i hi]
    exact a4 i hi
theorem X8_image_s (h : Qw CK S1 S2 X Y s) (k : ∀ X' Y', (∀ c, c < nC8 b → (c < 17 ∨ 24 < c) → (c ≠ 0 → X' c = X c) ∧ Y' c = Y c) → (∀ i, i ≠ 16 → X' 0 i = X 0 i) → X' 0 16 = nI 1 → BV 17 X' s → Y' 17 2 = lN (fm s) → (∀ i, i ∈ [10, 11, 12, 13, 14] → X' 17 i = X 9 i) → Qw CK S1 S2 X' Y' s → Q (.inl none) (LX8 b) X' Y') : tX8_image b [.ref 0] (LX8 b) X Y Q := by
  have n79 := nC8_79 b
  have ln : (LX8 b).length = nC8 b := rfl
  apply tX8_image_i
  refine X0_copy_s (r := []) (fun X3 Y3 f8 y1 y2 g0 g1 g2 => cS0_mk ⟨(by first | exact Or.inl rfl | exact Or.inr rfl | exact Or.inl trivial | exact Or.inr trivial), ?_⟩)
  rw [ln]
  have fa : ∀ c, c < nC8 b → (c < 17 ∨ 24 < c) → mg [17, 18, 19, 20, 21, 22, 23, 24, 9, 10, 11, 12, 13, 14, 15, 16] (nC8 b) X X3 c = X c := fun c hc hd => mg_fr (ch := [0, 1, 2, 3, 4, 5, 6, 7]) (fun i hi hj => f8 i (by simp only [List.mem_cons, List.not_mem_nil, or_false] at hj; omega)) hc (by simp; omega)
  have ya : ∀ c, c < nC8 b → c ≠ 17 → mg [17, 18, 19, 20, 21, 22, 23, 24, 9, 10, 11, 12, 13, 14, 15, 16] (nC8 b) Y Y3 c = Y c := fun c hc hd => mg_fr (ch := [0]) (fun i hi hj => y1 i (fun e => hj (by simp [e]))) hc (by simpa using hd)
  have a0 : mg [17, 18, 19, 20, 21, 22, 23, 24, 9, 10, 11, 12, 13, 14, 15, 16] (nC8 b) X X3 17 = X3 0 := mg_in 0 (by omega) rfl rfl
  have a1 : mg [17, 18, 19, 20, 21, 22, 23, 24, 9, 10, 11, 12, 13, 14, 15, 16] (nC8 b) X X3 18 = X3 1 := mg_in 1 (by omega) rfl rfl
  have a2 : mg [17, 18, 19, 20, 21, 22, 23, 24, 9, 10, 11, 12, 13, 14, 15, 16] (nC8 b) X X3 19 = X3 2 := mg_in 2 (by omega) rfl rfl
  have a3 : mg [17, 18, 19, 20, 21, 22, 23, 24, 9, 10, 11, 12, 13, 14, 15, 16] (nC8 b) X X3 20 = X3 3 := mg_in 3 (by omega) rfl rfl
  have a4 : mg [17, 18, 19, 20, 21, 22, 23, 24, 9, 10, 11, 12, 13, 14, 15, 16] (nC8 b) X X3 21 = X3 4 := mg_in 4 (by omega) rfl rfl
  have a5 : mg [17, 18, 19, 20, 21, 22, 23, 24, 9, 10, 11, 12, 13, 14, 15, 16] (nC8 b) X X3 22 = X3 5 := mg_in 5 (by omega) rfl rfl
  have a6 : mg [17, 18, 19, 20, 21, 22, 23, 24, 9, 10, 11, 12, 13, 14, 15, 16] (nC8 b) X X3 23 = X3 6 := mg_in 6 (by omega) rfl rfl
  have a7 : mg [17, 18, 19, 20, 21, 22, 23, 24, 9, 10, 11, 12, 13, 14, 15, 16] (nC8 b) X X3 24 = X3 7 := mg_in 7 (by omega) rfl rfl
  have y17 : mg [17, 18, 19, 20, 21, 22, 23, 24, 9, 10, 11, 12, 13, 14, 15, 16] (nC8 b) Y Y3 17 = Y3 0 := mg_in 0 (by omega) rfl rfl
  revert fa ya a0 a1 a2 a3 a4 a5 a6 a7 y17
  generalize mg [17, 18, 19, 20, 21, 22, 23, 24, 9, 10, 11, 12, 13, 14, 15, 16] (nC8 b) X X3 = Z
  generalize mg [17, 18, 19, 20, 21, 22, 23, 24, 9, 10, 11, 12, 13, 14, 15, 16] (nC8 b) Y Y3 = W
  intro fa ya a0 a1 a2 a3 a4 a5 a6 a7 y17
  have zz : ∀ c, c ≠ 0 → up2 Z 0 16 (nI 1) c = Z c := fun c hc => up2_row hc
  refine k _ W (fun c hc hd => ⟨fun h0 => (zz c h0).trans (fa c hc hd), ya c hc (by omega)⟩) (fun i hi => ?_) up2_same ?_ ?_ (fun i hi => ?_) (h.up9 (fun c c1 c2 c3 => ⟨(zz c (by omega)).trans (fa c (by omega) (by omega)), ya c (by omega) (by omega)⟩))
  · rw [up2_idx hi, fa 0 (by omega) (by omega)]
  · refine h.bv.copy (c := 17) (d := 9) h.si.2.1 (fun i hi => ?_) (fun e e1 e2 i hi => ?_) (fun e e1 e2 i hi => ?_)
    · rw [zz 17 (by omega), a0]; exact g0 i hi
    · have e5 : e = 1 ∨ e = 2 ∨ e = 3 ∨ e = 4 ∨ e = 5 := by omega
      rw [zz _ (by omega)]
      rcases e5 with rfl | rfl | rfl | rfl | rfl
      · rw [a1]; exact g1 1 (by omega) (by omega) i hi
      · rw [a2]; exact g1 2 (by omega) (by omega) i hi
      · rw [a3]; exact g1 3 (by omega) (by omega) i hi
      · rw [a4]; exact g1 4 (by omega) (by omega) i hi
      · rw [a5]; exact g1 5 (by omega) (by omega) i hi
    · have e5 : e = 6 ∨ e = 7 := by omega
      rw [zz _ (by omega)]
      rcases e5 with rfl | rfl
      · rw [a6]; exact g2 6 (by omega) (by omega) i hi
      · rw [a7]; exact g2 7 (by omega) (by omega) i hi
  · rw [y17, y2]; exact h.2.2.2.1
  · rw [zz 17 (by omega), a0]
    exact g0 i (by simp only [List.mem_cons, List.not_mem_nil, or_false] at hi ⊢; omega)
theorem X8_back_s (h : Qw CK S1 S2 X Y s) (h0 : X 0 16 = nI 0 ∨ (X 0 16 = nI 1 ∧ SI s' ∧ BV 17 X s' ∧ Y 17 2 = lN (fm s'))) (k1 : X 0 16 = nI 1 → ∀ X' Y', (∀ c, c < nC8 b → (c < 9 ∨ (17 ≤ c ∧ c < 25) ∨ c = 61 ∨ 79 ≤ c) → X' c = X c ∧ Y' c = Y c) → Qw CK S1 S2 X' Y' s' → (∀ i, i ∈ [10, 11, 12, 13, 14] → X' 9 i = X 17 i) → Q (rI (nI 1)) (LX8 b) X' Y') (k0 : X 0 16 = nI 0 → Q (rI (nI 0)) (LX8 b) X Y) : tX8_back b [.ref 0] (LX8 b) X Y Q := by
  have n79 := nC8_79 b
  have ln : (LX8 b).length = nC8 b := rfl
  apply tX8_back_i
  rcases h0 with h0 | ⟨h0, si, bv, ef⟩
  · rw [h0]
    exact ⟨fun q => absurd rfl q, fun _ => ⟨(by first | exact Or.inl rfl | exact Or.inr rfl | exact Or.inl trivial | exact Or.inr trivial), k0 h0⟩⟩
  rw [h0]
  refine ⟨fun _ => ?_, fun q => absurd (by decide) q⟩
  refine X0_copy_s (r := []) (fun X3 Y3 f8 y1 y2 g0 g1 g2 => cS0_mk ?_)
  rw [ln]
  have fa : ∀ c, c < nC8 b → (c < 9 ∨ 16 < c) → mg [9, 10, 11, 12, 13, 14, 15, 16, 17, 18, 19, 20, 21, 22, 23, 24] (nC8 b) X X3 c = X c := fun c hc hd => mg_fr (ch := [0, 1, 2, 3, 4, 5, 6, 7]) (fun i hi hj => f8 i (by simp only [List.mem_cons, List.not_mem_nil, or_false] at hj; omega)) hc (by simp; omega)
  have ya : ∀ c, c < nC8 b → c ≠ 9 → mg [9, 10, 11, 12, 13, 14, 15, 16, 17, 18, 19, 20, 21, 22, 23, 24] (nC8 b) Y Y3 c = Y c := fun c hc hd => mg_fr (ch := [0]) (fun i hi hj => y1 i (fun e => hj (by simp [e]))) hc (by simpa using hd)
  have a0 : mg [9, 10, 11, 12, 13, 14, 15, 16, 17, 18, 19, 20, 21, 22, 23, 24] (nC8 b) X X3 9 = X3 0 := mg_in 0 (by omega) rfl rfl
  have a1 : mg [9, 10, 11, 12, 13, 14, 15, 16, 17, 18, 19, 20, 21, 22, 23, 24] (nC8 b) X X3 10 = X3 1 := mg_in 1 (by omega) rfl rfl
  have a2 : mg [9, 10, 11, 12, 13, 14, 15, 16, 17, 18, 19, 20, 21, 22, 23, 24] (nC8 b) X X3 11 = X3 2 := mg_in 2 (by omega) rfl rfl
  have a3 : mg [9, 10, 11, 12, 13, 14, 15, 16, 17, 18, 19, 20, 21, 22, 23, 24] (nC8 b) X X3 12 = X3 3 := mg_in 3 (by omega) rfl rfl
  have a4 : mg [9, 10, 11, 12, 13, 14, 15, 16, 17, 18, 19, 20, 21, 22, 23, 24] (nC8 b) X X3 13 = X3 4 := mg_in 4 (by omega) rfl rfl
  have a5 : mg [9, 10, 11, 12, 13, 14, 15, 16, 17, 18, 19, 20, 21, 22, 23, 24] (nC8 b) X X3 14 = X3 5 := mg_in 5 (by omega) rfl rfl
  have a6 : mg [9, 10, 11, 12, 13, 14, 15, 16, 17, 18, 19, 20, 21, 22, 23, 24] (nC8 b) X X3 15 = X3 6 := mg_in 6 (by omega) rfl rfl
  have a7 : mg [9, 10, 11, 12, 13, 14, 15, 16, 17, 18, 19, 20, 21, 22, 23, 24] (nC8 b) X X3 16 = X3 7 := mg_in 7 (by omega) rfl rfl
  have y17 : mg [9, 10, 11, 12, 13, 14, 15, 16, 17, 18, 19, 20, 21, 22, 23, 24] (nC8 b) Y Y3 9 = Y3 0 := mg_in 0 (by omega) rfl rfl
  revert fa ya a0 a1 a2 a3 a4 a5 a6 a7 y17
  generalize mg [9, 10, 11, 12, 13, 14, 15, 16, 17, 18, 19, 20, 21, 22, 23, 24] (nC8 b) X X3 = Z
  generalize mg [9, 10, 11, 12, 13, 14, 15, 16, 17, 18, 19, 20, 21, 22, 23, 24] (nC8 b) Y Y3 = W
  intro fa ya a0 a1 a2 a3 a4 a5 a6 a7 y17
  have w := h.2.2.2.2.1
  have pv := h.2.2.2.2.2.1
  have bz : BV 9 Z s' := by
    refine bv.copy (c := 9) (d := 17) si.2.1 (fun i hi => ?_) (fun e e1 e2 i hi => ?_) (fun e e1 e2 i hi => ?_)
    · rw [a0]; exact g0 i hi
    · have e5 : e = 1 ∨ e = 2 ∨ e = 3 ∨ e = 4 ∨ e = 5 := by omega
      rcases e5 with rfl | rfl | rfl | rfl | rfl
      · rw [a1]; exact g1 1 (by omega) (by omega) i hi
      · rw [a2]; exact g1 2 (by omega) (by omega) i hi
      · rw [a3]; exact g1 3 (by omega) (by omega) i hi
      · rw [a4]; exact g1 4 (by omega) (by omega) i hi
      · rw [a5]; exact g1 5 (by omega) (by omega) i hi
    · have e5 : e = 6 ∨ e = 7 := by omega
      rcases e5 with rfl | rfl
      · rw [a6]; exact g2 6 (by omega) (by omega) i hi
      · rw [a7]; exact g2 7 (by omega) (by omega) i hi
  refine Q8_forget h.1 si bz (by rw [y17, y2]; exact ef) ⟨by rw [fa 33 (by omega) (by omega)]; exact w.1, by rw [fa 37 (by omega) (by omega)]; exact w.2⟩ (fun t ht => ?_) (fun X' f hx => cK0_mk ⟨(by first | exact Or.inl rfl | exact Or.inr rfl | exact Or.inl trivial | exact Or.inr trivial), k1 h0 X' W (fun c hc hd => ⟨(f c hc (by omega)).trans (fa c hc (by omega)), ya c hc (by omega)⟩) hx (fun i hi => ?_)⟩)
  · have := pv t ht
    show Z 45 t = _ ∧ _
    rw [fa 45 (by omega) (by omega)]; exact this
  · rw [f 9 (by omega) (by omega), a0]
    exact g0 i (by simp only [List.mem_cons, List.not_mem_nil, or_false] at hi ⊢; omega)
end Img8
section Img9
variable {CM : HX → St → Prop} {X X' : HX} {Y Y' : HY} {s s' : St} {r : Ly} {Q : Qt}
/-- what was told, copied -/
theorem SV.copy {X0 X1 : HX} (h : SV X0 s) (si : SI s) (e : ∀ i, i < 262 → X1 1 i = X0 1 i) : SV X1 s := by
  obtain ⟨a1, a2, a3, a4⟩ := h
  have n40 := si.2.1
  refine ⟨by rw [e 0 (by omega)]; exact a1, by rw [e 1 (by omega)]; exact a2, fun k hk => ?_, fun i hi => ?_⟩
  · rw [e _ (by omega), e _ (by omega), e _ (by omega), e _ (by omega), e _ (by omega), e _ (by omega)]
    exact a3 k hk
  · rw [e _ (by omega), e _ (by omega)]
    exact a4 i hi
theorem X9_image_s (h : Mw CM X Y s) (k : ∀ X' Y', (∀ c, c ≠ 0 → c ≠ 2 → X' c = X c) → (∀ i, i ≠ 0 → i ≠ 5 → X' 0 i = X 0 i) → X' 0 0 = nI 0 → X' 0 5 = nI 1 → (∀ i, i < 262 → X' 2 i = X 1 i) → (∀ c, c ≠ 4 → Y' c = Y c) → (∀ i, i < 60 → Y' 4 i = Y 3 i) → Mw CM X' Y' s → Q (.inl none) (LX9 ++ r) X' Y') : tX9_image [.ref 0] (LX9 ++ r) X Y Q := by
  apply tX9_image_i
  have H2 : ∀ n j X2 Y2, j + n = 60 → (∀ c, c ≠ 0 → c ≠ 2 → X2 c = X c) → (∀ i, i ≠ 0 → X2 0 i = X 0 i) → X2 0 0 = nI 0 → (∀ i, i < 262 → X2 2 i = X 1 i) → (∀ c, c ≠ 4 → Y2 c = Y c) → (∀ i, i < j → Y2 4 i = Y 3 i) → hX9_image_34 Q r (nI j) X2 Y2 := by
    intro n
    induction n with
    | zero =>
      intro j X2 Y2 hj f1 f2 f3 f4 g1 g2
      have ej : j = 60 := by omega
      subst ej
      apply hX9_image_34_i
      refine ⟨fun _ => ⟨(by first | exact Or.inl rfl | exact Or.inr rfl | exact Or.inl trivial | exact Or.inr trivial), ?_⟩, fun q => absurd (by decide) q⟩
      refine k _ Y2 (fun c h0 h2 => by rw [up2_row h0]; exact f1 c h0 h2) (fun i h0 h5 => by rw [up2_idx h5]; exact f2 i h0) (by rw [up2_idx (by omega)]; exact f3) up2_same (fun i hi => by rw [up2_out (by omega)]; exact f4 i hi) g1 g2 ⟨h.1, h.si, h.sv.of (by rw [up2_row (by omega)]; exact f1 1 (by omega) (by omega)), h.2.2.2.mono (by rw [up2_idx (by omega)]; exact f2 28 (by omega)) (fun z => h.1 X _ s (fun c h1 h2 => by rw [up2_row (by omega)]; exact f1 c (by omega) (by omega)) (by rw [up2_idx (by omega)]; exact f2 35 (by omega)) z)⟩
    | succ n ih =>
      intro j X2 Y2 hj f1 f2 f3 f4 g1 g2
      apply hX9_image_34_i
      simp (disch := omega) only [m_0, m_L0, m_lt, m_le, m_eq, m_neg, m_in, m_clamp, m_add, m_sub, m_pred, m_mul, m_l, m_i, m_Land, m_Lor, m_and, m_or, m_xor, m_Landn, m_andn, m_LshlP, m_shl, m_LbitP, m_bit, m_cmp0P, m_Lb0, m_Lb1, m_b0, m_b1, Nat.one_mul]
      refine ⟨fun q => by omega, fun _ => ⟨by omega, by omega, ih (j + 1) X2 _ (by omega) f1 f2 f3 f4 (fun c hc => by rw [up2_row hc]; exact g1 c hc) (fun i hi => ?_)⟩⟩
      rw [up2_at]
      by_cases e : i = j
      · rw [if_pos e, e, g1 3 (by omega)]
      · rw [if_neg e]; exact g2 i (by omega)
  have H1 : ∀ n j X2, j + n = 262 → (∀ c, c ≠ 0 → c ≠ 2 → X2 c = X c) → (∀ i, i ≠ 0 → X2 0 i = X 0 i) → X2 0 0 = nI 0 → (∀ i, i < j → X2 2 i = X 1 i) → hX9_image_7 Q r (nI j) X2 Y := by
    intro n
    induction n with
    | zero =>
      intro j X2 hj f1 f2 f3 f4
      have ej : j = 262 := by omega
      subst ej
      apply hX9_image_7_i
      exact ⟨fun _ => H2 60 0 X2 Y (by omega) f1 f2 f3 f4 (fun _ _ => rfl) (fun i hi => by omega), fun q => absurd (by decide) q⟩
    | succ n ih =>
      intro j X2 hj f1 f2 f3 f4
      apply hX9_image_7_i
      simp (disch := omega) only [m_0, m_L0, m_lt, m_le, m_eq, m_neg, m_in, m_clamp, m_add, m_sub, m_pred, m_mul, m_l, m_i, m_Land, m_Lor, m_and, m_or, m_xor, m_Landn, m_andn, m_LshlP, m_shl, m_LbitP, m_bit, m_cmp0P, m_Lb0, m_Lb1, m_b0, m_b1, Nat.one_mul]
      refine ⟨fun q => by omega, fun _ => ⟨by omega, by omega, ih (j + 1) _ (by omega) (fun c h0 h2 => by rw [up2_row h2]; exact f1 c h0 h2) (fun i hi => by rw [up2_out (by omega)]; exact f2 i hi) (by rw [up2_out (by omega)]; exact f3) (fun i hi => ?_)⟩⟩
      rw [up2_at]
      by_cases e : i = j
      · rw [if_pos e, e, f1 1 (by omega) (by omega)]
      · rw [if_neg e]; exact f4 i (by omega)
  exact H1 262 0 _ (by omega) (fun c h0 _ => up2_row h0) (fun i hi => up2_idx hi) up2_same (fun i hi => by omega)
theorem X9_back_s (h : Mw CM X Y s) (h0 : X 0 5 = nI 0 ∨ (X 0 5 = nI 1 ∧ SI s' ∧ SV (fun _ => X 2) s')) (k1 : X 0 5 = nI 1 → ∀ X' Y', (∀ c, c ≠ 0 → c ≠ 1 → X' c = X c) → (∀ i, i ≠ 0 → i ≠ 28 → X' 0 i = X 0 i) → X' 0 0 = nI 0 → (∀ i, i < 262 → X' 1 i = X 2 i) → (∀ c, c ≠ 3 → Y' c = Y c) → (∀ i, i < 60 → Y' 3 i = Y 4 i) → Mw CM X' Y' s' → Q (rI (nI 1)) (LX9 ++ r) X' Y') (k0 : X 0 5 = nI 0 → ScM X (up2 X 0 0 (nI 0)) Y Y → Mw CM (up2 X 0 0 (nI 0)) Y s → Q (rI (nI 0)) (LX9 ++ r) (up2 X 0 0 (nI 0)) Y) : tX9_back [.ref 0] (LX9 ++ r) X Y Q := by
  apply tX9_back_i
  rw [up2_idx (show (5 : Nat) ≠ 0 by omega)]
  rcases h0 with h0 | ⟨h0, si, sv⟩
  · rw [h0]
    exact ⟨fun q => absurd rfl q, fun _ => ⟨(by first | exact Or.inl rfl | exact Or.inr rfl | exact Or.inl trivial | exact Or.inr trivial), k0 h0 (.up (by decide)) (h.sc (.up (by decide)))⟩⟩
  rw [h0]
  refine ⟨fun _ => ?_, fun q => absurd (by decide) q⟩
  have H2 : ∀ n j X2 Y2, j + n = 60 → (∀ c, c ≠ 0 → c ≠ 1 → X2 c = X c) → (∀ i, i ≠ 0 → X2 0 i = X 0 i) → X2 0 0 = nI 0 → (∀ i, i < 262 → X2 1 i = X 2 i) → (∀ c, c ≠ 3 → Y2 c = Y c) → (∀ i, i < j → Y2 3 i = Y 4 i) → hX9_back_43 Q r (nI j) X2 Y2 := by
    intro n
    induction n with
    | zero =>
      intro j X2 Y2 hj f1 f2 f3 f4 g1 g2
      have ej : j = 60 := by omega
      subst ej
      apply hX9_back_43_i
      refine ⟨fun _ => ⟨(by first | exact Or.inl rfl | exact Or.inr rfl | exact Or.inl trivial | exact Or.inr trivial), (by first | exact Or.inl rfl | exact Or.inr rfl | exact Or.inl trivial | exact Or.inr trivial), ?_⟩, fun q => absurd (by decide) q⟩
      refine k1 h0 _ Y2 (fun c h0 h1 => by rw [up2_row h0]; exact f1 c h0 h1) (fun i h0 h28 => by rw [up2_idx h28]; exact f2 i h0) (by rw [up2_idx (by omega)]; exact f3) (fun i hi => by rw [up2_out (by omega)]; exact f4 i hi) g1 g2 ⟨h.1, si, sv.copy si (fun i hi => by rw [up2_out (by omega)]; exact f4 i hi), Or.inl up2_same⟩
    | succ n ih =>
      intro j X2 Y2 hj f1 f2 f3 f4 g1 g2
      apply hX9_back_43_i
      simp (disch := omega) only [m_0, m_L0, m_lt, m_le, m_eq, m_neg, m_in, m_clamp, m_add, m_sub, m_pred, m_mul, m_l, m_i, m_Land, m_Lor, m_and, m_or, m_xor, m_Landn, m_andn, m_LshlP, m_shl, m_LbitP, m_bit, m_cmp0P, m_Lb0, m_Lb1, m_b0, m_b1, Nat.one_mul]
      refine ⟨fun q => by omega, fun _ => ⟨by omega, by omega, ih (j + 1) X2 _ (by omega) f1 f2 f3 f4 (fun c hc => by rw [up2_row hc]; exact g1 c hc) (fun i hi => ?_)⟩⟩
      rw [up2_at]
      by_cases e : i = j
      · rw [if_pos e, e, g1 4 (by omega)]
      · rw [if_neg e]; exact g2 i (by omega)
  have H1 : ∀ n j X2, j + n = 262 → (∀ c, c ≠ 0 → c ≠ 1 → X2 c = X c) → (∀ i, i ≠ 0 → X2 0 i = X 0 i) → X2 0 0 = nI 0 → (∀ i, i < j → X2 1 i = X 2 i) → hX9_back_16 Q r (nI j) X2 Y := by
    intro n
    induction n with
    | zero =>
      intro j X2 hj f1 f2 f3 f4
      have ej : j = 262 := by omega
      subst ej
      apply hX9_back_16_i
      exact ⟨fun _ => H2 60 0 X2 Y (by omega) f1 f2 f3 f4 (fun _ _ => rfl) (fun i hi => by omega), fun q => absurd (by decide) q⟩
    | succ n ih =>
      intro j X2 hj f1 f2 f3 f4
      apply hX9_back_16_i
      simp (disch := omega) only [m_0, m_L0, m_lt, m_le, m_eq, m_neg, m_in, m_clamp, m_add, m_sub, m_pred, m_mul, m_l, m_i, m_Land, m_Lor, m_and, m_or, m_xor, m_Landn, m_andn, m_LshlP, m_shl, m_LbitP, m_bit, m_cmp0P, m_Lb0, m_Lb1, m_b0, m_b1, Nat.one_mul]
      refine ⟨fun q => by omega, fun _ => ⟨by omega, by omega, ih (j + 1) _ (by omega) (fun c h0 h1 => by rw [up2_row h1]; exact f1 c h0 h1) (fun i hi => by rw [up2_out (by omega)]; exact f2 i hi) (by rw [up2_out (by omega)]; exact f3) (fun i hi => ?_)⟩⟩
      rw [up2_at]
      by_cases e : i = j
      · rw [if_pos e, e, f1 2 (by omega) (by omega)]
      · rw [if_neg e]; exact f4 i (by omega)
  exact H1 262 0 _ (by omega) (fun c h0 _ => up2_row h0) (fun i hi => up2_idx hi) up2_same (fun i hi => by omega)
end Img9
