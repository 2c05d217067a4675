/-! the constructors of the class and of the reference -/
theorem NwF.to {b c : Nat} {X X1 X2 : HX} {Y Y1 Y2 : HY} (h : NwF b X X1 Y Y1) (hb : b ≤ c) (k : NwF c X1 X2 Y1 Y2) : NwF b X X2 Y Y2 := fun i hi => ⟨(k i (by omega)).1.trans (h i hi).1, (k i (by omega)).2.trans (h i hi).2⟩
theorem Wi120_is : Wi120 = LX8 false := by rfl
theorem Wi182_is : Wi182 = LX9 := by rfl
section Init
variable {X : HX} {Y : HY} {Q : Qt}
theorem X8_init_s (k : ∀ X' Y', A8 false X' Y' s00 t00 (-1) l00 none → Q (.inl none) (LX8 false) X' Y') : tX8_init [.ref 0] Wi76 X Y Q := by
  apply tX8_init_i
  refine N7_s (b := 1) rfl (fun X1 Y1 w1 a1 => N6_s (fun X2 Y2 w2 => N0_s (b := 9) rfl (fun X3 Y3 w3 p0 p1 p10 p11 p12 p13 p14 p67 pY => N0_s (b := 17) rfl (fun X4 Y4 w4 _ _ _ _ _ _ _ _ _ => N5_s (b := 25) rfl (fun X5 Y5 w5 a5 => N5_s (b := 29) rfl (fun X6 Y6 w6 _ => N4_s (b := 33) rfl (fun X7 Y7 w7 a7 => N4_s (b := 37) rfl (fun X8 Y8 w8 a8 => N3_s (b := 41) rfl (fun X9 Y9 w9 a9 v9 => N3_s (b := 49) rfl (fun Xa Ya wa aa _ => N3_s (b := 57) rfl (fun Xb Yb wb _ vb => N1_s (b := 65) rfl (fun Xc Yc wc ac => N2_s (b := 76) rfl (fun Xd Yd wd ad => N2_s (b := 77) rfl (fun Xe Ye we ae => ⟨(by first | exact Or.inl rfl | exact Or.inr rfl | exact Or.inl trivial | exact Or.inr trivial), ?_⟩))))))))))))))
  rw [Wi120_is]
  have e76 : NwF 77 Xd Xe Yd Ye := we
  have e65 : NwF 76 Xc Xe Yc Ye := wd.to (by omega) e76
  have e57 : NwF 65 Xb Xe Yb Ye := wc.to (by omega) e65
  have e49 : NwF 57 Xa Xe Ya Ye := wb.to (by omega) e57
  have e41 : NwF 49 X9 Xe Y9 Ye := wa.to (by omega) e49
  have e37 : NwF 41 X8 Xe Y8 Ye := w9.to (by omega) e41
  have e33 : NwF 37 X7 Xe Y7 Ye := w8.to (by omega) e37
  have e29 : NwF 33 X6 Xe Y6 Ye := w7.to (by omega) e33
  have e25 : NwF 29 X5 Xe Y5 Ye := w6.to (by omega) e29
  have e17 : NwF 25 X4 Xe Y4 Ye := w5.to (by omega) e25
  have e9 : NwF 17 X3 Xe Y3 Ye := w4.to (by omega) e17
  have e3 : NwF 9 X2 Xe Y2 Ye := w3.to (by omega) e9
  have e1 : NwF 3 X1 Xe Y1 Ye := w2.to (by omega) e3
  have u : ∀ c, c ≠ 0 → c ≠ 78 → up2 (up2 (upR Xe 78) 0 16 (nI 0)) 0 17 (-1) c = Xe c := fun c h0 h8 => by rw [up2_row h0, up2_row h0, upR_out h8]
  have uy : ∀ c, c ≠ 78 → upR Ye 78 c = Ye c := fun c h8 => upR_out h8
  have u16 : up2 (up2 (upR Xe 78) 0 16 (nI 0)) 0 17 (-1) 0 16 = nI 0 := by rw [up2_idx (by omega), up2_same]
  have u17 : up2 (up2 (upR Xe 78) 0 16 (nI 0)) 0 17 (-1) 0 17 = -1 := up2_same
  refine k _ _ ?_
  generalize up2 (up2 (upR Xe 78) 0 16 (nI 0)) 0 17 (-1) = Xf at *
  generalize upR Ye 78 = Yf at *
  have x9 : Xf 9 = X3 9 := (u 9 (by omega) (by omega)).trans (e9 9 (by omega)).1
  refine ⟨⟨⟨CK8_in, S76_in, S77_in⟩, s00_si, ⟨?_, ?_, fun k hk => absurd hk (by show ¬ k < 0; omega), fun i hi => ?_⟩, ?_, ⟨?_, ?_⟩, fun i _ => ⟨?_, by show (0 : Nat) < 134217728; omega⟩, Or.inl ?_, Or.inl ?_, Or.inl ?_, Or.inl ?_, Or.inl ?_, Or.inl ?_⟩, ⟨by show 0 ≤ 400; omega, ?_, fun i hi => absurd hi (by show ¬ i < 0; omega)⟩, u17, l00_lf ?_ ?_ ?_ ?_ ?_, fun i _ => ⟨?_, by show (0 : Nat) < 134217728; omega⟩, fun z => absurd z (by decide), Or.inl ⟨rfl, u16⟩⟩
  · rw [x9]; exact p0
  · rw [x9]; exact p1
  · rw [u (9 + 6) (by omega) (by omega), u (9 + 7) (by omega) (by omega), (e9 (9 + 6) (by omega)).1, (e9 (9 + 7) (by omega)).1]
    exact p67 i hi
  · rw [uy 9 (by omega), (e9 9 (by omega)).2]; exact pY
  · rw [u 33 (by omega) (by omega), (e33 33 (by omega)).1]; exact a7
  · rw [u 37 (by omega) (by omega), (e37 37 (by omega)).1]; exact a8
  · show Xf 45 i = nI 0
    rw [u 45 (by omega) (by omega), (e41 45 (by omega)).1]; exact v9 i
  · rw [u 25 (by omega) (by omega), (e25 25 (by omega)).1]; exact a5
  · rw [u 41 (by omega) (by omega), (e41 41 (by omega)).1]; exact a9
  · rw [u 49 (by omega) (by omega), (e49 49 (by omega)).1]; exact aa
  · rw [u 65 (by omega) (by omega), (e65 65 (by omega)).1]; exact ac
  · rw [u 76 (by omega) (by omega), (e76 76 (by omega)).1]; exact ad
  · rw [u 77 (by omega) (by omega)]; exact ae
  · rw [u 1 (by omega) (by omega), (e1 1 (by omega)).1]; exact a1
  · rw [x9]; exact p10
  · rw [x9]; exact p11
  · rw [x9]; exact p12
  · rw [x9]; exact p13
  · rw [x9]; exact p14
  · show Xf 61 i = nI 0
    rw [u 61 (by omega) (by omega), (e57 61 (by omega)).1]; exact vb i
theorem N9_go : ∀ m i X, 9 - i = m → i ≤ 9 → (∀ j, j < i → X 1 (242 + j) = -1 ∧ X 1 (251 + j) = -1) → (∀ X' : HX, (∀ c, c ≠ 1 → X' c = X c) → (∀ j, (j < 242 ∨ 260 ≤ j) → X' 1 j = X 1 j) → (∀ j, j < 9 → X' 1 (242 + j) = -1 ∧ X' 1 (251 + j) = -1) → Q (.inl none) Wi182 X' Y) → hX9_init_259 Q (nI i) X Y := by
  intro m
  induction m with
  | zero =>
    intro i X em hi g k
    have e : i = 9 := by omega
    subst e
    apply hX9_init_259_i
    exact ⟨fun _ => k X (fun _ _ => rfl) (fun _ _ => rfl) g, fun q => absurd (by decide) q⟩
  | succ m ih =>
    intro i X em hi g k
    apply hX9_init_259_i
    rw [m_le (by omega) (by omega), m_add 242, m_add 251, m_clamp (show 242 + i < 2147483648 by omega), m_clamp (show 251 + i < 2147483648 by omega), m_add i 1]
    refine ⟨fun q => absurd q (by omega), fun _ => ⟨(m_in (by omega)).mpr (by omega), (m_in (by omega)).mpr (by omega), ?_⟩⟩
    refine ih (i + 1) _ (by omega) (by omega) (fun j hj => ?_) (fun X' f f1 f2 => k X' (fun c hc => by rw [f c hc, up2_row hc, up2_row hc]) (fun j hj => by rw [f1 j hj, up2_idx (by omega), up2_idx (by omega)]) f2)
    by_cases e : j = i
    · subst e
      exact ⟨by rw [up2_idx (by omega), up2_same], up2_same⟩
    · rw [up2_idx (by omega), up2_idx (by omega), up2_idx (by omega), up2_idx (by omega)]; exact g j (by omega)
theorem X9_init_s (hz : ∀ i, X 0 i = 0) (k : ∀ X' Y', A9 X' Y' s00 t00 (-1) l00 none → Q (.inl none) LX9 X' Y') : tX9_init [.ref 0] Wi126 X Y Q := by
  apply tX9_init_i
  refine N9_go _ 0 _ rfl (by omega) (fun j hj => absurd hj (by omega)) (fun X3 f f1 f2 => ?_)
  rw [Wi182_is]
  have z0 : ∀ i, X3 0 i = _ := fun i => by rw [f 0 (by omega)]
  have z1 : ∀ i, (i < 242 ∨ 260 ≤ i) → X3 1 i = _ := fun i hi => f1 i hi
  refine k _ _ ⟨⟨CM9_in, s00_si, ⟨?_, ?_, fun k hk => absurd hk (by show ¬ k < 0; omega), fun i hi => f2 i hi⟩, Or.inl ?_⟩, ⟨by show 0 ≤ 400; omega, ?_, fun i hi => absurd hi (by show ¬ i < 0; omega)⟩, ?_, ⟨l00_si, ?_, ?_, fun i hi => ?_⟩, Or.inl ⟨rfl, ?_⟩⟩
  · rw [z1 0 (by omega)]; simp [up2, upR]; rfl
  · rw [z1 1 (by omega)]; simp [up2, upR]; rfl
  · rw [z0]; simp [up2, upR, hz]; rfl
  · rw [z0]; simp [up2, upR, hz]; rfl
  · rw [z0]; simp [up2, upR]
  · rw [z1 260 (by omega)]; simp [up2, upR]; rfl
  · rw [z1 261 (by omega), l00_pr]; simp [up2, upR]; rfl
  · simp [upR]; rfl
  · rw [z0]; simp [up2, upR, hz]; rfl
end Init
