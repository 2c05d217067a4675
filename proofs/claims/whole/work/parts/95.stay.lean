/-! stay and guest, by the class -/
/-- when a GUEST came and went, from now on -/
def ssF (s : St) (g a w : Nat) : St := (sG s, sN s, sWd s, sFi s, sSe s, sTe s, sSu s, sFo s, (fun i => if i = g then (a : Int) else sCa s i), (fun i => if i = g then (w : Int) else sWe s i))
/-- one GUEST more -/
def gsF (s : St) : St := (sG s + 1, sN s, sWd s, sFi s, sSe s, sTe s, sSu s, sFo s, sCa s, sWe s)
/-- it doesn't look at STAYS told -/
def IgS (P : HX → St → Prop) : Prop := ∀ X s g a w, P X s → P X (ssF s g a w)
def okS (p q : Int32) : Prop := ¬ p < 0 ∧ ¬ q < p ∧ q ≤ nI 99
theorem okS_c {p q : Int32} (h : okS p q) : ∃ a w, p = nI a ∧ q = nI w ∧ a ≤ w ∧ w ≤ 99 := by
  obtain ⟨h1, h2, h3⟩ := h
  rcases i32c p with z | ⟨a, ha, rfl⟩
  · exact absurd z h1
  · rcases i32c q with z | ⟨w, hw, rfl⟩
    · refine absurd ?_ h2
      rw [Int32.lt_iff_toInt_lt] at z ⊢
      rw [nI_toInt ha]
      have : (0 : Int32).toInt = 0 := rfl
      omega
    · rw [m_lt hw ha] at h2
      rw [m_le hw (by omega)] at h3
      exact ⟨a, w, rfl, rfl, by omega, h3⟩
theorem ssF_si {s : St} {g a w : Nat} (h : SI s) (ha : a ≤ w) (hw : w ≤ 99) : SI (ssF s g a w) := by
  obtain ⟨h1, h2, h3, h4⟩ := h
  refine ⟨h1, h2, h3, fun i hi => ?_⟩
  have := h4 i hi
  show -1 ≤ (if i = g then (a : Int) else sCa s i) ∧ (if i = g then (a : Int) else sCa s i) ≤ 99 ∧ -1 ≤ (if i = g then (w : Int) else sWe s i) ∧ (if i = g then (w : Int) else sWe s i) ≤ 99
  split <;> omega
theorem gsF_si {s : St} (h : SI s) (hg : sG s < 9) : SI (gsF s) := by
  obtain ⟨h1, h2, h3, h4⟩ := h
  refine ⟨hg, h2, fun k hk => ?_, h4⟩
  obtain ⟨a1, a2, a3, a4, a5, a6, a7⟩ := h3 k hk
  exact ⟨a1, Nat.lt_succ_of_lt a2, Nat.lt_succ_of_lt a3, a4, a5, by show sTe s k < ((sG s + 1 : Nat) : Int); omega, a7⟩
section Ssf
variable {s : St} {g a w : Nat} {F : Nat → Bool}
theorem rul_ssF {x y : Nat} : ∀ n, rul (ssF s g a w) F x y n = rul s F x y n
  | 0 => rfl
  | n + 1 => by
    simp only [rul]
    rw [rul_ssF n]
    rfl
theorem kd_ssF : ∀ x y, kd (ssF s g a w) F x y = kd s F x y := fun x y => by
  unfold kd
  rw [rul_ssF]
  rfl
theorem mt_ssF : mt (ssF s g a w) F = mt s F := by
  funext v
  unfold mt
  have : (fun u => (u != v) && (kd (ssF s g a w) F v u == 0)) = (fun u => (u != v) && (kd s F v u == 0)) := funext fun u => by rw [kd_ssF]
  rw [this]
  rfl
theorem Ms_ssF : Ms (ssF s g a w) = Ms s := mt_ssF (F := sFo s)
theorem ops_ssF : ops (ssF s g a w) F = ops s F := by
  unfold ops
  simp only [kd_ssF]
  rfl
theorem PKo_ssF {X : HX} {Y : HY} (h : PKo X Y s) : PKo X Y (ssF s g a w) := by
  unfold PKo RV at h ⊢
  simp only [Ms_ssF]
  rw [show ops (ssF s g a w) (sFo (ssF s g a w)) = ops s (sFo s) from ops_ssF]
  refine ⟨?_, h.2⟩
  have h1 := h.1
  simp only [rul_ssF]
  exact h1
theorem LKo_ssF {X : HX} (h : LKo X s) : LKo X (ssF s g a w) := by
  unfold LKo sm so at h ⊢
  rw [Ms_ssF]
  exact h
theorem ahL_ssF : ahL (ssF s g a w) = ahL s := by
  unfold ahL
  simp only [rul_ssF]
  rfl
theorem OKo_ssF {X : HX} (h : OKo X s) : OKo X (ssF s g a w) := by
  unfold OKo ahP sm so at h ⊢
  rw [Ms_ssF, ahL_ssF]
  exact h
end Ssf
section Sty
variable {CK S1 S2 : HX → St → Prop} {X X' : HX} {Y Y' : HY} {s : St} {b : Bool} {Q : Qt}
theorem Qw.stay {g a w : Nat} (h : Qw CK S1 S2 X Y s) (i1 : IgS CK) (i2 : IgS S1) (i3 : IgS S2) (ex : ∀ c, c < 79 → c ≠ 15 → c ≠ 16 → X' c = X c) (si : SI (ssF s g a w)) (bv : BV 9 X' (ssF s g a w)) : Qw CK S1 S2 X' Y (ssF s g a w) := by
  obtain ⟨⟨hC, h1, h2⟩, q1, q2, q3, q4, q5, q6, q7, q8, q9, q10, q11⟩ := h
  have xx : ∀ c i, c < 79 → c ≠ 15 → c ≠ 16 → X' c i = X c i := fun c i hc d1 d2 => by rw [ex c hc d1 d2]
  refine ⟨⟨hC, h1, h2⟩, si, bv, q3, ⟨by rw [xx 33 2 (by omega) (by omega) (by omega)]; exact q4.1, by rw [xx 37 2 (by omega) (by omega) (by omega)]; exact q4.2⟩, ?_, ?_, ?_, ?_, ?_, ?_, ?_⟩
  · intro t ht
    have := q5 t ht
    show X' 45 t = _ ∧ _
    rw [xx 45 t (by omega) (by omega) (by omega)]; exact this
  · exact q6.mono (xx _ _ (by omega) (by omega) (by omega)) (fun z => PKo_ssF (z.of (xx _ _ (by omega) (by omega) (by omega)) (ex _ (by omega) (by omega) (by omega)) (ex _ (by omega) (by omega) (by omega)) (ex _ (by omega) (by omega) (by omega)) rfl))
  · exact q7.mono (xx _ _ (by omega) (by omega) (by omega)) (fun z => ⟨by rw [xx 25 3 (by omega) (by omega) (by omega)]; exact z.1, LKo_ssF (z.2.of (xx _ _ (by omega) (by omega) (by omega)) (fun c z1 z2 => ex c (by omega) (by omega) (by omega)))⟩)
  · exact q8.mono (xx _ _ (by omega) (by omega) (by omega)) (fun z => ⟨by rw [xx 41 4 (by omega) (by omega) (by omega)]; exact z.1, OKo_ssF (z.2.of (xx _ _ (by omega) (by omega) (by omega)) (fun c z1 z2 => ex c (by omega) (by omega) (by omega)))⟩)
  · exact q9.mono (xx _ _ (by omega) (by omega) (by omega)) (fun z => ⟨by rw [xx 41 4 (by omega) (by omega) (by omega)]; exact z.1, i1 _ _ _ _ _ (hC X X' s (fun c z1 z2 => ex c (by omega) (by omega) (by omega)) z.2)⟩)
  · exact q10.mono (xx _ _ (by omega) (by omega) (by omega)) (fun z => i2 _ _ _ _ _ (h1 X X' s (fun c z1 z2 => ex c (by omega) (by omega) (by omega)) z))
  · exact q11.mono (xx _ _ (by omega) (by omega) (by omega)) (fun z => i3 _ _ _ _ _ (h2 X X' s (fun c z1 z2 => ex c (by omega) (by omega) (by omega)) z))
theorem X8_stay_s {p q t : Int32} (h : Qw CK S1 S2 X Y s) (i1 : IgS CK) (i2 : IgS S1) (i3 : IgS S2) (k1 : ∀ g a w X', p = nI g → g < sG s → q = nI a → t = nI w → a ≤ w → w ≤ 99 → (∀ c, c ≠ 15 → c ≠ 16 → X' c = X c) → Qw CK S1 S2 X' Y (ssF s g a w) → Q (.inl none) (LX8 b) X' Y) (k2 : isG s p → ¬ okS q t → Q (.inr XA) (LX8 b) X Y) (k3 : ¬ isG s p → Q (.inr XI) (LX8 b) X Y) : tX8_stay b [.ref 0, .int p, .int q, .int t] (LX8 b) X Y Q := by
  have g9 := h.si.1
  apply tX8_stay_i
  refine Q8_guest h (fun hg => cK0_mk ?_) (fun hg => cK0_ex (k3 hg))
  refine ⟨fun y => k2 hg (fun n => n.1 y), fun y1 => ⟨fun y => k2 hg (fun n => n.2.1 y), fun y2 => ⟨fun y3 => ?_, fun y => k2 hg (fun n => y n.2.2)⟩⟩⟩
  obtain ⟨g, hg', rfl⟩ := isG_c hg
  obtain ⟨a, w, rfl, rfl, haw, hw⟩ := okS_c ⟨y1, y2, y3⟩
  rw [m_clamp (by omega)]
  have v : vp_in (nI g) 9 := (m_in (by omega)).mpr (by omega)
  have ex : ∀ c, c ≠ 15 → c ≠ 16 → up2 (up2 X 15 g (nI a)) 16 g (nI w) c = X c := fun c d1 d2 => by rw [up2_row d2, up2_row d1]
  refine ⟨v, v, k1 g a w _ rfl hg' rfl rfl haw hw ex (h.stay i1 i2 i3 (fun c _ => ex c) (ssF_si h.si haw hw) ?_)⟩
  obtain ⟨b1, b2, b3, b4⟩ := h.bv
  refine ⟨by rw [ex 9 (by omega) (by omega)]; exact b1, by rw [ex 9 (by omega) (by omega)]; exact b2, fun k hk => ?_, fun i hi => ?_⟩
  · rw [ex (9 + 1) (by omega) (by omega), ex (9 + 2) (by omega) (by omega), ex (9 + 3) (by omega) (by omega), ex (9 + 4) (by omega) (by omega), ex (9 + 5) (by omega) (by omega)]
    exact b3 k hk
  · show up2 (up2 X 15 g (nI a)) 16 g (nI w) 15 i = zI (if i = g then (a : Int) else sCa s i) ∧ up2 (up2 X 15 g (nI a)) 16 g (nI w) 16 i = zI (if i = g then (w : Int) else sWe s i)
    rw [up2_row (show (15 : Nat) ≠ 16 by omega)]
    by_cases e : i = g
    · subst e
      rw [up2_same, up2_same, if_pos rfl, if_pos rfl]
      exact ⟨rfl, rfl⟩
    · rw [up2_idx e, up2_idx e, up2_row (show (16 : Nat) ≠ 15 by omega), if_neg e, if_neg e]
      exact b4 i hi
end Sty
