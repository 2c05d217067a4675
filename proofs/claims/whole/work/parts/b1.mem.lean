/-! a text's reading, by cases; what the state is behind memory -/
/-- a LINE's values -/
def okLn (G : Nat) (w f s te su : Int32) : Prop := ∃ (w1 f1 s1 su1 : Nat) (te1 : Int), w = nI w1 ∧ w1 ≤ 3 ∧ f = nI f1 ∧ f1 < G ∧ s = nI s1 ∧ s1 < G ∧ f1 ≠ s1 ∧ te = zI te1 ∧ -1 ≤ te1 ∧ te1 < G ∧ su = nI su1 ∧ 1 ≤ su1 ∧ su1 ≤ 99
def okD (G n : Nat) (D : Nat → Nat → Int32) : Prop := ∀ k, k < n → okLn G (D k 0) (D k 1) (D k 2) (D k 3) (D k 4)
section Cas
variable {t : Tp} {b G : Nat}
theorem zGs_c (h : zGs t G b) : ∃ v, v < G ∧ v < 2147483648 ∧ zva t b = nI v ∧ zth t b = 2 := by
  obtain ⟨h1, h2, h3⟩ := h
  rcases i32c (zva t b) with z | ⟨v, hv, e⟩
  · exact absurd z h2
  · refine ⟨v, ?_, hv, e, h1⟩
    by_cases q : v < G
    · exact q
    · exfalso; apply h3
      rw [e, m_le (by omega) hv]; omega
theorem zSu_c (h : zSu t b) : ∃ v, 1 ≤ v ∧ v ≤ 99 ∧ zva t b = nI v ∧ zth t b = 2 := by
  obtain ⟨h1, h2, h3⟩ := h
  rcases i32c (zva t b) with z | ⟨v, hv, e⟩
  · refine absurd ?_ h2
    rw [Int32.lt_iff_toInt_lt] at z ⊢
    have e1 : (0 : Int32).toInt = 0 := rfl
    have e2 : (nI 1).toInt = 1 := rfl
    rw [e1] at z; rw [e2]; omega
  · rw [e] at h2 h3
    rw [m_lt hv (by omega)] at h2
    rw [m_le hv (by omega)] at h3
    exact ⟨v, by omega, h3, e, h1⟩
theorem zWv_le (e : Nat) : zWv t b e ≤ 6 := by
  unfold zWv
  by_cases q0 : zWd t b e 0
  · rw [cif_y q0]; omega
  rw [cif_n q0]
  by_cases q1 : zWd t b e 1
  · rw [cif_y q1]; omega
  rw [cif_n q1]
  by_cases q2 : zWd t b e 2
  · rw [cif_y q2]; omega
  rw [cif_n q2]
  by_cases q3 : zWd t b e 3
  · rw [cif_y q3]; omega
  rw [cif_n q3]
  by_cases q4 : zWd t b e 4
  · rw [cif_y q4]; omega
  rw [cif_n q4]
  by_cases q5 : zWd t b e 5
  · rw [cif_y q5]; omega
  · rw [cif_n q5]; omega
theorem zWv_c {e v : Nat} (h : zWv t b e = v) (hv : v < 6) : zWd t b e v := by
  unfold zWv at h
  by_cases q0 : zWd t b e 0
  · rw [cif_y q0] at h; subst h; exact q0
  rw [cif_n q0] at h
  by_cases q1 : zWd t b e 1
  · rw [cif_y q1] at h; subst h; exact q1
  rw [cif_n q1] at h
  by_cases q2 : zWd t b e 2
  · rw [cif_y q2] at h; subst h; exact q2
  rw [cif_n q2] at h
  by_cases q3 : zWd t b e 3
  · rw [cif_y q3] at h; subst h; exact q3
  rw [cif_n q3] at h
  by_cases q4 : zWd t b e 4
  · rw [cif_y q4] at h; subst h; exact q4
  rw [cif_n q4] at h
  by_cases q5 : zWd t b e 5
  · rw [cif_y q5] at h; subst h; exact q5
  · rw [cif_n q5] at h; omega
/-- a thing that is a word -/
theorem zth_1 (h : zth t b = 1) : b < t.1 ∧ zLt (zsg t b) ∧ znx t b = zen zLt t b ∧ zva t b = nI (zWv t b (zen zLt t b)) := by
  unfold zth at h
  by_cases q1 : t.1 ≤ b
  · rw [cif_y q1] at h; omega
  rw [cif_n q1] at h
  by_cases q2 : zLt (zsg t b)
  · exact ⟨by omega, q2, (cif_n q1).trans (cif_y q2), (cif_n q1).trans (cif_y q2)⟩
  rw [cif_n q2] at h
  by_cases q3 : zDg (zsg t b)
  · rw [cif_y q3] at h; omega
  rw [cif_n q3] at h
  by_cases q4 : zsg t b = 59
  · rw [cif_y q4] at h; omega
  · rw [cif_n q4] at h; omega
theorem zth_2 (h : zth t b = 2) : b < t.1 ∧ ¬ zLt (zsg t b) ∧ zDg (zsg t b) ∧ znx t b = zen zDg t b ∧ zva t b = zNv t b (zen zDg t b) := by
  unfold zth at h
  by_cases q1 : t.1 ≤ b
  · rw [cif_y q1] at h; omega
  rw [cif_n q1] at h
  by_cases q2 : zLt (zsg t b)
  · rw [cif_y q2] at h; omega
  rw [cif_n q2] at h
  by_cases q3 : zDg (zsg t b)
  · exact ⟨by omega, q2, q3, (cif_n q1).trans ((cif_n q2).trans (cif_y q3)), (cif_n q1).trans ((cif_n q2).trans (cif_y q3))⟩
  rw [cif_n q3] at h
  by_cases q4 : zsg t b = 59
  · rw [cif_y q4] at h; omega
  · rw [cif_n q4] at h; omega
theorem znx_2 (h : zth t b = 2) : b + 1 ≤ zsn t b := by
  obtain ⟨h1, h2, h3, h4, h5⟩ := zth_2 h
  have e := zen_y (t := t) zDg6 h3
  have s6 := (zen_sp (t := t) zDg6 _ (b + 1) rfl).1
  have s7 := (zen_sp (t := t) zBl6 _ (znx t b) rfl).1
  unfold zsn
  omega
theorem znx_w (h : zth t b = 1) (h3 : zva t b ≤ nI 3) : b + 3 ≤ zsn t b := by
  obtain ⟨h1, h2, h4, h5⟩ := zth_1 h
  have l6 := zWv_le (t := t) (b := b) (zen zLt t b)
  rw [h5, m_le (by omega) (by omega)] at h3
  have w := zWv_c (t := t) (b := b) (e := zen zLt t b) rfl (by omega)
  have l3 : ∀ i, i ≤ 3 → 3 ≤ lenPS.getD i 0 := by decide
  have := l3 _ h3
  have e := w.1
  have s7 := (zen_sp (t := t) zBl6 _ (znx t b) rfl).1
  unfold zsn
  omega
theorem zsn_ge : b ≤ zsn t b := by
  have s7 := (zen_sp (t := t) zBl6 _ (znx t b) rfl).1
  have : b ≤ znx t b := by
    unfold znx
    by_cases q1 : t.1 ≤ b
    · rw [cif_y q1]; omega
    rw [cif_n q1]
    by_cases q2 : zLt (zsg t b)
    · rw [cif_y q2]; exact (zen_sp zLt6 _ b rfl).1
    rw [cif_n q2]
    by_cases q3 : zDg (zsg t b)
    · rw [cif_y q3]; exact (zen_sp zDg6 _ b rfl).1
    · rw [cif_n q3]; omega
  unfold zsn; omega
theorem lnC_c {w f s te : Int32} (hb : b ≤ t.1) : (∃ b', b' ≤ t.1 ∧ ∀ (α : Type) (bad : Nat → α) good, lnC t b w f s te bad good = bad b') ∨ (∃ b' su, b ≤ b' ∧ b' ≤ t.1 ∧ (∃ v, su = nI v ∧ 1 ≤ v ∧ v ≤ 99) ∧ ∀ (α : Type) (bad : Nat → α) good, lnC t b w f s te bad good = good b' w f s te su) := by
  by_cases y : zth t b = 1 ∧ zva t b = nI 5
  · by_cases z : zSu t (zsn t b)
    · obtain ⟨v, v1, v2, v3, v4⟩ := zSu_c z
      exact Or.inr ⟨zsn t (zsn t b), zva t (zsn t b), Nat.le_trans zsn_ge zsn_ge, zsn_le (zsn_le hb), ⟨v, v3, v1, v2⟩, fun _ _ _ => (cif_y y).trans (cif_y z)⟩
    · exact Or.inl ⟨zsn t b, zsn_le hb, fun _ _ _ => (cif_y y).trans (cif_n z)⟩
  · exact Or.inr ⟨b, nI 50, Nat.le_refl _, hb, ⟨50, rfl, by omega, by omega⟩, fun _ _ _ => cif_n y⟩
theorem lnB_c {w f s : Int32} (hG : G ≤ 9) (hb : b ≤ t.1) : (∃ b', b' ≤ t.1 ∧ ∀ (α : Type) (bad : Nat → α) good, lnB t G b w f s bad good = bad b') ∨ (∃ b' te su, b ≤ b' ∧ b' ≤ t.1 ∧ (∃ v : Int, te = zI v ∧ -1 ≤ v ∧ v < G) ∧ (∃ v, su = nI v ∧ 1 ≤ v ∧ v ≤ 99) ∧ ∀ (α : Type) (bad : Nat → α) good, lnB t G b w f s bad good = good b' w f s te su) := by
  by_cases y : zth t b = 1 ∧ zva t b = nI 4
  · by_cases z : zGs t G (zsn t b)
    · obtain ⟨v, v1, v2, v3, v4⟩ := zGs_c z
      rcases lnC_c (w := w) (f := f) (s := s) (te := zva t (zsn t b)) (zsn_le (zsn_le hb)) with ⟨b', h1, h2⟩ | ⟨b', su, h0, h1, h2, h3⟩
      · exact Or.inl ⟨b', h1, fun _ _ _ => (cif_y y).trans ((cif_y z).trans (h2 _ _ _))⟩
      · exact Or.inr ⟨b', zva t (zsn t b), su, Nat.le_trans (Nat.le_trans zsn_ge zsn_ge) h0, h1, ⟨v, v3, by omega, by omega⟩, h2, fun _ _ _ => (cif_y y).trans ((cif_y z).trans (h3 _ _ _))⟩
    · exact Or.inl ⟨zsn t b, zsn_le hb, fun _ _ _ => (cif_y y).trans (cif_n z)⟩
  · rcases lnC_c (w := w) (f := f) (s := s) (te := -1) hb with ⟨b', h1, h2⟩ | ⟨b', su, h0, h1, h2, h3⟩
    · exact Or.inl ⟨b', h1, fun _ _ _ => (cif_n y).trans (h2 _ _ _)⟩
    · exact Or.inr ⟨b', -1, su, h0, h1, ⟨-1, rfl, by omega, by omega⟩, h2, fun _ _ _ => (cif_n y).trans (h3 _ _ _)⟩
/-- a LINE is wrong at a place, or it tells what it tells -/
theorem lnK_c (hG : G ≤ 9) (hb : b ≤ t.1) : (∃ b', b' ≤ t.1 ∧ ∀ (α : Type) (bad : Nat → α) good, lnK t G b bad good = bad b') ∨ (∃ b' w f s te su, b + 5 ≤ b' ∧ b' ≤ t.1 ∧ okLn G w f s te su ∧ ∀ (α : Type) (bad : Nat → α) good, lnK t G b bad good = good b' w f s te su) := by
  by_cases y : zth t b = 1 ∧ zva t b ≤ nI 3
  rotate_left
  · exact Or.inl ⟨b, hb, fun _ _ _ => cif_n y⟩
  by_cases z : zGs t G (zsn t b)
  rotate_left
  · exact Or.inl ⟨zsn t b, zsn_le hb, fun _ _ _ => (cif_y y).trans (cif_n z)⟩
  by_cases x : zGs t G (zsn t (zsn t b)) ∧ zva t (zsn t (zsn t b)) ≠ zva t (zsn t b)
  rotate_left
  · exact Or.inl ⟨zsn t (zsn t b), zsn_le (zsn_le hb), fun _ _ _ => (cif_y y).trans ((cif_y z).trans (cif_n x))⟩
  obtain ⟨v, v1, v2, v3, v4⟩ := zGs_c z
  obtain ⟨u, u1, u2, u3, u4⟩ := zGs_c x.1
  have l1 := znx_w y.1 y.2
  have l2 := znx_2 v4
  have l3 := znx_2 u4
  rcases lnB_c (w := zva t b) (f := zva t (zsn t b)) (s := zva t (zsn t (zsn t b))) hG (zsn_le (zsn_le (zsn_le hb))) with ⟨b', h1, h2⟩ | ⟨b', te, su, h0, h1, ⟨te1, e1, e2, e3⟩, ⟨su1, g1, g2, g3⟩, h3⟩
  · exact Or.inl ⟨b', h1, fun _ _ _ => (cif_y y).trans ((cif_y z).trans ((cif_y x).trans (h2 _ _ _)))⟩
  · have w5 := (zth_1 y.1).2.2.2
    have l6 := zWv_le (t := t) (b := b) (zen zLt t b)
    have y2 := y.2
    rw [w5, m_le (by omega) (by omega)] at y2
    refine Or.inr ⟨b', zva t b, zva t (zsn t b), zva t (zsn t (zsn t b)), te, su, by omega, h1, ⟨_, v, u, su1, te1, w5, y2, v3, v1, u3, u1, fun e => ?_, e1, e2, e3, g1, g2, g3⟩, fun _ _ _ => (cif_y y).trans ((cif_y z).trans ((cif_y x).trans (h3 _ _ _)))⟩
    exact x.2 (by rw [u3, v3, e])
theorem lnA_ok {n : Nat} {D : Nat → Nat → Int32} {w f s te su : Int32} (h : okD G n D) (k : okLn G w f s te su) : okD G (n + 1) (lnA D n w f s te su) := by
  intro i hi
  by_cases e : i = n
  · subst e
    have : lnA D i w f s te su i 0 = w ∧ lnA D i w f s te su i 1 = f ∧ lnA D i w f s te su i 2 = s ∧ lnA D i w f s te su i 3 = te ∧ lnA D i w f s te su i 4 = su := by
      refine ⟨?_, ?_, ?_, ?_, ?_⟩ <;> simp [lnA]
    rw [this.1, this.2.1, this.2.2.1, this.2.2.2.1, this.2.2.2.2]; exact k
  · have : ∀ j, lnA D n w f s te su i j = D i j := fun j => if_neg e
    rw [this, this, this, this, this]; exact h i (by omega)
theorem rdK_c (hG : G ≤ 9) : ∀ m b n D, b ≤ t.1 → okD G n D → (∃ b', b' ≤ t.1 ∧ ∀ (α : Type) (bad : Nat → α) good, rdK t G bad good m b n D = bad b') ∨ (∃ n' D', okD G n' D' ∧ n' ≤ n + m ∧ ∀ (α : Type) (bad : Nat → α) good, rdK t G bad good m b n D = good n' D') := by
  intro m
  induction m with
  | zero => intro b n D hb _; exact Or.inl ⟨b, hb, fun _ _ _ => rfl⟩
  | succ m ih =>
    intro b n D hb hD
    rcases lnK_c hG hb with ⟨b', h1, h2⟩ | ⟨b', w, f, s, te, su, h0, h1, h2, h3⟩
    · exact Or.inl ⟨b', h1, fun _ _ _ => h2 _ _ _⟩
    · by_cases q : zth t b' = 0
      · exact Or.inr ⟨n + 1, _, lnA_ok hD h2, by omega, fun _ _ _ => (h3 _ _ _).trans (cif_y q)⟩
      · by_cases q3 : zth t b' = 3
        · rcases ih (zsn t b') (n + 1) _ (zsn_le h1) (lnA_ok hD h2) with ⟨b2, g1, g2⟩ | ⟨n2, D2, g1, g3, g2⟩
          · exact Or.inl ⟨b2, g1, fun _ _ _ => (h3 _ _ _).trans ((cif_n q).trans ((cif_y q3).trans (g2 _ _ _)))⟩
          · exact Or.inr ⟨n2, D2, g1, by omega, fun _ _ _ => (h3 _ _ _).trans ((cif_n q).trans ((cif_y q3).trans (g2 _ _ _)))⟩
        · exact Or.inl ⟨b', h1, fun _ _ _ => (h3 _ _ _).trans ((cif_n q).trans (cif_n q3))⟩
/-- a text is wrong at a place, or it tells lines -/
theorem txK_c (hG : G ≤ 9) : (∃ b', b' ≤ t.1 ∧ ∀ (α : Type) (bad : Nat → α) good, txK t G bad good = bad b') ∨ (∃ n' D', okD G n' D' ∧ n' ≤ 400 ∧ ∀ (α : Type) (bad : Nat → α) good, txK t G bad good = good n' D') := by
  have hb : zen zBl t 0 ≤ t.1 := (zen_sp zBl6 _ 0 rfl).2.1 (by omega)
  have o0 : okD G 0 (fun _ _ => 0) := fun k hk => absurd hk (by omega)
  by_cases q : zth t (zen zBl t 0) = 0
  · exact Or.inr ⟨0, _, o0, by omega, fun _ _ _ => cif_y q⟩
  · rcases rdK_c hG 400 (zen zBl t 0) 0 _ hb o0 with ⟨b2, g1, g2⟩ | ⟨n2, D2, g1, g3, g2⟩
    · exact Or.inl ⟨b2, g1, fun _ _ _ => (cif_n q).trans (g2 _ _ _)⟩
    · exact Or.inr ⟨n2, D2, g1, by omega, fun _ _ _ => (cif_n q).trans (g2 _ _ _)⟩
end Cas
/-- n lines more are remembered -/
def meF (s : St) (n : Nat) (D : Nat → Nat → Int32) : St := (sG s, sN s + n, (fun k => if k < sN s then sWd s k else (D (k - sN s) 0).toNatClampNeg), (fun k => if k < sN s then sFi s k else (D (k - sN s) 1).toNatClampNeg), (fun k => if k < sN s then sSe s k else (D (k - sN s) 2).toNatClampNeg), (fun k => if k < sN s then sTe s k else (D (k - sN s) 3).toInt), (fun k => if k < sN s then sSu s k else (D (k - sN s) 4).toNatClampNeg), (fun k => if k < sN s then sFo s k else true), sCa s, sWe s)
section Mef
variable {s : St} {n : Nat} {D : Nat → Nat → Int32}
theorem meF_old {k : Nat} (hk : k < sN s) : sWd (meF s n D) k = sWd s k ∧ sFi (meF s n D) k = sFi s k ∧ sSe (meF s n D) k = sSe s k ∧ sTe (meF s n D) k = sTe s k ∧ sSu (meF s n D) k = sSu s k ∧ sFo (meF s n D) k = sFo s k := ⟨if_pos hk, if_pos hk, if_pos hk, if_pos hk, if_pos hk, if_pos hk⟩
theorem meF_new {i : Nat} (h : okLn (sG s) (D i 0) (D i 1) (D i 2) (D i 3) (D i 4)) (hG : sG s ≤ 9) : D i 0 = nI (sWd (meF s n D) (sN s + i)) ∧ D i 1 = nI (sFi (meF s n D) (sN s + i)) ∧ D i 2 = nI (sSe (meF s n D) (sN s + i)) ∧ D i 3 = zI (sTe (meF s n D) (sN s + i)) ∧ D i 4 = nI (sSu (meF s n D) (sN s + i)) ∧ sFo (meF s n D) (sN s + i) = true ∧ sWd (meF s n D) (sN s + i) ≤ 3 ∧ sFi (meF s n D) (sN s + i) < sG s ∧ sSe (meF s n D) (sN s + i) < sG s ∧ sFi (meF s n D) (sN s + i) ≠ sSe (meF s n D) (sN s + i) ∧ -1 ≤ sTe (meF s n D) (sN s + i) ∧ sTe (meF s n D) (sN s + i) < sG s ∧ 1 ≤ sSu (meF s n D) (sN s + i) ∧ sSu (meF s n D) (sN s + i) ≤ 99 := by
  have nk : ¬ sN s + i < sN s := by omega
  have e0 : sN s + i - sN s = i := by omega
  have e1 : sWd (meF s n D) (sN s + i) = (D i 0).toNatClampNeg := by show (if _ then _ else _) = _; rw [if_neg nk, e0]
  have e2 : sFi (meF s n D) (sN s + i) = (D i 1).toNatClampNeg := by show (if _ then _ else _) = _; rw [if_neg nk, e0]
  have e3 : sSe (meF s n D) (sN s + i) = (D i 2).toNatClampNeg := by show (if _ then _ else _) = _; rw [if_neg nk, e0]
  have e4 : sTe (meF s n D) (sN s + i) = (D i 3).toInt := by show (if _ then _ else _) = _; rw [if_neg nk, e0]
  have e5 : sSu (meF s n D) (sN s + i) = (D i 4).toNatClampNeg := by show (if _ then _ else _) = _; rw [if_neg nk, e0]
  have e6 : sFo (meF s n D) (sN s + i) = true := if_neg nk
  obtain ⟨w1, f1, s1, su1, te1, a1, a2, a3, a4, a5, a6, a7, a8, a9, b1, b2, b3, b4⟩ := h
  rw [e1, e2, e3, e4, e5, e6, a1, a3, a5, a8, b2, m_clamp (show w1 < 2147483648 by omega), m_clamp (show f1 < 2147483648 by omega), m_clamp (show s1 < 2147483648 by omega), m_clamp (show su1 < 2147483648 by omega), m_toI (by omega) (by omega)]
  exact ⟨rfl, rfl, rfl, rfl, rfl, rfl, a2, a4, a6, a7, a9, b1, b3, b4⟩
theorem meF_si (h : SI s) (hn : sN s + n ≤ 40) (hD : okD (sG s) n D) : SI (meF s n D) := by
  obtain ⟨h1, h2, h3, h4⟩ := h
  refine ⟨h1, hn, fun k hk => ?_, h4⟩
  have hk : k < sN s + n := hk
  by_cases q : k < sN s
  · obtain ⟨o1, o2, o3, o4, o5, o6⟩ := meF_old (n := n) (D := D) q
    rw [o1, o2, o3, o4, o5]
    exact h3 k q
  · obtain ⟨i, rfl⟩ : ∃ i, k = sN s + i := ⟨k - sN s, by omega⟩
    obtain ⟨_, _, _, _, _, _, c⟩ := meF_new (n := n) (hD i (by omega)) h1
    exact c
theorem meF_fm : fm (meF s (n + 1) D) = fm (meF s n D) ||| 2 ^ (sN s + n) := by
  show bmk (fun k => if k < sN s then sFo s k else true) (sN s + n + 1) = bmk (fun k => if k < sN s then sFo s k else true) (sN s + n) ||| 2 ^ (sN s + n)
  rw [← bmk_or, if_neg (by omega)]
  simp
end Mef
