/-! TWICE by the class: what is given, is tried -/
def pt (M : Nat → Nat) (a b : Nat) : Nat → Nat := fun i => if i = a then nAn (M a) (2 ^ b) else if i = b then nAn (M b) (2 ^ a) else M i
theorem pt_eo {M : Nat → Nat} {a b i j : Nat} (hab : a ≠ b) : Eo (pt M a b) i j ↔ Eo M i j ∧ ¬ (i = a ∧ j = b) ∧ ¬ (i = b ∧ j = a) := by
  have nb : ∀ S c, (nAn S (2 ^ c)).testBit j = true ↔ S.testBit j = true ∧ ¬ j = c := fun S c => by
    rw [nAn_bit, Nat.testBit_two_pow, Bool.and_eq_true, Bool.not_eq_true', decide_eq_false_iff_not]
    exact ⟨fun q => ⟨q.1, fun e => q.2 e.symm⟩, fun q => ⟨q.1, fun e => q.2 e.symm⟩⟩
  unfold Eo pt
  by_cases h1 : i = a
  · subst h1
    rw [if_pos rfl, nb]
    exact ⟨fun q => ⟨q.1, fun e => q.2 e.2, fun e => hab e.1⟩, fun q => ⟨q.1, fun e => q.2.1 ⟨rfl, e⟩⟩⟩
  · rw [if_neg h1]
    by_cases h2 : i = b
    · subst h2
      rw [if_pos rfl, nb]
      exact ⟨fun q => ⟨q.1, fun e => h1 e.1, fun e => q.2 e.2⟩, fun q => ⟨q.1, fun e => q.2.2 ⟨rfl, e⟩⟩⟩
    · rw [if_neg h2]
      exact ⟨fun q => ⟨q, fun e => h1 e.1, fun e => h2 e.1⟩, fun q => q.1⟩
theorem pt_le {M : Nat → Nat} {a b : Nat} (i : Nat) : pt M a b i ≤ M i := by
  unfold pt
  split
  · next h => subst h; exact nAn_le _ _
  · split
    · next h => subst h; exact nAn_le _ _
    · exact Nat.le_refl _
theorem pt_gm {w a b : Nat} {M : Nat → Nat} (h : GM w M) (hab : a ≠ b) : GM w (pt M a b) := by
  intro i j e
  obtain ⟨q1, q2, q3⟩ := (pt_eo hab).mp e
  obtain ⟨h1, h2, h3, h4⟩ := h i j q1
  exact ⟨h1, h2, h3, (pt_eo hab).mpr ⟨h4, fun z => q3 ⟨z.2, z.1⟩, fun z => q2 ⟨z.2, z.1⟩⟩⟩
theorem X4_part_s {Q : Qt} {w : Nat} {r : Ly} {X : HX} {Y : HY} {M : Nat → Nat} {a b : Nat} (hw : w ≤ 60) (hX : X 0 2 = nI w) (hM : ∀ i, i < w → Y 1 i = lN (M i)) (ha : a < w) (hb : b < w) (hab : a ≠ b) (k : ∀ Y', (∀ c, c ≠ 1 → Y' c = Y c) → (∀ i, i < w → Y' 1 i = lN (pt M a b i)) → Q (.inl none) (LX4 w ++ r) X Y') : tX4_part [.ref 0, .int (nI a), .int (nI b)] (LX4 w ++ r) X Y Q := by
  apply tX4_part_i
  rw [hX]
  simp (disch := omega) only [m_0, m_L0, m_lt, m_le, m_eq, m_neg, m_in, m_clamp, m_add, m_sub, m_pred, m_mul, m_l, m_i, m_Land, m_Lor, m_and, m_or, m_xor, m_Landn, m_andn, m_LshlP, m_shl, m_LbitP, m_bit, m_cmp0P, m_Lb0, m_Lb1, m_b0, m_b1, Nat.one_mul, hM a ha, up2_idx, hM b hb]
  refine ⟨fun h => by omega, fun _ => ⟨fun h => by omega, fun _ => ⟨fun h => by omega, fun _ => ⟨fun h => by omega, fun _ => ⟨ha, ha, hb, hb, k _ (fun c hc => by rw [up2_row hc, up2_row hc]) (fun i hi => ?_)⟩⟩⟩⟩⟩
  unfold pt
  by_cases h2 : i = b
  · subst h2
    rw [up2_same, if_neg (fun q => hab q.symm), if_pos rfl]
  · rw [up2_idx h2]
    by_cases h1 : i = a
    · subst h1; rw [up2_same, if_pos rfl]
    · rw [up2_idx h1, if_neg h1, if_neg h2]; exact hM i hi
/-- the trial with what was given to those of A -/
def twI (E : Nat → Nat → Prop) (g : Nat) (T : Nat → Nat) (A : Nat → Prop) (D : Nat → Nat) : Prop := GM 10 T ∧ (∀ i, T i < 1024) ∧ (∀ a b, a ≠ g → a ≠ 9 → b ≠ g → b ≠ 9 → (Eo T a b ↔ E a b)) ∧ ¬ Eo T g 9 ∧ (∀ a, A a → a ≠ g → a ≠ 9 → (Eo T g a ↔ E g a ∧ D a ≠ 1) ∧ (Eo T 9 a ↔ E g a ∧ D a ≠ 0)) ∧ ∀ y, ¬ A y → ¬ Eo T 9 y
section TwI
variable {E : Nat → Nat → Prop} {g n d x : Nat} {T T1 : Nat → Nat} {A : Nat → Prop} {D : Nat → Nat}
theorem twI_tE (h : twI E g T A D) (hg : g ≠ 9) {a b : Nat} (ha : A a) (hb : A b) : Eo T a b ↔ tE E g 9 D a b := by
  obtain ⟨gm, -, h3, h4, h5, -⟩ := h
  have sy : ∀ a b, Eo T a b → Eo T b a := fun a b e => (gm a b e).2.2.2
  have ir : ∀ a, ¬ Eo T a a := fun a e => (gm a a e).2.2.1 rfl
  have h4' : ¬ Eo T 9 g := fun e => h4 (sy _ _ e)
  have hg' : ¬ (9 : Nat) = g := fun e => hg e.symm
  unfold tE
  by_cases a1 : a = g
  · subst a1
    by_cases b1 : b = a
    · subst b1
      have := ir b
      simp_all
    · by_cases b2 : b = 9
      · subst b2; simp_all
      · have := (h5 b hb b1 b2).1
        simp_all
  · by_cases a2 : a = 9
    · subst a2
      by_cases b1 : b = g
      · subst b1; simp_all
      · by_cases b2 : b = 9
        · subst b2; have := ir 9; simp_all
        · have := (h5 b hb b1 b2).2
          simp_all
    · by_cases b1 : b = g
      · subst b1
        have q := (h5 a ha a1 a2).1
        have e : Eo T a b ↔ Eo T b a := ⟨sy _ _, sy _ _⟩
        rw [e, q]; simp_all
      · by_cases b2 : b = 9
        · subst b2
          have q := (h5 a ha a1 a2).2
          have e : Eo T a 9 ↔ Eo T 9 a := ⟨sy _ _, sy _ _⟩
          rw [e, q]; simp_all
        · have := h3 a b a1 a2 b1 b2
          simp_all
theorem twI_can (h : twI E g T A D) (hg : g ≠ 9) : CL (Eo T) A ↔ CL (tE E g 9 D) A := ⟨fun q => q.cong (fun a b ha hb => twI_tE h hg ha hb), fun q => q.cong (fun a b ha hb => (twI_tE h hg ha hb).symm)⟩
/-- something is given to one more -/
theorem twI_ext (h : twI E g T A D) (hx : ¬ A x) (hg : g ≠ 9) (x1 : x ≠ g) (x2 : x ≠ 9) (gm : GM 10 T1) (lt : ∀ i, T1 i < 1024) (h1 : ∀ a b, (a ≠ x ∧ b ≠ x) ∨ (a ≠ g ∧ a ≠ 9 ∧ b ≠ g ∧ b ≠ 9) → (Eo T1 a b ↔ Eo T a b)) (hgx : Eo T1 g x ↔ E g x ∧ d ≠ 1) (h9x : Eo T1 9 x ↔ E g x ∧ d ≠ 0) : twI E g T1 (fun v => A v ∨ v = x) (upD D x d) := by
  obtain ⟨-, -, h3, h4, h5, h6⟩ := h
  have gx : g ≠ x := fun e => x1 e.symm
  have x9 : (9 : Nat) ≠ x := fun e => x2 e.symm
  refine ⟨gm, lt, fun a b q1 q2 q3 q4 => (h1 a b (Or.inr ⟨q1, q2, q3, q4⟩)).trans (h3 a b q1 q2 q3 q4), fun e => h4 ((h1 g 9 (Or.inl ⟨gx, x9⟩)).mp e), fun a ha q1 q2 => ?_, fun y hy e => ?_⟩
  · by_cases e : a = x
    · subst e
      have : upD D a d a = d := if_pos rfl
      rw [this]; exact ⟨hgx, h9x⟩
    · have : upD D x d a = D a := if_neg e
      rw [this, h1 g a (Or.inl ⟨gx, e⟩), h1 9 a (Or.inl ⟨x9, e⟩)]
      exact h5 a (ha.elim id (fun q => absurd q e)) q1 q2
  · have ne : y ≠ x := fun q => hy (Or.inr q)
    exact h6 y (fun q => hy (Or.inl q)) ((h1 9 y (Or.inl ⟨x9, ne⟩)).mp e)
theorem twI_e0 (h : twI E g T A D) (hx : ¬ A x) (hg : g < 9) (x1 : x ≠ g) (x2 : x < 9) (ex : E g x) : twI E g (jn T g x) (fun v => A v ∨ v = x) (upD D x 0) := by
  have gx : g ≠ x := fun e => x1 e.symm
  refine twI_ext h hx (by omega) x1 (by omega) (jn_gm h.1 (by omega) (by omega) gx) (jn_lt (n := 10) h.2.1 (by omega) (by omega)) (fun a b q => ?_) ?_ ?_
  · rw [jn_eo gx]
    exact ⟨fun z => z.elim id (fun z => by omega), Or.inl⟩
  · rw [jn_eo gx]
    exact ⟨fun _ => ⟨ex, by omega⟩, fun _ => Or.inr (Or.inl ⟨rfl, rfl⟩)⟩
  · rw [jn_eo gx]
    have := h.2.2.2.2.2 x hx
    exact ⟨fun z => z.elim (fun e => absurd e this) (fun z => by omega), fun z => absurd rfl z.2⟩
theorem twI_e2 (h : twI E g T A D) (hx : ¬ A x) (hg : g < 9) (x1 : x ≠ g) (x2 : x < 9) (ex : E g x) : twI E g (jn (jn T g x) 9 x) (fun v => A v ∨ v = x) (upD D x 2) := by
  have gx : g ≠ x := fun e => x1 e.symm
  have x9 : (9 : Nat) ≠ x := by omega
  refine twI_ext h hx (by omega) x1 (by omega) (jn_gm (jn_gm h.1 (by omega) (by omega) gx) (by omega) (by omega) x9) (jn_lt (n := 10) (jn_lt (n := 10) h.2.1 (by omega) (by omega)) (by omega) (by omega)) (fun a b q => ?_) ?_ ?_
  · rw [jn_eo x9, jn_eo gx]
    exact ⟨fun z => z.elim (fun z => z.elim id (fun z => by omega)) (fun z => by omega), fun z => Or.inl (Or.inl z)⟩
  · rw [jn_eo x9, jn_eo gx]
    exact ⟨fun _ => ⟨ex, by omega⟩, fun _ => Or.inl (Or.inr (Or.inl ⟨rfl, rfl⟩))⟩
  · rw [jn_eo x9, jn_eo gx]
    exact ⟨fun _ => ⟨ex, by omega⟩, fun _ => Or.inr (Or.inl ⟨rfl, rfl⟩)⟩
theorem twI_e1 (h : twI E g T A D) (hx : ¬ A x) (hg : g < 9) (x1 : x ≠ g) (x2 : x < 9) (ex : E g x) (ng : ¬ Eo T g x) : twI E g (jn T 9 x) (fun v => A v ∨ v = x) (upD D x 1) := by
  have gx : g ≠ x := fun e => x1 e.symm
  have x9 : (9 : Nat) ≠ x := by omega
  refine twI_ext h hx (by omega) x1 (by omega) (jn_gm h.1 (by omega) (by omega) x9) (jn_lt (n := 10) h.2.1 (by omega) (by omega)) (fun a b q => ?_) ?_ ?_
  · rw [jn_eo x9]
    exact ⟨fun z => z.elim id (fun z => by omega), Or.inl⟩
  · rw [jn_eo x9]
    exact ⟨fun z => z.elim (fun e => absurd e ng) (fun z => by omega), fun z => absurd rfl z.2⟩
  · rw [jn_eo x9]
    exact ⟨fun _ => ⟨ex, by omega⟩, fun _ => Or.inr (Or.inl ⟨rfl, rfl⟩)⟩
/-- what was given to it, is taken back -/
theorem twI_back (h : twI E g T (fun v => A v ∨ v = x) (upD D x d)) (hx : ¬ A x) (hg : g < 9) (x1 : x ≠ g) (x2 : x < 9) : twI E g (pt (pt T g x) 9 x) A D ∧ ¬ Eo (pt (pt T g x) 9 x) g x := by
  have gx : g ≠ x := fun e => x1 e.symm
  have x9 : (9 : Nat) ≠ x := by omega
  obtain ⟨gm, lt, h3, h4, h5, h6⟩ := h
  refine ⟨⟨pt_gm (pt_gm gm gx) x9, fun i => Nat.lt_of_le_of_lt (pt_le i) (Nat.lt_of_le_of_lt (pt_le i) (lt i)), fun a b q1 q2 q3 q4 => ?_, fun e => ?_, fun a ha q1 q2 => ?_, fun y hy e => ?_⟩, fun e => ?_⟩
  · rw [pt_eo x9, pt_eo gx, ← h3 a b q1 q2 q3 q4]
    exact ⟨fun z => z.1.1, fun z => ⟨⟨z, by omega, by omega⟩, by omega, by omega⟩⟩
  · exact h4 ((pt_eo gx).mp ((pt_eo x9).mp e).1).1
  · have ax : a ≠ x := fun e => hx (e ▸ ha)
    have h7 := h5 a (Or.inl ha) q1 q2
    have : upD D x d a = D a := if_neg ax
    rw [this] at h7
    rw [← h7.1, ← h7.2, pt_eo x9, pt_eo gx, pt_eo x9, pt_eo gx]
    exact ⟨⟨fun z => z.1.1, fun z => ⟨⟨z, by omega, by omega⟩, by omega, by omega⟩⟩, ⟨fun z => z.1.1, fun z => ⟨⟨z, by omega, by omega⟩, by omega, by omega⟩⟩⟩
  · obtain ⟨e1, e2, e3⟩ := (pt_eo x9).mp e
    by_cases q : y = x
    · exact e2 ⟨rfl, q⟩
    · exact h6 y (fun z => z.elim hy q) ((pt_eo gx).mp e1).1
  · exact ((pt_eo gx).mp ((pt_eo x9).mp e).1).2.1 ⟨rfl, rfl⟩
/-- at first the comings are alike -/
theorem tw_first (hg : g < n) (hz : n ≤ 9) (hA : ∀ a, A a → ¬ E g a) (hx : ¬ A x) (hD : ∀ a, D a ≤ 2) (h : twR E g 9 n (fun v => A v ∨ v = x) (upD D x 1)) : twR E g 9 n (fun v => A v ∨ v = x) (upD D x 0) := by
  obtain ⟨D', h1, h2, h3⟩ := h
  have h4 := tw_swap hg hz h3
  have hd : D' x = 1 := (h2 x (Or.inr rfl)).trans (if_pos rfl)
  have e1 : ∀ a, A a → @ite Nat (A a) (Classical.propDecidable _) (D a) (if D' a = 0 then 1 else if D' a = 1 then 0 else D' a) = D a := fun a q => if_pos q
  have e2 : ∀ a, ¬ A a → @ite Nat (A a) (Classical.propDecidable _) (D a) (if D' a = 0 then 1 else if D' a = 1 then 0 else D' a) = (if D' a = 0 then 1 else if D' a = 1 then 0 else D' a) := fun a q => if_neg q
  refine ⟨fun a => @ite Nat (A a) (Classical.propDecidable _) (D a) (if D' a = 0 then 1 else if D' a = 1 then 0 else D' a), fun a => ?_, fun a ha => ?_, h4.cong (fun a b _ _ => tE_D (fun y hy => (e2 y (fun q => hA y q hy)).symm))⟩
  · by_cases q : A a
    · exact Nat.le_trans (Nat.le_of_eq (e1 a q)) (hD a)
    · refine Nat.le_trans (Nat.le_of_eq (e2 a q)) ?_
      have := h1 a
      split
      · omega
      · split <;> omega
  · by_cases e : a = x
    · subst e
      refine (e2 a hx).trans ?_
      rw [hd]
      exact (if_pos rfl : upD D a 0 a = 0).symm
    · have ha : A a := ha.elim id (fun q => absurd q e)
      exact (e1 a ha).trans (if_neg e : upD D x 0 a = D a).symm
end TwI
