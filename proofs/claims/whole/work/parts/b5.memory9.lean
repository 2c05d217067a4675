/-! memory, by the reference -/
/-- cell 6 and places of cell 0 alone have changed -/
def B9 (X X' : HX) : Prop := (∀ c, c ≠ 0 → c ≠ 6 → X' c = X c) ∧ ∀ i, i ∉ [0, 7, 8, 9, 10, 12, 28] → X' 0 i = X 0 i
theorem B9.rfl {X : HX} : B9 X X := ⟨fun _ _ _ => Eq.refl _, fun _ _ => Eq.refl _⟩
theorem B9.trans {X X1 X2 : HX} (h : B9 X X1) (k : B9 X1 X2) : B9 X X2 := ⟨fun c hc hd => (k.1 c hc hd).trans (h.1 c hc hd), fun i hi => (k.2 i hi).trans (h.2 i hi)⟩
theorem B9.up {X : HX} {i : Nat} {v : Int32} (hi : i ∈ [0, 7, 8, 9, 10, 12, 28]) : B9 X (up2 X 0 i v) := ⟨fun c hc _ => up2_row hc, fun j hj => up2_idx (fun e => hj (e ▸ hi))⟩
theorem L9.b {n : Nat} {X X' : HX} (h : L9 n X X') : B9 X X' := ⟨h.1, fun i hi => h.2.1 i (fun e => by subst e; simp at hi) (fun e => by subst e; simp at hi) (fun e => by subst e; simp at hi)⟩
theorem G9.b {X X' : HX} (h : G9 X X') : B9 X X' := ⟨fun c hc _ => h.1 c hc, fun i hi => h.2 i (fun e => by subst e; simp at hi)⟩
/-- the drafts -/
def DV9 (n : Nat) (D : Nat → Nat → Int32) (X : HX) : Prop := ∀ k, k < n → X 6 (6 * k) = D k 0 ∧ X 6 (6 * k + 1) = D k 1 ∧ X 6 (6 * k + 2) = D k 2 ∧ X 6 (6 * k + 3) = D k 3 ∧ X 6 (6 * k + 4) = D k 4 ∧ X 6 (6 * k + 5) = nI 1
theorem DV9.of {n : Nat} {D : Nat → Nat → Int32} {X X' : HX} (h : DV9 n D X) (e : ∀ k, k < 6 * n → X' 6 k = X 6 k) : DV9 n D X' := fun k hk => by
  rw [e _ (by omega), e _ (by omega), e _ (by omega), e _ (by omega), e _ (by omega), e _ (by omega)]; exact h k hk
/-- what memory may do -/
def MK9 (t : Tp) (N : Nat) (X : HX) (Y : HY) (Q : Qt) (r : Ly) (PB : Nat → Prop) (PG : Nat → (Nat → Nat → Int32) → Prop) : Prop :=
  (∀ X' b', B9 X X' → PB b' → b' ≤ t.1 → X' 0 10 = nI b' → X' 0 0 = nI 1 → X' 0 28 = X 0 28 → X' 0 7 = X 0 7 → Q (.inl (some (.int (nI 0)))) (LX9 ++ r) X' Y) ∧ (∀ X' n D, B9 X X' → PG n D → ¬ N + n ≤ 40 → X' 0 10 = -1 → X' 0 0 = nI 2 → X' 0 28 = X 0 28 → X' 0 7 = X 0 7 → Q (.inl (some (.int (nI 0)))) (LX9 ++ r) X' Y) ∧ (∀ X1 X' n D, B9 X X1 → PG n D → N + n ≤ 40 → DV9 n D X1 → (∀ c, c ≠ 0 → c ≠ 1 → X' c = X1 c) → (∀ i, i ≠ 28 → X' 0 i = X1 0 i) → X1 0 10 = -1 → X1 0 0 = nI 0 → X1 0 7 = X 0 7 → X' 0 28 = nI 0 → X' 1 1 = nI (N + n) → (∀ k, k < 6 * n → X' 1 (2 + 6 * N + k) = X1 6 k) → (∀ i, i ≠ 1 → (i < 2 + 6 * N ∨ 2 + 6 * N + 6 * n ≤ i) → X' 1 i = X1 1 i) → Q (.inl (some (.int (nI n)))) (LX9 ++ r) X' Y)
section Mem9
variable {t : Tp} {X X' : HX} {Y : HY} {Q : Qt} {r : Ly} {p b n G N : Nat} {D : Nat → Nat → Int32} {PB : Nat → Prop} {PG : Nat → (Nat → Nat → Int32) → Prop}
theorem MK9.to (h : MK9 t N X Y Q r PB PG) (m : B9 X X') (e1 : X' 0 28 = X 0 28) (e2 : X' 0 7 = X 0 7) : MK9 t N X' Y Q r PB PG := ⟨fun X2 b2 l p1 p2 p3 p4 p5 p6 => h.1 X2 b2 (m.trans l) p1 p2 p3 p4 (p5.trans e1) (p6.trans e2), fun X2 n D l p1 p2 p3 p4 p5 p6 => h.2.1 X2 n D (m.trans l) p1 p2 p3 p4 (p5.trans e1) (p6.trans e2), fun X1 X2 n D l p1 p2 p3 p4 p5 p6 p7 p8 => h.2.2 X1 X2 n D (m.trans l) p1 p2 p3 p4 p5 p6 p7 (p8.trans e2)⟩
theorem copy_go {X1 : HX} (hn : N + n ≤ 40) (h12 : X1 0 12 = nI n) (hN : X1 1 1 = nI N) (k : ∀ X', (∀ c, c ≠ 0 → c ≠ 1 → X' c = X1 c) → (∀ i, i ≠ 28 → X' 0 i = X1 0 i) → X' 0 28 = nI 0 → X' 1 1 = nI (N + n) → (∀ k, k < 6 * n → X' 1 (2 + 6 * N + k) = X1 6 k) → (∀ i, i ≠ 1 → (i < 2 + 6 * N ∨ 2 + 6 * N + 6 * n ≤ i) → X' 1 i = X1 1 i) → Q (.inl (some (.int (nI n)))) (LX9 ++ r) X' Y) : ∀ m i X, 6 * n - i = m → i ≤ 6 * n → (∀ c, c ≠ 1 → X c = X1 c) → (∀ k, k < i → X 1 (2 + 6 * N + k) = X1 6 k) → (∀ j, (j < 2 + 6 * N ∨ 2 + 6 * N + i ≤ j) → X 1 j = X1 1 j) → hX9_memory_174 Q r (nI i) X Y := by
  intro m
  induction m with
  | zero =>
    intro i X em hi f g u
    have e : i = 6 * n := by omega
    subst e
    apply hX9_memory_174_i
    have x0 : X 0 = X1 0 := f 0 (by omega)
    have x1 : X 1 1 = nI N := (u 1 (by omega)).trans hN
    rw [m_clamp (show 1 < 2147483648 by omega), x0, h12, x1, m_mul, m_le (by omega) (by omega), m_add N n]
    refine ⟨fun _ => ⟨(m_in (by omega)).mpr (by omega), (m_in (by omega)).mpr (by omega), (by first | exact Or.inl rfl | exact Or.inr rfl | exact Or.inl trivial | exact Or.inr trivial), ?_⟩, fun q => absurd (Nat.le_refl _) q⟩
    have e12 : up2 (up2 X 1 1 (nI (N + n))) 0 28 (nI 0) 0 12 = nI n := by rw [up2_idx (by omega), up2_out (by omega), x0]; exact h12
    rw [e12]
    refine k _ (fun c hc hd => ?_) (fun i hi => ?_) up2_same ?_ (fun j hj => ?_) (fun j hj hd => ?_)
    · rw [up2_row hc, up2_row hd]; exact f c hd
    · rw [up2_idx hi, up2_out (by omega), x0]
    · rw [up2_out (by omega), up2_same]
    · rw [up2_out (by omega), up2_idx (by omega)]; exact g j hj
    · rw [up2_out (by omega), up2_idx hj]; exact u j (by omega)
  | succ m ih =>
    intro i X em hi f g u
    apply hX9_memory_174_i
    have x0 : X 0 = X1 0 := f 0 (by omega)
    have x1 : X 1 1 = nI N := (u 1 (by omega)).trans hN
    have x6 : X 6 = X1 6 := f 6 (by omega)
    rw [m_clamp (show 1 < 2147483648 by omega), x0, h12, x1, m_mul, m_le (by omega) (by omega), m_mul, m_add 2, m_add _ i, m_clamp (show 2 + 6 * N + i < 2147483648 by omega), m_clamp (show i < 2147483648 by omega), x6, m_add i 1]
    refine ⟨fun q => absurd q (by omega), fun _ => ⟨(m_in (by omega)).mpr (by omega), (m_in (by omega)).mpr (by omega), (m_in (by omega)).mpr (by omega), ?_⟩⟩
    refine ih (i + 1) _ (by omega) (by omega) (fun c hc => (up2_row hc).trans (f c hc)) (fun j hj => ?_) (fun j hj => ?_)
    · by_cases e : j = i
      · subst e; exact up2_same
      · rw [up2_idx (by omega)]; exact g j (by omega)
    · rw [up2_idx (by omega)]; exact u j (by omega)
theorem n1le : ¬ nI 1 ≤ (0 : Int32) := by decide
theorem n2le : ¬ nI 2 ≤ (0 : Int32) := by decide
theorem n0le : nI 0 ≤ (0 : Int32) := by decide
/-- a fault ends it -/
theorem m49_bad {v : Int32} {f : Nat} (k : MK9 t N X Y Q r PB PG) (hf : f ≤ t.1) (t4 : t.1 ≤ 400) (pf : PB f) (h10 : X 0 10 = nI f) : hX9_memory_49 Q r v X Y := by
  have ne : ¬ X 0 10 = -1 := by rw [h10, m_neg (by omega)]; exact fun z => z
  have fin : (((up2 X 0 0 (nI 1)) 0 0) ≤ 0 → hX9_memory_174 Q r (nI 0) (up2 X 0 0 (nI 1)) Y) ∧ (¬ (((up2 X 0 0 (nI 1)) 0 0) ≤ 0) → Q (.inl (some (.int (nI 0)))) (LX9 ++ r) (up2 X 0 0 (nI 1)) Y) := by
    rw [up2_same]
    exact ⟨fun z => absurd z n1le, fun _ => k.1 _ f (.up (by decide)) pf hf (by rw [up2_idx (by omega)]; exact h10) up2_same (up2_idx (by omega)) (up2_idx (by omega))⟩
  apply hX9_memory_49_i
  exact ⟨fun _ => ⟨fun z => absurd z ne, fun _ => fin⟩, fun _ => ⟨fun _ => ⟨fun z => absurd z ne, fun _ => fin⟩, fun z => absurd ne z⟩⟩
/-- the text has ended -/
theorem m49_end (k : MK9 t N X Y Q r PB PG) (hN : N ≤ 40) (hn : n ≤ 400) (pg : PG n D) (h10 : X 0 10 = -1) (h12 : X 0 12 = nI n) (h11 : X 1 1 = nI N) (dv : DV9 n D X) : hX9_memory_49 Q r (nI 0) X Y := by
  apply hX9_memory_49_i
  refine ⟨fun _ => ⟨fun _ => ⟨(m_in (by omega)).mpr (by omega), ?_⟩, fun z => absurd h10 z⟩, fun z => absurd rfl z⟩
  rw [m_clamp (show 1 < 2147483648 by omega), h11, h12, m_add, m_le (by omega) (by omega), up2_same, up2_same]
  refine ⟨fun w => ⟨fun _ => ?_, fun z => absurd n0le z⟩, fun w => ⟨fun z => absurd z n2le, fun _ => k.2.1 _ n D (.up (by decide)) pg w (by rw [up2_idx (by omega)]; exact h10) up2_same (up2_idx (by omega)) (up2_idx (by omega))⟩⟩
  refine copy_go (X1 := up2 X 0 0 (nI 0)) (N := N) (n := n) w (by rw [up2_idx (by omega)]; exact h12) (by rw [up2_out (by omega)]; exact h11) (fun X2 u1 u2 u3 u4 u5 u6 => ?_) _ 0 _ rfl (by omega) (fun _ _ => rfl) (fun k hk => absurd hk (by omega)) (fun _ _ => rfl)
  exact k.2.2 (up2 X 0 0 (nI 0)) X2 n D (.up (by decide)) pg w (dv.of (fun k _ => up2_out (by omega))) u1 u2 (by rw [up2_idx (by omega)]; exact h10) up2_same (up2_idx (by omega)) u3 u4 u5 u6
theorem m49_go (hG : G ≤ 9) (hN : N ≤ 40) : ∀ m b n D X p, n + m = 400 → 6 * n ≤ b → b ≤ t.1 → MK9 t N X Y Q r PB PG → Ln9 t G n X → X 0 10 = -1 → X 0 9 = nI p → p ≤ t.1 → zen zBl t p = b → X 1 1 = nI N → DV9 n D X → rdK t G PB PG m b n D → hX9_memory_49 Q r (nI 1) X Y := by
  intro m
  induction m with
  | zero =>
    intro b n D X p en hb hbt k h h10 h9 hp ez h11 dv pp
    have t4 := h.1.1
    omega
  | succ m ih =>
    intro b n D X p en hb hbt k h h10 h9 hp ez h11 dv pp
    have t4 := h.1.1
    apply hX9_memory_49_i
    refine ⟨fun z => absurd z n1_0, fun _ => ⟨fun z => absurd h10 z, fun _ => ?_⟩⟩
    have go : lnK t G b PB (fun b' w f s te su => b + 5 ≤ b' ∧ b' ≤ t.1 ∧ cif (zth t b' = 0) (PG (n + 1) (lnA D n w f s te su)) (cif (zth t b' = 3) (rdK t G PB PG m (zsn t b') (n + 1) (lnA D n w f s te su)) (PB b'))) := by
      have pp : lnK t G b PB (fun b' w f s te su => cif (zth t b' = 0) (PG (n + 1) (lnA D n w f s te su)) (cif (zth t b' = 3) (rdK t G PB PG m (zsn t b') (n + 1) (lnA D n w f s te su)) (PB b'))) := pp
      rcases lnK_c (t := t) (b := b) hG hbt with ⟨b', h1, h2⟩ | ⟨b', w, f, s, te, su, h0, h1, h2, h3⟩
      · rw [h2 Prop] at pp ⊢; exact pp
      · rw [h3 Prop] at pp ⊢; exact ⟨h0, h1, pp⟩
    have l12 : ∀ X' : HX, L9 n X X' → X' 1 1 = nI N ∧ X' 1 0 = nI G ∧ TR9 X' t ∧ X' 0 28 = X 0 28 ∧ X' 0 7 = X 0 7 := fun X' l => ⟨by rw [l.1 1 (by omega) (by omega)]; exact h11, by rw [l.1 1 (by omega) (by omega)]; exact h.2.1, h.1.eq (l.2.1 8 (by omega) (by omega) (by omega)) (l.1 5 (by omega) (by omega)), l.2.1 28 (by omega) (by omega) (by omega), l.2.1 7 (by omega) (by omega) (by omega)⟩
    refine X9_line_s hG (by omega) ⟨fun X2 b2 p2 l pb hb2 f2 e2 hp2 c12 => cK0_mk ?_, fun X2 b2 p2 w f s te su l pg f2 e2 hp2 z2 c12 c6 => cK0_mk ?_⟩ h h10 h9 hp ez go
    · obtain ⟨a1, a2, a3, a4, a5⟩ := l12 X2 l
      refine X9_skip_s hp2 a3 e2 (fun X3 g3 e3 => cK0_mk ?_)
      have f3 : X3 0 10 = nI b2 := (g3.2 10 (by omega)).trans f2
      have ne : ¬ X3 0 10 = -1 := by rw [f3, m_neg (by omega)]; exact fun z => z
      exact ⟨fun _ => m49_bad (k.to (l.b.trans g3.b) ((g3.2 28 (by omega)).trans a4) ((g3.2 7 (by omega)).trans a5)) hb2 t4 pb f3, fun z => absurd ne z⟩
    · obtain ⟨hb5, hb2, pg⟩ := pg
      obtain ⟨a1, a2, a3, a4, a5⟩ := l12 X2 l
      refine X9_skip_s hp2 a3 e2 (fun X3 g3 e3 => cK0_mk ?_)
      rw [z2] at e3
      have f3 : X3 0 10 = -1 := (g3.2 10 (by omega)).trans f2
      have b3 := l.b.trans g3.b
      have k3 := k.to b3 ((g3.2 28 (by omega)).trans a4) ((g3.2 7 (by omega)).trans a5)
      have t3 := a3.g g3
      have c3 : X3 0 12 = nI (n + 1) := (g3.2 12 (by omega)).trans c12
      have s3 : X3 1 1 = nI N := by rw [g3.1 1 (by omega)]; exact a1
      have d3 : DV9 (n + 1) (lnA D n w f s te su) X3 := by
        intro i hi
        rw [g3.1 6 (by omega)]
        by_cases e : i = n
        · subst e
          rw [c6.1, c6.2.1, c6.2.2.1, c6.2.2.2.1, c6.2.2.2.2.1, c6.2.2.2.2.2]
          refine ⟨?_, ?_, ?_, ?_, ?_, rfl⟩ <;> simp [lnA]
        · have o : ∀ j, lnA D n w f s te su i j = D i j := fun j => if_neg e
          rw [o, o, o, o, o, l.2.2 _ (by omega), l.2.2 _ (by omega), l.2.2 _ (by omega), l.2.2 _ (by omega), l.2.2 _ (by omega), l.2.2 _ (by omega)]
          exact dv i (by omega)
      refine ⟨fun z => absurd f3 z, fun _ => ?_⟩
      rw [e3, t3.2.1, m_eq (by omega) (by omega)]
      by_cases q0 : zth t b2 = 0
      · rw [cif_y q0] at pg
        have := zth_0.mp q0
        exact ⟨fun z => absurd (show b2 = t.1 by omega) z, fun _ => m49_end k3 hN (by omega) pg f3 c3 s3 d3⟩
      rw [cif_n q0] at pg
      have nb : b2 ≠ t.1 := fun z => q0 (zth_0.mpr (by omega))
      refine ⟨fun _ => ?_, fun z => absurd nb z⟩
      refine X9_isSign_s hb2 t3 e3 (fun X4 g4 e4 => cK1_mk ?_)
      have zz : zen zBl t b2 = b2 := by rw [← z2]; exact zen_zen
      rw [zz] at e4 ⊢
      have f4 : X4 0 10 = -1 := (g4.2 10 (by omega)).trans f3
      have k4 := k3.to g4.b (g4.2 28 (by omega)) (g4.2 7 (by omega))
      by_cases q3 : zth t b2 = 3
      · rw [cif_y q3] at pg
        rw [iB_y q3]
        refine ⟨fun z => absurd z n1_0, fun _ => ?_⟩
        rw [e4, m_add b2 1]
        have z3 := zth_3 q3
        have ez : zen zBl t (b2 + 1) = zsn t b2 := by unfold zsn; rw [z3.2.2]
        have g5 : G9 X4 (up2 X4 0 9 (nI (b2 + 1))) := .up
        have g35 := g4.trans g5
        have sb1 : b2 + 1 ≤ zsn t b2 := by rw [← ez]; exact (zen_sp zBl6 _ _ rfl).1
        refine ih (zsn t b2) (n + 1) _ _ (b2 + 1) (by omega) (by omega) (zsn_le hb2) (k4.to g5.b (g5.2 28 (by omega)) (g5.2 7 (by omega))) ⟨t3.g g35, by rw [g35.1 1 (by omega), g3.1 1 (by omega)]; exact a2, (g35.2 12 (by omega)).trans c3⟩ ((g5.2 10 (by omega)).trans f4) up2_same (by omega) ez (by rw [g35.1 1 (by omega)]; exact s3) (d3.of (fun i _ => by rw [g35.1 6 (by omega)])) pg
      · rw [cif_n q3] at pg
        rw [iB_n q3]
        refine ⟨fun _ => ?_, fun z => absurd rfl z⟩
        rw [e4]
        exact X9_wrong_s f4 (cK0_mk (m49_bad (f := b2) (k4.to (.up (by decide)) (up2_idx (by omega)) (up2_idx (by omega))) hb2 t4 pg up2_same))
theorem X9_text_s (hG : G ≤ 9) (hN : N ≤ 40) (ht : TV9 X t) (hg : X 1 0 = nI G) (h11 : X 1 1 = nI N) (k : ∀ X1, B9 X X1 → X1 0 28 = X 0 28 → X1 0 7 = nI 0 → MK9 t N X1 Y Q r PB PG) (pp : txK t G PB PG) : tX9_memory [.ref 0] (LX9 ++ r) X Y Q := by
  obtain ⟨t4, t7, t5⟩ := ht
  apply tX9_memory_i
  rw [t7]
  have u0 : ∀ c, c ≠ 0 → up2 (up2 (up2 (up2 (up2 X 0 8 (nI t.1)) 0 7 (nI 0)) 0 9 (nI 0)) 0 10 (-1)) 0 12 (nI 0) c = X c := fun c hc => by rw [up2_row hc, up2_row hc, up2_row hc, up2_row hc, up2_row hc]
  have u8 : up2 (up2 (up2 (up2 (up2 X 0 8 (nI t.1)) 0 7 (nI 0)) 0 9 (nI 0)) 0 10 (-1)) 0 12 (nI 0) 0 8 = nI t.1 := by rw [up2_idx (by omega), up2_idx (by omega), up2_idx (by omega), up2_idx (by omega), up2_same]
  have u7 : up2 (up2 (up2 (up2 (up2 X 0 8 (nI t.1)) 0 7 (nI 0)) 0 9 (nI 0)) 0 10 (-1)) 0 12 (nI 0) 0 7 = nI 0 := by rw [up2_idx (by omega), up2_idx (by omega), up2_idx (by omega), up2_same]
  have u9 : up2 (up2 (up2 (up2 (up2 X 0 8 (nI t.1)) 0 7 (nI 0)) 0 9 (nI 0)) 0 10 (-1)) 0 12 (nI 0) 0 9 = nI 0 := by rw [up2_idx (by omega), up2_idx (by omega), up2_same]
  have u10 : up2 (up2 (up2 (up2 (up2 X 0 8 (nI t.1)) 0 7 (nI 0)) 0 9 (nI 0)) 0 10 (-1)) 0 12 (nI 0) 0 10 = -1 := by rw [up2_idx (by omega), up2_same]
  have u12 : up2 (up2 (up2 (up2 (up2 X 0 8 (nI t.1)) 0 7 (nI 0)) 0 9 (nI 0)) 0 10 (-1)) 0 12 (nI 0) 0 12 = nI 0 := up2_same
  have uo : ∀ i, i ∉ [0, 7, 8, 9, 10, 12] → up2 (up2 (up2 (up2 (up2 X 0 8 (nI t.1)) 0 7 (nI 0)) 0 9 (nI 0)) 0 10 (-1)) 0 12 (nI 0) 0 i = X 0 i := fun i hi => by
    simp at hi
    rw [up2_idx (by omega), up2_idx (by omega), up2_idx (by omega), up2_idx (by omega), up2_idx (by omega)]
  generalize up2 (up2 (up2 (up2 (up2 X 0 8 (nI t.1)) 0 7 (nI 0)) 0 9 (nI 0)) 0 10 (-1)) 0 12 (nI 0) = Xa at *
  have ha : TR9 Xa t := ⟨t4, u8, by rw [u0 5 (by omega)]; exact t5⟩
  have ba : B9 X Xa := ⟨fun c hc _ => u0 c hc, fun i hi => uo i (by simp at hi ⊢; omega)⟩
  refine X9_skip_s (p := 0) (by omega) ha u9 (fun X2 g2 e2 => cK0_mk ?_)
  have k2 := (k Xa ba (uo 28 (by decide)) u7).to g2.b (g2.2 28 (by omega)) (g2.2 7 (by omega))
  have h2 := ha.g g2
  have hb : zen zBl t 0 ≤ t.1 := (zen_sp zBl6 _ 0 rfl).2.1 (by omega)
  have f2 : X2 0 10 = -1 := (g2.2 10 (by omega)).trans u10
  have c2 : X2 0 12 = nI 0 := (g2.2 12 (by omega)).trans u12
  have s2 : X2 1 = X 1 := by rw [g2.1 1 (by omega)]; exact u0 1 (by omega)
  have d2 : DV9 0 (fun _ _ => 0) X2 := fun k hk => absurd hk (by omega)
  rw [e2, h2.2.1, m_le (by omega) (by omega)]
  refine ⟨fun q => ?_, fun q => ?_⟩
  · rw [show txK t G PB PG = PG 0 (fun _ _ => 0) from cif_y (zth_0.mpr q)] at pp
    exact m49_end k2 hN (by omega) pp f2 c2 (by rw [s2]; exact h11) d2
  · rw [show txK t G PB PG = rdK t G PB PG 400 (zen zBl t 0) 0 (fun _ _ => 0) from cif_n (fun z => q (zth_0.mp z))] at pp
    exact m49_go hG hN 400 (zen zBl t 0) 0 _ X2 (zen zBl t 0) (by omega) (by omega) hb k2 ⟨h2, by rw [s2]; exact hg, c2⟩ f2 e2 hb zen_zen (by rw [s2]; exact h11) d2 pp
end Mem9
/-- all but what memory says, by the reference -/
def KnM (X X' : HX) : Prop := (∀ c, c ≠ 0 → c ≠ 1 → c ≠ 6 → X' c = X c) ∧ X' 0 5 = X 0 5 ∧ ∀ i, 260 ≤ i → X' 1 i = X 1 i
section Mem9b
variable {CM : HX → St → Prop} {X X' : HX} {Y : HY} {s : St} {r : Ly} {Q : Qt} {t : Tp}
theorem X9_memory_s (h : Mw CM X Y s) (ht : TV9 X t) (kb : ∀ b' X', b' ≤ t.1 → (∀ (α : Type) (bad : Nat → α) good, txK t (sG s) bad good = bad b') → KnM X X' → X' 0 10 = nI b' → X' 0 7 = nI 0 → X' 0 0 = nI 1 → Mw CM X' Y s → Q (rI (nI 0)) (LX9 ++ r) X' Y) (ku : ∀ n D X', (∀ (α : Type) (bad : Nat → α) good, txK t (sG s) bad good = good n D) → ¬ sN s + n ≤ 40 → KnM X X' → X' 0 10 = -1 → X' 0 7 = nI 0 → X' 0 0 = nI 2 → Mw CM X' Y s → Q (rI (nI 0)) (LX9 ++ r) X' Y) (kk : ∀ n D X', (∀ (α : Type) (bad : Nat → α) good, txK t (sG s) bad good = good n D) → sN s + n ≤ 40 → okD (sG s) n D → KnM X X' → X' 0 10 = -1 → X' 0 7 = nI 0 → X' 0 0 = nI 0 → Mw CM X' Y (meF s n D) → Q (rI (nI n)) (LX9 ++ r) X' Y) : tX9_memory [.ref 0] (LX9 ++ r) X Y Q := by
  have si := h.si
  obtain ⟨v0, v1, v2, v3⟩ := h.sv
  have kn : ∀ X' : HX, B9 X X' → KnM X X' := fun X' b => ⟨fun c h0 _ h6 => b.1 c h0 h6, b.2 5 (by decide), fun i _ => by rw [b.1 1 (by omega) (by omega)]⟩
  have mw : ∀ X' : HX, B9 X X' → X' 0 28 = X 0 28 → Mw CM X' Y s := fun X' b e => ⟨h.1, si, h.sv.of (b.1 1 (by omega) (by omega)), h.2.2.2.mono e (fun z => h.1 X X' s (fun c h1 h2 => b.1 c (by omega) (by omega)) (b.2 35 (by decide)) z)⟩
  rcases txK_c (t := t) (G := sG s) si.1 with ⟨b', hb', hx⟩ | ⟨n, D, hD, n4, hx⟩
  · refine X9_text_s (N := sN s) (PB := fun x => x = b') (PG := fun _ _ => False) si.1 si.2.1 ht v0 v1 (fun X1 b1 e28 e7 => ⟨fun X2 b2 m2 eb hb f2 z2 g28 g7 => ?_, fun _ _ _ _ z => z.elim, fun _ _ _ _ _ z => z.elim⟩) (by rw [hx Prop])
    subst eb
    exact kb _ X2 hb' hx (kn _ (b1.trans m2)) f2 (g7.trans e7) z2 (mw _ (b1.trans m2) (g28.trans e28))
  · refine X9_text_s (N := sN s) (PB := fun _ => False) (PG := fun n1 D1 => n1 = n ∧ D1 = D) si.1 si.2.1 ht v0 v1 (fun X1 b1 e28 e7 => ⟨fun _ _ _ z => z.elim, fun X2 n1 D1 m2 ⟨en, eD⟩ w f2 z2 g28 g7 => ?_, fun X2 X3 n1 D1 m2 ⟨en, eD⟩ w dv u1 u2 f2 z2 g7 g28 u3 u4 u5 => ?_⟩) (by rw [hx Prop]; exact ⟨rfl, rfl⟩)
    · subst en eD
      exact ku n1 D1 X2 hx w (kn _ (b1.trans m2)) f2 (g7.trans e7) z2 (mw _ (b1.trans m2) (g28.trans e28))
    · subst en eD
      have b2 := b1.trans m2
      have s2 : X2 1 = X 1 := b2.1 1 (by omega) (by omega)
      have kn3 : KnM X X3 := ⟨fun c h0 h1 h6 => (u1 c h0 h1).trans (b2.1 c h0 h6), (u2 5 (by omega)).trans (b2.2 5 (by decide)), fun i hi => by rw [u5 i (by omega) (by omega), s2]⟩
      refine kk n1 D1 X3 hx w hD kn3 ((u2 10 (by omega)).trans f2) ((u2 7 (by omega)).trans (g7.trans e7)) ((u2 0 (by omega)).trans z2) ⟨h.1, meF_si si w hD, ⟨?_, u3, fun k hk => ?_, fun i hi => ?_⟩, Or.inl g28⟩
      · rw [u5 0 (by omega) (by omega), s2]; exact v0
      · have hk : k < sN s + n1 := hk
        by_cases q : k < sN s
        · obtain ⟨o1, o2, o3, o4, o5, o6⟩ := meF_old (n := n1) (D := D1) q
          rw [o1, o2, o3, o4, o5, o6, u5 _ (by omega) (by omega), u5 _ (by omega) (by omega), u5 _ (by omega) (by omega), u5 _ (by omega) (by omega), u5 _ (by omega) (by omega), u5 _ (by omega) (by omega), s2]
          exact v2 k q
        · obtain ⟨i, rfl⟩ : ∃ i, k = sN s + i := ⟨k - sN s, by omega⟩
          obtain ⟨c0, c1, c2, c3, c4, c5, _⟩ := meF_new (n := n1) (hD i (by omega)) si.1
          obtain ⟨d0, d1, d2, d3, d4, d5⟩ := dv i (by omega)
          have ix : ∀ j, j < 6 → X3 1 (2 + 6 * (sN s + i) + j) = X2 6 (6 * i + j) := fun j hj => by
            rw [show 2 + 6 * (sN s + i) + j = 2 + 6 * sN s + (6 * i + j) by omega]
            exact u4 (6 * i + j) (by omega)
          have i0 := ix 0 (by omega)
          rw [Nat.add_zero, Nat.add_zero] at i0
          rw [i0, ix 1 (by omega), ix 2 (by omega), ix 3 (by omega), ix 4 (by omega), ix 5 (by omega), d0, d1, d2, d3, d4, d5, ← c0, ← c1, ← c2, ← c3, ← c4, c5]
          exact ⟨rfl, rfl, rfl, rfl, rfl, rfl⟩
      · rw [u5 _ (by omega) (by omega), u5 _ (by omega) (by omega), s2]
        exact v3 i hi
end Mem9b
