/-! a LINE, by the reference -/
theorem nlt32 {a b : Int32} : ¬ a < b ↔ b ≤ a := by rw [Int32.le_iff_toInt_le, Int32.lt_iff_toInt_lt]; omega
theorem zG_iff {t : Tp} {G b : Nat} (hG : G ≤ 9) : zGs t G b ↔ zth t b = 2 ∧ ¬ zva t b < nI 0 ∧ ¬ (nI G - nI 1) < zva t b := by
  have key : ¬ zva t b < nI 0 → (¬ nI G ≤ zva t b ↔ ¬ (nI G - nI 1) < zva t b) := by
    intro h
    rcases i32c (zva t b) with z | ⟨v, hv, e⟩
    · exact absurd z h
    · rw [e]
      by_cases q : G = 0
      · subst q
        rw [m_le (by omega) hv]
        refine ⟨fun w => absurd (Nat.zero_le _) w, fun w => absurd ?_ w⟩
        rw [show nI 0 - nI 1 = -1 from by decide, Int32.lt_iff_toInt_lt, nI_toInt hv]
        have : (-1 : Int32).toInt = -1 := rfl
        omega
      · rw [m_sub (by omega), m_le (by omega) hv, m_lt (by omega) hv]; omega
  constructor
  · intro ⟨h1, h2, h3⟩; exact ⟨h1, h2, (key h2).mp h3⟩
  · intro ⟨h1, h2, h3⟩; exact ⟨h1, h2, (key h2).mpr h3⟩
/-- all but the place, the fault and the line n -/
def M9 (n : Nat) (X X' : HX) : Prop := (∀ c, c ≠ 0 → c ≠ 6 → X' c = X c) ∧ (∀ i, i ≠ 9 → i ≠ 10 → X' 0 i = X 0 i) ∧ ∀ k, k < 6 * n → X' 6 k = X 6 k
def L9 (n : Nat) (X X' : HX) : Prop := (∀ c, c ≠ 0 → c ≠ 6 → X' c = X c) ∧ (∀ i, i ≠ 9 → i ≠ 10 → i ≠ 12 → X' 0 i = X 0 i) ∧ ∀ k, k < 6 * n → X' 6 k = X 6 k
theorem M9.rfl {n : Nat} {X : HX} : M9 n X X := ⟨fun _ _ _ => Eq.refl _, fun _ _ _ => Eq.refl _, fun _ _ => Eq.refl _⟩
theorem M9.trans {n : Nat} {X X1 X2 : HX} (h : M9 n X X1) (k : M9 n X1 X2) : M9 n X X2 := ⟨fun c hc hd => (k.1 c hc hd).trans (h.1 c hc hd), fun i hi hj => (k.2.1 i hi hj).trans (h.2.1 i hi hj), fun i hi => (k.2.2 i hi).trans (h.2.2 i hi)⟩
theorem H9.m {n : Nat} {X X' : HX} (h : H9 X X') : M9 n X X' := ⟨fun c hc _ => h.1 c hc, h.2, fun k _ => by rw [h.1 6 (by omega)]⟩
theorem G9.m {n : Nat} {X X' : HX} (h : G9 X X') : M9 n X X' := h.h.m
theorem M9.up {n k : Nat} {X : HX} {v : Int32} (hk : 6 * n ≤ k) : M9 n X (up2 X 6 k v) := ⟨fun c _ hd => up2_row hd, fun i _ _ => up2_out (by omega), fun i hi => up2_idx (by omega)⟩
theorem M9.l {n : Nat} {X X' : HX} {v : Int32} (h : M9 n X X') : L9 n X (up2 X' 0 12 v) := ⟨fun c hc hd => (up2_row hc).trans (h.1 c hc hd), fun i hi hj hk => (up2_idx hk).trans (h.2.1 i hi hj), fun k hk => (up2_out (by omega)).trans (h.2.2 k hk)⟩
/-- the reference has n lines, G guests -/
def Ln9 (t : Tp) (G n : Nat) (X : HX) : Prop := TR9 X t ∧ X 1 0 = nI G ∧ X 0 12 = nI n
theorem Ln9.m {t : Tp} {G n m : Nat} {X X' : HX} (h : Ln9 t G n X) (e : M9 m X X') : Ln9 t G n X' := ⟨h.1.eq (e.2.1 8 (by omega) (by omega)) (e.1 5 (by omega) (by omega)), by rw [e.1 1 (by omega) (by omega)]; exact h.2.1, by rw [e.2.1 12 (by omega) (by omega)]; exact h.2.2⟩
/-- what a line's reading may do -/
def LK9 (t : Tp) (n : Nat) (X : HX) (Y : HY) (Q : Qt) (r : Ly) (PB : Nat → Prop) (PG : Nat → Int32 → Int32 → Int32 → Int32 → Int32 → Prop) : Prop :=
  (∀ X' b' p', L9 n X X' → PB b' → b' ≤ t.1 → X' 0 10 = nI b' → X' 0 9 = nI p' → p' ≤ t.1 → X' 0 12 = nI (n + 1) → Q (.inl none) (LX9 ++ r) X' Y) ∧ (∀ X' b' p' w f s te su, L9 n X X' → PG b' w f s te su → X' 0 10 = -1 → X' 0 9 = nI p' → p' ≤ t.1 → zen zBl t p' = b' → X' 0 12 = nI (n + 1) → X' 6 (6 * n) = w ∧ X' 6 (6 * n + 1) = f ∧ X' 6 (6 * n + 2) = s ∧ X' 6 (6 * n + 3) = te ∧ X' 6 (6 * n + 4) = su ∧ X' 6 (6 * n + 5) = nI 1 → Q (.inl none) (LX9 ++ r) X' Y)
section Line9
variable {t : Tp} {X X' : HX} {Y : HY} {Q : Qt} {r : Ly} {p b n G : Nat} {PB : Nat → Prop} {PG : Nat → Int32 → Int32 → Int32 → Int32 → Int32 → Prop}
theorem L9.of {n : Nat} {X X1 X2 : HX} (h : M9 n X X1) (k : L9 n X1 X2) : L9 n X X2 := ⟨fun c hc hd => (k.1 c hc hd).trans (h.1 c hc hd), fun i hi hj hk => (k.2.1 i hi hj hk).trans (h.2.1 i hi hj), fun i hi => (k.2.2 i hi).trans (h.2.2 i hi)⟩
theorem LK9.to (h : LK9 t n X Y Q r PB PG) (m : M9 n X X') : LK9 t n X' Y Q r PB PG := ⟨fun X2 b2 p2 l => h.1 X2 b2 p2 (.of m l), fun X2 b2 p2 w f s te su l => h.2 X2 b2 p2 w f s te su (.of m l)⟩
/-- a fault was met: 263, 231, 165, 75 -/
theorem l263_bad {f : Nat} (k : LK9 t n X Y Q r PB PG) (hf : f ≤ t.1) (pf : PB f) (h : Ln9 t G n X) (h10 : X 0 10 = nI f) (h9 : X 0 9 = nI p) (hp : p ≤ t.1) : hX9_line_263 Q r X Y := by
  apply hX9_line_263_i
  rw [h.2.2, m_add]
  exact k.1 _ f p (M9.rfl.l) pf hf (by rw [up2_idx (by omega)]; exact h10) (by rw [up2_idx (by omega)]; exact h9) hp up2_same
theorem l231_bad {f : Nat} {v : Int32} (k : LK9 t n X Y Q r PB PG) (hf : f ≤ t.1) (pf : PB f) (h : Ln9 t G n X) (h10 : X 0 10 = nI f) (h9 : X 0 9 = nI p) (hp : p ≤ t.1) : hX9_line_231 Q r v X Y := by
  have t4 := h.1.1
  apply hX9_line_231_i
  have ne : ¬ X 0 10 = -1 := by rw [h10, m_neg (by omega)]; exact fun z => z
  exact ⟨fun _ => l263_bad k hf pf h h10 h9 hp, fun z => absurd ne z⟩
theorem l165_bad {f : Nat} (hn : n ≤ 99) (k : LK9 t n X Y Q r PB PG) (hf : f ≤ t.1) (pf : PB f) (h : Ln9 t G n X) (h10 : X 0 10 = nI f) (h9 : X 0 9 = nI p) (hp : p ≤ t.1) : hX9_line_165 Q r (nI (6 * n)) X Y := by
  have t4 := h.1.1
  apply hX9_line_165_i
  simp (disch := omega) only [m_add, m_clamp, m_in]
  have m3 : M9 n X (up2 (up2 (up2 X 6 (6 * n + 3) (-1)) 6 (6 * n + 4) (nI 50)) 6 (6 * n + 5) (nI 1)) := ((M9.up (by omega)).trans (M9.up (by omega))).trans (M9.up (by omega))
  have e0 : up2 (up2 (up2 X 6 (6 * n + 3) (-1)) 6 (6 * n + 4) (nI 50)) 6 (6 * n + 5) (nI 1) 0 = X 0 := by rw [up2_row (by omega), up2_row (by omega), up2_row (by omega)]
  generalize up2 (up2 (up2 X 6 (6 * n + 3) (-1)) 6 (6 * n + 4) (nI 50)) 6 (6 * n + 5) (nI 1) = Xa at *
  have ne : ¬ Xa 0 10 = -1 := by rw [e0, h10, m_neg (by omega)]; exact fun z => z
  exact ⟨by omega, by omega, by omega, fun _ => l231_bad (k.to m3) hf pf (h.m m3) (by rw [e0]; exact h10) (by rw [e0]; exact h9) hp, fun z => absurd ne z⟩
theorem num_bad {lo hi : Int32} (ne : ¬ X 0 10 = -1) {C : Int32 → HX → HY → Prop} (k : C (nI 0) X Y) : tX9_number [.ref 0, .int lo, .int hi] (LX9 ++ r) X Y (cK1 (LX9 ++ r) Q C) := by
  apply tX9_number_i
  exact ⟨fun z => absurd z ne, fun _ => cK1_mk k⟩
theorem l75_skip {f : Nat} (hn : n ≤ 99) (k : LK9 t n X Y Q r PB PG) (hf : f ≤ t.1) (pf : PB f) (h : Ln9 t G n X) (h10 : X 0 10 = nI f) (h9 : X 0 9 = nI p) (hp : p ≤ t.1) {C : HX → HY → Prop} (kk : ∀ X', M9 n X X' → X' 0 10 = nI f → ∀ p', X' 0 9 = nI p' → p' ≤ t.1 → C X' Y) : tX9_skip [.ref 0] (LX9 ++ r) X Y (cK0 (LX9 ++ r) Q C) :=
  X9_skip_s hp h.1 h9 (fun X2 g2 e2 => cK0_mk (kk X2 g2.m ((g2.2 10 (by omega)).trans h10) _ e2 ((zen_sp zBl6 _ p rfl).2.1 hp)))
theorem l75_bad {f : Nat} {v : Int32} (hn : n ≤ 99) (k : LK9 t n X Y Q r PB PG) (hf : f ≤ t.1) (pf : PB f) (h : Ln9 t G n X) (h10 : X 0 10 = nI f) (h9 : X 0 9 = nI p) (hp : p ≤ t.1) : hX9_line_75 Q r (nI (6 * n)) v X Y := by
  have t4 := h.1.1
  apply hX9_line_75_i
  simp (disch := omega) only [m_add, m_clamp, m_in]
  have nf : ¬ nI f = (-1 : Int32) := by rw [m_neg (by omega)]; exact fun z => z
  have m1 : M9 n X (up2 X 6 (6 * n) v) := .up (by omega)
  have a1 : up2 X 6 (6 * n) v 0 = X 0 := up2_row (by omega)
  generalize up2 X 6 (6 * n) v = X1 at *
  refine ⟨by omega, by omega, num_bad (by rw [a1, h10]; exact nf) ⟨by omega, ?_⟩⟩
  have m2 : M9 n X (up2 X1 6 (6 * n + 1) (nI 0)) := m1.trans (.up (by omega))
  have a2 : up2 X1 6 (6 * n + 1) (nI 0) 0 = X 0 := (up2_row (by omega)).trans a1
  generalize up2 X1 6 (6 * n + 1) (nI 0) = X2 at *
  refine l75_skip hn (k.to m2) hf pf (h.m m2) (by rw [a2]; exact h10) (by rw [a2]; exact h9) hp (fun X3 m3 f3 p3 e3 hp3 => ⟨by omega, num_bad (by rw [f3]; exact nf) ⟨by omega, ?_⟩⟩)
  have m4 : M9 n X (up2 X3 6 (6 * n + 2) (nI 0)) := (m2.trans m3).trans (.up (by omega))
  have a4 : up2 X3 6 (6 * n + 2) (nI 0) 0 = X3 0 := up2_row (by omega)
  generalize up2 X3 6 (6 * n + 2) (nI 0) = X4 at *
  have ne : ¬ X4 0 10 = -1 := by rw [a4, f3]; exact nf
  exact ⟨fun _ => l165_bad hn (k.to m4) hf pf (h.m m4) (by rw [a4]; exact f3) (by rw [a4]; exact e3) hp3, fun z => absurd ne z⟩
/-- how sure, and the end -/
theorem l231_s {w f s te : Int32} (hn : n ≤ 99) (k : LK9 t n X Y Q r PB PG) (h : Ln9 t G n X) (h10 : X 0 10 = -1) (h9 : X 0 9 = nI p) (hp : p ≤ t.1) (hb : zen zBl t p = b) (h6 : X 6 (6 * n) = w ∧ X 6 (6 * n + 1) = f ∧ X 6 (6 * n + 2) = s ∧ X 6 (6 * n + 3) = te ∧ X 6 (6 * n + 4) = nI 50 ∧ X 6 (6 * n + 5) = nI 1) (pp : lnC t b w f s te PB PG) : hX9_line_231 Q r (nI (6 * n)) X Y := by
  have t4 := h.1.1
  have hbt : b ≤ t.1 := by rw [← hb]; exact (zen_sp zBl6 _ p rfl).2.1 hp
  apply hX9_line_231_i
  refine ⟨fun z => absurd h10 z, fun _ => ?_⟩
  refine X9_has_s (i := 5) (by omega) rfl hp h.1 h9 hb (fun y1 y2 X2 g2 e2 => cK1_mk ⟨fun z => absurd z n1_0, fun _ => ?_⟩) (fun no X2 g2 e2 => cK1_mk ⟨fun _ => ?_, fun z => absurd rfl z⟩)
  · have yes : zth t b = 1 ∧ zva t b = nI 5 := ⟨y1, y2⟩
    have f2 : X2 0 10 = -1 := (g2.2 10 (by omega)).trans h10
    refine X9_number_s (l := 1) (by omega) (znx_le hbt) (h.1.g g2) e2 f2 rfl (fun z1 z2 z3 X3 g3 e3 => cK1_mk ?_) (fun no X3 x p3 g3 f3 e3 hp3 => cK1_mk ?_)
    · have ok : zSu t (zsn t b) := ⟨z1, z2, nlt32.mp z3⟩
      rw [show lnC t b w f s te PB PG = PG (zsn t (zsn t b)) w f s te (zva t (zsn t b)) from (cif_y yes).trans (cif_y ok)] at pp
      rw [m_add, m_clamp (show 6 * n + 4 < 2147483648 by omega)]
      refine ⟨(m_in (by omega)).mpr (by omega), ?_⟩
      apply hX9_line_263_i
      have m3 : M9 n X (up2 X3 6 (6 * n + 4) (zva t (zen zBl t (znx t b)))) := ((g2.trans g3).m).trans (.up (by omega))
      have e6 : X3 6 = X 6 := (g2.trans g3).1 6 (by omega)
      have q0 : ∀ i, up2 X3 6 (6 * n + 4) (zva t (zen zBl t (znx t b))) 0 i = X3 0 i := fun i => up2_out (by omega)
      rw [q0 12, (g3.2 12 (by omega)), (g2.2 12 (by omega)), h.2.2, m_add]
      refine k.2 _ (zsn t (zsn t b)) (znx t (zsn t b)) w f s te (zva t (zsn t b)) m3.l pp (by rw [up2_idx (by omega), q0, g3.2 10 (by omega)]; exact f2) (by rw [up2_idx (by omega), q0]; exact e3) (znx_le (zsn_le hbt)) rfl up2_same ?_
      have e7 : ∀ i, i ≠ 6 * n + 4 → up2 (up2 X3 6 (6 * n + 4) (zva t (zen zBl t (znx t b)))) 0 12 (nI (n + 1)) 6 i = X 6 i := fun i hi => by rw [up2_out (by omega), up2_idx hi, e6]
      rw [e7 _ (by omega), e7 _ (by omega), e7 _ (by omega), e7 _ (by omega), e7 (6 * n + 5) (by omega), up2_out (by omega), up2_same]
      exact ⟨h6.1, h6.2.1, h6.2.2.1, h6.2.2.2.1, rfl, h6.2.2.2.2.2⟩
    · have nok : ¬ zSu t (zsn t b) := fun z => no ⟨z.1, z.2.1, nlt32.mpr z.2.2⟩
      rw [show lnC t b w f s te PB PG = PB (zsn t b) from (cif_y yes).trans (cif_n nok)] at pp
      rw [m_add, m_clamp (show 6 * n + 4 < 2147483648 by omega)]
      refine ⟨(m_in (by omega)).mpr (by omega), ?_⟩
      have m3 : M9 n X (up2 X3 6 (6 * n + 4) x) := ((g2.h.trans g3).m).trans (.up (by omega))
      exact l263_bad (k.to m3) (zsn_le hbt) pp (h.m m3) (by rw [up2_out (by omega)]; exact f3) (by rw [up2_out (by omega)]; exact e3) hp3
  · rw [show lnC t b w f s te PB PG = PG b w f s te (nI 50) from cif_n no] at pp
    apply hX9_line_263_i
    rw [(g2.2 12 (by omega)), h.2.2, m_add]
    have e6 : X2 6 = X 6 := g2.1 6 (by omega)
    refine k.2 _ b b w f s te (nI 50) (g2.m).l pp (by rw [up2_idx (by omega), g2.2 10 (by omega)]; exact h10) (by rw [up2_idx (by omega)]; exact e2) hbt (by rw [← hb]; exact zen_zen) up2_same ?_
    rw [up2_out (by omega), up2_out (by omega), up2_out (by omega), up2_out (by omega), up2_out (by omega), up2_out (by omega), e6]
    exact h6
/-- the teller -/
theorem l165_s {w f s : Int32} (hG : G ≤ 9) (hn : n ≤ 99) (k : LK9 t n X Y Q r PB PG) (h : Ln9 t G n X) (h10 : X 0 10 = -1) (h9 : X 0 9 = nI p) (hp : p ≤ t.1) (hb : zen zBl t p = b) (h6 : X 6 (6 * n) = w ∧ X 6 (6 * n + 1) = f ∧ X 6 (6 * n + 2) = s) (pp : lnB t G b w f s PB PG) : hX9_line_165 Q r (nI (6 * n)) X Y := by
  have t4 := h.1.1
  have hbt : b ≤ t.1 := by rw [← hb]; exact (zen_sp zBl6 _ p rfl).2.1 hp
  apply hX9_line_165_i
  simp (disch := omega) only [m_add, m_clamp, m_in]
  have m3 : M9 n X (up2 (up2 (up2 X 6 (6 * n + 3) (-1)) 6 (6 * n + 4) (nI 50)) 6 (6 * n + 5) (nI 1)) := ((M9.up (by omega)).trans (M9.up (by omega))).trans (M9.up (by omega))
  have e0 : up2 (up2 (up2 X 6 (6 * n + 3) (-1)) 6 (6 * n + 4) (nI 50)) 6 (6 * n + 5) (nI 1) 0 = X 0 := by rw [up2_row (by omega), up2_row (by omega), up2_row (by omega)]
  have e6 : up2 (up2 (up2 X 6 (6 * n + 3) (-1)) 6 (6 * n + 4) (nI 50)) 6 (6 * n + 5) (nI 1) 6 (6 * n) = w ∧ up2 (up2 (up2 X 6 (6 * n + 3) (-1)) 6 (6 * n + 4) (nI 50)) 6 (6 * n + 5) (nI 1) 6 (6 * n + 1) = f ∧ up2 (up2 (up2 X 6 (6 * n + 3) (-1)) 6 (6 * n + 4) (nI 50)) 6 (6 * n + 5) (nI 1) 6 (6 * n + 2) = s ∧ up2 (up2 (up2 X 6 (6 * n + 3) (-1)) 6 (6 * n + 4) (nI 50)) 6 (6 * n + 5) (nI 1) 6 (6 * n + 3) = -1 ∧ up2 (up2 (up2 X 6 (6 * n + 3) (-1)) 6 (6 * n + 4) (nI 50)) 6 (6 * n + 5) (nI 1) 6 (6 * n + 4) = nI 50 ∧ up2 (up2 (up2 X 6 (6 * n + 3) (-1)) 6 (6 * n + 4) (nI 50)) 6 (6 * n + 5) (nI 1) 6 (6 * n + 5) = nI 1 := by
    refine ⟨?_, ?_, ?_, ?_, ?_, up2_same⟩
    · rw [up2_idx (by omega), up2_idx (by omega), up2_idx (by omega)]; exact h6.1
    · rw [up2_idx (by omega), up2_idx (by omega), up2_idx (by omega)]; exact h6.2.1
    · rw [up2_idx (by omega), up2_idx (by omega), up2_idx (by omega)]; exact h6.2.2
    · rw [up2_idx (by omega), up2_idx (by omega), up2_same]
    · rw [up2_idx (by omega), up2_same]
  generalize up2 (up2 (up2 X 6 (6 * n + 3) (-1)) 6 (6 * n + 4) (nI 50)) 6 (6 * n + 5) (nI 1) = Xa at *
  have ha := h.m m3
  have a10 : Xa 0 10 = -1 := by rw [e0]; exact h10
  refine ⟨by omega, by omega, by omega, fun z => absurd a10 z, fun _ => ?_⟩
  refine X9_has_s (i := 4) (by omega) rfl hp ha.1 (by rw [e0]; exact h9) hb (fun y1 y2 X2 g2 e2 => cK1_mk ⟨fun z => absurd z n1_0, fun _ => ?_⟩) (fun no X2 g2 e2 => cK1_mk ⟨fun _ => ?_, fun z => absurd rfl z⟩)
  · have yes : zth t b = 1 ∧ zva t b = nI 4 := ⟨y1, y2⟩
    have f2 : X2 0 10 = -1 := (g2.2 10 (by omega)).trans a10
    have c10 : X2 1 0 = nI G := by rw [g2.1 1 (by omega)]; exact ha.2.1
    refine ⟨by omega, ?_⟩
    rw [c10]
    refine X9_number_s (l := 0) (by omega) (znx_le hbt) (ha.1.g g2) e2 f2 rfl (fun z1 z2 z3 X3 g3 e3 => cK1_mk ⟨by omega, ?_⟩) (fun no X3 x p3 g3 f3 e3 hp3 => cK1_mk ⟨by omega, ?_⟩)
    · have ok : zGs t G (zsn t b) := (zG_iff hG).mpr ⟨z1, z2, z3⟩
      rw [show lnB t G b w f s PB PG = lnC t (zsn t (zsn t b)) w f s (zva t (zsn t b)) PB PG from (cif_y yes).trans (cif_y ok)] at pp
      have m4 : M9 n X (up2 X3 6 (6 * n + 3) (zva t (zen zBl t (znx t b)))) := (m3.trans (g2.trans g3).m).trans (.up (by omega))
      have c6 : X3 6 = Xa 6 := (g2.trans g3).1 6 (by omega)
      refine l231_s hn (k.to m4) (h.m m4) (by rw [up2_out (by omega), g3.2 10 (by omega)]; exact f2) (by rw [up2_out (by omega)]; exact e3) (znx_le (zsn_le hbt)) rfl ?_ pp
      rw [up2_idx (by omega), up2_idx (by omega), up2_idx (by omega), up2_same, up2_idx (by omega), up2_idx (by omega), c6]
      exact ⟨e6.1, e6.2.1, e6.2.2.1, rfl, e6.2.2.2.2.1, e6.2.2.2.2.2⟩
    · have nok : ¬ zGs t G (zsn t b) := fun z => no ((zG_iff hG).mp z)
      rw [show lnB t G b w f s PB PG = PB (zsn t b) from (cif_y yes).trans (cif_n nok)] at pp
      have m4 : M9 n X (up2 X3 6 (6 * n + 3) x) := (m3.trans (g2.h.trans g3).m).trans (.up (by omega))
      exact l231_bad (k.to m4) (zsn_le hbt) pp (h.m m4) (by rw [up2_out (by omega)]; exact f3) (by rw [up2_out (by omega)]; exact e3) hp3
  · rw [show lnB t G b w f s PB PG = lnC t b w f s (-1) PB PG from cif_n no] at pp
    have m4 := m3.trans (g2.m (n := n))
    refine l231_s hn (k.to m4) (h.m m4) ((g2.2 10 (by omega)).trans a10) e2 hbt (by rw [← hb]; exact zen_zen) (by rw [g2.1 6 (by omega)]; exact e6) pp
/-- both guests -/
theorem l75_s {w : Int32} (hG : G ≤ 9) (hn : n ≤ 99) (k : LK9 t n X Y Q r PB PG) (h : Ln9 t G n X) (h10 : X 0 10 = -1) (h9 : X 0 9 = nI p) (hp : p ≤ t.1) (hb : zen zBl t p = b) (pp : cif (zGs t G b) (cif (zGs t G (zsn t b) ∧ zva t (zsn t b) ≠ zva t b) (lnB t G (zsn t (zsn t b)) w (zva t b) (zva t (zsn t b)) PB PG) (PB (zsn t b))) (PB b)) : hX9_line_75 Q r (nI (6 * n)) w X Y := by
  have t4 := h.1.1
  have hbt : b ≤ t.1 := by rw [← hb]; exact (zen_sp zBl6 _ p rfl).2.1 hp
  apply hX9_line_75_i
  simp (disch := omega) only [m_add, m_clamp, m_in]
  have m1 : M9 n X (up2 X 6 (6 * n) w) := .up (by omega)
  have a1 : up2 X 6 (6 * n) w 0 = X 0 := up2_row (by omega)
  have a2 : up2 X 6 (6 * n) w 6 (6 * n) = w := up2_same
  generalize up2 X 6 (6 * n) w = X1 at *
  have h1 := h.m m1
  refine ⟨by omega, by omega, ?_⟩
  rw [h1.2.1]
  have nf : ∀ f, f ≤ t.1 → ¬ nI f = (-1 : Int32) := fun f hf => by rw [m_neg (by omega)]; exact fun z => z
  refine X9_number_s (l := 0) (by omega) hp h1.1 (by rw [a1]; exact h9) (by rw [a1]; exact h10) hb (fun z1 z2 z3 X2 g2 e2 => cK1_mk ⟨by omega, ?_⟩) (fun no X2 x p2 g2 f2 e2 hp2 => cK1_mk ⟨by omega, ?_⟩)
  · have ok : zGs t G b := (zG_iff hG).mpr ⟨z1, z2, z3⟩
    rw [cif_y ok] at pp
    have m2 : M9 n X (up2 X2 6 (6 * n + 1) (zva t b)) := (m1.trans g2.m).trans (.up (by omega))
    have b0 : up2 X2 6 (6 * n + 1) (zva t b) 0 = X2 0 := up2_row (by omega)
    have b6 : up2 X2 6 (6 * n + 1) (zva t b) 6 (6 * n) = w := by rw [up2_idx (by omega), g2.1 6 (by omega)]; exact a2
    have b7 : up2 X2 6 (6 * n + 1) (zva t b) 6 (6 * n + 1) = zva t b := up2_same
    have f2 : X2 0 10 = -1 := by rw [g2.2 10 (by omega), a1]; exact h10
    generalize up2 X2 6 (6 * n + 1) (zva t b) = X3 at *
    have h3 := h.m m2
    refine X9_skip_s (znx_le hbt) h3.1 (by rw [b0]; exact e2) (fun X4 g4 e4 => cK0_mk ⟨by omega, ?_⟩)
    have m4 := m2.trans (g4.m (n := n))
    have h4 := h.m m4
    have f4 : X4 0 10 = -1 := by rw [g4.2 10 (by omega), b0]; exact f2
    rw [h4.2.1]
    have sz : zen zBl t (zsn t b) = zsn t b := zen_zen
    refine X9_number_s (l := 0) (by omega) (zsn_le hbt) h4.1 e4 f4 sz (fun y1 y2 y3 X5 g5 e5 => cK1_mk ⟨by omega, ?_⟩) (fun no X5 x p5 g5 f5 e5 hp5 => cK1_mk ⟨by omega, ?_⟩)
    · have ok2 : zGs t G (zsn t b) := (zG_iff hG).mpr ⟨y1, y2, y3⟩
      have m5 : M9 n X (up2 X5 6 (6 * n + 2) (zva t (zsn t b))) := (m4.trans g5.m).trans (.up (by omega))
      have c0 : up2 X5 6 (6 * n + 2) (zva t (zsn t b)) 0 = X5 0 := up2_row (by omega)
      have g45 := g4.trans g5
      have c6 : up2 X5 6 (6 * n + 2) (zva t (zsn t b)) 6 (6 * n) = w := by rw [up2_idx (by omega), g45.1 6 (by omega)]; exact b6
      have c7 : up2 X5 6 (6 * n + 2) (zva t (zsn t b)) 6 (6 * n + 1) = zva t b := by rw [up2_idx (by omega), g45.1 6 (by omega)]; exact b7
      have c8 : up2 X5 6 (6 * n + 2) (zva t (zsn t b)) 6 (6 * n + 2) = zva t (zsn t b) := up2_same
      have f5 : X5 0 10 = -1 := (g5.2 10 (by omega)).trans f4
      generalize up2 X5 6 (6 * n + 2) (zva t (zsn t b)) = X6 at *
      have f6 : X6 0 10 = -1 := by rw [c0]; exact f5
      refine ⟨fun z => absurd f6 z, fun _ => ⟨by omega, by omega, fun q => ?_, fun q => ?_⟩⟩
      · rw [c7, c8] at q
        rw [cif_y ⟨ok2, fun z => q z.symm⟩] at pp
        exact l165_s hG hn (k.to m5) (h.m m5) f6 (by rw [c0]; exact e5) (znx_le (zsn_le hbt)) rfl ⟨c6, c7, c8⟩ pp
      · have q := Classical.not_not.mp q
        rw [c7, c8] at q
        rw [cif_n (fun z => z.2 q.symm)] at pp
        rw [e4]
        have m6 : M9 n X (up2 X6 0 10 (nI (zsn t b))) := m5.trans H9.up.m
        exact X9_wrong_s f6 (cK0_mk (l165_bad hn (k.to m6) (zsn_le hbt) pp (h.m m6) up2_same (by rw [up2_idx (by omega), c0]; exact e5) (znx_le (zsn_le hbt))))
    · have nok : ¬ zGs t G (zsn t b) := fun z => no ((zG_iff hG).mp z)
      rw [cif_n (fun z => nok z.1)] at pp
      have m5 : M9 n X (up2 X5 6 (6 * n + 2) x) := (m4.trans g5.m).trans (.up (by omega))
      have c0 : up2 X5 6 (6 * n + 2) x 0 = X5 0 := up2_row (by omega)
      generalize up2 X5 6 (6 * n + 2) x = X6 at *
      have f6 : ¬ X6 0 10 = -1 := by rw [c0, f5]; exact nf _ (zsn_le hbt)
      exact ⟨fun _ => l165_bad hn (k.to m5) (zsn_le hbt) pp (h.m m5) (by rw [c0]; exact f5) (by rw [c0]; exact e5) hp5, fun z => absurd f6 z⟩
  · have nok : ¬ zGs t G b := fun z => no ((zG_iff hG).mp z)
    rw [cif_n nok] at pp
    have m2 : M9 n X (up2 X2 6 (6 * n + 1) x) := (m1.trans g2.m).trans (.up (by omega))
    have b0 : up2 X2 6 (6 * n + 1) x 0 = X2 0 := up2_row (by omega)
    generalize up2 X2 6 (6 * n + 1) x = X3 at *
    refine l75_skip hn (k.to m2) hbt pp (h.m m2) (by rw [b0]; exact f2) (by rw [b0]; exact e2) hp2 (fun X4 m4 f4 p4 e4 hp4 => ⟨by omega, num_bad (by rw [f4]; exact nf _ hbt) ⟨by omega, ?_⟩⟩)
    have m5 : M9 n X (up2 X4 6 (6 * n + 2) (nI 0)) := (m2.trans m4).trans (.up (by omega))
    have a4 : up2 X4 6 (6 * n + 2) (nI 0) 0 = X4 0 := up2_row (by omega)
    generalize up2 X4 6 (6 * n + 2) (nI 0) = X5 at *
    have ne : ¬ X5 0 10 = -1 := by rw [a4, f4]; exact nf _ hbt
    exact ⟨fun _ => l165_bad hn (k.to m5) hbt pp (h.m m5) (by rw [a4]; exact f4) (by rw [a4]; exact e4) hp4, fun z => absurd ne z⟩
/-- a LINE -/
theorem X9_line_s (hG : G ≤ 9) (hn : n ≤ 99) (k : LK9 t n X Y Q r PB PG) (h : Ln9 t G n X) (h10 : X 0 10 = -1) (h9 : X 0 9 = nI p) (hp : p ≤ t.1) (hb : zen zBl t p = b) (pp : lnK t G b PB PG) : tX9_line [.ref 0] (LX9 ++ r) X Y Q := by
  have t4 := h.1.1
  have hbt : b ≤ t.1 := by rw [← hb]; exact (zen_sp zBl6 _ p rfl).2.1 hp
  have bb : zen zBl t b = b := by rw [← hb]; exact zen_zen
  have good : ∀ i X2, i ≤ 3 → zth t b = 1 → zva t b = nI i → G9 X X2 → X2 0 9 = nI (znx t b) → hX9_line_75 Q r (nI (6 * n)) (nI i) X2 Y := fun i X2 hi y1 y2 g2 e2 => by
    have yes : zth t b = 1 ∧ zva t b ≤ nI 3 := ⟨y1, by rw [y2, m_le (by omega) (by omega)]; exact hi⟩
    have q2 : (X2 0 10 = -1) := (g2.2 10 (by omega)).trans h10
    refine l75_s (b := zsn t b) hG hn (k.to g2.m) (h.m (m := n) g2.m) q2 e2 (znx_le hbt) rfl ?_
    rw [show lnK t G b PB PG = _ from cif_y yes, y2] at pp
    exact pp
  apply tX9_line_i
  rw [h.2.2, m_mul]
  have nn : ∀ i, i ≤ 3 → ¬ nI i = (-1 : Int32) := fun i hi => by rw [m_neg (by omega)]; exact fun z => z
  refine X9_has_s (i := 0) (by omega) rfl hp h.1 h9 hb (fun y1 y2 X2 g2 e2 => cK1_mk ⟨fun z => absurd z n1_0, fun _ => ⟨fun _ => good 0 X2 (by omega) y1 y2 g2 e2, fun z => absurd (nn 0 (by omega)) z⟩⟩) (fun n0 X2 g2 e2 => cK1_mk ⟨fun _ => ?_, fun z => absurd rfl z⟩)
  refine X9_has_s (i := 1) (by omega) rfl hbt (h.1.g g2) e2 bb (fun y1 y2 X3 g3 e3 => cK1_mk ⟨fun z => absurd z n1_0, fun _ => ⟨fun _ => good 1 X3 (by omega) y1 y2 (g2.trans g3) e3, fun z => absurd (nn 1 (by omega)) z⟩⟩) (fun n1 X3 g3 e3 => cK1_mk ⟨fun _ => ?_, fun z => absurd rfl z⟩)
  have g23 := g2.trans g3
  refine X9_has_s (i := 2) (by omega) rfl hbt (h.1.g g23) e3 bb (fun y1 y2 X4 g4 e4 => cK1_mk ⟨fun z => absurd z n1_0, fun _ => ⟨fun _ => good 2 X4 (by omega) y1 y2 (g23.trans g4) e4, fun z => absurd (nn 2 (by omega)) z⟩⟩) (fun n2 X4 g4 e4 => cK1_mk ⟨fun _ => ?_, fun z => absurd rfl z⟩)
  have g24 := g23.trans g4
  refine X9_has_s (i := 3) (by omega) rfl hbt (h.1.g g24) e4 bb (fun y1 y2 X5 g5 e5 => cK1_mk ⟨fun z => absurd z n1_0, fun _ => ⟨fun _ => good 3 X5 (by omega) y1 y2 (g24.trans g5) e5, fun z => absurd (nn 3 (by omega)) z⟩⟩) (fun n3 X5 g5 e5 => cK1_mk ⟨fun _ => ⟨fun z => absurd rfl z, fun _ => ?_⟩, fun z => absurd rfl z⟩)
  have g25 := g24.trans g5
  have no : ¬ (zth t b = 1 ∧ zva t b ≤ nI 3) := fun ⟨z1, z2⟩ => by
    obtain ⟨_, _, _, w5⟩ := zth_1 z1
    have l6 := zWv_le (t := t) (b := b) (zen zLt t b)
    rw [w5, m_le (by omega) (by omega)] at z2
    have c4 : zWv t b (zen zLt t b) = 0 ∨ zWv t b (zen zLt t b) = 1 ∨ zWv t b (zen zLt t b) = 2 ∨ zWv t b (zen zLt t b) = 3 := by omega
    rcases c4 with c | c | c | c
    · exact n0 ⟨z1, by rw [w5, c]⟩
    · exact n1 ⟨z1, by rw [w5, c]⟩
    · exact n2 ⟨z1, by rw [w5, c]⟩
    · exact n3 ⟨z1, by rw [w5, c]⟩
  rw [show lnK t G b PB PG = PB b from cif_n no] at pp
  rw [e5]
  have m6 : M9 n X (up2 X5 0 10 (nI b)) := g25.m.trans H9.up.m
  exact X9_wrong_s ((g25.2 10 (by omega)).trans h10) (cK0_mk (l75_bad hn (k.to m6) hbt pp (h.m m6) up2_same (by rw [up2_idx (by omega)]; exact e5) hbt))
end Line9
