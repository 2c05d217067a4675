/-! the fewest memories that must be wrong, by the reference -/
/-- the doubted ones in force by g -/
def fG (s : St) (g : Nat → Bool) (k : Nat) : Bool := if (List.range (nD s)).any (fun i => dbA s i == k) then (List.range (nD s)).any (fun i => g i && dbA s i == k) else sFo s k
def stG (s : St) (g : Nat → Bool) : St := (sG s, sN s, sWd s, sFi s, sSe s, sTe s, sSu s, fG s g, sCa s, sWe s)
theorem fG_at {s : St} {g : Nat → Bool} {i : Nat} (hi : i < nD s) : fG s g (dbA s i) = g i := by
  unfold fG
  rw [if_pos (by rw [List.any_eq_true]; exact ⟨i, List.mem_range.mpr hi, by simp⟩), Bool.eq_iff_iff, List.any_eq_true]
  constructor
  · rintro ⟨x, hx, h⟩
    rw [Bool.and_eq_true, beq_iff_eq] at h
    rw [← dbA_inj (List.mem_range.mp hx) hi h.2]; exact h.1
  · intro h
    exact ⟨i, List.mem_range.mpr hi, by simp [h]⟩
theorem fG_out {s : St} {g : Nat → Bool} {k : Nat} (h : ∀ i, i < nD s → dbA s i ≠ k) : fG s g k = sFo s k := by
  unfold fG
  rw [if_neg (by rw [List.any_eq_true]; rintro ⟨x, hx, e⟩; exact h x (List.mem_range.mp hx) (by simpa using e))]
theorem fG_S {s : St} {g : Nat → Bool} {S : Nat} (h : ∀ i, i < nD s → g i = !S.testBit i) (k : Nat) : fG s g k = fS s S k := by
  by_cases q : ∃ i, i < nD s ∧ dbA s i = k
  · obtain ⟨i, hi, rfl⟩ := q
    rw [fG_at hi, h i hi]
    unfold fS
    rw [(dbA_in hi).2, Bool.true_and]
    congr 1
    rw [Bool.eq_iff_iff, List.any_eq_true]
    constructor
    · intro hb; exact ⟨i, List.mem_range.mpr hi, by simp [hb]⟩
    · rintro ⟨x, hx, e⟩
      rw [Bool.and_eq_true, beq_iff_eq] at e
      rw [← dbA_inj (List.mem_range.mp hx) hi e.2]; exact e.1
  · rw [fG_out (fun i hi e => q ⟨i, hi, e⟩)]
    unfold fS
    have : (List.range (nD s)).any (fun i => S.testBit i && dbA s i == k) = false := by
      rw [Bool.eq_false_iff]
      intro hb
      rw [List.any_eq_true] at hb
      obtain ⟨x, hx, e⟩ := hb
      rw [Bool.and_eq_true, beq_iff_eq] at e
      exact q ⟨x, List.mem_range.mp hx, e.2⟩
    rw [this]; simp
theorem stG_si {s : St} (h : SI s) (g : Nat → Bool) : SI (stG s g) := h
theorem rul_stG {s : St} {g F : Nat → Bool} {a b : Nat} : ∀ n, rul (stG s g) F a b n = rul s F a b n
  | 0 => rfl
  | n + 1 => by
    simp only [rul]
    rw [rul_stG n]
    rfl
theorem mt_stG {s : St} {g F : Nat → Bool} : mt (stG s g) F = mt s F := by
  have e : ∀ a b, kd (stG s g) F a b = kd s F a b := fun a b => by
    unfold kd
    rw [rul_stG]
    rfl
  funext v
  unfold mt
  have : (fun u => (u != v) && (kd (stG s g) F v u == 0)) = (fun u => (u != v) && (kd s F v u == 0)) := funext fun u => by rw [e]
  rw [this]
  rfl
theorem stG_can {s : St} {g : Nat → Bool} {S : Nat} (h : ∀ i, i < nD s → g i = !S.testBit i) : layQ (stG s g) ↔ goodX s S := by
  have e : fG s g = fS s S := funext (fG_S h)
  show cnB (mt (stG s g) (fG s g)) (2 ^ sG s - 1) ↔ cnB (mt s (fS s S)) (2 ^ sG s - 1)
  rw [e, mt_stG]
section Lies9
variable {CM : HX → St → Prop} {X X' : HX} {Y Y' : HY} {s : St} {r : Ly} {Q : Qt}
/-- canPlain, with what it leaves of other fields -/
theorem X9_canPlain_x (h : Mw CM X Y s) (k : ∀ (z : Bool) X', ScM X X' Y Y → X' 0 0 = X 0 0 → X' 27 = X 27 → X' 0 43 = X 0 43 → X' 0 44 = X 0 44 → X' 0 45 = X 0 45 → (z = true ↔ layQ s) → Q (.inl (some (.int (nI z.toNat)))) (LX9 ++ r) X' Y) : tX9_canPlain [.ref 0] (LX9 ++ r) X Y Q := by
  apply tX9_canPlain_i
  refine X9_plain_s h.si h.sv (fun X1 f1 g1 a _ _ => cK0_mk ?_)
  have sc1 : ScM X X1 Y Y := .of (fun c hc => f1 c (fun e => by subst e; simp at hc) (fun e => by subst e; simp at hc) (fun e => by subst e; simp at hc) (fun e => by subst e; simp at hc)) (fun _ _ => Eq.refl _) (fun i hi => g1 i (fun e => by subst e; simp at hi))
  have h1 := h.sc sc1
  refine Q9_all h1 (cK1_mk (Q9_canBe h1 a (full10 h.si) (fun z X2 sc2 f2 h2 n2 hz => cK1_mk ⟨b01 z, k z X2 (sc1.trans sc2) ?_ ?_ ?_ ?_ ?_ hz⟩)))
  · rw [f2 0 (by omega)]; exact g1 0 (by omega)
  · rw [f2 27 (by omega)]; exact f1 27 (by omega) (by omega) (by omega) (by omega)
  · rw [f2 0 (by omega)]; exact g1 43 (by omega)
  · rw [f2 0 (by omega)]; exact g1 44 (by omega)
  · rw [f2 0 (by omega)]; exact g1 45 (by omega)
/-- the doubted ones' cells -/
def CI (s : St) (X0 X : HX) (g : Nat → Bool) : Prop := (∀ idx, (∀ i, i < nD s → idx ≠ 7 + 6 * dbA s i) → X 1 idx = X0 1 idx) ∧ ∀ i, i < nD s → X 1 (7 + 6 * dbA s i) = nI (g i).toNat
theorem CI.sv {X0 : HX} {g : Nat → Bool} (h : CI s X0 X g) (hI : SI s) (hV : SV X0 s) : SV X (stG s g) := by
  obtain ⟨v1, v2, v3, v4⟩ := hV
  have o : ∀ idx, (∀ i, i < nD s → idx ≠ 7 + 6 * dbA s i) → X 1 idx = X0 1 idx := h.1
  refine ⟨by rw [o 0 (fun i _ => by omega)]; exact v1, by rw [o 1 (fun i _ => by omega)]; exact v2, fun k hk => ?_, fun i hi => ?_⟩
  · obtain ⟨a1, a2, a3, a4, a5, a6⟩ := v3 k hk
    refine ⟨by rw [o _ (fun i _ => by omega)]; exact a1, by rw [o _ (fun i _ => by omega)]; exact a2, by rw [o _ (fun i _ => by omega)]; exact a3, by rw [o _ (fun i _ => by omega)]; exact a4, by rw [o _ (fun i _ => by omega)]; exact a5, ?_⟩
    show X 1 (2 + 6 * k + 5) = nI (fG s g k).toNat
    by_cases q : ∃ i, i < nD s ∧ dbA s i = k
    · obtain ⟨i, hi, rfl⟩ := q
      rw [fG_at hi, show 2 + 6 * dbA s i + 5 = 7 + 6 * dbA s i by omega]
      exact h.2 i hi
    · rw [fG_out (fun i hi e => q ⟨i, hi, e⟩), o _ (fun i hi e => q ⟨i, hi, by omega⟩)]
      exact a6
  · have n40 := hI.2.1
    rw [o _ (fun j hj => by have := (dbA_in hj).1; omega), o _ (fun j hj => by have := (dbA_in hj).1; omega)]
    exact v4 i hi
def Some9 (X : HX) (s : St) : Prop := ∀ i, i < nD s → X 27 i = nI (dbA s i)
theorem X9_lies_s {p : Int32} (h : Mw CM X Y s) (k : ∀ X' Y' res, ScM X X' Y Y' → Mw CM X' Y' s → ansM cd1 (aLies s p) (X' 0 0) res → Q res (LX9 ++ r) X' Y') : tX9_lies [.ref 0, .int p] (LX9 ++ r) X Y Q := by
  have hD10 := nD10 s
  have hT := pw10 hD10
  have n40 := h.si.2.1
  have sc : ∀ v, ScM X (up2 X 0 0 v) Y Y := fun v => .up (by decide)
  apply tX9_lies_i
  refine Q9_in (by omega) (by omega) (fun z hz => cK1_mk ?_)
  have iff := in_iff (n := 2) (by omega) hz
  refine ⟨fun q => ?_, fun q => ?_⟩
  · have hn : ¬ (p < 0 ∨ ¬ p ≤ nI 2) := fun y => iff.mp y (z11 q)
    rw [up2_same]
    refine ⟨fun _ => ?_, fun y => absurd (show nI 0 ≤ 0 by decide) y⟩
    -- the frame, but for cell 1
    let FR : HX → Prop := fun X1 => (∀ c, c ∈ [2, 3, 4, 5, 6, 18, 19, 20, 21] → X1 c = X c) ∧ (∀ i, i ∈ [5, 7, 10, 28, 35] → X1 0 i = X 0 i) ∧ X1 0 0 = nI 0
    have FRs : ∀ X1 X2, FR X1 → ScM X1 X2 Y Y → X2 0 0 = X1 0 0 → FR X2 := fun X1 X2 f sc e => ⟨fun c hc => by rw [(sc.1 c (by simp at hc ⊢; omega)).1]; exact f.1 c hc, fun i hi => by rw [sc.2 i hi]; exact f.2.1 i hi, e.trans f.2.2⟩
    have CM' : InM (fun X1 _ => CM X1 s) := fun A B _ e1 e2 q => h.1 A B s e1 e2 q
    have mwG : ∀ X1 g, FR X1 → CI s X X1 g → Mw (fun X1 _ => CM X1 s) X1 Y (stG s g) := fun X1 g f c => ⟨CM', stG_si h.si g, c.sv h.si h.sv, h.2.2.2.mono (f.2.1 28 (by decide)) (fun q => h.1 X X1 s (fun c h1 h2 => f.1 c (by simp; omega)) (f.2.1 35 (by decide)) q)⟩
    -- back, and the best
    have B : ∀ t i X1 g, i + t = nD s → FR X1 → CI s X X1 g → Some9 X1 s → (∀ j, j < i → g j = true) → fwR (goodX s) (2 ^ nD s) X1 → hX9_lies_151 Q r p (nI (nD s)) (nI i) X1 Y := by
      intro t
      induction t with
      | zero =>
        intro i X1 g hi f c d hg hf
        apply hX9_lies_151_i
        simp (disch := omega) only [m_0, m_L0, m_lt, m_le, m_eq, m_neg, m_in, m_clamp, m_add, m_sub, m_pred, m_mul, m_l, m_i, m_Land, m_Lor, m_and, m_or, m_xor, m_Landn, m_andn, m_LshlP, m_shl, m_LbitP, m_bit, m_cmp0P, m_Lb0, m_Lb1, m_b0, m_b1, Nat.one_mul]
        refine ⟨fun _ => X9_best_s hf (cK1_mk ?_), fun h => by omega⟩
        have e1 : X1 1 = X 1 := by
          funext idx
          by_cases q : ∃ j, j < nD s ∧ idx = 7 + 6 * dbA s j
          · obtain ⟨j, hj, rfl⟩ := q
            rw [c.2 j hj, hg j (by omega)]
            have a6 := (h.sv.2.2.1 (dbA s j) (dbA_in hj).1).2.2.2.2.2
            rw [(dbA_in hj).2, show 2 + 6 * dbA s j + 5 = 7 + 6 * dbA s j by omega] at a6
            exact a6.symm
          · exact c.1 idx (fun j hj e => q ⟨j, hj, e⟩)
        have st : ScM X X1 Y Y := ⟨fun c hc => ⟨by
          by_cases e : c = 1
          · subst e; exact e1
          · exact f.1 c (by simp at hc ⊢; omega), rfl⟩, f.2.1⟩
        have kk := k X1 Y (rI (fewA (goodX s) (2 ^ nD s) p)) st (h.sc st)
        unfold aLies at kk
        rw [f.2.2, cif_n hn] at kk
        exact kk ⟨rfl, rfl⟩
      | succ t ih =>
        intro i X1 g hi f c d hg hf
        have hiD : i < nD s := by omega
        have hd := dbA_in hiD
        apply hX9_lies_151_i
        simp (disch := omega) only [m_0, m_L0, m_lt, m_le, m_eq, m_neg, m_in, m_clamp, m_add, m_sub, m_pred, m_mul, m_l, m_i, m_Land, m_Lor, m_and, m_or, m_xor, m_Landn, m_andn, m_LshlP, m_shl, m_LbitP, m_bit, m_cmp0P, m_Lb0, m_Lb1, m_b0, m_b1, Nat.one_mul, d i hiD]
        have ei : 2 + 6 * dbA s i + 5 = 7 + 6 * dbA s i := by omega
        rw [ei]
        refine ⟨fun h => by omega, fun _ => ⟨by omega, by omega, ih (i + 1) _ (fun j => if j = i then true else g j) (by omega) ⟨fun c hc => by rw [up2_row (fun e => by subst e; simp at hc)]; exact f.1 c hc, fun i hi => by rw [up2_out (by omega)]; exact f.2.1 i hi, by rw [up2_out (by omega)]; exact f.2.2⟩ ⟨fun idx hx => by rw [up2_idx (hx i hiD)]; exact c.1 idx hx, fun j hj => ?_⟩ (fun j hj => by rw [up2_out (by omega)]; exact d j hj) (fun j hj => ?_) (hf.of (up2_out (by omega)) (up2_out (by omega)) (up2_out (by omega)))⟩⟩
        · by_cases e : j = i
          · subst e; rw [up2_same]; simp only [if_true]; rfl
          · simp only [if_neg e]; rw [up2_idx (fun z => e (dbA_inj hj hiD (by omega)))]; exact c.2 j hj
        · by_cases e : j = i
          · simp [e]
          · simp only [e, if_false]; exact hg j (by omega)
    have H : ∀ t j X1 g, j + t = 2 ^ nD s → FR X1 → CI s X X1 g → Some9 X1 s → fwR (goodX s) j X1 → hX9_lies_82 Q r p (nI (nD s)) (nI j) X1 Y := by
      intro t
      induction t with
      | zero =>
        intro j X1 g hj f c d hf
        have ej : j = 2 ^ nD s := by omega
        apply hX9_lies_82_i
        simp (disch := omega) only [m_0, m_L0, m_lt, m_le, m_eq, m_neg, m_in, m_clamp, m_add, m_sub, m_pred, m_mul, m_l, m_i, m_Land, m_Lor, m_and, m_or, m_xor, m_Landn, m_andn, m_LshlP, m_shl, m_LbitP, m_bit, m_cmp0P, m_Lb0, m_Lb1, m_b0, m_b1, Nat.one_mul]
        exact ⟨fun _ => B _ 0 X1 g (Nat.zero_add _) f c d (fun j hj => by omega) (ej ▸ hf), fun h => by omega⟩
      | succ t ih =>
        intro j X1 g hj f c d hf
        have hjT : j < 2 ^ nD s := by omega
        apply hX9_lies_82_i
        simp (disch := omega) only [m_0, m_L0, m_lt, m_le, m_eq, m_neg, m_in, m_clamp, m_add, m_sub, m_pred, m_mul, m_l, m_i, m_Land, m_Lor, m_and, m_or, m_xor, m_Landn, m_andn, m_LshlP, m_shl, m_LbitP, m_bit, m_cmp0P, m_Lb0, m_Lb1, m_b0, m_b1, Nat.one_mul]
        refine ⟨fun h => by omega, fun _ => ?_⟩
        have G : ∀ u i X1 g, i + u = nD s → FR X1 → CI s X X1 g → Some9 X1 s → (∀ x, x < i → g x = !j.testBit x) → fwR (goodX s) j X1 → hX9_lies_92 Q r p (nI (nD s)) (nI j) (nI i) X1 Y := by
          intro u
          induction u with
          | zero =>
            intro i X1 g hi f c d hg hf
            have hgo := stG_can (s := s) (g := g) (S := j) (fun x hx => hg x (by omega))
            apply hX9_lies_92_i
            simp (disch := omega) only [m_0, m_L0, m_lt, m_le, m_eq, m_neg, m_in, m_clamp, m_add, m_sub, m_pred, m_mul, m_l, m_i, m_Land, m_Lor, m_and, m_or, m_xor, m_Landn, m_andn, m_LshlP, m_shl, m_LbitP, m_bit, m_cmp0P, m_Lb0, m_Lb1, m_b0, m_b1, Nat.one_mul]
            refine ⟨fun _ => X9_canPlain_x (mwG X1 g f c) (fun z X2 sc2 e2 f27 e43 e44 e45 hz => cK1_mk ⟨fun q => ?_, fun q => ?_⟩), fun h => by omega⟩
            · have f2 := FRs X1 X2 f sc2 e2
              have c2 : CI s X X2 g := by unfold CI; rw [(sc2.1 1 (by decide)).1]; exact c
              exact ih (j + 1) X2 g (by omega) f2 c2 (fun i hi => by rw [f27]; exact d i hi) ((hf.of e43 e44 e45).skip (fun y => by rw [hz.mpr (hgo.mpr y)] at q; exact absurd q (by decide)))
            · have f2 := FRs X1 X2 f sc2 e2
              have c2 : CI s X X2 g := by unfold CI; rw [(sc2.1 1 (by decide)).1]; exact c
              refine X9_would_s (good := goodX s) (hf.of e43 e44 e45) (hgo.mp (hz.mp (z11 q))) (by omega) (fun X3 sc3 f3 g3 hf3 => cK0_mk ?_)
              exact ih (j + 1) X3 g (by omega) (FRs X2 X3 f2 sc3 (g3 0 (by omega) (by omega) (by omega))) (by unfold CI; rw [(sc3.1 1 (by decide)).1]; exact c2) (fun i hi => by rw [f3 27 (by omega), f27]; exact d i hi) hf3
          | succ u ihu =>
            intro i X1 g hi f c d hg hf
            have hiD : i < nD s := by omega
            have hd := dbA_in hiD
            have nb := nB_lt j i
            apply hX9_lies_92_i
            simp (disch := omega) only [m_0, m_L0, m_lt, m_le, m_eq, m_neg, m_in, m_clamp, m_add, m_sub, m_pred, m_mul, m_l, m_i, m_Land, m_Lor, m_and, m_or, m_xor, m_Landn, m_andn, m_LshlP, m_shl, m_LbitP, m_bit, m_cmp0P, m_Lb0, m_Lb1, m_b0, m_b1, Nat.one_mul, d i hiD]
            have ei : 2 + 6 * dbA s i + 5 = 7 + 6 * dbA s i := by omega
            rw [ei]
            refine ⟨fun h => by omega, fun _ => ⟨by omega, by omega, ihu (i + 1) _ (fun x => if x = i then !j.testBit i else g x) (by omega) ⟨fun c hc => by rw [up2_row (fun e => by subst e; simp at hc)]; exact f.1 c hc, fun i hi => by rw [up2_out (by omega)]; exact f.2.1 i hi, by rw [up2_out (by omega)]; exact f.2.2⟩ ⟨fun idx hx => by rw [up2_idx (hx i hiD)]; exact c.1 idx hx, fun x hx => ?_⟩ (fun x hx => by rw [up2_out (by omega)]; exact d x hx) (fun x hx => ?_) (hf.of (up2_out (by omega)) (up2_out (by omega)) (up2_out (by omega)))⟩⟩
            · by_cases e : x = i
              · subst e; rw [up2_same]; simp only [if_true]; unfold nB; cases j.testBit x <;> rfl
              · simp only [if_neg e]; rw [up2_idx (fun z => e (dbA_inj hx hiD (by omega)))]; exact c.2 x hx
            · by_cases e : x = i
              · simp [e]
              · simp only [e, if_false]; exact hg x (by omega)
        exact G _ 0 X1 g (Nat.zero_add _) f c d (fun x hx => by omega) hf
    -- the doubted ones
    have go : ∀ X1, FR X1 → X1 1 = X 1 → Some9 X1 s → hX9_lies_82 Q r p (nI (nD s)) (nI 0) (up2 X1 0 43 (-1)) Y := fun X1 f e1 d => by
      refine H _ 0 _ (fun _ => true) (Nat.zero_add _) ⟨fun c hc => by rw [up2_row (fun e => by subst e; simp at hc)]; exact f.1 c hc, fun i hi => by rw [up2_idx (fun e => by subst e; simp at hi)]; exact f.2.1 i hi, by rw [up2_idx (by omega)]; exact f.2.2⟩ ⟨fun idx _ => by rw [up2_out (by omega), e1], fun i hi => ?_⟩ (fun i hi => by rw [up2_out (by omega)]; exact d i hi) (Or.inl ⟨up2_same, fun S hS => by omega⟩)
      rw [up2_out (by omega), e1]
      have a6 := (h.sv.2.2.1 (dbA s i) (dbA_in hi).1).2.2.2.2.2
      rw [(dbA_in hi).2, show 2 + 6 * dbA s i + 5 = 7 + 6 * dbA s i by omega] at a6
      exact a6
    have Z : ∀ t j X1, j + t = sN s → FR X1 → X1 1 = X 1 → (∀ i, i < (dbj s j).length → X1 27 i = nI ((dbj s j).getD i 0)) → hX9_lies_31 Q r p (nI (dbj s j).length) (nI j) X1 Y := by
      intro t
      induction t with
      | zero =>
        intro j X1 hj f e1 hI
        have ej : j = sN s := by omega
        subst ej
        apply hX9_lies_31_i
        simp (disch := omega) only [m_0, m_L0, m_lt, m_le, m_eq, m_neg, m_in, m_clamp, m_add, m_sub, m_pred, m_mul, m_l, m_i, m_Land, m_Lor, m_and, m_or, m_xor, m_Landn, m_andn, m_LshlP, m_shl, m_LbitP, m_bit, m_cmp0P, m_Lb0, m_Lb1, m_b0, m_b1, Nat.one_mul, e1, h.sv.2.1]
        exact ⟨by omega, fun _ => go X1 f e1 hI, fun h => by omega⟩
      | succ t ih =>
        intro j X1 hj f e1 hI
        have hjN : j < sN s := by omega
        have l10 := dbj_len s j
        apply hX9_lies_31_i
        simp (disch := omega) only [m_0, m_L0, m_lt, m_le, m_eq, m_neg, m_in, m_clamp, m_add, m_sub, m_pred, m_mul, m_l, m_i, m_Land, m_Lor, m_and, m_or, m_xor, m_Landn, m_andn, m_LshlP, m_shl, m_LbitP, m_bit, m_cmp0P, m_Lb0, m_Lb1, m_b0, m_b1, Nat.one_mul, e1, h.sv.2.1]
        refine ⟨by omega, fun h => by omega, fun _ => ⟨fun h10 => ?_, fun h10 => X9_of_s (by omega) (by omega) (cK1_mk ?_)⟩⟩
        · have e : dbL s = dbj s j := by
            have := dbj_stop (s := s) (j := j) h10 (t + 1)
            unfold dbL
            rw [← this]; congr 1; omega
          have en : (dbj s j).length = nD s := by unfold nD; rw [e]
          rw [en]
          exact go X1 f e1 (fun i hi => by unfold dbA; rw [e]; exact hI i (by omega))
        · rw [e1, (h.sv.2.2.1 j hjN).2.2.2.2.2]
          have hfb := b01n (sFo s j)
          simp (disch := omega) only [m_0, m_L0, m_lt, m_le, m_eq, m_neg, m_in, m_clamp, m_add, m_sub, m_pred, m_mul, m_l, m_i, m_Land, m_Lor, m_and, m_or, m_xor, m_Landn, m_andn, m_LshlP, m_shl, m_LbitP, m_bit, m_cmp0P, m_Lb0, m_Lb1, m_b0, m_b1, Nat.one_mul]
          refine ⟨fun hb => ⟨by omega, ?_⟩, fun hb => ?_⟩
          · have hf : sFo s j = true := by cases q : sFo s j; rw [q] at hb; exact absurd rfl hb; rfl
            have ed : dbj s (j + 1) = dbj s j ++ [j] := by simp only [dbj]; rw [if_pos ⟨hf, by omega⟩]
            have el : (dbj s (j + 1)).length = (dbj s j).length + 1 := by rw [ed]; simp
            have h9 := ih (j + 1) (up2 X1 27 (dbj s j).length (nI j)) (by omega) ⟨fun c hc => by rw [up2_row (fun e => by subst e; simp at hc)]; exact f.1 c hc, fun i hi => by rw [up2_out (by omega)]; exact f.2.1 i hi, by rw [up2_out (by omega)]; exact f.2.2⟩ (by rw [up2_row (by omega)]; exact e1) (fun i hi => by
              rw [el] at hi
              rw [ed, List.getD_eq_getElem?_getD]
              by_cases ei : i = (dbj s j).length
              · subst ei
                rw [up2_same, List.getElem?_append_right (Nat.le_refl _), Nat.sub_self]; rfl
              · rw [up2_idx ei, List.getElem?_append_left (by omega), ← List.getD_eq_getElem?_getD]
                exact hI i (by omega))
            rw [el] at h9
            exact h9
          · have hf : sFo s j = false := by cases q : sFo s j; rfl; rw [q] at hb; exact absurd (by decide) hb
            have ed : dbj s (j + 1) = dbj s j := by simp [dbj, hf]
            have h9 := ih (j + 1) X1 (by omega) f e1 (by rw [ed]; exact hI)
            rw [ed] at h9; exact h9
    exact Z _ 0 _ (Nat.zero_add _) ⟨fun c hc => up2_row (fun e => by subst e; simp at hc), fun i hi => up2_idx (fun e => by subst e; simp at hi), up2_same⟩ (up2_row (by omega)) (fun i hi => by simp [dbj] at hi)
  · have hy : p < 0 ∨ ¬ p ≤ nI 2 := iff.mpr (fun y => q (by rw [y]; decide))
    rw [up2_same]
    refine ⟨fun y => absurd y (show ¬ nI 1 ≤ 0 by decide), fun _ => k _ _ _ (sc _) (h.sc (sc _)) ?_⟩
    unfold aLies
    rw [cif_y hy]
    exact ⟨up2_same, _, rfl⟩
end Lies9
