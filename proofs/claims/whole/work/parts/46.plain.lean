/-! who has met whom, and who is open: class and reference -/
def rowL (a : Nat) : Nat → Nat → List (Nat × Nat)
  | _, 0 => []
  | b, n + 1 => (a, b) :: rowL a (b + 1) n
def remL (g : Nat) : Nat → List (Nat × Nat)
  | 0 => []
  | n + 1 => rowL (g - (n + 1)) (g - n) n ++ remL g n
def prL (g : Nat) : List (Nat × Nat) := remL g g
theorem rowL_mem {a : Nat} : ∀ {n b : Nat} {p : Nat × Nat}, p ∈ rowL a b n ↔ p.1 = a ∧ b ≤ p.2 ∧ p.2 < b + n
  | 0, b, p => by simp [rowL]
  | n + 1, b, p => by
    simp only [rowL, List.mem_cons, rowL_mem (n := n)]
    constructor
    · rintro (rfl | ⟨h1, h2, h3⟩)
      · exact ⟨rfl, Nat.le_refl _, by omega⟩
      · exact ⟨h1, by omega, by omega⟩
    · rintro ⟨h1, h2, h3⟩
      by_cases e : p.2 = b
      · exact Or.inl (Prod.ext h1 e)
      · exact Or.inr ⟨h1, by omega, by omega⟩
theorem remL_mem {g : Nat} : ∀ {n : Nat} {p : Nat × Nat}, n ≤ g → (p ∈ remL g n ↔ g - n ≤ p.1 ∧ p.1 < p.2 ∧ p.2 < g)
  | 0, p, h => by simp [remL]; omega
  | n + 1, p, h => by
    rw [remL, List.mem_append, rowL_mem, remL_mem (by omega)]
    constructor
    · rintro (⟨h1, h2, h3⟩ | ⟨h1, h2, h3⟩) <;> omega
    · rintro ⟨h1, h2, h3⟩
      by_cases e : p.1 = g - (n + 1)
      · exact Or.inl ⟨e, by omega, by omega⟩
      · exact Or.inr (by omega)
theorem prL_mem {g : Nat} {p : Nat × Nat} : p ∈ prL g ↔ p.1 < p.2 ∧ p.2 < g := by
  rw [prL, remL_mem (Nat.le_refl _)]; omega
theorem prL_len : ∀ g : Fin 10, (prL g.val).length ≤ 36 := by decide +kernel
/-- the pairs that are open -/
def ops (s : St) (F : Nat → Bool) : List (Nat × Nat) := (prL (sG s)).filter (fun p => kd s F p.1 p.2 == 2)
theorem ops_len {s : St} {F : Nat → Bool} (hI : SI s) : (ops s F).length ≤ 36 := Nat.le_trans (List.length_filter_le _ _) (prL_len ⟨sG s, by have := hI.1; omega⟩)
/-- two more have met -/
def jn (M : Nat → Nat) (a b : Nat) : Nat → Nat := fun i => if i = a then M a ||| 2 ^ b else if i = b then M b ||| 2 ^ a else M i
theorem jn_eo {M : Nat → Nat} {a b i j : Nat} (hab : a ≠ b) : Eo (jn M a b) i j ↔ Eo M i j ∨ (i = a ∧ j = b) ∨ (i = b ∧ j = a) := by
  unfold Eo jn
  by_cases h1 : i = a
  · subst h1
    rw [if_pos rfl, Nat.testBit_or, Nat.testBit_two_pow, Bool.or_eq_true, decide_eq_true_eq]
    exact ⟨fun q => q.imp id (fun q => Or.inl ⟨rfl, q.symm⟩), fun q => q.imp id (fun q => (q.elim (fun q => q.2.symm) (fun q => absurd q.1 hab)))⟩
  · rw [if_neg h1]
    by_cases h2 : i = b
    · subst h2
      rw [if_pos rfl, Nat.testBit_or, Nat.testBit_two_pow, Bool.or_eq_true, decide_eq_true_eq]
      exact ⟨fun q => q.imp id (fun q => Or.inr ⟨rfl, q.symm⟩), fun q => q.imp id (fun q => (q.elim (fun q => absurd q.1 h1) (fun q => q.2.symm)))⟩
    · rw [if_neg h2]
      exact ⟨Or.inl, fun q => q.elim id (fun q => q.elim (fun q => absurd q.1 h1) (fun q => absurd q.1 h2))⟩
theorem jn_lt {M : Nat → Nat} {a b n : Nat} (h : ∀ i, M i < 2 ^ n) (ha : a < n) (hb : b < n) (i : Nat) : jn M a b i < 2 ^ n := by
  unfold jn
  split
  · exact Nat.or_lt_two_pow (h a) (Nat.pow_lt_pow_right (by omega) hb)
  · split
    · exact Nat.or_lt_two_pow (h b) (Nat.pow_lt_pow_right (by omega) ha)
    · exact h i
theorem X4_join_s {Q : Qt} {w : Nat} {r : Ly} {X : HX} {Y : HY} {M : Nat → Nat} {a b : Nat} (hw : w ≤ 60) (hX : X 0 2 = nI w) (hM : ∀ i, i < w → Y 1 i = lN (M i)) (ha : a < w) (hb : b < w) (hab : a ≠ b) (k : ∀ Y', (∀ c, c ≠ 1 → Y' c = Y c) → (∀ i, i < w → Y' 1 i = lN (jn M a b i)) → Q (.inl none) (LX4 w ++ r) X Y') : tX4_join [.ref 0, .int (nI a), .int (nI b)] (LX4 w ++ r) X Y Q := by
  apply tX4_join_i
  rw [hX]
  simp (disch := omega) only [m_0, m_L0, m_lt, m_le, m_eq, m_neg, m_in, m_clamp, m_add, m_sub, m_pred, m_mul, m_l, m_i, m_Land, m_Lor, m_and, m_or, m_xor, m_Landn, m_andn, m_LshlP, m_shl, m_LbitP, m_bit, m_cmp0P, m_Lb0, m_Lb1, m_b0, m_b1, Nat.one_mul, hM a ha, up2_idx, hM b hb]
  refine ⟨fun h => by omega, fun _ => ⟨fun h => by omega, fun _ => ⟨fun h => by omega, fun _ => ⟨fun h => by omega, fun _ => ⟨ha, ha, hb, hb, k _ (fun c hc => by rw [up2_row hc, up2_row hc]) (fun i hi => ?_)⟩⟩⟩⟩⟩
  unfold jn
  by_cases h2 : i = b
  · subst h2
    rw [up2_same, if_neg (fun q => hab q.symm), if_pos rfl]
  · rw [up2_idx h2]
    by_cases h1 : i = a
    · subst h1; rw [up2_same, if_pos rfl]
    · rw [up2_idx h1, if_neg h1, if_neg h2]; exact hM i hi
/-- whom each one has met, so far -/
def mtP (s : St) (F : Nat → Bool) (D : Nat → Nat → Prop) (M : Nat → Nat) : Prop := (∀ i, M i < 2 ^ 10) ∧ ∀ i j, Eo M i j ↔ i < sG s ∧ j < sG s ∧ i ≠ j ∧ kd s F i j = 0 ∧ (D i j ∨ D j i)
theorem mtP_end {s : St} {F : Nat → Bool} {D : Nat → Nat → Prop} {M : Nat → Nat} (hs : SI s) (h : mtP s F D M) (hD : ∀ i j, i < j → j < sG s → D i j) (i : Nat) : M i = mt s F i := by
  apply Nat.eq_of_testBit_eq
  intro j
  have h1 : Eo M i j ↔ Eo (mt s F) i j := by
    rw [h.2, mt_eo]
    constructor
    · rintro ⟨a, b, c, d, -⟩; exact ⟨a, b, c, d⟩
    · rintro ⟨a, b, c, d⟩
      refine ⟨a, b, c, d, ?_⟩
      rcases Nat.lt_trichotomy i j with q | q | q
      · exact Or.inl (hD i j q b)
      · exact absurd q c
      · exact Or.inr (hD j i q a)
  unfold Eo at h1
  cases h2 : (M i).testBit j <;> cases h3 : (mt s F i).testBit j <;> simp [h2, h3] at h1 <;> rfl
theorem mtP_put {s : St} {F : Nat → Bool} {D D' : Nat → Nat → Prop} {M : Nat → Nat} {a b : Nat} (h : mtP s F D M) (ha : a < b) (hb : b < sG s) (hg : sG s ≤ 9) (hk : kd s F a b = 0) (hD : ∀ i j, D' i j ↔ D i j ∨ (i = a ∧ j = b)) : mtP s F D' (jn M a b) := by
  refine ⟨jn_lt h.1 (by omega) (by omega), fun i j => ?_⟩
  rw [jn_eo (by omega), h.2, hD, hD]
  constructor
  · rintro (⟨q1, q2, q3, q4, q5⟩ | ⟨rfl, rfl⟩ | ⟨rfl, rfl⟩)
    · exact ⟨q1, q2, q3, q4, q5.imp Or.inl Or.inl⟩
    · exact ⟨by omega, hb, by omega, hk, Or.inl (Or.inr ⟨rfl, rfl⟩)⟩
    · exact ⟨hb, by omega, by omega, by rw [kd_comm]; exact hk, Or.inr (Or.inr ⟨rfl, rfl⟩)⟩
  · rintro ⟨q1, q2, q3, q4, (q5 | q5) | (q5 | q5)⟩
    · exact Or.inl ⟨q1, q2, q3, q4, Or.inl q5⟩
    · exact Or.inr (Or.inl q5)
    · exact Or.inl ⟨q1, q2, q3, q4, Or.inr q5⟩
    · exact Or.inr (Or.inr ⟨q5.2, q5.1⟩)
theorem mtP_skip {s : St} {F : Nat → Bool} {D D' : Nat → Nat → Prop} {M : Nat → Nat} (h : mtP s F D M) (hD : ∀ i j, kd s F i j = 0 → i < j → j < sG s → (D' i j ↔ D i j)) (h1 : ∀ i j, D i j → i < j) (h2 : ∀ i j, D' i j → i < j) : mtP s F D' M := by
  refine ⟨h.1, fun i j => ?_⟩
  rw [h.2]
  constructor
  · rintro ⟨q1, q2, q3, q4, q5⟩
    refine ⟨q1, q2, q3, q4, ?_⟩
    rcases q5 with q5 | q5
    · exact Or.inl ((hD i j q4 (h1 _ _ q5) q2).mpr q5)
    · exact Or.inr ((hD j i (by rw [kd_comm]; exact q4) (h1 _ _ q5) q1).mpr q5)
  · rintro ⟨q1, q2, q3, q4, q5⟩
    refine ⟨q1, q2, q3, q4, ?_⟩
    rcases q5 with q5 | q5
    · exact Or.inl ((hD i j q4 (h2 _ _ q5) q2).mp q5)
    · exact Or.inr ((hD j i (by rw [kd_comm]; exact q4) (h2 _ _ q5) q1).mp q5)
/-- pairs ahead of (a, b) -/
def bef (a b i j : Nat) : Prop := i < j ∧ (i < a ∨ (i = a ∧ j < b))
/-- the reference's net -/
def NV (X : HX) (M : Nat → Nat) : Prop := ∀ i, i < 10 → X 7 i = nI (M i) ∧ M i < 1024
section PlainM
variable {Q : Qt} {r : Ly} {X : HX} {Y : HY} {s : St}
theorem X9_link_s {M : Nat → Nat} {a b : Nat} (hN : ∀ i, i < 10 → X 7 i = nI (M i)) (ha : a < 10) (hb : b < 10) (hab : a ≠ b) (k : ∀ X', (∀ c, c ≠ 7 → X' c = X c) → (∀ i, i < 10 → X' 7 i = nI (jn M a b i)) → Q (.inl none) (LX9 ++ r) X' Y) : tX9_link [.ref 0, .int (nI a), .int (nI b)] (LX9 ++ r) X Y Q := by
  apply tX9_link_i
  simp (disch := omega) only [m_0, m_L0, m_lt, m_le, m_eq, m_neg, m_in, m_clamp, m_add, m_sub, m_pred, m_mul, m_l, m_i, m_Land, m_Lor, m_and, m_or, m_xor, m_Landn, m_andn, m_LshlP, m_shl, m_LbitP, m_bit, m_cmp0P, m_Lb0, m_Lb1, m_b0, m_b1, Nat.one_mul, hN a ha, up2_idx, hN b hb]
  refine ⟨ha, ha, hb, hb, k _ (fun c hc => by rw [up2_row hc, up2_row hc]) (fun i hi => ?_)⟩
  unfold jn
  by_cases h2 : i = b
  · subst h2
    rw [up2_same, if_neg (fun q => hab q.symm), if_pos rfl]
  · rw [up2_idx h2]
    by_cases h1 : i = a
    · subst h1; rw [up2_same, if_pos rfl]
    · rw [up2_idx h1, if_neg h1, if_neg h2]; exact hN i hi
/-- the open pairs' rows -/
def OV (X : HX) (c d : Nat) (L : List (Nat × Nat)) (n : Nat) : Prop := ∀ k p, k < n → L[k]? = some p → X c k = nI p.1 ∧ X d k = nI p.2
theorem OV_put {X : HX} {c d n : Nat} {P : List (Nat × Nat)} {a b : Nat} (hcd : c ≠ d) (h : OV X c d P n) : OV (up2 (up2 X c P.length (nI a)) d P.length (nI b)) c d (P ++ [(a, b)]) n := by
  intro t p ht hp
  by_cases q : t = P.length
  · subst q
    rw [List.getElem?_append_right (Nat.le_refl _), Nat.sub_self] at hp
    cases hp
    exact ⟨by rw [up2_out hcd, up2_same], up2_same⟩
  · have hl := (List.getElem?_eq_some_iff.mp hp).1
    simp only [List.length_append, List.length_cons, List.length_nil] at hl
    rw [List.getElem?_append_left (by omega)] at hp
    have h9 := h t p ht hp
    exact ⟨by rw [up2_out hcd, up2_idx q]; exact h9.1, by rw [up2_idx q, up2_out (Ne.symm hcd)]; exact h9.2⟩
theorem OV_out {X : HX} {c d n z i : Nat} {v : Int32} {P : List (Nat × Nat)} (h1 : c ≠ z) (h2 : d ≠ z) (h : OV X c d P n) : OV (up2 X z i v) c d P n := fun t p ht hp => ⟨by rw [up2_out h1]; exact (h t p ht hp).1, by rw [up2_out h2]; exact (h t p ht hp).2⟩
theorem OV_long {X : HX} {c d n : Nat} {P : List (Nat × Nat)} {x : Nat × Nat} (hn : n ≤ P.length) (h : OV X c d P n) : OV X c d (P ++ [x]) n := fun t p ht hp => by
  rw [List.getElem?_append_left (by omega)] at hp
  exact h t p ht hp
theorem X9_plain_s (hI : SI s) (hV : SV X s) (k : ∀ X', (∀ c, c ≠ 7 → c ≠ 25 → c ≠ 26 → c ≠ 0 → X' c = X c) → (∀ i, i ≠ 42 → X' 0 i = X 0 i) → NV X' (mt s (sFo s)) → X' 0 42 = nI (ops s (sFo s)).length → OV X' 25 26 (ops s (sFo s)) 40 → Q (.inl none) (LX9 ++ r) X' Y) : tX9_plain [.ref 0] (LX9 ++ r) X Y Q := by
  have g9 := hI.1
  have l36 := ops_len (F := sFo s) hI
  have H : ∀ n a X' M P, a + n = sG s → (∀ c, c ≠ 7 → c ≠ 25 → c ≠ 26 → c ≠ 0 → X' c = X c) → (∀ i, i ≠ 42 → X' 0 i = X 0 i) → (∀ i, i < 10 → X' 7 i = nI (M i)) → mtP s (sFo s) (bef a 0) M → P ++ (remL (sG s) n).filter (fun p => kd s (sFo s) p.1 p.2 == 2) = ops s (sFo s) → X' 0 42 = nI P.length → OV X' 25 26 P 40 → hX9_plain_28 Q r (nI a) X' Y := by
    intro n
    induction n with
    | zero =>
      intro a X' M P ha f1 f2 hN hM hP h42 hO
      have e : X' 1 0 = nI (sG s) := by rw [f1 1 (by omega) (by omega) (by omega) (by omega)]; exact hV.1
      apply hX9_plain_28_i
      simp (disch := omega) only [m_0, m_L0, m_lt, m_le, m_eq, m_neg, m_in, m_clamp, m_add, m_sub, m_pred, m_mul, m_l, m_i, m_Land, m_Lor, m_and, m_or, m_xor, m_Landn, m_andn, m_LshlP, m_shl, m_LbitP, m_bit, m_cmp0P, m_Lb0, m_Lb1, m_b0, m_b1, Nat.one_mul, e]
      simp only [remL, List.filter_nil, List.append_nil] at hP
      refine ⟨by omega, fun _ => k X' f1 f2 (fun i hi => ?_) (by rw [h42, hP]) (hP ▸ hO), fun h => by omega⟩
      · have em := mtP_end hI hM (fun i j h1 h2 => ⟨h1, Or.inl (by omega)⟩) i
        rw [← em]; exact ⟨hN i hi, hM.1 i⟩
    | succ n ih =>
      intro a X' M P ha f1 f2 hN hM hP h42 hO
      have e : X' 1 0 = nI (sG s) := by rw [f1 1 (by omega) (by omega) (by omega) (by omega)]; exact hV.1
      apply hX9_plain_28_i
      simp (disch := omega) only [m_0, m_L0, m_lt, m_le, m_eq, m_neg, m_in, m_clamp, m_add, m_sub, m_pred, m_mul, m_l, m_i, m_Land, m_Lor, m_and, m_or, m_xor, m_Landn, m_andn, m_LshlP, m_shl, m_LbitP, m_bit, m_cmp0P, m_Lb0, m_Lb1, m_b0, m_b1, Nat.one_mul, e]
      refine ⟨by omega, fun h => by omega, fun _ => ?_⟩
      have ea : sG s - (n + 1) = a := by omega
      have eb : sG s - n = a + 1 := by omega
      rw [remL, ea, eb, List.filter_append, ← List.append_assoc] at hP
      have G : ∀ m b X' M P, b + m = sG s → a < b → (∀ c, c ≠ 7 → c ≠ 25 → c ≠ 26 → c ≠ 0 → X' c = X c) → (∀ i, i ≠ 42 → X' 0 i = X 0 i) → (∀ i, i < 10 → X' 7 i = nI (M i)) → mtP s (sFo s) (bef a b) M → (P ++ (rowL a b m).filter (fun p => kd s (sFo s) p.1 p.2 == 2)) ++ (remL (sG s) n).filter (fun p => kd s (sFo s) p.1 p.2 == 2) = ops s (sFo s) → X' 0 42 = nI P.length → OV X' 25 26 P 40 → hX9_plain_42 Q r (nI a) (nI b) X' Y := by
        intro m
        induction m with
        | zero =>
          intro b X' M P hb hab f1 f2 hN hM hP h42 hO
          have e : X' 1 0 = nI (sG s) := by rw [f1 1 (by omega) (by omega) (by omega) (by omega)]; exact hV.1
          apply hX9_plain_42_i
          simp (disch := omega) only [m_0, m_L0, m_lt, m_le, m_eq, m_neg, m_in, m_clamp, m_add, m_sub, m_pred, m_mul, m_l, m_i, m_Land, m_Lor, m_and, m_or, m_xor, m_Landn, m_andn, m_LshlP, m_shl, m_LbitP, m_bit, m_cmp0P, m_Lb0, m_Lb1, m_b0, m_b1, Nat.one_mul, e]
          simp only [rowL, List.filter_nil, List.append_nil] at hP
          refine ⟨by omega, fun _ => ih (a + 1) X' M P (by omega) f1 f2 hN ?_ hP h42 hO, fun h => by omega⟩
          exact mtP_skip hM (fun i j _ h1 h2 => ⟨fun q => ⟨h1, by have := q.2; omega⟩, fun q => ⟨h1, by have := q.2; omega⟩⟩) (fun i j q => q.1) (fun i j q => q.1)
        | succ m ihm =>
          intro b X' M P hb hab f1 f2 hN hM hP h42 hO
          have eX1 : X' 1 = X 1 := f1 1 (by omega) (by omega) (by omega) (by omega)
          have hV' : SV X' s := by unfold SV; rw [eX1]; exact hV
          have lP : P.length < 40 := by
            have h9 := congrArg List.length hP
            simp only [List.length_append] at h9
            omega
          apply hX9_plain_42_i
          simp (disch := omega) only [m_0, m_L0, m_lt, m_le, m_eq, m_neg, m_in, m_clamp, m_add, m_sub, m_pred, m_mul, m_l, m_i, m_Land, m_Lor, m_and, m_or, m_xor, m_Landn, m_andn, m_LshlP, m_shl, m_LbitP, m_bit, m_cmp0P, m_Lb0, m_Lb1, m_b0, m_b1, Nat.one_mul, hV'.1]
          refine ⟨by omega, fun h => by omega, fun _ => X9_kindOf_s hI hV' (by omega) (by omega) (cK1_mk ?_)⟩
          have k3 : kd s (sFo s) a b ≤ 2 := by
            unfold kd
            split
            · omega
            · rename_i j hj
              have := hI.2.2.1 j (rul_lt hj).1
              split <;> omega
          simp (disch := omega) only [m_0, m_L0, m_lt, m_le, m_eq, m_neg, m_in, m_clamp, m_add, m_sub, m_pred, m_mul, m_l, m_i, m_Land, m_Lor, m_and, m_or, m_xor, m_Landn, m_andn, m_LshlP, m_shl, m_LbitP, m_bit, m_cmp0P, m_Lb0, m_Lb1, m_b0, m_b1, Nat.one_mul]
          refine ⟨fun h0 => ⟨fun h2 => ?_, fun h2 => ?_⟩, fun h0 => ?_⟩
          · refine ihm (b + 1) X' M P (by omega) (by omega) f1 f2 hN (mtP_skip hM (fun i j hk h1 h2 => ⟨fun q => ⟨h1, ?_⟩, fun q => ⟨h1, by have := q.2; omega⟩⟩) (fun i j q => q.1) (fun i j q => q.1)) ?_ h42 hO
            · rcases q.2 with z | ⟨z1, z2⟩
              · exact Or.inl z
              · by_cases e : j = b
                · subst z1; subst e; exact absurd hk h0
                · exact Or.inr ⟨z1, by omega⟩
            · rw [rowL, List.filter_cons_of_neg (by simpa using h2)] at hP; exact hP
          · have h2 := Classical.not_not.mp h2
            rw [rowL, List.filter_cons_of_pos (by simpa using h2)] at hP
            simp (disch := omega) only [m_0, m_L0, m_lt, m_le, m_eq, m_neg, m_in, m_clamp, m_add, m_sub, m_pred, m_mul, m_l, m_i, m_Land, m_Lor, m_and, m_or, m_xor, m_Landn, m_andn, m_LshlP, m_shl, m_LbitP, m_bit, m_cmp0P, m_Lb0, m_Lb1, m_b0, m_b1, Nat.one_mul, h42, up2_out, up2_same]
            refine ⟨by omega, by omega, ihm (b + 1) _ M (P ++ [(a, b)]) (by omega) (by omega) (fun c q1 q2 q3 q4 => by rw [up2_row q4, up2_row q3, up2_row q2]; exact f1 c q1 q2 q3 q4) (fun i hi => by rw [up2_idx hi, up2_out (by omega), up2_out (by omega)]; exact f2 i hi) (fun i hi => by rw [up2_out (by omega), up2_out (by omega), up2_out (by omega)]; exact hN i hi) (mtP_skip hM (fun i j hk h1 _ => ⟨fun q => ⟨h1, ?_⟩, fun q => ⟨h1, by have := q.2; omega⟩⟩) (fun i j q => q.1) (fun i j q => q.1)) (by rw [List.append_assoc P]; exact hP) (by rw [up2_same]; simp) (OV_out (by omega) (by omega) (OV_put (by omega) hO))⟩
            · rcases q.2 with z | ⟨z1, z2⟩
              · exact Or.inl z
              · by_cases e : j = b
                · subst z1; subst e; rw [hk] at h2; omega
                · exact Or.inr ⟨z1, by omega⟩
          · have h0 := Classical.not_not.mp h0
            refine X9_link_s hN (by omega) (by omega) (by omega) (fun X2 w1 w2 => cK0_mk ⟨fun _ => ?_, fun h => absurd (by rw [h0]; omega) h⟩)
            refine ihm (b + 1) X2 (jn M a b) P (by omega) (by omega) (fun c q1 q2 q3 q4 => by rw [w1 c q1]; exact f1 c q1 q2 q3 q4) (fun i hi => by rw [w1 0 (by omega)]; exact f2 i hi) w2 (mtP_put hM (by omega) (by omega) g9 h0 (fun i j => ⟨fun q => ?_, fun q => ?_⟩)) ?_ (by rw [w1 0 (by omega)]; exact h42) (fun t p ht hp => by rw [w1 25 (by omega), w1 26 (by omega)]; exact hO t p ht hp)
            · rcases q.2 with z | ⟨z1, z2⟩
              · exact Or.inl ⟨q.1, Or.inl z⟩
              · by_cases e : j = b
                · exact Or.inr ⟨z1, e⟩
                · exact Or.inl ⟨q.1, Or.inr ⟨z1, by omega⟩⟩
            · rcases q with q | ⟨rfl, rfl⟩
              · exact ⟨q.1, q.2.imp id (fun z => ⟨z.1, by omega⟩)⟩
              · exact ⟨by omega, Or.inr ⟨rfl, by omega⟩⟩
            · rw [rowL, List.filter_cons_of_neg (by rw [h0]; decide)] at hP; exact hP
      exact G n (a + 1) X' M P (by omega) (by omega) f1 f2 hN (mtP_skip hM (fun i j _ h1 h2 => ⟨fun q => ⟨h1, by have := q.2; omega⟩, fun q => ⟨h1, by have := q.2; omega⟩⟩) (fun i j q => q.1) (fun i j q => q.1)) hP h42 hO
  have Z : ∀ n j X', j + n = 10 → (∀ c, c ≠ 7 → X' c = X c) → (∀ i, i < j → X' 7 i = nI 0) → hX9_plain_2 Q r (nI j) X' Y := by
    intro n
    induction n with
    | zero =>
      intro j X' hj f1 h0
      apply hX9_plain_2_i
      simp (disch := omega) only [m_0, m_L0, m_lt, m_le, m_eq, m_neg, m_in, m_clamp, m_add, m_sub, m_pred, m_mul, m_l, m_i, m_Land, m_Lor, m_and, m_or, m_xor, m_Landn, m_andn, m_LshlP, m_shl, m_LbitP, m_bit, m_cmp0P, m_Lb0, m_Lb1, m_b0, m_b1, Nat.one_mul]
      refine ⟨fun _ => H (sG s) 0 _ (fun _ => 0) [] (by omega) (fun c q1 q2 q3 q4 => by rw [up2_row q4]; exact f1 c q1) (fun i hi => by rw [up2_idx hi, f1 0 (by omega)]) (fun i hi => by rw [up2_out (by omega)]; exact h0 i (by omega)) ⟨fun i => by simp, fun i j => ⟨fun q => by simp [Eo] at q, fun q => ?_⟩⟩ (by rw [List.nil_append]; rfl) (by rw [up2_same]; rfl) (fun k p h hp => by simp at hp), fun h => by omega⟩
      obtain ⟨-, -, -, -, q | q⟩ := q
      · have := q.2; omega
      · have := q.2; omega
    | succ n ih =>
      intro j X' hj f1 h0
      apply hX9_plain_2_i
      simp (disch := omega) only [m_0, m_L0, m_lt, m_le, m_eq, m_neg, m_in, m_clamp, m_add, m_sub, m_pred, m_mul, m_l, m_i, m_Land, m_Lor, m_and, m_or, m_xor, m_Landn, m_andn, m_LshlP, m_shl, m_LbitP, m_bit, m_cmp0P, m_Lb0, m_Lb1, m_b0, m_b1, Nat.one_mul]
      refine ⟨fun h => by omega, fun _ => ⟨by omega, ih (j + 1) _ (by omega) (fun c hc => by rw [up2_row hc]; exact f1 c hc) (fun i hi => ?_)⟩⟩
      by_cases e : i = j
      · rw [e, up2_same]
      · rw [up2_idx e]; exact h0 i (by omega)
  apply tX9_plain_i
  exact Z 10 0 X (by omega) (fun _ _ => rfl) (fun i h => by omega)
end PlainM
