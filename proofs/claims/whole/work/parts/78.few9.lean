/-! the fewest that would do, by the reference; checks; THE THREE -/
def fwR (good : Nat → Prop) (j : Nat) (X : HX) : Prop := (X 0 43 = -1 ∧ ∀ S, S < j → ¬ good S) ∨ ∃ w, lsP good j w ∧ X 0 43 = nI (cnt w) ∧ X 0 44 = nI w ∧ X 0 45 = nI (gSz (fun S => good S ∧ cnt S = cnt w) j)
section Few9
variable {CM : HX → St → Prop} {X X' : HX} {Y Y' : HY} {s : St} {r : Ly} {Q : Qt} {good : Nat → Prop} {j : Nat}
theorem fwR.of (h : fwR good j X) (e1 : X' 0 43 = X 0 43) (e2 : X' 0 44 = X 0 44) (e3 : X' 0 45 = X 0 45) : fwR good j X' := by
  unfold fwR at h ⊢; rw [e1, e2, e3]; exact h
theorem fwR.skip (h : fwR good j X) (hn : ¬ good j) : fwR good (j + 1) X := by
  rcases h with ⟨h1, h2⟩ | ⟨w, hw, h1, h2, h3⟩
  · refine Or.inl ⟨h1, fun S hS hg => ?_⟩
    by_cases e : S = j
    · subst e; exact hn hg
    · exact h2 S (by omega) hg
  · refine Or.inr ⟨w, ⟨by have := hw.1; omega, hw.2.1, fun S hS hg => ?_⟩, h1, h2, ?_⟩
    · by_cases e : S = j
      · subst e; exact absurd hg hn
      · exact hw.2.2 S (by omega) hg
    · rw [h3]; simp only [gSz]; rw [if_neg (fun y => hn y.1)]; rfl
theorem X9_would_s (h : fwR good j X) (hg : good j) (hj : j < 1048576) (k : ∀ X', ScM X X' Y Y → (∀ c, c ≠ 0 → X' c = X c) → (∀ i, i ≠ 43 → i ≠ 44 → i ≠ 45 → X' 0 i = X 0 i) → fwR good (j + 1) X' → Q (.inl none) (LX9 ++ r) X' Y) : tX9_would [.ref 0, .int (nI j)] (LX9 ++ r) X Y Q := by
  have hcl := cnt_le j
  have fr : ∀ a b c : Int32, ScM X (up2 (up2 (up2 X 0 43 a) 0 44 b) 0 45 c) Y Y := fun a b c => ((ScM.up (by decide)).trans (.up (by decide))).trans (.up (by decide))
  have first : (∀ S, S < j → good S → cnt j < cnt S) → fwR good (j + 1) (up2 (up2 (up2 (up2 X 0 43 (nI (cnt j))) 0 44 (nI j)) 0 45 (nI 0)) 0 45 (nI 1)) := fun hI => by
    refine Or.inr ⟨j, ⟨by omega, hg, fun S hS hgS => ?_⟩, ?_, ?_, ?_⟩
    · by_cases e : S = j
      · subst e; exact Or.inr ⟨rfl, Nat.le_refl _⟩
      · exact Or.inl (hI S (by omega) hgS)
    · rw [up2_idx (by omega), up2_idx (by omega), up2_idx (by omega), up2_same]
    · rw [up2_idx (by omega), up2_idx (by omega), up2_same]
    · rw [up2_same]
      have z : ∀ i, i ≤ j → gSz (fun S => good S ∧ cnt S = cnt j) i = 0 := by
        intro i
        induction i with
        | zero => intro _; rfl
        | succ i ihi =>
          intro hi
          simp only [gSz]
          rw [ihi (by omega), if_neg (fun y => by have := hI i (by omega) y.1; have := y.2; omega)]
      simp only [gSz]
      rw [z j (Nat.le_refl _), if_pos ⟨hg, rfl⟩]
  have kf : (∀ S, S < j → good S → cnt j < cnt S) → Q (.inl none) (LX9 ++ r) (up2 (up2 (up2 (up2 X 0 43 (nI (cnt j))) 0 44 (nI j)) 0 45 (nI 0)) 0 45 (nI 1)) Y := fun hI => k _ ((fr _ _ _).trans (.up (by decide))) (fun c hc => by rw [up2_row hc, up2_row hc, up2_row hc, up2_row hc]) (fun i a b c => by rw [up2_idx c, up2_idx c, up2_idx b, up2_idx a]) (first hI)
  apply tX9_would_i
  refine bc32 (by omega) (cK1_mk ?_)
  have ee : up2 (up2 (up2 X 0 43 (nI (cnt j))) 0 44 (nI j)) 0 45 (nI 0) 0 43 = nI (cnt j) := by rw [up2_idx (by omega), up2_idx (by omega), up2_same]
  have e45 : up2 (up2 (up2 X 0 43 (nI (cnt j))) 0 44 (nI j)) 0 45 (nI 0) 0 45 + nI 1 = nI 1 := by rw [up2_same, m_add]
  rw [ee, e45]
  rcases h with ⟨h1, h2⟩ | ⟨w, hw, h1, h2, h3⟩
  · exact ⟨fun _ => ⟨fun q => absurd rfl q, fun _ => kf (fun S hS hgS => absurd hgS (h2 S hS))⟩, fun q => absurd h1 q⟩
  · have hcw := cnt_le w
    have bj := gSz_bd (P := fun S => good S ∧ cnt S = cnt w) (n := j)
    rw [h1]
    refine ⟨fun q => absurd q (nI_m1 (by omega)), fun _ => ⟨fun hle => ⟨fun hne => ?_, fun heq => ?_⟩, fun hle => ⟨fun q => absurd rfl q, fun _ => kf (fun S hS hgS => ?_)⟩⟩⟩
    · rw [m_le (by omega) (by omega)] at hle
      rw [m_eq (by omega) (by omega)] at hne
      refine k X .rfl (fun _ _ => rfl) (fun _ _ _ _ => rfl) (Or.inr ⟨w, ⟨by have := hw.1; omega, hw.2.1, fun S hS hgS => ?_⟩, h1, h2, ?_⟩)
      · by_cases e : S = j
        · subst e; omega
        · exact hw.2.2 S (by omega) hgS
      · rw [h3]; simp only [gSz]; rw [if_neg (fun y => hne y.2)]; rfl
    · have heq := Classical.not_not.mp heq
      rw [m_eq (by omega) (by omega)] at heq
      rw [h3, m_add]
      refine k _ (.up (by decide)) (fun c hc => up2_row hc) (fun i _ _ c => up2_idx c) (Or.inr ⟨w, ⟨by have := hw.1; omega, hw.2.1, fun S hS hgS => ?_⟩, by rw [up2_idx (by omega)]; exact h1, by rw [up2_idx (by omega)]; exact h2, ?_⟩)
      · by_cases e : S = j
        · subst e; have := hw.1; omega
        · exact hw.2.2 S (by omega) hgS
      · rw [up2_same]; simp only [gSz]; rw [if_pos ⟨hg, heq⟩]
    · rw [m_le (by omega) (by omega)] at hle
      have := hw.2.2 S hS hgS
      omega
theorem X9_best_s {N : Nat} {p : Int32} (h : fwR good N X) (k : Q (rI (fewA good N p)) (LX9 ++ r) X Y) : tX9_best [.ref 0, .int p] (LX9 ++ r) X Y Q := by
  apply tX9_best_i
  rcases h with ⟨h1, h2⟩ | ⟨w, hw, h1, h2, h3⟩
  · rw [fewA_n h2] at k
    exact ⟨fun q => absurd h1 q, fun _ => k⟩
  · have hcw := cnt_le w
    rw [fewA_y hw] at k
    rw [h1, h2, h3]
    refine ⟨fun _ => ⟨fun q1 => ⟨fun q2 => ?_, fun q2 => ?_⟩, fun q1 => ?_⟩, fun q => absurd (nI_m1 (by omega)) q⟩
    · rw [if_neg q1, if_neg q2] at k; exact k
    · rw [if_neg q1, if_pos (Classical.not_not.mp q2)] at k; exact k
    · rw [if_pos (Classical.not_not.mp q1)] at k; exact k
/-- 0 to n -/
theorem in_iff {p : Int32} {n : Nat} {z : Bool} (hn : n < 2147483648) (hz : z = true ↔ ¬ p < nI 0 ∧ ¬ nI n < p) : (p < 0 ∨ ¬ p ≤ nI n) ↔ ¬ z = true := by
  rw [hz]
  rcases i32c p with q | ⟨g, hg, rfl⟩
  · exact ⟨fun _ y => y.1 q, fun _ => Or.inl q⟩
  · rw [m_le hg hn, m_lt (a := n) hn hg, m_lt hg (by omega)]
    have := nI_nn hg
    constructor
    · rintro (q | q)
      · exact absurd q this
      · intro y; omega
    · intro y; right; intro q; exact y ⟨by omega, by omega⟩
theorem X9_leave_s {p : Int32} (h : Mw CM X Y s) (k : ∀ X' Y' res, ScM X X' Y Y' → Mw CM X' Y' s → ansM cd1 (aLeave s p) (X' 0 0) res → Q res (LX9 ++ r) X' Y') : tX9_leave [.ref 0, .int p] (LX9 ++ r) X Y Q := by
  have g9 := h.si.1
  have hT := pw9 g9
  have hT0 := Nat.two_pow_pos (sG s)
  have sc : ∀ v, ScM X (up2 X 0 0 v) Y Y := fun v => .up (by decide)
  apply tX9_leave_i
  refine Q9_in (by omega) (by omega) (fun z hz => cK1_mk ?_)
  have iff := in_iff (n := 2) (by omega) hz
  refine ⟨fun q => ?_, fun q => ?_⟩
  · have hn : ¬ (p < 0 ∨ ¬ p ≤ nI 2) := fun y => iff.mp y (z11 q)
    rw [up2_same]
    refine ⟨fun _ => Q9_plain (h.sc (sc _)) (fun X1 sc1 e1 h1 n1 _ _ => cK0_mk ?_), fun y => absurd (show nI 0 ≤ 0 by decide) y⟩
    have H : ∀ t j X2, j + t = 2 ^ sG s → ScM X X2 Y Y → X2 0 0 = nI 0 → Mw CM X2 Y s → NV X2 (Ms s) → fwR (goodL s) j X2 → hX9_leave_38 Q r p (nI j) X2 Y := by
      intro t
      induction t with
      | zero =>
        intro j X2 hj sc2 e2 h2 n2 hf
        have ej : j = 2 ^ sG s := by omega
        apply hX9_leave_38_i
        refine Q9_all h2 (cK1_mk ?_)
        simp (disch := omega) only [m_0, m_L0, m_lt, m_le, m_eq, m_neg, m_in, m_clamp, m_add, m_sub, m_pred, m_mul, m_l, m_i, m_Land, m_Lor, m_and, m_or, m_xor, m_Landn, m_andn, m_LshlP, m_shl, m_LbitP, m_bit, m_cmp0P, m_Lb0, m_Lb1, m_b0, m_b1, Nat.one_mul]
        refine ⟨fun _ => X9_best_s (ej ▸ hf) (cK1_mk ?_), fun h => by omega⟩
        have kk := k X2 Y (rI (fewA (goodL s) (2 ^ sG s) p)) sc2 h2
        unfold aLeave at kk
        rw [e2, cif_n hn] at kk
        exact kk ⟨rfl, rfl⟩
      | succ t ih =>
        intro j X2 hj sc2 e2 h2 n2 hf
        have hjT : j < 2 ^ sG s := by omega
        have hnA : nAn (2 ^ sG s - 1) j < 2 ^ sG s := Nat.lt_of_le_of_lt (nAn_le _ _) (full_lt _)
        apply hX9_leave_38_i
        refine Q9_all h2 (cK1_mk ?_)
        simp (disch := omega) only [m_0, m_L0, m_lt, m_le, m_eq, m_neg, m_in, m_clamp, m_add, m_sub, m_pred, m_mul, m_l, m_i, m_Land, m_Lor, m_and, m_or, m_xor, m_Landn, m_andn, m_LshlP, m_shl, m_LbitP, m_bit, m_cmp0P, m_Lb0, m_Lb1, m_b0, m_b1, Nat.one_mul]
        refine ⟨fun h => by omega, fun _ => Q9_all h2 (cK1_mk ?_)⟩
        simp (disch := omega) only [m_0, m_L0, m_lt, m_le, m_eq, m_neg, m_in, m_clamp, m_add, m_sub, m_pred, m_mul, m_l, m_i, m_Land, m_Lor, m_and, m_or, m_xor, m_Landn, m_andn, m_LshlP, m_shl, m_LbitP, m_bit, m_cmp0P, m_Lb0, m_Lb1, m_b0, m_b1, Nat.one_mul]
        refine Q9_canBe h2 n2 (by omega) (fun y X3 sc3 f3 h3 n3 hy => cK1_mk ⟨fun q2 => ?_, fun q2 => ?_⟩)
        · exact ih (j + 1) X3 (by omega) (sc2.trans sc3) (by rw [f3 0 (by omega)]; exact e2) h3 n3 ((hf.of (by rw [f3 0 (by omega)]) (by rw [f3 0 (by omega)]) (by rw [f3 0 (by omega)])).skip (fun g => by rw [hy.mpr g] at q2; exact absurd q2 (by decide)))
        · refine X9_would_s (good := goodL s) (j := j) (hf.of (by rw [f3 0 (by omega)]) (by rw [f3 0 (by omega)]) (by rw [f3 0 (by omega)])) (hy.mp (z11 q2)) (by omega) (fun X4 sc4 f4 g4 hf4 => cK0_mk ?_)
          exact ih (j + 1) X4 (by omega) ((sc2.trans sc3).trans sc4) (by rw [g4 0 (by omega) (by omega) (by omega), f3 0 (by omega)]; exact e2) (h3.sc sc4) (fun i hi => by rw [f4 7 (by omega)]; exact n3 i hi) hf4
    exact H _ 0 _ (Nat.zero_add _) (((sc _).trans sc1).trans (.up (by decide))) (by rw [up2_idx (by omega), e1, up2_same]) (h1.sc (.up (by decide))) (fun i hi => by rw [up2_row (by omega)]; exact n1 i hi) (Or.inl ⟨up2_same, fun S hS => by omega⟩)
  · have hy : p < 0 ∨ ¬ p ≤ nI 2 := iff.mpr (fun y => q (by rw [y]; decide))
    rw [up2_same]
    refine ⟨fun y => absurd y (show ¬ nI 1 ≤ 0 by decide), fun _ => k _ _ _ (sc _) (h.sc (sc _)) ?_⟩
    unfold aLeave
    rw [cif_y hy]
    exact ⟨up2_same, _, rfl⟩
/-- THE THREE by the reference -/
theorem X9_three_s {p : Int32} (h : Mw CM X Y s) (k : ∀ X' Y' res, ScM X X' Y Y' → Mw CM X' Y' s → ansM cd1 (aThree s p) (X' 0 0) res → Q res (LX9 ++ r) X' Y') : tX9_three [.ref 0, .int p] (LX9 ++ r) X Y Q := by
  have g9 := h.si.1
  have s0 : ScM X (up2 X 0 0 (nI 0)) Y Y := .up (by decide)
  apply tX9_three_i
  refine Q9_in (by omega) (by omega) (fun z hz => cK1_mk ?_)
  have iff := in_iff (n := 2) (by omega) hz
  refine ⟨fun q => ?_, fun q => ?_⟩
  · have hn : ¬ (p < 0 ∨ ¬ p ≤ nI 2) := fun y => iff.mp y (z11 q)
    refine Q9_plain (h.sc s0) (fun X1 sc1 e1 h1 n1 _ _ => cK0_mk (Q9_all h1 (cK1_mk ?_)))
    refine X9_floods_s n1 (full10 h.si) (fun X2 f2 fv => cK0_mk ?_)
    have sc2 : ScM X1 X2 Y Y := .cell (by decide) f2
    have h2 := h1.sc sc2
    have n2 : NV X2 (Ms s) := fun i hi => by rw [f2 7 (by omega)]; exact n1 i hi
    have h10 := h2.sv.1
    have kk := fun res => k X2 Y res ((s0.trans sc1).trans sc2) h2
    unfold aThree at kk
    rw [f2 0 (by omega), e1, up2_same] at kk
    have bf : ∀ v, v < sG s → Bs (2 ^ sG s - 1) v := fun v hv => bs_full.mpr hv
    have mem : ∀ a b c, th3 (Ms s) (2 ^ sG s - 1) a b c → a < sG s ∧ b < sG s ∧ c < sG s := fun a b c h => ⟨bs_full.mp h.2.1.1.1, bs_full.mp h.1.1.1, bs_full.mp (gRch.mem h.1.1 h.1.2).1⟩
    have none' : (∀ a b c, a < b → b < c → ¬ th3 (Ms s) (2 ^ sG s - 1) a b c) → Q (rI (-1)) (LX9 ++ r) X2 Y := fun hI => by
      rw [thQ_eq (z := -1) (Or.inl ⟨rfl, fun a b c _ _ h1 h2 => hI a b c h1 h2⟩), cif_y (show zI (-1) = -1 ∨ p < 0 ∨ ¬ p ≤ nI 2 from Or.inl rfl)] at kk
      exact kk _ ⟨rfl, rfl⟩
    have H : ∀ t a, a + t = sG s → (∀ a' b c, a' < a → a' < b → b < c → ¬ th3 (Ms s) (2 ^ sG s - 1) a' b c) → hX9_three_30 Q r p (nI a) X2 Y := by
      intro t
      induction t with
      | zero =>
        intro a ha hI
        apply hX9_three_30_i
        simp (disch := omega) only [m_0, m_L0, m_lt, m_le, m_eq, m_neg, m_in, m_clamp, m_add, m_sub, m_pred, m_mul, m_l, m_i, m_Land, m_Lor, m_and, m_or, m_xor, m_Landn, m_andn, m_LshlP, m_shl, m_LbitP, m_bit, m_cmp0P, m_Lb0, m_Lb1, m_b0, m_b1, Nat.one_mul, h10]
        exact ⟨by omega, fun _ => none' (fun a' b c h1 h2 h3 => hI a' b c (by have := (mem a' b c h3).1; omega) h1 h2 h3), fun h => by omega⟩
      | succ t ih =>
        intro a ha hI
        apply hX9_three_30_i
        simp (disch := omega) only [m_0, m_L0, m_lt, m_le, m_eq, m_neg, m_in, m_clamp, m_add, m_sub, m_pred, m_mul, m_l, m_i, m_Land, m_Lor, m_and, m_or, m_xor, m_Landn, m_andn, m_LshlP, m_shl, m_LbitP, m_bit, m_cmp0P, m_Lb0, m_Lb1, m_b0, m_b1, Nat.one_mul, h10]
        refine ⟨by omega, fun h => by omega, fun _ => ?_⟩
        have B : ∀ q b, b + q = sG s → a < b → (∀ b' c, b' < b → a < b' → b' < c → ¬ th3 (Ms s) (2 ^ sG s - 1) a b' c) → hX9_three_44 Q r p (nI a) (nI b) X2 Y := by
          intro q
          induction q with
          | zero =>
            intro b hb hab hB
            apply hX9_three_44_i
            simp (disch := omega) only [m_0, m_L0, m_lt, m_le, m_eq, m_neg, m_in, m_clamp, m_add, m_sub, m_pred, m_mul, m_l, m_i, m_Land, m_Lor, m_and, m_or, m_xor, m_Landn, m_andn, m_LshlP, m_shl, m_LbitP, m_bit, m_cmp0P, m_Lb0, m_Lb1, m_b0, m_b1, Nat.one_mul, h10]
            refine ⟨by omega, fun _ => ih (a + 1) (by omega) (fun a' b' c q1 q2 q3 q4 => ?_), fun h => by omega⟩
            by_cases e : a' = a
            · subst e; exact hB b' c (by have := (mem _ _ _ q4).2.1; omega) q2 q3 q4
            · exact hI a' b' c (by omega) q2 q3 q4
          | succ q ihb =>
            intro b hb hab hB
            apply hX9_three_44_i
            simp (disch := omega) only [m_0, m_L0, m_lt, m_le, m_eq, m_neg, m_in, m_clamp, m_add, m_sub, m_pred, m_mul, m_l, m_i, m_Land, m_Lor, m_and, m_or, m_xor, m_Landn, m_andn, m_LshlP, m_shl, m_LbitP, m_bit, m_cmp0P, m_Lb0, m_Lb1, m_b0, m_b1, Nat.one_mul, h10]
            refine ⟨by omega, fun h => by omega, fun _ => ?_⟩
            have C : ∀ u c, c + u = sG s → b < c → (∀ c', c' < c → b < c' → ¬ th3 (Ms s) (2 ^ sG s - 1) a b c') → hX9_three_59 Q r p (nI a) (nI b) (nI c) X2 Y := by
              intro u
              induction u with
              | zero =>
                intro c hc hbc hC
                apply hX9_three_59_i
                simp (disch := omega) only [m_0, m_L0, m_lt, m_le, m_eq, m_neg, m_in, m_clamp, m_add, m_sub, m_pred, m_mul, m_l, m_i, m_Land, m_Lor, m_and, m_or, m_xor, m_Landn, m_andn, m_LshlP, m_shl, m_LbitP, m_bit, m_cmp0P, m_Lb0, m_Lb1, m_b0, m_b1, Nat.one_mul, h10]
                refine ⟨by omega, fun _ => ihb (b + 1) (by omega) (by omega) (fun b' c' q1 q2 q3 q4 => ?_), fun h => by omega⟩
                by_cases e : b' = b
                · subst e; exact hC c' (by have := (mem _ _ _ q4).2.2; omega) q3 q4
                · exact hB b' c' (by omega) q2 q3 q4
              | succ u ihc =>
                intro c hc hbc hC
                apply hX9_three_59_i
                simp (disch := omega) only [m_0, m_L0, m_lt, m_le, m_eq, m_neg, m_in, m_clamp, m_add, m_sub, m_pred, m_mul, m_l, m_i, m_Land, m_Lor, m_and, m_or, m_xor, m_Landn, m_andn, m_LshlP, m_shl, m_LbitP, m_bit, m_cmp0P, m_Lb0, m_Lb1, m_b0, m_b1, Nat.one_mul, h10]
                refine ⟨by omega, fun h => by omega, fun _ => X9_isThree_s n2 (Ms_gm h.si) (full10 h.si) fv (bf a (by omega)) (bf b (by omega)) (bf c (by omega)) (by omega) (by omega) (by omega) (fun y hy => cK1_mk ⟨fun q2 => ihc (c + 1) (by omega) (by omega) (fun c' q3 q4 q5 => ?_), fun q2 => ?_⟩)⟩
                · by_cases e : c' = c
                  · subst e; rw [hy.mpr q5] at q2; exact absurd q2 (by decide)
                  · exact hC c' (by omega) q4 q5
                · have ht := hy.mp (z11 q2)
                  have hR : th3R (Ms s) (2 ^ sG s - 1) ((a + 64 * b + 4096 * c : Nat) : Int) := Or.inr ⟨a, b, c, rfl, hab, hbc, by omega, ht, fun a' b' c' _ _ q3 q4 q5 => by
                    by_cases e1 : a' < a
                    · exact absurd q5 (hI a' b' c' e1 q3 q4)
                    · by_cases e2 : a' = a
                      · subst e2
                        refine Or.inr ⟨rfl, ?_⟩
                        by_cases e3 : b' < b
                        · exact absurd q5 (hB b' c' e3 q3 q4)
                        · by_cases e4 : b' = b
                          · subst e4
                            exact Or.inr ⟨rfl, Nat.le_of_not_lt (fun z => hC c' z q4 q5)⟩
                          · exact Or.inl (by omega)
                      · exact Or.inl (by omega)⟩
                  rw [thQ_eq hR, m_zI, cif_n (fun y => y.elim (nI_m1 (by omega)) hn)] at kk
                  rcases i32c p with y | ⟨g, hg, rfl⟩
                  · exact absurd (Or.inl y) hn
                  · have hg2 : g ≤ 2 := (m_le hg (by omega)).mp (Classical.not_not.mp (fun y => hn (Or.inr y)))
                    rw [dec3 (by omega) (by omega) (by omega) (by omega)] at kk
                    have c3 : g = 0 ∨ g = 1 ∨ g = 2 := by omega
                    rcases c3 with rfl | rfl | rfl
                    · exact ⟨fun u => absurd rfl u, fun _ => kk _ ⟨rfl, rfl⟩⟩
                    · exact ⟨fun _ => ⟨fun u => absurd rfl u, fun _ => kk _ ⟨rfl, rfl⟩⟩, fun u => (u (by decide)).elim⟩
                    · exact ⟨fun _ => ⟨fun _ => kk _ ⟨rfl, rfl⟩, fun u => (u (by decide)).elim⟩, fun u => (u (by decide)).elim⟩
            exact C _ (b + 1) (Nat.add_sub_cancel' (by omega : b + 1 ≤ sG s)) (by omega) (fun c' h1 h2 => by omega)
        exact B _ (a + 1) (Nat.add_sub_cancel' (by omega : a + 1 ≤ sG s)) (by omega) (fun b' c' h1 h2 => by omega)
    exact H _ 0 (Nat.zero_add _) (fun a' b c h => by omega)
  · have hy : p < 0 ∨ ¬ p ≤ nI 2 := iff.mpr (fun y => q (by rw [y]; decide))
    refine k _ _ _ s0 (h.sc s0) ?_
    unfold aThree
    rw [cif_y (Or.inr hy)]
    exact ⟨up2_same, rfl⟩
end Few9
/-- what is asked of a set: laid, a ring, else -/
noncomputable def chkQ (s : St) (S : Nat) : Nat := cif (cnB (Ms s) S) 0 (cif (rgP (Ms s) S) 1 (cif (∀ v, Bs S v → cnB (Ms s) (nAn S (2 ^ v))) 2 3))
noncomputable def aCheck (s : St) (u : Nat) : Rs := rI (nI (chkQ s (u &&& (2 ^ sG s - 1))))
theorem and_full {u G : Nat} : u &&& (2 ^ G - 1) < 2 ^ G := Nat.lt_of_le_of_lt Nat.and_le_right (full_lt G)
theorem nI_all (x : Int32) : ∃ u, u < 4294967296 ∧ x = nI u := ⟨x.toUInt32.toNat, x.toUInt32.toNat_lt, by
  apply Int32.toBitVec_inj.mp; apply BitVec.eq_of_toNat_eq
  simp only [nI, Int32.toBitVec_ofNat', BitVec.toNat_ofNat]
  rw [Nat.mod_eq_of_lt x.toUInt32.toNat_lt]; rfl⟩
section Check8
variable {CK S1 S2 : HX → St → Prop} {X X' : HX} {Y Y' : HY} {s : St} {b : Bool} {Q : Qt}
theorem X8_check_s {u : Nat} (h : Qw CK S1 S2 X Y s) (k : ∀ X' Y', Kp b X X' Y Y' → Qw CK S1 S2 X' Y' s → Q (aCheck s u) (LX8 b) X' Y') : tX8_check b [.ref 0, .int (nI u)] (LX8 b) X Y Q := by
  have g9 := h.si.1
  have hT := pw9 g9
  have hS : u &&& (2 ^ sG s - 1) < 2 ^ sG s := and_full
  unfold aCheck at k
  apply tX8_check_i
  refine Q8_pairs h (fun X1 Y1 kp hq pk => cK0_mk (Q8_all hq (cK2_mk ?_)))
  rw [m_and64 (by omega)]
  revert hS k
  generalize u &&& (2 ^ sG s - 1) = S
  intro k hS
  refine Q8_layable hq pk hS (fun z X2 Y2 sc2 hq2 pk2 hz => ⟨fun q => ?_, fun q => ?_⟩)
  · have hn : ¬ cnB (Ms s) S := fun y => by rw [hz.mpr y] at q; exact absurd q (by decide)
    unfold chkQ at k
    rw [cif_n hn] at k
    refine Q8_isRing hq2 pk2 hS (fun z3 X3 Y3 sc3 hq3 pk3 hz3 => ⟨fun q3 => ?_, fun q3 => ?_⟩)
    · have hn3 : ¬ rgP (Ms s) S := fun y => by rw [hz3.mpr y] at q3; exact absurd q3 (by decide)
      rw [cif_n hn3] at k
      have H : ∀ t v X4 Y4, v + t = sG s → Kp b X X4 Y Y4 → Qw CK S1 S2 X4 Y4 s → PKo X4 Y4 s → (∀ w, w < v → Bs S w → cnB (Ms s) (nAn S (2 ^ w))) → hX8_check_41 Q b (lN S) (nI v) X4 Y4 := by
        intro t
        induction t with
        | zero =>
          intro v X4 Y4 hv kp4 hq4 pk4 hI
          apply hX8_check_41_i
          rw [hq4.bv.1]
          simp (disch := omega) only [m_0, m_L0, m_lt, m_le, m_eq, m_neg, m_in, m_clamp, m_add, m_sub, m_pred, m_mul, m_l, m_i, m_Land, m_Lor, m_and, m_or, m_xor, m_Landn, m_andn, m_LshlP, m_shl, m_LbitP, m_bit, m_cmp0P, m_Lb0, m_Lb1, m_b0, m_b1, Nat.one_mul]
          refine ⟨fun _ => ?_, fun h => by omega⟩
          have k' := k _ _ kp4 hq4
          rw [cif_y (fun w hw => hI w (by have := bit_lt hS hw; omega) hw)] at k'
          exact k'
        | succ t ih =>
          intro v X4 Y4 hv kp4 hq4 pk4 hI
          have l1 := nAn_le S (2 ^ v)
          apply hX8_check_41_i
          rw [hq4.bv.1]
          simp (disch := omega) only [m_0, m_L0, m_lt, m_le, m_eq, m_neg, m_in, m_clamp, m_add, m_sub, m_pred, m_mul, m_l, m_i, m_Land, m_Lor, m_and, m_or, m_xor, m_Landn, m_andn, m_LshlP, m_shl, m_LbitP, m_bit, m_cmp0P, m_Lb0, m_Lb1, m_b0, m_b1, Nat.one_mul]
          refine ⟨fun h => by omega, fun _ => ⟨fun hb => ih (v + 1) X4 Y4 (by omega) kp4 hq4 pk4 (fun w hw hwS => ?_), fun hb => Q8_layable hq4 pk4 (by omega) (fun z5 X5 Y5 sc5 hq5 pk5 hz5 => ⟨fun q5 => ih (v + 1) X5 Y5 (by omega) (kp4.trans sc5.kp) hq5 pk5 (fun w hw hwS => ?_), fun q5 => ?_⟩)⟩⟩
          · by_cases e : w = v
            · subst e; exact absurd hwS (bsF.mpr hb)
            · exact hI w (by omega) hwS
          · by_cases e : w = v
            · subst e; exact hz5.mp (z11 q5)
            · exact hI w (by omega) hwS
          · have k' := k _ _ (kp4.trans sc5.kp) hq5
            rw [cif_n (fun y => q5 (by rw [hz5.mpr (y v (nz_nz hb))]; decide))] at k'
            exact k'
      exact H _ 0 X3 Y3 (Nat.zero_add _) ((kp.trans sc2.kp).trans sc3.kp) hq3 pk3 (fun w hw => by omega)
    · rw [cif_y (hz3.mp (z11 q3))] at k
      exact k _ _ ((kp.trans sc2.kp).trans sc3.kp) hq3
  · unfold chkQ at k
    rw [cif_y (hz.mp (z11 q))] at k
    exact k _ _ (kp.trans sc2.kp) hq2
end Check8
section Check9
variable {CM : HX → St → Prop} {X X' : HX} {Y Y' : HY} {s : St} {r : Ly} {Q : Qt}
theorem X9_check_s {u : Nat} (h : Mw CM X Y s) (k : ∀ X' Y' res, ScM X X' Y Y' → Mw CM X' Y' s → ansM cd1 (aCheck s u) (X' 0 0) res → Q res (LX9 ++ r) X' Y') : tX9_check [.ref 0, .int (nI u)] (LX9 ++ r) X Y Q := by
  have s0 : ScM X (up2 X 0 0 (nI 0)) Y Y := .up (by decide)
  have g9 := h.si.1
  have hT := pw9 g9
  have hS : u &&& (2 ^ sG s - 1) < 2 ^ sG s := and_full
  unfold aCheck at k
  apply tX9_check_i
  refine Q9_plain (h.sc s0) (fun X1 sc1 e1 h1 n1 _ _ => cK0_mk (Q9_all h1 (cK1_mk ?_)))
  rw [m_and]
  revert hS k
  generalize u &&& (2 ^ sG s - 1) = S
  intro k hS
  have kk : ∀ X2, ScM X1 X2 Y Y → X2 0 0 = X1 0 0 → Mw CM X2 Y s → Q (rI (nI (chkQ s S))) (LX9 ++ r) X2 Y := fun X2 sc2 e2 h2 => k X2 Y _ ((s0.trans sc1).trans sc2) h2 ⟨by rw [e2, e1, up2_same], rfl⟩
  refine Q9_canBe h1 n1 (by omega) (fun z X2 sc2 f2 h2 n2 hz => cK1_mk ⟨fun q => ?_, fun q => ?_⟩)
  · have hn : ¬ cnB (Ms s) S := fun y => by rw [hz.mpr y] at q; exact absurd q (by decide)
    unfold chkQ at kk
    rw [cif_n hn] at kk
    refine X9_isRing_s n2 (Ms_gm h.si) (by omega) (fun z3 hz3 => cK1_mk ⟨fun q3 => ?_, fun q3 => ?_⟩)
    · have hn3 : ¬ rgP (Ms s) S := fun y => by rw [hz3.mpr y] at q3; exact absurd q3 (by decide)
      rw [cif_n hn3] at kk
      have H : ∀ t v X4, v + t = sG s → ScM X1 X4 Y Y → X4 0 0 = X1 0 0 → Mw CM X4 Y s → NV X4 (Ms s) → (∀ w, w < v → Bs S w → cnB (Ms s) (nAn S (2 ^ w))) → hX9_check_38 Q r (nI S) (nI v) X4 Y := by
        intro t
        induction t with
        | zero =>
          intro v X4 hv sc4 e4 h4 n4 hI
          apply hX9_check_38_i
          simp (disch := omega) only [m_0, m_L0, m_lt, m_le, m_eq, m_neg, m_in, m_clamp, m_add, m_sub, m_pred, m_mul, m_l, m_i, m_Land, m_Lor, m_and, m_or, m_xor, m_Landn, m_andn, m_LshlP, m_shl, m_LbitP, m_bit, m_cmp0P, m_Lb0, m_Lb1, m_b0, m_b1, Nat.one_mul, h4.sv.1]
          refine ⟨by omega, fun _ => ?_, fun h => by omega⟩
          have k' := kk X4 sc4 e4 h4
          rw [cif_y (fun w hw => hI w (by have := bit_lt hS hw; omega) hw)] at k'
          exact k'
        | succ t ih =>
          intro v X4 hv sc4 e4 h4 n4 hI
          have l1 := nAn_le S (2 ^ v)
          apply hX9_check_38_i
          simp (disch := omega) only [m_0, m_L0, m_lt, m_le, m_eq, m_neg, m_in, m_clamp, m_add, m_sub, m_pred, m_mul, m_l, m_i, m_Land, m_Lor, m_and, m_or, m_xor, m_Landn, m_andn, m_LshlP, m_shl, m_LbitP, m_bit, m_cmp0P, m_Lb0, m_Lb1, m_b0, m_b1, Nat.one_mul, h4.sv.1]
          refine ⟨by omega, fun h => by omega, fun _ => ⟨fun hb => ih (v + 1) X4 (by omega) sc4 e4 h4 n4 (fun w hw hwS => ?_), fun hb => Q9_canBe h4 n4 (by omega) (fun z5 X5 sc5 f5 h5 n5 hz5 => cK1_mk ⟨fun q5 => ih (v + 1) X5 (by omega) (sc4.trans sc5) (by rw [f5 0 (by omega)]; exact e4) h5 n5 (fun w hw hwS => ?_), fun q5 => ?_⟩)⟩⟩
          · by_cases e : w = v
            · subst e; exact absurd hwS hb
            · exact hI w (by omega) hwS
          · by_cases e : w = v
            · subst e; exact hz5.mp (z11 q5)
            · exact hI w (by omega) hwS
          · have k' := kk X5 (sc4.trans sc5) (by rw [f5 0 (by omega)]; exact e4) h5
            rw [cif_n (fun y => q5 (by rw [hz5.mpr (y v (Classical.not_not.mp hb))]; decide))] at k'
            exact k'
      exact H _ 0 X2 (Nat.zero_add _) sc2 (by rw [f2 0 (by omega)]) h2 n2 (fun w hw => by omega)
    · rw [cif_y (hz3.mp (z11 q3))] at kk
      exact kk X2 sc2 (by rw [f2 0 (by omega)]) h2
  · unfold chkQ at kk
    rw [cif_y (hz.mp (z11 q))] at kk
    exact kk X2 sc2 (by rw [f2 0 (by omega)]) h2
end Check9
