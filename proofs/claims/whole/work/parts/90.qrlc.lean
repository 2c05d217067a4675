/-! QUARRELS of a GUEST counted, and all of them -/
section Qrlc
variable {CK S1 S2 : HX → St → Prop} {CM : HX → St → Prop} {X X' : HX} {Y Y' : HY} {s : St} {b : Bool} {Q : Qt} {r : Ly}
theorem toB_iff {g i c : Nat} (hI : SI s) (hi : i < sN s) (hc : c < sN s) (hg : g < 9) : toB s g (i, c) = true ↔ zI (sTe s i) = nI g ∨ zI (sTe s c) = nI g := by
  have g9 := hI.1
  have h1 := hI.2.2.1 i hi
  have h2 := hI.2.2.1 c hc
  rw [t_eq (by omega) (by omega) (by omega), t_eq (by omega) (by omega) (by omega)]
  unfold toB
  rw [Bool.or_eq_true, decide_eq_true_eq, decide_eq_true_eq]
theorem X8_quarrels_s {p : Int32} (h : Qw CK S1 S2 X Y s) (k : ∀ X' Y', Kp b X X' Y Y' → Qw CK S1 S2 X' Y' s → Q (aQuarrels s p) (LX8 b) X' Y') : tX8_quarrels b [.ref 0, .int p] (LX8 b) X Y Q := by
  have n40 := h.si.2.1
  have g9 := h.si.1
  have q16 := qrL_len h.si
  apply tX8_quarrels_i
  refine Q8_guest h (fun hg => cK0_mk ?_) (fun hg => cK0_ex ?_)
  · obtain ⟨g, hg', rfl⟩ := isG_c hg
    have tot : ((qrL s).filter (toB s g)).length ≤ (qrL s).length := List.length_filter_le _ _
    have H : ∀ n i Z W (t : Nat), i + n = sN s → Kp b X Z Y W → Qw CK S1 S2 Z W s → t + (((remL (sN s) n).filter (qrF s)).filter (toB s g)).length = ((qrL s).filter (toB s g)).length → hX8_quarrels_9 Q b (nI g) (nI t) (nI i) Z W := by
      intro n
      induction n with
      | zero =>
        intro i Z W t hi kp hz hL
        simp only [remL, List.filter_nil, List.length_nil, Nat.add_zero] at hL
        subst hL
        apply hX8_quarrels_9_i
        simp (disch := omega) only [m_0, m_L0, m_lt, m_le, m_eq, m_neg, m_in, m_clamp, m_add, m_sub, m_pred, m_mul, m_l, m_i, m_Land, m_Lor, m_and, m_or, m_xor, m_Landn, m_andn, m_LshlP, m_shl, m_LbitP, m_bit, m_cmp0P, m_Lb0, m_Lb1, m_b0, m_b1, Nat.one_mul, hz.bv.2.1]
        refine ⟨fun _ => ?_, fun y => by omega⟩
        have k' := k Z W kp hz
        unfold aQuarrels at k'
        rw [cif_y hg, m_clamp (by omega)] at k'
        exact k'
      | succ n ih =>
        intro i Z W t hi kp hz hL
        have ea : sN s - (n + 1) = i := by omega
        have eb : sN s - n = i + 1 := by omega
        rw [remL, ea, eb, List.filter_append, List.filter_append, List.length_append, ← Nat.add_assoc] at hL
        have G : ∀ m c Z W (t : Nat), c + m = sN s → i < c → Kp b X Z Y W → Qw CK S1 S2 Z W s → t + (((rowL i c m).filter (qrF s)).filter (toB s g)).length + (((remL (sN s) n).filter (qrF s)).filter (toB s g)).length = ((qrL s).filter (toB s g)).length → hX8_quarrels_25 Q b (nI g) (nI t) (nI i) (nI c) Z W := by
          intro m
          induction m with
          | zero =>
            intro c Z W t hc hic kp hz hL
            simp only [rowL, List.filter_nil, List.length_nil, Nat.add_zero] at hL
            apply hX8_quarrels_25_i
            simp (disch := omega) only [m_0, m_L0, m_lt, m_le, m_eq, m_neg, m_in, m_clamp, m_add, m_sub, m_pred, m_mul, m_l, m_i, m_Land, m_Lor, m_and, m_or, m_xor, m_Landn, m_andn, m_LshlP, m_shl, m_LbitP, m_bit, m_cmp0P, m_Lb0, m_Lb1, m_b0, m_b1, Nat.one_mul, hz.bv.2.1]
            exact ⟨fun _ => ih (i + 1) Z W t (by omega) kp hz hL, fun y => by omega⟩
          | succ m ihm =>
            intro c Z W t hc hic kp hz hL
            have bi := hz.bv.2.2.1 i (by omega)
            have bc := hz.bv.2.2.1 c (by omega)
            have ti := toB_iff (g := g) h.si (show i < sN s by omega) (show c < sN s by omega) (by omega)
            rw [rowL] at hL
            have no : ¬ (qrP s i c = true ∧ toB s g (i, c) = true) → ∀ Z W, Kp b X Z Y W → Qw CK S1 S2 Z W s → hX8_quarrels_25 Q b (nI g) (nI t) (nI i) (nI (c + 1)) Z W := fun q Z W kp hz => by
              refine ihm (c + 1) Z W t (by omega) (by omega) kp hz ?_
              by_cases q1 : qrP s i c = true
              · rw [List.filter_cons_of_pos (show qrF s (i, c) = true from q1), List.filter_cons_of_neg (fun q2 => q ⟨q1, q2⟩)] at hL
                exact hL
              · rw [List.filter_cons_of_neg (show ¬ qrF s (i, c) = true from q1)] at hL
                exact hL
            have yes : qrP s i c = true → toB s g (i, c) = true → t < 2147483647 ∧ ∀ Z W, Kp b X Z Y W → Qw CK S1 S2 Z W s → hX8_quarrels_25 Q b (nI g) (nI (t + 1)) (nI i) (nI (c + 1)) Z W := fun q1 q2 => by
              rw [List.filter_cons_of_pos (show qrF s (i, c) = true from q1), List.filter_cons_of_pos q2, List.length_cons] at hL
              exact ⟨by omega, fun Z W kp hz => ihm (c + 1) Z W (t + 1) (by omega) (by omega) kp hz (by omega)⟩
            have ask : toB s g (i, c) = true → ∀ Z W, Kp b X Z Y W → Qw CK S1 S2 Z W s → (fun (x : Int32) (X2 : HX) (Y2 : HY) => (x = 0 → hX8_quarrels_25 Q b (nI g) (nI t) (nI i) (nI (c + 1)) X2 Y2) ∧ (¬ (x = 0) → hX8_quarrels_25 Q b (nI g) (nI (t + 1)) (nI i) (nI (c + 1)) X2 Y2)) (nI (qrP s i c).toNat) Z W := fun hb Z W kp hz => by
              by_cases q : qrP s i c = true
              · rw [q]
                exact ⟨fun y => absurd y (by decide), fun _ => (yes q hb).2 Z W kp hz⟩
              · rw [show qrP s i c = false by rw [Bool.eq_false_iff]; exact q]
                exact ⟨fun _ => no (fun z => q z.1) Z W kp hz, fun y => absurd rfl y⟩
            apply hX8_quarrels_25_i
            rw [show (9 : Nat) + 4 = 13 from rfl] at bi bc
            simp (disch := omega) only [m_0, m_L0, m_lt, m_le, m_eq, m_neg, m_in, m_clamp, m_add, m_sub, m_pred, m_mul, m_l, m_i, m_Land, m_Lor, m_and, m_or, m_xor, m_Landn, m_andn, m_LshlP, m_shl, m_LbitP, m_bit, m_cmp0P, m_Lb0, m_Lb1, m_b0, m_b1, Nat.one_mul, hz.bv.2.1, bi.2.2.2.1, bc.2.2.2.1]
            refine ⟨fun y => by omega, fun _ => ⟨by omega, fun q => ⟨fun y => (by first | exact absurd trivial y | exact absurd rfl y | exact absurd y (by omega) | exact absurd (by omega) y | exact absurd y (by decide) | exact absurd (by decide) y), fun _ => Q8_qrl hz (by omega) (by omega) (fun Z' W' kp' hz' => ask (ti.mpr (Or.inl q)) Z' W' (kp.trans kp') hz')⟩, fun q => ⟨by omega, fun q2 => ⟨fun _ => no (fun z => (ti.mp z.2).elim q q2) Z W kp hz, fun y => (by first | exact absurd trivial y | exact absurd rfl y | exact absurd y (by omega) | exact absurd (by omega) y | exact absurd y (by decide) | exact absurd (by decide) y)⟩, fun q2 => ⟨fun y => (by first | exact absurd trivial y | exact absurd rfl y | exact absurd y (by omega) | exact absurd (by omega) y | exact absurd y (by decide) | exact absurd (by decide) y), fun _ => Q8_qrl hz (by omega) (by omega) (fun Z' W' kp' hz' => ask (ti.mpr (Or.inr (Classical.not_not.mp q2))) Z' W' (kp.trans kp') hz')⟩⟩⟩⟩
        apply hX8_quarrels_9_i
        simp (disch := omega) only [m_0, m_L0, m_lt, m_le, m_eq, m_neg, m_in, m_clamp, m_add, m_sub, m_pred, m_mul, m_l, m_i, m_Land, m_Lor, m_and, m_or, m_xor, m_Landn, m_andn, m_LshlP, m_shl, m_LbitP, m_bit, m_cmp0P, m_Lb0, m_Lb1, m_b0, m_b1, Nat.one_mul, hz.bv.2.1]
        exact ⟨fun y => by omega, fun _ => G n (i + 1) Z W t (by omega) (by omega) kp hz hL⟩
    exact H (sN s) 0 X Y 0 (Nat.zero_add _) Kp.rfl h (Nat.zero_add _)
  · have k' := k _ _ Kp.rfl h
    unfold aQuarrels at k'
    rw [cif_n hg] at k'
    exact k'
theorem X9_quarrels_s {p : Int32} (h : Mw CM X Y s) (k : ∀ X' Y' res, ScM X X' Y Y' → Mw CM X' Y' s → ansM cd1 (aQuarrels s p) (X' 0 0) res → Q res (LX9 ++ r) X' Y') : tX9_quarrels [.ref 0, .int p] (LX9 ++ r) X Y Q := by
  have n40 := h.si.2.1
  have g9 := h.si.1
  have q16 := qrL_len h.si
  have sc : ∀ v, ScM X (up2 X 0 0 v) Y Y := fun v => .up (by decide)
  apply tX9_quarrels_i
  refine Q9_guest h (fun z hz => cK1_mk ⟨fun q => ?_, fun q => ?_⟩)
  · have hg := hz.mp (z11 q)
    obtain ⟨g, hg', rfl⟩ := isG_c hg
    have tot : ((qrL s).filter (toB s g)).length ≤ (qrL s).length := List.length_filter_le _ _
    have kk := fun res => k _ _ res (sc (nI 0)) (h.sc (sc (nI 0)))
    have h0 := h.sc (sc (nI 0))
    unfold aQuarrels at kk
    rw [up2_same, cif_y hg, m_clamp (by omega)] at kk
    rw [up2_same]
    refine ⟨fun _ => ?_, fun y => absurd (by decide) y⟩
    revert kk h0
    generalize up2 X 0 0 (nI 0) = Z
    intro kk h0
    have H : ∀ n i (t : Nat), i + n = sN s → t + (((remL (sN s) n).filter (qrF s)).filter (toB s g)).length = ((qrL s).filter (toB s g)).length → hX9_quarrels_30 Q r (nI g) (nI t) (nI i) Z Y := by
      intro n
      induction n with
      | zero =>
        intro i t hi hL
        simp only [remL, List.filter_nil, List.length_nil, Nat.add_zero] at hL
        subst hL
        apply hX9_quarrels_30_i
        simp (disch := omega) only [m_0, m_L0, m_lt, m_le, m_eq, m_neg, m_in, m_clamp, m_add, m_sub, m_pred, m_mul, m_l, m_i, m_Land, m_Lor, m_and, m_or, m_xor, m_Landn, m_andn, m_LshlP, m_shl, m_LbitP, m_bit, m_cmp0P, m_Lb0, m_Lb1, m_b0, m_b1, Nat.one_mul, h0.sv.2.1]
        exact ⟨by omega, fun _ => kk _ ⟨rfl, rfl⟩, fun y => by omega⟩
      | succ n ih =>
        intro i t hi hL
        have ea : sN s - (n + 1) = i := by omega
        have eb : sN s - n = i + 1 := by omega
        rw [remL, ea, eb, List.filter_append, List.filter_append, List.length_append, ← Nat.add_assoc] at hL
        have G : ∀ m c (t : Nat), c + m = sN s → i < c → t + (((rowL i c m).filter (qrF s)).filter (toB s g)).length + (((remL (sN s) n).filter (qrF s)).filter (toB s g)).length = ((qrL s).filter (toB s g)).length → hX9_quarrels_45 Q r (nI g) (nI t) (nI i) (nI c) Z Y := by
          intro m
          induction m with
          | zero =>
            intro c t hc hic hL
            simp only [rowL, List.filter_nil, List.length_nil, Nat.add_zero] at hL
            apply hX9_quarrels_45_i
            simp (disch := omega) only [m_0, m_L0, m_lt, m_le, m_eq, m_neg, m_in, m_clamp, m_add, m_sub, m_pred, m_mul, m_l, m_i, m_Land, m_Lor, m_and, m_or, m_xor, m_Landn, m_andn, m_LshlP, m_shl, m_LbitP, m_bit, m_cmp0P, m_Lb0, m_Lb1, m_b0, m_b1, Nat.one_mul, h0.sv.2.1]
            exact ⟨by omega, fun _ => ih (i + 1) t (by omega) hL, fun y => by omega⟩
          | succ m ihm =>
            intro c t hc hic hL
            have bi := h0.sv.2.2.1 i (by omega)
            have bc := h0.sv.2.2.1 c (by omega)
            have ti := toB_iff (g := g) h.si (show i < sN s by omega) (show c < sN s by omega) (by omega)
            rw [rowL] at hL
            have no : ¬ (qrP s i c = true ∧ toB s g (i, c) = true) → hX9_quarrels_45 Q r (nI g) (nI t) (nI i) (nI (c + 1)) Z Y := fun q => by
              refine ihm (c + 1) t (by omega) (by omega) ?_
              by_cases q1 : qrP s i c = true
              · rw [List.filter_cons_of_pos (show qrF s (i, c) = true from q1), List.filter_cons_of_neg (fun q2 => q ⟨q1, q2⟩)] at hL
                exact hL
              · rw [List.filter_cons_of_neg (show ¬ qrF s (i, c) = true from q1)] at hL
                exact hL
            have yes : qrP s i c = true → toB s g (i, c) = true → hX9_quarrels_45 Q r (nI g) (nI (t + 1)) (nI i) (nI (c + 1)) Z Y := fun q1 q2 => by
              rw [List.filter_cons_of_pos (show qrF s (i, c) = true from q1), List.filter_cons_of_pos q2, List.length_cons] at hL
              exact ihm (c + 1) (t + 1) (by omega) (by omega) (by omega)
            apply hX9_quarrels_45_i
            simp (disch := omega) only [m_0, m_L0, m_lt, m_le, m_eq, m_neg, m_in, m_clamp, m_add, m_sub, m_pred, m_mul, m_l, m_i, m_Land, m_Lor, m_and, m_or, m_xor, m_Landn, m_andn, m_LshlP, m_shl, m_LbitP, m_bit, m_cmp0P, m_Lb0, m_Lb1, m_b0, m_b1, Nat.one_mul, h0.sv.2.1]
            refine ⟨by omega, fun y => by omega, fun _ => X9_qrl_s h0.sv h0.si (by omega) (by omega) (cK1_mk ?_)⟩
            by_cases q : qrP s i c = true
            · rw [q]
              refine ⟨fun y => absurd y (by decide), fun _ => X9_of_s (by omega) (by omega) (cK1_mk ?_)⟩
              rw [bi.2.2.2.1]
              refine ⟨fun q2 => yes q (ti.mpr (Or.inl q2)), fun q2 => X9_of_s (by omega) (by omega) (cK1_mk ?_)⟩
              rw [bc.2.2.2.1]
              exact ⟨fun q3 => no (fun z => (ti.mp z.2).elim q2 q3), fun q3 => yes q (ti.mpr (Or.inr (Classical.not_not.mp q3)))⟩
            · rw [show qrP s i c = false by rw [Bool.eq_false_iff]; exact q]
              exact ⟨fun _ => no (fun z => q z.1), fun y => absurd rfl y⟩
        apply hX9_quarrels_30_i
        simp (disch := omega) only [m_0, m_L0, m_lt, m_le, m_eq, m_neg, m_in, m_clamp, m_add, m_sub, m_pred, m_mul, m_l, m_i, m_Land, m_Lor, m_and, m_or, m_xor, m_Landn, m_andn, m_LshlP, m_shl, m_LbitP, m_bit, m_cmp0P, m_Lb0, m_Lb1, m_b0, m_b1, Nat.one_mul, h0.sv.2.1]
        exact ⟨by omega, fun y => by omega, fun _ => G n (i + 1) t (by omega) (by omega) hL⟩
    exact H (sN s) 0 0 (Nat.zero_add _) (Nat.zero_add _)
  · have hg : ¬ isG s p := fun y => q (by rw [hz.mpr y]; decide)
    rw [up2_same]
    refine ⟨fun y => absurd y (by decide), fun _ => k _ _ _ (sc _) (h.sc (sc _)) ?_⟩
    unfold aQuarrels
    rw [cif_n hg]
    exact ⟨up2_same, _, rfl⟩
end Qrlc
