/-! all QUARRELS, and PAIRS of a state: what sum asks for -/
/-- PAIRS of a state -/
def kdF (s : St) (t : Nat) (p : Nat × Nat) : Bool := kd s (sFo s) p.1 p.2 == t
def kdL (s : St) (t : Nat) : List (Nat × Nat) := (prL (sG s)).filter (kdF s t)
section Alq
variable {CK S1 S2 : HX → St → Prop} {CM : HX → St → Prop} {X X' : HX} {Y Y' : HY} {s : St} {b : Bool} {Q : Qt} {r : Ly}
theorem X0_allq_s (hY : Y 0 2 = lN (fm s)) (hB : BV 0 X s) (hI : SI s) (k : Q (.inl (some (.int (nI (qrL s).length)))) (LX0 ++ r) X Y) : tX0_allQuarrels [.ref 0] (LX0 ++ r) X Y Q := by
  have n40 := hI.2.1
  have q16 := qrL_len hI
  apply tX0_allQuarrels_i
  have H : ∀ n i t, i + n = sN s → t + ((remL (sN s) n).filter (qrF s)).length = (qrL s).length → hX0_allQuarrels_4 Q r (nI t) (nI i) X Y := by
    intro n
    induction n with
    | zero =>
      intro i t hi hL
      simp only [remL, List.filter_nil, List.length_nil, Nat.add_zero] at hL
      subst hL
      apply hX0_allQuarrels_4_i
      simp (disch := omega) only [m_0, m_L0, m_lt, m_le, m_eq, m_neg, m_in, m_clamp, m_add, m_sub, m_pred, m_mul, m_l, m_i, m_Land, m_Lor, m_and, m_or, m_xor, m_Landn, m_andn, m_LshlP, m_shl, m_LbitP, m_bit, m_cmp0P, m_Lb0, m_Lb1, m_b0, m_b1, Nat.one_mul, hB.2.1]
      exact ⟨fun _ => k, fun y => by omega⟩
    | succ n ih =>
      intro i t hi hL
      have ea : sN s - (n + 1) = i := by omega
      have eb : sN s - n = i + 1 := by omega
      rw [remL, ea, eb, List.filter_append, List.length_append, ← Nat.add_assoc] at hL
      have G : ∀ m c t, c + m = sN s → i < c → t + ((rowL i c m).filter (qrF s)).length + ((remL (sN s) n).filter (qrF s)).length = (qrL s).length → hX0_allQuarrels_16 Q r (nI t) (nI i) (nI c) X Y := by
        intro m
        induction m with
        | zero =>
          intro c t hc hic hL
          simp only [rowL, List.filter_nil, List.length_nil, Nat.add_zero] at hL
          apply hX0_allQuarrels_16_i
          simp (disch := omega) only [m_0, m_L0, m_lt, m_le, m_eq, m_neg, m_in, m_clamp, m_add, m_sub, m_pred, m_mul, m_l, m_i, m_Land, m_Lor, m_and, m_or, m_xor, m_Landn, m_andn, m_LshlP, m_shl, m_LbitP, m_bit, m_cmp0P, m_Lb0, m_Lb1, m_b0, m_b1, Nat.one_mul, hB.2.1]
          exact ⟨fun _ => ih (i + 1) t (by omega) hL, fun y => by omega⟩
        | succ m ihm =>
          intro c t hc hic hL
          rw [rowL] at hL
          apply hX0_allQuarrels_16_i
          simp (disch := omega) only [m_0, m_L0, m_lt, m_le, m_eq, m_neg, m_in, m_clamp, m_add, m_sub, m_pred, m_mul, m_l, m_i, m_Land, m_Lor, m_and, m_or, m_xor, m_Landn, m_andn, m_LshlP, m_shl, m_LbitP, m_bit, m_cmp0P, m_Lb0, m_Lb1, m_b0, m_b1, Nat.one_mul, hB.2.1]
          refine ⟨fun y => by omega, fun _ => X0_qrl_s hY hB hI (by omega) (by omega) (cK1_mk ?_)⟩
          by_cases q : qrP s i c = true
          · rw [List.filter_cons_of_pos (show qrF s (i, c) = true from q), List.length_cons] at hL
            rw [q]
            exact ⟨fun y => absurd y (by decide), fun _ => ihm (c + 1) (t + 1) (by omega) (by omega) (by omega)⟩
          · rw [List.filter_cons_of_neg (show ¬ qrF s (i, c) = true from q)] at hL
            rw [show qrP s i c = false by rw [Bool.eq_false_iff]; exact q]
            exact ⟨fun _ => ihm (c + 1) t (by omega) (by omega) hL, fun y => absurd rfl y⟩
      apply hX0_allQuarrels_4_i
      simp (disch := omega) only [m_0, m_L0, m_lt, m_le, m_eq, m_neg, m_in, m_clamp, m_add, m_sub, m_pred, m_mul, m_l, m_i, m_Land, m_Lor, m_and, m_or, m_xor, m_Landn, m_andn, m_LshlP, m_shl, m_LbitP, m_bit, m_cmp0P, m_Lb0, m_Lb1, m_b0, m_b1, Nat.one_mul, hB.2.1]
      exact ⟨fun y => by omega, fun _ => G n (i + 1) t (by omega) (by omega) hL⟩
  exact H (sN s) 0 0 (Nat.zero_add _) (Nat.zero_add _)
theorem X9_inall_s (hV : SV X s) (hI : SI s) (k : Q (.inl (some (.int (nI (qrL s).length)))) (LX9 ++ r) X Y) : tX9_quarrelsInAll [.ref 0] (LX9 ++ r) X Y Q := by
  have n40 := hI.2.1
  have q16 := qrL_len hI
  apply tX9_quarrelsInAll_i
  have H : ∀ n i t, i + n = sN s → t + ((remL (sN s) n).filter (qrF s)).length = (qrL s).length → hX9_quarrelsInAll_4 Q r (nI t) (nI i) X Y := by
    intro n
    induction n with
    | zero =>
      intro i t hi hL
      simp only [remL, List.filter_nil, List.length_nil, Nat.add_zero] at hL
      subst hL
      apply hX9_quarrelsInAll_4_i
      simp (disch := omega) only [m_0, m_L0, m_lt, m_le, m_eq, m_neg, m_in, m_clamp, m_add, m_sub, m_pred, m_mul, m_l, m_i, m_Land, m_Lor, m_and, m_or, m_xor, m_Landn, m_andn, m_LshlP, m_shl, m_LbitP, m_bit, m_cmp0P, m_Lb0, m_Lb1, m_b0, m_b1, Nat.one_mul, hV.2.1]
      exact ⟨by omega, fun _ => k, fun y => by omega⟩
    | succ n ih =>
      intro i t hi hL
      have ea : sN s - (n + 1) = i := by omega
      have eb : sN s - n = i + 1 := by omega
      rw [remL, ea, eb, List.filter_append, List.length_append, ← Nat.add_assoc] at hL
      have G : ∀ m c t, c + m = sN s → i < c → t + ((rowL i c m).filter (qrF s)).length + ((remL (sN s) n).filter (qrF s)).length = (qrL s).length → hX9_quarrelsInAll_18 Q r (nI t) (nI i) (nI c) X Y := by
        intro m
        induction m with
        | zero =>
          intro c t hc hic hL
          simp only [rowL, List.filter_nil, List.length_nil, Nat.add_zero] at hL
          apply hX9_quarrelsInAll_18_i
          simp (disch := omega) only [m_0, m_L0, m_lt, m_le, m_eq, m_neg, m_in, m_clamp, m_add, m_sub, m_pred, m_mul, m_l, m_i, m_Land, m_Lor, m_and, m_or, m_xor, m_Landn, m_andn, m_LshlP, m_shl, m_LbitP, m_bit, m_cmp0P, m_Lb0, m_Lb1, m_b0, m_b1, Nat.one_mul, hV.2.1]
          exact ⟨by omega, fun _ => ih (i + 1) t (by omega) hL, fun y => by omega⟩
        | succ m ihm =>
          intro c t hc hic hL
          rw [rowL] at hL
          apply hX9_quarrelsInAll_18_i
          simp (disch := omega) only [m_0, m_L0, m_lt, m_le, m_eq, m_neg, m_in, m_clamp, m_add, m_sub, m_pred, m_mul, m_l, m_i, m_Land, m_Lor, m_and, m_or, m_xor, m_Landn, m_andn, m_LshlP, m_shl, m_LbitP, m_bit, m_cmp0P, m_Lb0, m_Lb1, m_b0, m_b1, Nat.one_mul, hV.2.1]
          refine ⟨by omega, fun y => by omega, fun _ => X9_qrl_s hV hI (by omega) (by omega) (cK1_mk ?_)⟩
          by_cases q : qrP s i c = true
          · rw [List.filter_cons_of_pos (show qrF s (i, c) = true from q), List.length_cons] at hL
            rw [q]
            exact ⟨fun y => absurd y (by decide), fun _ => ihm (c + 1) (t + 1) (by omega) (by omega) (by omega)⟩
          · rw [List.filter_cons_of_neg (show ¬ qrF s (i, c) = true from q)] at hL
            rw [show qrP s i c = false by rw [Bool.eq_false_iff]; exact q]
            exact ⟨fun _ => ihm (c + 1) t (by omega) (by omega) hL, fun y => absurd rfl y⟩
      apply hX9_quarrelsInAll_4_i
      simp (disch := omega) only [m_0, m_L0, m_lt, m_le, m_eq, m_neg, m_in, m_clamp, m_add, m_sub, m_pred, m_mul, m_l, m_i, m_Land, m_Lor, m_and, m_or, m_xor, m_Landn, m_andn, m_LshlP, m_shl, m_LbitP, m_bit, m_cmp0P, m_Lb0, m_Lb1, m_b0, m_b1, Nat.one_mul, hV.2.1]
      exact ⟨by omega, fun y => by omega, fun _ => G n (i + 1) t (by omega) (by omega) hL⟩
  exact H (sN s) 0 0 (Nat.zero_add _) (Nat.zero_add _)
end Alq
