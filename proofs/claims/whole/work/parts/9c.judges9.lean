/-! judge, by the reference: the count -/
section Jdgs9
variable {CM : HX → St → Prop} {X X' : HX} {Y Y' : HY} {s : St} {Q : Qt} {r : Ly}
theorem X9_judge_s {q : Int32} (h : Mw CM X Y s) (k : ∀ X' Y' res, ScM X X' Y Y' → Mw CM X' Y' s → ansM cd1 (aJudge s q) (X' 0 0) res → Q res (LX9 ++ r) X' Y') : tX9_judge [.ref 0, .int q] (LX9 ++ r) X Y Q := by
  have g9 := h.si.1
  have sc : ∀ v, ScM X (up2 X 0 0 v) Y Y := fun v => .up (by decide)
  have kk := fun v res => k _ _ res (sc v) (h.sc (sc v))
  have le3 : q ≤ nI 3 ↔ ¬ nI 3 < q := by rw [Int32.le_iff_toInt_le, Int32.lt_iff_toInt_lt]; omega
  apply tX9_judge_i
  refine Q9_in (by omega) (by omega) (fun z hz => cK1_mk ⟨fun q1 => ?_, fun q1 => ?_⟩)
  · have hq : ¬ q < 0 ∧ q ≤ nI 3 := ⟨(hz.mp (z11 q1)).1, le3.mpr (hz.mp (z11 q1)).2⟩
    rcases i32c q with z0 | ⟨w, hw, rfl⟩
    · exact absurd z0 hq.1
    have w4 : w < 4 := by
      have := hq.2
      rw [m_le hw (by omega)] at this
      omega
    have k1 := kk (nI 0)
    unfold aJudge at k1
    rw [up2_same, cif_y hq, m_clamp hw] at k1
    have k2 := k1 _ ⟨rfl, rfl⟩
    have hv := (h.sc (sc (nI 0))).sv
    have q36 := jdL_len h.si w
    rw [up2_same]
    refine ⟨fun _ => ?_, fun y => absurd (by decide) y⟩
    clear k1
    revert k2 hv
    generalize up2 X 0 0 (nI 0) = Z
    intro k2 hv
    have H : ∀ n i u, i + n = sG s → u + ((remL (sG s) n).filter (jdF s w)).length = (jdL s w).length → hX9_judge_31 Q r (nI w) (nI u) (nI i) Z Y := by
      intro n
      induction n with
      | zero =>
        intro i u hi hL
        simp only [remL, List.filter_nil, List.length_nil, Nat.add_zero] at hL
        subst hL
        apply hX9_judge_31_i
        simp (disch := omega) only [m_0, m_L0, m_lt, m_le, m_eq, m_neg, m_in, m_clamp, m_add, m_sub, m_pred, m_mul, m_l, m_i, m_Land, m_Lor, m_and, m_or, m_xor, m_Landn, m_andn, m_LshlP, m_shl, m_LbitP, m_bit, m_cmp0P, m_Lb0, m_Lb1, m_b0, m_b1, Nat.one_mul, hv.1]
        exact ⟨by omega, fun _ => k2, fun y => by omega⟩
      | succ n ih =>
        intro i u hi hL
        have ea : sG s - (n + 1) = i := by omega
        have eb : sG s - n = i + 1 := by omega
        rw [remL, ea, eb, List.filter_append, List.length_append, ← Nat.add_assoc] at hL
        have G : ∀ m c u, c + m = sG s → i < c → u + ((rowL i c m).filter (jdF s w)).length + ((remL (sG s) n).filter (jdF s w)).length = (jdL s w).length → hX9_judge_46 Q r (nI w) (nI u) (nI i) (nI c) Z Y := by
          intro m
          induction m with
          | zero =>
            intro c u hc hic hL
            simp only [rowL, List.filter_nil, List.length_nil, Nat.add_zero] at hL
            apply hX9_judge_46_i
            simp (disch := omega) only [m_0, m_L0, m_lt, m_le, m_eq, m_neg, m_in, m_clamp, m_add, m_sub, m_pred, m_mul, m_l, m_i, m_Land, m_Lor, m_and, m_or, m_xor, m_Landn, m_andn, m_LshlP, m_shl, m_LbitP, m_bit, m_cmp0P, m_Lb0, m_Lb1, m_b0, m_b1, Nat.one_mul, hv.1]
            exact ⟨by omega, fun _ => ih (i + 1) u (by omega) hL, fun y => by omega⟩
          | succ m ihm =>
            intro c u hc hic hL
            rw [rowL] at hL
            have si := h.si.2.2.2 i (by omega)
            have sc := h.si.2.2.2 c (by omega)
            have ci : Z 1 (242 + i) = zI (sCa s i) := (hv.2.2.2 i (by omega)).1
            have cc : Z 1 (242 + c) = zI (sCa s c) := (hv.2.2.2 c (by omega)).1
            have ti := t_m1 (t := sCa s i) (by omega) (by omega)
            have tc := t_m1 (t := sCa s c) (by omega) (by omega)
            have no : ¬ (sCa s i ≠ -1 ∧ sCa s c ≠ -1 ∧ jdP s w i c) → hX9_judge_46 Q r (nI w) (nI u) (nI i) (nI (c + 1)) Z Y := fun q => by
              rw [List.filter_cons_of_neg (fun z => q (jdF_iff.mp z))] at hL
              exact ihm (c + 1) u (by omega) (by omega) hL
            have v0 : vp_in (nI 0) 262 := (m_in (by omega)).mpr (by omega)
            apply hX9_judge_46_i
            rw [m_clamp (show 0 < 2147483648 by omega), hv.1, m_le (by omega) (by omega), m_add 242 i, m_add 242 c, m_clamp (show 242 + i < 2147483648 by omega), m_clamp (show 242 + c < 2147483648 by omega), ci, cc, m_add c 1, m_add u 1]
            refine ⟨v0, fun y => by omega, fun _ => ⟨(m_in (by omega)).mpr (by omega), fun y => no (fun z => z.1 (ti.mp y)), fun q1 => ⟨(m_in (by omega)).mpr (by omega), fun y => no (fun z => z.2.1 (tc.mp y)), fun q2 => ?_⟩⟩⟩
            refine X9_judged_s hv h.si (by omega) (by omega) w4 (fun z hj => cK1_mk ⟨fun q3 => no (fun y => ?_), fun q3 => ?_⟩)
            · rw [hj.mpr y.2.2] at q3; exact absurd q3 (by decide)
            · rw [List.filter_cons_of_pos (jdF_iff.mpr ⟨fun e => q1 (ti.mpr e), fun e => q2 (tc.mpr e), hj.mp (z11 q3)⟩), List.length_cons] at hL
              exact ihm (c + 1) (u + 1) (by omega) (by omega) (by omega)
        apply hX9_judge_31_i
        simp (disch := omega) only [m_0, m_L0, m_lt, m_le, m_eq, m_neg, m_in, m_clamp, m_add, m_sub, m_pred, m_mul, m_l, m_i, m_Land, m_Lor, m_and, m_or, m_xor, m_Landn, m_andn, m_LshlP, m_shl, m_LbitP, m_bit, m_cmp0P, m_Lb0, m_Lb1, m_b0, m_b1, Nat.one_mul, hv.1]
        exact ⟨by omega, fun y => by omega, fun _ => G n (i + 1) u (by omega) (by omega) hL⟩
    exact H (sG s) 0 0 (Nat.zero_add _) (Nat.zero_add _)
  · have hq : ¬ (¬ q < 0 ∧ q ≤ nI 3) := fun e => q1 (by rw [hz.mpr ⟨e.1, le3.mp e.2⟩]; decide)
    have k1 := kk (nI 1)
    unfold aJudge at k1
    rw [up2_same, cif_n hq] at k1
    rw [up2_same]
    exact ⟨fun y => absurd y (by decide), fun _ => k1 _ ⟨rfl, _, rfl⟩⟩
end Jdgs9
