/-! judge, by the class -/
noncomputable def jdF (s : St) (w : Nat) (p : Nat × Nat) : Bool := @decide (sCa s p.1 ≠ -1 ∧ sCa s p.2 ≠ -1 ∧ jdP s w p.1 p.2) (Classical.propDecidable _)
theorem jdF_iff {s : St} {w a c : Nat} : jdF s w (a, c) = true ↔ sCa s a ≠ -1 ∧ sCa s c ≠ -1 ∧ jdP s w a c := by
  unfold jdF
  exact @decide_eq_true_iff _ (Classical.propDecidable _)
noncomputable def jdL (s : St) (w : Nat) : List (Nat × Nat) := (prL (sG s)).filter (jdF s w)
noncomputable def aJudge (s : St) (q : Int32) : Rs := cif (¬ q < 0 ∧ q ≤ nI 3) (rI (nI (jdL s q.toNatClampNeg).length)) (.inr XN)
section Jdgs
variable {CK S1 S2 : HX → St → Prop} {CM : HX → St → Prop} {X X' : HX} {Y Y' : HY} {s : St} {b : Bool} {Q : Qt} {r : Ly}
theorem jdL_len (hI : SI s) (w : Nat) : (jdL s w).length ≤ 36 := Nat.le_trans (List.length_filter_le _ _) (prL_len ⟨sG s, by have := hI.1; omega⟩)
theorem t_m1 {t : Int} (h1 : -1 ≤ t) (h2 : t ≤ 99) : zI t = -1 ↔ t = -1 := by
  have e : (-1 : Int32) = zI (-1) := by decide
  rw [e, m_zeq (by omega) (by omega)]
theorem X8_judge_s {q : Int32} (h : Qw CK S1 S2 X Y s) (k : ∀ X' Y', Kp b X X' Y Y' → Qw CK S1 S2 X' Y' s → Q (aJudge s q) (LX8 b) X' Y') : tX8_judge b [.ref 0, .int q] (LX8 b) X Y Q := by
  have g9 := h.si.1
  apply tX8_judge_i
  have bad : ¬ (¬ q < 0 ∧ q ≤ nI 3) → Q (.inr XN) (LX8 b) X Y := fun n => by
    have k' := k X Y Kp.rfl h
    unfold aJudge at k'
    rw [cif_n n] at k'
    exact k'
  refine ⟨fun y => bad (fun n => n.1 y), fun y1 => ⟨fun y2 => ?_, fun y => bad (fun n => y n.2)⟩⟩
  rcases i32c q with z | ⟨w, hw, rfl⟩
  · exact absurd z y1
  have w4 : w < 4 := by
    have := y2
    rw [m_le hw (by omega)] at this
    omega
  have kk := fun X' Y' kp hx => k X' Y' kp hx
  unfold aJudge at kk
  rw [cif_y (And.intro y1 y2), m_clamp hw] at kk
  have q36 := jdL_len h.si w
  refine Q8_pairs h (fun X1 Y1 kp1 h1 pk1 => cK0_mk ?_)
  have H : ∀ n i Z W u, i + n = sG s → Kp b X Z Y W → Qw CK S1 S2 Z W s → PKo Z W s → u + ((remL (sG s) n).filter (jdF s w)).length = (jdL s w).length → hX8_judge_25 Q b (nI w) (nI u) (nI i) Z W := by
    intro n
    induction n with
    | zero =>
      intro i Z W u hi kp hz pz hL
      simp only [remL, List.filter_nil, List.length_nil, Nat.add_zero] at hL
      subst hL
      apply hX8_judge_25_i
      simp (disch := omega) only [m_0, m_L0, m_lt, m_le, m_eq, m_neg, m_in, m_clamp, m_add, m_sub, m_pred, m_mul, m_l, m_i, m_Land, m_Lor, m_and, m_or, m_xor, m_Landn, m_andn, m_LshlP, m_shl, m_LbitP, m_bit, m_cmp0P, m_Lb0, m_Lb1, m_b0, m_b1, Nat.one_mul, hz.bv.1]
      exact ⟨fun _ => kk Z W kp hz, fun y => by omega⟩
    | succ n ih =>
      intro i Z W u hi kp hz pz hL
      have ea : sG s - (n + 1) = i := by omega
      have eb : sG s - n = i + 1 := by omega
      rw [remL, ea, eb, List.filter_append, List.length_append, ← Nat.add_assoc] at hL
      have G : ∀ m c Z W u, c + m = sG s → i < c → Kp b X Z Y W → Qw CK S1 S2 Z W s → PKo Z W s → u + ((rowL i c m).filter (jdF s w)).length + ((remL (sG s) n).filter (jdF s w)).length = (jdL s w).length → hX8_judge_41 Q b (nI w) (nI u) (nI i) (nI c) Z W := by
        intro m
        induction m with
        | zero =>
          intro c Z W u hc hic kp hz pz hL
          simp only [rowL, List.filter_nil, List.length_nil, Nat.add_zero] at hL
          apply hX8_judge_41_i
          simp (disch := omega) only [m_0, m_L0, m_lt, m_le, m_eq, m_neg, m_in, m_clamp, m_add, m_sub, m_pred, m_mul, m_l, m_i, m_Land, m_Lor, m_and, m_or, m_xor, m_Landn, m_andn, m_LshlP, m_shl, m_LbitP, m_bit, m_cmp0P, m_Lb0, m_Lb1, m_b0, m_b1, Nat.one_mul, hz.bv.1]
          exact ⟨fun _ => ih (i + 1) Z W u (by omega) kp hz pz hL, fun y => by omega⟩
        | succ m ihm =>
          intro c Z W u hc hic kp hz pz hL
          rw [rowL] at hL
          have si := h.si.2.2.2 i (by omega)
          have sc := h.si.2.2.2 c (by omega)
          have ci : Z 15 i = zI (sCa s i) := (hz.bv.2.2.2 i (by omega)).1
          have cc : Z 15 c = zI (sCa s c) := (hz.bv.2.2.2 c (by omega)).1
          have ti := t_m1 (t := sCa s i) (by omega) (by omega)
          have tc := t_m1 (t := sCa s c) (by omega) (by omega)
          have no : ¬ (sCa s i ≠ -1 ∧ sCa s c ≠ -1 ∧ jdP s w i c) → ∀ Z W, Kp b X Z Y W → Qw CK S1 S2 Z W s → PKo Z W s → hX8_judge_41 Q b (nI w) (nI u) (nI i) (nI (c + 1)) Z W := fun q Z W kp hz pz => by
            rw [List.filter_cons_of_neg (fun z => q (jdF_iff.mp z))] at hL
            exact ihm (c + 1) Z W u (by omega) (by omega) kp hz pz hL
          apply hX8_judge_41_i
          rw [hz.bv.1, m_le (by omega) (by omega), m_clamp (by omega), m_clamp (by omega), ci, cc, m_add, m_add, m_add]
          refine ⟨fun y => by omega, fun _ => ⟨(m_in (by omega)).mpr (by omega), fun y => no (fun z => z.1 (ti.mp y)) Z W kp hz pz, fun q1 => ⟨(m_in (by omega)).mpr (by omega), fun y => no (fun z => z.2.1 (tc.mp y)) Z W kp hz pz, fun q2 => ?_⟩⟩⟩
          refine X8_judged_s hz pz (by omega) (by omega) w4 (fun z X' Y' hj kp' hx' px' => cK1_mk ⟨fun q3 => no (fun y => ?_) X' Y' (kp.trans kp') hx' px', fun q3 => ?_⟩)
          · rw [hj.mpr y.2.2] at q3; exact absurd q3 (by decide)
          · rw [List.filter_cons_of_pos (jdF_iff.mpr ⟨fun e => q1 (ti.mpr e), fun e => q2 (tc.mpr e), hj.mp (z11 q3)⟩), List.length_cons] at hL
            exact ihm (c + 1) X' Y' (u + 1) (by omega) (by omega) (kp.trans kp') hx' px' (by omega)
      apply hX8_judge_25_i
      simp (disch := omega) only [m_0, m_L0, m_lt, m_le, m_eq, m_neg, m_in, m_clamp, m_add, m_sub, m_pred, m_mul, m_l, m_i, m_Land, m_Lor, m_and, m_or, m_xor, m_Landn, m_andn, m_LshlP, m_shl, m_LbitP, m_bit, m_cmp0P, m_Lb0, m_Lb1, m_b0, m_b1, Nat.one_mul, hz.bv.1]
      exact ⟨fun y => by omega, fun _ => G n (i + 1) Z W u (by omega) (by omega) kp hz pz hL⟩
  exact H (sG s) 0 X1 Y1 0 (Nat.zero_add _) kp1 h1 pk1 (Nat.zero_add _)
end Jdgs
