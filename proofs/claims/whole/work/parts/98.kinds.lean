/-! PAIRS of a state counted -/
section Knd
variable {CK S1 S2 : HX → St → Prop} {CM : HX → St → Prop} {X X' : HX} {Y Y' : HY} {s : St} {b : Bool} {Q : Qt} {r : Ly}
theorem kd_le (hI : SI s) (x y : Nat) : kd s (sFo s) x y ≤ 3 := by
  unfold kd
  cases hr : rul s (sFo s) x y (sN s) with
  | none => simp
  | some k0 =>
    have := (hI.2.2.1 k0 (rul_lt hr).1).1
    simp only
    split <;> omega
theorem kdL_len (hI : SI s) (t : Nat) : (kdL s t).length ≤ 36 := Nat.le_trans (List.length_filter_le _ _) (prL_len ⟨sG s, by have := hI.1; omega⟩)
theorem Q8_kd {i c : Nat} {F : Int32 → HX → HY → Prop} (h : Qw CK S1 S2 X Y s) (pk : PKo X Y s) (hi : i < 9) (hc : c < 9) (k : ∀ X' Y', Kp b X X' Y Y' → Qw CK S1 S2 X' Y' s → PKo X' Y' s → F (nI (kd s (sFo s) i c)) X' Y') : tX5_stateOf [.ref 0, .ref 4, .int (nI i), .int (nI c)] (LX5_0 ++ []) (sb [25, 26, 27, 28, 9, 10, 11, 12, 13, 14, 15, 16] X) (sb [25, 26, 27, 28, 9, 10, 11, 12, 13, 14, 15, 16] Y) (cS1 (LX5_0 ++ []) (LX8 b) [25, 26, 27, 28, 9, 10, 11, 12, 13, 14, 15, 16] (LX8 b).length X Y Q F) := by
  have e := Eq8.mg (b := b) (X := X) (Y := Y) [25, 26, 27, 28, 9, 10, 11, 12, 13, 14, 15, 16]
  have hb : BV 4 (sb [25, 26, 27, 28, 9, 10, 11, 12, 13, 14, 15, 16] X) s := h.bv
  have hr : RV 3 (sb [25, 26, 27, 28, 9, 10, 11, 12, 13, 14, 15, 16] X) s (sFo s) (sN s) := pk.1
  exact X5_stateOf_s (L' := []) h.si hb hr hi hc (cS1_mk (k _ _ e.kp (h.scr e.scr) (e.scr.pk pk)))
theorem Q8_kinds {t : Nat} (ht : t < 2147483648) (h : Qw CK S1 S2 X Y s) (k : ∀ X' Y', Kp b X X' Y Y' → Qw CK S1 S2 X' Y' s → Q (.inl (some (.int (nI (kdL s t).length)))) (LX8 b) X' Y') : tX8_pairsThatAre b [.ref 0, .int (nI t)] (LX8 b) X Y Q := by
  have g9 := h.si.1
  have q36 := kdL_len h.si t
  apply tX8_pairsThatAre_i
  refine Q8_pairs h (fun X1 Y1 kp1 h1 pk1 => cK0_mk ?_)
  have H : ∀ n i Z W u, i + n = sG s → Kp b X Z Y W → Qw CK S1 S2 Z W s → PKo Z W s → u + ((remL (sG s) n).filter (kdF s t)).length = (kdL s t).length → hX8_pairsThatAre_8 Q b (nI t) (nI u) (nI i) Z W := by
    intro n
    induction n with
    | zero =>
      intro i Z W u hi kp hz pz hL
      simp only [remL, List.filter_nil, List.length_nil, Nat.add_zero] at hL
      subst hL
      apply hX8_pairsThatAre_8_i
      simp (disch := omega) only [m_0, m_L0, m_lt, m_le, m_eq, m_neg, m_in, m_clamp, m_add, m_sub, m_pred, m_mul, m_l, m_i, m_Land, m_Lor, m_and, m_or, m_xor, m_Landn, m_andn, m_LshlP, m_shl, m_LbitP, m_bit, m_cmp0P, m_Lb0, m_Lb1, m_b0, m_b1, Nat.one_mul, hz.bv.1]
      exact ⟨fun _ => k Z W kp hz, fun y => by omega⟩
    | succ n ih =>
      intro i Z W u hi kp hz pz hL
      have ea : sG s - (n + 1) = i := by omega
      have eb : sG s - n = i + 1 := by omega
      rw [remL, ea, eb, List.filter_append, List.length_append, ← Nat.add_assoc] at hL
      have G : ∀ m c Z W u, c + m = sG s → i < c → Kp b X Z Y W → Qw CK S1 S2 Z W s → PKo Z W s → u + ((rowL i c m).filter (kdF s t)).length + ((remL (sG s) n).filter (kdF s t)).length = (kdL s t).length → hX8_pairsThatAre_24 Q b (nI t) (nI u) (nI i) (nI c) Z W := by
        intro m
        induction m with
        | zero =>
          intro c Z W u hc hic kp hz pz hL
          simp only [rowL, List.filter_nil, List.length_nil, Nat.add_zero] at hL
          apply hX8_pairsThatAre_24_i
          simp (disch := omega) only [m_0, m_L0, m_lt, m_le, m_eq, m_neg, m_in, m_clamp, m_add, m_sub, m_pred, m_mul, m_l, m_i, m_Land, m_Lor, m_and, m_or, m_xor, m_Landn, m_andn, m_LshlP, m_shl, m_LbitP, m_bit, m_cmp0P, m_Lb0, m_Lb1, m_b0, m_b1, Nat.one_mul, hz.bv.1]
          exact ⟨fun _ => ih (i + 1) Z W u (by omega) kp hz pz hL, fun y => by omega⟩
        | succ m ihm =>
          intro c Z W u hc hic kp hz pz hL
          have k3 := kd_le h.si i c
          rw [rowL] at hL
          apply hX8_pairsThatAre_24_i
          simp (disch := omega) only [m_0, m_L0, m_lt, m_le, m_eq, m_neg, m_in, m_clamp, m_add, m_sub, m_pred, m_mul, m_l, m_i, m_Land, m_Lor, m_and, m_or, m_xor, m_Landn, m_andn, m_LshlP, m_shl, m_LbitP, m_bit, m_cmp0P, m_Lb0, m_Lb1, m_b0, m_b1, Nat.one_mul, hz.bv.1]
          refine ⟨fun y => by omega, fun _ => Q8_kd hz pz (by omega) (by omega) (fun Z' W' kp' hz' pz' => ?_)⟩
          rw [m_eq (by omega) ht]
          by_cases q : kd s (sFo s) i c = t
          · rw [List.filter_cons_of_pos (show kdF s t (i, c) = true from by unfold kdF; rw [beq_iff_eq]; exact q), List.length_cons] at hL
            exact ⟨fun y => absurd q y, fun _ => ihm (c + 1) Z' W' (u + 1) (by omega) (by omega) (kp.trans kp') hz' pz' (by omega)⟩
          · rw [List.filter_cons_of_neg (show ¬ kdF s t (i, c) = true from by unfold kdF; rw [beq_iff_eq]; exact q)] at hL
            exact ⟨fun _ => ihm (c + 1) Z' W' u (by omega) (by omega) (kp.trans kp') hz' pz' hL, fun y => absurd q y⟩
      apply hX8_pairsThatAre_8_i
      simp (disch := omega) only [m_0, m_L0, m_lt, m_le, m_eq, m_neg, m_in, m_clamp, m_add, m_sub, m_pred, m_mul, m_l, m_i, m_Land, m_Lor, m_and, m_or, m_xor, m_Landn, m_andn, m_LshlP, m_shl, m_LbitP, m_bit, m_cmp0P, m_Lb0, m_Lb1, m_b0, m_b1, Nat.one_mul, hz.bv.1]
      exact ⟨fun y => by omega, fun _ => G n (i + 1) Z W u (by omega) (by omega) kp hz pz hL⟩
  exact H (sG s) 0 X1 Y1 0 (Nat.zero_add _) kp1 h1 pk1 (Nat.zero_add _)
theorem X9_kinds_s {t : Nat} (ht : t < 2147483648) (hV : SV X s) (hI : SI s) (k : Q (.inl (some (.int (nI (kdL s t).length)))) (LX9 ++ r) X Y) : tX9_ofKind [.ref 0, .int (nI t)] (LX9 ++ r) X Y Q := by
  have g9 := hI.1
  have q36 := kdL_len hI t
  apply tX9_ofKind_i
  have H : ∀ n i u, i + n = sG s → u + ((remL (sG s) n).filter (kdF s t)).length = (kdL s t).length → hX9_ofKind_4 Q r (nI t) (nI u) (nI i) X Y := by
    intro n
    induction n with
    | zero =>
      intro i u hi hL
      simp only [remL, List.filter_nil, List.length_nil, Nat.add_zero] at hL
      subst hL
      apply hX9_ofKind_4_i
      simp (disch := omega) only [m_0, m_L0, m_lt, m_le, m_eq, m_neg, m_in, m_clamp, m_add, m_sub, m_pred, m_mul, m_l, m_i, m_Land, m_Lor, m_and, m_or, m_xor, m_Landn, m_andn, m_LshlP, m_shl, m_LbitP, m_bit, m_cmp0P, m_Lb0, m_Lb1, m_b0, m_b1, Nat.one_mul, hV.1]
      exact ⟨by omega, fun _ => k, fun y => by omega⟩
    | succ n ih =>
      intro i u hi hL
      have ea : sG s - (n + 1) = i := by omega
      have eb : sG s - n = i + 1 := by omega
      rw [remL, ea, eb, List.filter_append, List.length_append, ← Nat.add_assoc] at hL
      have G : ∀ m c u, c + m = sG s → i < c → u + ((rowL i c m).filter (kdF s t)).length + ((remL (sG s) n).filter (kdF s t)).length = (kdL s t).length → hX9_ofKind_19 Q r (nI t) (nI u) (nI i) (nI c) X Y := by
        intro m
        induction m with
        | zero =>
          intro c u hc hic hL
          simp only [rowL, List.filter_nil, List.length_nil, Nat.add_zero] at hL
          apply hX9_ofKind_19_i
          simp (disch := omega) only [m_0, m_L0, m_lt, m_le, m_eq, m_neg, m_in, m_clamp, m_add, m_sub, m_pred, m_mul, m_l, m_i, m_Land, m_Lor, m_and, m_or, m_xor, m_Landn, m_andn, m_LshlP, m_shl, m_LbitP, m_bit, m_cmp0P, m_Lb0, m_Lb1, m_b0, m_b1, Nat.one_mul, hV.1]
          exact ⟨by omega, fun _ => ih (i + 1) u (by omega) hL, fun y => by omega⟩
        | succ m ihm =>
          intro c u hc hic hL
          have k3 := kd_le hI i c
          rw [rowL] at hL
          apply hX9_ofKind_19_i
          simp (disch := omega) only [m_0, m_L0, m_lt, m_le, m_eq, m_neg, m_in, m_clamp, m_add, m_sub, m_pred, m_mul, m_l, m_i, m_Land, m_Lor, m_and, m_or, m_xor, m_Landn, m_andn, m_LshlP, m_shl, m_LbitP, m_bit, m_cmp0P, m_Lb0, m_Lb1, m_b0, m_b1, Nat.one_mul, hV.1]
          refine ⟨by omega, fun y => by omega, fun _ => X9_kindOf_s hI hV (by omega) (by omega) (cK1_mk ?_)⟩
          rw [m_eq (by omega) ht]
          by_cases q : kd s (sFo s) i c = t
          · rw [List.filter_cons_of_pos (show kdF s t (i, c) = true from by unfold kdF; rw [beq_iff_eq]; exact q), List.length_cons] at hL
            exact ⟨fun y => absurd q y, fun _ => ihm (c + 1) (u + 1) (by omega) (by omega) (by omega)⟩
          · rw [List.filter_cons_of_neg (show ¬ kdF s t (i, c) = true from by unfold kdF; rw [beq_iff_eq]; exact q)] at hL
            exact ⟨fun _ => ihm (c + 1) u (by omega) (by omega) hL, fun y => absurd q y⟩
      apply hX9_ofKind_4_i
      simp (disch := omega) only [m_0, m_L0, m_lt, m_le, m_eq, m_neg, m_in, m_clamp, m_add, m_sub, m_pred, m_mul, m_l, m_i, m_Land, m_Lor, m_and, m_or, m_xor, m_Landn, m_andn, m_LshlP, m_shl, m_LbitP, m_bit, m_cmp0P, m_Lb0, m_Lb1, m_b0, m_b1, Nat.one_mul, hV.1]
      exact ⟨by omega, fun y => by omega, fun _ => G n (i + 1) u (by omega) (by omega) hL⟩
  exact H (sG s) 0 0 (Nat.zero_add _) (Nat.zero_add _)
end Knd
