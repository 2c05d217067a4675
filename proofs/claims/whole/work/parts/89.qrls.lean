/-! QUARRELS counted -/
theorem rowL_len {a : Nat} : ∀ n b, (rowL a b n).length = n
  | 0, _ => rfl
  | n + 1, b => by simp only [rowL, List.length_cons, rowL_len n]
theorem remL_len {g : Nat} : ∀ n, (remL g n).length ≤ n * n
  | 0 => by simp [remL]
  | n + 1 => by
    have ih := remL_len (g := g) n
    simp only [remL, List.length_append, rowL_len]
    have : (n + 1) * (n + 1) = n * n + n + n + 1 := by rw [Nat.succ_mul, Nat.mul_succ]; omega
    omega
theorem qrL_len {s : St} (hI : SI s) : (qrL s).length ≤ 1600 := by
  have h1 : (qrL s).length ≤ (prL (sN s)).length := List.length_filter_le _ _
  have h2 := remL_len (g := sN s) (sN s)
  have h3 : sN s * sN s ≤ 40 * 40 := Nat.mul_le_mul hI.2.1 hI.2.1
  have h4 : (prL (sN s)).length = (remL (sN s) (sN s)).length := rfl
  omega
theorem t_eq {t : Int} {g : Nat} (h1 : -1 ≤ t) (h2 : t < 10) (hg : g < 10) : zI t = nI g ↔ t = g := by
  rw [← m_zI, m_zeq (by omega) (by omega)]
section Qrls
variable {CK S1 S2 : HX → St → Prop} {CM : HX → St → Prop} {X X' : HX} {Y Y' : HY} {s : St} {b : Bool} {Q : Qt} {r : Ly}
theorem aQuarrel_y {pre rest : List (Nat × Nat)} {i c : Nat} (h : pre ++ (i, c) :: rest = qrL s) (hl : pre.length < 2147483648) : aQuarrel s (nI pre.length) = rI (nI (40 * i + c)) := by
  unfold aQuarrel
  rw [m_clamp hl, cif_y (And.intro (fun z => by rw [m_0, m_lt hl (by omega)] at z; omega) (by rw [← h, List.length_append, List.length_cons]; omega)), ← h]
  have : (pre ++ (i, c) :: rest).getD pre.length (0, 0) = (i, c) := by
    rw [List.getD_eq_getElem?_getD, List.getElem?_append_right (Nat.le_refl _), Nat.sub_self]
    rfl
  rw [this]
theorem aQuarrel_n {p : Int32} (h : ∀ t, t < (qrL s).length → p ≠ nI t) : aQuarrel s p = rI (-1) := by
  unfold aQuarrel
  rw [cif_n (fun q => ?_)]
  rcases i32c p with z | ⟨g, hg, rfl⟩
  · exact q.1 z
  · have := q.2
    rw [m_clamp hg] at this
    exact h g this rfl
theorem Q8_qrl {i c : Nat} {F : Int32 → HX → HY → Prop} (h : Qw CK S1 S2 X Y s) (hi : i < sN s) (hc : c < sN s) (k : ∀ X' Y', Kp b X X' Y Y' → Qw CK S1 S2 X' Y' s → F (nI (qrP s i c).toNat) X' Y') : tX0_isQuarrel [.ref 0, .int (nI i), .int (nI c)] (LX0 ++ []) (sb [9, 10, 11, 12, 13, 14, 15, 16] X) (sb [9, 10, 11, 12, 13, 14, 15, 16] Y) (cS1 (LX0 ++ []) (LX8 b) [9, 10, 11, 12, 13, 14, 15, 16] (LX8 b).length X Y Q F) := by
  have e := Eq8.mg (b := b) (X := X) (Y := Y) [9, 10, 11, 12, 13, 14, 15, 16]
  have q3 := h.2.2.2.1
  have hq3 : sb [9, 10, 11, 12, 13, 14, 15, 16] Y 0 2 = lN (fm s) := q3
  have hb : BV 0 (sb [9, 10, 11, 12, 13, 14, 15, 16] X) s := h.bv
  exact X0_qrl_s (r := []) hq3 hb h.si hi hc (cS1_mk (k _ _ e.kp (h.scr e.scr)))
theorem X8_quarrel_s {p : Int32} (h : Qw CK S1 S2 X Y s) (k : ∀ X' Y', Kp b X X' Y Y' → Qw CK S1 S2 X' Y' s → Q (aQuarrel s p) (LX8 b) X' Y') : tX8_quarrel b [.ref 0, .int p] (LX8 b) X Y Q := by
  have n40 := h.si.2.1
  have q16 := qrL_len h.si
  apply tX8_quarrel_i
  have H : ∀ n i Z W (pre : List (Nat × Nat)), i + n = sN s → Kp b X Z Y W → Qw CK S1 S2 Z W s → pre ++ (remL (sN s) n).filter (qrF s) = qrL s → (∀ t, t < pre.length → p ≠ nI t) → hX8_quarrel_4 Q b p (nI pre.length) (nI i) Z W := by
    intro n
    induction n with
    | zero =>
      intro i Z W pre hi kp hz hL hp
      simp only [remL, List.filter_nil, List.append_nil] at hL
      subst hL
      apply hX8_quarrel_4_i
      simp (disch := omega) only [m_0, m_L0, m_lt, m_le, m_eq, m_neg, m_in, m_clamp, m_add, m_sub, m_pred, m_mul, m_l, m_i, m_Land, m_Lor, m_and, m_or, m_xor, m_Landn, m_andn, m_LshlP, m_shl, m_LbitP, m_bit, m_cmp0P, m_Lb0, m_Lb1, m_b0, m_b1, Nat.one_mul, hz.bv.2.1]
      exact ⟨fun _ => by have := k Z W kp hz; rw [aQuarrel_n hp] at this; exact this, fun y => by omega⟩
    | succ n ih =>
      intro i Z W pre hi kp hz hL hp
      have ea : sN s - (n + 1) = i := by omega
      have eb : sN s - n = i + 1 := by omega
      rw [remL, ea, eb, List.filter_append, ← List.append_assoc] at hL
      have G : ∀ m c Z W (pre : List (Nat × Nat)), c + m = sN s → i < c → Kp b X Z Y W → Qw CK S1 S2 Z W s → pre ++ (rowL i c m).filter (qrF s) ++ (remL (sN s) n).filter (qrF s) = qrL s → (∀ t, t < pre.length → p ≠ nI t) → hX8_quarrel_20 Q b p (nI pre.length) (nI i) (nI c) Z W := by
        intro m
        induction m with
        | zero =>
          intro c Z W pre hc hic kp hz hL hp
          simp only [rowL, List.filter_nil, List.append_nil] at hL
          apply hX8_quarrel_20_i
          simp (disch := omega) only [m_0, m_L0, m_lt, m_le, m_eq, m_neg, m_in, m_clamp, m_add, m_sub, m_pred, m_mul, m_l, m_i, m_Land, m_Lor, m_and, m_or, m_xor, m_Landn, m_andn, m_LshlP, m_shl, m_LbitP, m_bit, m_cmp0P, m_Lb0, m_Lb1, m_b0, m_b1, Nat.one_mul, hz.bv.2.1]
          exact ⟨fun _ => ih (i + 1) Z W pre (by omega) kp hz hL hp, fun y => by omega⟩
        | succ m ihm =>
          intro c Z W pre hc hic kp hz hL hp
          have pl : pre.length ≤ 1600 := by rw [← hL, List.length_append, List.length_append] at q16; omega
          apply hX8_quarrel_20_i
          simp (disch := omega) only [m_0, m_L0, m_lt, m_le, m_eq, m_neg, m_in, m_clamp, m_add, m_sub, m_pred, m_mul, m_l, m_i, m_Land, m_Lor, m_and, m_or, m_xor, m_Landn, m_andn, m_LshlP, m_shl, m_LbitP, m_bit, m_cmp0P, m_Lb0, m_Lb1, m_b0, m_b1, Nat.one_mul, hz.bv.2.1]
          refine ⟨fun y => by omega, fun _ => Q8_qrl hz (by omega) (by omega) (fun Z' W' kp' hz' => ?_)⟩
          rw [rowL] at hL
          by_cases q : qrP s i c = true
          · rw [List.filter_cons_of_pos (show qrF s (i, c) = true from q)] at hL
            rw [q]
            refine ⟨fun y => absurd y (by decide), fun _ => ⟨fun ne => ?_, fun eq => ?_⟩⟩
            · have h9 := ihm (c + 1) Z' W' (pre ++ [(i, c)]) (by omega) (by omega) (kp.trans kp') hz' (by rw [List.append_assoc pre]; exact hL) (fun t ht e => ?_)
              · rw [List.length_append] at h9; exact h9
              · rw [List.length_append] at ht
                simp only [List.length_cons, List.length_nil] at ht
                by_cases et : t = pre.length
                · exact ne (by rw [e, et])
                · exact hp t (by omega) e
            · have eq := Classical.not_not.mp eq
              have k' := k _ _ (kp.trans kp') hz'
              rw [List.append_assoc, List.cons_append] at hL
              rw [← eq, aQuarrel_y hL (by omega)] at k'
              exact k'
          · rw [List.filter_cons_of_neg (show ¬ qrF s (i, c) = true from q)] at hL
            rw [show qrP s i c = false by rw [Bool.eq_false_iff]; exact q]
            exact ⟨fun _ => ihm (c + 1) Z' W' pre (by omega) (by omega) (kp.trans kp') hz' hL hp, fun y => absurd rfl y⟩
      apply hX8_quarrel_4_i
      simp (disch := omega) only [m_0, m_L0, m_lt, m_le, m_eq, m_neg, m_in, m_clamp, m_add, m_sub, m_pred, m_mul, m_l, m_i, m_Land, m_Lor, m_and, m_or, m_xor, m_Landn, m_andn, m_LshlP, m_shl, m_LbitP, m_bit, m_cmp0P, m_Lb0, m_Lb1, m_b0, m_b1, Nat.one_mul, hz.bv.2.1]
      exact ⟨fun y => by omega, fun _ => G n (i + 1) Z W pre (by omega) (by omega) kp hz hL hp⟩
  exact H (sN s) 0 X Y [] (Nat.zero_add _) Kp.rfl h (by rw [List.nil_append]; rfl) (fun t ht => by simp at ht)
theorem X9_quarrel_s {p : Int32} (h : Mw CM X Y s) (k : ∀ X' Y' res, ScM X X' Y Y' → Mw CM X' Y' s → ansM cd1 (aQuarrel s p) (X' 0 0) res → Q res (LX9 ++ r) X' Y') : tX9_quarrel [.ref 0, .int p] (LX9 ++ r) X Y Q := by
  have n40 := h.si.2.1
  have q16 := qrL_len h.si
  have s0 : ScM X (up2 X 0 0 (nI 0)) Y Y := .up (by decide)
  have h0 := h.sc s0
  have kk := fun res => k _ _ res s0 h0
  rw [up2_same] at kk
  apply tX9_quarrel_i
  revert kk h0
  generalize up2 X 0 0 (nI 0) = Z
  intro h0 kk
  have H : ∀ n i (pre : List (Nat × Nat)), i + n = sN s → pre ++ (remL (sN s) n).filter (qrF s) = qrL s → (∀ t, t < pre.length → p ≠ nI t) → hX9_quarrel_9 Q r p (nI pre.length) (nI i) Z Y := by
    intro n
    induction n with
    | zero =>
      intro i pre hi hL hp
      simp only [remL, List.filter_nil, List.append_nil] at hL
      subst hL
      apply hX9_quarrel_9_i
      simp (disch := omega) only [m_0, m_L0, m_lt, m_le, m_eq, m_neg, m_in, m_clamp, m_add, m_sub, m_pred, m_mul, m_l, m_i, m_Land, m_Lor, m_and, m_or, m_xor, m_Landn, m_andn, m_LshlP, m_shl, m_LbitP, m_bit, m_cmp0P, m_Lb0, m_Lb1, m_b0, m_b1, Nat.one_mul, h0.sv.2.1]
      rw [aQuarrel_n hp] at kk
      exact ⟨by omega, fun _ => kk _ ⟨rfl, rfl⟩, fun y => by omega⟩
    | succ n ih =>
      intro i pre hi hL hp
      have ea : sN s - (n + 1) = i := by omega
      have eb : sN s - n = i + 1 := by omega
      rw [remL, ea, eb, List.filter_append, ← List.append_assoc] at hL
      have G : ∀ m c (pre : List (Nat × Nat)), c + m = sN s → i < c → pre ++ (rowL i c m).filter (qrF s) ++ (remL (sN s) n).filter (qrF s) = qrL s → (∀ t, t < pre.length → p ≠ nI t) → hX9_quarrel_24 Q r p (nI pre.length) (nI i) (nI c) Z Y := by
        intro m
        induction m with
        | zero =>
          intro c pre hc hic hL hp
          simp only [rowL, List.filter_nil, List.append_nil] at hL
          apply hX9_quarrel_24_i
          simp (disch := omega) only [m_0, m_L0, m_lt, m_le, m_eq, m_neg, m_in, m_clamp, m_add, m_sub, m_pred, m_mul, m_l, m_i, m_Land, m_Lor, m_and, m_or, m_xor, m_Landn, m_andn, m_LshlP, m_shl, m_LbitP, m_bit, m_cmp0P, m_Lb0, m_Lb1, m_b0, m_b1, Nat.one_mul, h0.sv.2.1]
          exact ⟨by omega, fun _ => ih (i + 1) pre (by omega) hL hp, fun y => by omega⟩
        | succ m ihm =>
          intro c pre hc hic hL hp
          have pl : pre.length ≤ 1600 := by rw [← hL, List.length_append, List.length_append] at q16; omega
          apply hX9_quarrel_24_i
          simp (disch := omega) only [m_0, m_L0, m_lt, m_le, m_eq, m_neg, m_in, m_clamp, m_add, m_sub, m_pred, m_mul, m_l, m_i, m_Land, m_Lor, m_and, m_or, m_xor, m_Landn, m_andn, m_LshlP, m_shl, m_LbitP, m_bit, m_cmp0P, m_Lb0, m_Lb1, m_b0, m_b1, Nat.one_mul, h0.sv.2.1]
          refine ⟨by omega, fun y => by omega, fun _ => X9_qrl_s h0.sv h0.si (by omega) (by omega) (cK1_mk ?_)⟩
          rw [rowL] at hL
          by_cases q : qrP s i c = true
          · rw [List.filter_cons_of_pos (show qrF s (i, c) = true from q)] at hL
            rw [q]
            refine ⟨fun _ => ⟨fun ne => ?_, fun eq => ?_⟩, fun y => absurd (by decide) y⟩
            · have h9 := ihm (c + 1) (pre ++ [(i, c)]) (by omega) (by omega) (by rw [List.append_assoc pre]; exact hL) (fun t ht e => ?_)
              · rw [List.length_append] at h9; exact h9
              · rw [List.length_append] at ht
                simp only [List.length_cons, List.length_nil] at ht
                by_cases et : t = pre.length
                · exact ne (by rw [e, et])
                · exact hp t (by omega) e
            · have eq := Classical.not_not.mp eq
              rw [List.append_assoc, List.cons_append] at hL
              rw [← eq, aQuarrel_y hL (by omega)] at kk
              exact kk _ ⟨rfl, rfl⟩
          · rw [List.filter_cons_of_neg (show ¬ qrF s (i, c) = true from q)] at hL
            rw [show qrP s i c = false by rw [Bool.eq_false_iff]; exact q]
            exact ⟨fun y => absurd rfl y, fun _ => ihm (c + 1) pre (by omega) (by omega) hL hp⟩
      apply hX9_quarrel_9_i
      simp (disch := omega) only [m_0, m_L0, m_lt, m_le, m_eq, m_neg, m_in, m_clamp, m_add, m_sub, m_pred, m_mul, m_l, m_i, m_Land, m_Lor, m_and, m_or, m_xor, m_Landn, m_andn, m_LshlP, m_shl, m_LbitP, m_bit, m_cmp0P, m_Lb0, m_Lb1, m_b0, m_b1, Nat.one_mul, h0.sv.2.1]
      exact ⟨by omega, fun y => by omega, fun _ => G n (i + 1) pre (by omega) (by omega) hL hp⟩
  exact H (sN s) 0 [] (Nat.zero_add _) (by rw [List.nil_append]; rfl) (fun t ht => by simp at ht)
end Qrls
