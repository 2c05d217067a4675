/-! orders told, by the reference -/
theorem PrV.add {X : HX} {n a c : Nat} {L : List (Nat × Nat)} (h : PrV X n L) (hl : L.length < 40) (ha : a < n) (hc : c < n) : PrV (up2 (up2 (up2 X 14 L.length (nI a)) 15 L.length (nI c)) 0 24 (nI (L.length + 1))) n (L ++ [(a, c)]) := by
  refine ⟨by rw [List.length_append]; simp only [List.length_cons, List.length_nil]; omega, by rw [up2_same, List.length_append]; rfl, fun k p hp => ?_⟩
  rw [up2_row (show (14 : Nat) ≠ 0 by omega), up2_row (show (15 : Nat) ≠ 0 by omega), up2_row (show (14 : Nat) ≠ 15 by omega)]
  by_cases q : k < L.length
  · rw [List.getElem?_append_left q] at hp
    rw [up2_idx (by omega), up2_idx (by omega), up2_row (show (15 : Nat) ≠ 14 by omega)]
    exact h.2.2 k p hp
  · have e : k = L.length := by
      have h1 := (List.getElem?_eq_some_iff.mp hp).1
      rw [List.length_append] at h1
      simp only [List.length_cons, List.length_nil] at h1
      omega
    subst e
    rw [List.getElem?_append_right (Nat.le_refl _), Nat.sub_self] at hp
    cases hp
    exact ⟨up2_same, up2_same, ha, hc⟩
/-- MOMENTS and what was told -/
def ObM (X : HX) (s : St) : Prop := MV X (sm s) (so s) ∧ RwV X (sG s) (rwF (Ms s) (sG s)) ∧ PrV X (sG s) (ahL s) ∧ TrV X (sG s) none
noncomputable def wyO (s : St) : Nat := cif (layQ s) (wy (sm s) (mayO s) 0) 0
section Ord9
variable {CM : HX → St → Prop} {X X' : HX} {Y Y' : HY} {s : St} {r : Ly} {Q : Qt}
theorem Q9_obeys (h : Mw CM X Y s) (k : ∀ X' Y', ScM X X' Y Y' → X' 0 0 = X 0 0 → Mw CM X' Y' s → NV X' (Ms s) → (layQ s → ObM X' s ∧ WyV Y' (sm s) (mayO s)) → Q (.inl (some (.long (lN (wyO s))))) (LX9 ++ r) X' Y') : tX9_obeys [.ref 0] (LX9 ++ r) X Y Q := by
  have g9 := h.si.1
  have n40 := h.si.2.1
  apply tX9_obeys_i
  refine Q9_canP h (fun z X1 sc1 e1 h1 n1 hz => cK1_mk ⟨fun q => ?_, fun q => ?_⟩)
  · have hl := hz.mp (z11 q)
    have h9 := lay_9 h.si hl
    refine Q9_moms h1 n1 (fun X2 sc2 e2 e7 h2 m2 => cK0_mk ?_)
    have view : ∀ Z, (∀ c, c ≠ 0 → c ≠ 14 → c ≠ 15 → Z c = X2 c) → (∀ i, i ≠ 24 → Z 0 i = X2 0 i) → ScM X2 Z Y Y ∧ Mw CM Z Y s := fun Z f1 f2 => by
      have sc : ScM X2 Z Y Y := .of (fun c hc => f1 c (fun e => by subst e; simp at hc) (fun e => by subst e; simp at hc) (fun e => by subst e; simp at hc)) (fun _ _ => Eq.refl _) (fun i hi => f2 i (fun e => by subst e; simp at hi))
      exact ⟨sc, h2.sc sc⟩
    have H : ∀ n a Z L, a + n = sG s → (∀ c, c ≠ 0 → c ≠ 14 → c ≠ 15 → Z c = X2 c) → (∀ i, i ≠ 24 → Z 0 i = X2 0 i) → PrV Z (sG s) L → L ++ (remL (sG s) n).filterMap (ahF s) = ahL s → hX9_obeys_15 Q r (nI a) Z Y := by
      intro n
      induction n with
      | zero =>
        intro a Z L ha f1 f2 pz hL
        obtain ⟨sc3, h3⟩ := view Z f1 f2
        simp only [remL, List.filterMap_nil, List.append_nil] at hL
        subst hL
        have ob : ObM Z s := by
          obtain ⟨a1, b1, -, d1⟩ := m2
          refine ⟨?_, ?_, pz, ?_⟩
          · unfold MV at a1 ⊢; rw [f2 16 (by omega), f1 9 (by omega) (by omega) (by omega)]; exact a1
          · unfold RwV at b1 ⊢; rw [f2 18 (by omega), f1 10 (by omega) (by omega) (by omega)]; exact b1
          · show Z 0 25 = -1; rw [f2 25 (by omega)]; exact d1
        apply hX9_obeys_15_i
        simp (disch := omega) only [m_0, m_L0, m_lt, m_le, m_eq, m_neg, m_in, m_clamp, m_add, m_sub, m_pred, m_mul, m_l, m_i, m_Land, m_Lor, m_and, m_or, m_xor, m_Landn, m_andn, m_LshlP, m_shl, m_LbitP, m_bit, m_cmp0P, m_Lb0, m_Lb1, m_b0, m_b1, Nat.one_mul, h3.sv.1]
        refine ⟨by omega, fun _ => ?_, fun y => by omega⟩
        refine X9_count_s ob.1.2.1 h9 ob.2.1 ob.2.2.1 ob.2.2.2 (fun Y3 g3 w3 => cK2_mk ?_)
        rw [mayN_eqO h9] at w3 ⊢
        have sc4 : ScM Z Z Y Y3 := .cellY (by decide) g3
        have k' := k Z Y3 (((sc1.trans sc2).trans sc3).trans sc4) (by rw [f2 0 (by omega), e2, e1]) (h3.sc sc4) (fun i hi => by rw [f1 7 (by omega) (by omega) (by omega), e7]; exact n1 i hi) (fun _ => ⟨ob, w3⟩)
        unfold wyO at k'
        rw [cif_y hl] at k'
        exact k'
      | succ n ih =>
        intro a Z L ha f1 f2 pz hL
        obtain ⟨sc3, h3⟩ := view Z f1 f2
        have ea : sG s - (n + 1) = a := by omega
        have eb : sG s - n = a + 1 := by omega
        rw [remL, ea, eb, List.filterMap_append, ← List.append_assoc] at hL
        have G : ∀ m c Z L, c + m = sG s → a < c → (∀ c, c ≠ 0 → c ≠ 14 → c ≠ 15 → Z c = X2 c) → (∀ i, i ≠ 24 → Z 0 i = X2 0 i) → PrV Z (sG s) L → L ++ (rowL a c m).filterMap (ahF s) ++ (remL (sG s) n).filterMap (ahF s) = ahL s → hX9_obeys_29 Q r (nI a) (nI c) Z Y := by
          intro m
          induction m with
          | zero =>
            intro c Z L hc hac f1 f2 pz hL
            obtain ⟨sc3, h3⟩ := view Z f1 f2
            simp only [rowL, List.filterMap_nil, List.append_nil] at hL
            apply hX9_obeys_29_i
            simp (disch := omega) only [m_0, m_L0, m_lt, m_le, m_eq, m_neg, m_in, m_clamp, m_add, m_sub, m_pred, m_mul, m_l, m_i, m_Land, m_Lor, m_and, m_or, m_xor, m_Landn, m_andn, m_LshlP, m_shl, m_LbitP, m_bit, m_cmp0P, m_Lb0, m_Lb1, m_b0, m_b1, Nat.one_mul, h3.sv.1]
            exact ⟨by omega, fun _ => ih (a + 1) Z L (by omega) f1 f2 pz hL, fun y => by omega⟩
          | succ m ihm =>
            intro c Z L hc hac f1 f2 pz hL
            obtain ⟨sc3, h3⟩ := view Z f1 f2
            rw [rowL] at hL
            have l36 : L.length < 40 := by
              have h1 := ahL_len h.si
              rw [← hL, List.length_append, List.length_append] at h1
              omega
            apply hX9_obeys_29_i
            simp (disch := omega) only [m_0, m_L0, m_lt, m_le, m_eq, m_neg, m_in, m_clamp, m_add, m_sub, m_pred, m_mul, m_l, m_i, m_Land, m_Lor, m_and, m_or, m_xor, m_Landn, m_andn, m_LshlP, m_shl, m_LbitP, m_bit, m_cmp0P, m_Lb0, m_Lb1, m_b0, m_b1, Nat.one_mul, h3.sv.1]
            refine ⟨by omega, fun y => by omega, fun _ => ?_⟩
            refine X9_ruler_s h.si h3.sv (by omega) (by omega) (cK1_mk ?_)
            cases hr : rul s (sFo s) a c (sN s) with
            | none =>
              have ef : ahF s (a, c) = none := by unfold ahF; simp only [hr]
              rw [List.filterMap_cons_none ef] at hL
              exact ⟨fun _ => ihm (c + 1) Z L (by omega) (by omega) f1 f2 pz hL, fun y => absurd rfl y⟩
            | some t =>
              have ht := (rul_lt hr).1
              have v := h3.sv.2.2.1 t ht
              have hs := h.si.2.2.1 t ht
              rw [oI_some]
              refine ⟨fun y => absurd y (nI_m1 (by omega)), fun _ => X9_of_s (by omega) (by omega) (cK1_mk ?_)⟩
              rw [show Z 1 (2 + 6 * t + 0) = nI (sWd s t) from v.1]
              simp (disch := omega) only [m_0, m_L0, m_lt, m_le, m_eq, m_neg, m_in, m_clamp, m_add, m_sub, m_pred, m_mul, m_l, m_i, m_Land, m_Lor, m_and, m_or, m_xor, m_Landn, m_andn, m_LshlP, m_shl, m_LbitP, m_bit, m_cmp0P, m_Lb0, m_Lb1, m_b0, m_b1, Nat.one_mul]
              refine ⟨fun y => ?_, fun y => ?_⟩
              · have ef : ahF s (a, c) = some (sFi s t, sSe s t) := by unfold ahF; simp only [hr]; rw [if_pos y]
                rw [List.filterMap_cons_some ef] at hL
                refine X9_of_s (by omega) (by omega) (cK1_mk ?_)
                simp (disch := omega) only [m_0, m_L0, m_lt, m_le, m_eq, m_neg, m_in, m_clamp, m_add, m_sub, m_pred, m_mul, m_l, m_i, m_Land, m_Lor, m_and, m_or, m_xor, m_Landn, m_andn, m_LshlP, m_shl, m_LbitP, m_bit, m_cmp0P, m_Lb0, m_Lb1, m_b0, m_b1, Nat.one_mul, v.2.1, pz.2.1]
                refine ⟨by omega, X9_of_s (by omega) (by omega) (cK1_mk ?_)⟩
                simp (disch := omega) only [m_0, m_L0, m_lt, m_le, m_eq, m_neg, m_in, m_clamp, m_add, m_sub, m_pred, m_mul, m_l, m_i, m_Land, m_Lor, m_and, m_or, m_xor, m_Landn, m_andn, m_LshlP, m_shl, m_LbitP, m_bit, m_cmp0P, m_Lb0, m_Lb1, m_b0, m_b1, Nat.one_mul, v.2.2.1, up2_out, up2_row, pz.2.1]
                refine ⟨by omega, ihm (c + 1) _ (L ++ [(sFi s t, sSe s t)]) (by omega) (by omega) ?_ ?_ (pz.add l36 (by omega) (by omega)) (by rw [List.append_assoc L]; exact hL)⟩
                · intro c' q1 q2 q3
                  rw [up2_row q1, up2_row q3, up2_row q2]
                  exact f1 c' q1 q2 q3
                · intro i q
                  rw [up2_idx q, up2_row (by omega), up2_row (by omega)]
                  exact f2 i q
              · have ef : ahF s (a, c) = none := by unfold ahF; simp only [hr]; rw [if_neg y]
                rw [List.filterMap_cons_none ef] at hL
                exact ihm (c + 1) Z L (by omega) (by omega) f1 f2 pz hL
        apply hX9_obeys_15_i
        simp (disch := omega) only [m_0, m_L0, m_lt, m_le, m_eq, m_neg, m_in, m_clamp, m_add, m_sub, m_pred, m_mul, m_l, m_i, m_Land, m_Lor, m_and, m_or, m_xor, m_Landn, m_andn, m_LshlP, m_shl, m_LbitP, m_bit, m_cmp0P, m_Lb0, m_Lb1, m_b0, m_b1, Nat.one_mul, h3.sv.1]
        exact ⟨by omega, fun y => by omega, fun _ => G n (a + 1) Z L (by omega) (by omega) f1 f2 pz hL⟩
    exact H (sG s) 0 X2 [] (Nat.zero_add _) (fun _ _ _ _ => rfl) (fun _ _ => rfl) m2.2.2.1 (by rw [List.nil_append]; rfl)
  · have hl : ¬ layQ s := fun y => q (by rw [hz.mpr y]; decide)
    have k' := k X1 Y sc1 e1 h1 n1 (fun y => absurd y hl)
    unfold wyO at k'
    rw [cif_n hl] at k'
    exact k'
theorem X9_obey_s (h : Mw CM X Y s) (k : ∀ X' Y' res, ScM X X' Y Y' → Mw CM X' Y' s → ansM cd1 (aObey s) (X' 0 0) res → Q res (LX9 ++ r) X' Y') : tX9_obey [.ref 0] (LX9 ++ r) X Y Q := by
  have s0 : ScM X (up2 X 0 0 (nI 0)) Y Y := .up (by decide)
  apply tX9_obey_i
  exact Q9_obeys (h.sc s0) (fun X1 Y1 sc1 e1 h1 n1 _ => cK2_mk (k _ _ _ (s0.trans sc1) h1 ⟨by rw [e1, up2_same], rfl⟩))
theorem wyO_bd (hI : SI s) : wyO s ≤ 387420489 := by
  unfold wyO
  by_cases hl : layQ s
  · rw [cif_y hl]; exact wy_bd9 (lay_9 hI hl) (Nat.two_pow_pos _)
  · rw [cif_n hl]; omega
theorem wyO_z : wyO s = 0 ↔ ¬ layO s := by
  unfold wyO layO
  by_cases hl : layQ s
  · rw [cif_y hl]
    exact ⟨fun e q => by omega, fun q => Classical.byContradiction fun e => q ⟨hl, by omega⟩⟩
  · rw [cif_n hl]
    exact ⟨fun _ q => hl q.1, fun _ => rfl⟩
theorem X9_must_s {p q : Int32} (h : Mw CM X Y s) (k : ∀ X' Y' res, ScM X X' Y Y' → Mw CM X' Y' s → ansM cd1 (aMust s p q) (X' 0 0) res → Q res (LX9 ++ r) X' Y') : tX9_must [.ref 0, .int p, .int q] (LX9 ++ r) X Y Q := by
  have g9 := h.si.1
  have bd := wyO_bd h.si
  have sc : ∀ v, ScM X (up2 X 0 0 v) Y Y := fun v => .up (by decide)
  have bad : ¬ (isG s p ∧ isG s q) → ∀ res, (∃ x, res = rI x) → Q res (LX9 ++ r) (up2 X 0 0 (nI 1)) Y := fun n res e => k _ _ _ (sc _) (h.sc (sc _)) (by
    unfold aMust
    rw [cif_n n]
    exact ⟨up2_same, e⟩)
  apply tX9_must_i
  refine Q9_guest h (fun z hz => cK1_mk ⟨fun q1 => ?_, fun q1 => Q9_guest h (fun y hy => cK1_mk ⟨fun q2 => ?_, fun q2 => ?_⟩)⟩)
  · simp (disch := omega) only [m_0, m_L0, m_lt, m_le, m_eq, m_neg, m_in, m_clamp, m_add, m_sub, m_pred, m_mul, m_l, m_i, m_Land, m_Lor, m_and, m_or, m_xor, m_Landn, m_andn, m_LshlP, m_shl, m_LbitP, m_bit, m_cmp0P, m_Lb0, m_Lb1, m_b0, m_b1, Nat.one_mul, up2_same]
    exact ⟨fun y => (by first | exact absurd trivial y | exact absurd rfl y | exact absurd y (by omega) | exact absurd (by omega) y | exact absurd y (by decide) | exact absurd (by decide) y), fun _ => bad (fun y => by rw [hz.mpr y.1] at q1; exact absurd q1 (by decide)) _ ⟨_, rfl⟩⟩
  · have hp := hz.mp (z11 q1)
    have hq := hy.mp (z11 q2)
    obtain ⟨u, hu, rfl⟩ := isG_c hp
    obtain ⟨v, hv, rfl⟩ := isG_c hq
    simp (disch := omega) only [m_0, m_L0, m_lt, m_le, m_eq, m_neg, m_in, m_clamp, m_add, m_sub, m_pred, m_mul, m_l, m_i, m_Land, m_Lor, m_and, m_or, m_xor, m_Landn, m_andn, m_LshlP, m_shl, m_LbitP, m_bit, m_cmp0P, m_Lb0, m_Lb1, m_b0, m_b1, Nat.one_mul, up2_same]
    refine ⟨fun _ => Q9_obeys (h.sc (sc _)) (fun X1 Y1 sc1 e1 h1 n1 ob1 => cK2_mk ?_), fun y => (by first | exact absurd trivial y | exact absurd rfl y | exact absurd y (by omega) | exact absurd (by omega) y | exact absurd y (by decide) | exact absurd (by decide) y)⟩
    have e0 : X1 0 0 = nI 0 := by rw [e1, up2_same]
    have no : ¬ (layO s ∧ nI u ≠ nI v ∧ ¬ Eo (Ms s) u v) → Q (.inl (some (.int (-1)))) (LX9 ++ r) X1 Y1 := fun n => k _ _ _ ((sc _).trans sc1) h1 (by
      unfold aMust
      rw [cif_y (And.intro hp hq), m_clamp (by omega), m_clamp (by omega), cif_n n]
      exact ⟨e0, rfl⟩)
    refine ⟨fun y => no (fun n => ?_), fun y => ⟨fun y2 => no (fun n => n.2.1 (by rw [y2])), fun y2 => X9_met_s n1 (by omega) (by omega) (fun w hw => cK1_mk ⟨fun y3 => ?_, fun y3 => no (fun n => n.2.2 (hw.mp (z11 y3)))⟩)⟩⟩
    · rw [m_Leq (by omega) (by omega)] at y
      exact wyO_z.mp y n.1
    · have hl : layO s := Classical.byContradiction fun n => y (by rw [wyO_z.mpr n])
      have ne : ¬ Eo (Ms s) u v := fun n => by rw [hw.mpr n] at y3; exact absurd y3 (by decide)
      have y2' : nI u ≠ nI v := fun e => by first | exact y2 e | exact y2 ((m_eq (by omega) (by omega)).mp e)
      have h9 := lay_9 h.si hl.1
      obtain ⟨ob, wo⟩ := ob1 hl.1
      have l36 := ahL_len h.si
      simp (disch := omega) only [m_0, m_L0, m_lt, m_le, m_eq, m_neg, m_in, m_clamp, m_add, m_sub, m_pred, m_mul, m_l, m_i, m_Land, m_Lor, m_and, m_or, m_xor, m_Landn, m_andn, m_LshlP, m_shl, m_LbitP, m_bit, m_cmp0P, m_Lb0, m_Lb1, m_b0, m_b1, Nat.one_mul, ob.2.2.1.2.1, up2_out, up2_row]
      have pv := ob.2.2.1.add (by omega) hu hv
      revert pv
      have fz : ∀ c, c ≠ 0 → c ≠ 14 → c ≠ 15 → up2 (up2 (up2 X1 14 (ahL s).length (nI u)) 15 (ahL s).length (nI v)) 0 24 (nI ((ahL s).length + 1)) c = X1 c := fun c q1 q2 q3 => by rw [up2_row q1, up2_row q3, up2_row q2]
      have fi : ∀ i, i ≠ 24 → up2 (up2 (up2 X1 14 (ahL s).length (nI u)) 15 (ahL s).length (nI v)) 0 24 (nI ((ahL s).length + 1)) 0 i = X1 0 i := fun i q => by rw [up2_idx q, up2_row (by omega), up2_row (by omega)]
      revert fz fi
      generalize up2 (up2 (up2 X1 14 (ahL s).length (nI u)) 15 (ahL s).length (nI v)) 0 24 (nI ((ahL s).length + 1)) = Z
      intro fz fi pv
      refine ⟨by omega, by omega, ?_⟩
      have sc3 : ScM X1 Z Y1 Y1 := .of (fun c hc => fz c (fun e => by subst e; simp at hc) (fun e => by subst e; simp at hc) (fun e => by subst e; simp at hc)) (fun _ _ => Eq.refl _) (fun i hi => fi i (fun e => by subst e; simp at hi))
      have a1 := ob.1
      have b1 := ob.2.1
      have d1 := ob.2.2.2
      refine X9_count_s (m := sm s) (n := sG s) (R := rwF (Ms s) (sG s)) (t := none) (by rw [fi 16 (by omega)]; exact a1.2.1) h9 (by unfold RwV at b1 ⊢; rw [fi 18 (by omega), fz 10 (by omega) (by omega) (by omega)]; exact b1) pv (by show Z 0 25 = -1; rw [fi 25 (by omega)]; exact d1) (fun Y3 g3 w3 => cK2_mk ?_)
      have sc4 : ScM Z Z Y1 Y3 := .cellY (by decide) g3
      have kk := fun x => k Z Y3 (rI x) ((((sc _).trans sc1).trans sc3).trans sc4) ((h1.sc sc3).sc sc4)
      unfold aMust at kk
      rw [cif_y (And.intro hp hq), m_clamp (by omega), m_clamp (by omega), cif_y (And.intro hl (And.intro y2' ne)), fi 0 (by omega), e0] at kk
      have em : wyO s = wy (sm s) (mayO s) 0 := by unfold wyO; rw [cif_y hl.1]
      have le : ∀ c k, c < 2 ^ sm s → k < sm s → (mayN (rwF (Ms s) (sG s)) (sG s) (ahL s ++ [(u, v)]) none) c k → mayO s c k := fun c k _ _ q => by
        rw [mayN_more h9] at q
        exact q.1
      have same := wy_same le
      have ex := wy_ex (m := sm s) (may := mayN (rwF (Ms s) (sG s)) (sG s) (ahL s ++ [(u, v)]) none)
      have bn := wy_bd9 (may := mayN (rwF (Ms s) (sG s)) (sG s) (ahL s ++ [(u, v)]) none) h9 (Nat.two_pow_pos _)
      have mo : ∀ o, LyN (sm s) (mayN (rwF (Ms s) (sG s)) (sG s) (ahL s ++ [(u, v)]) none) (sm s) o ↔ LyN (sm s) (mayO s) (sm s) o ∧ ctA s u v o := fun o => by
        rw [mayN_more h9]; exact more_iff h.si hu hv
      have s1 : wy (sm s) (mayN (rwF (Ms s) (sG s)) (sG s) (ahL s ++ [(u, v)]) none) 0 = wyO s ↔ ∀ o, LyN (sm s) (mayO s) (sm s) o → ctA s u v o := by
        rw [em, same]
        exact ⟨fun q o ho => ((mo o).mp (q o ho)).2, fun q o ho => (mo o).mpr ⟨ho, q o ho⟩⟩
      have s2 : wy (sm s) (mayN (rwF (Ms s) (sG s)) (sG s) (ahL s ++ [(u, v)]) none) 0 = 0 ↔ ∀ o, LyN (sm s) (mayO s) (sm s) o → ¬ ctA s u v o := by
        constructor
        · intro e o ho q
          have := ex.mpr ⟨o, (mo o).mpr ⟨ho, q⟩⟩
          omega
        · intro q
          refine Classical.byContradiction fun e => ?_
          obtain ⟨o, ho⟩ := ex.mp (by omega)
          obtain ⟨o1, o2⟩ := (mo o).mp ho
          exact q o o1 o2
      revert bn s1 s2
      generalize wy (sm s) (mayN (rwF (Ms s) (sG s)) (sG s) (ahL s ++ [(u, v)]) none) 0 = w9
      intro bn s1 s2
      rw [m_Leq (by omega) (by omega), m_Leq (by omega) (by omega)]
      refine ⟨fun q3 => ?_, fun q3 => ?_⟩
      · have c1 : ¬ ∀ o, LyN (sm s) (mayO s) (sm s) o → ctA s u v o := fun q => q3 (s1.mpr q)
        rw [cif_n c1] at kk
        refine ⟨fun q4 => ?_, fun q4 => ?_⟩
        · rw [cif_n (fun q => q4 (s2.mpr q))] at kk
          exact kk _ ⟨rfl, rfl⟩
        · rw [cif_y (s2.mp (Classical.not_not.mp q4))] at kk
          exact kk _ ⟨rfl, rfl⟩
      · rw [cif_y (s1.mp (Classical.not_not.mp q3))] at kk
        exact kk _ ⟨rfl, rfl⟩
  · simp (disch := omega) only [m_0, m_L0, m_lt, m_le, m_eq, m_neg, m_in, m_clamp, m_add, m_sub, m_pred, m_mul, m_l, m_i, m_Land, m_Lor, m_and, m_or, m_xor, m_Landn, m_andn, m_LshlP, m_shl, m_LbitP, m_bit, m_cmp0P, m_Lb0, m_Lb1, m_b0, m_b1, Nat.one_mul, up2_same]
    exact ⟨fun y => (by first | exact absurd trivial y | exact absurd rfl y | exact absurd y (by omega) | exact absurd (by omega) y | exact absurd y (by decide) | exact absurd (by decide) y), fun _ => bad (fun n => by rw [hy.mpr n.2] at q2; exact absurd q2 (by decide)) _ ⟨_, rfl⟩⟩
end Ord9
